/-! Quotients: the reference builds them whole. -/
def NXR (σ : jxS) (n : Nat) (s : qsT) (e h : Nat) : Prop := ∀ a b : Nat, (a < e ∨ (a = e ∧ b < h)) → 1 ≤ b → b ≤ n → σ 33 (112 * (n : Int) + 7 * a + b) = (s.2 a b : Int)
theorem RW_fr {σ σ' : jxS} {n : Nat} {l : List (Nat → Nat)} {P : Nat → Int → Prop} (h : RW σ n l) (f : jfr P σ σ') (h1 : ∀ j, ¬ P 31 j) (h2 : ∀ j, ¬ P 32 j) : RW σ' n l := by
  obtain ⟨r1, r2, r3, r4⟩ := h
  exact ⟨by rw [f 31 _ (h1 _)]; exact r1, r2, r3, fun i w hw => ⟨fun g g1 g2 => by rw [f 32 _ (h2 _)]; exact (r4 i w hw).1 g g1 g2, (r4 i w hw).2⟩⟩
theorem RK_fr {σ σ' : jxS} {M : Nat → List Nat} {n : Nat} {l : List (Nat → Nat)} {P : Nat → Int → Prop} (h : RK σ M n l) (f : jfr P σ σ') (h1 : ∀ j, ¬ P 37 j) : RK σ' M n l := fun i w hw => by rw [f 37 _ (h1 _)]; exact h i w hw
theorem rfe_in {F n e : Nat} {M : Nat → List Nat} {k40 : Int → Int → jxS → Option jxR} {σ0 : jxS} (n1 : 1 ≤ n) (n6 : n ≤ 6) (he : e < 16) (hW : WT σ0) (hV : VT σ0 M 4224) (hF : 1000 ≤ F) : ∀ (m fu h : Nat) (s : qsT) (σ : jxS), m + h = n + 1 → 1 ≤ h → m < fu → jfr (RQP n) σ0 σ → RW σ n s.1 → RK σ M n s.1 → NXR σ n s e h → e < s.1.length → match qin M n s e m h with
    | none => ∃ σ', Model_findsElements_c52 F k40 fu n e h σ = some (0, σ') ∧ jfr (RQP n) σ0 σ'
    | some s' => ∃ σ', Model_findsElements_c52 F k40 fu n e h σ = k40 n ((e : Int) + 1) σ' ∧ jfr (RQP n) σ0 σ' ∧ RW σ' n s'.1 ∧ RK σ' M n s'.1 ∧ NXR σ' n s' (e + 1) 1 := by
  have p13 : ∀ j, ¬ RQP n 13 j := fun j => by simp only [RQP]; omega
  have p14 : ∀ j, ¬ RQP n 14 j := fun j => by simp only [RQP]; omega
  intro m
  induction m with
  | zero =>
    intro fu h s σ e1 e2 e3 f hR hK hX hel
    obtain ⟨fu, rfl⟩ : ∃ k, fu = k + 1 := ⟨fu - 1, by omega⟩
    refine ⟨σ, ?_, f, hR, hK, fun a b hab b1 b2 => hX a b (by omega) b1 b2⟩
    rw [Model_findsElements_c52, if_pos (by unfold jw; omega)]
  | succ m ih =>
    intro fu h s σ e1 e2 e3 f hR hK hX hel
    obtain ⟨fu, rfl⟩ : ∃ k, fu = k + 1 := ⟨fu - 1, by omega⟩
    have hn : h ≤ n := by omega
    have h12 : h ≤ 12 := by omega
    obtain ⟨r1, r2, r3, r4⟩ := hR
    have ge := getD_at hel
    obtain ⟨ow, bw⟩ := r3 _ (List.mem_of_getElem? ge)
    obtain ⟨w1, w2⟩ := r4 e _ ge
    obtain ⟨σ1, a1, a2, a3⟩ := rk_takes (F := F) n1 n6 he w1 w2 (by omega)
    have oj := okc_cad (h := h) ow e2 h12
    have bj := beans_cad (s.1.getD e (fun _ => 0)) (h := h) e2 h12
    have wh := a3 h e2 h12
    have hd2 : Hd (jup σ1 38 h (((s.1.getD e (fun _ => 0)) h : Int) + 1)) 38 (cad (s.1.getD e (fun _ => 0)) h) := fun g g1 g2 => by
      by_cases q : g = h
      · subst q; rw [jup_s]; unfold cad; rw [if_pos rfl]; rfl
      · rw [jup_k (by omega)]; unfold cad; rw [if_neg q]; exact a3 g g1 g2
    have hz : ∀ g, n < g → cad (s.1.getD e (fun _ => 0)) h g = 0 := fun g hg => by
      unfold cad; rw [if_neg (by omega)]; exact w2 g hg
    have f38 : jfr (fun a _ => a = 38) σ (jup σ1 38 h (((s.1.getD e (fun _ => 0)) h : Int) + 1)) := jfr_up a2 rfl
    have f1 : jfr (RQP n) σ0 (jup σ1 38 h (((s.1.getD e (fun _ => 0)) h : Int) + 1)) := jfr_trans f (jfr_mono f38 (fun a j h => Or.inr (Or.inr (Or.inl h))))
    have bo := mo_beans (F := F) hd2 (by omega)
    have c1 : ¬ jw (n : Int) < jw (h : Int) := by unfold jw; omega
    have c2 : 0 ≤ (h : Int) ∧ (h : Int) < 13 := by omega
    have st : Model_findsElements_c52 F k40 (fu + 1) n e h σ = if 15 < jw (beans (cad (s.1.getD e (fun _ => 0)) h) : Int) then some (0, jup σ1 38 h (((s.1.getD e (fun _ => 0)) h : Int) + 1)) else (Model_markOf F (jup σ1 38 h (((s.1.getD e (fun _ => 0)) h : Int) + 1)) n).bind fun r91 => (Model_elementBy F r91.2 n r91.1).bind fun r94 => if jw r94.1 < 0 then some (0, r94.2) else (Model_placeOf F r94.2 n e h).bind fun r113 => if 0 ≤ r113.1 ∧ r113.1 < 784 then (Model_findsElements_c52 F k40 fu) n e ((h : Int) + 1) (jup r113.2 33 r113.1 r94.1) else none := by
      rw [Model_findsElements_c52, if_neg c1, a1, jbs]
      dsimp only
      rw [if_pos c2, if_pos c2, wh, bo, jbs]
    rw [st, qin, qst]
    by_cases z : 15 < beans (cad (s.1.getD e (fun _ => 0)) h)
    · simp only [if_pos z]
      exact ⟨_, by rw [if_pos (by unfold jw; omega)], f1⟩
    · simp only [if_neg z]
      have z' : ¬ 15 < jw (beans (cad (s.1.getD e (fun _ => 0)) h) : Int) := by unfold jw; omega
      rw [if_neg z']
      obtain ⟨σ2, b1, b2⟩ := rk_mark (F := F) (n := n) (M := M) n6 n1 (WT_fr hW f1 p13 p14) (VT_fr hV f1 (fun a j q1 q2 => by simp only [RQP]; omega)) hd2 (by omega) hF
      have f2 : jfr (RQP n) σ0 σ2 := jfr_trans f1 (jfr_mono b2 (fun a j h => Or.inl h))
      have fs2 : jfr (fun a _ => a = 38 ∨ a = 29) σ σ2 := jfr_trans (jfr_mono f38 (fun a j h => Or.inl h)) (jfr_mono b2 (fun a j h => Or.inr h))
      have hR2 : RW σ2 n s.1 := RW_fr ⟨r1, r2, r3, r4⟩ fs2 (fun j => by omega) (fun j => by omega)
      have hK2 : RK σ2 M n s.1 := RK_fr hK fs2 (fun j => by omega)
      have hX2 : ∀ a b : Nat, (a < e ∨ (a = e ∧ b < h)) → 1 ≤ b → b ≤ n → σ2 33 (112 * (n : Int) + 7 * a + b) = (s.2 a b : Int) := fun a b hab q1 q2 => by rw [fs2 33 _ (by omega)]; exact hX a b hab q1 q2
      have el := rk_elem (F := F) (w := cad (s.1.getD e (fun _ => 0)) h) n1 n6 hR2 hK2 (Hd_fr hd2 b2 (by simp [RMQ])) oj (by omega) hz (by omega)
      rw [b1, jbs]
      dsimp only
      have go : ∀ (x : Nat) (σ3 : jxS) (l3 : List (Nat → Nat)), x < 16 → jfr (RQP n) σ0 σ3 → RW σ3 n l3 → RK σ3 M n l3 → s.1.length ≤ l3.length → (∀ j, σ3 33 j = σ2 33 j) → Model_elementBy F σ2 n (rmkF M n (cad (s.1.getD e (fun _ => 0)) h)) = some ((x : Int), σ3) → match qin M n (l3, fun a b => if a = e ∧ b = h then x else s.2 a b) e m (h + 1) with
          | none => ∃ σ', ((Model_elementBy F σ2 n (rmkF M n (cad (s.1.getD e (fun _ => 0)) h))).bind fun r94 => if jw r94.1 < 0 then some (0, r94.2) else (Model_placeOf F r94.2 n e h).bind fun r113 => if 0 ≤ r113.1 ∧ r113.1 < 784 then (Model_findsElements_c52 F k40 fu) n e ((h : Int) + 1) (jup r113.2 33 r113.1 r94.1) else none) = some (0, σ') ∧ jfr (RQP n) σ0 σ'
          | some s' => ∃ σ', ((Model_elementBy F σ2 n (rmkF M n (cad (s.1.getD e (fun _ => 0)) h))).bind fun r94 => if jw r94.1 < 0 then some (0, r94.2) else (Model_placeOf F r94.2 n e h).bind fun r113 => if 0 ≤ r113.1 ∧ r113.1 < 784 then (Model_findsElements_c52 F k40 fu) n e ((h : Int) + 1) (jup r113.2 33 r113.1 r94.1) else none) = k40 n ((e : Int) + 1) σ' ∧ jfr (RQP n) σ0 σ' ∧ RW σ' n s'.1 ∧ RK σ' M n s'.1 ∧ NXR σ' n s' (e + 1) 1 := fun x σ3 l3 x16 f3 w3 k3 ll n33 ee => by
        have fu3 : jfr (fun a _ => a = 33) σ3 (jup σ3 33 (112 * (n : Int) + 7 * e + h) x) := jfr_up (jfr_refl _ _) rfl
        have i := ih fu (h + 1) (l3, fun a b => if a = e ∧ b = h then x else s.2 a b) (jup σ3 33 (112 * (n : Int) + 7 * e + h) x) (by omega) (by omega) (by omega) (jfr_up f3 (Or.inr (Or.inr (Or.inr (Or.inr ⟨Or.inr rfl, by omega, by omega⟩))))) (RW_fr w3 fu3 (fun j => by omega) (fun j => by omega)) (RK_fr k3 fu3 (fun j => by omega)) (fun a b hab q1 q2 => by
          by_cases y : a = e ∧ b = h
          · obtain ⟨y1, y2⟩ := y
            subst y1 y2
            simp only [and_self, if_true]
            exact jup_s _ _ _ _
          · have hab' : a < e ∨ (a = e ∧ b < h) := by omega
            simp only [if_neg y]
            rw [jup_k (by omega), n33]
            exact hX2 a b hab' q1 q2) (by show e < l3.length; omega)
        have hh : ((h + 1 : Nat) : Int) = (h : Int) + 1 := by omega
        rw [ee, jbs]
        dsimp only
        rw [if_neg (by unfold jw; omega), Model_placeOf, jbs]
        dsimp only
        rw [if_pos (by omega), ← hh]
        exact i
      cases hf : fel M n (cad (s.1.getD e (fun _ => 0)) h) 0 s.1 with
      | some x =>
        rw [hf] at el
        have xl := fel_lt s.1 0 x hf
        exact go x σ2 s.1 (by omega) f2 hR2 hK2 (Nat.le_refl _) (fun _ => rfl) el
      | none =>
        rw [hf] at el
        simp only at el ⊢
        by_cases z16 : s.1.length = 16
        · rw [if_pos z16] at el
          simp only [if_pos z16]
          refine ⟨σ2, ?_, f2⟩
          rw [el, jbs]
          dsimp only
          rw [if_pos (by decide)]
        · rw [if_neg z16] at el
          simp only [if_neg z16]
          obtain ⟨σ3, d1, d2, d3, d4, d5⟩ := el
          exact go s.1.length σ3 (s.1 ++ [cad (s.1.getD e (fun _ => 0)) h]) (by omega) (jfr_trans f2 d2) d3 d4 (by rw [List.length_append]; exact Nat.le_add_right _ _) d5 d1
theorem qin_len {M : Nat → List Nat} {n e : Nat} : ∀ (m h : Nat) (s s' : qsT), qin M n s e m h = some s' → s.1.length ≤ s'.1.length := by
  intro m
  induction m with
  | zero => intro h s s' hq; simp only [qin, Option.some.injEq] at hq; rw [hq]; exact Nat.le_refl _
  | succ m ih =>
    intro h s s' hq
    rw [qin] at hq
    cases hs : qst M n s e h with
    | none => rw [hs] at hq; cases hq
    | some s1 =>
      rw [hs] at hq
      have i := ih (h + 1) s1 s' hq
      have : s.1.length ≤ s1.1.length := by
        unfold qst at hs
        split at hs
        · cases hs
        · split at hs
          · injection hs with hs; rw [← hs]; exact Nat.le_refl _
          · split at hs
            · cases hs
            · injection hs with hs; rw [← hs]; show s.1.length ≤ (s.1 ++ [_]).length; rw [List.length_append]; exact Nat.le_add_right _ _
      exact Nat.le_trans this i
theorem rfe_out {F n : Nat} {M : Nat → List Nat} {σ0 : jxS} (n1 : 1 ≤ n) (n6 : n ≤ 6) (hW : WT σ0) (hV : VT σ0 M 4224) (hF : 1000 ≤ F) : ∀ (m fu e : Nat) (s : qsT) (σ : jxS), m + e = 17 → m + 1 < fu → jfr (RQP n) σ0 σ → RW σ n s.1 → RK σ M n s.1 → NXR σ n s e 1 → match qout M n s m e with
    | none => ∃ σ', Model_findsElements_c40 F fu n e σ = some (0, σ') ∧ jfr (RQP n) σ0 σ'
    | some s' => ∃ σ', Model_findsElements_c40 F fu n e σ = some (1, σ') ∧ jfr (RQP n) σ0 σ' ∧ RW σ' n s'.1 ∧ ∀ a b : Nat, a < s'.1.length → 1 ≤ b → b ≤ n → σ' 33 (112 * (n : Int) + 7 * a + b) = (s'.2 a b : Int) := by
  intro m
  induction m with
  | zero =>
    intro fu e s σ e1 e2 f hR hK hX
    obtain ⟨fu, rfl⟩ : ∃ k, fu = k + 1 := ⟨fu - 1, by omega⟩
    have l16 := hR.2.1
    refine ⟨σ, ?_, f, hR, fun a b ha b1 b2 => hX a b (Or.inl (by omega)) b1 b2⟩
    rw [Model_findsElements_c40, if_pos (by omega), hR.1, if_neg (by unfold jw; omega)]
  | succ m ih =>
    intro fu e s σ e1 e2 f hR hK hX
    obtain ⟨fu, rfl⟩ : ∃ k, fu = k + 1 := ⟨fu - 1, by omega⟩
    have l16 := hR.2.1
    rw [qout]
    by_cases z : e < s.1.length
    · simp only [if_pos z]
      have st : Model_findsElements_c40 F (fu + 1) n e σ = Model_findsElements_c52 F (Model_findsElements_c40 F fu) F n e 1 σ := by
        rw [Model_findsElements_c40, if_pos (by omega), hR.1, if_pos (by unfold jw; omega)]
      have i := rfe_in (F := F) (k40 := Model_findsElements_c40 F fu) n1 n6 (e := e) (by omega) hW hV hF n F 1 s σ (by omega) (by omega) (by omega) f hR hK hX z
      have ee : ((e + 1 : Nat) : Int) = (e : Int) + 1 := by omega
      rw [st]
      cases hi : qin M n s e n 1 with
      | none =>
        rw [hi] at i
        exact i
      | some s1 =>
        rw [hi] at i
        obtain ⟨σ1, a1, a2, a3, a4, a5⟩ := i
        have j := ih fu (e + 1) s1 σ1 (by omega) (by omega) a2 a3 a4 a5
        have a1' : Model_findsElements_c52 F (Model_findsElements_c40 F fu) F n e 1 σ = _ := a1
        rw [a1', ← ee]
        exact j
    · simp only [if_neg z]
      refine ⟨σ, ?_, f, hR, fun a b ha b1 b2 => hX a b (Or.inl (by omega)) b1 b2⟩
      rw [Model_findsElements_c40, if_pos (by omega), hR.1, if_neg (by unfold jw; omega)]
theorem rfe_zero {F n : Nat} (_ : 1 ≤ n) : ∀ (m fu : Nat) (h : Int) (σ : jxS), m + h = 13 → 0 ≤ h → m < fu → (∀ j : Int, 0 ≤ j → j < h → σ 38 j = 0) → ∃ σ', Model_findsElements_c9 F fu n h σ = ((Model_markOf F σ' n).bind fun r32 => (Model_addsElement F r32.2 n r32.1).bind fun r35 => Model_findsElements_c40 F F n 0 r35.2) ∧ jfr (fun a _ => a = 38) σ σ' ∧ ∀ j : Int, 0 ≤ j → j < 13 → σ' 38 j = 0 := by
  intro m
  induction m with
  | zero =>
    intro fu h σ e1 e2 e3 hg
    obtain ⟨fu, rfl⟩ : ∃ k, fu = k + 1 := ⟨fu - 1, by omega⟩
    refine ⟨σ, ?_, jfr_refl _ _, fun j a b => hg j a (by omega)⟩
    rw [Model_findsElements_c9, if_neg (by unfold jw; omega)]
  | succ m ih =>
    intro fu h σ e1 e2 e3 hg
    obtain ⟨fu, rfl⟩ : ∃ k, fu = k + 1 := ⟨fu - 1, by omega⟩
    obtain ⟨σ', i1, i2, i3⟩ := ih fu (h + 1) (jup σ 38 h 0) (by omega) (by omega) (by omega) (fun j a b => by
      by_cases q : j = h
      · rw [q, jup_s]
      · rw [jup_k q]; exact hg j a (by omega))
    refine ⟨σ', ?_, jfr_trans (jfr_up (jfr_refl _ _) rfl) i2, i3⟩
    rw [Model_findsElements_c9, if_pos (by unfold jw; omega), if_pos (by omega)]
    exact i1
theorem rk_finds {F n : Nat} {M : Nat → List Nat} {σ : jxS} (n1 : 1 ≤ n) (n6 : n ≤ 6) (hW : WT σ) (hV : VT σ M 4224) (hF : 1000 ≤ F) : match qbd M n with
    | none => ∃ σ', Model_findsElements F σ n = some (0, σ') ∧ jfr (RQP n) σ σ'
    | some s => ∃ σ', Model_findsElements F σ n = some (1, σ') ∧ jfr (RQP n) σ σ' ∧ RW σ' n s.1 ∧ ∀ a b : Nat, a < s.1.length → 1 ≤ b → b ≤ n → σ' 33 (112 * (n : Int) + 7 * a + b) = (s.2 a b : Int) := by
  have p13 : ∀ j, ¬ RQP n 13 j := fun j => by simp only [RQP]; omega
  have p14 : ∀ j, ¬ RQP n 14 j := fun j => by simp only [RQP]; omega
  obtain ⟨σ1, a1, a2, a3⟩ := rfe_zero (F := F) n1 13 F 0 (jup σ 31 n 0) (by omega) (by omega) (by omega) (fun j a b => by omega)
  have f1 : jfr (RQP n) σ σ1 := jfr_trans (jfr_up (jfr_refl _ _) (Or.inr (Or.inr (Or.inr (Or.inl ⟨rfl, rfl⟩))))) (jfr_mono a2 (fun a j h => Or.inr (Or.inr (Or.inl h))))
  have h0 : Hd σ1 38 (fun _ => 0) := fun g g1 g2 => a3 g (by omega) (by omega)
  have b0 : beans (fun _ => 0) = 0 := by rw [beans_eq]; decide
  obtain ⟨σ2, b1, b2⟩ := rk_mark (F := F) (n := n) (M := M) (c := fun _ => 0) n6 n1 (WT_fr hW f1 p13 p14) (VT_fr hV f1 (fun a j q1 q2 => by simp only [RQP]; omega)) h0 (by omega) hF
  have f2 : jfr (RQP n) σ σ2 := jfr_trans f1 (jfr_mono b2 (fun a j h => Or.inl h))
  have w31 : σ2 31 n = (([] : List (Nat → Nat)).length : Int) := by rw [b2 31 _ (by simp [RMQ]), a2 31 _ (by omega), jup_s]; rfl
  obtain ⟨σ3, c1, c2, c3, c4, c5, c6⟩ := rk_adds (F := F) (n := n) (w := fun _ => 0) (l := []) (M := M) (σ := σ2) n1 n6 (by decide) ⟨w31, by decide, fun w hw => by simp at hw, fun i w hw => by simp at hw⟩ (fun i w hw => by simp at hw) (Hd_fr h0 b2 (by simp [RMQ])) (fun _ _ => rfl) (by omega) (fun _ _ => rfl) (by omega)
  have o := rfe_out (F := F) (M := M) (σ0 := σ) n1 n6 hW hV hF 17 F 0 ([fun _ => 0], fun _ _ => 0) σ3 (by omega) (by omega) (jfr_trans f2 c2) c3 c4 (fun a b hab q1 q2 => by omega)
  have st : Model_findsElements F σ n = Model_findsElements_c40 F F n ((0 : Nat) : Int) σ3 := by
    rw [Model_findsElements, if_pos (by omega)]
    refine Eq.trans a1 ?_
    rw [b1, jbs]
    dsimp only
    rw [c1, jbs]
    rfl
  unfold qbd
  rw [st]
  exact o
