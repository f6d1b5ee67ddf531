/-! Quotients: the class builds them. -/
theorem QW_VP {σ σ' : jxS} {M : Nat → List Nat} {q n : Nat} {l : List (Nat → Nat)} (hq : isQ q) (h : QW σ M q n l) (f : jfr VP σ σ') : QW σ' M q n l := by
  obtain ⟨h0, h1, h2, h3, h4, h5⟩ := h
  have v : ∀ (b : Nat) (j : Int), 48 ≤ b → ¬ VP b j := fun b j hb => by simp only [VP]; omega
  have q48 : 48 ≤ q := by rcases hq with h | h | h | h | h | h <;> omega
  refine ⟨by rw [f q 0 (v _ _ q48)]; exact h0, h1, h2, h3, by rw [f q 7 (v _ _ q48)]; exact h4, fun i w hw => ?_⟩
  rw [f (q + 1) _ (v _ _ (by omega)), f (q + 2) _ (v _ _ (by omega))]
  exact h5 i w hw
/-- the element of a word, and what is laid then -/
theorem ca_elem {F q n : Nat} {σ : jxS} {M : Nat → List Nat} {l : List (Nat → Nat)} {w : Nat → Nat} (hq : isQ q) (h : QW σ M q n l) (hw : okc w) (hb : beans w ≤ 15) (hF : 1000 ≤ F) : match fel M n w 0 l with
    | some f => f < l.length ∧ Quotient_elementFor F q σ (rank w) ((mrk M (rank w) &&& tst n : Nat) : Int) = some ((f : Int), σ)
    | none => if l.length = 16 then Quotient_elementFor F q σ (rank w) ((mrk M (rank w) &&& tst n : Nat) : Int) = some (-1, σ) else ∃ σ', Quotient_elementFor F q σ (rank w) ((mrk M (rank w) &&& tst n : Nat) : Int) = some ((l.length : Int), σ') ∧ jfr (fun a j => (a = q ∧ j = 7) ∨ a = q + 1 ∨ a = q + 2) σ σ' ∧ QW σ' M q n (l ++ [w]) := by
  generalize hN : l.length = N
  have h' := h
  obtain ⟨h0, h1, h2, h3, h4, h5⟩ := h'
  rw [hN] at h2 h3 h4
  obtain ⟨g, i1, i2⟩ := cef_loop (F := F) hN h hw hb l F 0 rfl (by rw [hN]; rfl) (by rw [hN]; omega)
  have i1' : Quotient_elementFor F q σ (rank w) ((mrk M (rank w) &&& tst n : Nat) : Int) = _ := i1
  cases hf : fel M n w 0 l with
  | some f =>
    rw [hf] at i1'
    exact ⟨i2 f hf, i1'⟩
  | none =>
    rw [hf] at i1'
    simp only at i1' ⊢
    rw [cef_new hq h4 (by omega) (by omega)] at i1'
    by_cases z : N = 16
    · rw [if_pos z]
      rw [if_neg (by omega)] at i1'
      exact i1'
    · rw [if_neg z]
      rw [if_pos (by omega)] at i1'
      refine ⟨_, i1', jfr_up (jfr_up (jfr_up (jfr_refl _ _) (Or.inr (Or.inl rfl))) (Or.inr (Or.inr rfl))) (Or.inl ⟨rfl, rfl⟩), ?_, ?_, ?_, ?_, ?_, ?_⟩
      · rw [jup_k (by omega), jup_o (by omega), jup_o (by omega)]; exact h0
      · intro x hx
        rcases List.mem_append.mp hx with y | y
        · exact h1 x y
        · rw [List.mem_singleton.mp y]; exact ⟨hw, hb⟩
      · rw [List.length_append, hN, List.length_singleton]; omega
      · rw [List.length_append, hN, List.length_singleton]; omega
      · rw [jup_s, List.length_append, hN, List.length_singleton]; omega
      · intro i x hx
        by_cases iN : i < N
        · rw [List.getElem?_append_left (by rw [hN]; exact iN)] at hx
          obtain ⟨a1, a2⟩ := h5 i x hx
          constructor
          · rw [jup_o (by omega), jup_o (by omega), jup_k (by omega)]; exact a1
          · rw [jup_o (by omega), jup_k (by omega), jup_o (by omega)]; exact a2
        · have iE : i = N := by
            have := (List.getElem?_eq_some_iff.mp hx).1
            rw [List.length_append, hN, List.length_singleton] at this
            omega
          subst iE
          rw [List.getElem?_append_right (by omega), hN, Nat.sub_self] at hx
          simp only [List.getElem?_cons_zero, Option.some.injEq] at hx
          subst hx
          constructor
          · rw [jup_o (by omega), jup_o (by omega), jup_s]
          · rw [jup_o (by omega), jup_s]
/-- nexts that are laid: all ahead of e and h -/
def NXC (σ : jxS) (q n : Nat) (s : qsT) (e h : Nat) : Prop := ∀ a b : Nat, (a < e ∨ (a = e ∧ b < h)) → 1 ≤ b → b ≤ n → σ (q + 3) (6 * (a : Int) + b - 1) = (s.2 a b : Int) ∧ s.2 a b < s.1.length
theorem cqb_137 {F q : Nat} {σ : jxS} {k50 : Int → Int → jxS → Option jxR} {k67 : Int → Int → Int → jxS → Option jxR} {T e h f : Int} (e0 : 0 ≤ e) (e1 : e < 16) (h1 : 1 ≤ h) (h6 : h ≤ 6) (f0 : 0 ≤ f) (f1 : f < 16) : Quotient_build_c137 F q k50 k67 T e h f σ = k67 T e (h + 1) (jup σ (q + 3) (6 * e + h - 1) f) := by
  rw [Quotient_build_c137, if_neg (by unfold jw; omega), if_pos (by omega), show e * 6 + h - 1 = 6 * e + h - 1 by omega]
theorem cqb_neg {F q fu : Nat} {σ : jxS} {k50 : Int → Int → jxS → Option jxR} {T e h n : Int} (wn : σ q 0 = n) (n6 : n ≤ 6) (n1 : 1 ≤ n) (h1 : 1 ≤ h) (h6 : h ≤ 7) : Quotient_build_c137 F q k50 (Quotient_build_c67 F q k50 (fu + 1)) T e h (-1) σ = k50 T (e + 1) (jup σ q 7 (-3)) := by
  rw [Quotient_build_c137, if_pos (by decide)]
  dsimp only
  have w0 : (jup σ q 7 (-3)) q 0 = n := by rw [jup_k (by omega)]; exact wn
  have w7 : (jup σ q 7 (-3)) q 7 = -3 := jup_s _ _ _ _
  rw [Quotient_build_c67, w0, w7]
  by_cases z : n < h + 1
  · rw [if_pos (by unfold jw; omega)]
  · rw [if_neg (by unfold jw; omega), if_neg (by decide)]
theorem getD_at {l : List (Nat → Nat)} {e : Nat} (he : e < l.length) : l[e]? = some (l.getD e (fun _ => 0)) := by
  rw [List.getElem?_eq_getElem he, List.getD_eq_getElem?_getD, List.getElem?_eq_getElem he]
  rfl
theorem fel_lt {M : Nat → List Nat} {n : Nat} {w : Nat → Nat} : ∀ (l : List (Nat → Nat)) (i f : Nat), fel M n w i l = some f → f < i + l.length := by
  intro l
  induction l with
  | nil => intro i f h; simp only [fel] at h; cases h
  | cons u l ih =>
    intro i f h
    rw [fel] at h
    by_cases z : smb M n u w = true
    · simp only [if_pos z, Option.some.injEq] at h
      subst h
      simp only [List.length_cons]
      omega
    · simp only [if_neg z] at h
      have := ih (i + 1) f h
      simp only [List.length_cons]
      omega
theorem cqb_in {F q n e : Nat} {M : Nat → List Nat} {k50 : Int → Int → jxS → Option jxR} (hM : MOK M) (hq : isQ q) (n1 : 1 ≤ n) (n6 : n ≤ 6) (he : e < 16) (hF : 5000 ≤ F) : ∀ (m fu h : Nat) (s : qsT) (σ : jxS), m + h = n + 1 → 1 ≤ h → m + 1 < fu → CV σ M → QW σ M q n s.1 → NXC σ q n s e h → e < s.1.length → match qin M n s e m h with
    | none => ∃ σ', Quotient_build_c67 F q k50 fu (tst n) e h σ = k50 (tst n) ((e : Int) + 1) σ' ∧ jfr (QP q) σ σ' ∧ CV σ' M ∧ σ' q 7 = -3 ∧ σ' q 0 = (n : Int)
    | some s' => ∃ σ', Quotient_build_c67 F q k50 fu (tst n) e h σ = k50 (tst n) ((e : Int) + 1) σ' ∧ jfr (QP q) σ σ' ∧ CV σ' M ∧ QW σ' M q n s'.1 ∧ NXC σ' q n s' (e + 1) 1 ∧ s.1.length ≤ s'.1.length := by
  have q48 : 48 ≤ q := by rcases hq with h | h | h | h | h | h <;> omega
  intro m
  induction m with
  | zero =>
    intro fu h s σ e1 e2 e3 hC hQ hX hel
    obtain ⟨fu, rfl⟩ : ∃ k, fu = k + 1 := ⟨fu - 1, by omega⟩
    have hh : h = n + 1 := by omega
    refine ⟨σ, ?_, jfr_refl _ _, hC, hQ, fun a b hab b1 b2 => hX a b (by omega) b1 b2, Nat.le_refl _⟩
    rw [Quotient_build_c67, hQ.1, if_pos (by unfold jw; omega)]
  | succ m ih =>
    intro fu h s σ e1 e2 e3 hC hQ hX hel
    obtain ⟨fu, rfl⟩ : ∃ k, fu = k + 1 := ⟨fu - 1, by omega⟩
    have h6 : h ≤ 6 := by omega
    have hn : h ≤ n := by omega
    obtain ⟨h0, h1, h2, h3, h4, h5⟩ := hQ
    have ge := getD_at hel
    obtain ⟨ow, bw⟩ := h1 _ (List.mem_of_getElem? ge)
    have ww := (h5 e _ ge).1
    have oj := okc_cad (h := h) ow e2 (by omega)
    have bj := beans_cad (s.1.getD e (fun _ => 0)) (h := h) e2 (by omega)
    have jn := po_join (F := F) hC.1 (h := h) ow (by omega) e2 (by omega)
    rw [if_pos (by omega)] at jn
    have rt := rank_top (c := cad (s.1.getD e (fun _ => 0)) h) (by omega)
    have sl : s.1.length ≤ 16 := h2
    have hd : Quotient_build_c67 F q k50 (fu + 1) (tst n) e h σ = ((Values_hasMark F σ (rank (cad (s.1.getD e (fun _ => 0)) h))).bind fun r106 => if jw r106.1 = 0 then Quotient_build_c137 F q k50 (Quotient_build_c67 F q k50 fu) (tst n) e h (-1) r106.2 else (Values_markOf F r106.2 (rank (cad (s.1.getD e (fun _ => 0)) h))).bind fun r125 => (Quotient_elementFor F q r125.2 (rank (cad (s.1.getD e (fun _ => 0)) h)) (jland r125.1 (tst n))).bind fun r130 => Quotient_build_c137 F q k50 (Quotient_build_c67 F q k50 fu) (tst n) e h r130.1 r130.2) := by
      have c1 : ¬ jw (n : Int) < jw (h : Int) := by unfold jw; omega
      have c2 : 0 < jw (s.1.length : Int) := by unfold jw; omega
      have c3 : 0 ≤ (e : Int) ∧ (e : Int) < 16 := by omega
      rw [Quotient_build_c67, h0, h4, if_neg c1, if_pos c2, if_pos c3, ww, jn, jbs]
    rw [hd, qin, qst]
    by_cases z : 15 < beans (cad (s.1.getD e (fun _ => 0)) h)
    · -- too many beans
      have hm : Values_hasMark F σ (rank (cad (s.1.getD e (fun _ => 0)) h)) = some (0, σ) := by
        have r677 : ¬ rank (cad (s.1.getD e (fun _ => 0)) h) < 677 := fun q => by have := rank_677.mp q; omega
        rw [Values_hasMark, if_neg (by unfold jw; omega), if_neg (by unfold jw; omega)]
      simp only [if_pos z]
      obtain ⟨g, rfl⟩ : ∃ k, fu = k + 1 := ⟨fu - 1, by omega⟩
      have ng := cqb_neg (F := F) (fu := g) (k50 := k50) (T := tst n) (e := e) (h := h) h0 (by omega) (by omega) (by omega) (by omega)
      refine ⟨jup σ q 7 (-3), ?_, jfr_up (jfr_refl _ _) (Or.inr (Or.inl ⟨rfl, rfl⟩)), CV_fr hC (P := fun a j => a = q ∧ j = 7) (jfr_up (jfr_refl _ _) ⟨rfl, rfl⟩) (fun a j ha => by omega), jup_s _ _ _ _, by rw [jup_k (by omega)]; exact h0⟩
      rw [hm, jbs]
      dsimp only
      rw [if_pos (show jw 0 = 0 from rfl)]
      exact ng
    · have r677 : rank (cad (s.1.getD e (fun _ => 0)) h) < 677 := rank_677.mpr (by omega)
      have hm : Values_hasMark F σ (rank (cad (s.1.getD e (fun _ => 0)) h)) = some (1, σ) := by
        rw [Values_hasMark, if_neg (by unfold jw; omega), if_pos (by unfold jw; omega)]
      simp only [if_neg z]
      obtain ⟨σ1, a1, a2, a3⟩ := ca_mark (F := F) hM hC r677 hF
      have hQ1 := QW_VP hq ⟨h0, h1, h2, h3, h4, h5⟩ a2
      have la := bl_and (a := mrk M (rank (cad (s.1.getD e (fun _ => 0)) h))) (b := tst n) (Nat.lt_of_lt_of_le (mt_lt M _ n) (by decide))
      have el := ca_elem (F := F) (w := cad (s.1.getD e (fun _ => 0)) h) hq hQ1 oj (by omega) (by omega)
      have hX1 : NXC σ1 q n s e h := fun a b hab b1 b2 => by
        rw [a2 (q + 3) _ (by simp only [VP]; omega)]
        exact hX a b hab b1 b2
      rw [hm, jbs]
      dsimp only
      rw [if_neg (show ¬ jw 1 = 0 by decide), a1, jbs]
      dsimp only
      rw [la]
      have go : ∀ (f : Nat) (σ2 : jxS) (l2 : List (Nat → Nat)), f < l2.length → jfr (QP q) σ σ2 → CV σ2 M → QW σ2 M q n l2 → s.1.length ≤ l2.length → (∀ a b : Nat, (a < e ∨ (a = e ∧ b < h)) → 1 ≤ b → b ≤ n → σ2 (q + 3) (6 * (a : Int) + b - 1) = (s.2 a b : Int)) → Quotient_elementFor F q σ1 (rank (cad (s.1.getD e (fun _ => 0)) h)) ((mrk M (rank (cad (s.1.getD e (fun _ => 0)) h)) &&& tst n : Nat) : Int) = some ((f : Int), σ2) → match qin M n (l2, fun a b => if a = e ∧ b = h then f else s.2 a b) e m (h + 1) with
          | none => ∃ σ', ((Quotient_elementFor F q σ1 (rank (cad (s.1.getD e (fun _ => 0)) h)) ((mrk M (rank (cad (s.1.getD e (fun _ => 0)) h)) &&& tst n : Nat) : Int)).bind fun r130 => Quotient_build_c137 F q k50 (Quotient_build_c67 F q k50 fu) (tst n) e h r130.1 r130.2) = k50 (tst n) ((e : Int) + 1) σ' ∧ jfr (QP q) σ σ' ∧ CV σ' M ∧ σ' q 7 = -3 ∧ σ' q 0 = (n : Int)
          | some s' => ∃ σ', ((Quotient_elementFor F q σ1 (rank (cad (s.1.getD e (fun _ => 0)) h)) ((mrk M (rank (cad (s.1.getD e (fun _ => 0)) h)) &&& tst n : Nat) : Int)).bind fun r130 => Quotient_build_c137 F q k50 (Quotient_build_c67 F q k50 fu) (tst n) e h r130.1 r130.2) = k50 (tst n) ((e : Int) + 1) σ' ∧ jfr (QP q) σ σ' ∧ CV σ' M ∧ QW σ' M q n s'.1 ∧ NXC σ' q n s' (e + 1) 1 ∧ s.1.length ≤ s'.1.length := fun f σ2 l2 fl f2 c2 w2 ll nx ee => by
        have l16 := w2.2.2.1
        have st := cqb_137 (F := F) (q := q) (σ := σ2) (k50 := k50) (k67 := Quotient_build_c67 F q k50 fu) (T := tst n) (e := e) (h := h) (f := f) (by omega) (by omega) (by omega) (by omega) (by omega) (by omega)
        have fu3 : jfr (fun a _ => a = q + 3) σ2 (jup σ2 (q + 3) (6 * (e : Int) + h - 1) f) := jfr_up (jfr_refl _ _) rfl
        have i := ih fu (h + 1) (l2, fun a b => if a = e ∧ b = h then f else s.2 a b) (jup σ2 (q + 3) (6 * (e : Int) + h - 1) f) (by omega) (by omega) (by omega) (CV_fr c2 fu3 (fun a j ha => by omega)) (by
          obtain ⟨g0, g1, g2, g3, g4, g5⟩ := w2
          exact ⟨by rw [jup_o (by omega)]; exact g0, g1, g2, g3, by rw [jup_o (by omega)]; exact g4, fun i w hw => by rw [jup_o (by omega), jup_o (by omega)]; exact g5 i w hw⟩) (fun a b hab b1 b2 => by
          by_cases y : a = e ∧ b = h
          · obtain ⟨y1, y2⟩ := y
            subst y1 y2
            simp only [and_self, if_true]
            exact ⟨jup_s _ _ _ _, fl⟩
          · have hab' : a < e ∨ (a = e ∧ b < h) := by omega
            simp only [if_neg y]
            exact ⟨by rw [jup_k (by omega)]; exact nx a b hab' b1 b2, Nat.lt_of_lt_of_le (hX a b hab' b1 b2).2 ll⟩) (by show e < l2.length; omega)
        have f3 : jfr (QP q) σ (jup σ2 (q + 3) (6 * (e : Int) + h - 1) f) := jfr_up f2 (Or.inr (Or.inr (Or.inr (Or.inr rfl))))
        have hh : ((h + 1 : Nat) : Int) = (h : Int) + 1 := by omega
        rw [ee, jbs]
        dsimp only
        rw [st, ← hh]
        cases hqi : qin M n (l2, fun a b => if a = e ∧ b = h then f else s.2 a b) e m (h + 1) with
        | none =>
          rw [hqi] at i
          obtain ⟨σ', b1, b2, b3, b4, b5⟩ := i
          exact ⟨σ', b1, jfr_trans f3 b2, b3, b4, b5⟩
        | some s' =>
          rw [hqi] at i
          obtain ⟨σ', b1, b2, b3, b4, b5, b6⟩ := i
          exact ⟨σ', b1, jfr_trans f3 b2, b3, b4, b5, Nat.le_trans ll b6⟩
      cases hf : fel M n (cad (s.1.getD e (fun _ => 0)) h) 0 s.1 with
      | some f =>
        rw [hf] at el
        exact go f σ1 s.1 el.1 (jfr_mono a2 (fun a j h => Or.inl h)) a3 hQ1 (Nat.le_refl _) (fun a b hab b1 b2 => (hX1 a b hab b1 b2).1) el.2
      | none =>
        rw [hf] at el
        simp only at el ⊢
        by_cases z16 : s.1.length = 16
        · rw [if_pos z16] at el
          simp only [if_pos z16]
          obtain ⟨g, rfl⟩ : ∃ k, fu = k + 1 := ⟨fu - 1, by omega⟩
          have ng := cqb_neg (F := F) (fu := g) (k50 := k50) (T := tst n) (e := e) (h := h) hQ1.1 (by omega) (by omega) (by omega) (by omega)
          refine ⟨jup σ1 q 7 (-3), ?_, jfr_up (jfr_mono a2 (fun a j h => Or.inl h)) (Or.inr (Or.inl ⟨rfl, rfl⟩)), CV_fr a3 (P := fun a j => a = q ∧ j = 7) (jfr_up (jfr_refl _ _) ⟨rfl, rfl⟩) (fun a j ha => by omega), jup_s _ _ _ _, by rw [jup_k (by omega)]; exact hQ1.1⟩
          rw [el, jbs]
          exact ng
        · rw [if_neg z16] at el
          simp only [if_neg z16]
          obtain ⟨σ2, b1, b2, b3⟩ := el
          refine go s.1.length σ2 (s.1 ++ [cad (s.1.getD e (fun _ => 0)) h]) (by rw [List.length_append, List.length_singleton]; exact Nat.lt_succ_self _) (jfr_trans (jfr_mono a2 (fun a j h => Or.inl h)) (jfr_mono b2 (fun a j h => by rcases h with w | w | w; exact Or.inr (Or.inl w); exact Or.inr (Or.inr (Or.inl w)); exact Or.inr (Or.inr (Or.inr (Or.inl w)))))) (CV_fr a3 b2 (fun a j ha => by omega)) b3 (by rw [List.length_append]; exact Nat.le_add_right _ _) (fun a b hab w1 w2 => by rw [b2 (q + 3) _ (by omega)]; exact (hX1 a b hab w1 w2).1) b1
