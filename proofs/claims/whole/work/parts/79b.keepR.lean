/-! keep, apart, simplest, count, draws, period: the reference. -/
section KR
variable {F : Nat} {σ : jxS} {M : Nat → List Nat} {c : Nat → Nat} {us : List (Nat → Nat)} {ks : Nat → Option (Nat → Nat)}
def KeR (σ : jxS) (ks : Nat → Option (Nat → Nat)) : Prop := σ 0 40 = (kbt ks : Int) ∧ ∀ (k : Nat) (u : Nat → Nat) (h : Nat), k < 3 → ks k = some u → 1 ≤ h → h ≤ 12 → σ 27 ((13 * k + h : Nat) : Int) = (u h : Int)
theorem KeR_fr {σ' : jxS} {P : Nat → Int → Prop} (h : KeR σ ks) (f : jfr P σ σ') (h0 : ¬ P 0 40) (hp : ∀ j, ¬ P 27 j) : KeR σ' ks :=
  ⟨by rw [f 0 40 h0]; exact h.1, fun k u g hk e g1 g2 => by rw [f 27 _ (hp _)]; exact h.2 k u g hk e g1 g2⟩
def KRP (a : Nat) (j : Int) : Prop := a = 27 ∨ (a = 0 ∧ j = 40)
theorem kbt_lt (ks : Nat → Option (Nat → Nat)) : kbt ks < 8 := by
  unfold kbt
  split <;> split <;> split <;> omega
theorem jor_keep : ∀ s : Nat, s < 8 → ∀ k : Nat, k < 3 → jor (s : Int) (jshl 1 (k : Int)) = ((s ||| 2 ^ k : Nat) : Int) := by decide +kernel
theorem kbt_keep {k : Nat} (hk : k < 3) : kbt (keeK c ks (k : Int)) = kbt ks ||| 2 ^ k := by
  have e0 : ∀ j : Nat, (keeK c ks (k : Int) j).isSome = (decide (j = k) || (ks j).isSome) := by
    intro j
    rw [keeK]
    by_cases q : j = k
    · rw [if_pos ⟨by omega, by omega, by omega⟩, decide_eq_true q]; rfl
    · rw [if_neg (fun r => q (by have := r.2.2; omega)), decide_eq_false q]; rfl
  unfold kbt
  rw [e0, e0, e0]
  rcases (show k = 0 ∨ k = 1 ∨ k = 2 by omega) with rfl | rfl | rfl <;> cases (ks 0).isSome <;> cases (ks 1).isSome <;> cases (ks 2).isSome <;> rfl
theorem rke_loop {k : Nat} {σ0 : jxS} (hk : k < 3) : ∀ (n fu : Nat) (j : Int) (σ : jxS), n + j = 13 → 0 ≤ j → n < fu → jfr (fun a _ => a = 27) σ0 σ → (∀ i : Int, 0 ≤ i → i < j → σ 27 (13 * (k : Int) + i) = σ0 24 i) → (∀ i : Int, (i < 13 * (k : Int) ∨ 13 * (k : Int) + 13 ≤ i) → σ 27 i = σ0 27 i) → ∃ σ', Model_keep_c23 F fu k j σ = (Model_beansOf F 24 (jup σ' 0 40 (jor (σ0 0 40) (jshl 1 (k : Int))))).bind (fun r68 => some (r68.1, r68.2)) ∧ jfr (fun a _ => a = 27) σ0 σ' ∧ (∀ i : Int, 0 ≤ i → i < 13 → σ' 27 (13 * (k : Int) + i) = σ0 24 i) ∧ (∀ i : Int, (i < 13 * (k : Int) ∨ 13 * (k : Int) + 13 ≤ i) → σ' 27 i = σ0 27 i) := by
  intro n
  induction n with
  | zero =>
    intro fu j σ e1 e2 e3 f h1 h2
    obtain ⟨fu, rfl⟩ : ∃ k, fu = k + 1 := ⟨fu - 1, by omega⟩
    have w : σ 0 40 = σ0 0 40 := f 0 40 (by omega)
    refine ⟨σ, ?_, f, fun i a b => h1 i a (by omega), h2⟩
    rw [Model_keep_c23, if_neg (show ¬ jw j < 13 by rw [jw_id (by omega) (by omega)]; omega), w]
  | succ n ih =>
    intro fu j σ e1 e2 e3 f h1 h2
    obtain ⟨fu, rfl⟩ : ∃ k, fu = k + 1 := ⟨fu - 1, by omega⟩
    have w : σ 24 j = σ0 24 j := f 24 j (by omega)
    obtain ⟨σ', i1, i2, i3, i4⟩ := ih fu (j + 1) (jup σ 27 (13 * (k : Int) + j) (σ0 24 j)) (by omega) (by omega) (by omega) (jfr_up f rfl) (fun i a b => by
      by_cases e : i = j
      · rw [e, jup_s]
      · rw [jup_k (by omega)]; exact h1 i a (by omega)) (fun i a => by rw [jup_k (by omega)]; exact h2 i a)
    refine ⟨σ', ?_, i2, i3, i4⟩
    rw [Model_keep_c23, if_pos (show jw j < 13 by rw [jw_id (by omega) (by omega)]; omega), if_pos (show 0 ≤ j ∧ j < 13 by omega), if_pos (show 0 ≤ ((13 * (k : Int)) + j) ∧ ((13 * (k : Int)) + j) < 39 by omega), w]
    exact i1
theorem rq_keep {v : Int} (hv : iR v) (h13 : ¬ jw (σ 0 13) = 0) (hH : HaR σ c us) (hK : KeR σ ks) (hF : 100 ≤ F) : ∃ σ', Model_keep F σ v = some (keeA c v, σ') ∧ jfr KRP σ σ' ∧ KeR σ' (keeK c ks v) := by
  have wv : jw v = v := jw_id hv.1 hv.2
  have no : ¬ (0 ≤ v ∧ v ≤ 2) → keeK c ks v = ks := fun q => by
    funext k
    rw [keeK, if_neg (fun r => q ⟨r.1, r.2.1⟩)]
  rw [Model_keep, if_neg h13, wv, mo_isIn hv ⟨by omega, by omega⟩ ⟨by omega, by omega⟩, jbs, keeA]
  dsimp only
  by_cases y : 0 ≤ v ∧ v ≤ 2
  · obtain ⟨k, rfl⟩ : ∃ k : Nat, v = k := ⟨v.toNat, by omega⟩
    obtain ⟨σ1, a1, a2, a3, a4⟩ := rke_loop (F := F) (k := k) (σ0 := σ) (by omega) 13 F 0 σ (by omega) (by omega) (by omega) (jfr_refl _ _) (fun i a b => by omega) (fun i _ => rfl)
    have f2 : jfr KRP σ (jup σ1 0 40 (jor (σ 0 40) (jshl 1 (k : Int)))) := jfr_up (jfr_mono a2 (fun a j h => Or.inl h)) (Or.inr ⟨rfl, rfl⟩)
    have hd : Hd (jup σ1 0 40 (jor (σ 0 40) (jshl 1 (k : Int)))) 24 c := fun g g1 g2 => by rw [f2 24 _ (by simp [KRP])]; exact hH.1 g g1 g2
    rw [if_pos y, if_pos y, if_neg (show ¬ jw 1 = 0 by decide), a1, mo_beans hd hF, jbs]
    refine ⟨_, rfl, f2, ?_, fun j u g hj e g1 g2 => ?_⟩
    · dsimp only
      rw [jup_s, hK.1, jor_keep _ (kbt_lt ks) k (by omega), kbt_keep (by omega)]
    · dsimp only
      rw [jup_o (by omega)]
      by_cases q : j = k
      · subst q
        rw [keeK, if_pos ⟨by omega, by omega, by omega⟩] at e
        rw [← Option.some.inj e, show ((13 * j + g : Nat) : Int) = 13 * (j : Int) + g by omega, a3 g (by omega) (by omega)]
        exact hH.1 g g1 g2
      · rw [keeK, if_neg (fun r => q (by have := r.2.2; omega))] at e
        rw [a4 _ (by omega)]
        exact hK.2 j u g hj e g1 g2
  · rw [if_neg y, if_neg y, if_pos (show jw 0 = 0 from rfl), no y]
    exact ⟨σ, rfl, jfr_refl _ _, hK⟩
/-! apart -/
def P29 (a : Nat) (_ : Int) : Prop := a = 29
theorem WT_29 {σ' : jxS} (hW : WT σ) (f : jfr P29 σ σ') : WT σ' := WT_fr hW f (fun j => by simp [P29]) (fun j => by simp [P29])
theorem rab_loop {σ0 : jxS} {u : Nat → Nat} (hW : WT σ0) (hV : VT σ0 M 4224) (h1 : Hd σ0 24 c) (h2 : Hd σ0 28 u) (hc : okc c) (hu : okc u) (hb : beans c ≤ 15) (hb2 : beans u ≤ 15) (hF : 1000 ≤ F) : ∀ (n fu t : Nat) (σ : jxS), n + t = 45 → n < fu → jfr P29 σ0 σ → ∃ σ', Model_apartBy_c2 F 24 28 fu t σ = some (fbt M (rank c) (rank u) n t, σ') ∧ jfr P29 σ0 σ' := by
  intro n
  induction n with
  | zero =>
    intro fu t σ e1 e2 f
    obtain ⟨fu, rfl⟩ : ∃ k, fu = k + 1 := ⟨fu - 1, by omega⟩
    have w8 : σ 14 8 = 45 := by
      rw [f 14 8 (by simp [P29])]
      have := hW.2 8 (by omega)
      rw [fo_8] at this
      exact this
    refine ⟨σ, ?_, f⟩
    rw [Model_apartBy_c2, w8, if_neg (show ¬ jw (t : Int) < jw 45 by rw [jw_id (by omega) (by omega), jw_id (by omega) (by omega)]; omega), fbt]
  | succ n ih =>
    intro fu t σ e1 e2 f
    obtain ⟨fu, rfl⟩ : ∃ k, fu = k + 1 := ⟨fu - 1, by omega⟩
    have w8 : σ 14 8 = 45 := by
      rw [f 14 8 (by simp [P29])]
      have := hW.2 8 (by omega)
      rw [fo_8] at this
      exact this
    obtain ⟨t1, t2, t3⟩ := un_small (p := t) (b := 8) (by omega) (by rw [fo_8]; omega)
    obtain ⟨σ1, a1, a2, a3⟩ := mo_lay (F := F) (a := 29) (p := t) (by omega) (by omega) (WT_29 hW f) (by omega) (by omega)
    have f1 : jfr P29 σ0 σ1 := jfr_trans f (jfr_ag a2 (fun a j h => by simpa [P29] using h))
    have hV1 : VT σ1 M 4224 := VT_fr hV f1 (fun a j _ _ => by simp only [P29]; omega)
    have b1 := rk_beside (F := F) (a := 24) (by omega) (by omega) (by omega) (by omega) (WT_29 hW f1) hV1 (Hd_fr h1 f1 (fun j => by simp [P29])) a3 (by omega) hF
    have b2 := rk_beside (F := F) (a := 28) (by omega) (by omega) (by omega) (by omega) (WT_29 hW f1) hV1 (Hd_fr h2 f1 (fun j => by simp [P29])) a3 (by omega) hF
    rw [Model_apartBy_c2, w8, if_pos (show jw (t : Int) < jw 45 by rw [jw_id (by omega) (by omega), jw_id (by omega) (by omega)]; omega), a1, jbs]
    dsimp only
    rw [b1, jbs]
    dsimp only
    rw [b2, jbs, fbt_s, un_rank hc (by omega), un_rank hu (by omega)]
    dsimp only
    obtain ⟨σ2, d1, d2⟩ := ih fu (t + 1) σ1 (by omega) (by omega) f1
    cases los M (rank (cpl c (un t))) <;> cases los M (rank (cpl u (un t)))
    · exact ⟨σ2, d1, d2⟩
    · exact ⟨σ1, rfl, f1⟩
    · exact ⟨σ1, rfl, f1⟩
    · exact ⟨σ2, d1, d2⟩
theorem rk_apartBy {u : Nat → Nat} (hW : WT σ) (hV : VT σ M 4224) (h1 : Hd σ 24 c) (h2 : Hd σ 28 u) (hc : okc c) (hu : okc u) (hb : beans c ≤ 15) (hb2 : beans u ≤ 15) (hF : 1000 ≤ F) : ∃ σ', Model_apartBy F 24 28 σ = some (fbt M (rank c) (rank u) 45 0, σ') ∧ jfr P29 σ σ' :=
  rab_loop (F := F) hW hV h1 h2 hc hu hb hb2 hF 45 F 0 σ (by omega) (by omega) (jfr_refl _ _)
def P28 (a : Nat) (_ : Int) : Prop := a = 28
def APP (a : Nat) (_ : Int) : Prop := a = 20 ∨ a = 28 ∨ a = 29
theorem rap_copy {k : Nat} {v : Int} {σ0 : jxS} (hk : k < 3) : ∀ (n fu : Nat) (j : Int) (σ : jxS), n + j = 13 → 0 ≤ j → n < fu → jfr P28 σ0 σ → (∀ i : Int, 0 ≤ i → i < j → σ 28 i = σ0 27 (13 * (k : Int) + i)) → ∃ σ' g, Model_apart_c46 F fu k v j σ = Model_apart_c46 F (g + 1) k v 13 σ' ∧ jfr P28 σ0 σ' ∧ (∀ i : Int, 0 ≤ i → i < 13 → σ' 28 i = σ0 27 (13 * (k : Int) + i)) := by
  intro n
  induction n with
  | zero =>
    intro fu j σ e1 e2 e3 f h1
    obtain ⟨fu, rfl⟩ : ∃ k, fu = k + 1 := ⟨fu - 1, by omega⟩
    exact ⟨σ, fu, by rw [show j = 13 by omega], f, fun i a b => h1 i a (by omega)⟩
  | succ n ih =>
    intro fu j σ e1 e2 e3 f h1
    obtain ⟨fu, rfl⟩ : ∃ k, fu = k + 1 := ⟨fu - 1, by omega⟩
    have w : σ 27 (13 * (k : Int) + j) = σ0 27 (13 * (k : Int) + j) := f 27 _ (by simp [P28])
    obtain ⟨σ', g, i1, i2, i3⟩ := ih fu (j + 1) (jup σ 28 j (σ0 27 (13 * (k : Int) + j))) (by omega) (by omega) (by omega) (jfr_up f rfl) (fun i a b => by
      by_cases e : i = j
      · rw [e, jup_s]
      · rw [jup_k e]; exact h1 i a (by omega))
    refine ⟨σ', g, ?_, i2, i3⟩
    rw [Model_apart_c46, if_pos (show jw j < 13 by rw [jw_id (by omega) (by omega)]; omega), if_pos (show 0 ≤ ((13 * (k : Int)) + j) ∧ ((13 * (k : Int)) + j) < 39 by omega), if_pos (show 0 ≤ j ∧ j < 13 by omega), w]
    exact i1
theorem rb_has40 {k : Nat} (hk : k < 3) (hK : KeR σ ks) : Model_has F σ (σ 0 40) k = some (if (ks k).isSome then 1 else 0, σ) := by
  have b : kbt ks < 8 := kbt_lt ks
  have t := bq_bit (a := kbt ks) (k := k) (by omega) (by omega)
  have e : (kbt ks).testBit k = (ks k).isSome := by
    unfold kbt
    rcases (show k = 0 ∨ k = 1 ∨ k = 2 by omega) with rfl | rfl | rfl <;> cases (ks 0).isSome <;> cases (ks 1).isSome <;> cases (ks 2).isSome <;> rfl
  rw [Model_has, hK.1, t, e]
  cases (ks k).isSome <;> rfl
theorem rq_apart {v1 v2 : Int} (h1 : iR v1) (h2 : iR v2) (hI : RI σ M) (hH : HaR σ c us) (hc : okc c) (hb : beans c ≤ 22) (hK : KeR σ ks) (hko : ∀ k u, k < 3 → ks k = some u → okc u ∧ beans u ≤ 22) (hF : 1000 ≤ F) : ∃ σ', Model_apart F σ v1 v2 = some (apaA M c ks v1 v2, σ') ∧ jfr APP σ σ' := by
  obtain ⟨i1, i2, i3, i4, i5⟩ := hI
  have w1 : jw v1 = v1 := jw_id h1.1 h1.2
  have w2 : jw v2 = v2 := jw_id h2.1 h2.2
  rw [Model_apart, if_neg i5, w1, w2, mo_isIn h1 ⟨by omega, by omega⟩ ⟨by omega, by omega⟩, jbs, apaA]
  dsimp only
  by_cases z : 0 ≤ v1 ∧ v1 ≤ 2
  · obtain ⟨k, rfl⟩ : ∃ k : Nat, v1 = k := ⟨v1.toNat, by omega⟩
    rw [if_pos z, if_neg (show ¬ jw 1 = 0 by decide), rb_has40 (by omega) hK, jbs, Int.toNat_natCast]
    dsimp only
    cases e : ks k with
    | none =>
      rw [show (if (none : Option (Nat → Nat)).isSome = true then (1 : Int) else 0) = 0 from rfl, if_pos (show jw 0 = 0 from rfl)]
      refine ⟨σ, ?_, jfr_refl _ _⟩
      split <;> rfl
    | some u =>
      obtain ⟨u1, u2⟩ := hko k u (by omega) e
      rw [show (if (some u).isSome = true then (1 : Int) else 0) = 1 from rfl, if_neg (show ¬ jw 1 = 0 by decide), mo_isIn h2 ⟨by omega, by omega⟩ ⟨by omega, by omega⟩, jbs]
      dsimp only
      by_cases y : 0 ≤ v2 ∧ v2 ≤ 12
      · obtain ⟨σ1, g, a1, a2, a3⟩ := rap_copy (F := F) (k := k) (v := v2) (σ0 := σ) (by omega) 13 F 0 σ (by omega) (by omega) (by omega) (jfr_refl _ _) (fun i a b => by omega)
        have hd24 : Hd σ1 24 c := Hd_fr hH.1 a2 (fun j => by simp [P28])
        have hd28 : Hd σ1 28 u := fun x x1 x2 => by
          rw [a3 x (by omega) (by omega)]
          have := hK.2 k u x (by omega) e x1 x2
          rw [show ((13 * k + x : Nat) : Int) = 13 * (k : Int) + x by omega] at this
          exact this
        have fA : jfr APP σ σ1 := jfr_mono a2 (fun a j h => Or.inr (Or.inl h))
        rw [if_pos y, if_neg (show ¬ jw 1 = 0 by decide), a1, Model_apart_c46, if_neg (show ¬ jw 13 < 13 by decide), mo_beans hd24 (by omega), jbs, if_pos (show (0 ≤ v2 ∧ v2 ≤ 12) ∧ (0 ≤ (k : Int) ∧ (k : Int) ≤ 2) from ⟨y, z⟩)]
        dsimp only
        by_cases q : 15 < beans c
        · rw [if_pos (show 15 < jw (beans c : Int) by rw [jw_id (by omega) (by omega)]; omega), if_pos (Or.inl q)]
          exact ⟨σ1, rfl, fA⟩
        · rw [if_neg (show ¬ 15 < jw (beans c : Int) by rw [jw_id (by omega) (by omega)]; omega), mo_beans hd28 (by omega), jbs]
          dsimp only
          by_cases q2 : 15 < beans u
          · rw [if_pos (show 15 < jw (beans u : Int) by rw [jw_id (by omega) (by omega)]; omega), if_pos (Or.inr q2)]
            exact ⟨σ1, rfl, fA⟩
          · have hW1 : WT σ1 := WT_fr i1 a2 (fun j => by simp [P28]) (fun j => by simp [P28])
            have hV1 : VT σ1 M 4224 := VT_fr i2 a2 (fun a j _ _ => by simp only [P28]; omega)
            obtain ⟨σ2, b1, b2⟩ := rk_apartBy (F := F) hW1 hV1 hd24 hd28 hc u1 (by omega) (by omega) hF
            have fb := fbt_b M (rank c) (rank u) 45 0
            obtain ⟨σ3, d1, d2⟩ := rb_told (F := F) (σ := σ2) (p := fbt M (rank c) (rank u) 45 0) (h := v2) (WT_29 hW1 b2) (by omega) (by omega) y.1 y.2 (by omega)
            rw [if_neg (show ¬ 15 < jw (beans u : Int) by rw [jw_id (by omega) (by omega)]; omega), if_neg (show ¬ (15 < beans c ∨ 15 < beans u) by omega), b1, jbs]
            dsimp only
            rw [d1, jbs]
            exact ⟨σ3, rfl, jfr_trans fA (jfr_trans (jfr_mono b2 (fun a j h => Or.inr (Or.inr h))) (jfr_mono d2 (fun a j h => Or.inl h)))⟩
      · rw [if_neg y, if_pos (show jw 0 = 0 from rfl), if_neg (fun q => y q.1)]
        exact ⟨σ, rfl, jfr_refl _ _⟩
  · rw [if_neg z, if_pos (show jw 0 = 0 from rfl), if_neg (fun q => z q.2)]
    exact ⟨σ, rfl, jfr_refl _ _⟩
theorem rsi_loop {σ0 : jxS} {v : Int} (hW : WT σ0) (hV : VT σ0 M 4224) (h1 : Hd σ0 24 c) (hc : okc c) (hb : beans c ≤ 15) (h0 : 0 ≤ v) (h12 : v ≤ 12) (hF : 1000 ≤ F) : ∀ (n fu t : Nat) (σ : jxS), n + t = 45 → n < fu → jfr APP σ0 σ → ∃ σ', Model_simplest_c38 F fu v t σ = some (telA (fal M (rank c) n t) v, σ') ∧ jfr APP σ0 σ' := by
  intro n
  induction n with
  | zero =>
    intro fu t σ e1 e2 f
    obtain ⟨fu, rfl⟩ : ∃ k, fu = k + 1 := ⟨fu - 1, by omega⟩
    have w8 : σ 14 8 = 45 := by
      rw [f 14 8 (by simp [APP])]
      have := hW.2 8 (by omega)
      rw [fo_8] at this
      exact this
    refine ⟨σ, ?_, f⟩
    rw [Model_simplest_c38, w8, if_neg (show ¬ jw (t : Int) < jw 45 by rw [jw_id (by omega) (by omega), jw_id (by omega) (by omega)]; omega), fal]
    rfl
  | succ n ih =>
    intro fu t σ e1 e2 f
    obtain ⟨fu, rfl⟩ : ∃ k, fu = k + 1 := ⟨fu - 1, by omega⟩
    have w8 : σ 14 8 = 45 := by
      rw [f 14 8 (by simp [APP])]
      have := hW.2 8 (by omega)
      rw [fo_8] at this
      exact this
    have hWs : WT σ := WT_fr hW f (fun j => by simp [APP]) (fun j => by simp [APP])
    obtain ⟨t1, t2, t3⟩ := un_small (p := t) (b := 8) (by omega) (by rw [fo_8]; omega)
    obtain ⟨σ1, a1, a2, a3⟩ := mo_lay (F := F) (a := 28) (p := t) (by omega) (by omega) hWs (by omega) (by omega)
    have f1 : jfr APP σ0 σ1 := jfr_trans f (jfr_ag a2 (fun a j h => by simp only [List.mem_singleton] at h; simp [APP, h]))
    have hW1 : WT σ1 := WT_fr hW f1 (fun j => by simp [APP]) (fun j => by simp [APP])
    have hV1 : VT σ1 M 4224 := VT_fr hV f1 (fun a j _ _ => by simp only [APP]; omega)
    obtain ⟨σ2, b1, b2⟩ := rk_apartBy (F := F) hW1 hV1 (Hd_fr h1 f1 (fun j => by simp [APP])) a3 hc t1 hb (by omega) hF
    have f2 : jfr APP σ0 σ2 := jfr_trans f1 (jfr_mono b2 (fun a j h => Or.inr (Or.inr h)))
    have fb := fbt_b M (rank c) (rank (un t)) 45 0
    rw [t3] at b1 fb
    rw [Model_simplest_c38, w8, if_pos (show jw (t : Int) < jw 45 by rw [jw_id (by omega) (by omega), jw_id (by omega) (by omega)]; omega), a1, jbs]
    dsimp only
    rw [b1, jbs, fal_s]
    dsimp only
    by_cases q : fbt M (rank c) t 45 0 = -1
    · have hW2 : WT σ2 := WT_fr hW f2 (fun j => by simp [APP]) (fun j => by simp [APP])
      obtain ⟨σ3, d1, d2⟩ := rb_told (F := F) (σ := σ2) (p := t) (h := v) hW2 (by omega) (by omega) h0 h12 (by omega)
      rw [Model_told, if_neg (show ¬ jw (t : Int) < 0 by rw [jw_id (by omega) (by omega)]; omega)] at d1
      rw [if_pos (show jw (fbt M (rank c) t 45 0) < 0 by rw [q]; decide), if_pos q]
      exact ⟨σ3, d1, jfr_trans f2 (jfr_mono d2 (fun a j h => Or.inl h))⟩
    · obtain ⟨σ3, d1, d2⟩ := ih fu (t + 1) σ2 (by omega) (by omega) f2
      rw [if_neg (show ¬ jw (fbt M (rank c) t 45 0) < 0 by rw [jw_id (by omega) (by omega)]; omega), if_neg q]
      exact ⟨σ3, d1, d2⟩
theorem rq_simplest {v : Int} (hv : iR v) (hI : RI σ M) (hH : HaR σ c us) (hc : okc c) (hb : beans c ≤ 22) (hF : 1000 ≤ F) : ∃ σ', Model_simplest F σ v = some (simA M c v, σ') ∧ jfr APP σ σ' := by
  obtain ⟨i1, i2, i3, i4, i5⟩ := hI
  have wv : jw v = v := jw_id hv.1 hv.2
  rw [Model_simplest, if_neg i5, wv, mo_isIn hv ⟨by omega, by omega⟩ ⟨by omega, by omega⟩, jbs, simA]
  dsimp only
  by_cases y : 0 ≤ v ∧ v ≤ 12
  · rw [if_pos y, if_pos y, if_neg (show ¬ jw 1 = 0 by decide), mo_beans hH.1 (by omega), jbs]
    dsimp only
    by_cases q : 15 < beans c
    · rw [if_pos (show 15 < jw (beans c : Int) by rw [jw_id (by omega) (by omega)]; omega), if_pos q]
      exact ⟨σ, rfl, jfr_refl _ _⟩
    · rw [if_neg (show ¬ 15 < jw (beans c : Int) by rw [jw_id (by omega) (by omega)]; omega), if_neg q]
      exact rsi_loop (F := F) i1 i2 hH.1 hc (by omega) y.1 y.2 hF 45 F 0 σ (by omega) (by omega) (jfr_refl _ _)
  · rw [if_neg y, if_neg y, if_pos (show jw 0 = 0 from rfl)]
    exact ⟨σ, rfl, jfr_refl _ _⟩
/-! count, draws, period -/
theorem rq_count {v x : Int} {d e : Nat} {l : List Int} (hv : iR v) (h13 : ¬ jw (σ 0 13) = 0) (wd : σ 0 11 = (d : Int)) (we : σ 0 12 = (e : Int)) (wx : σ 0 43 = x) (hH : HaR σ c us) (hK : KeR σ ks) (wl : σ 0 1 = (l.length : Int)) : Model_count F σ v = some (couA d e x us ks l v, σ) := by
  have wv : jw v = v := jw_id hv.1 hv.2
  rw [Model_count, wv, couA]
  by_cases e0 : v = 0
  · rw [if_pos e0, if_pos e0, if_neg h13, wd]
  rw [if_neg e0, if_neg e0]
  by_cases e1 : v = 1
  · rw [if_pos e1, if_pos e1, if_neg h13, we]
  rw [if_neg e1, if_neg e1]
  by_cases e2 : v = 2
  · rw [if_pos e2, if_pos e2, wx]
  rw [if_neg e2, if_neg e2]
  by_cases e3 : v = 3
  · rw [if_pos e3, if_pos e3, hH.2.2.1]
  rw [if_neg e3, if_neg e3]
  by_cases e4 : v = 4
  · rw [if_pos e4, if_pos e4, hK.1]
  rw [if_neg e4, if_neg e4]
  by_cases e5 : v = 5
  · rw [if_pos e5, if_pos e5, wl]
  rw [if_neg e5, if_neg e5]
theorem rq_draws {v x : Int} (hv : iR v) (wx : σ 0 43 = x) : Model_draws F σ v = if v < 0 then some (-1, σ) else some (x, jup σ 0 43 v) := by
  rw [Model_draws, jw_id hv.1 hv.2, wx]
theorem rq_period {v : Int} {d e : Nat} {dg : Nat → Nat} (hv : iR v) (h13 : ¬ jw (σ 0 13) = 0) (hd : d ≤ 8) (wd : σ 0 11 = (d : Int)) (we : σ 0 12 = (e : Int)) (he : e ≤ 16) (hN : NmR σ M d dg) (hF : 1000 ≤ F) : Model_period F σ v = some (pedA d e dg v, σ) := by
  have wv : jw v = v := jw_id hv.1 hv.2
  rw [Model_period, if_neg h13, wv, mo_isIn hv ⟨by omega, by omega⟩ ⟨by omega, by omega⟩, jbs, pedA]
  dsimp only
  by_cases y : 0 ≤ v ∧ v ≤ 1
  · rw [if_pos y, if_pos y, if_neg (show ¬ jw 1 = 0 by decide)]
    by_cases q : 0 < e
    · rw [if_pos (show 0 < jw (σ 0 12) by rw [we, jw_id (by omega) (by omega)]; omega), if_pos q]
    · have e0 : e = 0 := by omega
      have w0 : σ 0 12 = 0 := by rw [we, e0]; rfl
      have pp := rp_p (F := F) (f := pn d dg) wd hd (fun g hg => Nat.le_trans (pn_le d dg g) hg) (hN.2 w0) hF (v := v) (by omega) 160 F 1 (by omega) (by omega) (by omega)
      have pp' : Model_period_c31 F F v 1 σ = _ := pp
      rw [if_neg (show ¬ 0 < jw (σ 0 12) by rw [w0]; decide), if_neg q, pp', perA]
  · rw [if_neg y, if_neg y, if_pos (show jw 0 = 0 from rfl)]
end KR
