/-! The reference: moves and nimbers of heaps. -/
def RulR (σ : jxS) (d : Nat) (dg : Nat → Nat) (al nv : Nat → Nat → Bool) : Prop := d ≤ 8 ∧ (∀ i, dg i < 8) ∧ σ 0 11 = (d : Int) ∧ (∀ i : Nat, i < d → σ 6 i = (dg i : Int)) ∧ (∀ h k : Nat, 1 ≤ h → h ≤ 12 → 1 ≤ k → k ≤ 8 → σ 8 (9 * (h : Int) + k) = if nv h k then 1 else 0) ∧ (∀ h a b : Nat, 1 ≤ h → h ≤ 12 → a ≤ b → a + b < h → σ 7 (169 * (h : Int) + 13 * a + b) = if al h (13 * a + b) then 1 else 0)
def NP (a : Nat) (_ : Int) : Prop := a = 9 ∨ a = 10 ∨ a = 11 ∨ a = 12
theorem RulR_fr {σ σ' : jxS} {P : Nat → Int → Prop} {d : Nat} {dg : Nat → Nat} {al nv : Nat → Nat → Bool} (h : RulR σ d dg al nv) (f : jfr P σ σ') (h1 : ¬ P 0 11) (h2 : ∀ a j, 6 ≤ a → a ≤ 8 → ¬ P a j) : RulR σ' d dg al nv := by
  obtain ⟨d8, dl, w1, w2, w3, w4⟩ := h
  exact ⟨d8, dl, by rw [f 0 11 h1]; exact w1, fun i hi => by rw [f 6 _ (h2 _ _ (by omega) (by omega))]; exact w2 i hi, fun g k g1 g2 k1 k2 => by rw [f 8 _ (h2 _ _ (by omega) (by omega))]; exact w3 g k g1 g2 k1 k2, fun g a b g1 g2 g3 g4 => by rw [f 7 _ (h2 _ _ (by omega) (by omega))]; exact w4 g a b g1 g2 g3 g4⟩
theorem rb_59 {F x t : Nat} {σ : jxS} (hx : x < 8) (ht : t < 3) : Model_isByCode_c59 F t x σ = some (if x.testBit t then 1 else 0, σ) := by
  have b := bq_bit (a := x) (k := t) (by omega) (by omega)
  cases e : x.testBit t
  · rw [e] at b
    simp only [Bool.false_eq_true, if_false] at b ⊢
    simp (disch := omega) only [Model_isByCode_c59, b, ↓reduceIte, jw_id, jlt_T, jlt_F, jle_T, jle_F, jeq_T, jeq_F, and_self, and_true, true_and, and_false, false_and, or_true, true_or, or_false, false_or, not_true_eq_false, not_false_eq_true, jbs, jup_s, jup_k, jup_o]
  · rw [e] at b
    simp only [if_true] at b ⊢
    simp (disch := omega) only [Model_isByCode_c59, b, ↓reduceIte, jw_id, jlt_T, jlt_F, jle_T, jle_F, jeq_T, jeq_F, and_self, and_true, true_and, and_false, false_and, or_true, true_or, or_false, false_or, not_true_eq_false, not_false_eq_true, jbs, jup_s, jup_k, jup_o]
theorem rk_byCode {F : Nat} {σ : jxS} {d : Nat} {dg : Nat → Nat} {al nv : Nat → Nat → Bool} (hA : RulR σ d dg al nv) {h a b : Nat} (h1 : 1 ≤ h) (h2 : h ≤ 12) (hab : a ≤ b) (hs : a + b < h) : Model_isByCode F σ h a b = some (if (decide (h - a - b ≤ d) && !nv h (h - a - b) && (dg (h - a - b - 1)).testBit (if b = 0 then 0 else if a = 0 then 1 else 2)) then 1 else 0, σ) := by
  obtain ⟨d8, dl, w1, w2, w3, w4⟩ := hA
  have kk : (h : Int) - a - b = ((h - a - b : Nat) : Int) := by omega
  by_cases hd : h - a - b ≤ d
  · have wn := w3 h (h - a - b) h1 h2 (by omega) (by omega)
    have wd := w2 (h - a - b - 1) (by omega)
    have kk2 : ((h - a - b : Nat) : Int) - 1 = ((h - a - b - 1 : Nat) : Int) := by omega
    rw [decide_eq_true hd, Bool.true_and]
    cases hn : nv h (h - a - b)
    · rw [hn] at wn
      simp only [Bool.false_eq_true, if_false, Bool.not_false, Bool.true_and] at wn ⊢
      by_cases b0 : b = 0
      · have c := rb_59 (F := F) (σ := σ) (t := 0) (dl (h - a - b - 1)) (by omega)
        rw [if_pos b0]
        simp (disch := omega) only [Model_isByCode, kk, w1, wn, kk2, wd, ↓reduceIte, jw_id, jlt_T, jlt_F, jle_T, jle_F, jeq_T, jeq_F, and_self, and_true, true_and, and_false, false_and, or_true, true_or, or_false, false_or, not_true_eq_false, not_false_eq_true, jbs, jup_s, jup_k, jup_o]
        exact c
      · by_cases a0 : a = 0
        · have c := rb_59 (F := F) (σ := σ) (t := 1) (dl (h - a - b - 1)) (by omega)
          rw [if_neg b0, if_pos a0]
          simp (disch := omega) only [Model_isByCode, kk, w1, wn, kk2, wd, ↓reduceIte, jw_id, jlt_T, jlt_F, jle_T, jle_F, jeq_T, jeq_F, and_self, and_true, true_and, and_false, false_and, or_true, true_or, or_false, false_or, not_true_eq_false, not_false_eq_true, jbs, jup_s, jup_k, jup_o]
          exact c
        · have c := rb_59 (F := F) (σ := σ) (t := 2) (dl (h - a - b - 1)) (by omega)
          rw [if_neg b0, if_neg a0]
          simp (disch := omega) only [Model_isByCode, kk, w1, wn, kk2, wd, ↓reduceIte, jw_id, jlt_T, jlt_F, jle_T, jle_F, jeq_T, jeq_F, and_self, and_true, true_and, and_false, false_and, or_true, true_or, or_false, false_or, not_true_eq_false, not_false_eq_true, jbs, jup_s, jup_k, jup_o]
          exact c
    · rw [hn] at wn
      simp only [if_true, Bool.not_true, Bool.false_and, Bool.false_eq_true, if_false] at wn ⊢
      simp (disch := omega) only [Model_isByCode, kk, w1, wn, ↓reduceIte, jw_id, jlt_T, jlt_F, jle_T, jle_F, jeq_T, jeq_F, and_self, and_true, true_and, and_false, false_and, or_true, true_or, or_false, false_or, not_true_eq_false, not_false_eq_true, jbs, jup_s, jup_k, jup_o]
  · rw [decide_eq_false hd]
    simp only [Bool.false_and, Bool.false_eq_true, if_false]
    simp (disch := omega) only [Model_isByCode, kk, w1, ↓reduceIte, jw_id, jlt_T, jlt_F, jle_T, jle_F, jeq_T, jeq_F, and_self, and_true, true_and, and_false, false_and, or_true, true_or, or_false, false_or, not_true_eq_false, not_false_eq_true, jbs, jup_s, jup_k, jup_o]
def RMP (a : Nat) (_ : Int) : Prop := a = 9 ∨ a = 10
theorem lr_69 {F : Nat} {σ : jxS} {k2 : Int → jxS → Option jxR} {k19 : Int → Int → jxS → Option jxR} {k25 : Int → Int → Int → jxS → Option jxR} {h s a n : Int} (h1 : 0 ≤ h) (h2 : h ≤ 12) (w : σ 10 h = n) (n0 : 0 ≤ n) (n1 : n < 64) : Model_laysMoves_c69 F k2 k19 k25 h s a σ = k25 h s (a + 1) (jup (jup σ 9 (64 * h + n) (13 * a + s - a)) 10 h (n + 1)) := by
  simp (disch := omega) only [Model_laysMoves_c69, w, ↓reduceIte, jw_id, jlt_T, jlt_F, jle_T, jle_F, jeq_T, jeq_F, and_self, and_true, true_and, and_false, false_and, or_true, true_or, or_false, false_or, not_true_eq_false, not_false_eq_true, jbs, jup_s, jup_k, jup_o]
theorem lr_in {F : Nat} {σ0 : jxS} {d : Nat} {dg : Nat → Nat} {al nv : Nat → Nat → Bool} {k2 : Int → jxS → Option jxR} {k19 : Int → Int → jxS → Option jxR} {h s : Nat} (hA : RulR σ0 d dg al nv) (h1 : 1 ≤ h) (h2 : h ≤ 12) (hs : s < h) : ∀ (j fu n : Nat) (σ : jxS), j ≤ s / 2 + 1 → jfr RMP σ0 σ → σ 10 h = (n : Int) → n + j ≤ 60 → j < fu → ∃ σ', Model_laysMoves_c25 F k2 k19 fu h s ((s / 2 + 1 - j : Nat) : Int) σ = k19 h ((s : Int) + (-1)) σ' ∧ jfr RMP σ0 σ' ∧ σ' 10 h = ((n + ((cnl s j).filter (isMv d dg al nv h)).length : Nat) : Int) ∧ (∀ g : Int, g ≠ (h : Int) → σ' 10 g = σ 10 g) ∧ (∀ i : Int, i < 64 * (h : Int) + n → σ' 9 i = σ 9 i) ∧ rowL σ' 9 (64 * h + n) ((cnl s j).filter (isMv d dg al nv h)) := by
  intro j
  induction j with
  | zero =>
    intro fu n σ e1 f e0 e2 e3
    obtain ⟨fu, rfl⟩ : ∃ k, fu = k + 1 := ⟨fu - 1, by omega⟩
    refine ⟨σ, ?_, f, by simp only [cnl, List.filter_nil, List.length_nil, Nat.add_zero]; exact e0, fun _ _ => rfl, fun _ _ => rfl, rowL_nil _ _ _⟩
    simp only [Nat.sub_zero]
    simp (disch := omega) only [Model_laysMoves_c25, ↓reduceIte, jw_id, jlt_T, jlt_F, jle_T, jle_F, jeq_T, jeq_F, and_self, and_true, true_and, and_false, false_and, or_true, true_or, or_false, false_or, not_true_eq_false, not_false_eq_true, jbs, jup_s, jup_k, jup_o]
  | succ j ih =>
    intro fu n σ e1 f e0 e2 e3
    obtain ⟨fu, rfl⟩ : ∃ k, fu = k + 1 := ⟨fu - 1, by omega⟩
    have hA' := RulR_fr hA f (by simp [RMP]) (fun a j q1 q2 => by simp [RMP]; omega)
    have hbc := rk_byCode (F := F) hA' (h := h) (a := s / 2 - j) (b := s - (s / 2 - j)) h1 h2 (by omega) (by omega)
    have hal := hA'.2.2.2.2.2 h (s / 2 - j) (s - (s / 2 - j)) h1 h2 (by omega) (by omega)
    have x1 : ((s / 2 + 1 - (j + 1) : Nat) : Int) = ((s / 2 - j : Nat) : Int) := by omega
    have x2 : (s : Int) - ((s / 2 - j : Nat) : Int) = ((s - (s / 2 - j) : Nat) : Int) := by omega
    have x3 : ((s / 2 - j : Nat) : Int) + 1 = ((s / 2 + 1 - j : Nat) : Int) := by omega
    have x5 : 169 * (h : Int) + 13 * ((s / 2 - j : Nat) : Int) + (s : Int) - ((s / 2 - j : Nat) : Int) = 169 * (h : Int) + 13 * ((s / 2 - j : Nat) : Int) + ((s - (s / 2 - j) : Nat) : Int) := by omega
    have x4 : 13 * ((s / 2 - j : Nat) : Int) + (s : Int) - ((s / 2 - j : Nat) : Int) = ((13 * (s / 2 - j) + (s - (s / 2 - j)) : Nat) : Int) := by omega
    have c69 := lr_69 (F := F) (σ := σ) (k2 := k2) (k19 := k19) (k25 := Model_laysMoves_c25 F k2 k19 fu) (h := h) (s := s) (a := ((s / 2 - j : Nat) : Int)) (by omega) (by omega) e0 (by omega) (by omega)
    rw [x1]
    have hp : isMv d dg al nv h (13 * (s / 2 - j) + (s - (s / 2 - j))) = (al h (13 * (s / 2 - j) + (s - (s / 2 - j))) || (decide (h - (s / 2 - j) - (s - (s / 2 - j)) ≤ d) && !nv h (h - (s / 2 - j) - (s - (s / 2 - j))) && (dg (h - (s / 2 - j) - (s - (s / 2 - j)) - 1)).testBit (if (s - (s / 2 - j)) = 0 then 0 else if (s / 2 - j) = 0 then 1 else 2))) := by
      unfold isMv
      rw [show (13 * (s / 2 - j) + (s - (s / 2 - j))) / 13 = s / 2 - j by omega, show (13 * (s / 2 - j) + (s - (s / 2 - j))) % 13 = s - (s / 2 - j) by omega]
    generalize (decide (h - (s / 2 - j) - (s - (s / 2 - j)) ≤ d) && !nv h (h - (s / 2 - j) - (s - (s / 2 - j))) && (dg (h - (s / 2 - j) - (s - (s / 2 - j)) - 1)).testBit (if (s - (s / 2 - j)) = 0 then 0 else if (s / 2 - j) = 0 then 1 else 2)) = Q at hbc hp
    simp only [cnl, List.filter_cons, hp]
    have take : (al h (13 * (s / 2 - j) + (s - (s / 2 - j))) || Q) = true → ∃ σ', Model_laysMoves_c25 F k2 k19 (fu + 1) h s ((s / 2 - j : Nat) : Int) σ = k19 h ((s : Int) + (-1)) σ' ∧ jfr RMP σ0 σ' ∧ σ' 10 h = ((n + ((13 * (s / 2 - j) + (s - (s / 2 - j))) :: (cnl s j).filter (isMv d dg al nv h)).length : Nat) : Int) ∧ (∀ g : Int, g ≠ (h : Int) → σ' 10 g = σ 10 g) ∧ (∀ i : Int, i < 64 * (h : Int) + n → σ' 9 i = σ 9 i) ∧ rowL σ' 9 (64 * h + n) ((13 * (s / 2 - j) + (s - (s / 2 - j))) :: (cnl s j).filter (isMv d dg al nv h)) := fun hq => by
      obtain ⟨σ', i1, i2, i3, i4, i5, i6⟩ := ih fu (n + 1) (jup (jup σ 9 (64 * (h : Int) + n) ((13 * (s / 2 - j) + (s - (s / 2 - j)) : Nat) : Int)) 10 h ((n : Int) + 1)) (by omega) (jfr_up (jfr_up f (Or.inl rfl)) (Or.inr rfl)) (by rw [jup_s]; rfl) (by omega) (by omega)
      refine ⟨σ', ?_, i2, by rw [i3, List.length_cons]; omega, fun g hg => by rw [i4 g hg, jup_k hg, jup_o (by omega)], fun i hi => by rw [i5 i (by omega), jup_o (by omega), jup_k (by omega)], ?_⟩
      · rw [← i1, ← x3]
        rw [x4] at c69
        cases hQ : Q
        · rw [hQ, Bool.or_false] at hq
          rw [hQ] at hbc
          rw [hq] at hal
          simp only [Bool.false_eq_true, if_false, if_true] at hbc hal
          rw [Model_laysMoves_c25]
          simp (disch := omega) only [x2, hbc, x5, hal, ↓reduceIte, jw_id, jlt_T, jlt_F, jle_T, jle_F, jeq_T, jeq_F, and_self, and_true, true_and, and_false, false_and, or_true, true_or, or_false, false_or, not_true_eq_false, not_false_eq_true, jbs, jup_s, jup_k, jup_o]
          exact c69
        · rw [hQ] at hbc
          simp only [if_true] at hbc
          rw [Model_laysMoves_c25]
          simp (disch := omega) only [x2, hbc, ↓reduceIte, jw_id, jlt_T, jlt_F, jle_T, jle_F, jeq_T, jeq_F, and_self, and_true, true_and, and_false, false_and, or_true, true_or, or_false, false_or, not_true_eq_false, not_false_eq_true, jbs, jup_s, jup_k, jup_o]
          exact c69
      · refine rowL_cons ?_ (by rw [Nat.add_assoc]; exact i6)
        rw [i5 _ (by omega), jup_o (by omega), show ((64 * h + n : Nat) : Int) = 64 * (h : Int) + n by omega, jup_s]
    cases hq : (al h (13 * (s / 2 - j) + (s - (s / 2 - j))) || Q)
    · have ha : al h (13 * (s / 2 - j) + (s - (s / 2 - j))) = false := by
        cases w : al h (13 * (s / 2 - j) + (s - (s / 2 - j)))
        · rfl
        · rw [w] at hq; simp at hq
      have hQ : Q = false := by
        cases w : Q
        · rfl
        · rw [w] at hq; simp at hq
      rw [hQ] at hbc
      rw [ha] at hal
      simp only [Bool.false_eq_true, if_false] at hbc hal ⊢
      obtain ⟨σ', i1, i2, i3, i4, i5, i6⟩ := ih fu n σ (by omega) f e0 (by omega) (by omega)
      refine ⟨σ', ?_, i2, i3, i4, i5, i6⟩
      rw [← i1, ← x3]
      rw [Model_laysMoves_c25]
      simp (disch := omega) only [x2, hbc, x5, hal, ↓reduceIte, jw_id, jlt_T, jlt_F, jle_T, jle_F, jeq_T, jeq_F, and_self, and_true, true_and, and_false, false_and, or_true, true_or, or_false, false_or, not_true_eq_false, not_false_eq_true, jbs, jup_s, jup_k, jup_o]
    · simp only [if_true]
      exact take hq
theorem lr_sum {F : Nat} {σ0 : jxS} {d : Nat} {dg : Nat → Nat} {al nv : Nat → Nat → Bool} {k2 : Int → jxS → Option jxR} {h : Nat} (hA : RulR σ0 d dg al nv) (h1 : 1 ≤ h) (h2 : h ≤ 12) (hF : 1000 ≤ F) : ∀ (m fu n : Nat) (σ : jxS), m ≤ h → jfr RMP σ0 σ → σ 10 h = (n : Int) → n + (cds m).length ≤ 60 → m < fu → ∃ σ', Model_laysMoves_c19 F k2 fu h ((m : Int) - 1) σ = k2 ((h : Int) + 1) σ' ∧ jfr RMP σ0 σ' ∧ σ' 10 h = ((n + ((cds m).filter (isMv d dg al nv h)).length : Nat) : Int) ∧ (∀ g : Int, g ≠ (h : Int) → σ' 10 g = σ 10 g) ∧ (∀ i : Int, i < 64 * (h : Int) + n → σ' 9 i = σ 9 i) ∧ rowL σ' 9 (64 * h + n) ((cds m).filter (isMv d dg al nv h)) := by
  intro m
  induction m with
  | zero =>
    intro fu n σ e1 f e0 e2 e3
    obtain ⟨fu, rfl⟩ : ∃ k, fu = k + 1 := ⟨fu - 1, by omega⟩
    refine ⟨σ, ?_, f, by simp only [cds, List.filter_nil, List.length_nil, Nat.add_zero]; exact e0, fun _ _ => rfl, fun _ _ => rfl, rowL_nil _ _ _⟩
    simp (disch := omega) only [Model_laysMoves_c19, ↓reduceIte, jw_id, jlt_T, jlt_F, jle_T, jle_F, jeq_T, jeq_F, and_self, and_true, true_and, and_false, false_and, or_true, true_or, or_false, false_or, not_true_eq_false, not_false_eq_true, jbs, jup_s, jup_k, jup_o]
  | succ m ih =>
    intro fu n σ e1 f e0 e2 e3
    obtain ⟨fu, rfl⟩ : ∃ k, fu = k + 1 := ⟨fu - 1, by omega⟩
    simp only [cds, List.length_append, cnl_len] at e2
    obtain ⟨σ1, a1, a2, a3, a4, a5, a6⟩ := lr_in (F := F) (k2 := k2) (k19 := Model_laysMoves_c19 F k2 fu) hA h1 h2 (s := m) (by omega) (m / 2 + 1) F n σ (Nat.le_refl _) f e0 (by omega) (by omega)
    have fl : ((cnl m (m / 2 + 1)).filter (isMv d dg al nv h)).length ≤ m / 2 + 1 := by
      have := List.length_filter_le (isMv d dg al nv h) (cnl m (m / 2 + 1))
      rw [cnl_len] at this
      exact this
    obtain ⟨σ2, b1, b2, b3, b4, b5, b6⟩ := ih fu (n + ((cnl m (m / 2 + 1)).filter (isMv d dg al nv h)).length) σ1 (by omega) a2 a3 (by omega) (by omega)
    refine ⟨σ2, ?_, b2, ?_, fun g hg => by rw [b4 g hg, a4 g hg], fun i hi => by rw [b5 i (by omega), a5 i hi], ?_⟩
    · rw [← b1, show (m : Int) - 1 = (m : Int) + (-1) by omega, ← a1]
      rw [show ((m / 2 + 1 - (m / 2 + 1) : Nat) : Int) = 0 by omega, show ((m + 1 : Nat) : Int) - 1 = (m : Int) by omega]
      rw [Model_laysMoves_c19, if_neg (by unfold jw; omega)]
    · simp only [cds, List.filter_append, List.length_append, ← Nat.add_assoc]
      exact b3
    · simp only [cds, List.filter_append]
      refine rowL_app ?_ (by rw [Nat.add_assoc]; exact b6)
      exact rowL_fr a6 (fun i q1 q2 => b5 i (by omega))
theorem lr_heaps {F : Nat} {σ0 : jxS} {d : Nat} {dg : Nat → Nat} {al nv : Nat → Nat → Bool} (hA : RulR σ0 d dg al nv) (hF : 1000 ≤ F) : ∀ (n fu h : Nat) (σ : jxS), n + h = 13 → 1 ≤ h → n < fu → jfr RMP σ0 σ → (∀ g : Nat, 1 ≤ g → g < h → σ 10 g = ((Mof (isMv d dg al nv) g).length : Int) ∧ rowL σ 9 (64 * g) (Mof (isMv d dg al nv) g)) → ∃ σ', Model_laysMoves_c2 F fu h σ = (Model_laysNimbers F σ').bind (fun r122 => some (0, r122.2)) ∧ jfr RMP σ0 σ' ∧ MvM σ' (Mof (isMv d dg al nv)) := by
  have hM := Mof_ok (isMv d dg al nv)
  intro n
  induction n with
  | zero =>
    intro fu h σ e1 e2 e3 f hg
    obtain ⟨fu, rfl⟩ : ∃ k, fu = k + 1 := ⟨fu - 1, by omega⟩
    refine ⟨σ, ?_, f, fun g g1 g2 => ⟨(hg g g1 (by omega)).1, fun k m hm => ?_⟩⟩
    · rw [Model_laysMoves_c2, if_pos (by unfold jw; omega)]
    · have := (hg g g1 (by omega)).2 k m hm
      rw [← this]
      congr 1
  | succ n ih =>
    intro fu h σ e1 e2 e3 f hg
    obtain ⟨fu, rfl⟩ : ∃ k, fu = k + 1 := ⟨fu - 1, by omega⟩
    obtain ⟨c1, c2⟩ := cds_ok h (by omega)
    have c42 : ∀ h, h ≤ 12 → mmx.getD h 0 ≤ 42 := by decide
    have c3 := c42 h (by omega)
    obtain ⟨σ1, a1, a2, a3, a4, a5, a6⟩ := lr_sum (F := F) (k2 := Model_laysMoves_c2 F fu) hA e2 (by omega) hF h F 0 (jup σ 10 h 0) (Nat.le_refl _) (jfr_up f (Or.inr rfl)) (by rw [jup_s]; rfl) (by omega) (by omega)
    obtain ⟨σ2, b1, b2, b3⟩ := ih fu (h + 1) σ1 (by omega) (by omega) (by omega) a2 (fun g g1 g2 => by
      by_cases q : g = h
      · subst q
        exact ⟨by rw [a3, Nat.zero_add, Mof_eq], a6⟩
      · obtain ⟨w1, w2⟩ := hg g g1 (by omega)
        refine ⟨by rw [a4 _ (by omega), jup_k (by omega)]; exact w1, ?_⟩
        have ml := MOK_len hM (h := g) g1 (by omega)
        refine rowL_fr w2 (fun i q1 q2 => ?_)
        rw [a5 i (by omega), jup_o (by omega)])
    refine ⟨σ2, ?_, b2, b3⟩
    rw [show ((h + 1 : Nat) : Int) = (h : Int) + 1 by omega] at b1
    rw [← b1, ← a1]
    rw [Model_laysMoves_c2, if_neg (by unfold jw; omega), if_pos (by omega)]
