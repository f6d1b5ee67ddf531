/-! The moves of heaps, listed on both sides. -/
def cnl (s j : Nat) : List Nat := match j with
  | 0 => []
  | j + 1 => (13 * (s / 2 - j) + (s - (s / 2 - j))) :: cnl s j
def cds (n : Nat) : List Nat := match n with
  | 0 => []
  | n + 1 => cnl n (n / 2 + 1) ++ cds n
theorem cds_ok : ∀ h, h ≤ 12 → (cds h).length = mmx.getD h 0 ∧ ∀ m, m ∈ cds h → m / 13 ≤ m % 13 ∧ m / 13 + m % 13 < h := by decide +kernel
theorem cnl_len (s : Nat) : ∀ j, (cnl s j).length = j := by
  intro j
  induction j with
  | zero => rfl
  | succ j ih => simp only [cnl, List.length_cons, ih]
/-- whether a heap has a move: d digits, what they are, what also, what never -/
def isMv (d : Nat) (dg : Nat → Nat) (al : Nat → Nat → Bool) (nv : Nat → Nat → Bool) (h m : Nat) : Bool := al h m || (decide (h - m / 13 - m % 13 ≤ d) && !nv h (h - m / 13 - m % 13) && (dg (h - m / 13 - m % 13 - 1)).testBit (if m % 13 = 0 then 0 else if m / 13 = 0 then 1 else 2))
def Mof (P : Nat → Nat → Bool) (h : Nat) : List Nat := (cds h).filter (P h)
theorem Mof_ok (P : Nat → Nat → Bool) : MOK (Mof P) := fun h h1 h2 => by
  obtain ⟨a, b⟩ := cds_ok h h2
  refine ⟨?_, fun m hm => b m (List.mem_filter.mp hm).1⟩
  rw [← a]
  exact List.length_filter_le _ _
theorem Mof_mem {P : Nat → Nat → Bool} {h a b : Nat} (h2 : h ≤ 12) (hab : a ≤ b) (hs : a + b < h) : 13 * a + b ∈ Mof P h ↔ P h (13 * a + b) = true := by
  have key0 : ∀ h, h < 13 → ∀ a, a < 13 → ∀ b, b < 13 → (!(decide (a ≤ b) && decide (a + b < h)) || (cds h).contains (13 * a + b)) = true := by decide +kernel
  have key : 13 * a + b ∈ cds h := by
    have := key0 h (by omega) a (by omega) b (by omega)
    rw [decide_eq_true hab, decide_eq_true hs] at this
    simpa using this
  rw [Mof, List.mem_filter]
  exact ⟨fun q => q.2, fun q => ⟨key, q⟩⟩
def MP (a : Nat) (_ : Int) : Prop := a = 14 ∨ a = 15
/-- what allows answers, whatever of the lists is laid -/
def AlC (F : Nat) (σ0 : jxS) (P : Nat → Nat → Bool) : Prop := ∀ (σ : jxS), jfr MP σ0 σ → ∀ h a b : Nat, 1 ≤ h → h ≤ 12 → a ≤ b → a + b < h → Rules_allows F σ h a b = some (if P h (13 * a + b) then 1 else 0, σ)
theorem cm_in {F : Nat} {σ0 : jxS} {P : Nat → Nat → Bool} {k4 : Int → Int → jxS → Option jxR} {k21 : Int → Int → Int → jxS → Option jxR} {h s : Nat} (hA : AlC F σ0 P) (h1 : 1 ≤ h) (h2 : h ≤ 12) (hs : s < h) : ∀ (j fu n : Nat) (σ : jxS), j ≤ s / 2 + 1 → jfr MP σ0 σ → n + j ≤ 203 → j < fu → ∃ σ', Rules_listMoves_c28 F k4 k21 fu n h s ((s / 2 + 1 - j : Nat) : Int) σ = k21 ((n + ((cnl s j).filter (P h)).length : Nat) : Int) h ((s : Int) + (-1)) σ' ∧ jfr MP σ0 σ' ∧ (∀ a, a ≠ 15 → σ' a = σ a) ∧ (∀ i : Nat, i < n → σ' 15 i = σ 15 i) ∧ rowL σ' 15 n ((cnl s j).filter (P h)) := by
  intro j
  induction j with
  | zero =>
    intro fu n σ e1 f e2 e3
    obtain ⟨fu, rfl⟩ : ∃ k, fu = k + 1 := ⟨fu - 1, by omega⟩
    refine ⟨σ, ?_, f, fun _ _ => rfl, fun _ _ => rfl, rowL_nil _ _ _⟩
    simp only [cnl, List.filter_nil, List.length_nil, Nat.add_zero, Nat.sub_zero]
    simp (disch := omega) only [Rules_listMoves_c28, ↓reduceIte, jw_id, jlt_T, jlt_F, jle_T, jle_F, jeq_T, jeq_F, and_self, and_true, true_and, and_false, false_and, or_true, true_or, or_false, false_or, not_true_eq_false, not_false_eq_true, jbs, jup_s, jup_k, jup_o]
  | succ j ih =>
    intro fu n σ e1 f e2 e3
    obtain ⟨fu, rfl⟩ : ∃ k, fu = k + 1 := ⟨fu - 1, by omega⟩
    have hal := hA σ f h (s / 2 - j) (s - (s / 2 - j)) h1 h2 (by omega) (by omega)
    have x1 : ((s / 2 + 1 - (j + 1) : Nat) : Int) = ((s / 2 - j : Nat) : Int) := by omega
    have x2 : (s : Int) - ((s / 2 - j : Nat) : Int) = ((s - (s / 2 - j) : Nat) : Int) := by omega
    have x3 : ((s / 2 - j : Nat) : Int) + 1 = ((s / 2 + 1 - j : Nat) : Int) := by omega
    rw [x1]
    simp only [cnl, List.filter_cons]
    cases hp : P h (13 * (s / 2 - j) + (s - (s / 2 - j)))
    · rw [hp] at hal
      simp only [Bool.false_eq_true, if_false] at hal ⊢
      obtain ⟨σ', i1, i2, i3, i4, i5⟩ := ih fu n σ (by omega) f (by omega) (by omega)
      refine ⟨σ', ?_, i2, i3, i4, i5⟩
      rw [← i1, ← x3]
      rw [Rules_listMoves_c28]
      simp (disch := omega) only [x2, hal, ↓reduceIte, jw_id, jlt_T, jlt_F, jle_T, jle_F, jeq_T, jeq_F, and_self, and_true, true_and, and_false, false_and, or_true, true_or, or_false, false_or, not_true_eq_false, not_false_eq_true, jbs, jup_s, jup_k, jup_o]
    · rw [hp] at hal
      simp only [if_true, List.length_cons] at hal ⊢
      obtain ⟨σ', i1, i2, i3, i4, i5⟩ := ih fu (n + 1) (jup σ 15 n ((13 * (s / 2 - j) + (s - (s / 2 - j)) : Nat) : Int)) (by omega) (jfr_up f (Or.inr rfl)) (by omega) (by omega)
      refine ⟨σ', ?_, i2, fun a ha => by rw [i3 a ha, jup_ne ha], fun i hi => by rw [i4 i (by omega), jup_k (by omega)], ?_⟩
      · rw [show n + (((cnl s j).filter (P h)).length + 1) = n + 1 + ((cnl s j).filter (P h)).length by omega, ← i1, ← x3]
        rw [Rules_listMoves_c28]
        have x4 : 13 * ((s / 2 - j : Nat) : Int) + (s : Int) - ((s / 2 - j : Nat) : Int) = ((13 * (s / 2 - j) + (s - (s / 2 - j)) : Nat) : Int) := by omega
        simp (disch := omega) only [x2, hal, x4, ↓reduceIte, jw_id, jlt_T, jlt_F, jle_T, jle_F, jeq_T, jeq_F, and_self, and_true, true_and, and_false, false_and, or_true, true_or, or_false, false_or, not_true_eq_false, not_false_eq_true, jbs, jup_s, jup_k, jup_o]
        rfl
      · refine rowL_cons ?_ i5
        rw [i4 n (by omega), jup_s]
theorem cm_sum {F : Nat} {σ0 : jxS} {P : Nat → Nat → Bool} {k4 : Int → Int → jxS → Option jxR} {h : Nat} (hA : AlC F σ0 P) (h1 : 1 ≤ h) (h2 : h ≤ 12) (hF : 1000 ≤ F) : ∀ (m fu n : Nat) (σ : jxS), m ≤ h → jfr MP σ0 σ → n + (cds m).length ≤ 203 → m < fu → ∃ σ', Rules_listMoves_c21 F k4 fu n h ((m : Int) - 1) σ = k4 ((n + ((cds m).filter (P h)).length : Nat) : Int) ((h : Int) + 1) σ' ∧ jfr MP σ0 σ' ∧ (∀ a, a ≠ 15 → σ' a = σ a) ∧ (∀ i : Nat, i < n → σ' 15 i = σ 15 i) ∧ rowL σ' 15 n ((cds m).filter (P h)) := by
  intro m
  induction m with
  | zero =>
    intro fu n σ e1 f e2 e3
    obtain ⟨fu, rfl⟩ : ∃ k, fu = k + 1 := ⟨fu - 1, by omega⟩
    refine ⟨σ, ?_, f, fun _ _ => rfl, fun _ _ => rfl, rowL_nil _ _ _⟩
    simp only [cds, List.filter_nil, List.length_nil, Nat.add_zero]
    simp (disch := omega) only [Rules_listMoves_c21, ↓reduceIte, jw_id, jlt_T, jlt_F, jle_T, jle_F, jeq_T, jeq_F, and_self, and_true, true_and, and_false, false_and, or_true, true_or, or_false, false_or, not_true_eq_false, not_false_eq_true, jbs, jup_s, jup_k, jup_o]
  | succ m ih =>
    intro fu n σ e1 f e2 e3
    obtain ⟨fu, rfl⟩ : ∃ k, fu = k + 1 := ⟨fu - 1, by omega⟩
    simp only [cds, List.length_append, cnl_len] at e2
    obtain ⟨σ1, a1, a2, a3, a4, a5⟩ := cm_in (F := F) (k4 := k4) (k21 := Rules_listMoves_c21 F k4 fu) hA h1 h2 (s := m) (by omega) (m / 2 + 1) F n σ (Nat.le_refl _) f (by omega) (by omega)
    have fl : ((cnl m (m / 2 + 1)).filter (P h)).length ≤ m / 2 + 1 := by
      have := List.length_filter_le (P h) (cnl m (m / 2 + 1))
      rw [cnl_len] at this
      exact this
    obtain ⟨σ2, b1, b2, b3, b4, b5⟩ := ih fu (n + ((cnl m (m / 2 + 1)).filter (P h)).length) σ1 (by omega) a2 (by omega) (by omega)
    refine ⟨σ2, ?_, b2, fun a ha => by rw [b3 a ha, a3 a ha], fun i hi => by rw [b4 i (by omega), a4 i hi], ?_⟩
    · simp only [cds, List.filter_append, List.length_append, ← Nat.add_assoc]
      rw [← b1, show (m : Int) - 1 = (m : Int) + (-1) by omega, ← a1]
      rw [show ((m / 2 + 1 - (m / 2 + 1) : Nat) : Int) = 0 by omega, show ((m + 1 : Nat) : Int) - 1 = (m : Int) by omega]
      rw [Rules_listMoves_c21, if_neg (by unfold jw; omega)]
    · simp only [cds, List.filter_append]
      refine rowL_app ?_ b5
      exact rowL_fr a5 (fun i q1 q2 => b4 i (by omega))
theorem Mof_eq (P : Nat → Nat → Bool) (h : Nat) : (cds h).filter (P h) = Mof P h := rfl
theorem cm_heaps {F : Nat} {σ0 : jxS} {P : Nat → Nat → Bool} (hA : AlC F σ0 P) (hF : 1000 ≤ F) : ∀ (n fu h : Nat) (σ : jxS), n + h = 13 → 1 ≤ h → n < fu → jfr MP σ0 σ → (∀ g : Nat, 1 ≤ g → g < h → σ 14 g = (mst (Mof P) g : Int) ∧ rowL σ 15 (mst (Mof P) g) (Mof P g)) → ∃ σ', Rules_listMoves_c4 F fu (mst (Mof P) h) h σ = some (0, σ') ∧ jfr MP σ0 σ' ∧ RulC σ' (Mof P) := by
  have hM := Mof_ok P
  have m13 := mst_203 hM
  intro n
  induction n with
  | zero =>
    intro fu h σ e1 e2 e3 f hg
    obtain ⟨fu, rfl⟩ : ∃ k, fu = k + 1 := ⟨fu - 1, by omega⟩
    have hh : h = 13 := by omega
    subst hh
    refine ⟨jup σ 14 13 (mst (Mof P) 13), ?_, jfr_up f (Or.inl rfl), fun g g1 g2 => ?_, fun g k m g1 g2 hm => ?_⟩
    · simp (disch := omega) only [Rules_listMoves_c4, ↓reduceIte, jw_id, jlt_T, jlt_F, jle_T, jle_F, jeq_T, jeq_F, and_self, and_true, true_and, and_false, false_and, or_true, true_or, or_false, false_or, not_true_eq_false, not_false_eq_true, jbs, jup_s, jup_k, jup_o]
    · by_cases q : g = 13
      · subst q; exact jup_s _ _ _ _
      · rw [jup_k (by omega)]; exact (hg g g1 (by omega)).1
    · rw [jup_o (by omega)]
      exact (hg g g1 (by omega)).2 k m hm
  | succ n ih =>
    intro fu h σ e1 e2 e3 f hg
    obtain ⟨fu, rfl⟩ : ∃ k, fu = k + 1 := ⟨fu - 1, by omega⟩
    obtain ⟨c1, c2⟩ := cds_ok h (by omega)
    have s1 := mst_s (Mof P) e2
    have s2 := mst_mono (Mof P) (a := h) (b := 13) e2 (by omega)
    have bound : mst (Mof P) h + (cds h).length ≤ 203 := by
      have key : ∀ g, g ≤ 12 → 1 ≤ g → mst (Mof P) g ≤ 203 - mms (13 - g) := by
        intro g
        induction g with
        | zero => intro _ q; omega
        | succ g ihg =>
          intro q1 _
          by_cases e : g = 0
          · subst e; rw [mst_1]; omega
          · have i := ihg (by omega) (by omega)
            have a := (hM g (by omega) (by omega)).1
            have m : ∀ h, h ≤ 12 → 1 ≤ h → mms (13 - h) = mmx.getD h 0 + mms (13 - (h + 1)) ∧ mms (13 - h) ≤ 203 := by decide
            have := m g (by omega) (by omega)
            rw [mst_s (Mof P) (by omega)]
            omega
      have m : ∀ h, h ≤ 12 → 1 ≤ h → mms (13 - h) = mmx.getD h 0 + mms (13 - (h + 1)) ∧ mms (13 - h) ≤ 203 := by decide
      have a1 := m h (by omega) e2
      have a2 := key h (by omega) e2
      rw [c1]
      omega
    obtain ⟨σ1, a1, a2, a3, a4, a5⟩ := cm_sum (F := F) (k4 := Rules_listMoves_c4 F fu) hA e2 (by omega) hF h F (mst (Mof P) h) (jup σ 14 h (mst (Mof P) h)) (Nat.le_refl _) (jfr_up f (Or.inl rfl)) bound (by omega)
    rw [Mof_eq] at a1 a5
    obtain ⟨σ2, b1, b2, b3⟩ := ih fu (h + 1) σ1 (by omega) (by omega) (by omega) a2 (fun g g1 g2 => by
      by_cases q : g = h
      · subst q
        exact ⟨by rw [a3 14 (by omega), jup_s], a5⟩
      · obtain ⟨w1, w2⟩ := hg g g1 (by omega)
        refine ⟨by rw [a3 14 (by omega), jup_k (by omega)]; exact w1, ?_⟩
        have t1 := mst_s (Mof P) g1
        have t2 := mst_mono (Mof P) (a := g + 1) (b := h) (by omega) (by omega)
        refine rowL_fr w2 (fun i q1 q2 => ?_)
        rw [a4 i (by omega), jup_o (by omega)])
    refine ⟨σ2, ?_, b2, b3⟩
    rw [s1, show ((h + 1 : Nat) : Int) = (h : Int) + 1 by omega] at b1
    rw [← b1, ← a1]
    rw [Rules_listMoves_c4, if_neg (by unfold jw; omega), if_pos (by omega)]
theorem ca_listMoves {F : Nat} {σ : jxS} {P : Nat → Nat → Bool} (hA : AlC F σ P) (hF : 1000 ≤ F) : ∃ σ', Rules_listMoves F σ = some (0, σ') ∧ jfr MP σ σ' ∧ RulC σ' (Mof P) := by
  have := cm_heaps (F := F) hA hF 12 F 1 σ (by omega) (by omega) (by omega) (jfr_refl _ _) (fun g g1 g2 => by omega)
  rw [mst_1] at this
  exact this
