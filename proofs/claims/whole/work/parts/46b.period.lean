/-! Periods: the search on both sides; the reference's nimbers of greater heaps. -/
def prl (f : Nat → Nat) (p n m : Nat) : Bool := match m with
  | 0 => true
  | m + 1 => (f (n + p) == f n) && prl f p (n + 1) m
theorem prl_iff {f : Nat → Nat} {p : Nat} : ∀ m n, prl f p n m = true ↔ ∀ i, n ≤ i → i < n + m → f (i + p) = f i := by
  intro m
  induction m with
  | zero => intro n; simp only [prl, true_iff]; intro i h1 h2; omega
  | succ m ih =>
    intro n
    simp only [prl, Bool.and_eq_true, beq_iff_eq, ih]
    constructor
    · rintro ⟨h1, h2⟩ i i1 i2
      by_cases e : i = n
      · subst e; exact h1
      · exact h2 i (by omega) (by omega)
    · intro h
      exact ⟨h n (by omega) (by omega), fun i i1 i2 => h i (by omega) (by omega)⟩
def sE (d : Nat) (f : Nat → Nat) (p fu e : Nat) : Option Nat := match fu with
  | 0 => none
  | fu + 1 => if 160 < 2 * e + 2 * p + d then none else if prl f p e (e + p + d) then some e else sE d f p fu (e + 1)
def sPr (d : Nat) (f : Nat → Nat) (fu p : Nat) : Option (Nat × Nat) := match fu with
  | 0 => none
  | fu + 1 => if 160 < 2 + 2 * p + d then none else match sE d f p 161 1 with
    | some e => some (p, e)
    | none => sPr d f fu (p + 1)
theorem sPr_s (d : Nat) (f : Nat → Nat) (fu p : Nat) : sPr d f (fu + 1) p = if 160 < 2 + 2 * p + d then none else match sE d f p 161 1 with
    | some e => some (p, e)
    | none => sPr d f fu (p + 1) := rfl
theorem sE_s (d : Nat) (f : Nat → Nat) (p fu e : Nat) : sE d f p (fu + 1) e = if 160 < 2 * e + 2 * p + d then none else if prl f p e (e + p + d) then some e else sE d f p fu (e + 1) := rfl
section PE
variable {F d : Nat} {f : Nat → Nat} {σ : jxS}
/-- the reference's check -/
theorem rp_is (wd : σ 0 11 = (d : Int)) (hd : d ≤ 8) (hf : ∀ g, g ≤ 160 → f g ≤ 160) (hN : ∀ g : Nat, g ≤ 160 → σ 11 g = (f g : Int)) {p e : Nat} (hb : 2 * e + 2 * p + d ≤ 160) : ∀ (m fu n : Nat), m + n = 2 * e + p + d → e ≤ n → m < fu → Model_isPeriod_c2 F fu p e n σ = some (if prl f p n m then 1 else 0, σ) := by
  intro m
  induction m with
  | zero =>
    intro fu n e1 e2 e3
    obtain ⟨fu, rfl⟩ : ∃ k, fu = k + 1 := ⟨fu - 1, by omega⟩
    simp only [prl, if_true]
    simp (disch := omega) only [Model_isPeriod_c2, wd, ↓reduceIte, jw_id, jlt_T, jlt_F, jle_T, jle_F, jeq_T, jeq_F, and_self, and_true, true_and, and_false, false_and, or_true, true_or, or_false, false_or, not_true_eq_false, not_false_eq_true, jbs, jup_s, jup_k, jup_o]
  | succ m ih =>
    intro fu n e1 e2 e3
    obtain ⟨fu, rfl⟩ : ∃ k, fu = k + 1 := ⟨fu - 1, by omega⟩
    have b1 : n + p ≤ 160 := by omega
    have b2 : n ≤ 160 := by omega
    have w1 := hN (n + p) b1
    have w2 := hN n b2
    have l1 := hf (n + p) b1
    have l2 := hf n b2
    rw [Int.natCast_add] at w1
    have i1 := ih fu (n + 1) (by omega) (by omega) (by omega)
    rw [Int.natCast_add, Int.natCast_one] at i1
    by_cases q : f (n + p) = f n
    · have pe : prl f p n (m + 1) = prl f p (n + 1) m := by simp [prl, q]
      rw [pe]
      simp (disch := omega) only [Model_isPeriod_c2, wd, w1, w2, ↓reduceIte, jw_id, jlt_T, jlt_F, jle_T, jle_F, jeq_T, jeq_F, and_self, and_true, true_and, and_false, false_and, or_true, true_or, or_false, false_or, not_true_eq_false, not_false_eq_true, jbs, jup_s, jup_k, jup_o]
      exact i1
    · have pe : prl f p n (m + 1) = false := by simp [prl, q]
      rw [pe]
      simp only [Bool.false_eq_true, if_false]
      simp (disch := omega) only [Model_isPeriod_c2, wd, w1, w2, ↓reduceIte, jw_id, jlt_T, jlt_F, jle_T, jle_F, jeq_T, jeq_F, and_self, and_true, true_and, and_false, false_and, or_true, true_or, or_false, false_or, not_true_eq_false, not_false_eq_true, jbs, jup_s, jup_k, jup_o]
theorem rp_e (wd : σ 0 11 = (d : Int)) (hd : d ≤ 8) (hf : ∀ g, g ≤ 160 → f g ≤ 160) (hN : ∀ g : Nat, g ≤ 160 → σ 11 g = (f g : Int)) (hF : 1000 ≤ F) {k31 : Int → Int → jxS → Option jxR} {v : Int} (hv : v = 0 ∨ v = 1) {p : Nat} (hp : p ≤ 160) : ∀ (n fu e : Nat), n + e = 162 → 1 ≤ e → n < fu → Model_period_c49 F k31 fu v p e σ = (match sE d f p n e with
      | some x => some (if v = 0 then (p : Int) else (x : Int), σ)
      | none => k31 v ((p : Int) + 1) σ) := by
  intro n
  induction n with
  | zero =>
    intro fu e e1 e2 e3
    obtain ⟨fu, rfl⟩ : ∃ k, fu = k + 1 := ⟨fu - 1, by omega⟩
    simp only [sE]
    simp (disch := omega) only [Model_period_c49, wd, ↓reduceIte, jw_id, jlt_T, jlt_F, jle_T, jle_F, jeq_T, jeq_F, and_self, and_true, true_and, and_false, false_and, or_true, true_or, or_false, false_or, not_true_eq_false, not_false_eq_true, jbs, jup_s, jup_k, jup_o]
  | succ n ih =>
    intro fu e e1 e2 e3
    obtain ⟨fu, rfl⟩ : ∃ k, fu = k + 1 := ⟨fu - 1, by omega⟩
    rw [sE_s]
    by_cases q : 160 < 2 * e + 2 * p + d
    · rw [if_pos q]
      simp (disch := omega) only [Model_period_c49, wd, ↓reduceIte, jw_id, jlt_T, jlt_F, jle_T, jle_F, jeq_T, jeq_F, and_self, and_true, true_and, and_false, false_and, or_true, true_or, or_false, false_or, not_true_eq_false, not_false_eq_true, jbs, jup_s, jup_k, jup_o]
    · rw [if_neg q]
      have c := rp_is (F := F) wd hd hf hN (p := p) (e := e) (by omega) (e + p + d) F e (by omega) (Nat.le_refl _) (by omega)
      have c' : Model_isPeriod F σ p e = some (if prl f p e (e + p + d) then 1 else 0, σ) := c
      have i1 := ih fu (e + 1) (by omega) (by omega) (by omega)
      rw [Int.natCast_add, Int.natCast_one] at i1
      cases hp2 : prl f p e (e + p + d)
      · rw [hp2] at c'
        simp only [Bool.false_eq_true, if_false] at c' ⊢
        simp (disch := omega) only [Model_period_c49, wd, c', ↓reduceIte, jw_id, jlt_T, jlt_F, jle_T, jle_F, jeq_T, jeq_F, and_self, and_true, true_and, and_false, false_and, or_true, true_or, or_false, false_or, not_true_eq_false, not_false_eq_true, jbs, jup_s, jup_k, jup_o]
        exact i1
      · rw [hp2] at c'
        simp only [if_true] at c' ⊢
        rcases hv with rfl | rfl
        · simp (disch := omega) only [Model_period_c49, wd, c', ↓reduceIte, jw_id, jlt_T, jlt_F, jle_T, jle_F, jeq_T, jeq_F, and_self, and_true, true_and, and_false, false_and, or_true, true_or, or_false, false_or, not_true_eq_false, not_false_eq_true, jbs, jup_s, jup_k, jup_o]
        · simp (disch := omega) only [Model_period_c49, wd, c', ↓reduceIte, jw_id, jlt_T, jlt_F, jle_T, jle_F, jeq_T, jeq_F, and_self, and_true, true_and, and_false, false_and, or_true, true_or, or_false, false_or, not_true_eq_false, not_false_eq_true, jbs, jup_s, jup_k, jup_o]
theorem rp_p (wd : σ 0 11 = (d : Int)) (hd : d ≤ 8) (hf : ∀ g, g ≤ 160 → f g ≤ 160) (hN : ∀ g : Nat, g ≤ 160 → σ 11 g = (f g : Int)) (hF : 1000 ≤ F) {v : Int} (hv : v = 0 ∨ v = 1) : ∀ (n fu p : Nat), n + p = 161 → 1 ≤ p → n < fu → Model_period_c31 F fu v p σ = some (match sPr d f n p with
      | some x => if v = 0 then (x.1 : Int) else (x.2 : Int)
      | none => -2, σ) := by
  intro n
  induction n with
  | zero =>
    intro fu p e1 e2 e3
    obtain ⟨fu, rfl⟩ : ∃ k, fu = k + 1 := ⟨fu - 1, by omega⟩
    simp only [sPr]
    simp (disch := omega) only [Model_period_c31, wd, ↓reduceIte, jw_id, jlt_T, jlt_F, jle_T, jle_F, jeq_T, jeq_F, and_self, and_true, true_and, and_false, false_and, or_true, true_or, or_false, false_or, not_true_eq_false, not_false_eq_true, jbs, jup_s, jup_k, jup_o]
  | succ n ih =>
    intro fu p e1 e2 e3
    obtain ⟨fu, rfl⟩ : ∃ k, fu = k + 1 := ⟨fu - 1, by omega⟩
    rw [sPr_s]
    by_cases q : 160 < 2 + 2 * p + d
    · rw [if_pos q]
      simp (disch := omega) only [Model_period_c31, wd, ↓reduceIte, jw_id, jlt_T, jlt_F, jle_T, jle_F, jeq_T, jeq_F, and_self, and_true, true_and, and_false, false_and, or_true, true_or, or_false, false_or, not_true_eq_false, not_false_eq_true, jbs, jup_s, jup_k, jup_o]
    · rw [if_neg q]
      have c := rp_e (F := F) wd hd hf hN hF (k31 := Model_period_c31 F fu) hv (p := p) (by omega) 161 F 1 (by omega) (by omega) (by omega)
      have i1 := ih fu (p + 1) (by omega) (by omega) (by omega)
      rw [Int.natCast_add, Int.natCast_one] at i1
      have st : Model_period_c31 F (fu + 1) v p σ = Model_period_c49 F (Model_period_c31 F fu) F v p 1 σ := by
        simp (disch := omega) only [Model_period_c31, wd, ↓reduceIte, jw_id, jlt_T, jlt_F, jle_T, jle_F, jeq_T, jeq_F, and_self, and_true, true_and, and_false, false_and, or_true, true_or, or_false, false_or, not_true_eq_false, not_false_eq_true, jbs, jup_s, jup_k, jup_o]
      have c' : Model_period_c49 F (Model_period_c31 F fu) F v p 1 σ = _ := c
      rw [st, c']
      cases hs : sE d f p 161 1 with
      | none => exact i1
      | some x => rfl
/-- the class's check -/
theorem cp_rep (hf : ∀ g, g ≤ 160 → f g ≤ 160) (hN : ∀ g : Nat, g ≤ 160 → σ 20 g = (f g : Int)) {p e : Nat} (he : 1 ≤ e) : ∀ (m fu : Nat), m + e + p ≤ 161 → m < fu → Cycle_repeats_c11 F fu p e ((m : Int) + e - 1) σ = some (if prl f p e m then 1 else 0, σ) := by
  intro m
  induction m with
  | zero =>
    intro fu e1 e2
    obtain ⟨fu, rfl⟩ : ∃ k, fu = k + 1 := ⟨fu - 1, by omega⟩
    simp only [prl, if_true]
    simp (disch := omega) only [Cycle_repeats_c11, Int.natCast_zero, ↓reduceIte, jw_id, jlt_T, jlt_F, jle_T, jle_F, jeq_T, jeq_F, and_self, and_true, true_and, and_false, false_and, or_true, true_or, or_false, false_or, not_true_eq_false, not_false_eq_true, jbs, jup_s, jup_k, jup_o]
  | succ m ih =>
    intro fu e1 e2
    obtain ⟨fu, rfl⟩ : ∃ k, fu = k + 1 := ⟨fu - 1, by omega⟩
    have x1 : ((m + 1 : Nat) : Int) + e - 1 = ((m + e : Nat) : Int) := by omega
    have x2 : ((m + e : Nat) : Int) + (-1) = (m : Int) + e - 1 := by omega
    have w1 := hN (m + e + p) (by omega)
    have w2 := hN (m + e) (by omega)
    have l1 := hf (m + e + p) (by omega)
    have l2 := hf (m + e) (by omega)
    rw [show ((m + e + p : Nat) : Int) = ((m + e : Nat) : Int) + p by omega] at w1
    have i1 := ih fu (by omega) (by omega)
    rw [x1]
    by_cases q : f (m + e + p) = f (m + e)
    · have pe : prl f p e (m + 1) = prl f p e m := by
        cases h : prl f p e m
        · cases h2 : prl f p e (m + 1)
          · rfl
          · have h3 := (prl_iff m e).mpr (fun i i1 i2 => (prl_iff (m + 1) e).mp h2 i i1 (by omega))
            rw [h] at h3
            cases h3
        · exact (prl_iff (m + 1) e).mpr (fun i i1 i2 => by
            by_cases z : i = m + e
            · subst z; exact q
            · exact (prl_iff m e).mp h i i1 (by omega))
      rw [pe, ← i1, ← x2]
      rw [Cycle_repeats_c11]
      simp (disch := omega) only [w1, w2, ↓reduceIte, jw_id, jlt_T, jlt_F, jle_T, jle_F, jeq_T, jeq_F, and_self, and_true, true_and, and_false, false_and, or_true, true_or, or_false, false_or, not_true_eq_false, not_false_eq_true, jbs, jup_s, jup_k, jup_o]
    · have pe : prl f p e (m + 1) = false := by
        cases h : prl f p e (m + 1)
        · rfl
        · exact absurd ((prl_iff (m + 1) e).mp h (m + e) (by omega) (by omega)) q
      rw [pe]
      simp only [Bool.false_eq_true, if_false]
      simp (disch := omega) only [Cycle_repeats_c11, w1, w2, ↓reduceIte, jw_id, jlt_T, jlt_F, jle_T, jle_F, jeq_T, jeq_F, and_self, and_true, true_and, and_false, false_and, or_true, true_or, or_false, false_or, not_true_eq_false, not_false_eq_true, jbs, jup_s, jup_k, jup_o]
end PE
def P19 (a : Nat) (j : Int) : Prop := a = 19 ∧ (j = 3 ∨ j = 4)
theorem cp_e {F d : Nat} {f : Nat → Nat} {σ : jxS} (hd : d ≤ 8) (hf : ∀ g, g ≤ 160 → f g ≤ 160) (hN : ∀ g : Nat, g ≤ 160 → σ 20 g = (f g : Int)) (h3 : σ 19 3 = 0) (hF : 1000 ≤ F) {k12 : Int → Int → jxS → Option jxR} {p : Nat} (hp : 1 ≤ p) (hp2 : p ≤ 160) : ∀ (n fu e : Nat), n + e = 162 → 1 ≤ e → n + 1 < fu → Cycle_findCycle_c34 F k12 fu d p e σ = (match sE d f p n e with
      | some x => k12 d ((p : Int) + 1) (jup (jup σ 19 3 p) 19 4 x)
      | none => k12 d ((p : Int) + 1) σ) := by
  intro n
  induction n with
  | zero =>
    intro fu e e1 e2 e3
    obtain ⟨fu, rfl⟩ : ∃ k, fu = k + 1 := ⟨fu - 1, by omega⟩
    simp only [sE]
    simp (disch := omega) only [Cycle_findCycle_c34, ↓reduceIte, jw_id, jlt_T, jlt_F, jle_T, jle_F, jeq_T, jeq_F, and_self, and_true, true_and, and_false, false_and, or_true, true_or, or_false, false_or, not_true_eq_false, not_false_eq_true, jbs, jup_s, jup_k, jup_o]
  | succ n ih =>
    intro fu e e1 e2 e3
    obtain ⟨fu, rfl⟩ : ∃ k, fu = k + 1 := ⟨fu - 1, by omega⟩
    rw [sE_s]
    by_cases q : 160 < 2 * e + 2 * p + d
    · rw [if_pos q]
      simp (disch := omega) only [Cycle_findCycle_c34, ↓reduceIte, jw_id, jlt_T, jlt_F, jle_T, jle_F, jeq_T, jeq_F, and_self, and_true, true_and, and_false, false_and, or_true, true_or, or_false, false_or, not_true_eq_false, not_false_eq_true, jbs, jup_s, jup_k, jup_o]
    · rw [if_neg q]
      have c := cp_rep (F := F) (f := f) (σ := σ) hf hN (p := p) (e := e) e2 (e + p + d) F (by omega) (by omega)
      have mn : jmin (2 * (e : Int) + p + d - 1) (160 - p) = ((e + p + d : Nat) : Int) + e - 1 := by
        unfold jmin jw
        split <;> omega
      have c' : Cycle_repeats F σ p e (2 * (e : Int) + p + d - 1) = some (if prl f p e (e + p + d) then 1 else 0, σ) := by
        rw [Cycle_repeats, mn]
        exact c
      have i1 := ih fu (e + 1) (by omega) (by omega) (by omega)
      rw [Int.natCast_add, Int.natCast_one] at i1
      cases hp2 : prl f p e (e + p + d)
      · rw [hp2] at c'
        simp only [Bool.false_eq_true, if_false] at c' ⊢
        simp (disch := omega) only [Cycle_findCycle_c34, h3, c', ↓reduceIte, jw_id, jlt_T, jlt_F, jle_T, jle_F, jeq_T, jeq_F, and_self, and_true, true_and, and_false, false_and, or_true, true_or, or_false, false_or, not_true_eq_false, not_false_eq_true, jbs, jup_s, jup_k, jup_o]
        exact i1
      · rw [hp2] at c'
        simp only [if_true] at c' ⊢
        have st : Cycle_findCycle_c34 F k12 (fu + 1) d p e σ = Cycle_findCycle_c34 F k12 fu d p ((e : Int) + 1) (jup (jup σ 19 3 p) 19 4 e) := by
          simp (disch := omega) only [Cycle_findCycle_c34, h3, c', ↓reduceIte, jw_id, jlt_T, jlt_F, jle_T, jle_F, jeq_T, jeq_F, and_self, and_true, true_and, and_false, false_and, or_true, true_or, or_false, false_or, not_true_eq_false, not_false_eq_true, jbs, jup_s, jup_k, jup_o]
        rw [st]
        obtain ⟨g, rfl⟩ : ∃ k, fu = k + 1 := ⟨fu - 1, by omega⟩
        have w3 : (jup (jup σ 19 3 (p : Int)) 19 4 (e : Int)) 19 3 = (p : Int) := by rw [jup_k (by omega), jup_s]
        by_cases q2 : (160 : Int) < 2 * ((e : Int) + 1) + 2 * p + d
        · simp (disch := omega) only [Cycle_findCycle_c34, ↓reduceIte, jw_id, jlt_T, jlt_F, jle_T, jle_F, jeq_T, jeq_F, and_self, and_true, true_and, and_false, false_and, or_true, true_or, or_false, false_or, not_true_eq_false, not_false_eq_true, jbs, jup_s, jup_k, jup_o]
        · simp (disch := omega) only [Cycle_findCycle_c34, w3, ↓reduceIte, jw_id, jlt_T, jlt_F, jle_T, jle_F, jeq_T, jeq_F, and_self, and_true, true_and, and_false, false_and, or_true, true_or, or_false, false_or, not_true_eq_false, not_false_eq_true, jbs, jup_s, jup_k, jup_o]
theorem cp_p {F d : Nat} {f : Nat → Nat} {σ : jxS} (hd : d ≤ 8) (hf : ∀ g, g ≤ 160 → f g ≤ 160) (hN : ∀ g : Nat, g ≤ 160 → σ 20 g = (f g : Int)) (h3 : σ 19 3 = 0) (h4 : σ 19 4 = 0) (hF : 1000 ≤ F) : ∀ (n fu p : Nat), n + p = 161 → 1 ≤ p → n + 1 < fu → ∃ σ', Cycle_findCycle_c12 F fu d p σ = some (0, σ') ∧ jfr P19 σ σ' ∧ (match sPr d f n p with
      | some x => σ' 19 3 = (x.1 : Int) ∧ σ' 19 4 = (x.2 : Int) ∧ 1 ≤ x.1 ∧ x.1 ≤ 160
      | none => σ' 19 3 = 0) := by
  intro n
  induction n with
  | zero =>
    intro fu p e1 e2 e3
    obtain ⟨fu, rfl⟩ : ∃ k, fu = k + 1 := ⟨fu - 1, by omega⟩
    refine ⟨σ, ?_, jfr_refl _ _, ?_⟩
    · simp (disch := omega) only [Cycle_findCycle_c12, ↓reduceIte, jw_id, jlt_T, jlt_F, jle_T, jle_F, jeq_T, jeq_F, and_self, and_true, true_and, and_false, false_and, or_true, true_or, or_false, false_or, not_true_eq_false, not_false_eq_true, jbs, jup_s, jup_k, jup_o]
    · simp only [sPr]; exact h3
  | succ n ih =>
    intro fu p e1 e2 e3
    obtain ⟨fu, rfl⟩ : ∃ k, fu = k + 1 := ⟨fu - 1, by omega⟩
    rw [sPr_s]
    by_cases q : 160 < 2 + 2 * p + d
    · rw [if_pos q]
      refine ⟨σ, ?_, jfr_refl _ _, h3⟩
      simp (disch := omega) only [Cycle_findCycle_c12, ↓reduceIte, jw_id, jlt_T, jlt_F, jle_T, jle_F, jeq_T, jeq_F, and_self, and_true, true_and, and_false, false_and, or_true, true_or, or_false, false_or, not_true_eq_false, not_false_eq_true, jbs, jup_s, jup_k, jup_o]
    · rw [if_neg q]
      have c := cp_e (F := F) (k12 := Cycle_findCycle_c12 F fu) hd hf hN h3 hF (p := p) e2 (by omega) 161 F 1 (by omega) (by omega) (by omega)
      have c' : Cycle_findCycle_c34 F (Cycle_findCycle_c12 F fu) F d p 1 σ = _ := c
      have st : Cycle_findCycle_c12 F (fu + 1) d p σ = Cycle_findCycle_c34 F (Cycle_findCycle_c12 F fu) F d p 1 σ := by
        simp (disch := omega) only [Cycle_findCycle_c12, h3, ↓reduceIte, jw_id, jlt_T, jlt_F, jle_T, jle_F, jeq_T, jeq_F, and_self, and_true, true_and, and_false, false_and, or_true, true_or, or_false, false_or, not_true_eq_false, not_false_eq_true, jbs, jup_s, jup_k, jup_o]
      rw [st, c']
      cases hs : sE d f p 161 1 with
      | none =>
        obtain ⟨σ', i1, i2, i3⟩ := ih fu (p + 1) (by omega) (by omega) (by omega)
        rw [Int.natCast_add, Int.natCast_one] at i1
        exact ⟨σ', i1, i2, i3⟩
      | some x =>
        refine ⟨jup (jup σ 19 3 p) 19 4 x, ?_, jfr_up (jfr_up (jfr_refl _ _) ⟨rfl, Or.inl rfl⟩) ⟨rfl, Or.inr rfl⟩, by rw [jup_k (by omega), jup_s], jup_s _ _ _ _, e2, by show p ≤ 160; omega⟩
        have w3 : (jup (jup σ 19 3 (p : Int)) 19 4 (x : Int)) 19 3 = (p : Int) := by rw [jup_k (by omega), jup_s]
        obtain ⟨g, rfl⟩ : ∃ k, fu = k + 1 := ⟨fu - 1, by omega⟩
        by_cases q2 : (160 : Int) < 2 + 2 * ((p : Int) + 1) + d
        · simp (disch := omega) only [Cycle_findCycle_c12, ↓reduceIte, jw_id, jlt_T, jlt_F, jle_T, jle_F, jeq_T, jeq_F, and_self, and_true, true_and, and_false, false_and, or_true, true_or, or_false, false_or, not_true_eq_false, not_false_eq_true, jbs, jup_s, jup_k, jup_o]
        · simp (disch := omega) only [Cycle_findCycle_c12, w3, ↓reduceIte, jw_id, jlt_T, jlt_F, jle_T, jle_F, jeq_T, jeq_F, and_self, and_true, true_and, and_false, false_and, or_true, true_or, or_false, false_or, not_true_eq_false, not_false_eq_true, jbs, jup_s, jup_k, jup_o]
/-- the period's answer -/
noncomputable def perA (d : Nat) (dg : Nat → Nat) (v : Int) : Int := match sPr d (pn d dg) 160 1 with
  | some x => if v = 0 then (x.1 : Int) else (x.2 : Int)
  | none => -2
/-- what the class has of it so far -/
def CyC (σ : jxS) (d : Nat) (dg : Nat → Nat) : Prop := σ 20 0 = 0 ∧ (σ 19 2 = 0 ∨ (σ 19 2 = 1 ∧ match sPr d (pn d dg) 160 1 with
  | some x => σ 19 3 = (x.1 : Int) ∧ σ 19 4 = (x.2 : Int) ∧ 1 ≤ x.1 ∧ x.1 ≤ 160
  | none => σ 19 3 = 0))
def CYQ (a : Nat) (_ : Int) : Prop := a = 19 ∨ a = 20 ∨ a = 21
theorem cc_25 {F : Nat} {σ : jxS} {d : Nat} {dg : Nat → Nat} {v : Int} (hv : v = 0 ∨ v = 1) (h : match sPr d (pn d dg) 160 1 with
  | some x => σ 19 3 = (x.1 : Int) ∧ σ 19 4 = (x.2 : Int) ∧ 1 ≤ x.1 ∧ x.1 ≤ 160
  | none => σ 19 3 = 0) : Cycle_answer_c25 F v σ = some (perA d dg v, σ) := by
  unfold perA
  cases hs : sPr d (pn d dg) 160 1 with
  | none =>
    rw [hs] at h
    simp only at h ⊢
    simp (disch := omega) only [Cycle_answer_c25, h, ↓reduceIte, jw_id, jlt_T, jlt_F, jle_T, jle_F, jeq_T, jeq_F, and_self, and_true, true_and, and_false, false_and, or_true, true_or, or_false, false_or, not_true_eq_false, not_false_eq_true, jbs, jup_s, jup_k, jup_o]
  | some x =>
    rw [hs] at h
    obtain ⟨w3, w4, w5, w6⟩ := h
    rcases hv with rfl | rfl
    · simp (disch := omega) only [Cycle_answer_c25, w3, w4, ↓reduceIte, jw_id, jlt_T, jlt_F, jle_T, jle_F, jeq_T, jeq_F, and_self, and_true, true_and, and_false, false_and, or_true, true_or, or_false, false_or, not_true_eq_false, not_false_eq_true, jbs, jup_s, jup_k, jup_o]
    · simp (disch := omega) only [Cycle_answer_c25, w3, w4, ↓reduceIte, jw_id, jlt_T, jlt_F, jle_T, jle_F, jeq_T, jeq_F, and_self, and_true, true_and, and_false, false_and, or_true, true_or, or_false, false_or, not_true_eq_false, not_false_eq_true, jbs, jup_s, jup_k, jup_o]
theorem ca_period {F : Nat} {σ : jxS} {d : Nat} {dg : Nat → Nat} {v : Int} (hd : d ≤ 8) (dl : ∀ i, dg i < 8) (wd : σ 10 8 = (d : Int)) (wg : ∀ i : Nat, i < d → σ 11 i = (dg i : Int)) (hv : v = 0 ∨ v = 1) (h : CyC σ d dg) (hF : 5000 ≤ F) : ∃ σ', Cycle_answer F σ v = some (perA d dg v, σ') ∧ jfr CYQ σ σ' ∧ CyC σ' d dg := by
  obtain ⟨h0, h1 | ⟨h1, h2⟩⟩ := h
  · obtain ⟨σ1, a1, a2, a3⟩ := ca_findNimbers (F := F) hd dl wd wg h0 hF
    have w1 : σ1 10 8 = (d : Int) := by rw [a2 10 8 (by simp [CYP])]; exact wd
    have f2 : jfr P19 σ1 (jup (jup σ1 19 3 0) 19 4 0) := jfr_up (jfr_up (jfr_refl _ _) ⟨rfl, Or.inl rfl⟩) ⟨rfl, Or.inr rfl⟩
    obtain ⟨σ2, b1, b2, b3⟩ := cp_p (F := F) (d := d) (f := pn d dg) (σ := jup (jup σ1 19 3 0) 19 4 0) hd (fun g hg => Nat.le_trans (pn_le d dg g) hg) (fun g hg => by rw [jup_o (by omega), jup_o (by omega)]; exact a3 g hg) (by rw [jup_k (by omega), jup_s]) (jup_s _ _ _ _) (by omega) 160 F 1 (by omega) (by omega) (by omega)
    have f3 : jfr CYQ σ (jup σ2 19 2 1) := jfr_up (jfr_trans (jfr_trans (jfr_mono a2 (fun a j h => Or.inr h)) (jfr_mono f2 (fun a j h => Or.inl h.1))) (jfr_mono b2 (fun a j h => Or.inl h.1))) (Or.inl rfl)
    have b3' : match sPr d (pn d dg) 160 1 with
      | some x => (jup σ2 19 2 1) 19 3 = (x.1 : Int) ∧ (jup σ2 19 2 1) 19 4 = (x.2 : Int) ∧ 1 ≤ x.1 ∧ x.1 ≤ 160
      | none => (jup σ2 19 2 1) 19 3 = 0 := by
      rw [jup_k (by omega), jup_k (by omega)]
      exact b3
    refine ⟨jup σ2 19 2 1, ?_, f3, ?_, Or.inr ⟨jup_s _ _ _ _, b3'⟩⟩
    · have b1' : Cycle_findCycle F σ1 d = some (0, σ2) := b1
      rw [Cycle_answer, h1, if_pos (show jw 0 = 0 from rfl), a1, jbs]
      dsimp only
      rw [Rules_digitCount, jbs]
      dsimp only
      rw [w1, b1', jbs]
      exact cc_25 hv b3'
    · rw [jup_o (by omega), b2 20 0 (by simp [P19]), jup_o (by omega), jup_o (by omega)]
      have := a3 0 (by omega)
      rw [pn_0] at this
      exact this
  · refine ⟨σ, ?_, jfr_refl _ _, h0, Or.inr ⟨h1, h2⟩⟩
    rw [Cycle_answer, h1, if_neg (show ¬ jw 1 = 0 by decide)]
    exact cc_25 hv h2
