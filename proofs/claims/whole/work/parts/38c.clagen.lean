/-! The class: rows filled, bits, genera. -/
theorem ca_fill_c {F a : Nat} {v N : Int} (hL : jalen a = N) (hN : N ≤ 100000) : ∀ (n fu : Nat) (i : Int) (σ : jxS), n + i = N → 0 ≤ i → n < fu → (∀ j, 0 ≤ j → j < i → σ a j = v) → ∃ σ', Arrays_fill_AIIV_c5 F a fu v i N σ = some (0, σ') ∧ jag [a] σ σ' ∧ ∀ j, 0 ≤ j → j < N → σ' a j = v := by
  intro n
  induction n with
  | zero =>
    intro fu i σ e1 e2 e3 h
    obtain ⟨fu, rfl⟩ : ∃ k, fu = k + 1 := ⟨fu - 1, by omega⟩
    refine ⟨σ, ?_, jag_refl _ _, fun j h1 h2 => h j h1 (by omega)⟩
    simp (disch := omega) only [Arrays_fill_AIIV_c5, ↓reduceIte, jw_id, jlt_T, jlt_F, jle_T, jle_F, jeq_T, jeq_F, and_self, and_true, true_and, and_false, false_and, or_true, true_or, or_false, false_or, not_true_eq_false, not_false_eq_true, jbs, jup_s, jup_k, jup_o]
  | succ n ih =>
    intro fu i σ e1 e2 e3 h
    obtain ⟨fu, rfl⟩ : ∃ k, fu = k + 1 := ⟨fu - 1, by omega⟩
    obtain ⟨σ', i1, i2, i3⟩ := ih fu (i + 1) (jup σ a i v) (by omega) (by omega) (by omega) (fun j h1 h2 => by
      by_cases e : j = i
      · rw [e, jup_s]
      · rw [jup_k e]; exact h j h1 (by omega))
    refine ⟨σ', ?_, jag_trans (jag_up1 _ _ _ _) i2, i3⟩
    simp (disch := omega) only [Arrays_fill_AIIV_c5, hL, ↓reduceIte, jw_id, jlt_T, jlt_F, jle_T, jle_F, jeq_T, jeq_F, and_self, and_true, true_and, and_false, false_and, or_true, true_or, or_false, false_or, not_true_eq_false, not_false_eq_true, jbs, jup_s, jup_k, jup_o]
    exact i1
theorem ca_fill {F a : Nat} {v : Int} {N : Nat} (σ : jxS) (hL : jalen a = N) (hN : N ≤ 4096) (hF : 5000 ≤ F) : ∃ σ', Arrays_fill_AIIV F a σ v = some (0, σ') ∧ jag [a] σ σ' ∧ ∀ j : Int, 0 ≤ j → j < N → σ' a j = v := by
  rw [Arrays_fill_AIIV, hL]
  exact ca_fill_c hL (by omega) N F 0 σ (by omega) (by omega) (by omega) (fun j h1 h2 => by omega)
theorem ca_fillL_c {F a : Nat} {v N : Int} (hL : jalen a = N) (hN : N ≤ 100000) : ∀ (n fu : Nat) (i : Int) (σ : jxS), n + i = N → 0 ≤ i → n < fu → (∀ j, 0 ≤ j → j < i → σ a j = v) → ∃ σ', Arrays_fill_AJJV_c6 F a fu v i N σ = some (0, σ') ∧ jag [a] σ σ' ∧ ∀ j, 0 ≤ j → j < N → σ' a j = v := by
  intro n
  induction n with
  | zero =>
    intro fu i σ e1 e2 e3 h
    obtain ⟨fu, rfl⟩ : ∃ k, fu = k + 1 := ⟨fu - 1, by omega⟩
    refine ⟨σ, ?_, jag_refl _ _, fun j h1 h2 => h j h1 (by omega)⟩
    simp (disch := omega) only [Arrays_fill_AJJV_c6, ↓reduceIte, jw_id, jlt_T, jlt_F, jle_T, jle_F, jeq_T, jeq_F, and_self, and_true, true_and, and_false, false_and, or_true, true_or, or_false, false_or, not_true_eq_false, not_false_eq_true, jbs, jup_s, jup_k, jup_o]
  | succ n ih =>
    intro fu i σ e1 e2 e3 h
    obtain ⟨fu, rfl⟩ : ∃ k, fu = k + 1 := ⟨fu - 1, by omega⟩
    obtain ⟨σ', i1, i2, i3⟩ := ih fu (i + 1) (jup σ a i v) (by omega) (by omega) (by omega) (fun j h1 h2 => by
      by_cases e : j = i
      · rw [e, jup_s]
      · rw [jup_k e]; exact h j h1 (by omega))
    refine ⟨σ', ?_, jag_trans (jag_up1 _ _ _ _) i2, i3⟩
    simp (disch := omega) only [Arrays_fill_AJJV_c6, hL, ↓reduceIte, jw_id, jlt_T, jlt_F, jle_T, jle_F, jeq_T, jeq_F, and_self, and_true, true_and, and_false, false_and, or_true, true_or, or_false, false_or, not_true_eq_false, not_false_eq_true, jbs, jup_s, jup_k, jup_o]
    exact i1
theorem ca_fillL {F a : Nat} {v : Int} {N : Nat} (σ : jxS) (hL : jalen a = N) (hN : N ≤ 4096) (hF : 5000 ≤ F) : ∃ σ', Arrays_fill_AJJV F a σ v = some (0, σ') ∧ jag [a] σ σ' ∧ ∀ j : Int, 0 ≤ j → j < N → σ' a j = v := by
  rw [Arrays_fill_AJJV, hL]
  exact ca_fillL_c hL (by omega) N F 0 σ (by omega) (by omega) (by omega) (fun j h1 h2 => by omega)
/-- a number whose bits are those of a list -/
def bset (s : Nat) (l : List Nat) : Prop := s < 2 ^ 31 ∧ ∀ j, s.testBit j = decide (j ∈ l)
theorem bset_nil : bset 0 [] := ⟨by decide, fun j => by simp⟩
theorem bset_lt {s : Nat} {l : List Nat} (h : bset s l) : ∀ x, x ∈ l → x < 31 := fun x hx => by
  have := h.2 x
  rw [decide_eq_true hx] at this
  exact Classical.byContradiction fun q => by
    have h2 : s < 2 ^ x := Nat.lt_of_lt_of_le h.1 (Nat.pow_le_pow_right (by decide) (by omega))
    rw [Nat.testBit_lt_two_pow h2] at this
    cases this
theorem bset_add {s v : Nat} {l : List Nat} (h : bset s l) (hv : v < 31) : jor (s : Int) (jshl 1 (v : Int)) = ((s ||| 2 ^ v : Nat) : Int) ∧ bset (s ||| 2 ^ v) (v :: l) := by
  have p : 2 ^ v < 2 ^ 31 := Nat.pow_lt_pow_right (by decide) hv
  have o : s ||| 2 ^ v < 2 ^ 31 := Nat.or_lt_two_pow h.1 p
  have e := bq_shl (a := 1) (k := v) (by omega) (by rw [Nat.one_mul]; exact p)
  rw [Nat.one_mul] at e
  have e' : jshl 1 (v : Int) = ((2 ^ v : Nat) : Int) := e
  refine ⟨by rw [e', bq_or o], o, fun j => ?_⟩
  rw [Nat.testBit_or, h.2 j, Nat.testBit_two_pow]
  simp only [List.mem_cons]
  by_cases e1 : j = v
  · subst e1; simp
  · have e2 : ¬ v = j := fun q => e1 q.symm
    simp [e1, e2]
theorem bset_0 {s : Nat} {l : List Nat} (h : bset s l) : s = 0 ↔ l = [] := by
  constructor
  · intro e
    subst e
    match l, h with
    | [], _ => rfl
    | x :: l, h =>
      have := h.2 x
      simp at this
  · intro e
    subst e
    apply Nat.eq_of_testBit_eq
    intro j
    rw [h.2 j]
    simp
theorem bset_congr {s : Nat} {l l' : List Nat} (h : bset s l) (hm : ∀ x, x ∈ l ↔ x ∈ l') : bset s l' := ⟨h.1, fun j => by rw [h.2 j]; simp only [hm j]⟩
theorem ca_least {F s : Nat} {σ : jxS} {l : List Nat} (h : bset s l) (hm : mex l ≤ 30) (hF : 100 ≤ F) : LL_leastMissing F σ s = some ((mex l : Int), σ) := by
  have key : ∀ (n fu v : Nat), n + v = mex l → n < fu → LL_leastMissing_c4 F fu s v v σ = some ((mex l : Int), σ) := by
    intro n
    induction n with
    | zero =>
      intro fu v e1 e2
      obtain ⟨fu, rfl⟩ : ∃ k, fu = k + 1 := ⟨fu - 1, by omega⟩
      have hv : v = mex l := by omega
      have w := bq_bit (a := s) (k := v) (by omega) h.1
      rw [h.2 v, hv, decide_eq_false (mex_out l)] at w
      simp only [Bool.false_eq_true, if_false] at w
      rw [hv]
      simp (disch := omega) only [LL_leastMissing_c4, w, ↓reduceIte, jw_id, jlt_T, jlt_F, jle_T, jle_F, jeq_T, jeq_F, and_self, and_true, true_and, and_false, false_and, or_true, true_or, or_false, false_or, not_true_eq_false, not_false_eq_true, jbs, jup_s, jup_k, jup_o]
    | succ n ih =>
      intro fu v e1 e2
      obtain ⟨fu, rfl⟩ : ∃ k, fu = k + 1 := ⟨fu - 1, by omega⟩
      have w := bq_bit (a := s) (k := v) (by omega) h.1
      rw [h.2 v, decide_eq_true (mex_in (by omega))] at w
      simp only [if_true] at w
      have := ih fu (v + 1) (by omega) (by omega)
      rw [Int.natCast_add, Int.natCast_one] at this
      simp (disch := omega) only [LL_leastMissing_c4, w, ↓reduceIte, jw_id, jlt_T, jlt_F, jle_T, jle_F, jeq_T, jeq_F, and_self, and_true, true_and, and_false, false_and, or_true, true_or, or_false, false_or, not_true_eq_false, not_false_eq_true, jbs, jup_s, jup_k, jup_o]
      exact this
  exact key (mex l) F 0 (by omega) (by omega)
/-- the digits of base 32 -/
noncomputable def gps (M : Nat → List Nat) (p : Nat) (t : Nat) : Nat := match t with
  | 0 => 0
  | t + 1 => gps M p t + 32 ^ t * bk M p t
theorem gps_lt {M : Nat → List Nat} (hM : MOK M) (p : Nat) : ∀ t, t ≤ 6 → gps M p t < 32 ^ t := by
  intro t
  induction t with
  | zero => intro _; exact Nat.one_pos
  | succ t ih =>
    intro ht
    have i := ih (by omega)
    have b := bk_27 hM p (t := t) (by omega)
    have m : 32 ^ t * bk M p t ≤ 32 ^ t * 27 := Nat.mul_le_mul_left _ b
    have e : 32 ^ (t + 1) = 32 ^ t * 32 := Nat.pow_succ _ _
    simp only [gps]
    omega
theorem gps_6 (M : Nat → List Nat) (p : Nat) : gps M p 6 = gpk M p := by
  simp only [gps, gpk]
  omega
theorem gps_at {M : Nat → List Nat} (hM : MOK M) (p : Nat) {s : Nat} : ∀ t, s < t → t ≤ 6 → gps M p t / 32 ^ s % 32 = bk M p s := by
  intro t
  induction t with
  | zero => intro h _; omega
  | succ t ih =>
    intro h ht
    have b := bk_27 hM p (t := s) (by omega)
    have l := gps_lt hM p t (by omega)
    have hp : 0 < 32 ^ s := Nat.pow_pos (by decide)
    simp only [gps]
    by_cases e : s = t
    · subst e
      rw [Nat.add_mul_div_left _ _ hp, Nat.div_eq_of_lt l, Nat.zero_add, Nat.mod_eq_of_lt (by omega)]
    · have i := ih (by omega) (by omega)
      have e2 : 32 ^ t = 32 ^ s * (32 * 32 ^ (t - s - 1)) := by
        rw [← Nat.pow_succ', ← Nat.pow_add]
        congr 1
        omega
      rw [e2, Nat.mul_assoc, Nat.add_mul_div_left _ _ hp, Nat.mul_assoc, Nat.add_mul_mod_self_left]
      exact i
/-- the sets of numbers seen -/
def SeC (σ : jxS) (L : Nat → List Nat) : Prop := ∀ t : Nat, t < 6 → ∃ s : Nat, σ 36 t = (s : Int) ∧ bset s (L t)
def P36 (a : Nat) (_ : Int) : Prop := a = 36
theorem gpk_lt {M : Nat → List Nat} (hM : MOK M) (p : Nat) : gpk M p < 2 ^ 30 := by
  rw [← gps_6]
  exact Nat.lt_of_lt_of_le (gps_lt hM p 6 (by omega)) (by decide)
theorem gd_s (x t : Nat) : x / 32 ^ t / 32 = x / 32 ^ (t + 1) := by rw [Nat.div_div_eq_div_mul, Nat.pow_succ]
theorem cg_in {F q : Nat} {M : Nat → List Nat} {k18 : Int → jxS → Option jxR} {v2 : Int} (hM : MOK M) : ∀ (n fu t : Nat) (σ : jxS) (L : Nat → List Nat), n + t = 6 → SeC σ L → n < fu → ∃ σ' L', Values_judgeGenera_c57 F k18 fu v2 ((gpk M q / 32 ^ t : Nat) : Int) t σ = k18 (v2 + 1) σ' ∧ jfr P36 σ σ' ∧ SeC σ' L' ∧ (∀ s, s < t → L' s = L s) ∧ ∀ s, t ≤ s → s < 6 → L' s = bk M q s :: L s := by
  intro n
  induction n with
  | zero =>
    intro fu t σ L e1 h e2
    obtain ⟨fu, rfl⟩ : ∃ k, fu = k + 1 := ⟨fu - 1, by omega⟩
    refine ⟨σ, L, ?_, jfr_refl _ _, h, fun _ _ => rfl, fun s h1 h2 => by omega⟩
    simp (disch := omega) only [Values_judgeGenera_c57, ↓reduceIte, jw_id, jlt_T, jlt_F, jle_T, jle_F, jeq_T, jeq_F, and_self, and_true, true_and, and_false, false_and, or_true, true_or, or_false, false_or, not_true_eq_false, not_false_eq_true, jbs, jup_s, jup_k, jup_o]
  | succ n ih =>
    intro fu t σ L e1 h e2
    obtain ⟨fu, rfl⟩ : ∃ k, fu = k + 1 := ⟨fu - 1, by omega⟩
    obtain ⟨x, w, hx⟩ := h t (by omega)
    have b := bk_27 hM q (t := t) (by omega)
    have g := gps_at hM q (s := t) 6 (by omega) (by omega)
    rw [gps_6] at g
    have gl := gpk_lt hM q
    have gl2 : gpk M q / 32 ^ t ≤ gpk M q := Nat.div_le_self _ _
    have a1 : jand ((gpk M q / 32 ^ t : Nat) : Int) 31 = (bk M q t : Int) := by rw [bq_and31, ← g]; omega
    have a2 : jshr ((gpk M q / 32 ^ t : Nat) : Int) 5 = ((gpk M q / 32 ^ (t + 1) : Nat) : Int) := by
      have := bq_shr (a := gpk M q / 32 ^ t) (k := 5) (by omega) (by omega)
      rw [← gd_s]
      exact this
    obtain ⟨c1, c2⟩ := bset_add hx (v := bk M q t) (by omega)
    obtain ⟨σ', L', i1, i2, i3, i4, i5⟩ := ih fu (t + 1) (jup σ 36 t ((x ||| 2 ^ bk M q t : Nat) : Int)) (fun s => if s = t then bk M q t :: L s else L s) (by omega) (fun s hs => by
      by_cases e : s = t
      · subst e
        exact ⟨_, jup_s _ _ _ _, by simp only [if_true]; exact c2⟩
      · obtain ⟨y, y1, y2⟩ := h s hs
        exact ⟨y, by rw [jup_k (by omega)]; exact y1, by simp only [if_neg e]; exact y2⟩) (by omega)
    refine ⟨σ', L', ?_, jfr_trans (jfr_up (jfr_refl _ _) rfl) i2, i3, fun s hs => by rw [i4 s (by omega)]; simp only [if_neg (show ¬ s = t by omega)], fun s h1 h2 => ?_⟩
    · rw [Int.natCast_add, Int.natCast_one] at i1
      simp (disch := omega) only [Values_judgeGenera_c57, w, a1, a2, c1, ↓reduceIte, jw_id, jlt_T, jlt_F, jle_T, jle_F, jeq_T, jeq_F, and_self, and_true, true_and, and_false, false_and, or_true, true_or, or_false, false_or, not_true_eq_false, not_false_eq_true, jbs, jup_s, jup_k, jup_o]
      exact i1
    · by_cases e : s = t
      · subst e; rw [i4 s (by omega)]; simp only [if_true]
      · rw [i5 s (by omega) h2]; simp only [if_neg e]
theorem cg_targets {F p N : Nat} {σ0 : jxS} {M : Nat → List Nat} (hM : MOK M) (hp : p < 4224) (hG : ∀ q : Nat, q < p → σ0 35 q = (gpk M q : Int)) (wn : σ0 38 4 = (N : Int)) (hN : N ≤ 203) (hF : 1000 ≤ F) : ∀ (r : List Nat) (fu i : Nat) (σ : jxS) (L : Nat → List Nat), rowL σ0 39 i r → r.length + i = N → (∀ q, q ∈ r → q < p) → r.length < fu → jfr P36 σ0 σ → SeC σ L → ∃ σ' L', Values_judgeGenera_c18 F fu i σ = Values_judgeGenera_c100 F F 0 0 σ' ∧ jfr P36 σ0 σ' ∧ SeC σ' L' ∧ ∀ t, t < 6 → ∀ x, x ∈ L' t ↔ x ∈ L t ∨ x ∈ r.map (fun q => bk M q t) := by
  intro r
  induction r with
  | nil =>
    intro fu i σ L e1 e2 e3 e4 f h
    obtain ⟨fu, rfl⟩ : ∃ k, fu = k + 1 := ⟨fu - 1, by omega⟩
    simp only [List.length_nil] at e2
    have w : σ 38 4 = (N : Int) := by rw [f 38 4 (by simp [P36])]; exact wn
    refine ⟨σ, L, ?_, f, h, fun t ht x => by simp⟩
    simp (disch := omega) only [Values_judgeGenera_c18, w, ↓reduceIte, jw_id, jlt_T, jlt_F, jle_T, jle_F, jeq_T, jeq_F, and_self, and_true, true_and, and_false, false_and, or_true, true_or, or_false, false_or, not_true_eq_false, not_false_eq_true, jbs, jup_s, jup_k, jup_o]
  | cons q r ih =>
    intro fu i σ L e1 e2 e3 e4 f h
    obtain ⟨fu, rfl⟩ : ∃ k, fu = k + 1 := ⟨fu - 1, by omega⟩
    simp only [List.length_cons] at e2 e4
    have w : σ 38 4 = (N : Int) := by rw [f 38 4 (by simp [P36])]; exact wn
    have hq := e3 q (List.mem_cons_self ..)
    have wq : σ 39 (i : Int) = (q : Int) := by
      rw [f 39 _ (by simp [P36])]
      have := e1 0 q rfl
      rwa [Nat.add_zero] at this
    have wg : σ 35 (q : Int) = (gpk M q : Int) := by rw [f 35 _ (by simp [P36])]; exact hG q hq
    obtain ⟨σ1, L1, a1, a2, a3, a4, a5⟩ := cg_in (F := F) (q := q) (k18 := Values_judgeGenera_c18 F fu) (v2 := i) hM 6 F 0 σ L (by omega) h (by omega)
    have a1' : Values_judgeGenera_c57 F (Values_judgeGenera_c18 F fu) F (i : Int) (gpk M q : Int) 0 σ = Values_judgeGenera_c18 F fu ((i : Int) + 1) σ1 := by
      have := a1
      rw [Nat.pow_zero, Nat.div_one] at this
      exact this
    obtain ⟨σ2, L2, b1, b2, b3, b4⟩ := ih fu (i + 1) σ1 L1 (fun j x hj => by have := e1 (j + 1) x (by simpa using hj); rwa [show i + (j + 1) = i + 1 + j by omega] at this) (by omega) (fun x hx => e3 x (List.mem_cons_of_mem _ hx)) (by omega) (jfr_trans f a2) a3
    refine ⟨σ2, L2, ?_, b2, b3, fun t ht x => by rw [b4 t ht x, a5 t (by omega) ht]; simp only [List.mem_cons, List.map_cons]; grind⟩
    rw [Int.natCast_add, Int.natCast_one] at b1
    simp (disch := omega) only [Values_judgeGenera_c18, w, wq, wg, ↓reduceIte, jw_id, jlt_T, jlt_F, jle_T, jle_F, jeq_T, jeq_F, and_self, and_true, true_and, and_false, false_and, or_true, true_or, or_false, false_or, not_true_eq_false, not_false_eq_true, jbs, jup_s, jup_k, jup_o]
    rw [a1', b1]
theorem jt0 : ∀ t : Nat, t < 6 → ∀ s : Nat, s < 6 → jand (jshr (jtab0.getD t 0) (s : Int)) 1 = if s ∈ t2 t then 1 else 0 := by decide +kernel
theorem t2_lt : ∀ t, t < 6 → ∀ s, s ∈ t2 t → s < t := fun t ht s hs => (t2_tb t ht s hs).2
theorem sh5 {x s : Nat} (hs : s < 6) (hx : x < 2 ^ 31) : jand (jshr (x : Int) (5 * (s : Int))) 31 = ((x / 32 ^ s % 32 : Nat) : Int) := by
  have := bq_shr (a := x) (k := 5 * s) (by omega) hx
  rw [show (2 : Nat) ^ (5 * s) = 32 ^ s by rw [Nat.pow_mul]] at this
  rw [show (5 * (s : Int)) = ((5 * s : Nat) : Int) by omega, this, bq_and31]
  omega
/-- what the nim heaps beside can become -/
theorem cg_beside {F p t : Nat} {M : Nat → List Nat} {k100 : Int → Int → jxS → Option jxR} (hM : MOK M) (ht : t < 6) : ∀ (n fu s : Nat) (σ : jxS) (L : Nat → List Nat), n + s = t → SeC σ L → n < fu → ∃ σ' L' g, Values_judgeGenera_c109 F k100 fu (gps M p t) t s σ = Values_judgeGenera_c109 F k100 (g + 1) (gps M p t) t t σ' ∧ jfr P36 σ σ' ∧ SeC σ' L' ∧ (∀ u, u ≠ t → L' u = L u) ∧ ∀ x, x ∈ L' t ↔ x ∈ L t ∨ ∃ u, s ≤ u ∧ u ∈ t2 t ∧ x = bk M p u := by
  intro n
  induction n with
  | zero =>
    intro fu s σ L e1 h e2
    obtain ⟨fu, rfl⟩ : ∃ k, fu = k + 1 := ⟨fu - 1, by omega⟩
    have : s = t := by omega
    subst this
    refine ⟨σ, L, fu, rfl, jfr_refl _ _, h, fun _ _ => rfl, fun x => ⟨Or.inl, fun q => ?_⟩⟩
    rcases q with q | ⟨u, h1, h2, h3⟩
    · exact q
    · have := t2_lt s ht u h2
      omega
  | succ n ih =>
    intro fu s σ L e1 h e2
    obtain ⟨fu, rfl⟩ : ∃ k, fu = k + 1 := ⟨fu - 1, by omega⟩
    have j0 := jt0 t ht s (by omega)
    have tn : ((t : Int)).toNat = t := Int.toNat_natCast t
    have b := bk_27 hM p (t := s) (by omega)
    have gl := gps_lt hM p t (by omega)
    have gl2 : gps M p t < 2 ^ 31 := Nat.lt_of_lt_of_le gl (Nat.le_trans (Nat.pow_le_pow_right (by decide) (show t ≤ 6 by omega)) (by decide))
    have sa := sh5 (x := gps M p t) (s := s) (by omega) gl2
    rw [gps_at hM p t (by omega) (by omega)] at sa
    by_cases q : s ∈ t2 t
    · rw [if_pos q] at j0
      obtain ⟨x, w, hx⟩ := h t ht
      obtain ⟨c1, c2⟩ := bset_add hx (v := bk M p s) (by omega)
      obtain ⟨σ', L', g, i1, i2, i3, i4, i5⟩ := ih fu (s + 1) (jup σ 36 t ((x ||| 2 ^ bk M p s : Nat) : Int)) (fun u => if u = t then bk M p s :: L u else L u) (by omega) (fun u hu => by
        by_cases e : u = t
        · subst e
          exact ⟨_, jup_s _ _ _ _, by simp only [if_true]; exact c2⟩
        · obtain ⟨y, y1, y2⟩ := h u hu
          exact ⟨y, by rw [jup_k (by omega)]; exact y1, by simp only [if_neg e]; exact y2⟩) (by omega)
      refine ⟨σ', L', g, ?_, jfr_trans (jfr_up (jfr_refl _ _) rfl) i2, i3, fun u hu => by rw [i4 u hu]; simp only [if_neg hu], fun y => ?_⟩
      · rw [Int.natCast_add, Int.natCast_one] at i1
        rw [← i1, Values_judgeGenera_c109]
        simp (disch := omega) only [tn, j0, w, sa, c1, ↓reduceIte, jw_id, jlt_T, jlt_F, jle_T, jle_F, jeq_T, jeq_F, and_self, and_true, true_and, and_false, false_and, or_true, true_or, or_false, false_or, not_true_eq_false, not_false_eq_true, jbs, jup_s, jup_k, jup_o]
      · rw [i5 y]
        simp only [if_true, List.mem_cons]
        constructor
        · rintro ((h1 | h1) | ⟨u, h1, h2, h3⟩)
          · exact Or.inr ⟨s, Nat.le_refl _, q, h1⟩
          · exact Or.inl h1
          · exact Or.inr ⟨u, by omega, h2, h3⟩
        · rintro (h1 | ⟨u, h1, h2, h3⟩)
          · exact Or.inl (Or.inr h1)
          · by_cases e : u = s
            · subst e; exact Or.inl (Or.inl h3)
            · exact Or.inr ⟨u, by omega, h2, h3⟩
    · rw [if_neg q] at j0
      obtain ⟨σ', L', g, i1, i2, i3, i4, i5⟩ := ih fu (s + 1) σ L (by omega) h (by omega)
      refine ⟨σ', L', g, ?_, i2, i3, i4, fun y => ?_⟩
      · rw [Int.natCast_add, Int.natCast_one] at i1
        rw [← i1, Values_judgeGenera_c109]
        simp (disch := omega) only [tn, j0, ↓reduceIte, jw_id, jlt_T, jlt_F, jle_T, jle_F, jeq_T, jeq_F, and_self, and_true, true_and, and_false, false_and, or_true, true_or, or_false, false_or, not_true_eq_false, not_false_eq_true, jbs, jup_s, jup_k, jup_o]
      · rw [i5 y]
        constructor
        · rintro (h1 | ⟨u, h1, h2, h3⟩)
          · exact Or.inl h1
          · exact Or.inr ⟨u, by omega, h2, h3⟩
        · rintro (h1 | ⟨u, h1, h2, h3⟩)
          · exact Or.inl h1
          · by_cases e : u = s
            · subst e; exact absurd h2 q
            · exact Or.inr ⟨u, by omega, h2, h3⟩
theorem or_gps {M : Nat → List Nat} (hM : MOK M) {p t : Nat} (ht : t < 6) : jor (gps M p t : Int) (jshl (bk M p t : Int) (5 * (t : Int))) = (gps M p (t + 1) : Int) := by
  have b := bk_27 hM p (t := t) ht
  have gl := gps_lt hM p t (by omega)
  have gl2 := gps_lt hM p (t + 1) (by omega)
  have p6 : (32 : Nat) ^ (t + 1) ≤ 2 ^ 30 := Nat.le_trans (Nat.pow_le_pow_right (by decide) (show t + 1 ≤ 6 by omega)) (by decide)
  have e5 : (2 : Nat) ^ (5 * t) = 32 ^ t := by rw [Nat.pow_mul]
  have gs : gps M p (t + 1) = gps M p t + 32 ^ t * bk M p t := rfl
  have c : bk M p t * 2 ^ (5 * t) < 2 ^ 31 := by
    rw [e5, Nat.mul_comm]
    have : 32 ^ t * bk M p t ≤ gps M p (t + 1) := by rw [gs]; exact Nat.le_add_left _ _
    exact Nat.lt_of_le_of_lt this (Nat.lt_of_lt_of_le gl2 (Nat.le_trans p6 (by decide)))
  rw [show (5 * (t : Int)) = ((5 * t : Nat) : Int) by omega, bq_shl (by omega) c]
  have o : gps M p t ||| bk M p t * 2 ^ (5 * t) = gps M p (t + 1) := by
    rw [Nat.or_comm, Nat.mul_comm, ← Nat.two_pow_add_eq_or_of_lt (by rw [e5]; exact gl), e5, gs, Nat.add_comm]
  rw [bq_or (by rw [o]; exact Nat.lt_of_lt_of_le gl2 (Nat.le_trans p6 (by decide))), o]
theorem cg_found {F p : Nat} {M : Nat → List Nat} (hM : MOK M) (hF : 1000 ≤ F) : ∀ (n fu t : Nat) (σ : jxS) (L : Nat → List Nat), n + t = 6 → SeC σ L → (∀ u, t ≤ u → u < 6 → ∀ x, x ∈ L u ↔ x ∈ (T M p).map (fun q => bk M q u)) → n < fu → ∃ σ', Values_judgeGenera_c100 F fu (gps M p t) t σ = some ((gpk M p : Int), σ') ∧ jfr P36 σ σ' := by
  intro n
  induction n with
  | zero =>
    intro fu t σ L e1 h hL e2
    obtain ⟨fu, rfl⟩ : ∃ k, fu = k + 1 := ⟨fu - 1, by omega⟩
    have : t = 6 := by omega
    subst this
    refine ⟨σ, ?_, jfr_refl _ _⟩
    rw [gps_6]
    simp (disch := omega) only [Values_judgeGenera_c100, ↓reduceIte, jw_id, jlt_T, jlt_F, jle_T, jle_F, jeq_T, jeq_F, and_self, and_true, true_and, and_false, false_and, or_true, true_or, or_false, false_or, not_true_eq_false, not_false_eq_true, jbs, jup_s, jup_k, jup_o]
  | succ n ih =>
    intro fu t σ L e1 h hL e2
    obtain ⟨fu, rfl⟩ : ∃ k, fu = k + 1 := ⟨fu - 1, by omega⟩
    have ht : t < 6 := by omega
    obtain ⟨σ1, L1, g, a1, a2, a3, a4, a5⟩ := cg_beside (F := F) (p := p) (k100 := Values_judgeGenera_c100 F fu) hM ht t F 0 σ L (by omega) h (by omega)
    obtain ⟨x, w, hx⟩ := a3 t ht
    have mem : ∀ y, y ∈ L1 t ↔ y ∈ (t2 t).map (fun s => bk M p s) ++ (T M p).map (fun q => bk M q t) := fun y => by
      rw [a5 y, hL t (Nat.le_refl _) ht y, List.mem_append, List.mem_map (l := t2 t)]
      constructor
      · rintro (h1 | ⟨u, _, h2, h3⟩)
        · exact Or.inr h1
        · exact Or.inl ⟨u, h2, h3.symm⟩
      · rintro (⟨u, h2, h3⟩ | h1)
        · exact Or.inr ⟨u, Nat.zero_le _, h2, h3.symm⟩
        · exact Or.inl h1
    have be := bk_eq hM p ht
    have b27 := bk_27 hM p ht
    obtain ⟨σ2, i1, i2⟩ := ih fu (t + 1) σ1 L1 (by omega) a3 (fun u h1 h2 y => by rw [a4 u (by omega)]; exact hL u (by omega) h2 y) (by omega)
    have og := or_gps hM (p := p) ht
    have st : Values_judgeGenera_c109 F (Values_judgeGenera_c100 F fu) (g + 1) (gps M p t) t t σ1 = Values_judgeGenera_c100 F fu (gps M p (t + 1)) ((t : Int) + 1) σ1 := by
      have hxl := hx.1
      have x0 := bset_0 hx
      by_cases z : x = 0
      · have z2 := x0.mp z
        have z3 : ((t2 t).map (fun s => bk M p s) ++ (T M p).map (fun q => bk M q t)).isEmpty = true := by
          cases hh : (t2 t).map (fun s => bk M p s) ++ (T M p).map (fun q => bk M q t) with
          | nil => rfl
          | cons y l =>
            have := (mem y).mpr (by rw [hh]; exact List.mem_cons_self ..)
            rw [z2] at this
            simp at this
        rw [if_pos z3] at be
        rw [be] at og
        rw [z] at w
        clear be z3 mem x0 hL a5
        simp (disch := omega) only [Values_judgeGenera_c109, Values_judgeGenera_c177, w, ↓reduceIte, jw_id, jlt_T, jlt_F, jle_T, jle_F, jeq_T, jeq_F, and_self, and_true, true_and, and_false, false_and, or_true, true_or, or_false, false_or, not_true_eq_false, not_false_eq_true, jbs, jup_s, jup_k, jup_o]
        exact congrArg (fun y => Values_judgeGenera_c100 F fu y ((t : Int) + 1) σ1) og
      · have z3 : ¬ ((t2 t).map (fun s => bk M p s) ++ (T M p).map (fun q => bk M q t)).isEmpty = true := fun q => by
          rw [List.isEmpty_iff] at q
          refine z (x0.mpr ?_)
          cases hh : L1 t with
          | nil => rfl
          | cons y l =>
            have := (mem y).mp (by rw [hh]; exact List.mem_cons_self ..)
            rw [q] at this
            simp at this
        rw [if_neg z3, ← mex_congr mem] at be
        have lm := ca_least (F := F) (σ := σ1) hx (by rw [← be]; omega) (by omega)
        rw [← be] at lm
        clear be z3 mem x0 hL a5
        simp (disch := omega) only [Values_judgeGenera_c109, Values_judgeGenera_c177, w, lm, ↓reduceIte, jw_id, jlt_T, jlt_F, jle_T, jle_F, jeq_T, jeq_F, and_self, and_true, true_and, and_false, false_and, or_true, true_or, or_false, false_or, not_true_eq_false, not_false_eq_true, jbs, jup_s, jup_k, jup_o]
        exact congrArg (fun y => Values_judgeGenera_c100 F fu y ((t : Int) + 1) σ1) og
    refine ⟨σ2, ?_, jfr_trans a2 i2⟩
    rw [Int.natCast_add, Int.natCast_one] at i1
    rw [Values_judgeGenera_c100, if_pos (by clear be mem; unfold jw; omega)]
    exact (a1.trans st).trans i1
theorem ca_genera {F p : Nat} {σ : jxS} {M : Nat → List Nat} (hM : MOK M) (hp : p < 4224) (hG : ∀ q : Nat, q < p → σ 35 q = (gpk M q : Int)) (wn : σ 38 4 = ((T M p).length : Int)) (wr : rowL σ 39 0 (T M p)) (hF : 5000 ≤ F) : ∃ σ', Values_judgeGenera F σ = some ((gpk M p : Int), σ') ∧ jfr P36 σ σ' := by
  have hl : (T M p).length ≤ 203 := by rw [T_eq, tl, List.length_map]; exact ops_len hM _
  obtain ⟨σ1, a1, a2, a3⟩ := ca_fill (F := F) (a := 36) (v := 0) (N := 6) σ (by decide) (by omega) hF
  have f1 : jfr P36 σ σ1 := jfr_ag a2 (fun a j h => List.mem_singleton.mp h)
  obtain ⟨σ2, L2, b1, b2, b3, b4⟩ := cg_targets (F := F) hM hp (fun q hq => by rw [f1 35 _ (by simp [P36])]; exact hG q hq) (by rw [f1 38 4 (by simp [P36])]; exact wn) hl (by omega) (T M p) F 0 σ1 (fun _ => []) (rowL_F wr f1 (by simp [P36])) (by omega) (fun q hq => (T_mem hM hq).1) (by omega) (jfr_refl _ _) (fun t ht => ⟨0, a3 t (by omega) (by omega), bset_nil⟩)
  obtain ⟨σ3, c1, c2⟩ := cg_found (F := F) (p := p) hM (by omega) 6 F 0 σ2 L2 (by omega) b3 (fun u _ h2 x => by rw [b4 u h2 x]; simp) (by omega)
  refine ⟨σ3, ?_, jfr_trans (jfr_trans f1 b2) c2⟩
  rw [Values_judgeGenera, a1, jbs]
  exact b1.trans c1
