/-! The hand, on both sides. -/
def HaC (σ : jxS) (c : Nat → Nat) (us : List (Nat → Nat)) : Prop := σ 29 2 = (rank c : Int) ∧ (okc c ∧ beans c ≤ 22) ∧ (∀ u, u ∈ us → okc u ∧ beans u ≤ 22) ∧ us.length ≤ 30 ∧ σ 29 4 = (us.length : Int) ∧ ∃ t : Nat, t < 30 ∧ σ 29 3 = (t : Int) ∧ ∀ (i : Nat) (u : Nat → Nat), us[i]? = some u → σ 30 (((t + 29 - i) % 30 : Nat) : Int) = (rank u : Int)
def HP (a : Nat) (j : Int) : Prop := a = 30 ∨ (a = 29 ∧ (j = 2 ∨ j = 3 ∨ j = 4))
theorem jd30 {x : Int} (h : 0 ≤ x) (h2 : x ≤ 2147483647) : jdiv x 30 = x / 30 ∧ jrem x 30 = x % 30 := jdv h h2 rfl
theorem ch_become {F : Nat} {σ : jxS} {p now t n : Int} (h2 : σ 29 2 = now) (h3 : σ 29 3 = t) (h4 : σ 29 4 = n) (ht : 0 ≤ t) (ht2 : t < 30) (hn : 0 ≤ n) (hn2 : n ≤ 30) : Hand_become F σ p = some (0, jup (jup (jup (jup σ 30 t now) 29 3 ((t + 1) % 30)) 29 4 (if n < 30 then n + 1 else 30)) 29 2 p) := by
  have d := (jd30 (x := t + 1) (by omega) (by omega)).2
  have e : jmin (n + 1) 30 = if n < 30 then n + 1 else 30 := by
    unfold jmin jw
    split <;> split <;> omega
  simp (disch := omega) only [Hand_become, h2, h3, h4, d, e, ↓reduceIte, jw_id, jlt_T, jlt_F, jle_T, jle_F, jeq_T, jeq_F, and_self, and_true, true_and, and_false, false_and, or_true, true_or, or_false, false_or, not_true_eq_false, not_false_eq_true, jbs, jup_s, jup_k, jup_o]
theorem ca_become {F : Nat} {σ : jxS} {c c' : Nat → Nat} {us : List (Nat → Nat)} (h : HaC σ c us) (hc : okc c') (hb : beans c' ≤ 22) : ∃ σ', Hand_become F σ (rank c') = some (0, σ') ∧ jfr HP σ σ' ∧ HaC σ' c' ((c :: us).take 30) := by
  obtain ⟨h1, h2, h3, h4, h5, t, t1, t2, t3⟩ := h
  generalize hN : us.length = N at h4 h5
  have st := ch_become (F := F) (p := rank c') h1 t2 h5 (by omega) (by omega) (by omega) (by omega)
  refine ⟨_, st, jfr_up (jfr_up (jfr_up (jfr_up (jfr_refl _ _) (Or.inl rfl)) (Or.inr ⟨rfl, Or.inr (Or.inl rfl)⟩)) (Or.inr ⟨rfl, Or.inr (Or.inr rfl)⟩)) (Or.inr ⟨rfl, Or.inl rfl⟩), by rw [jup_s], ⟨hc, hb⟩, fun u hu => ?_, ?_, ?_, (t + 1) % 30, by omega, ?_, fun i u hu => ?_⟩
  · rcases List.mem_cons.mp (List.mem_of_mem_take hu) with q | q
    · rw [q]; exact h2
    · exact h3 u q
  · rw [List.length_take, List.length_cons]; omega
  · rw [List.length_take, List.length_cons, hN, jup_k (by omega), jup_s]
    split <;> omega
  · rw [jup_k (by omega), jup_k (by omega), jup_s]; omega
  · rw [jup_o (by omega), jup_o (by omega), jup_o (by omega)]
    have hi := (List.getElem?_eq_some_iff.mp hu).1
    rw [List.length_take, List.length_cons, hN] at hi
    rw [List.getElem?_take_of_lt (by omega)] at hu
    cases i with
    | zero =>
      simp only [List.getElem?_cons_zero, Option.some.injEq] at hu
      subst hu
      rw [show ((((t + 1) % 30 + 29 - 0) % 30 : Nat) : Int) = (t : Int) by omega, jup_s]
    | succ i =>
      simp only [List.getElem?_cons_succ] at hu
      rw [jup_k (by omega), show (((t + 1) % 30 + 29 - (i + 1)) % 30 : Nat) = ((t + 29 - i) % 30 : Nat) by omega]
      exact t3 i u hu
theorem ch_back {F : Nat} {σ : jxS} {t n q : Int} (h3 : σ 29 3 = t) (h4 : σ 29 4 = n) (ht : 0 ≤ t) (ht2 : t < 30) (hn : 0 < n) (hn2 : n ≤ 30) (hq : σ 30 ((t + 29) % 30) = q) : Hand_takeBack F σ = some (n - 1, jup (jup (jup σ 29 3 ((t + 29) % 30)) 29 4 (n - 1)) 29 2 q) := by
  have d := (jd30 (x := t + 30 - 1) (by omega) (by omega)).2
  have e : (t + 30 - 1) % 30 = (t + 29) % 30 := by omega
  rw [e] at d
  simp (disch := omega) only [Hand_takeBack, h3, h4, d, hq, ↓reduceIte, jw_id, jlt_T, jlt_F, jle_T, jle_F, jeq_T, jeq_F, and_self, and_true, true_and, and_false, false_and, or_true, true_or, or_false, false_or, not_true_eq_false, not_false_eq_true, jbs, jup_s, jup_k, jup_o]
theorem ca_back {F : Nat} {σ : jxS} {c u : Nat → Nat} {us : List (Nat → Nat)} (h : HaC σ c (u :: us)) : ∃ σ', Hand_takeBack F σ = some ((us.length : Int), σ') ∧ jfr HP σ σ' ∧ HaC σ' u us := by
  obtain ⟨h1, h2, h3, h4, h5, t, t1, t2, t3⟩ := h
  rw [List.length_cons] at h4 h5
  generalize hN : us.length = N at h4 h5 ⊢
  have q := t3 0 u rfl
  have e : (((t + 29 - 0) % 30 : Nat) : Int) = ((t : Int) + 29) % 30 := by omega
  rw [e] at q
  have st := ch_back (F := F) t2 h5 (by omega) (by omega) (by omega) (by omega) q
  rw [show ((N + 1 : Nat) : Int) - 1 = (N : Int) by omega] at st
  refine ⟨_, st, jfr_up (jfr_up (jfr_up (jfr_refl _ _) (Or.inr ⟨rfl, Or.inr (Or.inl rfl)⟩)) (Or.inr ⟨rfl, Or.inr (Or.inr rfl)⟩)) (Or.inr ⟨rfl, Or.inl rfl⟩), by rw [jup_s], h3 u (List.mem_cons_self ..), fun x hx => h3 x (List.mem_cons_of_mem _ hx), by omega, by rw [jup_k (by omega), jup_s, hN], (t + 29) % 30, by omega, by rw [jup_k (by omega), jup_k (by omega), jup_s]; omega, fun i x hx => ?_⟩
  rw [jup_o (by omega), jup_o (by omega), jup_o (by omega)]
  have hi := (List.getElem?_eq_some_iff.mp hx).1
  have := t3 (i + 1) x (by simpa using hx)
  rw [show (((t + 29) % 30 + 29 - i) % 30 : Nat) = ((t + 29 - (i + 1)) % 30 : Nat) by omega]
  exact this
/-- the reference's -/
def HaR (σ : jxS) (c : Nat → Nat) (us : List (Nat → Nat)) : Prop := Hd σ 24 c ∧ us.length ≤ 30 ∧ σ 0 37 = (us.length : Int) ∧ ∀ (i : Nat) (u : Nat → Nat) (h : Nat), us[i]? = some u → 1 ≤ h → h ≤ 12 → σ 25 ((13 * (us.length - 1 - i) + h : Nat) : Int) = (u h : Int)
def KP (a : Nat) (j : Int) : Prop := a = 25 ∨ (a = 0 ∧ j = 37)
theorem rh_shift {F : Nat} {σ0 : jxS} (w0 : σ0 0 37 = 30) : ∀ (n fu : Nat) (k : Int) (σ : jxS), n + k = 390 → 13 ≤ k → n < fu → jfr (fun a _ => a = 25) σ0 σ → (∀ j : Int, 0 ≤ j → j < k - 13 → σ 25 j = σ0 25 (j + 13)) → (∀ j : Int, k - 13 ≤ j → σ 25 j = σ0 25 j) → ∃ σ', Model_keepsAct_c12 F fu k σ = Model_keepsAct_c52 F F 0 (jup σ' 0 37 29) ∧ jfr (fun a _ => a = 25) σ0 σ' ∧ (∀ j : Int, 0 ≤ j → j < 377 → σ' 25 j = σ0 25 (j + 13)) := by
  intro n
  induction n with
  | zero =>
    intro fu k σ e1 e2 e3 f h1 h2
    obtain ⟨fu, rfl⟩ : ∃ k, fu = k + 1 := ⟨fu - 1, by omega⟩
    have w : σ 0 37 = 30 := by rw [f 0 37 (by omega)]; exact w0
    refine ⟨σ, ?_, f, fun j a b => h1 j a (by omega)⟩
    simp (disch := omega) only [Model_keepsAct_c12, w, ↓reduceIte, jw_id, jlt_T, jlt_F, jle_T, jle_F, jeq_T, jeq_F, and_self, and_true, true_and, and_false, false_and, or_true, true_or, or_false, false_or, not_true_eq_false, not_false_eq_true, jbs, jup_s, jup_k, jup_o]
    rw [show (30 : Int) - 1 = 29 by omega]
  | succ n ih =>
    intro fu k σ e1 e2 e3 f h1 h2
    obtain ⟨fu, rfl⟩ : ∃ k, fu = k + 1 := ⟨fu - 1, by omega⟩
    obtain ⟨σ', i1, i2, i3⟩ := ih fu (k + 1) (jup σ 25 (k - 13) (σ 25 k)) (by omega) (by omega) (by omega) (jfr_up f rfl) (fun j a b => by
      by_cases e : j = k - 13
      · rw [e, jup_s, h2 k (by omega), show k - 13 + 13 = k by omega]
      · rw [jup_k e]; exact h1 j a (by omega)) (fun j a => by
      rw [jup_k (by omega)]; exact h2 j (by omega))
    refine ⟨σ', ?_, i2, i3⟩
    simp (disch := omega) only [Model_keepsAct_c12, ↓reduceIte, jw_id, jlt_T, jlt_F, jle_T, jle_F, jeq_T, jeq_F, and_self, and_true, true_and, and_false, false_and, or_true, true_or, or_false, false_or, not_true_eq_false, not_false_eq_true, jbs, jup_s, jup_k, jup_o]
    exact i1
theorem rh_copy {F N : Nat} {σ0 : jxS} (w0 : σ0 0 37 = (N : Int)) (hN : N ≤ 29) : ∀ (n fu : Nat) (k : Int) (σ : jxS), n + k = 13 → 0 ≤ k → n < fu → jfr (fun a _ => a = 25) σ0 σ → (∀ j : Int, 0 ≤ j → j < k → σ 25 (13 * (N : Int) + j) = σ0 24 j) → (∀ j : Int, j < 13 * (N : Int) → σ 25 j = σ0 25 j) → ∃ σ', Model_keepsAct_c52 F fu k σ = some (0, jup σ' 0 37 ((N : Int) + 1)) ∧ jfr (fun a _ => a = 25) σ0 σ' ∧ (∀ j : Int, 0 ≤ j → j < 13 → σ' 25 (13 * (N : Int) + j) = σ0 24 j) ∧ (∀ j : Int, j < 13 * (N : Int) → σ' 25 j = σ0 25 j) := by
  intro n
  induction n with
  | zero =>
    intro fu k σ e1 e2 e3 f h1 h2
    obtain ⟨fu, rfl⟩ : ∃ k, fu = k + 1 := ⟨fu - 1, by omega⟩
    have w : σ 0 37 = (N : Int) := by rw [f 0 37 (by omega)]; exact w0
    refine ⟨σ, ?_, f, fun j a b => h1 j a (by omega), h2⟩
    simp (disch := omega) only [Model_keepsAct_c52, w, ↓reduceIte, jw_id, jlt_T, jlt_F, jle_T, jle_F, jeq_T, jeq_F, and_self, and_true, true_and, and_false, false_and, or_true, true_or, or_false, false_or, not_true_eq_false, not_false_eq_true, jbs, jup_s, jup_k, jup_o]
  | succ n ih =>
    intro fu k σ e1 e2 e3 f h1 h2
    obtain ⟨fu, rfl⟩ : ∃ k, fu = k + 1 := ⟨fu - 1, by omega⟩
    have w : σ 0 37 = (N : Int) := by rw [f 0 37 (by omega)]; exact w0
    have w2 : σ 24 k = σ0 24 k := f 24 k (by omega)
    obtain ⟨σ', i1, i2, i3, i4⟩ := ih fu (k + 1) (jup σ 25 (13 * (N : Int) + k) (σ0 24 k)) (by omega) (by omega) (by omega) (jfr_up f rfl) (fun j a b => by
      by_cases e : j = k
      · rw [e, jup_s]
      · rw [jup_k (by omega)]; exact h1 j a (by omega)) (fun j a => by
      rw [jup_k (by omega)]; exact h2 j a)
    refine ⟨σ', ?_, i2, i3, i4⟩
    simp (disch := omega) only [Model_keepsAct_c52, w, w2, ↓reduceIte, jw_id, jlt_T, jlt_F, jle_T, jle_F, jeq_T, jeq_F, and_self, and_true, true_and, and_false, false_and, or_true, true_or, or_false, false_or, not_true_eq_false, not_false_eq_true, jbs, jup_s, jup_k, jup_o]
    exact i1
theorem ra_keeps {F : Nat} {σ : jxS} {c : Nat → Nat} {us : List (Nat → Nat)} (h : HaR σ c us) (hF : 1000 ≤ F) : ∃ σ', Model_keepsAct F σ = some (0, σ') ∧ jfr KP σ σ' ∧ HaR σ' c ((c :: us).take 30) := by
  obtain ⟨h1, h2, h3, h4⟩ := h
  generalize hN : us.length = N at h2 h3 h4
  by_cases q : N = 30
  · subst q
    obtain ⟨σ1, a1, a2, a3⟩ := rh_shift (F := F) h3 377 F 13 σ (by omega) (by omega) (by omega) (jfr_refl _ _) (fun j a b => by omega) (fun j a => rfl)
    have w1 : (jup σ1 0 37 29) 0 37 = ((29 : Nat) : Int) := jup_s _ _ _ _
    obtain ⟨σ2, b1, b2, b3, b4⟩ := rh_copy (F := F) w1 (by omega) 13 F 0 (jup σ1 0 37 29) (by omega) (by omega) (by omega) (jfr_refl _ _) (fun j a b => by omega) (fun j a => rfl)
    have f1 : jfr KP σ (jup σ1 0 37 29) := jfr_up (jfr_mono a2 (fun a j h => Or.inl h)) (Or.inr ⟨rfl, rfl⟩)
    have f2 : jfr KP σ (jup σ2 0 37 (((29 : Nat) : Int) + 1)) := jfr_up (jfr_trans f1 (jfr_mono b2 (fun a j h => Or.inl h))) (Or.inr ⟨rfl, rfl⟩)
    have tl : ((c :: us).take 30).length = 30 := by rw [List.length_take, List.length_cons, hN]; rfl
    refine ⟨_, ?_, f2, fun g g1 g2 => by rw [f2 24 _ (by simp [KP])]; exact h1 g g1 g2, by rw [tl]; exact Nat.le_refl _, by rw [tl, jup_s]; rfl, fun i u g hu g1 g2 => ?_⟩
    · rw [Model_keepsAct, h3, if_pos (by rfl), a1]
      exact b1
    · have hi := (List.getElem?_eq_some_iff.mp hu).1
      rw [tl] at hi ⊢
      rw [List.getElem?_take_of_lt (by omega)] at hu
      rw [jup_o (by omega)]
      cases i with
      | zero =>
        simp only [List.getElem?_cons_zero, Option.some.injEq] at hu
        subst hu
        have := b3 g (by omega) (by omega)
        rw [show (((13 * (30 - 1 - 0) + g : Nat)) : Int) = 13 * ((29 : Nat) : Int) + (g : Int) by omega, this, jup_o (by omega), a2 24 _ (by omega)]
        exact h1 g g1 g2
      | succ i =>
        simp only [List.getElem?_cons_succ] at hu
        have := h4 i u g hu g1 g2
        rw [b4 _ (by omega), jup_o (by omega), a3 _ (by omega) (by omega), show (((13 * (30 - 1 - (i + 1)) + g : Nat)) : Int) + 13 = ((13 * (30 - 1 - i) + g : Nat) : Int) by omega]
        exact this
  · have tl : ((c :: us).take 30).length = N + 1 := by rw [List.length_take, List.length_cons, hN]; omega
    obtain ⟨σ2, b1, b2, b3, b4⟩ := rh_copy (F := F) h3 (by omega) 13 F 0 σ (by omega) (by omega) (by omega) (jfr_refl _ _) (fun j a b => by omega) (fun j a => rfl)
    have f2 : jfr KP σ (jup σ2 0 37 ((N : Int) + 1)) := jfr_up (jfr_mono b2 (fun a j h => Or.inl h)) (Or.inr ⟨rfl, rfl⟩)
    refine ⟨_, ?_, f2, fun g g1 g2 => by rw [f2 24 _ (by simp [KP])]; exact h1 g g1 g2, by rw [tl]; omega, by rw [tl, jup_s]; omega, fun i u g hu g1 g2 => ?_⟩
    · rw [Model_keepsAct, h3, if_neg (by unfold jw; omega)]
      exact b1
    · have hi := (List.getElem?_eq_some_iff.mp hu).1
      rw [tl] at hi ⊢
      rw [List.getElem?_take_of_lt (by omega)] at hu
      rw [jup_o (by omega)]
      cases i with
      | zero =>
        simp only [List.getElem?_cons_zero, Option.some.injEq] at hu
        subst hu
        have := b3 g (by omega) (by omega)
        rw [show (((13 * (N + 1 - 1 - 0) + g : Nat)) : Int) = 13 * (N : Int) + (g : Int) by omega, this]
        exact h1 g g1 g2
      | succ i =>
        simp only [List.getElem?_cons_succ] at hu
        have := h4 i u g hu g1 g2
        rw [b4 _ (by omega), show (((13 * (N + 1 - 1 - (i + 1)) + g : Nat)) : Int) = ((13 * (N - 1 - i) + g : Nat) : Int) by omega]
        exact this
theorem rh_undo_c {F N : Nat} {σ0 : jxS} (w0 : σ0 0 37 = (N : Int)) (hN : N ≤ 29) : ∀ (n fu : Nat) (k : Int) (σ : jxS), n + k = 13 → 0 ≤ k → n < fu → jfr (fun a _ => a = 24) σ0 σ → (∀ j : Int, 0 ≤ j → j < k → σ 24 j = σ0 25 (13 * (N : Int) + j)) → ∃ σ', Model_undo_c21 F fu k σ = some ((N : Int), σ') ∧ jfr (fun a _ => a = 24) σ0 σ' ∧ (∀ j : Int, 0 ≤ j → j < 13 → σ' 24 j = σ0 25 (13 * (N : Int) + j)) := by
  intro n
  induction n with
  | zero =>
    intro fu k σ e1 e2 e3 f h1
    obtain ⟨fu, rfl⟩ : ∃ k, fu = k + 1 := ⟨fu - 1, by omega⟩
    have w : σ 0 37 = (N : Int) := by rw [f 0 37 (by omega)]; exact w0
    refine ⟨σ, ?_, f, fun j a b => h1 j a (by omega)⟩
    simp (disch := omega) only [Model_undo_c21, w, ↓reduceIte, jw_id, jlt_T, jlt_F, jle_T, jle_F, jeq_T, jeq_F, and_self, and_true, true_and, and_false, false_and, or_true, true_or, or_false, false_or, not_true_eq_false, not_false_eq_true, jbs, jup_s, jup_k, jup_o]
  | succ n ih =>
    intro fu k σ e1 e2 e3 f h1
    obtain ⟨fu, rfl⟩ : ∃ k, fu = k + 1 := ⟨fu - 1, by omega⟩
    have w : σ 0 37 = (N : Int) := by rw [f 0 37 (by omega)]; exact w0
    have w2 : σ 25 (13 * (N : Int) + k) = σ0 25 (13 * (N : Int) + k) := f 25 _ (by omega)
    obtain ⟨σ', i1, i2, i3⟩ := ih fu (k + 1) (jup σ 24 k (σ0 25 (13 * (N : Int) + k))) (by omega) (by omega) (by omega) (jfr_up f rfl) (fun j a b => by
      by_cases e : j = k
      · rw [e, jup_s]
      · rw [jup_k (by omega)]; exact h1 j a (by omega))
    refine ⟨σ', ?_, i2, i3⟩
    simp (disch := omega) only [Model_undo_c21, w, w2, ↓reduceIte, jw_id, jlt_T, jlt_F, jle_T, jle_F, jeq_T, jeq_F, and_self, and_true, true_and, and_false, false_and, or_true, true_or, or_false, false_or, not_true_eq_false, not_false_eq_true, jbs, jup_s, jup_k, jup_o]
    exact i1
def UP (a : Nat) (j : Int) : Prop := a = 24 ∨ (a = 0 ∧ j = 37)
theorem ra_undo {F : Nat} {σ : jxS} {c u : Nat → Nat} {us : List (Nat → Nat)} (h : HaR σ c (u :: us)) (hF : 1000 ≤ F) : ∃ σ', Model_undo F σ = some ((us.length : Int), σ') ∧ jfr UP σ σ' ∧ HaR σ' u us := by
  obtain ⟨h1, h2, h3, h4⟩ := h
  rw [List.length_cons] at h2 h3 h4
  generalize hN : us.length = N at h2 h3 h4 ⊢
  have w1 : (jup σ 0 37 (N : Int)) 0 37 = (N : Int) := jup_s _ _ _ _
  obtain ⟨σ2, b1, b2, b3⟩ := rh_undo_c (F := F) w1 (by omega) 13 F 0 (jup σ 0 37 (N : Int)) (by omega) (by omega) (by omega) (jfr_refl _ _) (fun j a b => by omega)
  have f2 : jfr UP σ σ2 := jfr_trans (jfr_up (jfr_refl _ _) (Or.inr ⟨rfl, rfl⟩)) (jfr_mono b2 (fun a j h => Or.inl h))
  refine ⟨σ2, ?_, f2, fun g g1 g2 => ?_, by omega, by rw [b2 0 37 (by omega), hN]; exact w1, fun i x g hx g1 g2 => ?_⟩
  · rw [Model_undo, h3, if_neg (by unfold jw; omega)]
    dsimp only
    rw [show ((N + 1 : Nat) : Int) - 1 = (N : Int) by omega]
    exact b1
  · rw [b3 g (by omega) (by omega), jup_o (by omega)]
    have := h4 0 u g rfl g1 g2
    rw [show ((13 * (N + 1 - 1 - 0) + g : Nat) : Int) = 13 * (N : Int) + g by omega] at this
    exact this
  · have hi := (List.getElem?_eq_some_iff.mp hx).1
    have := h4 (i + 1) x g (by simpa using hx) g1 g2
    rw [f2 25 _ (by simp [UP]), hN, show 13 * (N - 1 - i) + g = 13 * (N + 1 - 1 - (i + 1)) + g by omega]
    exact this
theorem rh_clear_c {F : Nat} {v : Int} : ∀ (n fu : Nat) (k : Int) (σ : jxS), n + k = 13 → 0 ≤ k → n < fu → (∀ j : Int, 0 ≤ j → j < k → σ 24 j = 0) → ∃ σ', Model_clear_c20 F fu v k σ = some (v, σ') ∧ jfr (fun a _ => a = 24) σ σ' ∧ (∀ j : Int, 0 ≤ j → j < 13 → σ' 24 j = 0) := by
  intro n
  induction n with
  | zero =>
    intro fu k σ e1 e2 e3 h1
    obtain ⟨fu, rfl⟩ : ∃ k, fu = k + 1 := ⟨fu - 1, by omega⟩
    refine ⟨σ, ?_, jfr_refl _ _, fun j a b => h1 j a (by omega)⟩
    simp (disch := omega) only [Model_clear_c20, ↓reduceIte, jw_id, jlt_T, jlt_F, jle_T, jle_F, jeq_T, jeq_F, and_self, and_true, true_and, and_false, false_and, or_true, true_or, or_false, false_or, not_true_eq_false, not_false_eq_true, jbs, jup_s, jup_k, jup_o]
  | succ n ih =>
    intro fu k σ e1 e2 e3 h1
    obtain ⟨fu, rfl⟩ : ∃ k, fu = k + 1 := ⟨fu - 1, by omega⟩
    obtain ⟨σ', i1, i2, i3⟩ := ih fu (k + 1) (jup σ 24 k 0) (by omega) (by omega) (by omega) (fun j a b => by
      by_cases e : j = k
      · rw [e, jup_s]
      · rw [jup_k (by omega)]; exact h1 j a (by omega))
    refine ⟨σ', ?_, jfr_trans (jfr_up (jfr_refl _ _) rfl) i2, i3⟩
    simp (disch := omega) only [Model_clear_c20, ↓reduceIte, jw_id, jlt_T, jlt_F, jle_T, jle_F, jeq_T, jeq_F, and_self, and_true, true_and, and_false, false_and, or_true, true_or, or_false, false_or, not_true_eq_false, not_false_eq_true, jbs, jup_s, jup_k, jup_o]
    exact i1
