/-! The reference: a position's values stored; back nimbers; all positions. -/
theorem mo1_end {F : Nat} {σ : jxS} {p v2 v3 v4 v5 v6 t0 : Int} (h1 : 0 ≤ p) (h2 : p < 4600) (h6 : v6 = 0 ∨ v6 = 1) (h0 : t0 = 0 ∨ t0 = 1) : Model_laysOne_c179 F p v2 v3 v4 v5 v6 t0 σ = some (0, jup (jup (jup (jup σ 15 p (if t0 = 1 ∧ v6 = 0 then 1 else 0)) 16 p (if t0 = 0 then 0 else 1 + (if v6 = 0 then v3 else v2))) 17 p (if t0 = 0 then 0 else 1 + v4)) 18 p (if t0 = 0 then 0 else 1 + v5)) := by
  rcases h0 with e | e <;> rcases h6 with e2 | e2 <;> subst e <;> subst e2 <;> simp (disch := omega) only [Model_laysOne_c179, Model_laysOne_c200, Model_laysOne_c201, Model_laysOne_c227, Model_laysOne_c228, Model_laysOne_c247, Int.zero_emod, ↓reduceIte, jw_id, jlt_T, jlt_F, jle_T, jle_F, jeq_T, jeq_F, and_self, and_true, true_and, and_false, false_and, or_true, true_or, or_false, false_or, not_true_eq_false, not_false_eq_true, jbs, jup_s, jup_k, jup_o] <;> rfl
def OP (a : Nat) (_ : Int) : Prop := a = 15 ∨ a = 16 ∨ a = 17 ∨ a = 18
theorem VT_fr {σ σ' : jxS} {P : Nat → Int → Prop} {M : Nat → List Nat} {n : Nat} (hV : VT σ M n) (h : jfr P σ σ') (hP : ∀ a j, 15 ≤ a → a ≤ 18 → ¬ P a j) : VT σ' M n := fun p hp => by
  obtain ⟨a, b, c, d⟩ := hV p hp
  exact ⟨by rw [h 15 _ (hP _ _ (by omega) (by omega))]; exact a, by rw [h 16 _ (hP _ _ (by omega) (by omega))]; exact b, by rw [h 17 _ (hP _ _ (by omega) (by omega))]; exact c, by rw [h 18 _ (hP _ _ (by omega) (by omega))]; exact d⟩
theorem isE {α : Type} {l : List α} : l.isEmpty = true ↔ ¬ 0 < l.length := by
  cases l <;> simp
theorem any_all {l : List Nat} {f : Nat → Bool} : l.all (fun q => !f q) = !l.any f := by
  induction l with
  | nil => rfl
  | cons a l ih => simp only [List.all_cons, List.any_cons, ih, Bool.not_or]
theorem mo_one {F p : Nat} {σ : jxS} {M : Nat → List Nat} (hM : MOK M) (hV : VT σ M p) (hp : p < 4224) (wn : σ 0 32 = ((T M p).length : Int)) (wr : rowL σ 21 0 (T M p)) (hF : 1000 ≤ F) : ∃ σ', Model_laysOne F σ p = some (0, σ') ∧ jfr OP σ σ' ∧ VT σ' M (p + 1) := by
  have hl : (T M p).length ≤ 203 := by rw [T_eq, tl, List.length_map]; exact ops_len hM _
  have lo := mo1_loop (F := F) hM hV (by omega) wn (by omega) (T M p) F 0 0 0 0 0 false wr (by omega) (fun q hq => (T_mem hM hq).1) (by omega) (by omega) (by omega) (by omega) (by omega) (fun _ => rfl)
  simp only [Bool.false_eq_true, if_false, Int.natCast_zero, Bool.false_or, Nat.lt_irrefl, decide_false] at lo
  rw [mo1_end (by omega) (by omega) (by split <;> simp) (by split <;> simp)] at lo
  refine ⟨_, lo, ?_, ?_⟩
  · exact jfr_up (jfr_up (jfr_up (jfr_up (jfr_refl _ _) (Or.inl rfl)) (Or.inr (Or.inl rfl))) (Or.inr (Or.inr (Or.inl rfl)))) (Or.inr (Or.inr (Or.inr rfl)))
  · intro q hq
    by_cases e : q = p
    · subst e
      have l1 := los_eq hM q
      have l2 := rem_eq hM q
      have l3 := fw_eq hM q
      have l4 := ms_eq hM q
      have hany := any_all (l := T M q) (f := fun q => los M q)
      rw [hany] at l1
      by_cases z : 0 < (T M q).length
      · have z' : (T M q).isEmpty = false := by
          cases h : (T M q).isEmpty
          · rfl
          · exact absurd z (isE.mp h)
        rw [z'] at l1 l2 l3 l4
        simp only [Bool.false_eq_true, if_false, Bool.not_false, Bool.true_and] at l1 l2 l3 l4
        simp only [if_pos z, jup_s]
        rw [jup_o (by omega), jup_o (by omega), jup_o (by omega), jup_s, jup_o (by omega), jup_o (by omega), jup_s, jup_o (by omega), jup_s]
        cases ha : (T M q).any (fun q => los M q)
        · rw [ha] at l1 l2
          rw [l1, l2, l3, l4]
          simp
        · rw [ha] at l1 l2
          rw [l1, l2, l3, l4]
          simp
      · have z' : (T M q).isEmpty = true := isE.mpr z
        rw [z'] at l1 l2 l3 l4
        simp only [if_true, Bool.not_true, Bool.false_and] at l1 l2 l3 l4
        simp only [if_neg z, jup_s]
        rw [jup_o (by omega), jup_o (by omega), jup_o (by omega), jup_s, jup_o (by omega), jup_o (by omega), jup_s, jup_o (by omega), jup_s]
        rw [l1, l2, l3, l4]
        simp
    · obtain ⟨a, b, c, d⟩ := hV q (by omega)
      have e' : (q : Int) ≠ p := by omega
      refine ⟨?_, ?_, ?_, ?_⟩
      · rw [jup_o (by omega), jup_o (by omega), jup_o (by omega), jup_k e']; exact a
      · rw [jup_o (by omega), jup_o (by omega), jup_k e', jup_o (by omega)]; exact b
      · rw [jup_o (by omega), jup_k e', jup_o (by omega), jup_o (by omega)]; exact c
      · rw [jup_k e', jup_o (by omega), jup_o (by omega), jup_o (by omega)]; exact d
/-- numbers that are taken -/
def tk (σ : jxS) (B : Nat) (l : List Nat) : Prop := ∀ j : Nat, j < B → σ 12 j = if j ∈ l then 1 else 0
def P12 (a : Nat) (_ : Int) : Prop := a = 12
theorem tk_up {σ : jxS} {B x : Nat} {l : List Nat} (h : tk σ B l) : tk (jup σ 12 x 1) B (x :: l) := fun j hj => by
  by_cases e : j = x
  · subst e; rw [jup_s, if_pos (List.mem_cons_self ..)]
  · rw [jup_k (by omega), h j hj]
    simp only [List.mem_cons, e, false_or]
theorem mo_none_c {F B : Nat} (hB : B ≤ 1024) : ∀ (n fu : Nat) (v : Int) (σ : jxS), n + v = B → 0 ≤ v → n < fu → (∀ j : Nat, (j : Int) < v → σ 12 j = 0) → ∃ σ', Model_takesNone_c2 F fu B v σ = some (0, σ') ∧ jfr P12 σ σ' ∧ (∀ j : Nat, j < B → σ' 12 j = 0) := by
  intro n
  induction n with
  | zero =>
    intro fu v σ e1 e2 e3 h
    obtain ⟨fu, rfl⟩ : ∃ k, fu = k + 1 := ⟨fu - 1, by omega⟩
    refine ⟨σ, ?_, jfr_refl _ _, fun j hj => h j (by omega)⟩
    simp (disch := omega) only [Model_takesNone_c2, ↓reduceIte, jw_id, jlt_T, jlt_F, jle_T, jle_F, jeq_T, jeq_F, and_self, and_true, true_and, and_false, false_and, or_true, true_or, or_false, false_or, not_true_eq_false, not_false_eq_true, jbs, jup_s, jup_k, jup_o]
  | succ n ih =>
    intro fu v σ e1 e2 e3 h
    obtain ⟨fu, rfl⟩ : ∃ k, fu = k + 1 := ⟨fu - 1, by omega⟩
    obtain ⟨σ', i1, i2, i3⟩ := ih fu (v + 1) (jup σ 12 v 0) (by omega) (by omega) (by omega) (fun j hj => by
      by_cases e : (j : Int) = v
      · rw [e, jup_s]
      · rw [jup_k e]; exact h j (by omega))
    refine ⟨σ', ?_, jfr_trans (jfr_up (jfr_refl _ _) rfl) i2, i3⟩
    simp (disch := omega) only [Model_takesNone_c2, ↓reduceIte, jw_id, jlt_T, jlt_F, jle_T, jle_F, jeq_T, jeq_F, and_self, and_true, true_and, and_false, false_and, or_true, true_or, or_false, false_or, not_true_eq_false, not_false_eq_true, jbs, jup_s, jup_k, jup_o]
    exact i1
theorem mo_none {F B : Nat} {σ : jxS} (hB : B ≤ 1024) (hF : 2000 ≤ F) : ∃ σ', Model_takesNone F σ B = some (0, σ') ∧ jfr P12 σ σ' ∧ tk σ' B [] := by
  obtain ⟨σ', i1, i2, i3⟩ := mo_none_c (F := F) hB B F 0 σ (by omega) (by omega) (by omega) (fun j hj => by omega)
  exact ⟨σ', i1, i2, fun j hj => by rw [i3 j hj]; simp⟩
theorem mo_free {F B : Nat} {σ : jxS} {l : List Nat} (h : tk σ B l) (hm : mex l < B) (hB : B ≤ 1024) (hF : 2000 ≤ F) : Model_leastFree F σ = some ((mex l : Int), σ) := by
  have key : ∀ (n fu v : Nat), n + v = mex l → n < fu → Model_leastFree_c2 F fu v σ = some ((mex l : Int), σ) := by
    intro n
    induction n with
    | zero =>
      intro fu v e1 e2
      obtain ⟨fu, rfl⟩ : ∃ k, fu = k + 1 := ⟨fu - 1, by omega⟩
      have w := h v (by omega)
      have hv : v = mex l := by omega
      rw [hv, if_neg (mex_out l)] at w
      rw [hv]
      simp (disch := omega) only [Model_leastFree_c2, w, ↓reduceIte, jw_id, jlt_T, jlt_F, jle_T, jle_F, jeq_T, jeq_F, and_self, and_true, true_and, and_false, false_and, or_true, true_or, or_false, false_or, not_true_eq_false, not_false_eq_true, jbs, jup_s, jup_k, jup_o]
    | succ n ih =>
      intro fu v e1 e2
      obtain ⟨fu, rfl⟩ : ∃ k, fu = k + 1 := ⟨fu - 1, by omega⟩
      have w := h v (by omega)
      rw [if_pos (mex_in (by omega))] at w
      simp (disch := omega) only [Model_leastFree_c2, w, ↓reduceIte, jw_id, jlt_T, jlt_F, jle_T, jle_F, jeq_T, jeq_F, and_self, and_true, true_and, and_false, false_and, or_true, true_or, or_false, false_or, not_true_eq_false, not_false_eq_true, jbs, jup_s, jup_k, jup_o]
      have := ih fu (v + 1) (by omega) (by omega)
      rwa [Int.natCast_add, Int.natCast_one] at this
  exact key (mex l) F 0 (by omega) (by omega)
def TW (σ : jxS) : Prop := ∀ t : Nat, t < 6 → σ 22 t = ((t2 t).length : Int) ∧ ∀ k s : Nat, (t2 t)[k]? = some s → σ 23 (3 * (t : Int) + k) = (s : Int)
def BT (σ : jxS) (M : Nat → List Nat) (n : Nat) : Prop := ∀ i : Nat, i < n → σ 19 i = (bkn M i : Int)
theorem t2_len : ∀ t, t < 6 → (t2 t).length ≤ 3 := by decide
theorem mo_back1 {F p t : Nat} {σ0 : jxS} {M : Nat → List Nat} (hM : MOK M) (hp : p < 4224) (ht : t < 6) (hT : TW σ0) (hB : BT σ0 M (6 * p + t)) : ∀ (r : List Nat) (fu k : Nat) (l : List Nat) (σ : jxS), jfr P12 σ0 σ → (t2 t).drop k = r → r.length + k = (t2 t).length → tk σ 256 l → r.length < fu → ∃ σ' l', Model_laysBack_c9 F fu p t k σ = Model_laysBack_c53 F F p t 0 σ' ∧ jfr P12 σ0 σ' ∧ tk σ' 256 l' ∧ ∀ x, x ∈ l' ↔ x ∈ l ∨ x ∈ r.map (fun s => bk M p s) := by
  intro r
  have tl := t2_len t ht
  induction r with
  | nil =>
    intro fu k l σ f e1 e2 h3 h4
    obtain ⟨fu, rfl⟩ : ∃ k, fu = k + 1 := ⟨fu - 1, by omega⟩
    simp only [List.length_nil] at e2
    have w := (hT t ht).1
    rw [← f 22 _ (by simp [P12])] at w
    refine ⟨σ, l, ?_, f, h3, fun x => by simp⟩
    simp (disch := omega) only [Model_laysBack_c9, w, ↓reduceIte, jw_id, jlt_T, jlt_F, jle_T, jle_F, jeq_T, jeq_F, and_self, and_true, true_and, and_false, false_and, or_true, true_or, or_false, false_or, not_true_eq_false, not_false_eq_true, jbs, jup_s, jup_k, jup_o]
  | cons s r ih =>
    intro fu k l σ f e1 e2 h3 h4
    obtain ⟨fu, rfl⟩ : ∃ k, fu = k + 1 := ⟨fu - 1, by omega⟩
    simp only [List.length_cons] at e2 h4
    have w := (hT t ht).1
    rw [← f 22 _ (by simp [P12])] at w
    have hm : (t2 t)[k]? = some s := by
      have : ((t2 t).drop k)[0]? = some s := by rw [e1]; rfl
      rwa [List.getElem?_drop, Nat.add_zero] at this
    have w2 := (hT t ht).2 k s hm
    rw [← f 23 _ (by simp [P12])] at w2
    have hs := t2_tb t ht s (List.mem_of_getElem? hm)
    have w3 := hB (6 * p + s) (by omega)
    rw [← f 19 _ (by simp [P12])] at w3
    have b27 := bk_27 hM p (t := s) (by omega)
    have x1 : 6 * (p : Int) + (s : Int) = ((6 * p + s : Nat) : Int) := by omega
    have w4 : σ 19 (6 * (p : Int) + (s : Int)) = (bk M p s : Int) := by rw [x1]; exact w3
    have e1' : (t2 t).drop (k + 1) = r := by
      have : ((t2 t).drop k).drop 1 = r := by rw [e1]; rfl
      rwa [List.drop_drop] at this
    obtain ⟨σ', l', i1, i2, i3, i4⟩ := ih fu (k + 1) (bk M p s :: l) (jup σ 12 (bk M p s) 1) (jfr_up f rfl) e1' (by omega) (tk_up h3) (by omega)
    refine ⟨σ', l', ?_, i2, i3, fun x => by rw [i4 x]; simp only [List.mem_cons, List.map_cons]; grind⟩
    rw [Int.natCast_add, Int.natCast_one] at i1
    simp (disch := omega) only [Model_laysBack_c9, w, w2, w4, ↓reduceIte, jw_id, jlt_T, jlt_F, jle_T, jle_F, jeq_T, jeq_F, and_self, and_true, true_and, and_false, false_and, or_true, true_or, or_false, false_or, not_true_eq_false, not_false_eq_true, jbs, jup_s, jup_k, jup_o]
    exact i1
theorem mo_back2 {F p t N : Nat} {σ0 : jxS} {M : Nat → List Nat} (hM : MOK M) (hp : p < 4224) (ht : t < 6) (hB : BT σ0 M (6 * p + t)) (wn : σ0 0 32 = (N : Int)) (hN : N ≤ 512) : ∀ (r : List Nat) (fu k : Nat) (l : List Nat) (σ : jxS), jfr P12 σ0 σ → rowL σ0 21 k r → r.length + k = N → (∀ q, q ∈ r → q < p) → tk σ 256 l → r.length < fu → ∃ σ' l', Model_laysBack_c53 F fu p t k σ = Model_laysBack_c53 F (fu - r.length) p t N σ' ∧ jfr P12 σ0 σ' ∧ tk σ' 256 l' ∧ ∀ x, x ∈ l' ↔ x ∈ l ∨ x ∈ r.map (fun q => bk M q t) := by
  intro r
  induction r with
  | nil =>
    intro fu k l σ f e1 e2 e3 h3 h4
    simp only [List.length_nil] at e2
    refine ⟨σ, l, ?_, f, h3, fun x => by simp⟩
    rw [show k = N by omega]
    rfl
  | cons q r ih =>
    intro fu k l σ f e1 e2 e3 h3 h4
    obtain ⟨fu, rfl⟩ : ∃ k, fu = k + 1 := ⟨fu - 1, by omega⟩
    simp only [List.length_cons] at e2 h4
    have w : σ 0 32 = (N : Int) := by rw [f 0 32 (by simp [P12])]; exact wn
    have hq := e3 q (List.mem_cons_self ..)
    have w2 : σ 21 (k : Int) = (q : Int) := by
      rw [f 21 _ (by simp [P12])]
      have := e1 0 q rfl
      rwa [Nat.add_zero] at this
    have w3 := hB (6 * q + t) (by omega)
    rw [← f 19 _ (by simp [P12])] at w3
    have b27 := bk_27 hM q (t := t) ht
    have x1 : 6 * (q : Int) + (t : Int) = ((6 * q + t : Nat) : Int) := by omega
    have w4 : σ 19 (6 * (q : Int) + (t : Int)) = (bk M q t : Int) := by rw [x1]; exact w3
    obtain ⟨σ', l', i1, i2, i3, i4⟩ := ih fu (k + 1) (bk M q t :: l) (jup σ 12 (bk M q t) 1) (jfr_up f rfl) (fun j x hj => by have := e1 (j + 1) x (by simpa using hj); rwa [show k + (j + 1) = k + 1 + j by omega] at this) (by omega) (fun x hx => e3 x (List.mem_cons_of_mem _ hx)) (tk_up h3) (by omega)
    refine ⟨σ', l', ?_, i2, i3, fun x => by rw [i4 x]; simp only [List.mem_cons, List.map_cons]; grind⟩
    rw [Int.natCast_add, Int.natCast_one] at i1
    simp only [List.length_cons]
    rw [show fu + 1 - (r.length + 1) = fu - r.length by omega, ← i1]
    rw [Model_laysBack_c53]
    simp (disch := omega) only [w, w2, w4, ↓reduceIte, jw_id, jlt_T, jlt_F, jle_T, jle_F, jeq_T, jeq_F, and_self, and_true, true_and, and_false, false_and, or_true, true_or, or_false, false_or, not_true_eq_false, not_false_eq_true, jbs, jup_s, jup_k, jup_o]
theorem mo_back_e0 {F g : Nat} {σ : jxS} {p t N L : Int} (wn : σ 0 32 = N) (hN : 0 ≤ N) (hN2 : N ≤ 512) (hL : 0 ≤ L) (hL2 : L ≤ 3) (h0 : 0 ≤ t) (h6 : t < 6) (wt : σ 22 t = L) (hp : 0 ≤ p) (hp2 : p < 4600) (z : N + L = 0) : Model_laysBack_c53 F (g + 1) p t N σ = some (0, jup σ 19 (6 * p + t) 1) := by
  simp (disch := omega) only [Model_laysBack_c53, wn, wt, ↓reduceIte, jw_id, jlt_T, jlt_F, jle_T, jle_F, jeq_T, jeq_F, and_self, and_true, true_and, and_false, false_and, or_true, true_or, or_false, false_or, not_true_eq_false, not_false_eq_true, jbs, jup_s, jup_k, jup_o]
theorem mo_back_e1 {F g : Nat} {σ : jxS} {p t N L x : Int} (wn : σ 0 32 = N) (hN : 0 ≤ N) (hN2 : N ≤ 512) (hL : 0 ≤ L) (hL2 : L ≤ 3) (h0 : 0 ≤ t) (h6 : t < 6) (wt : σ 22 t = L) (hp : 0 ≤ p) (hp2 : p < 4600) (z : 0 < N + L) (hm : Model_leastFree F σ = some (x, σ)) : Model_laysBack_c53 F (g + 1) p t N σ = some (0, jup σ 19 (6 * p + t) x) := by
  simp (disch := omega) only [Model_laysBack_c53, wn, wt, hm, ↓reduceIte, jw_id, jlt_T, jlt_F, jle_T, jle_F, jeq_T, jeq_F, and_self, and_true, true_and, and_false, false_and, or_true, true_or, or_false, false_or, not_true_eq_false, not_false_eq_true, jbs, jup_s, jup_k, jup_o]
def BP (p t : Nat) (a : Nat) (j : Int) : Prop := a = 12 ∨ (a = 19 ∧ j = ((6 * p + t : Nat) : Int))
theorem mo_back {F p t : Nat} {σ : jxS} {M : Nat → List Nat} (hM : MOK M) (hp : p < 4224) (ht : t < 6) (hT : TW σ) (hB : BT σ M (6 * p + t)) (wn : σ 0 32 = ((T M p).length : Int)) (wr : rowL σ 21 0 (T M p)) (hF : 2000 ≤ F) : ∃ σ', Model_laysBack F σ p t = some (0, σ') ∧ jfr (BP p t) σ σ' ∧ BT σ' M (6 * p + t + 1) := by
  have hl : (T M p).length ≤ 203 := by rw [T_eq, tl, List.length_map]; exact ops_len hM _
  obtain ⟨σ1, a1, a2, a3⟩ := mo_none (F := F) (B := 256) (σ := σ) (by omega) hF
  have hT1 : TW σ1 := fun t ht => ⟨by rw [a2 22 _ (by simp [P12])]; exact (hT t ht).1, fun k s h => by rw [a2 23 _ (by simp [P12])]; exact (hT t ht).2 k s h⟩
  have hB1 : BT σ1 M (6 * p + t) := fun i hi => by rw [a2 19 _ (by simp [P12])]; exact hB i hi
  have tl2 := t2_len t ht
  obtain ⟨σ2, l2, b1, b2, b3, b4⟩ := mo_back1 (F := F) hM hp ht hT1 hB1 (t2 t) F 0 [] σ1 (jfr_refl _ _) rfl (by omega) a3 (by omega)
  have f2 := jfr_trans a2 b2
  have hB2 : BT σ2 M (6 * p + t) := fun i hi => by rw [f2 19 _ (by simp [P12])]; exact hB i hi
  have wn2 : σ2 0 32 = ((T M p).length : Int) := by rw [f2 0 32 (by simp [P12])]; exact wn
  obtain ⟨σ3, l3, c1, c2, c3, c4⟩ := mo_back2 (F := F) hM hp ht hB2 wn2 (by omega) (T M p) F 0 l2 σ2 (jfr_refl _ _) (fun i x h => by rw [f2 21 _ (by simp [P12])]; exact wr i x h) (by omega) (fun q hq => (T_mem hM hq).1) b3 (by omega)
  have f3 := jfr_trans f2 c2
  have wn3 : σ3 0 32 = ((T M p).length : Int) := by rw [f3 0 32 (by simp [P12])]; exact wn
  have wt3 : σ3 22 t = ((t2 t).length : Int) := by rw [f3 22 _ (by simp [P12])]; exact (hT t ht).1
  have mem : ∀ x, x ∈ l3 ↔ x ∈ (t2 t).map (fun s => bk M p s) ++ (T M p).map (fun q => bk M q t) := fun x => by
    rw [c4, b4, List.mem_append]
    simp
  have be := bk_eq hM p ht
  have b27 := bk_27 hM p ht
  have x1 : 6 * (p : Int) + (t : Int) = ((6 * p + t : Nat) : Int) := by omega
  refine ⟨jup σ3 19 ((6 * p + t : Nat) : Int) (bk M p t), ?_, jfr_up (jfr_mono f3 (fun a j h => Or.inl h)) (Or.inr ⟨rfl, rfl⟩), ?_⟩
  · have st : Model_laysBack F σ p t = Model_laysBack_c53 F (F - (T M p).length) p t ((T M p).length : Nat) σ3 := by
      have b1' : Model_laysBack_c9 F F p t 0 σ1 = Model_laysBack_c53 F F p t 0 σ2 := b1
      have c1' : Model_laysBack_c53 F F p t 0 σ2 = Model_laysBack_c53 F (F - (T M p).length) p t ((T M p).length : Nat) σ3 := c1
      have a1' : Model_takesNone F σ 256 = some (0, σ1) := a1
      rw [Model_laysBack, a1', jbs, b1', c1']
    obtain ⟨g, hg⟩ : ∃ g, F - (T M p).length = g + 1 := ⟨F - (T M p).length - 1, by omega⟩
    have q1 : (0 : Int) ≤ ((T M p).length : Int) := Int.natCast_nonneg _
    have q2 : ((T M p).length : Int) ≤ 512 := by clear be b27; omega
    have q3 : ((t2 t).length : Int) ≤ 3 := by exact_mod_cast tl2
    have q4 : (t : Int) < 6 := by exact_mod_cast ht
    have q5 : (p : Int) < 4600 := by omega
    rw [st, hg]
    by_cases z : ((t2 t).map (fun s => bk M p s) ++ (T M p).map (fun q => bk M q t)).isEmpty = true
    · have z2 := isE.mp z
      simp only [List.length_append, List.length_map] at z2
      rw [if_pos z] at be
      have z3 : ((T M p).length : Int) + ((t2 t).length : Int) = 0 := by clear be; omega
      rw [mo_back_e0 wn3 q1 q2 (Int.natCast_nonneg _) q3 (Int.natCast_nonneg _) q4 wt3 (Int.natCast_nonneg _) q5 z3, be, x1]
      rfl
    · have z2 : 0 < ((t2 t).map (fun s => bk M p s) ++ (T M p).map (fun q => bk M q t)).length := Classical.byContradiction fun q => z (isE.mpr q)
      simp only [List.length_append, List.length_map] at z2
      rw [if_neg z, ← mex_congr mem] at be
      have z3 : 0 < ((T M p).length : Int) + ((t2 t).length : Int) := by clear be; omega
      have z4 : mex l3 < 256 := by rw [← be]; exact Nat.lt_of_le_of_lt b27 (by decide)
      rw [mo_back_e1 wn3 q1 q2 (Int.natCast_nonneg _) q3 (Int.natCast_nonneg _) q4 wt3 (Int.natCast_nonneg _) q5 z3 (mo_free c3 z4 (by decide) hF), ← be, x1]
  · intro i hi
    by_cases e : i = 6 * p + t
    · subst e; rw [jup_s]; rfl
    · rw [jup_k (by omega), f3 19 _ (by simp [P12])]
      exact hB i (by omega)
def PP (a : Nat) (j : Int) : Prop := a = 12 ∨ a = 15 ∨ a = 16 ∨ a = 17 ∨ a = 18 ∨ a = 19 ∨ a = 20 ∨ a = 21 ∨ (a = 0 ∧ j = 32)
theorem rowL_F {σ σ' : jxS} {P : Nat → Int → Prop} {a n : Nat} {l : List Nat} (h : rowL σ a n l) (f : jfr P σ σ') (hp : ∀ j, ¬ P a j) : rowL σ' a n l := fun i x hx => by rw [f a _ (hp _)]; exact h i x hx
theorem TW_F {σ σ' : jxS} {P : Nat → Int → Prop} (h : TW σ) (f : jfr P σ σ') (h1 : ∀ j, ¬ P 22 j) (h2 : ∀ j, ¬ P 23 j) : TW σ' := fun t ht => ⟨by rw [f 22 _ (h1 _)]; exact (h t ht).1, fun k s hs => by rw [f 23 _ (h2 _)]; exact (h t ht).2 k s hs⟩
theorem mo_backs {F p : Nat} {σ0 : jxS} {M : Nat → List Nat} {k2 : Int → jxS → Option jxR} (hM : MOK M) (hp : p < 4224) (hT : TW σ0) (wn : σ0 0 32 = ((T M p).length : Int)) (wr : rowL σ0 21 0 (T M p)) (hF : 2000 ≤ F) : ∀ (n fu t : Nat) (σ : jxS), n + t = 6 → jfr (fun a _ => a = 12 ∨ a = 19) σ0 σ → BT σ M (6 * p + t) → n < fu → ∃ σ', Model_laysPositions_c30 F k2 fu p t σ = k2 ((p : Int) + 1) σ' ∧ jfr (fun a _ => a = 12 ∨ a = 19) σ0 σ' ∧ BT σ' M (6 * (p + 1)) := by
  intro n
  induction n with
  | zero =>
    intro fu t σ e1 f hB e2
    obtain ⟨fu, rfl⟩ : ∃ k, fu = k + 1 := ⟨fu - 1, by omega⟩
    refine ⟨σ, ?_, f, by rw [show 6 * (p + 1) = 6 * p + t by omega]; exact hB⟩
    simp (disch := omega) only [Model_laysPositions_c30, ↓reduceIte, jw_id, jlt_T, jlt_F, jle_T, jle_F, jeq_T, jeq_F, and_self, and_true, true_and, and_false, false_and, or_true, true_or, or_false, false_or, not_true_eq_false, not_false_eq_true, jbs, jup_s, jup_k, jup_o]
  | succ n ih =>
    intro fu t σ e1 f hB e2
    obtain ⟨fu, rfl⟩ : ∃ k, fu = k + 1 := ⟨fu - 1, by omega⟩
    obtain ⟨σ1, a1, a2, a3⟩ := mo_back (F := F) hM hp (t := t) (by omega) (TW_F hT f (by simp) (by simp)) hB (by rw [f 0 32 (by simp)]; exact wn) (rowL_F wr f (by simp)) hF
    obtain ⟨σ2, b1, b2, b3⟩ := ih fu (t + 1) σ1 (by omega) (jfr_trans f (jfr_mono a2 (fun a j h => by rcases h with q | q; exact Or.inl q; exact Or.inr q.1))) a3 (by omega)
    refine ⟨σ2, ?_, b2, b3⟩
    rw [Int.natCast_add, Int.natCast_one] at b1
    simp (disch := omega) only [Model_laysPositions_c30, a1, ↓reduceIte, jw_id, jlt_T, jlt_F, jle_T, jle_F, jeq_T, jeq_F, and_self, and_true, true_and, and_false, false_and, or_true, true_or, or_false, false_or, not_true_eq_false, not_false_eq_true, jbs, jup_s, jup_k, jup_o]
    exact b1
theorem mo_poss {F : Nat} {σ0 : jxS} {M : Nat → List Nat} (hM : MOK M) (hW : WT σ0) (hV : MvM σ0 M) (hT : TW σ0) (hA : σ0 0 24 = 4224) (hF : 5000 ≤ F) : ∀ (n fu p : Nat) (σ : jxS), n + p = 4224 → jfr PP σ0 σ → VT σ M p → BT σ M (6 * p) → n < fu → ∃ σ', Model_laysPositions_c2 F fu p σ = some (0, σ') ∧ jfr PP σ0 σ' ∧ VT σ' M 4224 ∧ BT σ' M (6 * 4224) := by
  intro n
  induction n with
  | zero =>
    intro fu p σ e1 f v b e2
    obtain ⟨fu, rfl⟩ : ∃ k, fu = k + 1 := ⟨fu - 1, by omega⟩
    have hp : p = 4224 := by omega
    subst hp
    refine ⟨σ, ?_, f, v, b⟩
    have w : σ 0 24 = 4224 := by rw [f 0 24 (by simp [PP])]; exact hA
    simp (disch := omega) only [Model_laysPositions_c2, w, ↓reduceIte, jw_id, jlt_T, jlt_F, jle_T, jle_F, jeq_T, jeq_F, and_self, and_true, true_and, and_false, false_and, or_true, true_or, or_false, false_or, not_true_eq_false, not_false_eq_true, jbs, jup_s, jup_k, jup_o]
  | succ n ih =>
    intro fu p σ e1 f v b e2
    obtain ⟨fu, rfl⟩ : ∃ k, fu = k + 1 := ⟨fu - 1, by omega⟩
    have hp : p < 4224 := by omega
    have w : σ 0 24 = 4224 := by rw [f 0 24 (by simp [PP])]; exact hA
    obtain ⟨u1, u2, u3⟩ := un_ok hp
    obtain ⟨σ1, a1, a2, a3⟩ := mo_lay (F := F) (a := 20) (σ := σ) (by omega) (by omega) (WT_fr hW f (by simp [PP]) (by simp [PP])) hp (by omega)
    have f1 : jfr PP σ0 σ1 := jfr_trans f (jfr_ag a2 (fun a j h => by simp at h; simp [PP, h]))
    obtain ⟨σ2, b1, b2, b3, b4⟩ := mo_gath (F := F) (WT_fr hW f1 (by simp [PP]) (by simp [PP])) a3 (MvM_fr hV f1 (by simp [PP]) (by simp [PP])) hM u1 u2 (by omega)
    rw [← T_eq] at b3 b4
    have f2 : jfr PP σ0 σ2 := jfr_trans f1 (jfr_mono b2 (fun a j h => by rcases h with q | q <;> simp [PP, q]))
    have g2 : jfr (fun a j => a = 20 ∨ GP a j) σ σ2 := jfr_trans (jfr_ag a2 (fun a j h => Or.inl (by simpa using h))) (jfr_mono b2 (fun a j h => Or.inr h))
    have v2 : VT σ2 M p := VT_fr v g2 (fun a j h1 h2 => by simp [GP]; omega)
    have t2' : BT σ2 M (6 * p) := fun i hi => by rw [g2 19 _ (by simp [GP])]; exact b i hi
    obtain ⟨σ3, c1, c2, c3⟩ := mo_one (F := F) hM v2 hp b3 b4 (by omega)
    have f3 : jfr PP σ0 σ3 := jfr_trans f2 (jfr_mono c2 (fun a j h => by rcases h with q | q | q | q <;> simp [PP, q]))
    have t3 : BT σ3 M (6 * p + 0) := fun i hi => by rw [c2 19 _ (by simp [OP])]; exact t2' i hi
    obtain ⟨σ4, d1, d2, d3⟩ := mo_backs (F := F) (k2 := Model_laysPositions_c2 F fu) hM hp (TW_F hT f3 (by simp [PP]) (by simp [PP])) (by rw [c2 0 32 (by simp [OP])]; exact b3) (rowL_F b4 c2 (by simp [OP])) (by omega) 6 F 0 σ3 (by omega) (jfr_refl _ _) t3 (by omega)
    have f4 : jfr PP σ0 σ4 := jfr_trans f3 (jfr_mono d2 (fun a j h => by rcases h with q | q <;> simp [PP, q]))
    obtain ⟨σ5, g1, g3, g4, g5⟩ := ih fu (p + 1) σ4 (by omega) f4 (VT_fr c3 d2 (fun a j h1 h2 => by omega)) d3 (by omega)
    refine ⟨σ5, ?_, g3, g4, g5⟩
    rw [Int.natCast_add, Int.natCast_one] at g1
    have d1' : Model_laysPositions_c30 F (Model_laysPositions_c2 F fu) F p 0 σ3 = Model_laysPositions_c2 F fu ((p : Int) + 1) σ4 := d1
    rw [Model_laysPositions_c2, w, if_pos (by unfold jw; omega), a1, jbs]
    dsimp only
    rw [b1, jbs]
    dsimp only
    rw [c1, jbs]
    dsimp only
    rw [d1', g1]
theorem mo_positions {F : Nat} {σ : jxS} {M : Nat → List Nat} (hM : MOK M) (hW : WT σ) (hV : MvM σ M) (hT : TW σ) (hA : σ 0 24 = 4224) (hF : 5000 ≤ F) : ∃ σ', Model_laysPositions F σ = some (0, σ') ∧ jfr PP σ σ' ∧ VT σ' M 4224 ∧ BT σ' M (6 * 4224) := mo_poss (F := F) hM hW hV hT hA hF 4224 F 0 σ (by omega) (jfr_refl _ _) (fun p hp => by omega) (fun i hi => by omega) (by omega)
