/-! The class: outcomes. -/
noncomputable def outc (M : Nat → List Nat) (p : Nat) : Nat := 2 * rem M p + (if los M p then 0 else 1)
theorem outc_le {M : Nat → List Nat} (hM : MOK M) (p : Nat) : outc M p ≤ 45 := by
  have := rem_22 hM p
  unfold outc
  split <;> omega
theorem outc_even (M : Nat → List Nat) (p : Nat) : outc M p % 2 = (if los M p then 0 else 1) ∧ outc M p / 2 = rem M p := by
  unfold outc
  split <;> omega
theorem cj_step {F fu : Nat} {σ : jxS} {N v3 l4 v5 i q o : Int} (hi : i < N) (hi0 : 0 ≤ i) (hN : N ≤ 203) (wq : σ 39 i = q) (hq : 0 ≤ q) (hq2 : q < 4224) (wo : σ 34 q = o) (ho : 0 ≤ o) (ho2 : o ≤ 45) (h3 : 0 ≤ v3) (h32 : v3 ≤ 45) (h4 : 0 ≤ l4) (h42 : l4 ≤ 45) : Values_judgeOptions_c36 F (fu + 1) N v3 l4 v5 i σ = Values_judgeOptions_c36 F fu N (if o % 2 = 0 ∧ o < v3 then o else v3) (if l4 < o then o else l4) (if o % 2 = 0 then 1 else v5) (i + 1) σ := by
  by_cases e1 : o % 2 = 0 <;> by_cases e2 : o < v3 <;> by_cases e3 : l4 < o <;> simp (disch := omega) only [Values_judgeOptions_c36, Values_judgeOptions_c71, Values_judgeOptions_c84, wq, wo, bq_and1, ↓reduceIte, jw_id, jlt_T, jlt_F, jle_T, jle_F, jeq_T, jeq_F, and_self, and_true, true_and, and_false, false_and, or_true, true_or, or_false, false_or, not_true_eq_false, not_false_eq_true, jbs, jup_s, jup_k, jup_o]
theorem cj_loop {F N : Nat} {σ : jxS} {M : Nat → List Nat} (hM : MOK M) {p : Nat} (hp : p ≤ 4224) (hO : ∀ q : Nat, q < p → σ 34 q = (outc M q : Int)) (hN : N ≤ 203) : ∀ (r : List Nat) (fu i a3 l4 : Nat) (w : Bool), rowL σ 39 i r → r.length + i = N → (∀ q, q ∈ r → q < p) → r.length < fu → a3 ≤ 22 → l4 ≤ 45 → Values_judgeOptions_c36 F fu N ((2 * a3 : Nat) : Int) l4 (if w then 1 else 0) i σ = Values_judgeOptions_c109 F N ((2 * mnf true a3 ((r.filter (fun q => los M q)).map (fun q => rem M q)) : Nat) : Int) (mxf l4 (r.map (outc M)) : Nat) (if w || r.any (fun q => los M q) then 1 else 0) σ := by
  intro r
  induction r with
  | nil =>
    intro fu i a3 l4 w h1 h2 h3 h4 b3 b4
    obtain ⟨fu, rfl⟩ : ∃ k, fu = k + 1 := ⟨fu - 1, by omega⟩
    simp only [List.length_nil] at h2
    simp only [List.filter_nil, List.map_nil, mnf, mxf, List.any_nil, Bool.or_false]
    rw [Values_judgeOptions_c36, if_neg (by unfold jw; omega)]
  | cons q r ih =>
    intro fu i a3 l4 w h1 h2 h3 h4 b3 b4
    obtain ⟨fu, rfl⟩ : ∃ k, fu = k + 1 := ⟨fu - 1, by omega⟩
    simp only [List.length_cons] at h2 h4
    have wq : σ 39 (i : Int) = (q : Int) := by have := h1 0 q rfl; rwa [Nat.add_zero] at this
    have hq := h3 q (List.mem_cons_self ..)
    have wo := hO q hq
    have o1 := outc_le hM q
    obtain ⟨o2, o3⟩ := outc_even M q
    have r2 := rem_22 hM q
    rw [cj_step (F := F) (fu := fu) (σ := σ) (N := N) (q := q) (o := outc M q) (by omega) (by omega) (by omega) wq (by omega) (by omega) wo (by omega) (by omega) (by omega) (by omega) (by omega) (by omega)]
    have i1 := ih fu (i + 1) (if los M q = true ∧ rem M q < a3 then rem M q else a3) (if l4 < outc M q then outc M q else l4) (w || los M q) (fun j x hj => by have := h1 (j + 1) x (by simpa using hj); rwa [show i + (j + 1) = i + 1 + j by omega] at this) (by omega) (fun x hx => h3 x (List.mem_cons_of_mem _ hx)) (by omega) (by split <;> omega) (by split <;> omega)
    have e3 : (if (outc M q : Int) % 2 = 0 ∧ (outc M q : Int) < ((2 * a3 : Nat) : Int) then (outc M q : Int) else ((2 * a3 : Nat) : Int)) = ((2 * (if los M q = true ∧ rem M q < a3 then rem M q else a3) : Nat) : Int) := by
      cases hl : los M q
      · rw [hl] at o2
        simp only [Bool.false_eq_true, if_false, false_and] at o2 ⊢
        rw [if_neg (by omega)]
      · rw [hl] at o2
        simp only [if_true, true_and] at o2 ⊢
        by_cases z : rem M q < a3
        · rw [if_pos (by omega), if_pos z]; omega
        · rw [if_neg (by omega), if_neg z]
    have e4 : (if (l4 : Int) < (outc M q : Int) then (outc M q : Int) else (l4 : Int)) = ((if l4 < outc M q then outc M q else l4 : Nat) : Int) := by
      by_cases z : l4 < outc M q
      · rw [if_pos (by omega), if_pos z]
      · rw [if_neg (by omega), if_neg z]
    have e5 : (if (outc M q : Int) % 2 = 0 then (1 : Int) else (if w = true then 1 else 0)) = (if (w || los M q) = true then 1 else 0) := by
      cases hl : los M q
      · rw [hl] at o2
        simp only [Bool.false_eq_true, if_false] at o2
        rw [if_neg (by omega), Bool.or_false]
      · rw [hl] at o2
        simp only [if_true] at o2
        rw [if_pos (by omega), Bool.or_true, if_pos rfl]
    rw [e3, e4, e5, show (i : Int) + 1 = ((i + 1 : Nat) : Int) by omega, i1]
    have g2 : mnf true (if los M q = true ∧ rem M q < a3 then rem M q else a3) ((r.filter (fun q => los M q)).map (fun q => rem M q)) = mnf true a3 (((q :: r).filter (fun q => los M q)).map (fun q => rem M q)) := by
      cases hl : los M q
      · simp [List.filter_cons, hl]
      · simp [List.filter_cons, hl, mnf]
    rw [g2]
    simp only [List.map_cons, mxf, List.any_cons, Bool.or_assoc]
    rfl
theorem jand_m2 : ∀ x : Nat, x < 64 → jand (x : Int) (-2) = ((x / 2 * 2 : Nat) : Int) := by decide +kernel
theorem mxf_odd {l : List Nat} {f g : Nat → Nat} (h : ∀ x, x ∈ l → f x = 2 * g x + 1) (hl : l ≠ []) : mxf 0 (l.map f) = 2 * mxf 0 (l.map g) + 1 := by
  have key : ∀ (l : List Nat) (a : Nat), (∀ x, x ∈ l → f x = 2 * g x + 1) → mxf (2 * a + 1) (l.map f) = 2 * mxf a (l.map g) + 1 := by
    intro l
    induction l with
    | nil => intro a _; rfl
    | cons x l ih =>
      intro a h
      have hx := h x (List.mem_cons_self ..)
      simp only [List.map_cons, mxf]
      have e : (if 2 * a + 1 < f x then f x else 2 * a + 1) = 2 * (if a < g x then g x else a) + 1 := by split <;> split <;> omega
      rw [e]
      exact ih _ (fun y hy => h y (List.mem_cons_of_mem _ hy))
  match l, hl with
  | x :: l, _ =>
    have hx := h x (List.mem_cons_self ..)
    simp only [List.map_cons, mxf]
    have e : (if 0 < f x then f x else 0) = 2 * (if 0 < g x then g x else 0) + 1 := by split <;> split <;> omega
    rw [e]
    exact key l _ (fun y hy => h y (List.mem_cons_of_mem _ hy))
theorem ca_judge {F p : Nat} {σ : jxS} {M : Nat → List Nat} (hM : MOK M) (hp : p < 4224) (hO : ∀ q : Nat, q < p → σ 34 q = (outc M q : Int)) (wn : σ 38 4 = ((T M p).length : Int)) (wr : rowL σ 39 0 (T M p)) (hF : 1000 ≤ F) : Values_judgeOptions F σ = some ((outc M p : Int), σ) := by
  have hl : (T M p).length ≤ 203 := by rw [T_eq, tl, List.length_map]; exact ops_len hM _
  have lo := fun w => cj_loop (F := F) hM (p := p) (by omega) hO hl (T M p) F 0 22 0 w wr (by omega) (fun q hq => (T_mem hM hq).1) (by omega) (by omega) (by omega)
  have l1 := los_eq hM p
  have l2 := rem_eq hM p
  rw [any_all (l := T M p) (f := fun q => los M q)] at l1
  by_cases z : 0 < (T M p).length
  · have z' : (T M p).isEmpty = false := by
      cases h : (T M p).isEmpty
      · rfl
      · exact absurd z (isE.mp h)
    rw [z'] at l1 l2
    simp only [Bool.false_eq_true, if_false, Bool.not_false, Bool.true_and] at l1 l2
    have lo1 := lo false
    simp only [Bool.false_eq_true, if_false, Bool.false_or] at lo1
    rw [Values_judgeOptions, wn, if_neg (show ¬ jw ((T M p).length : Int) = 0 by clear l2; unfold jw; omega)]
    refine Eq.trans lo1 ?_
    cases ha : (T M p).any (fun q => los M q)
    · rw [ha] at l1 l2
      simp only [Bool.false_eq_true, if_false, Bool.not_false] at l1 l2
      have hall : ∀ q, q ∈ T M p → los M q = false := fun q hq => by
        cases h : los M q
        · rfl
        · have : (T M p).any (fun q => los M q) = true := List.any_eq_true.mpr ⟨q, hq, h⟩
          rw [ha] at this
          cases this
      have hodd := mxf_odd (l := T M p) (f := outc M) (g := fun q => rem M q) (fun q hq => by unfold outc; rw [hall q hq]; simp) (fun q => by rw [q] at z; simp at z)
      have hmx : mxf 0 ((T M p).map (fun q => rem M q)) ≤ 22 := mxf_le (fun x hx => by obtain ⟨q, _, rfl⟩ := List.mem_map.mp hx; exact rem_22 hM q) 0 (by omega)
      simp only [Bool.false_eq_true, if_false]
      rw [Values_judgeOptions_c109, if_pos (show jw 0 = 0 from rfl), hodd, outc, l1, l2]
      generalize mxf 0 ((T M p).map (fun q => rem M q)) = x at hmx ⊢
      rw [jand_m2 (2 * x + 1) (by omega)]
      simp only [if_true]
      congr 2
      omega
    · rw [ha] at l1 l2
      simp only [if_true, Bool.not_true] at l1 l2
      have hne : ((T M p).filter (fun q => los M q)).map (fun q => rem M q) ≠ [] := fun q => by
        obtain ⟨x, hx, hx2⟩ := List.any_eq_true.mp ha
        have : rem M x ∈ ((T M p).filter (fun q => los M q)).map (fun q => rem M q) := List.mem_map.mpr ⟨x, List.mem_filter.mpr ⟨hx, hx2⟩, rfl⟩
        rw [q] at this
        simp at this
      obtain ⟨m1, m2⟩ := mnf_false hne 0
      have m3 : mnf true 22 (((T M p).filter (fun q => los M q)).map (fun q => rem M q)) = mnf false 0 (((T M p).filter (fun q => los M q)).map (fun q => rem M q)) := mnt_is m1 m2 (by obtain ⟨q, _, h⟩ := List.mem_map.mp m1; rw [← h]; exact rem_22 hM q)
      have hmx : mnf false 0 (((T M p).filter (fun q => los M q)).map (fun q => rem M q)) ≤ 22 := by obtain ⟨q, _, h⟩ := List.mem_map.mp m1; rw [← h]; exact rem_22 hM q
      simp only [if_true]
      rw [Values_judgeOptions_c109, if_neg (show ¬ jw 1 = 0 by decide), if_neg (show ¬ jw ((T M p).length : Int) = 0 by clear l2; unfold jw; omega), m3, outc, l1, l2]
      generalize mnf false 0 (((T M p).filter (fun q => los M q)).map (fun q => rem M q)) = x
      simp only [Bool.false_eq_true, if_false]
      congr 2
      omega
  · have z' : (T M p).isEmpty = true := isE.mpr z
    rw [z'] at l1 l2
    simp only [if_true, Bool.not_true, Bool.false_and] at l1 l2
    have hz : (T M p).length = 0 := by clear l2; omega
    have lo1 := lo true
    simp only [if_true, Bool.true_or] at lo1
    rw [Values_judgeOptions, wn, if_pos (show jw ((T M p).length : Int) = 0 by rw [hz]; rfl)]
    refine Eq.trans lo1 ?_
    rw [Values_judgeOptions_c109, if_neg (show ¬ jw 1 = 0 by decide), if_pos (show jw ((T M p).length : Int) = 0 by rw [hz]; rfl), outc, l1, l2]
    rfl
/-- what of the values is laid so far -/
def OcC (σ : jxS) (M : Nat → List Nat) (k : Nat) : Prop := σ 33 7 = (k : Int) ∧ k ≤ 4224 ∧ ∀ p : Nat, p < k → σ 34 p = (outc M p : Int)
noncomputable def gpk (M : Nat → List Nat) (p : Nat) : Nat := bk M p 0 + 32 * bk M p 1 + 1024 * bk M p 2 + 32768 * bk M p 3 + 1048576 * bk M p 4 + 33554432 * bk M p 5
def GeC (σ : jxS) (M : Nat → List Nat) (k : Nat) : Prop := σ 33 8 = (k : Int) ∧ k ≤ 4224 ∧ ∀ p : Nat, p < k → σ 35 p = (gpk M p : Int)
def cpl (c d : Nat → Nat) : Nat → Nat := fun h => c h + d h
noncomputable def mrkn (M : Nat → List Nat) (p n : Nat) : Nat := match n with
  | 0 => 0
  | n + 1 => mrkn M p n ||| (if los M (rank (cpl (un p) (un n))) then 2 ^ n else 0)
noncomputable def mrk (M : Nat → List Nat) (p : Nat) : Nat := jseal (mrkn M p 45)
def MkC (σ : jxS) (M : Nat → List Nat) : Prop := ∀ p : Nat, p < 677 → σ 37 p = -1 ∨ σ 37 p = (mrk M p : Int)
def CV (σ : jxS) (M : Nat → List Nat) : Prop := PosOK σ ∧ RulC σ M ∧ (∃ k, OcC σ M k) ∧ (∃ k, GeC σ M k) ∧ MkC σ M
def VP (a : Nat) (j : Int) : Prop := a = 34 ∨ a = 35 ∨ a = 36 ∨ a = 37 ∨ a = 39 ∨ a = 40 ∨ (a = 38 ∧ j = 4) ∨ (a = 33 ∧ (j = 7 ∨ j = 8))
def vres (M : Nat → List Nat) (σ : jxS) (o : Option jxR) (x : Int) : Prop := ∃ σ', o = some (x, σ') ∧ jfr VP σ σ' ∧ CV σ' M
def SP (a : Nat) (j : Int) : Prop := jLP 38 a j ∨ a = 34 ∨ (a = 33 ∧ j = 7)
theorem SP_VP {a : Nat} {j : Int} (h : SP a j) : VP a j := by
  rcases h with (h | h | h) | h | h
  · simp [VP, h]
  · simp [VP, h]
  · simp [VP, h]
  · simp [VP, h]
  · simp [VP, h]
theorem ca_settle_c {F : Nat} {σ0 : jxS} {M : Nat → List Nat} {v1 : Int} (hM : MOK M) (hP : PosOK σ0) (hR : RulC σ0 M) (hv : -2147483648 ≤ v1) (hv2 : v1 ≤ 2147483647) (hF : 1000 ≤ F) : ∀ (n fu k : Nat) (σ : jxS), n + k = 4224 → jfr SP σ0 σ → OcC σ M k → n < fu → ∃ σ' k', Values_settleTo_c5 F fu v1 k σ = some (0, σ') ∧ jfr SP σ0 σ' ∧ OcC σ' M k' ∧ k ≤ k' ∧ (v1 < k' ∨ k' = 4224) := by
  intro n
  induction n with
  | zero =>
    intro fu k σ e1 f h e2
    obtain ⟨fu, rfl⟩ : ∃ k, fu = k + 1 := ⟨fu - 1, by omega⟩
    refine ⟨σ, k, ?_, f, h, Nat.le_refl _, Or.inr (by omega)⟩
    have hk : k = 4224 := by omega
    subst hk
    by_cases q : v1 < 4224
    · simp (disch := omega) only [Values_settleTo_c5, ↓reduceIte, jw_id, jlt_T, jlt_F, jle_T, jle_F, jeq_T, jeq_F, and_self, and_true, true_and, and_false, false_and, or_true, true_or, or_false, false_or, not_true_eq_false, not_false_eq_true, jbs, jup_s, jup_k, jup_o]
    · simp (disch := omega) only [Values_settleTo_c5, ↓reduceIte, jw_id, jlt_T, jlt_F, jle_T, jle_F, jeq_T, jeq_F, and_self, and_true, true_and, and_false, false_and, or_true, true_or, or_false, false_or, not_true_eq_false, not_false_eq_true, jbs, jup_s, jup_k, jup_o]
  | succ n ih =>
    intro fu k σ e1 f h e2
    obtain ⟨fu, rfl⟩ : ∃ k, fu = k + 1 := ⟨fu - 1, by omega⟩
    by_cases q : v1 < k
    · refine ⟨σ, k, ?_, f, h, Nat.le_refl _, Or.inl q⟩
      simp (disch := omega) only [Values_settleTo_c5, ↓reduceIte, jw_id, jlt_T, jlt_F, jle_T, jle_F, jeq_T, jeq_F, and_self, and_true, true_and, and_false, false_and, or_true, true_or, or_false, false_or, not_true_eq_false, not_false_eq_true, jbs, jup_s, jup_k, jup_o]
    · have hk : k < 4224 := by omega
      obtain ⟨u1, u2, u3⟩ := un_ok hk
      have hP' := PosOK_fr hP f (fun a j _ _ => by simp only [SP, jLP]; omega)
      have hR' := RulC_fr hR f (fun j => by simp only [SP, jLP]; omega) (fun j => by simp only [SP, jLP]; omega)
      obtain ⟨σ1, a1, a2, a3, a4, a5⟩ := ca_list (F := F) (o := 38) (Or.inl rfl) hP' hR' hM u1 u2 hF
      rw [u3] at a1
      rw [← T_eq] at a4
      have a3' : σ1 38 4 = ((T M k).length : Int) := by rw [a3, T_eq, tl, List.length_map]
      have o1 : ∀ q : Nat, q < k → σ1 34 q = (outc M q : Int) := fun q hq => by rw [a2 34 _ (by simp only [jLP]; omega)]; exact h.2.2 q hq
      have jg := ca_judge (F := F) hM hk o1 a3' a4 hF
      have f1 : jfr SP σ0 (jup (jup σ1 34 k (outc M k)) 33 7 ((k : Int) + 1)) := jfr_up (jfr_up (jfr_trans f (jfr_mono a2 (fun a j h => Or.inl h))) (Or.inr (Or.inl rfl))) (Or.inr (Or.inr ⟨rfl, rfl⟩))
      obtain ⟨σ', k', i1, i2, i3, i4, i5⟩ := ih fu (k + 1) _ (by omega) f1 ⟨by rw [jup_s]; rfl, by omega, fun q hq => by
        rw [jup_o (by omega)]
        by_cases e : q = k
        · rw [e, jup_s]
        · rw [jup_k (by omega)]; exact o1 q (by omega)⟩ (by omega)
      refine ⟨σ', k', ?_, i2, i3, by omega, i5⟩
      rw [Int.natCast_add, Int.natCast_one] at i1
      rw [Values_settleTo_c5, if_neg (by unfold jw; omega), if_pos (by unfold jw; omega), a1, jbs]
      dsimp only
      rw [jg, jbs]
      dsimp only
      rw [if_pos (by omega)]
      exact i1
theorem CV_SP {σ σ' : jxS} {M : Nat → List Nat} {k : Nat} (h : CV σ M) (f : jfr SP σ σ') (ho : OcC σ' M k) : CV σ' M := by
  obtain ⟨h1, h2, h3, ⟨g, g1, g2, g3⟩, h5⟩ := h
  refine ⟨PosOK_fr h1 f (fun a j _ _ => by simp only [SP, jLP]; omega), RulC_fr h2 f (fun j => by simp only [SP, jLP]; omega) (fun j => by simp only [SP, jLP]; omega), ⟨k, ho⟩, ⟨g, ?_, g2, fun p hp => ?_⟩, fun p hp => ?_⟩
  · rw [f 33 8 (by simp only [SP, jLP]; omega)]; exact g1
  · rw [f 35 _ (by simp only [SP, jLP]; omega)]; exact g3 p hp
  · rw [f 37 _ (by simp only [SP, jLP]; omega)]; exact h5 p hp
theorem ca_settle {F : Nat} {σ : jxS} {M : Nat → List Nat} {v1 : Int} (hM : MOK M) (h : CV σ M) (hv : -2147483648 ≤ v1) (hv2 : v1 ≤ 2147483647) (hF : 5000 ≤ F) : ∃ σ', Values_settleTo F σ v1 = some (0, σ') ∧ jfr SP σ σ' ∧ CV σ' M ∧ ∀ p : Nat, (p : Int) ≤ v1 → p < 4224 → σ' 34 p = (outc M p : Int) := by
  obtain ⟨k, ho⟩ := h.2.2.1
  obtain ⟨σ', k', i1, i2, i3, i4, i5⟩ := ca_settle_c (F := F) hM h.1 h.2.1 hv hv2 (by omega) (4224 - k) F k σ (by have := ho.2.1; omega) (jfr_refl _ _) ho (by omega)
  refine ⟨σ', ?_, i2, CV_SP h i2 i3, fun p h1 h2 => i3.2.2 p (by omega)⟩
  rw [Values_settleTo, ho.1]
  exact i1
theorem ca_loses {F p : Nat} {σ : jxS} {M : Nat → List Nat} (hM : MOK M) (h : CV σ M) (hp : p < 4224) (hF : 5000 ≤ F) : vres M σ (Values_loses F σ p) (if los M p then 1 else 0) := by
  obtain ⟨σ', i1, i2, i3, i4⟩ := ca_settle (F := F) (v1 := p) hM h (by omega) (by omega) hF
  have w := i4 p (by omega) hp
  have e := px_is (F := F) (σ := σ') (p := p) (by omega) (by omega)
  obtain ⟨o1, o2⟩ := outc_even M p
  have o3 := outc_le hM p
  have d := jdv (x := (outc M p : Int)) (d := 2) (by omega) (by omega) rfl
  refine ⟨σ', ?_, jfr_mono i2 (fun a j => SP_VP), i3⟩
  rw [Values_loses, i1, jbs]
  dsimp only
  rw [e, jbs]
  dsimp only
  simp only [w, d.2]
  cases hl : los M p
  · rw [hl] at o1
    simp only [Bool.false_eq_true, if_false] at o1 ⊢
    simp (disch := omega) only [↓reduceIte, jw_id, jlt_T, jlt_F, jle_T, jle_F, jeq_T, jeq_F, and_self, and_true, true_and, and_false, false_and, or_true, true_or, or_false, false_or, not_true_eq_false, not_false_eq_true, jbs, jup_s, jup_k, jup_o]
  · rw [hl] at o1
    simp only [if_true] at o1 ⊢
    simp (disch := omega) only [↓reduceIte, jw_id, jlt_T, jlt_F, jle_T, jle_F, jeq_T, jeq_F, and_self, and_true, true_and, and_false, false_and, or_true, true_or, or_false, false_or, not_true_eq_false, not_false_eq_true, jbs, jup_s, jup_k, jup_o]
theorem ca_remote {F p : Nat} {σ : jxS} {M : Nat → List Nat} (hM : MOK M) (h : CV σ M) (hp : p < 4224) (hF : 5000 ≤ F) : vres M σ (Values_remoteOf F σ p) (rem M p : Int) := by
  obtain ⟨σ', i1, i2, i3, i4⟩ := ca_settle (F := F) (v1 := p) hM h (by omega) (by omega) hF
  have w := i4 p (by omega) hp
  have e := px_is (F := F) (σ := σ') (p := p) (by omega) (by omega)
  obtain ⟨o1, o2⟩ := outc_even M p
  have o3 := outc_le hM p
  have d := jdv (x := (outc M p : Int)) (d := 2) (by omega) (by omega) rfl
  refine ⟨σ', ?_, jfr_mono i2 (fun a j => SP_VP), i3⟩
  rw [Values_remoteOf, i1, jbs]
  dsimp only
  rw [e, jbs]
  dsimp only
  have o4 : ((outc M p : Nat) : Int) / 2 = (rem M p : Int) := by omega
  simp only [w, d.1, o4]
  simp (disch := omega) only [↓reduceIte, jw_id, jlt_T, jlt_F, jle_T, jle_F, jeq_T, jeq_F, and_self, and_true, true_and, and_false, false_and, or_true, true_or, or_false, false_or, not_true_eq_false, not_false_eq_true, jbs, jup_s, jup_k, jup_o]
