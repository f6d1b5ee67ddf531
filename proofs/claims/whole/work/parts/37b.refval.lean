/-! The reference: one position laid. -/
def VT (σ : jxS) (M : Nat → List Nat) (n : Nat) : Prop := ∀ p : Nat, p < n → σ 15 p = (if los M p then 1 else 0) ∧ σ 16 p = (rem M p : Int) ∧ σ 17 p = (fw M p : Int) ∧ σ 18 p = (ms M p : Int)
section ONE
variable {F : Nat} {σ : jxS} {k16 : Int → Int → Int → Int → Int → Int → Int → jxS → Option jxR} {v1 v2 v3 v4 v5 v6 v7 q a b : Int}
theorem mo1_135 (hq : 0 ≤ q) (hq2 : q < 4600) (w : σ 18 q = a) (ha : 0 ≤ a) (ha2 : a ≤ 22) (h5 : 0 ≤ v5) (h52 : v5 ≤ 22) (h7 : 0 ≤ v7) (h72 : v7 ≤ 512) : Model_laysOne_c135 F k16 v1 v2 v3 v4 v5 v6 v7 q σ = k16 v1 v2 v3 v4 (if v7 = 0 ∨ v5 < a then a else v5) v6 (v7 + 1) σ := by
  by_cases e : v7 = 0
  · simp (disch := omega) only [Model_laysOne_c135, Model_laysOne_c152, w, e, ↓reduceIte, jw_id, jlt_T, jlt_F, jle_T, jle_F, jeq_T, jeq_F, and_self, and_true, true_and, and_false, false_and, or_true, true_or, or_false, false_or, not_true_eq_false, not_false_eq_true, jbs, jup_s, jup_k, jup_o]
  · by_cases e2 : v5 < a
    · simp (disch := omega) only [Model_laysOne_c135, Model_laysOne_c152, w, ↓reduceIte, jw_id, jlt_T, jlt_F, jle_T, jle_F, jeq_T, jeq_F, and_self, and_true, true_and, and_false, false_and, or_true, true_or, or_false, false_or, not_true_eq_false, not_false_eq_true, jbs, jup_s, jup_k, jup_o]
    · simp (disch := omega) only [Model_laysOne_c135, Model_laysOne_c152, w, ↓reduceIte, jw_id, jlt_T, jlt_F, jle_T, jle_F, jeq_T, jeq_F, and_self, and_true, true_and, and_false, false_and, or_true, true_or, or_false, false_or, not_true_eq_false, not_false_eq_true, jbs, jup_s, jup_k, jup_o]
theorem mo1_109 (hq : 0 ≤ q) (hq2 : q < 4600) (w : σ 18 q = a) (ha : 0 ≤ a) (ha2 : a ≤ 22) (w' : σ 17 q = b) (hb : 0 ≤ b) (hb2 : b ≤ 22) (h4 : 0 ≤ v4) (h42 : v4 ≤ 22) (h5 : 0 ≤ v5) (h52 : v5 ≤ 22) (h7 : 0 ≤ v7) (h72 : v7 ≤ 512) : Model_laysOne_c109 F k16 v1 v2 v3 v4 v5 v6 v7 q σ = k16 v1 v2 v3 (if v7 = 0 ∨ b < v4 then b else v4) (if v7 = 0 ∨ v5 < a then a else v5) v6 (v7 + 1) σ := by
  have r : ∀ v4, Model_laysOne_c135 F k16 v1 v2 v3 v4 v5 v6 v7 q σ = k16 v1 v2 v3 v4 (if v7 = 0 ∨ v5 < a then a else v5) v6 (v7 + 1) σ := fun v4 => mo1_135 hq hq2 w ha ha2 h5 h52 h7 h72
  generalize (if v7 = 0 ∨ v5 < a then a else v5) = A at r ⊢
  by_cases e : v7 = 0
  · rw [Model_laysOne_c109, if_pos (by rw [e]; rfl), Model_laysOne_c126, if_pos ⟨hq, hq2⟩, r, w', if_pos (Or.inl e)]
  · have e' : ¬ jw v7 = 0 := by unfold jw; omega
    rw [Model_laysOne_c109, if_neg e', if_pos ⟨hq, hq2⟩, w']
    by_cases e2 : b < v4
    · rw [if_pos (by unfold jw; omega), Model_laysOne_c126, if_pos ⟨hq, hq2⟩, r, w', if_pos (Or.inr e2)]
    · rw [if_neg (by unfold jw; omega), r, if_neg (by omega)]
theorem mo1_88 {t0 : Int} (hq : 0 ≤ q) (hq2 : q < 4600) (w : σ 16 q = a) (ha : 0 ≤ a) (ha2 : a ≤ 22) (h3 : 0 ≤ v3) (h32 : v3 ≤ 22) : Model_laysOne_c88 F k16 v1 v2 v3 v4 v5 v7 q t0 σ = Model_laysOne_c109 F k16 v1 v2 (if v3 < a then a else v3) v4 v5 t0 v7 q σ := by
  by_cases e : v3 < a
  · simp (disch := omega) only [Model_laysOne_c88, w, ↓reduceIte, jw_id, jlt_T, jlt_F, jle_T, jle_F, jeq_T, jeq_F, and_self, and_true, true_and, and_false, false_and, or_true, true_or, or_false, false_or, not_true_eq_false, not_false_eq_true, jbs, jup_s, jup_k, jup_o]
  · simp (disch := omega) only [Model_laysOne_c88, w, ↓reduceIte, jw_id, jlt_T, jlt_F, jle_T, jle_F, jeq_T, jeq_F, and_self, and_true, true_and, and_false, false_and, or_true, true_or, or_false, false_or, not_true_eq_false, not_false_eq_true, jbs, jup_s, jup_k, jup_o]
theorem mo1_68 {l : Bool} (hq : 0 ≤ q) (hq2 : q < 4600) (w : σ 15 q = if l then 1 else 0) (h6 : v6 = 0 ∨ v6 = 1) : Model_laysOne_c68 F k16 v1 v2 v3 v4 v5 v6 v7 q σ = Model_laysOne_c88 F k16 v1 v2 v3 v4 v5 v7 q (if v6 = 0 ∧ l = false then 0 else 1) σ := by
  rcases h6 with e | e <;> subst e <;> cases l
  · simp only [Bool.false_eq_true, if_false] at w
    simp (disch := omega) only [Model_laysOne_c68, w, ↓reduceIte, jw_id, jlt_T, jlt_F, jle_T, jle_F, jeq_T, jeq_F, and_self, and_true, true_and, and_false, false_and, or_true, true_or, or_false, false_or, not_true_eq_false, not_false_eq_true, jbs, jup_s, jup_k, jup_o]
  · simp only [if_true] at w
    simp (disch := omega) only [Model_laysOne_c68, Model_laysOne_c83, w, Bool.true_eq_false, ↓reduceIte, jw_id, jlt_T, jlt_F, jle_T, jle_F, jeq_T, jeq_F, and_self, and_true, true_and, and_false, false_and, or_true, true_or, or_false, false_or, not_true_eq_false, not_false_eq_true, jbs, jup_s, jup_k, jup_o]
  · simp (disch := omega) only [Model_laysOne_c68, Model_laysOne_c83, ↓reduceIte, jw_id, jlt_T, jlt_F, jle_T, jle_F, jeq_T, jeq_F, and_self, and_true, true_and, and_false, false_and, or_true, true_or, or_false, false_or, not_true_eq_false, not_false_eq_true, jbs, jup_s, jup_k, jup_o]
  · simp (disch := omega) only [Model_laysOne_c68, Model_laysOne_c83, ↓reduceIte, jw_id, jlt_T, jlt_F, jle_T, jle_F, jeq_T, jeq_F, and_self, and_true, true_and, and_false, false_and, or_true, true_or, or_false, false_or, not_true_eq_false, not_false_eq_true, jbs, jup_s, jup_k, jup_o]
/-- one round of the loop -/
theorem mo1_16 {fu : Nat} {l : Bool} {n rq fq mq : Int} (h0 : 0 ≤ v7) (h1 : v7 < n) (hn : n ≤ 512) (wn : σ 0 32 = n) (wq : σ 21 v7 = q) (hq : 0 ≤ q) (hq2 : q < 4600) (wl : σ 15 q = if l then 1 else 0) (wr : σ 16 q = rq) (wf : σ 17 q = fq) (wm : σ 18 q = mq) (r1 : 0 ≤ rq) (r2 : rq ≤ 22) (f1 : 0 ≤ fq) (f2 : fq ≤ 22) (m1 : 0 ≤ mq) (m2 : mq ≤ 22) (h2 : 0 ≤ v2) (h22 : v2 ≤ 22) (h3 : 0 ≤ v3) (h32 : v3 ≤ 22) (h4 : 0 ≤ v4) (h42 : v4 ≤ 22) (h5 : 0 ≤ v5) (h52 : v5 ≤ 22) (h6 : v6 = 0 ∨ v6 = 1) :
    Model_laysOne_c16 F (fu + 1) v1 v2 v3 v4 v5 v6 v7 σ = Model_laysOne_c16 F fu v1 (if l = true ∧ (v6 = 0 ∨ rq < v2) then rq else v2) (if v3 < rq then rq else v3) (if v7 = 0 ∨ fq < v4 then fq else v4) (if v7 = 0 ∨ v5 < mq then mq else v5) (if v6 = 0 ∧ l = false then 0 else 1) (v7 + 1) σ := by
  have c : ∀ v2, Model_laysOne_c68 F (Model_laysOne_c16 F fu) v1 v2 v3 v4 v5 v6 v7 q σ = Model_laysOne_c16 F fu v1 v2 (if v3 < rq then rq else v3) (if v7 = 0 ∨ fq < v4 then fq else v4) (if v7 = 0 ∨ v5 < mq then mq else v5) (if v6 = 0 ∧ l = false then 0 else 1) (v7 + 1) σ := fun v2 => by
    rw [mo1_68 hq hq2 wl h6, mo1_88 hq hq2 wr r1 r2 h3 h32, mo1_109 hq hq2 wm m1 m2 wf f1 f2 h4 h42 h5 h52 h0 (by omega)]
  generalize (if v3 < rq then rq else v3) = A3 at c ⊢
  generalize (if v7 = 0 ∨ fq < v4 then fq else v4) = A4 at c ⊢
  generalize (if v7 = 0 ∨ v5 < mq then mq else v5) = A5 at c ⊢
  generalize (if v6 = 0 ∧ l = false then (0 : Int) else 1) = A6 at c ⊢
  have s : Model_laysOne_c16 F (fu + 1) v1 v2 v3 v4 v5 v6 v7 σ = if jw (σ 15 q) = 0 then Model_laysOne_c68 F (Model_laysOne_c16 F fu) v1 v2 v3 v4 v5 v6 v7 q σ else if jw v6 = 0 then Model_laysOne_c60 F (Model_laysOne_c16 F fu) v1 v3 v4 v5 v6 v7 q σ else if jw rq < jw v2 then Model_laysOne_c60 F (Model_laysOne_c16 F fu) v1 v3 v4 v5 v6 v7 q σ else Model_laysOne_c68 F (Model_laysOne_c16 F fu) v1 v2 v3 v4 v5 v6 v7 q σ := by
    rw [Model_laysOne_c16, wn, if_pos (by unfold jw; omega), if_pos ⟨h0, by omega⟩, wq, if_pos (show 0 ≤ q ∧ q < 4600 from ⟨hq, hq2⟩), if_pos (show 0 ≤ q ∧ q < 4600 from ⟨hq, hq2⟩), wr]
  have c60 : Model_laysOne_c60 F (Model_laysOne_c16 F fu) v1 v3 v4 v5 v6 v7 q σ = Model_laysOne_c68 F (Model_laysOne_c16 F fu) v1 rq v3 v4 v5 v6 v7 q σ := by
    rw [Model_laysOne_c60, if_pos ⟨hq, hq2⟩, wr]
  rw [s, c60, c, c, wl]
  cases l
  · simp only [Bool.false_eq_true, if_false, false_and]
    rw [if_pos (show jw 0 = 0 from rfl)]
  · simp only [if_true, true_and]
    rw [if_neg (show ¬ jw 1 = 0 by decide)]
    rcases h6 with e | e
    · subst e
      rw [if_pos (show jw 0 = 0 from rfl), if_pos (Or.inl rfl)]
    · subst e
      rw [if_neg (show ¬ jw 1 = 0 by decide)]
      by_cases e2 : rq < v2
      · rw [if_pos (show jw rq < jw v2 by unfold jw; omega), if_pos (Or.inr e2)]
      · rw [if_neg (show ¬ jw rq < jw v2 by unfold jw; omega), if_neg (show ¬ ((1 : Int) = 0 ∨ rq < v2) by omega)]
end ONE
theorem mnf_mnf {b : Bool} {a x : Nat} {l : List Nat} : mnf b a (x :: l) = mnf true (if b = false ∨ x < a then x else a) l := rfl
/-- the loop over what follows -/
theorem mo1_loop {F p N : Nat} {σ : jxS} {M : Nat → List Nat} (hM : MOK M) (hV : VT σ M p) (hp : p ≤ 4224) (wn : σ 0 32 = (N : Int)) (hN : N ≤ 512) : ∀ (r : List Nat) (fu i a2 a3 a4 a5 : Nat) (w : Bool), rowL σ 21 i r → r.length + i = N → (∀ q, q ∈ r → q < p) → r.length < fu → a2 ≤ 22 → a3 ≤ 22 → a4 ≤ 22 → a5 ≤ 22 → (i = 0 → a5 = 0) →
    Model_laysOne_c16 F fu p a2 a3 a4 a5 (if w then 1 else 0) i σ = Model_laysOne_c179 F p (mnf w a2 ((r.filter (fun q => los M q)).map (fun q => rem M q)) : Nat) (mxf a3 (r.map (fun q => rem M q)) : Nat) (mnf (decide (0 < i)) a4 (r.map (fw M)) : Nat) (mxf a5 (r.map (ms M)) : Nat) (if w || r.any (fun q => los M q) then 1 else 0) (if 0 < N then 1 else 0) σ := by
  intro r
  induction r with
  | nil =>
    intro fu i a2 a3 a4 a5 w h1 h2 h3 h4 b2 b3 b4 b5 h5
    obtain ⟨fu, rfl⟩ : ∃ k, fu = k + 1 := ⟨fu - 1, by omega⟩
    simp only [List.length_nil] at h2
    simp only [List.filter_nil, List.map_nil, mnf, mxf, List.any_nil, Bool.or_false]
    rw [Model_laysOne_c16, wn, if_neg (by unfold jw; omega)]
    by_cases e : 0 < N
    · rw [if_pos (by unfold jw; omega), if_pos e]
    · rw [if_neg (by unfold jw; omega), if_neg e]
  | cons q r ih =>
    intro fu i a2 a3 a4 a5 w h1 h2 h3 h4 b2 b3 b4 b5 h5
    obtain ⟨fu, rfl⟩ : ∃ k, fu = k + 1 := ⟨fu - 1, by omega⟩
    simp only [List.length_cons] at h2 h4
    have wq : σ 21 (i : Int) = (q : Int) := by have := h1 0 q rfl; rwa [Nat.add_zero] at this
    have hq := h3 q (List.mem_cons_self ..)
    obtain ⟨v1, v2, v3, v4⟩ := hV q hq
    have r2 := rem_22 hM q
    have r3 := ms_le hM q
    have r4 := beans_un q
    rw [mo1_16 (F := F) (fu := fu) (σ := σ) (v1 := p) (v2 := a2) (v3 := a3) (v4 := a4) (v5 := a5) (v6 := if w then 1 else 0) (v7 := i) (q := q) (l := los M q) (n := N) (rq := rem M q) (fq := fw M q) (mq := ms M q) (by omega) (by omega) (by omega) wn wq (by omega) (by omega) v1 v2 v3 v4 (by omega) (by omega) (by omega) (by omega) (by omega) (by omega) (by omega) (by omega) (by omega) (by omega) (by omega) (by omega) (by omega) (by omega) (by cases w <;> simp)]
    have i1 := ih fu (i + 1) (if los M q = true ∧ (w = false ∨ rem M q < a2) then rem M q else a2) (if a3 < rem M q then rem M q else a3) (if i = 0 ∨ fw M q < a4 then fw M q else a4) (if i = 0 ∨ a5 < ms M q then ms M q else a5) (w || los M q) (fun j x hj => by have := h1 (j + 1) x (by simpa using hj); rwa [show i + (j + 1) = i + 1 + j by omega] at this) (by omega) (fun x hx => h3 x (List.mem_cons_of_mem _ hx)) (by omega) (by split <;> omega) (by split <;> omega) (by split <;> omega) (by split <;> omega) (fun h => by omega)
    have e2 : (if los M q = true ∧ ((if w = true then 1 else 0) = (0 : Int) ∨ (rem M q : Int) < a2) then (rem M q : Int) else a2) = ((if los M q = true ∧ (w = false ∨ rem M q < a2) then rem M q else a2 : Nat) : Int) := by
      cases w <;> by_cases z : rem M q < a2 <;> cases los M q <;> simp [z] <;> omega
    have e3 : (if (a3 : Int) < rem M q then (rem M q : Int) else a3) = ((if a3 < rem M q then rem M q else a3 : Nat) : Int) := by split <;> split <;> omega
    have e4 : (if (i : Int) = 0 ∨ (fw M q : Int) < a4 then (fw M q : Int) else a4) = ((if i = 0 ∨ fw M q < a4 then fw M q else a4 : Nat) : Int) := by split <;> split <;> omega
    have e5 : (if (i : Int) = 0 ∨ (a5 : Int) < ms M q then (ms M q : Int) else a5) = ((if i = 0 ∨ a5 < ms M q then ms M q else a5 : Nat) : Int) := by split <;> split <;> omega
    have e6 : (if (if w = true then 1 else 0) = (0 : Int) ∧ los M q = false then (0 : Int) else 1) = (if (w || los M q) = true then 1 else 0) := by cases w <;> cases los M q <;> simp
    have e7 : (i : Int) + 1 = ((i + 1 : Nat) : Int) := by omega
    rw [e2, e3, e4, e5, e6, e7, i1]
    have g2 : mnf (w || los M q) (if los M q = true ∧ (w = false ∨ rem M q < a2) then rem M q else a2) ((r.filter (fun q => los M q)).map (fun q => rem M q)) = mnf w a2 (((q :: r).filter (fun q => los M q)).map (fun q => rem M q)) := by
      cases hl : los M q
      · simp [List.filter_cons, hl]
      · simp [List.filter_cons, hl, mnf]
    have g4 : mnf (decide (0 < i + 1)) (if i = 0 ∨ fw M q < a4 then fw M q else a4) (r.map (fw M)) = mnf (decide (0 < i)) a4 ((q :: r).map (fw M)) := by
      rw [List.map_cons, mnf_mnf]
      by_cases z : i = 0
      · subst z; simp
      · have z' : 0 < i := by omega
        simp [z, z']
    have g5 : mxf (if i = 0 ∨ a5 < ms M q then ms M q else a5) (r.map (ms M)) = mxf a5 ((q :: r).map (ms M)) := by
      rw [List.map_cons]
      show _ = mxf (if a5 < ms M q then ms M q else a5) (r.map (ms M))
      by_cases z : i = 0
      · have := h5 z
        subst this
        rw [if_pos (Or.inl z)]
        by_cases y : 0 < ms M q
        · rw [if_pos y]
        · rw [if_neg y, show ms M q = 0 by omega]
      · congr 1
        by_cases y : a5 < ms M q
        · rw [if_pos y, if_pos (Or.inr y)]
        · rw [if_neg y, if_neg (by omega)]
    rw [g2, g4, g5]
    simp only [List.map_cons, mxf, List.any_cons, Bool.or_assoc]
    rfl
