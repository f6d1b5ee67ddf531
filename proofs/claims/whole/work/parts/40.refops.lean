/-! The reference: loops over the moves of heaps. -/
def RV (σ : jxS) (M : Nat → List Nat) (a : Nat) (c : Nat → Nat) : Prop := WT σ ∧ MvM σ M ∧ VT σ M 4224 ∧ Hd σ a c
noncomputable def lsf (M : Nat → List Nat) (c : Nat → Nat) (o : Nat × Nat) : Bool := los M (rank (tgt c o.1 o.2))
noncomputable def rmf (M : Nat → List Nat) (c : Nat → Nat) (o : Nat × Nat) : Nat := rem M (rank (tgt c o.1 o.2))
theorem rv_at {F a : Nat} {σ : jxS} {M : Nat → List Nat} {c : Nat → Nat} {h k m : Nat} (ha : a ≠ 13) (ha2 : a ≠ 14) (hI : RV σ M a c) (hM : MOK M) (hc : okc c) (hb : beans c ≤ 22) (h1 : 1 ≤ h) (h2 : h ≤ 12) (hp : 0 < c h) (hF : 1000 ≤ F) (hm : (M h)[k]? = some m) : ∃ q : Nat, q < 4224 ∧ σ 10 h = ((M h).length : Int) ∧ (M h).length ≤ 42 ∧ k < (M h).length ∧ σ 9 (64 * (h : Int) + k) = (m : Int) ∧ m < 169 ∧ σ a h = (c h : Int) ∧ c h ≤ 22 ∧ Model_behind F a σ h m = some ((q : Int), σ) ∧ σ 15 q = (if lsf M c (h, m) then 1 else 0) ∧ σ 16 q = (rmf M c (h, m) : Int) ∧ rmf M c (h, m) ≤ 22 := by
  obtain ⟨w1, w2, w3, w4⟩ := hI
  have hmo := (hM h h1 h2).2 m (List.mem_of_getElem? hm)
  have cl := count_le (c := c) h1 h2
  obtain ⟨t1, t2⟩ := tgt_beans (m := m) hc h1 h2 hp (by omega)
  have rt := rank_top (c := tgt c h m) (by omega)
  obtain ⟨v1, v2, v3, v4⟩ := w3 _ rt
  exact ⟨rank (tgt c h m), rt, (w2 h h1 h2).1, MOK_len hM h1 h2, (List.getElem?_eq_some_iff.mp hm).1, (w2 h h1 h2).2 k m hm, by omega, w4 h h1 h2, by omega, mo_behind ha ha2 w1 w4 hc hb h1 h2 hp (by omega) (by omega), v1, v2, rem_22 hM _⟩
theorem drop_at {l r : List Nat} {k m : Nat} (e1 : l.drop k = m :: r) : l[k]? = some m ∧ l.drop (k + 1) = r := by
  constructor
  · have : (l.drop k)[0]? = some m := by rw [e1]; rfl
    rwa [List.getElem?_drop, Nat.add_zero] at this
  · have : (l.drop k).drop 1 = r := by rw [e1]; rfl
    rwa [List.drop_drop] at this
theorem glo_s (M : Nat → List Nat) (c : Nat → Nat) (n : Nat) : glo M c (n + 1) = (if 0 < c (12 - n) then (M (12 - n)).map (fun m => (12 - n, m)) else []) ++ glo M c n := rfl

/-! good moves -/
noncomputable def gws (M : Nat → List Nat) (c : Nat → Nat) (l : List (Nat × Nat)) : Nat := match l with
  | [] => 0
  | o :: t => (if lsf M c o then c o.1 else 0) + gws M c t
theorem gws_app (M : Nat → List Nat) (c : Nat → Nat) (l l' : List (Nat × Nat)) : gws M c (l ++ l') = gws M c l + gws M c l' := by
  induction l with
  | nil => simp [gws]
  | cons o l ih => simp only [List.cons_append, gws, ih, Nat.add_assoc]
set_option maxRecDepth 8000 in
theorem rg_in {F : Nat} {σ : jxS} {M : Nat → List Nat} {c : Nat → Nat} {h : Nat} {K : Int → Int → jxS → Option jxR} (hI : RV σ M 24 c) (hM : MOK M) (hc : okc c) (hb : beans c ≤ 22) (h1 : 1 ≤ h) (h2 : h ≤ 12) (hp : 0 < c h) (hF : 1000 ≤ F) : ∀ (r : List Nat) (fu k : Nat) (v : Int), (M h).drop k = r → r.length + k = (M h).length → r.length < fu → Model_goodMoves_c12 F K fu v h k σ = K (v + gws M c (r.map (fun m => (h, m)))) (h + 1) σ := by
  have ml := MOK_len hM h1 h2
  have w0 := (hI.2.1 h h1 h2).1
  intro r
  induction r with
  | nil =>
    intro fu k v e1 e2 e3
    obtain ⟨fu, rfl⟩ : ∃ k, fu = k + 1 := ⟨fu - 1, by omega⟩
    simp only [List.length_nil] at e2
    simp only [List.map_nil, gws, Int.natCast_zero, Int.add_zero]
    simp (disch := omega) only [Model_goodMoves_c12, w0, ↓reduceIte, jw_id, jlt_T, jlt_F, jle_T, jle_F, jeq_T, jeq_F, and_self, and_true, true_and, and_false, false_and, or_true, true_or, or_false, false_or, not_true_eq_false, not_false_eq_true, jbs, jup_s, jup_k, jup_o]
  | cons m r ih =>
    intro fu k v e1 e2 e3
    obtain ⟨fu, rfl⟩ : ∃ k, fu = k + 1 := ⟨fu - 1, by omega⟩
    simp only [List.length_cons] at e2 e3
    obtain ⟨hm, hr⟩ := drop_at e1
    obtain ⟨q, q1, q2, q3, q4, q5, q6, q7, q8, q9, q10, q11, q12⟩ := rv_at (F := F) (by decide) (by decide) hI hM hc hb h1 h2 hp hF hm
    have i1 := fun v => ih fu (k + 1) v hr (by omega) (by omega)
    simp only [Int.natCast_add, Int.natCast_one] at i1
    rw [List.map_cons, gws]
    cases hl : lsf M c (h, m)
    · rw [hl] at q10
      simp only [Bool.false_eq_true, if_false, Nat.zero_add] at q10 ⊢
      simp (disch := omega) only [Model_goodMoves_c12, q2, q5, q7, q9, q10, ↓reduceIte, jw_id, jlt_T, jlt_F, jle_T, jle_F, jeq_T, jeq_F, and_self, and_true, true_and, and_false, false_and, or_true, true_or, or_false, false_or, not_true_eq_false, not_false_eq_true, jbs, jup_s, jup_k, jup_o]
      rw [i1, Int.add_zero]
    · rw [hl] at q10
      simp only [if_true] at q10 ⊢
      simp (disch := omega) only [Model_goodMoves_c12, q2, q5, q7, q9, q10, ↓reduceIte, jw_id, jlt_T, jlt_F, jle_T, jle_F, jeq_T, jeq_F, and_self, and_true, true_and, and_false, false_and, or_true, true_or, or_false, false_or, not_true_eq_false, not_false_eq_true, jbs, jup_s, jup_k, jup_o]
      rw [i1, Int.natCast_add, Int.add_assoc]
theorem rg_out {F : Nat} {σ : jxS} {M : Nat → List Nat} {c : Nat → Nat} (hI : RV σ M 24 c) (hM : MOK M) (hc : okc c) (hb : beans c ≤ 22) (hF : 1000 ≤ F) : ∀ (n fu : Nat) (h v : Int), n + h = 13 → n ≤ 12 → n < fu → Model_goodMoves_c4 F fu v h σ = some (v + gws M c (glo M c n), σ) := by
  intro n
  induction n with
  | zero =>
    intro fu h v e1 e2 e3
    obtain ⟨fu, rfl⟩ : ∃ k, fu = k + 1 := ⟨fu - 1, by omega⟩
    simp only [glo, gws, Int.natCast_zero, Int.add_zero]
    simp (disch := omega) only [Model_goodMoves_c4, ↓reduceIte, jw_id, jlt_T, jlt_F, jle_T, jle_F, jeq_T, jeq_F, and_self, and_true, true_and, and_false, false_and, or_true, true_or, or_false, false_or, not_true_eq_false, not_false_eq_true, jbs, jup_s, jup_k, jup_o]
  | succ n ih =>
    intro fu h v e1 e2 e3
    obtain ⟨fu, rfl⟩ : ∃ k, fu = k + 1 := ⟨fu - 1, by omega⟩
    have x1 : ((12 - n : Nat) : Int) = h := by omega
    have ml := MOK_len hM (h := 12 - n) (by omega) (by omega)
    have st : Model_goodMoves_c4 F (fu + 1) v h σ = Model_goodMoves_c12 F (Model_goodMoves_c4 F fu) F v h 0 σ := by
      simp (disch := omega) only [Model_goodMoves_c4, ↓reduceIte, jw_id, jlt_T, jlt_F, jle_T, jle_F, jeq_T, jeq_F, and_self, and_true, true_and, and_false, false_and, or_true, true_or, or_false, false_or, not_true_eq_false, not_false_eq_true, jbs, jup_s, jup_k, jup_o]
    rw [st, glo_s, gws_app]
    by_cases q : 0 < c (12 - n)
    · have i1 := rg_in (F := F) (K := Model_goodMoves_c4 F fu) hI hM hc hb (h := 12 - n) (by omega) (by omega) q hF (M (12 - n)) F 0 v rfl rfl (by omega)
      rw [x1] at i1
      have i1' : Model_goodMoves_c12 F (Model_goodMoves_c4 F fu) F v h 0 σ = _ := i1
      rw [if_pos q, i1', ih fu (h + 1) _ (by omega) (by omega) (by omega), Int.natCast_add, Int.add_assoc]
    · have w := (hI.2.1 (12 - n) (by omega) (by omega)).1
      have w3 := hI.2.2.2 (12 - n) (by omega) (by omega)
      rw [x1] at w w3
      rw [show c (12 - n) = 0 by omega] at w3
      rw [if_neg q, gws, Nat.zero_add, ← ih fu (h + 1) v (by omega) (by omega) (by omega)]
      obtain ⟨F', rfl⟩ : ∃ k, F = k + 1 := ⟨F - 1, by omega⟩
      rw [Model_goodMoves_c12]
      by_cases z2 : (0 : Int) < ((M (12 - n)).length : Int)
      · simp (disch := omega) only [w, w3, Int.natCast_zero, ↓reduceIte, jw_id, jlt_T, jlt_F, jle_T, jle_F, jeq_T, jeq_F, and_self, and_true, true_and, and_false, false_and, or_true, true_or, or_false, false_or, not_true_eq_false, not_false_eq_true, jbs, jup_s, jup_k, jup_o]
      · simp (disch := omega) only [w, w3, Int.natCast_zero, ↓reduceIte, jw_id, jlt_T, jlt_F, jle_T, jle_F, jeq_T, jeq_F, and_self, and_true, true_and, and_false, false_and, or_true, true_or, or_false, false_or, not_true_eq_false, not_false_eq_true, jbs, jup_s, jup_k, jup_o]
theorem rk_good {F : Nat} {σ : jxS} {M : Nat → List Nat} {c : Nat → Nat} (hI : RV σ M 24 c) (hM : MOK M) (hc : okc c) (hb : beans c ≤ 22) (hF : 1000 ≤ F) : Model_goodMoves F σ = some ((gws M c (ops M c) : Int), σ) := by
  have := rg_out (F := F) hI hM hc hb hF 12 F 1 0 (by omega) (by omega) (by omega)
  rw [glo_ops, Int.zero_add] at this
  exact this
/-! the first reply -/
noncomputable def frl (M : Nat → List Nat) (c : Nat → Nat) (σ : jxS) (l : List (Nat × Nat)) (X : Option jxR) : Option jxR := match l with
  | [] => X
  | o :: t => if lsf M c o then some ((ocode o : Int), σ) else frl M c σ t X
theorem frl_app (M : Nat → List Nat) (c : Nat → Nat) (σ : jxS) (l l' : List (Nat × Nat)) (X : Option jxR) : frl M c σ (l ++ l') X = frl M c σ l (frl M c σ l' X) := by
  induction l with
  | nil => rfl
  | cons o l ih => simp only [List.cons_append, frl, ih]
set_option maxRecDepth 8000 in
theorem rr_in {F : Nat} {σ : jxS} {M : Nat → List Nat} {c : Nat → Nat} {h : Nat} {K : Int → jxS → Option jxR} (hI : RV σ M 24 c) (hM : MOK M) (hc : okc c) (hb : beans c ≤ 22) (h1 : 1 ≤ h) (h2 : h ≤ 12) (hp : 0 < c h) (hF : 1000 ≤ F) : ∀ (r : List Nat) (fu k : Nat), (M h).drop k = r → r.length + k = (M h).length → r.length < fu → Model_firstReply_c10 F 24 K fu h k σ = frl M c σ (r.map (fun m => (h, m))) (K (h + 1) σ) := by
  have ml := MOK_len hM h1 h2
  have w0 := (hI.2.1 h h1 h2).1
  intro r
  induction r with
  | nil =>
    intro fu k e1 e2 e3
    obtain ⟨fu, rfl⟩ : ∃ k, fu = k + 1 := ⟨fu - 1, by omega⟩
    simp only [List.length_nil] at e2
    simp only [List.map_nil, frl]
    simp (disch := omega) only [Model_firstReply_c10, w0, ↓reduceIte, jw_id, jlt_T, jlt_F, jle_T, jle_F, jeq_T, jeq_F, and_self, and_true, true_and, and_false, false_and, or_true, true_or, or_false, false_or, not_true_eq_false, not_false_eq_true, jbs, jup_s, jup_k, jup_o]
  | cons m r ih =>
    intro fu k e1 e2 e3
    obtain ⟨fu, rfl⟩ : ∃ k, fu = k + 1 := ⟨fu - 1, by omega⟩
    simp only [List.length_cons] at e2 e3
    obtain ⟨hm, hr⟩ := drop_at e1
    obtain ⟨q, q1, q2, q3, q4, q5, q6, q7, q8, q9, q10, q11, q12⟩ := rv_at (F := F) (by decide) (by decide) hI hM hc hb h1 h2 hp hF hm
    have i1 := ih fu (k + 1) hr (by omega) (by omega)
    simp only [Int.natCast_add, Int.natCast_one] at i1
    rw [List.map_cons, frl]
    cases hl : lsf M c (h, m)
    · rw [hl] at q10
      simp only [Bool.false_eq_true, if_false] at q10 ⊢
      simp (disch := omega) only [Model_firstReply_c10, q2, q5, q7, q9, q10, ↓reduceIte, jw_id, jlt_T, jlt_F, jle_T, jle_F, jeq_T, jeq_F, and_self, and_true, true_and, and_false, false_and, or_true, true_or, or_false, false_or, not_true_eq_false, not_false_eq_true, jbs, jup_s, jup_k, jup_o]
      rw [i1]
    · rw [hl] at q10
      simp only [if_true] at q10 ⊢
      simp (disch := omega) only [Model_firstReply_c10, q2, q5, q7, q9, q10, ↓reduceIte, jw_id, jlt_T, jlt_F, jle_T, jle_F, jeq_T, jeq_F, and_self, and_true, true_and, and_false, false_and, or_true, true_or, or_false, false_or, not_true_eq_false, not_false_eq_true, jbs, jup_s, jup_k, jup_o]
      simp only [ocode, Int.natCast_add, Int.natCast_mul]
      rfl
theorem rr_out {F : Nat} {σ : jxS} {M : Nat → List Nat} {c : Nat → Nat} (hI : RV σ M 24 c) (hM : MOK M) (hc : okc c) (hb : beans c ≤ 22) (hF : 1000 ≤ F) : ∀ (n fu : Nat) (h : Int), n + h = 13 → n ≤ 12 → n < fu → Model_firstReply_c2 F 24 fu h σ = frl M c σ (glo M c n) (some (-1, σ)) := by
  intro n
  induction n with
  | zero =>
    intro fu h e1 e2 e3
    obtain ⟨fu, rfl⟩ : ∃ k, fu = k + 1 := ⟨fu - 1, by omega⟩
    simp only [glo, frl]
    simp (disch := omega) only [Model_firstReply_c2, ↓reduceIte, jw_id, jlt_T, jlt_F, jle_T, jle_F, jeq_T, jeq_F, and_self, and_true, true_and, and_false, false_and, or_true, true_or, or_false, false_or, not_true_eq_false, not_false_eq_true, jbs, jup_s, jup_k, jup_o]
  | succ n ih =>
    intro fu h e1 e2 e3
    obtain ⟨fu, rfl⟩ : ∃ k, fu = k + 1 := ⟨fu - 1, by omega⟩
    have x1 : ((12 - n : Nat) : Int) = h := by omega
    have ml := MOK_len hM (h := 12 - n) (by omega) (by omega)
    have st : Model_firstReply_c2 F 24 (fu + 1) h σ = Model_firstReply_c10 F 24 (Model_firstReply_c2 F 24 fu) F h 0 σ := by
      simp (disch := omega) only [Model_firstReply_c2, ↓reduceIte, jw_id, jlt_T, jlt_F, jle_T, jle_F, jeq_T, jeq_F, and_self, and_true, true_and, and_false, false_and, or_true, true_or, or_false, false_or, not_true_eq_false, not_false_eq_true, jbs, jup_s, jup_k, jup_o]
    rw [st, glo_s, frl_app, ← ih fu (h + 1) (by omega) (by omega) (by omega)]
    by_cases q : 0 < c (12 - n)
    · have i1 := rr_in (F := F) (K := Model_firstReply_c2 F 24 fu) hI hM hc hb (h := 12 - n) (by omega) (by omega) q hF (M (12 - n)) F 0 rfl rfl (by omega)
      rw [x1] at i1
      have i1' : Model_firstReply_c10 F 24 (Model_firstReply_c2 F 24 fu) F h 0 σ = _ := i1
      rw [if_pos q, i1']
    · have w := (hI.2.1 (12 - n) (by omega) (by omega)).1
      have w3 := hI.2.2.2 (12 - n) (by omega) (by omega)
      rw [x1] at w w3
      rw [show c (12 - n) = 0 by omega] at w3
      rw [if_neg q, frl]
      obtain ⟨F', rfl⟩ : ∃ k, F = k + 1 := ⟨F - 1, by omega⟩
      rw [Model_firstReply_c10]
      by_cases z2 : (0 : Int) < ((M (12 - n)).length : Int)
      · simp (disch := omega) only [w, w3, Int.natCast_zero, ↓reduceIte, jw_id, jlt_T, jlt_F, jle_T, jle_F, jeq_T, jeq_F, and_self, and_true, true_and, and_false, false_and, or_true, true_or, or_false, false_or, not_true_eq_false, not_false_eq_true, jbs, jup_s, jup_k, jup_o]
      · simp (disch := omega) only [w, w3, Int.natCast_zero, ↓reduceIte, jw_id, jlt_T, jlt_F, jle_T, jle_F, jeq_T, jeq_F, and_self, and_true, true_and, and_false, false_and, or_true, true_or, or_false, false_or, not_true_eq_false, not_false_eq_true, jbs, jup_s, jup_k, jup_o]
theorem rk_first {F : Nat} {σ : jxS} {M : Nat → List Nat} {c : Nat → Nat} (hI : RV σ M 24 c) (hM : MOK M) (hc : okc c) (hb : beans c ≤ 22) (hF : 1000 ≤ F) : Model_firstReply F 24 σ = frl M c σ (ops M c) (some (-1, σ)) := by
  have := rr_out (F := F) hI hM hc hb hF 12 F 1 (by omega) (by omega) (by omega)
  rw [glo_ops] at this
  exact this
/-! answers -/
noncomputable def anl (M : Nat → List Nat) (c : Nat → Nat) (σ : jxS) (k : Int) (n : Nat) (l : List (Nat × Nat)) (X : Nat → Option jxR) : Option jxR := match l with
  | [] => X n
  | o :: t => if lsf M c o then (if (n : Int) = k then some ((ocode o : Int), σ) else anl M c σ k (n + 1) t X) else anl M c σ k n t X
theorem anl_app (M : Nat → List Nat) (c : Nat → Nat) (σ : jxS) (k : Int) (l l' : List (Nat × Nat)) (X : Nat → Option jxR) : ∀ n, anl M c σ k n (l ++ l') X = anl M c σ k n l (fun n => anl M c σ k n l' X) := by
  induction l with
  | nil => intro n; rfl
  | cons o l ih => intro n; simp only [List.cons_append, anl, ih]
set_option maxRecDepth 8000 in
theorem ra_in {F : Nat} {σ : jxS} {M : Nat → List Nat} {c : Nat → Nat} {h : Nat} {v : Int} {K : Int → Int → Int → jxS → Option jxR} (hI : RV σ M 24 c) (hM : MOK M) (hc : okc c) (hb : beans c ≤ 22) (h1 : 1 ≤ h) (h2 : h ≤ 12) (hp : 0 < c h) (hF : 1000 ≤ F) (hv : -1 ≤ v) (hv2 : v ≤ 2147483647) : ∀ (r : List Nat) (fu k n : Nat), (M h).drop k = r → r.length + k = (M h).length → r.length < fu → n + r.length ≤ 1000 → Model_answers_c27 F K fu v n h k σ = anl M c σ v n (r.map (fun m => (h, m))) (fun n => K v n (h + 1) σ) := by
  have ml := MOK_len hM h1 h2
  have w0 := (hI.2.1 h h1 h2).1
  intro r
  induction r with
  | nil =>
    intro fu k n e1 e2 e3 e4
    obtain ⟨fu, rfl⟩ : ∃ k, fu = k + 1 := ⟨fu - 1, by omega⟩
    simp only [List.length_nil] at e2
    simp only [List.map_nil, anl]
    simp (disch := omega) only [Model_answers_c27, w0, ↓reduceIte, jw_id, jlt_T, jlt_F, jle_T, jle_F, jeq_T, jeq_F, and_self, and_true, true_and, and_false, false_and, or_true, true_or, or_false, false_or, not_true_eq_false, not_false_eq_true, jbs, jup_s, jup_k, jup_o]
  | cons m r ih =>
    intro fu k n e1 e2 e3 e4
    obtain ⟨fu, rfl⟩ : ∃ k, fu = k + 1 := ⟨fu - 1, by omega⟩
    simp only [List.length_cons] at e2 e3 e4
    obtain ⟨hm, hr⟩ := drop_at e1
    obtain ⟨q, q1, q2, q3, q4, q5, q6, q7, q8, q9, q10, q11, q12⟩ := rv_at (F := F) (by decide) (by decide) hI hM hc hb h1 h2 hp hF hm
    have i0 := ih fu (k + 1) n hr (by omega) (by omega) (by omega)
    have i1 := ih fu (k + 1) (n + 1) hr (by omega) (by omega) (by omega)
    simp only [Int.natCast_add, Int.natCast_one] at i0 i1
    rw [List.map_cons, anl]
    cases hl : lsf M c (h, m)
    · rw [hl] at q10
      simp only [Bool.false_eq_true, if_false] at q10 ⊢
      simp (disch := omega) only [Model_answers_c27, q2, q5, q7, q9, q10, ↓reduceIte, jw_id, jlt_T, jlt_F, jle_T, jle_F, jeq_T, jeq_F, and_self, and_true, true_and, and_false, false_and, or_true, true_or, or_false, false_or, not_true_eq_false, not_false_eq_true, jbs, jup_s, jup_k, jup_o]
      rw [i0]
    · rw [hl] at q10
      simp only [if_true] at q10 ⊢
      by_cases z : (n : Int) = v
      · rw [if_pos z]
        simp (disch := omega) only [Model_answers_c27, q2, q5, q7, q9, q10, ↓reduceIte, jw_id, jlt_T, jlt_F, jle_T, jle_F, jeq_T, jeq_F, and_self, and_true, true_and, and_false, false_and, or_true, true_or, or_false, false_or, not_true_eq_false, not_false_eq_true, jbs, jup_s, jup_k, jup_o]
        simp only [ocode, Int.natCast_add, Int.natCast_mul]
        rfl
      · rw [if_neg z]
        simp (disch := omega) only [Model_answers_c27, q2, q5, q7, q9, q10, ↓reduceIte, jw_id, jlt_T, jlt_F, jle_T, jle_F, jeq_T, jeq_F, and_self, and_true, true_and, and_false, false_and, or_true, true_or, or_false, false_or, not_true_eq_false, not_false_eq_true, jbs, jup_s, jup_k, jup_o]
        rw [i1]
theorem anl_congr {M : Nat → List Nat} {c : Nat → Nat} {σ : jxS} {k : Int} {B : Nat} {X Y : Nat → Option jxR} (h : ∀ n, n ≤ B → X n = Y n) : ∀ (l : List (Nat × Nat)) (n : Nat), n + l.length ≤ B → anl M c σ k n l X = anl M c σ k n l Y := by
  intro l
  induction l with
  | nil => intro n hn; exact h n (by simpa using hn)
  | cons o l ih =>
    intro n hn
    simp only [List.length_cons] at hn
    simp only [anl]
    rw [ih n (by omega), ih (n + 1) (by omega)]
theorem ra_out {F : Nat} {σ : jxS} {M : Nat → List Nat} {c : Nat → Nat} {v : Int} (hI : RV σ M 24 c) (hM : MOK M) (hc : okc c) (hb : beans c ≤ 22) (hF : 1000 ≤ F) (hv : -1 ≤ v) (hv2 : v ≤ 2147483647) : ∀ (n fu : Nat) (h : Int) (s : Nat), n + h = 13 → n ≤ 12 → n < fu → s + (glo M c n).length ≤ 1000 → Model_answers_c18 F fu v s h σ = anl M c σ v s (glo M c n) (fun n => some (if v = -1 then (n : Int) else -2, σ)) := by
  intro n
  induction n with
  | zero =>
    intro fu h s e1 e2 e3 e4
    obtain ⟨fu, rfl⟩ : ∃ k, fu = k + 1 := ⟨fu - 1, by omega⟩
    simp only [glo, anl]
    by_cases z : v = -1
    · simp (disch := omega) only [Model_answers_c18, z, ↓reduceIte, jw_id, jlt_T, jlt_F, jle_T, jle_F, jeq_T, jeq_F, and_self, and_true, true_and, and_false, false_and, or_true, true_or, or_false, false_or, not_true_eq_false, not_false_eq_true, jbs, jup_s, jup_k, jup_o]
    · simp (disch := omega) only [Model_answers_c18, if_neg z, ↓reduceIte, jw_id, jlt_T, jlt_F, jle_T, jle_F, jeq_T, jeq_F, and_self, and_true, true_and, and_false, false_and, or_true, true_or, or_false, false_or, not_true_eq_false, not_false_eq_true, jbs, jup_s, jup_k, jup_o]
  | succ n ih =>
    intro fu h s e1 e2 e3 e4
    obtain ⟨fu, rfl⟩ : ∃ k, fu = k + 1 := ⟨fu - 1, by omega⟩
    have x1 : ((12 - n : Nat) : Int) = h := by omega
    have ml := MOK_len hM (h := 12 - n) (by omega) (by omega)
    have st : Model_answers_c18 F (fu + 1) v s h σ = Model_answers_c27 F (Model_answers_c18 F fu) F v s h 0 σ := by
      simp (disch := omega) only [Model_answers_c18, ↓reduceIte, jw_id, jlt_T, jlt_F, jle_T, jle_F, jeq_T, jeq_F, and_self, and_true, true_and, and_false, false_and, or_true, true_or, or_false, false_or, not_true_eq_false, not_false_eq_true, jbs, jup_s, jup_k, jup_o]
    rw [glo_s, List.length_append] at e4
    rw [st, glo_s, anl_app]
    by_cases q : 0 < c (12 - n)
    · rw [if_pos q, List.length_map] at e4
      have i1 := ra_in (F := F) (K := Model_answers_c18 F fu) hI hM hc hb (h := 12 - n) (by omega) (by omega) q hF hv hv2 (M (12 - n)) F 0 s rfl rfl (by omega) (by omega)
      rw [x1] at i1
      have i1' : Model_answers_c27 F (Model_answers_c18 F fu) F v s h 0 σ = _ := i1
      rw [if_pos q, i1']
      exact anl_congr (B := s + (M (12 - n)).length) (fun k hk => ih fu (h + 1) k (by omega) (by omega) (by omega) (by omega)) _ _ (by rw [List.length_map]; exact Nat.le_refl _)
    · rw [if_neg q, List.length_nil] at e4
      have w := (hI.2.1 (12 - n) (by omega) (by omega)).1
      have w3 := hI.2.2.2 (12 - n) (by omega) (by omega)
      rw [x1] at w w3
      rw [show c (12 - n) = 0 by omega] at w3
      rw [if_neg q, anl, ← ih fu (h + 1) s (by omega) (by omega) (by omega) (by omega)]
      obtain ⟨F', rfl⟩ : ∃ k, F = k + 1 := ⟨F - 1, by omega⟩
      rw [Model_answers_c27]
      by_cases z2 : (0 : Int) < ((M (12 - n)).length : Int)
      · simp (disch := omega) only [w, w3, Int.natCast_zero, ↓reduceIte, jw_id, jlt_T, jlt_F, jle_T, jle_F, jeq_T, jeq_F, and_self, and_true, true_and, and_false, false_and, or_true, true_or, or_false, false_or, not_true_eq_false, not_false_eq_true, jbs, jup_s, jup_k, jup_o]
      · simp (disch := omega) only [w, w3, Int.natCast_zero, ↓reduceIte, jw_id, jlt_T, jlt_F, jle_T, jle_F, jeq_T, jeq_F, and_self, and_true, true_and, and_false, false_and, or_true, true_or, or_false, false_or, not_true_eq_false, not_false_eq_true, jbs, jup_s, jup_k, jup_o]
theorem rk_answers {F : Nat} {σ : jxS} {M : Nat → List Nat} {c : Nat → Nat} {v : Int} (hI : RV σ M 24 c) (hM : MOK M) (hc : okc c) (hb : beans c ≤ 22) (hG : σ 0 13 = 1) (hF : 1000 ≤ F) (hv : -2147483648 ≤ v) (hv2 : v ≤ 2147483647) : Model_answers F σ v = if v < -1 then some (-1, σ) else anl M c σ v 0 (ops M c) (fun n => some (if v = -1 then (n : Int) else -2, σ)) := by
  by_cases z : v < -1
  · rw [if_pos z]
    simp (disch := omega) only [Model_answers, hG, ↓reduceIte, jw_id, jlt_T, jlt_F, jle_T, jle_F, jeq_T, jeq_F, and_self, and_true, true_and, and_false, false_and, or_true, true_or, or_false, false_or, not_true_eq_false, not_false_eq_true, jbs, jup_s, jup_k, jup_o]
  · rw [if_neg z]
    have ol := ops_len hM c
    have := ra_out (F := F) hI hM hc hb hF (by omega) hv2 12 F 1 0 (by omega) (by omega) (by omega) (by rw [glo_ops]; omega)
    rw [glo_ops] at this
    simp (disch := omega) only [Model_answers, hG, ↓reduceIte, jw_id, jlt_T, jlt_F, jle_T, jle_F, jeq_T, jeq_F, and_self, and_true, true_and, and_false, false_and, or_true, true_or, or_false, false_or, not_true_eq_false, not_false_eq_true, jbs, jup_s, jup_k, jup_o]
    exact this
/-! the move that is played on -/
noncomputable def pls (M : Nat → List Nat) (c : Nat → Nat) (w : Bool) (a : Option (Nat × Nat)) (o : Nat × Nat) : Option (Nat × Nat) := if w && !lsf M c o then a else match a with
    | none => some (ocode o, rmf M c o)
    | some b => if (if w then rmf M c o < b.2 else b.2 < rmf M c o) then some (ocode o, rmf M c o) else a
noncomputable def plf (M : Nat → List Nat) (c : Nat → Nat) (w : Bool) (a : Option (Nat × Nat)) (l : List (Nat × Nat)) : Option (Nat × Nat) := match l with
  | [] => a
  | o :: t => plf M c w (pls M c w a o) t
theorem plf_app (M : Nat → List Nat) (c : Nat → Nat) (w : Bool) (l l' : List (Nat × Nat)) : ∀ a, plf M c w a (l ++ l') = plf M c w (plf M c w a l) l' := by
  induction l with
  | nil => intro a; rfl
  | cons o l ih => intro a; simp only [List.cons_append, plf, ih]
def ob (a : Option (Nat × Nat)) : Int := match a with
  | none => -1
  | some b => (b.1 : Int)
def of2 (a : Option (Nat × Nat)) : Int := match a with
  | none => 0
  | some b => (b.2 : Int)
def obok (a : Option (Nat × Nat)) : Prop := ∀ b, a = some b → b.1 < 100000 ∧ b.2 ≤ 22
theorem rp_100 {F : Nat} {σ : jxS} {K1 : Int → Int → Int → Int → jxS → Option jxR} {K2 : Int → Int → Int → Int → Int → jxS → Option jxR} {v2 v3 h k q r : Int} (h2 : 0 ≤ v2) (h22 : v2 < 100000) (h3 : 0 ≤ v3) (h32 : v3 ≤ 22) (hq : 0 ≤ q) (hq2 : q < 4224) (w : σ 16 q = r) (hr : 0 ≤ r) (hr2 : r ≤ 22) : Model_playedOn_c100 F K1 K2 0 v2 v3 h k q σ = (if v3 < r then Model_playedOn_c136 F K1 K2 0 h k q σ else K2 0 v2 v3 h (k + 1) σ) ∧ Model_playedOn_c100 F K1 K2 1 v2 v3 h k q σ = (if r < v3 then Model_playedOn_c136 F K1 K2 1 h k q σ else K2 1 v2 v3 h (k + 1) σ) := by
  constructor
  · by_cases z : v3 < r <;> simp (disch := omega) only [Model_playedOn_c100, w, ↓reduceIte, jw_id, jlt_T, jlt_F, jle_T, jle_F, jeq_T, jeq_F, and_self, and_true, true_and, and_false, false_and, or_true, true_or, or_false, false_or, not_true_eq_false, not_false_eq_true, jbs, jup_s, jup_k, jup_o]
  · by_cases z : r < v3 <;> simp (disch := omega) only [Model_playedOn_c100, w, ↓reduceIte, jw_id, jlt_T, jlt_F, jle_T, jle_F, jeq_T, jeq_F, and_self, and_true, true_and, and_false, false_and, or_true, true_or, or_false, false_or, not_true_eq_false, not_false_eq_true, jbs, jup_s, jup_k, jup_o]
set_option maxRecDepth 8000 in
theorem rp_in {F : Nat} {σ : jxS} {M : Nat → List Nat} {c : Nat → Nat} {h : Nat} {w : Bool} {K : Int → Int → Int → Int → jxS → Option jxR} (hI : RV σ M 26 c) (hM : MOK M) (hc : okc c) (hb : beans c ≤ 22) (h1 : 1 ≤ h) (h2 : h ≤ 12) (hp : 0 < c h) (hF : 1000 ≤ F) : ∀ (r : List Nat) (fu k : Nat) (a : Option (Nat × Nat)), (M h).drop k = r → r.length + k = (M h).length → r.length < fu → obok a → Model_playedOn_c39 F K fu (if w then 1 else 0) (ob a) (of2 a) h k σ = K (if w then 1 else 0) (ob (plf M c w a (r.map (fun m => (h, m))))) (of2 (plf M c w a (r.map (fun m => (h, m))))) (h + 1) σ ∧ obok (plf M c w a (r.map (fun m => (h, m)))) := by
  have ml := MOK_len hM h1 h2
  have w0 := (hI.2.1 h h1 h2).1
  intro r
  induction r with
  | nil =>
    intro fu k a e1 e2 e3 e4
    obtain ⟨fu, rfl⟩ : ∃ k, fu = k + 1 := ⟨fu - 1, by omega⟩
    simp only [List.length_nil] at e2
    simp only [List.map_nil, plf]
    refine ⟨?_, e4⟩
    simp (disch := omega) only [Model_playedOn_c39, w0, ↓reduceIte, jw_id, jlt_T, jlt_F, jle_T, jle_F, jeq_T, jeq_F, and_self, and_true, true_and, and_false, false_and, or_true, true_or, or_false, false_or, not_true_eq_false, not_false_eq_true, jbs, jup_s, jup_k, jup_o]
  | cons m r ih =>
    intro fu k a e1 e2 e3 e4
    obtain ⟨fu, rfl⟩ : ∃ k, fu = k + 1 := ⟨fu - 1, by omega⟩
    simp only [List.length_cons] at e2 e3
    obtain ⟨hm, hr⟩ := drop_at e1
    obtain ⟨q, q1, q2, q3, q4, q5, q6, q7, q8, q9, q10, q11, q12⟩ := rv_at (F := F) (by decide) (by decide) hI hM hc hb h1 h2 hp hF hm
    rw [List.map_cons, plf, pls.eq_def]
    have oc : ((ocode (h, m) : Nat) : Int) = 1000 * (h : Int) + m := by simp only [ocode]; omega
    have ok1 : obok (some (ocode (h, m), rmf M c (h, m))) := fun b hb => by
      injection hb with hb
      subst hb
      exact ⟨by simp only [ocode]; omega, q12⟩
    have i0 := ih fu (k + 1) a hr (by omega) (by omega) e4
    have i1 := ih fu (k + 1) (some (ocode (h, m), rmf M c (h, m))) hr (by omega) (by omega) ok1
    simp only [Int.natCast_add, Int.natCast_one] at i0 i1
    have e136 : ∀ v1 : Int, Model_playedOn_c136 F K (Model_playedOn_c39 F K fu) v1 h k q σ = Model_playedOn_c39 F K fu v1 (ob (some (ocode (h, m), rmf M c (h, m)))) (of2 (some (ocode (h, m), rmf M c (h, m)))) h ((k : Int) + 1) σ := fun v1 => by
      simp only [ob, of2, oc]
      simp (disch := omega) only [Model_playedOn_c136, q5, q11, ↓reduceIte, jw_id, jlt_T, jlt_F, jle_T, jle_F, jeq_T, jeq_F, and_self, and_true, true_and, and_false, false_and, or_true, true_or, or_false, false_or, not_true_eq_false, not_false_eq_true, jbs, jup_s, jup_k, jup_o]
    cases w
    · simp only [Bool.false_eq_true, if_false, Bool.false_and] at i0 i1 ⊢
      have st : Model_playedOn_c39 F K (fu + 1) 0 (ob a) (of2 a) h k σ = Model_playedOn_c100 F K (Model_playedOn_c39 F K fu) 0 (ob a) (of2 a) h k q σ := by
        simp (disch := omega) only [Model_playedOn_c39, q2, q5, q7, q9, ↓reduceIte, jw_id, jlt_T, jlt_F, jle_T, jle_F, jeq_T, jeq_F, and_self, and_true, true_and, and_false, false_and, or_true, true_or, or_false, false_or, not_true_eq_false, not_false_eq_true, jbs, jup_s, jup_k, jup_o]
      rw [st]
      cases a with
      | none =>
        simp only [Model_playedOn_c100]
        rw [if_pos (show jw (ob none) < 0 by decide), e136]
        exact i1
      | some b =>
        obtain ⟨b1, b2⟩ := e4 b rfl
        have r100 := (rp_100 (F := F) (σ := σ) (K1 := K) (K2 := Model_playedOn_c39 F K fu) (v2 := b.1) (v3 := b.2) (h := h) (k := k) (q := q) (r := rmf M c (h, m)) (by omega) (by omega) (by omega) (by omega) (by omega) (by omega) q11 (by omega) (by omega)).1
        by_cases z : b.2 < rmf M c (h, m)
        · rw [if_pos (by omega), e136] at r100
          have z' : (if b.2 < rmf M c (h, m) then some (ocode (h, m), rmf M c (h, m)) else some b) = some (ocode (h, m), rmf M c (h, m)) := if_pos z
          simp only [z']
          exact ⟨r100.trans i1.1, i1.2⟩
        · rw [if_neg (by omega)] at r100
          have z' : (if b.2 < rmf M c (h, m) then some (ocode (h, m), rmf M c (h, m)) else some b) = some b := if_neg z
          simp only [z']
          exact ⟨r100.trans i0.1, i0.2⟩
    · simp only [if_true, Bool.true_and] at i0 i1 ⊢
      cases hl : lsf M c (h, m)
      · rw [hl] at q10
        simp only [Bool.false_eq_true, if_false, Bool.not_false, if_true] at q10 ⊢
        have st : Model_playedOn_c39 F K (fu + 1) 1 (ob a) (of2 a) h k σ = Model_playedOn_c39 F K fu 1 (ob a) (of2 a) h ((k : Int) + 1) σ := by
          simp (disch := omega) only [Model_playedOn_c39, q2, q5, q7, q9, q10, ↓reduceIte, jw_id, jlt_T, jlt_F, jle_T, jle_F, jeq_T, jeq_F, and_self, and_true, true_and, and_false, false_and, or_true, true_or, or_false, false_or, not_true_eq_false, not_false_eq_true, jbs, jup_s, jup_k, jup_o]
        rw [st]
        exact i0
      · rw [hl] at q10
        simp only [if_true, Bool.not_true, Bool.false_eq_true, if_false] at q10 ⊢
        have st : Model_playedOn_c39 F K (fu + 1) 1 (ob a) (of2 a) h k σ = Model_playedOn_c100 F K (Model_playedOn_c39 F K fu) 1 (ob a) (of2 a) h k q σ := by
          simp (disch := omega) only [Model_playedOn_c39, q2, q5, q7, q9, q10, ↓reduceIte, jw_id, jlt_T, jlt_F, jle_T, jle_F, jeq_T, jeq_F, and_self, and_true, true_and, and_false, false_and, or_true, true_or, or_false, false_or, not_true_eq_false, not_false_eq_true, jbs, jup_s, jup_k, jup_o]
        rw [st]
        cases a with
        | none =>
          simp only [Model_playedOn_c100]
          rw [if_pos (show jw (ob none) < 0 by decide), e136]
          exact i1
        | some b =>
          obtain ⟨b1, b2⟩ := e4 b rfl
          have r100 := (rp_100 (F := F) (σ := σ) (K1 := K) (K2 := Model_playedOn_c39 F K fu) (v2 := b.1) (v3 := b.2) (h := h) (k := k) (q := q) (r := rmf M c (h, m)) (by omega) (by omega) (by omega) (by omega) (by omega) (by omega) q11 (by omega) (by omega)).2
          by_cases z : rmf M c (h, m) < b.2
          · rw [if_pos (by omega), e136] at r100
            have z' : (if rmf M c (h, m) < b.2 then some (ocode (h, m), rmf M c (h, m)) else some b) = some (ocode (h, m), rmf M c (h, m)) := if_pos z
            simp only [z']
            exact ⟨r100.trans i1.1, i1.2⟩
          · rw [if_neg (by omega)] at r100
            have z' : (if rmf M c (h, m) < b.2 then some (ocode (h, m), rmf M c (h, m)) else some b) = some b := if_neg z
            simp only [z']
            exact ⟨r100.trans i0.1, i0.2⟩
theorem rp_out {F : Nat} {σ : jxS} {M : Nat → List Nat} {c : Nat → Nat} {w : Bool} (hI : RV σ M 26 c) (hM : MOK M) (hc : okc c) (hb : beans c ≤ 22) (hF : 1000 ≤ F) : ∀ (n fu : Nat) (h : Int) (a : Option (Nat × Nat)), n + h = 13 → n ≤ 12 → n < fu → obok a → Model_playedOn_c29 F fu (if w then 1 else 0) (ob a) (of2 a) h σ = some (ob (plf M c w a (glo M c n)), σ) := by
  intro n
  induction n with
  | zero =>
    intro fu h a e1 e2 e3 e4
    obtain ⟨fu, rfl⟩ : ∃ k, fu = k + 1 := ⟨fu - 1, by omega⟩
    simp only [glo, plf]
    simp (disch := omega) only [Model_playedOn_c29, ↓reduceIte, jw_id, jlt_T, jlt_F, jle_T, jle_F, jeq_T, jeq_F, and_self, and_true, true_and, and_false, false_and, or_true, true_or, or_false, false_or, not_true_eq_false, not_false_eq_true, jbs, jup_s, jup_k, jup_o]
  | succ n ih =>
    intro fu h a e1 e2 e3 e4
    obtain ⟨fu, rfl⟩ : ∃ k, fu = k + 1 := ⟨fu - 1, by omega⟩
    have x1 : ((12 - n : Nat) : Int) = h := by omega
    have ml := MOK_len hM (h := 12 - n) (by omega) (by omega)
    have st : Model_playedOn_c29 F (fu + 1) (if w then 1 else 0) (ob a) (of2 a) h σ = Model_playedOn_c39 F (Model_playedOn_c29 F fu) F (if w then 1 else 0) (ob a) (of2 a) h 0 σ := by
      simp (disch := omega) only [Model_playedOn_c29, ↓reduceIte, jw_id, jlt_T, jlt_F, jle_T, jle_F, jeq_T, jeq_F, and_self, and_true, true_and, and_false, false_and, or_true, true_or, or_false, false_or, not_true_eq_false, not_false_eq_true, jbs, jup_s, jup_k, jup_o]
    rw [st, glo_s, plf_app]
    by_cases q : 0 < c (12 - n)
    · obtain ⟨i1, i2⟩ := rp_in (F := F) (w := w) (K := Model_playedOn_c29 F fu) hI hM hc hb (h := 12 - n) (by omega) (by omega) q hF (M (12 - n)) F 0 a rfl rfl (by omega) e4
      rw [x1] at i1
      have i1' : Model_playedOn_c39 F (Model_playedOn_c29 F fu) F (if w then 1 else 0) (ob a) (of2 a) h 0 σ = _ := i1
      rw [if_pos q, i1']
      exact ih fu (h + 1) _ (by omega) (by omega) (by omega) i2
    · have w' := (hI.2.1 (12 - n) (by omega) (by omega)).1
      have w3 := hI.2.2.2 (12 - n) (by omega) (by omega)
      rw [x1] at w' w3
      rw [show c (12 - n) = 0 by omega] at w3
      rw [if_neg q, plf, ← ih fu (h + 1) a (by omega) (by omega) (by omega) e4]
      obtain ⟨F', rfl⟩ : ∃ k, F = k + 1 := ⟨F - 1, by omega⟩
      rw [Model_playedOn_c39]
      by_cases z2 : (0 : Int) < ((M (12 - n)).length : Int)
      · simp (disch := omega) only [w', w3, Int.natCast_zero, ↓reduceIte, jw_id, jlt_T, jlt_F, jle_T, jle_F, jeq_T, jeq_F, and_self, and_true, true_and, and_false, false_and, or_true, true_or, or_false, false_or, not_true_eq_false, not_false_eq_true, jbs, jup_s, jup_k, jup_o]
      · simp (disch := omega) only [w', w3, Int.natCast_zero, ↓reduceIte, jw_id, jlt_T, jlt_F, jle_T, jle_F, jeq_T, jeq_F, and_self, and_true, true_and, and_false, false_and, or_true, true_or, or_false, false_or, not_true_eq_false, not_false_eq_true, jbs, jup_s, jup_k, jup_o]
noncomputable def ply (M : Nat → List Nat) (c : Nat → Nat) : Int := ob (plf M c (!los M (rank c)) none (ops M c))
theorem rk_played {F : Nat} {σ : jxS} {M : Nat → List Nat} {c : Nat → Nat} (hI : RV σ M 26 c) (hM : MOK M) (hc : okc c) (hb : beans c ≤ 22) (hF : 1000 ≤ F) : Model_playedOn F σ = some (ply M c, σ) := by
  have rt := rank_top hb
  have w := (hI.2.2.1 (rank c) rt).1
  have o := fun w => rp_out (F := F) (w := w) hI hM hc hb hF 12 F 1 none (by omega) (by omega) (by omega) (fun b hb => by cases hb)
  rw [glo_ops] at o
  rw [Model_playedOn, mo_num hI.1 hI.2.2.2 hb (by omega), jbs]
  unfold ply
  cases hl : los M (rank c)
  · rw [hl] at w
    simp only [Bool.false_eq_true, if_false] at w
    have o1 := o true
    simp only [if_true] at o1
    simp (disch := omega) only [w, Model_playedOn_c21, ↓reduceIte, jw_id, jlt_T, jlt_F, jle_T, jle_F, jeq_T, jeq_F, and_self, and_true, true_and, and_false, false_and, or_true, true_or, or_false, false_or, not_true_eq_false, not_false_eq_true, jbs, jup_s, jup_k, jup_o]
    exact o1
  · rw [hl] at w
    simp only [if_true] at w
    have o1 := o false
    simp only [Bool.false_eq_true, if_false] at o1
    simp (disch := omega) only [w, Model_playedOn_c21, ↓reduceIte, jw_id, jlt_T, jlt_F, jle_T, jle_F, jeq_T, jeq_F, and_self, and_true, true_and, and_false, false_and, or_true, true_or, or_false, false_or, not_true_eq_false, not_false_eq_true, jbs, jup_s, jup_k, jup_o]
    exact o1
