/-! The class: state, genus. -/
section CS
variable {F : Nat} {σ : jxS} {M : Nat → List Nat} {c : Nat → Nat}
theorem ca_settle2 {v1 : Int} (hM : MOK M) (h : CV σ M) (hv : -2147483648 ≤ v1) (hv2 : v1 ≤ 2147483647) (hF : 5000 ≤ F) : ∃ σ' k', Values_settleTo F σ v1 = some (0, σ') ∧ jfr SP σ σ' ∧ CV σ' M ∧ OcC σ' M k' ∧ (v1 < k' ∨ k' = 4224) := by
  obtain ⟨k, ho⟩ := h.2.2.1
  obtain ⟨σ', k', i1, i2, i3, i4, i5⟩ := ca_settle_c (F := F) hM h.1 h.2.1 hv hv2 (by omega) (4224 - k) F k σ (by have := ho.2.1; omega) (jfr_refl _ _) ho (by omega)
  refine ⟨σ', k', ?_, i2, CV_SP h i2 i3, i3, i5⟩
  rw [Values_settleTo, ho.1]
  exact i1
theorem cl_same {k q : Nat} (hM : MOK M) (h : OcC σ M k) (hq : q < k) (hF : 1 ≤ F) : Values_loses F σ q = some (if los M q then 1 else 0, σ) := by
  have k4 := h.2.1
  have st : Values_settleTo F σ q = some (0, σ) := by
    obtain ⟨F', rfl⟩ : ∃ k, F = k + 1 := ⟨F - 1, by omega⟩
    rw [Values_settleTo, h.1, Values_settleTo_c5, if_pos (show jw (q : Int) < jw (k : Int) by rw [jw_id (by omega) (by omega), jw_id (by omega) (by omega)]; omega)]
  have w := h.2.2 q hq
  have e := px_is (F := F) (σ := σ) (p := q) (by omega) (by omega)
  obtain ⟨o1, o2⟩ := outc_even M q
  have o3 := outc_le hM q
  have d := jdv (x := (outc M q : Int)) (d := 2) (by omega) (by omega) rfl
  rw [Values_loses, st, jbs]
  dsimp only
  rw [e, jbs]
  dsimp only
  simp only [w, d.2]
  cases hl : los M q
  · rw [hl] at o1
    simp only [Bool.false_eq_true, if_false] at o1 ⊢
    simp (disch := omega) only [↓reduceIte, jw_id, jlt_T, jlt_F, jle_T, jle_F, jeq_T, jeq_F, and_self, and_true, true_and, and_false, false_and, or_true, true_or, or_false, false_or, not_true_eq_false, not_false_eq_true, jbs, jup_s, jup_k, jup_o]
  · rw [hl] at o1
    simp only [if_true] at o1 ⊢
    simp (disch := omega) only [↓reduceIte, jw_id, jlt_T, jlt_F, jle_T, jle_F, jeq_T, jeq_F, and_self, and_true, true_and, and_false, false_and, or_true, true_or, or_false, false_or, not_true_eq_false, not_false_eq_true, jbs, jup_s, jup_k, jup_o]
theorem cw_loop {N k : Nat} (hM : MOK M) (hP : PosOK σ) (h : OcC σ M k) (hO : OL σ M 38 c) (hk : rank c < k) (hc : okc c) (hb : beans c ≤ 22) (hN : (ops M c).length = N) (hF : 100 ≤ F) : ∀ (r : List (Nat × Nat)) (fu i : Nat) (acc : Int), (ops M c).drop i = r → r.length + i = N → r.length < fu → Values_countWinning_c17 F fu (rank c) acc i σ = some (acc + (gws M c r : Int), σ) := by
  intro r
  have ol : N ≤ 203 := hN ▸ ops_len hM c
  have w : σ 38 4 = (N : Int) := by rw [← hN]; exact hO.1
  induction r with
  | nil =>
    intro fu i acc e1 e2 e3
    obtain ⟨fu, rfl⟩ : ∃ k, fu = k + 1 := ⟨fu - 1, by omega⟩
    simp only [List.length_nil] at e2
    rw [Values_countWinning_c17, Options_size, jbs]
    dsimp only
    rw [w, if_neg (by unfold jw; omega), gws, Int.natCast_zero, Int.add_zero]
  | cons o r ih =>
    intro fu i acc e1 e2 e3
    obtain ⟨fu, rfl⟩ : ∃ k, fu = k + 1 := ⟨fu - 1, by omega⟩
    simp only [List.length_cons] at e2 e3
    obtain ⟨hm, hr⟩ := drop_o e1
    obtain ⟨t1, t2, _⟩ := ol_at (F := F) hM hO hm
    have om := List.mem_of_getElem? hm
    have tb := ops_tgt hM hc om
    have rm := rank_mono tb.2
    obtain ⟨⟨⟨m1, m2⟩, m3⟩, m4⟩ := ops_mem.mp om
    obtain ⟨q1, q2, q3⟩ := op_code hM om
    have lo := cl_same (F := F) hM h (q := rank (tgt c o.1 o.2)) (by omega) (by omega)
    have nx := ih fu (i + 1)
    rw [Values_countWinning_c17, Options_size, jbs]
    dsimp only
    rw [w, if_pos (by unfold jw; omega), t1, jbs]
    dsimp only
    rw [lo, jbs]
    dsimp only
    rw [gws]
    cases hl : lsf M c o
    · have hl' : los M (rank (tgt c o.1 o.2)) = false := hl
      rw [hl', if_pos (show jw (if false = true then 1 else 0) = 0 from rfl), if_neg (show ¬ false = true by decide), Nat.zero_add]
      exact nx acc hr (by omega) (by omega)
    · have hl' : los M (rank (tgt c o.1 o.2)) = true := hl
      have co := po_count (F := F) hP (h := o.1) hc hb m1 m2 hF
      have dv : jdiv (ocode o : Int) 1000 = (o.1 : Int) := by
        rw [(jd1000 (by omega) (by omega)).1]
        omega
      rw [hl', if_neg (show ¬ jw (if true = true then 1 else 0) = 0 by decide), if_pos (show true = true from rfl), t2, jbs]
      dsimp only
      rw [dv, co, jbs]
      dsimp only
      have := nx (acc + (c o.1 : Int)) hr (by omega) (by omega)
      rw [Int.natCast_add, ← Int.add_assoc]
      exact this
theorem ca_winning (hM : MOK M) (h : CV σ M) (hc : okc c) (hb : beans c ≤ 22) (hF : 5000 ≤ F) : vres M σ (Values_countWinning F σ (rank c)) (gws M c (ops M c) : Int) := by
  have rt := rank_top hb
  have ol := ops_len hM c
  obtain ⟨σ1, k, a1, a2, a3, a4, a5⟩ := ca_settle2 (F := F) (v1 := rank c) hM h (by omega) (by omega) hF
  obtain ⟨σ2, b1, b2, b3, b4, b5⟩ := ca_list (F := F) (o := 38) (Or.inl rfl) a3.1 a3.2.1 hM hc hb (by omega)
  have ho : OcC σ2 M k := ⟨by rw [b2 33 7 (by simp only [jLP]; omega)]; exact a4.1, a4.2.1, fun p hp => by rw [b2 34 _ (by simp only [jLP]; omega)]; exact a4.2.2 p hp⟩
  have cv : CV σ2 M := CV_SP a3 (jfr_mono b2 (fun a j h => Or.inl h)) ho
  have lo := cw_loop (F := F) hM cv.1 ho ⟨b3, b4, b5⟩ (by omega) hc hb rfl (by omega) (ops M c) F 0 0 rfl (Nat.add_zero _) (Nat.lt_of_le_of_lt ol (by omega))
  refine ⟨σ2, ?_, jfr_trans (jfr_mono a2 (fun a j => SP_VP)) (jfr_mono b2 (fun a j h => SP_VP (Or.inl h))), cv⟩
  rw [Values_countWinning, a1, jbs]
  dsimp only
  rw [b1, jbs]
  dsimp only
  rw [Int.zero_add] at lo
  exact lo
theorem ca_state {v : Int} (hv : iR v) (hM : MOK M) (h : CV σ M) (hN : RulN σ M) (hL : RulL σ M) (hc : okc c) (hb : beans c ≤ 22) (hF : 5000 ≤ F) : vres M σ (Values_stateOf F σ (rank c) v) (staA M c v) := by
  have wv : jw v = v := jw_id hv.1 hv.2
  have rt := rank_top hb
  rw [Values_stateOf, wv]
  unfold staA
  by_cases e0 : v = 0
  · rw [if_pos e0, if_pos e0]
    refine vres_bind (ca_loses hM h rt hF) (fun σ1 f1 h1 => ?_)
    refine ⟨σ1, ?_, jfr_refl _ _, h1⟩
    cases los M (rank c) <;> rfl
  rw [if_neg e0, if_neg e0]
  by_cases e1 : v = 1
  · rw [if_pos e1, if_pos e1]
    exact vres_bind (ca_remote hM h rt hF) (fun σ1 f1 h1 => vres_ret h1)
  rw [if_neg e1, if_neg e1]
  by_cases e2 : v = 2
  · rw [if_pos e2, ca_nim hM h.1 hN hc hb (by omega), jbs, if_pos e2]
    exact vres_ret h
  rw [if_neg e2, if_neg e2]
  by_cases e3 : v = 3
  · rw [if_pos e3, if_pos e3]
    exact vres_bind (ca_genus (k := 0) hM h rt (by omega) hF) (fun σ1 f1 h1 => vres_ret h1)
  rw [if_neg e3, if_neg e3]
  by_cases e4 : v = 4
  · rw [if_pos e4, if_pos e4]
    exact vres_bind (ca_winning hM h hc hb hF) (fun σ1 f1 h1 => vres_ret h1)
  rw [if_neg e4, if_neg e4]
  by_cases e5 : v = 5
  · rw [if_pos e5, if_pos e5]
    refine vres_bind (ca_like hM h hN hc hb hF) (fun σ1 f1 h1 => ⟨σ1, if10, jfr_refl _ _, h1⟩)
  rw [if_neg e5, if_neg e5]
  by_cases e6 : v = 6
  · rw [if_pos e6, (ca_len hM h.1 hL hc hb (by omega)).1, jbs, if_pos e6]
    exact vres_ret h
  rw [if_neg e6, if_neg e6]
  by_cases e7 : v = 7
  · rw [if_pos e7, (ca_len hM h.1 hL hc hb (by omega)).2, jbs, if_pos e7]
    exact vres_ret h
  rw [if_neg e7, if_neg e7]
  by_cases e8 : v = 8
  · rw [if_pos e8, if_pos e8]
    refine vres_bind (ca_tame hM h hN hc hb hF) (fun σ1 f1 h1 => ⟨σ1, if10, jfr_refl _ _, h1⟩)
  rw [if_neg e8, if_neg e8]
  exact vres_ret h
theorem lq_state {v : Int} (hv : iR v) (hM : MOK M) (h : CV σ M) (hh : σ 29 2 = (rank c : Int)) (hN : RulN σ M) (hL : RulL σ M) (hc : okc c) (hb : beans c ≤ 22) (hF : 5000 ≤ F) : vres M σ (LL1_state F σ v) (staA M c v) := by
  rw [LL1_state, Hand_position, jbs]
  dsimp only
  rw [hh]
  exact vres_bind (ca_state hv hM h hN hL hc hb hF) (fun σ1 f1 h1 => vres_ret h1)
theorem lq_genus {v : Int} (hv : iR v) (hM : MOK M) (h : CV σ M) (hh : σ 29 2 = (rank c : Int)) (hb : beans c ≤ 22) (hF : 5000 ≤ F) : vres M σ (LL1_genus F σ v) (genA M c v) := by
  have wv : jw v = v := jw_id hv.1 hv.2
  have rt := rank_top hb
  rw [LL1_genus, wv]
  unfold genA
  by_cases y : v < 0
  · rw [if_pos y, if_neg (show ¬ (0 ≤ v ∧ v ≤ 2) by omega)]
    exact vres_ret h
  · by_cases z : 2 < v
    · rw [if_neg y, if_pos z, if_neg (show ¬ (0 ≤ v ∧ v ≤ 2) by omega)]
      exact vres_ret h
    · obtain ⟨k, rfl⟩ : ∃ k : Nat, v = k := ⟨v.toNat, by omega⟩
      rw [if_neg y, if_neg z, if_pos (show 0 ≤ (k : Int) ∧ (k : Int) ≤ 2 by omega), Hand_position, jbs]
      dsimp only
      rw [hh]
      exact vres_bind (ca_genus (k := k) hM h rt (by omega) hF) (fun σ1 f1 h1 => vres_ret h1)
end CS
