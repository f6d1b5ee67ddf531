/-! Marks: positions put beside others. -/
theorem bl_shc : ∀ k : Nat, k < 63 → ((((jI (k : Int)).toInt64 &&& 63).toBitVec).smod 64).toNat = k := by decide +kernel
theorem bl_shr0 (a s : Int64) (k : Nat) (hs : (s.toBitVec.smod 64).toNat = k) : (a >>> s).toInt = a.toInt >>> k := by
  rw [← hs]
  show (a.toBitVec.sshiftRight' (s.toBitVec.smod 64)).toInt = _
  rw [BitVec.sshiftRight', BitVec.toInt_sshiftRight]
  rfl
theorem bl_shr {a k : Nat} (hk : k < 63) (h : a < 2 ^ 63) : jlshr (a : Int) (k : Int) = ((a / 2 ^ k : Nat) : Int) := by
  rw [jlshr, bq_L, bl_shr0 _ _ k (bl_shc k hk), bl_toInt h]
  rw [Int.shiftRight_eq_div_pow]
  norm_cast
theorem bl_bit {a k : Nat} (hk : k < 63) (h : a < 2 ^ 63) : jland (jlshr (a : Int) (k : Int)) 1 = if a.testBit k then 1 else 0 := by
  have e : jland (((a / 2 ^ k : Nat)) : Int) ((1 : Nat) : Int) = (((a / 2 ^ k) &&& 1 : Nat) : Int) := bl_and (Nat.lt_of_le_of_lt Nat.and_le_right (by decide))
  have e' : jland (((a / 2 ^ k : Nat)) : Int) 1 = (((a / 2 ^ k) &&& 1 : Nat) : Int) := e
  rw [bl_shr hk h, e', Nat.testBit_eq_decide_div_mod_eq, Nat.and_one_is_mod]
  by_cases hq : a / 2 ^ k % 2 = 1
  · simp only [hq, decide_true, if_true]; rfl
  · simp only [hq, decide_false, Bool.false_eq_true, if_false]
    have : a / 2 ^ k % 2 = 0 := by omega
    rw [this]; rfl
theorem bn_cpl (c d : Nat → Nat) : ∀ k, bn k (cpl c d) = bn k c + bn k d := by
  intro k
  induction k with
  | zero => rfl
  | succ k ih =>
    simp only [bn, ih, cpl, Nat.mul_add]
    omega
theorem beans_cpl (c d : Nat → Nat) : beans (cpl c d) = beans c + beans d := by rw [beans_eq, beans_eq, beans_eq]; exact bn_cpl c d 12
theorem okc_cpl {c d : Nat → Nat} (hc : okc c) (hd : okc d) : okc (cpl c d) := fun x hx => by simp only [cpl]; rw [hc x hx, hd x hx]
theorem cpl_csb {c d : Nat → Nat} {h : Nat} (hd : 0 < d h) : cpl (cad c h) (csb d h) = cpl c d := by
  funext x
  simp only [cpl, cad, csb]
  by_cases e : x = h
  · subst e; simp only [if_true]; omega
  · simp only [if_neg e]
theorem cpl_0 (c : Nat → Nat) : cpl c (fun _ => 0) = c := rfl
theorem cja_step {F fu : Nat} {σ : jxS} {s l i pf h r j : Int} (hi : i < 22) (hi0 : 0 ≤ i) (hl : 0 < l) (hl2 : l < 4224) (p1 : Positions_firstPart F σ l = some (pf, σ)) (p2 : Positions_heapOf F σ pf = some (h, σ)) (pj : Positions_join F σ s h = some (j, σ)) (p3 : Positions_restOf F σ pf = some (r, σ)) : Positions_joinAll_c8 F (fu + 1) s l i σ = Positions_joinAll_c8 F fu j r (i + 1) σ := by
  simp (disch := omega) only [Positions_joinAll_c8, p1, p2, pj, p3, ↓reduceIte, jw_id, jlt_T, jlt_F, jle_T, jle_F, jeq_T, jeq_F, and_self, and_true, true_and, and_false, false_and, or_true, true_or, or_false, false_or, not_true_eq_false, not_false_eq_true, jbs, jup_s, jup_k, jup_o]
theorem cja_stop {F fu : Nat} {σ : jxS} {s i : Int} (hi : i ≤ 22) (hi0 : 0 ≤ i) : Positions_joinAll_c8 F (fu + 1) s 0 i σ = some (s, σ) := by
  by_cases q : i < 22
  · simp (disch := omega) only [Positions_joinAll_c8, ↓reduceIte, jw_id, jlt_T, jlt_F, jle_T, jle_F, jeq_T, jeq_F, and_self, and_true, true_and, and_false, false_and, or_true, true_or, or_false, false_or, not_true_eq_false, not_false_eq_true, jbs, jup_s, jup_k, jup_o]
  · simp (disch := omega) only [Positions_joinAll_c8, ↓reduceIte, jw_id, jlt_T, jlt_F, jle_T, jle_F, jeq_T, jeq_F, and_self, and_true, true_and, and_false, false_and, or_true, true_or, or_false, false_or, not_true_eq_false, not_false_eq_true, jbs, jup_s, jup_k, jup_o]
theorem ca_joinAll_c {F : Nat} {σ : jxS} (hP : PosOK σ) : ∀ (n fu : Nat) (c d : Nat → Nat) (i : Nat), okc c → okc d → beans d ≤ n → beans c + beans d ≤ 22 → i + beans d ≤ 22 → n < fu → Positions_joinAll_c8 F fu (rank c) (rank d) i σ = some ((rank (cpl c d) : Int), σ) := by
  intro n
  induction n with
  | zero =>
    intro fu c d i hc hd hb hs hi hf
    obtain ⟨fu, rfl⟩ : ∃ k, fu = k + 1 := ⟨fu - 1, by omega⟩
    have i2 : (i : Int) ≤ 22 := by omega
    have hz : beans d = 0 := by omega
    rw [rank_0 hd hz, rank_00, cpl_0]
    exact cja_stop i2 (Int.natCast_nonneg i)
  | succ n ih =>
    intro fu c d i hc hd hb hs hi hf
    obtain ⟨fu, rfl⟩ : ∃ k, fu = k + 1 := ⟨fu - 1, by omega⟩
    have i2 : (i : Int) ≤ 22 := by omega
    by_cases hz : beans d = 0
    · rw [rank_0 hd hz, rank_00, cpl_0]
      exact cja_stop i2 (Int.natCast_nonneg i)
    · obtain ⟨h, ⟨h1, h2⟩, h3, h4, p1, p2, p3⟩ := ca_peel (F := F) hP hd (by omega) (by omega)
      have b := beans_csb h1 h2 h3
      have b2 := beans_cad c h1 h2
      have rp := rank_pos.mpr (show 0 < beans d by omega)
      have rt := rank_top (c := d) (by omega)
      have pj := po_join (F := F) hP (h := h) hc (by omega) h1 h2
      rw [if_pos (by omega)] at pj
      have st := cja_step (F := F) (fu := fu) (i := i) (by omega) (by omega) (by omega) (by omega) p1 p2 pj p3
      have i1 := ih fu (cad c h) (csb d h) (i + 1) (okc_cad hc h1 h2) (okc_csb hd) (by omega) (by omega) (by omega) (by omega)
      rw [Int.natCast_add, Int.natCast_one, cpl_csb h3] at i1
      rw [st]
      exact i1
theorem ca_joinAll {F : Nat} {σ : jxS} {c d : Nat → Nat} (hP : PosOK σ) (hc : okc c) (hd : okc d) (hs : beans c + beans d ≤ 22) (hF : 100 ≤ F) : Positions_joinAll F σ (rank c) (rank d) = some ((rank (cpl c d) : Int), σ) := ca_joinAll_c hP 22 F c d 0 hc hd (by omega) hs (by omega) (by omega)
theorem un_small {p b : Nat} (hb : b ≤ 23) (h : p < fo b) : okc (un p) ∧ beans (un p) < b ∧ rank (un p) = p := by
  have h' := fo_le hb
  obtain ⟨u1, u2, u3⟩ := un_ok (show p < 4224 by omega)
  refine ⟨u1, ?_, u3⟩
  rw [← u3] at h
  exact rank_beans.mp h
theorem mrkn_lt (M : Nat → List Nat) (p : Nat) : ∀ n, mrkn M p n < 2 ^ n := by
  intro n
  induction n with
  | zero => exact Nat.one_pos
  | succ n ih =>
    have h2 : 2 ^ n < 2 ^ (n + 1) := Nat.pow_lt_pow_right (by decide) (Nat.lt_succ_self n)
    refine Nat.or_lt_two_pow (Nat.lt_trans ih h2) ?_
    split
    · exact h2
    · exact Nat.two_pow_pos _
theorem mrkn_bit (M : Nat → List Nat) (p : Nat) : ∀ n t, (mrkn M p n).testBit t = (decide (t < n) && los M (rank (cpl (un p) (un t)))) := by
  intro n
  induction n with
  | zero => intro t; simp [mrkn]
  | succ n ih =>
    intro t
    simp only [mrkn, Nat.testBit_or, ih]
    by_cases e : t = n
    · subst e
      cases hl : los M (rank (cpl (un p) (un t)))
      · simp
      · simp [Nat.testBit_two_pow]
    · have e' : ¬ n = t := fun q => e q.symm
      have : (if los M (rank (cpl (un p) (un n))) = true then 2 ^ n else 0).testBit t = false := by
        split
        · rw [Nat.testBit_two_pow]; simp [e']
        · simp
      rw [this, Bool.or_false]
      by_cases q : t < n
      · simp [q, show t < n + 1 by omega]
      · simp [q, show ¬ t < n + 1 by omega]
theorem mrk_lt (M : Nat → List Nat) (p : Nat) : mrk M p < 2 ^ 45 := by rw [mrk, jseal_eq]; exact mrkn_lt M p 45
theorem mrk_bit (M : Nat → List Nat) (p t : Nat) : (mrk M p).testBit t = (decide (t < 45) && los M (rank (cpl (un p) (un t)))) := by rw [mrk, jseal_eq]; exact mrkn_bit M p 45 t
theorem cmk_step {F fu : Nat} {σ : jxS} {p acc t s o acc' : Int} (h0 : 0 ≤ t) (h1 : t < 45) (hj : Positions_joinAll F σ p t = some (s, σ)) (s0 : 0 ≤ s) (s1 : s < 4224) (wo : σ 34 s = o) (o0 : 0 ≤ o) (o1 : o ≤ 45) (ha : acc' = if o % 2 = 0 then jlor acc (jlshl 1 t) else acc) : Values_markOf_c54 F (fu + 1) p acc t σ = Values_markOf_c54 F fu p acc' (t + 1) σ := by
  have d := (jdv (x := o) (d := 2) o0 (by omega) rfl).2
  by_cases z : o % 2 = 0
  · rw [if_pos z] at ha
    subst ha
    simp (disch := omega) only [Values_markOf_c54, hj, wo, d, ↓reduceIte, jw_id, jlt_T, jlt_F, jle_T, jle_F, jeq_T, jeq_F, and_self, and_true, true_and, and_false, false_and, or_true, true_or, or_false, false_or, not_true_eq_false, not_false_eq_true, jbs, jup_s, jup_k, jup_o]
  · rw [if_neg z] at ha
    subst ha
    simp (disch := omega) only [Values_markOf_c54, hj, wo, d, ↓reduceIte, jw_id, jlt_T, jlt_F, jle_T, jle_F, jeq_T, jeq_F, and_self, and_true, true_and, and_false, false_and, or_true, true_or, or_false, false_or, not_true_eq_false, not_false_eq_true, jbs, jup_s, jup_k, jup_o]
theorem cmk_loop {F p : Nat} {σ : jxS} {M : Nat → List Nat} (hM : MOK M) (hP : PosOK σ) (hp : p < 677) (hO : ∀ q : Nat, q < fo (beans (un p) + 8) → σ 34 q = (outc M q : Int)) (hF : 100 ≤ F) : ∀ (n fu t : Nat), n + t = 45 → n < fu → Values_markOf_c54 F fu p (mrkn M p t) t σ = some ((mrkn M p 45 : Int), jup σ 37 p (mrkn M p 45)) := by
  have hp' : p < fo 16 := by rw [fo_16]; exact hp
  obtain ⟨u1, u2, u3⟩ := un_small (by decide) hp'
  intro n
  induction n with
  | zero =>
    intro fu t e1 e2
    obtain ⟨fu, rfl⟩ : ∃ k, fu = k + 1 := ⟨fu - 1, by omega⟩
    have ht : t = 45 := by omega
    subst ht
    simp (disch := omega) only [Values_markOf_c54, ↓reduceIte, jw_id, jlt_T, jlt_F, jle_T, jle_F, jeq_T, jeq_F, and_self, and_true, true_and, and_false, false_and, or_true, true_or, or_false, false_or, not_true_eq_false, not_false_eq_true, jbs, jup_s, jup_k, jup_o]
  | succ n ih =>
    intro fu t e1 e2
    obtain ⟨fu, rfl⟩ : ∃ k, fu = k + 1 := ⟨fu - 1, by omega⟩
    have ht : t < fo 8 := by rw [fo_8]; omega
    obtain ⟨v1, v2, v3⟩ := un_small (by decide) ht
    have bs : beans (un p) + beans (un t) ≤ 22 := by omega
    have ja := ca_joinAll (F := F) hP u1 v1 bs hF
    rw [u3, v3] at ja
    have bc := beans_cpl (un p) (un t)
    have rt := rank_top (c := cpl (un p) (un t)) (by omega)
    have wo := hO (rank (cpl (un p) (un t))) (rank_beans.mpr (by omega))
    obtain ⟨o1, o2⟩ := outc_even M (rank (cpl (un p) (un t)))
    have o3 := outc_le hM (rank (cpl (un p) (un t)))
    have o4 : (0 : Int) ≤ (rank (cpl (un p) (un t)) : Int) := by omega
    have o5 : (rank (cpl (un p) (un t)) : Int) < 4224 := by omega
    have o6 : (0 : Int) ≤ (outc M (rank (cpl (un p) (un t))) : Int) := by omega
    have o7 : (outc M (rank (cpl (un p) (un t))) : Int) ≤ 45 := by omega
    have o8 : (0 : Int) ≤ (t : Int) := by omega
    have o9 : (t : Int) < 45 := by omega
    have e1' : n + (t + 1) = 45 := by omega
    have e2' : n < fu := by omega
    have od : ((outc M (rank (cpl (un p) (un t))) : Int) % 2 = 0) ↔ los M (rank (cpl (un p) (un t))) = true := by
      cases hl : los M (rank (cpl (un p) (un t)))
      · rw [hl] at o1; simp only [Bool.false_eq_true, if_false] at o1; simp; omega
      · rw [hl] at o1; simp only [if_true] at o1; simp; omega
    have i1 := ih fu (t + 1) e1' e2'
    rw [Int.natCast_add, Int.natCast_one] at i1
    have sh : jlshl 1 (t : Int) = ((2 ^ t : Nat) : Int) := bl_one (by omega)
    have ol : mrkn M p t ||| 2 ^ t < 2 ^ 63 := Nat.or_lt_two_pow (Nat.lt_of_lt_of_le (mrkn_lt M p t) (Nat.pow_le_pow_right (by decide) (by omega))) (Nat.pow_lt_pow_right (by decide) (by omega))
    have acc : ((mrkn M p (t + 1) : Nat) : Int) = if (outc M (rank (cpl (un p) (un t))) : Int) % 2 = 0 then jlor (mrkn M p t : Int) (jlshl 1 (t : Int)) else (mrkn M p t : Int) := by
      by_cases z : los M (rank (cpl (un p) (un t))) = true
      · rw [if_pos (od.mpr z), sh, bl_or ol]
        simp only [mrkn, if_pos z]
      · rw [if_neg (fun q => z (od.mp q))]
        simp only [mrkn, if_neg z, Nat.or_zero]
    rw [cmk_step (F := F) (fu := fu) o8 o9 ja o4 o5 wo o6 o7 acc]
    exact i1
theorem CV_37 {σ : jxS} {M : Nat → List Nat} {p : Nat} (h : CV σ M) : CV (jup σ 37 p (mrk M p)) M := by
  obtain ⟨h1, h2, ⟨o, o1, o2, o3⟩, ⟨g, g1, g2, g3⟩, h5⟩ := h
  have f : jfr (fun a _ => a = 37) σ (jup σ 37 p (mrk M p)) := jfr_up (jfr_refl _ _) rfl
  refine ⟨PosOK_fr h1 f (fun a j _ _ => by omega), RulC_fr h2 f (fun j => by omega) (fun j => by omega), ⟨o, by rw [jup_o (by omega)]; exact o1, o2, fun q hq => by rw [jup_o (by omega)]; exact o3 q hq⟩, ⟨g, by rw [jup_o (by omega)]; exact g1, g2, fun q hq => by rw [jup_o (by omega)]; exact g3 q hq⟩, fun q hq => ?_⟩
  by_cases e : q = p
  · subst e; exact Or.inr (jup_s _ _ _ _)
  · rw [jup_k (by omega)]; exact h5 q hq
theorem ca_mark {F p : Nat} {σ : jxS} {M : Nat → List Nat} (hM : MOK M) (h : CV σ M) (hp : p < 677) (hF : 5000 ≤ F) : vres M σ (Values_markOf F σ p) (mrk M p : Int) := by
  have ml := mrk_lt M p
  have ml' : (mrk M p : Int) ≤ 9223372036854775807 := by
    have : mrk M p < 35184372088832 := ml
    omega
  have hm : Values_hasMark F σ p = some (1, σ) := by simp (disch := omega) only [Values_hasMark, ↓reduceIte, jw_id, jlt_T, jlt_F, jle_T, jle_F, jeq_T, jeq_F, and_self, and_true, true_and, and_false, false_and, or_true, true_or, or_false, false_or, not_true_eq_false, not_false_eq_true, jbs, jup_s, jup_k, jup_o]
  unfold Values_markOf
  rw [hm, jbs]
  dsimp only
  rw [if_neg (show ¬ jw 1 = 0 by decide), if_pos (show 0 ≤ (p : Int) ∧ (p : Int) < 677 by omega)]
  rcases h.2.2.2.2 p hp with w | w
  · rw [if_pos (show jw (jlcmp (σ 37 (p : Int)) (-1)) = 0 by rw [w]; decide)]
    have hp' : p < fo 16 := by rw [fo_16]; exact hp
    obtain ⟨u1, u2, u3⟩ := un_small (by decide) hp'
    have bo := po_beans (F := F) h.1 (c := un p) (by omega) (by omega)
    rw [u3] at bo
    have fwi := po_withN (F := F) h.1 (n := beans (un p) + 8) (by omega)
    have fl := fo_le (show beans (un p) + 8 ≤ 23 by omega)
    have e8 : (beans (un p) : Int) + 7 + 1 = ((beans (un p) + 8 : Nat) : Int) := by omega
    obtain ⟨σ1, a1, a2, a3, a4⟩ := ca_settle (F := F) (v1 := (fo (beans (un p) + 8) : Int) - 1) hM h (by omega) (by omega) hF
    have lo := cmk_loop (F := F) hM a3.1 hp (fun q hq => a4 q (by omega) (by omega)) (by omega) 45 F 0 (by omega) (by omega)
    have lo' : Values_markOf_c54 F F p 0 0 σ1 = some ((mrkn M p 45 : Int), jup σ1 37 p (mrkn M p 45)) := lo
    have me : mrkn M p 45 = mrk M p := by rw [mrk, jseal_eq]
    rw [me] at lo'
    refine ⟨jup σ1 37 p (mrk M p), ?_, jfr_up (jfr_mono a2 (fun a j => SP_VP)) (by simp [VP]), CV_37 a3⟩
    rw [bo, jbs]
    dsimp only
    rw [e8, fwi, jbs]
    dsimp only
    rw [a1, jbs]
    exact lo'
  · have e : jlcmp (σ 37 (p : Int)) (-1) = 1 := by
      rw [w, bl_cmp (by omega) (by omega), if_pos (by omega)]
    rw [if_neg (show ¬ jw (jlcmp (σ 37 (p : Int)) (-1)) = 0 by rw [e]; decide), if_pos (show 0 ≤ (p : Int) ∧ (p : Int) < 677 by omega)]
    exact ⟨σ, by rw [w], jfr_refl _ _, h⟩
