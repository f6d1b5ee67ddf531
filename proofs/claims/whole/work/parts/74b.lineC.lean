/-! line, the class's -/
section LI
variable {F : Nat} {M : Nat → List Nat}
/-- the class's step -/
theorem cln_step {c : Nat → Nat} {σ : jxS} {k14 : Int → Int → Int → Int → jxS → Option jxR} {v1 v4 : Int} (hM : MOK M) (h : CV σ M) (hc : okc c) (hb : beans c ≤ 22) (hF : 5000 ≤ F) : ∃ σ', jfr VQ σ σ' ∧ CV σ' M ∧ ((ply M c = -1 ∧ ((Options_list F 41 σ (rank c)).bind fun r32 => (Values_loses F r32.2 (rank c)).bind fun r40 => if jw r40.1 = 0 then (Board_soonest F r40.2).bind fun r54 => Board_lineMove_c57 F k14 v1 v4 r54.1 r54.2 else (Board_slowest F r40.2).bind fun r47 => Board_lineMove_c57 F k14 v1 v4 r47.1 r47.2) = some (-2, σ')) ∨ (∃ o, o ∈ ops M c ∧ ply M c = (ocode o : Int) ∧ ((Options_list F 41 σ (rank c)).bind fun r32 => (Values_loses F r32.2 (rank c)).bind fun r40 => if jw r40.1 = 0 then (Board_soonest F r40.2).bind fun r54 => Board_lineMove_c57 F k14 v1 v4 r54.1 r54.2 else (Board_slowest F r40.2).bind fun r47 => Board_lineMove_c57 F k14 v1 v4 r47.1 r47.2) = k14 v1 (ocode o : Int) (rank (tgt c o.1 o.2) : Int) (v4 + 1) σ')) := by
  have ol := ops_len hM c
  have rt := rank_top hb
  obtain ⟨σ1, a1, a2, a3, a4⟩ := ca_list41 (F := F) hM h hc hb (by omega)
  obtain ⟨σ2, b1, b2, b3⟩ := ca_loses (F := F) hM a3 rt hF
  have hO2 := OL_VP a4 b2
  have f2 : jfr VQ σ σ2 := jfr_trans (jfr_mono a2 (fun a j h => Or.inr h)) (jfr_mono b2 (fun a j h => Or.inl h))
  have fin : ∀ (σ3 : jxS) (b' : Int) (a : Option (Nat × Nat)), OL σ3 M 41 c → bri (ops M c) a b' → (ob a = -1 ∧ Board_lineMove_c57 F k14 v1 v4 b' σ3 = some (-2, σ3)) ∨ ∃ o, o ∈ ops M c ∧ ob a = (ocode o : Int) ∧ Board_lineMove_c57 F k14 v1 v4 b' σ3 = k14 v1 (ocode o : Int) (rank (tgt c o.1 o.2) : Int) (v4 + 1) σ3 := by
    intro σ3 b' a hO hb'
    rcases hb' with ⟨e1, e2⟩ | ⟨i, o, m, e1, e2, e3⟩
    · left
      subst e1 e2
      refine ⟨rfl, ?_⟩
      rw [Board_lineMove_c57, Options_code, if_pos (show jw (-1) < 0 by decide), jbs]
      dsimp only
      rw [Options_target, if_pos (show jw (-1) < 0 by decide), jbs]
      dsimp only
      rw [if_pos (show jw (-1) < 0 by decide)]
    · right
      subst e1 e3
      obtain ⟨t1, t2, _⟩ := ol_at (F := F) hM hO e2
      have om := List.mem_of_getElem? e2
      have rk := op_rank hM hc hb om
      refine ⟨o, om, rfl, ?_⟩
      rw [Board_lineMove_c57, t2, jbs]
      dsimp only
      rw [t1, jbs]
      dsimp only
      rw [if_neg (show ¬ jw (rank (tgt c o.1 o.2) : Int) < 0 by rw [jw_id (by omega) (by omega)]; omega)]
  rw [a1, jbs]
  dsimp only
  rw [b1, jbs]
  dsimp only
  cases hl : los M (rank c)
  · obtain ⟨b', br, σ3, d1, d2, d3⟩ := cso_loop (F := F) hM hc hb hF rfl (ops M c) F 0 none (-1) σ2 b3 hO2 rfl (Nat.add_zero _) (Nat.lt_of_le_of_lt ol (by omega)) (Or.inl ⟨rfl, rfl⟩) (fun b hb => by cases hb)
    have so : Board_soonest F σ2 = some (b', σ3) := d1
    refine ⟨σ3, jfr_trans f2 (jfr_mono d2 (fun a j h => Or.inl h)), d3, ?_⟩
    rw [if_pos (show jw (if false = true then 1 else 0) = 0 from rfl), so, jbs, ply_is, hl]
    exact fin σ3 b' _ (OL_VP hO2 d2) br
  · obtain ⟨b', br, σ3, d1, d2, d3⟩ := csl_loop (F := F) hM hc hb hF rfl (ops M c) F 0 none (-1) σ2 b3 hO2 rfl (Nat.add_zero _) (Nat.lt_of_le_of_lt ol (by omega)) (Or.inl ⟨rfl, rfl⟩) (fun b hb => by cases hb)
    have so : Board_slowest F σ2 = some (b', σ3) := d1
    refine ⟨σ3, jfr_trans f2 (jfr_mono d2 (fun a j h => Or.inl h)), d3, ?_⟩
    rw [if_neg (show ¬ jw (if true = true then 1 else 0) = 0 by decide), so, jbs, ply_is, hl]
    exact fin σ3 b' _ (OL_VP hO2 d2) br
theorem cln_loop {k : Int} (hM : MOK M) (hF : 5000 ≤ F) (hk : k ≤ 2147483647) : ∀ (n fu i : Nat) (c : Nat → Nat) (v : Int) (σ : jxS), (i : Int) + n = k → okc c → beans c + i ≤ 22 → beans c + 1 < fu → CV σ M → vqs M σ (Board_lineMove_c14 F fu k v (rank c) i σ) (lnp M n c) := by
  intro n
  induction n with
  | zero =>
    intro fu i c v σ e1 hc hb hf h
    obtain ⟨fu, rfl⟩ : ∃ k, fu = k + 1 := ⟨fu - 1, by omega⟩
    obtain ⟨σ', f1, h1, q⟩ := cln_step (F := F) (k14 := Board_lineMove_c14 F fu) (v1 := k) (v4 := i) hM h hc (by omega) hF
    rw [Board_lineMove_c14, if_neg (show ¬ jw k < jw (i : Int) by rw [jw_id (by omega) (by omega), jw_id (by omega) (by omega)]; omega), if_neg (show ¬ 22 < jw (i : Int) by rw [jw_id (by omega) (by omega)]; omega)]
    rcases q with ⟨q1, q2⟩ | ⟨o, q1, q2, q3⟩
    · exact ⟨σ', by rw [q2, lnp_none q1], f1, h1⟩
    · refine ⟨σ', ?_, f1, h1⟩
      rw [q3, lnp_z q2]
      obtain ⟨fu, rfl⟩ : ∃ k, fu = k + 1 := ⟨fu - 1, by omega⟩
      rw [Board_lineMove_c14, if_pos (show jw k < jw ((i : Int) + 1) by rw [jw_id (by omega) (by omega), jw_id (by omega) (by omega)]; omega)]
  | succ n ih =>
    intro fu i c v σ e1 hc hb hf h
    obtain ⟨fu, rfl⟩ : ∃ k, fu = k + 1 := ⟨fu - 1, by omega⟩
    obtain ⟨σ', f1, h1, q⟩ := cln_step (F := F) (k14 := Board_lineMove_c14 F fu) (v1 := k) (v4 := i) hM h hc (by omega) hF
    rw [Board_lineMove_c14, if_neg (show ¬ jw k < jw (i : Int) by rw [jw_id (by omega) (by omega), jw_id (by omega) (by omega)]; omega), if_neg (show ¬ 22 < jw (i : Int) by rw [jw_id (by omega) (by omega)]; omega)]
    rcases q with ⟨q1, q2⟩ | ⟨o, q1, q2, q3⟩
    · exact ⟨σ', by rw [q2, lnp_none q1], f1, h1⟩
    · obtain ⟨t1, t2⟩ := ops_tgt hM hc q1
      obtain ⟨_, p2, p3⟩ := op_code hM q1
      obtain ⟨σ2, b1, b2, b3⟩ := ih fu (i + 1) (tgt c o.1 o.2) (ocode o : Int) σ' (by omega) t1 (by omega) (by omega) h1
      refine ⟨σ2, ?_, jfr_trans f1 b2, b3⟩
      rw [q3, lnp_s q2, p2, p3]
      exact b1
noncomputable def linA (M : Nat → List Nat) (c : Nat → Nat) (v : Int) : Int := if v < 0 then -1 else lnp M v.toNat c
theorem lq_line {c : Nat → Nat} {σ : jxS} {v : Int} (hv : iR v) (hM : MOK M) (h : CV σ M) (hh : σ 29 2 = (rank c : Int)) (hc : okc c) (hb : beans c ≤ 22) (hF : 5000 ≤ F) : vqs M σ (LL1_line F σ v) (linA M c v) := by
  have wv : jw v = v := jw_id hv.1 hv.2
  rw [LL1_line, wv]
  unfold linA
  by_cases y : v < 0
  · rw [if_pos y, if_pos y]
    exact ⟨σ, rfl, jfr_refl _ _, h⟩
  · obtain ⟨σ', a1, a2, a3⟩ := cln_loop (F := F) (k := v) hM hF hv.2 v.toNat F 0 c (-2) σ (by omega) hc (by omega) (by omega) h
    refine ⟨σ', ?_, a2, a3⟩
    have a1' : Board_lineMove_c14 F F v (-2) (rank c) 0 σ = _ := a1
    rw [if_neg y, if_neg y, Board_lineMove, Hand_position, jbs]
    dsimp only
    rw [hh, a1', jbs]
end LI
