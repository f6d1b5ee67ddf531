/-! line, the reference's -/
section LI
variable {F : Nat} {M : Nat → List Nat}
/-- the reference's -/
theorem RV_26 {σ σ' : jxS} {P : Nat → Int → Prop} {c : Nat → Nat} (hI : RI σ M) (f : jfr P σ σ') (hp : ∀ a j, P a j → a = 26) (hH : Hd σ' 26 c) : RV σ' M 26 c := by
  obtain ⟨i1, i2, i3, i4, i5⟩ := hI
  exact ⟨WT_fr i1 f (fun j h => by have := hp _ _ h; omega) (fun j h => by have := hp _ _ h; omega), MvM_fr i3 f (fun j h => by have := hp _ _ h; omega) (fun j h => by have := hp _ _ h; omega), VT_fr i2 f (fun a j _ _ h => by have := hp _ _ h; omega), hH⟩
def P26 (a : Nat) (_ : Int) : Prop := a = 26
theorem cd_dv {n a b : Nat} (h : n < 12169) (e : n / 1000 = a) (e2 : n % 1000 = b) : jdiv (n : Int) 1000 = a ∧ jrem (n : Int) 1000 = b ∧ ¬ jw (n : Int) < 0 := by
  refine ⟨?_, ?_, ?_⟩
  · rw [(jd1000 (by omega) (by omega)).1]; omega
  · rw [(jd1000 (by omega) (by omega)).2]; omega
  · rw [jw_id (by omega) (by omega)]; omega
theorem rln_loop {k : Int} {σ0 : jxS} (hM : MOK M) (hI : RI σ0 M) (hF : 1000 ≤ F) (hk : k ≤ 2147483647) : ∀ (n fu i : Nat) (c : Nat → Nat) (σ : jxS), (i : Int) + n = k → okc c → beans c + i ≤ 22 → beans c + 1 < fu → jfr P26 σ0 σ → Hd σ 26 c → ∃ σ', Model_line_c46 F fu k (ply M c) i σ = some (lnp M n c, σ') ∧ jfr P26 σ0 σ' := by
  intro n
  induction n with
  | zero =>
    intro fu i c σ e1 hc hb hf f hH
    obtain ⟨fu, rfl⟩ : ∃ k, fu = k + 1 := ⟨fu - 1, by omega⟩
    refine ⟨σ, ?_, f⟩
    rw [Model_line_c46, if_neg (show ¬ jw (i : Int) < jw k by rw [jw_id (by omega) (by omega), jw_id (by omega) (by omega)]; omega), Model_line_c84]
    rcases ply_cases M c with q | ⟨o, q1, q2⟩
    · rw [lnp_none q, q, if_pos (show jw (-1) < 0 by decide)]
    · have oc := (op_code hM q1).1
      obtain ⟨_, _, dn⟩ := cd_dv oc rfl rfl
      rw [lnp_z q2, q2, if_neg dn]
  | succ n ih =>
    intro fu i c σ e1 hc hb hf f hH
    obtain ⟨fu, rfl⟩ : ∃ k, fu = k + 1 := ⟨fu - 1, by omega⟩
    rw [Model_line_c46, if_pos (show jw (i : Int) < jw k by rw [jw_id (by omega) (by omega), jw_id (by omega) (by omega)]; omega)]
    rcases ply_cases M c with q | ⟨o, q1, q2⟩
    · refine ⟨σ, ?_, f⟩
      rw [lnp_none q, q, if_pos (show jw (-1) < 0 by decide), Model_line_c84, if_pos (show jw (-1) < 0 by decide)]
    · obtain ⟨oc, p2, p3⟩ := op_code hM q1
      obtain ⟨⟨⟨m1, m2⟩, m3⟩, m4⟩ := ops_mem.mp q1
      have mo := (hM o.1 m1 m2).2 o.2 m4
      obtain ⟨t1, t2⟩ := ops_tgt hM hc q1
      have ch := mo_chg (F := F) (a := 26) (σ := σ) (h := o.1) (e := 1) (m := o.2) (by omega) (by omega) (by omega)
      have cH := chg_Hd (m := o.2) hH m1 m2 m3
      have cf : jfr P26 σ0 (chg σ 26 o.1 ((o.2 / 13 : Nat) : Int) ((o.2 % 13 : Nat) : Int) 1) := jfr_trans f (jfr_ag (chg_ag _ _ _ _ _ _) (fun a j h => by simpa [P26] using h))
      have pl := rk_played (F := F) (RV_26 hI cf (fun a j h => h) cH) hM t1 (by omega) hF
      obtain ⟨σ2, b1, b2⟩ := ih fu (i + 1) (tgt c o.1 o.2) _ (by omega) t1 (by omega) (by omega) cf cH
      refine ⟨σ2, ?_, b2⟩
      obtain ⟨dv, dr, dn⟩ := cd_dv oc p2 p3
      rw [lnp_s q2, q2, if_neg dn, dv, dr, ch, jbs]
      dsimp only
      rw [pl, jbs, p2, p3]
      exact b1
theorem rln_copy {k : Int} {σ0 : jxS} : ∀ (n fu : Nat) (j : Int) (σ : jxS), n + j = 13 → 0 ≤ j → n < fu → jfr P26 σ0 σ → (∀ i : Int, 0 ≤ i → i < j → σ 26 i = σ0 24 i) → ∃ σ', Model_line_c15 F fu k j σ = (Model_playedOn F σ').bind (fun r40 => Model_line_c46 F F k r40.1 0 r40.2) ∧ jfr P26 σ0 σ' ∧ ∀ i : Int, 0 ≤ i → i < 13 → σ' 26 i = σ0 24 i := by
  intro n
  induction n with
  | zero =>
    intro fu j σ e1 e2 e3 f h
    obtain ⟨fu, rfl⟩ : ∃ k, fu = k + 1 := ⟨fu - 1, by omega⟩
    refine ⟨σ, ?_, f, fun i a b => h i a (by omega)⟩
    simp (disch := omega) only [Model_line_c15, ↓reduceIte, jw_id, jlt_T, jlt_F, jle_T, jle_F, jeq_T, jeq_F, and_self, and_true, true_and, and_false, false_and, or_true, true_or, or_false, false_or, not_true_eq_false, not_false_eq_true, jbs, jup_s, jup_k, jup_o]
  | succ n ih =>
    intro fu j σ e1 e2 e3 f h
    obtain ⟨fu, rfl⟩ : ∃ k, fu = k + 1 := ⟨fu - 1, by omega⟩
    have w : σ 24 j = σ0 24 j := f 24 j (by simp only [P26]; omega)
    obtain ⟨σ', i1, i2, i3⟩ := ih fu (j + 1) (jup σ 26 j (σ0 24 j)) (by omega) (by omega) (by omega) (jfr_up f rfl) (fun i a b => by
      by_cases e : i = j
      · rw [e, jup_s]
      · rw [jup_k e]; exact h i a (by omega))
    refine ⟨σ', ?_, i2, i3⟩
    simp (disch := omega) only [Model_line_c15, w, ↓reduceIte, jw_id, jlt_T, jlt_F, jle_T, jle_F, jeq_T, jeq_F, and_self, and_true, true_and, and_false, false_and, or_true, true_or, or_false, false_or, not_true_eq_false, not_false_eq_true, jbs, jup_s, jup_k, jup_o]
    exact i1
theorem rq_line {c : Nat → Nat} {σ : jxS} {v : Int} (hv : iR v) (hM : MOK M) (hI : RI σ M) (hH : Hd σ 24 c) (hc : okc c) (hb : beans c ≤ 22) (hF : 1000 ≤ F) : ∃ σ', Model_line F σ v = some (linA M c v, σ') ∧ jfr P26 σ σ' := by
  have wv : jw v = v := jw_id hv.1 hv.2
  rw [Model_line, if_neg hI.2.2.2.2, wv]
  unfold linA
  by_cases y : v < 0
  · rw [if_pos y, if_pos y]
    exact ⟨σ, rfl, jfr_refl _ _⟩
  · obtain ⟨σ1, a1, a2, a3⟩ := rln_copy (F := F) (k := v) (σ0 := σ) 13 F 0 σ (by omega) (by omega) (by omega) (jfr_refl _ _) (fun i a b => by omega)
    have h26 : Hd σ1 26 c := fun h h1 h2 => by rw [a3 h (by omega) (by omega)]; exact hH h h1 h2
    have pl := rk_played (F := F) (RV_26 hI a2 (fun a j h => h) h26) hM hc hb hF
    obtain ⟨σ2, b1, b2⟩ := rln_loop (F := F) (k := v) hM hI hF hv.2 v.toNat F 0 c σ1 (by omega) hc (by omega) (by omega) a2 h26
    refine ⟨σ2, ?_, b2⟩
    rw [if_neg y, if_neg y, a1, pl, jbs]
    exact b1
end LI
