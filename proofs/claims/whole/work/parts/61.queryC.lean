/-! The class's questions about a quotient. -/
noncomputable def kA (M : Nat → List Nat) (n : Nat) (k : qsT → Int) : Int := match qbd M n with
  | none => -3
  | some s => k s
def iR (v : Int) : Prop := -2147483648 ≤ v ∧ v ≤ 2147483647
theorem cb_unknown {F q n : Nat} {σ : jxS} {M : Nat → List Nat} (hb : qbd M n = none) (h : QbC σ M q n) : Quotient_isKnown F q σ = some (0, σ) := by
  have w := (QbC_none hb).mp h
  rw [Quotient_isKnown, if_neg (show ¬ 0 < jw (σ q 7) by rw [w]; decide)]
theorem cb_known {F q n : Nat} {σ : jxS} {M : Nat → List Nat} {s : qsT} (hQ : QK σ M q n s) : Quotient_isKnown F q σ = some (1, σ) := by
  have w := hQ.1.2.2.2.2.1
  have l := hQ.2.1.1
  rw [Quotient_isKnown, if_pos (show 0 < jw (σ q 7) by rw [w, jw_id (by omega) (by omega)]; omega)]
theorem cb_has {F q n : Nat} {σ : jxS} {M : Nat → List Nat} {s : qsT} {v : Int} (hQ : QK σ M q n s) (hv : iR v) : Quotient_has F q σ v = some (if 0 ≤ v ∧ v < (s.1.length : Int) then 1 else 0, σ) := by
  have w := hQ.1.2.2.2.2.1
  have l := hQ.2.1.1
  have wv : jw v = v := jw_id hv.1 hv.2
  have wl : jw (σ q 7) = (s.1.length : Int) := by rw [w, jw_id (by omega) (by omega)]
  rw [Quotient_has]
  by_cases z : v < 0
  · rw [if_pos (show jw v < 0 by rw [wv]; exact z), if_neg (show ¬ (0 ≤ v ∧ v < (s.1.length : Int)) by omega)]
  · rw [if_neg (show ¬ jw v < 0 by rw [wv]; exact z)]
    by_cases y : v < (s.1.length : Int)
    · rw [if_pos (show jw v < jw (σ q 7) by rw [wv, wl]; exact y), if_pos (show 0 ≤ v ∧ v < (s.1.length : Int) by omega)]
    · rw [if_neg (show ¬ jw v < jw (σ q 7) by rw [wv, wl]; exact y), if_neg (show ¬ (0 ≤ v ∧ v < (s.1.length : Int)) by omega)]
section LQ
variable {F n : Nat} {σ : jxS} {M : Nat → List Nat}
theorem lq_elements (hM : MOK M) (n1 : 1 ≤ n) (n6 : n ≤ 6) (hC : CV σ M) (hB : QB σ M) (hF : 5000 ≤ F) : ∃ σ', LL1_elements F σ n = some (kA M n (fun s => (s.1.length : Int)), σ') ∧ jfr (QP (qid n)) σ σ' ∧ CV σ' M ∧ QB σ' M := by
  obtain ⟨σ', a1, a2, a3, a4, a5⟩ := cb_quot (F := F) hM n1 n6 hC hB hF
  have nz : ¬ (qid n : Int) = 0 := by unfold qid; omega
  refine ⟨σ', ?_, a2, a3, a4⟩
  rw [LL1_elements, a1, jbs]
  dsimp only
  rw [if_neg nz, jsel_qid n1 n6, Quotient_size, jbs]
  dsimp only
  unfold kA
  cases hb : qbd M n with
  | none => rw [(QbC_none hb).mp a5]
  | some s => rw [((QbC_some n6 hb).mp a5).1.2.2.2.2.1]
theorem lq_pairs (hM : MOK M) (n1 : 1 ≤ n) (n6 : n ≤ 6) (hC : CV σ M) (hB : QB σ M) (hF : 6000 ≤ F) : ∃ σ', LL1_pairs F σ n = some (kA M n (fun s => prsA s M n), σ') ∧ jfr (fun a j => QP (qid n) a j ∨ PQP (qid n) a j) σ σ' ∧ CV σ' M ∧ QB σ' M := by
  obtain ⟨σ', a1, a2, a3, a4, a5⟩ := cb_quot (F := F) hM n1 n6 hC hB (by omega)
  have nz : ¬ (qid n : Int) = 0 := by unfold qid; omega
  have f1 : jfr (fun a j => QP (qid n) a j ∨ PQP (qid n) a j) σ σ' := jfr_mono a2 (fun a j h => Or.inl h)
  rw [LL1_pairs, a1, jbs]
  dsimp only
  rw [if_neg nz, jsel_qid n1 n6]
  unfold kA
  cases hb : qbd M n with
  | none =>
    refine ⟨σ', ?_, f1, a3, a4⟩
    rw [cb_unknown hb a5, jbs]
    rfl
  | some s =>
    have hQ := (QbC_some n6 hb).mp a5
    obtain ⟨σ2, b1, b2, b3, b4, _, _⟩ := cb_pairs (F := F) hM n1 n6 a3 a4 hb hQ hF
    refine ⟨σ2, ?_, jfr_trans f1 (jfr_mono b2 (fun a j h => Or.inr h)), b3, b4⟩
    rw [cb_known hQ, jbs]
    dsimp only
    rw [if_neg (show ¬ jw 1 = 0 by decide), b1, jbs]
theorem lq_proved (hM : MOK M) (n1 : 1 ≤ n) (n6 : n ≤ 6) (hC : CV σ M) (hB : QB σ M) (hF : 6000 ≤ F) : ∃ σ', LL1_proved F σ n = some (kA M n (fun s => prfA s M n), σ') ∧ jfr (fun a j => QP (qid n) a j ∨ PQP (qid n) a j) σ σ' ∧ CV σ' M ∧ QB σ' M := by
  obtain ⟨σ', a1, a2, a3, a4, a5⟩ := cb_quot (F := F) hM n1 n6 hC hB (by omega)
  have nz : ¬ (qid n : Int) = 0 := by unfold qid; omega
  have f1 : jfr (fun a j => QP (qid n) a j ∨ PQP (qid n) a j) σ σ' := jfr_mono a2 (fun a j h => Or.inl h)
  rw [LL1_proved, a1, jbs]
  dsimp only
  rw [if_neg nz, jsel_qid n1 n6]
  unfold kA
  cases hb : qbd M n with
  | none =>
    refine ⟨σ', ?_, f1, a3, a4⟩
    rw [cb_unknown hb a5, jbs]
    rfl
  | some s =>
    have hQ := (QbC_some n6 hb).mp a5
    obtain ⟨σ2, b1, b2, b3, b4, _⟩ := cb_proof (F := F) hM n1 n6 a3 a4 hb hQ hF
    refine ⟨σ2, ?_, jfr_trans f1 (jfr_mono b2 (fun a j h => Or.inr h)), b3, b4⟩
    rw [cb_known hQ, jbs]
    dsimp only
    rw [if_neg (show ¬ jw 1 = 0 by decide), b1, jbs]
noncomputable def tmA (n : Nat) (v2 v3 : Int) (s : qsT) : Int := if (0 ≤ v2 ∧ v2 < (s.1.length : Int)) ∧ 0 ≤ v3 ∧ v3 < (s.1.length : Int) then (tms s n v2.toNat v3.toNat : Int) else -1
theorem lq_times {v2 v3 : Int} (h2 : iR v2) (h3 : iR v3) (hM : MOK M) (n1 : 1 ≤ n) (n6 : n ≤ 6) (hC : CV σ M) (hB : QB σ M) (hF : 5000 ≤ F) : ∃ σ', LL1_times F σ n v2 v3 = some (kA M n (tmA n v2 v3), σ') ∧ jfr (QP (qid n)) σ σ' ∧ CV σ' M ∧ QB σ' M := by
  obtain ⟨σ', a1, a2, a3, a4, a5⟩ := cb_quot (F := F) hM n1 n6 hC hB hF
  have nz : ¬ (qid n : Int) = 0 := by unfold qid; omega
  refine ⟨σ', ?_, a2, a3, a4⟩
  rw [LL1_times, a1, jbs]
  dsimp only
  rw [if_neg nz, jsel_qid n1 n6]
  unfold kA
  cases hb : qbd M n with
  | none => rw [cb_unknown hb a5, jbs]; rfl
  | some s =>
    have hQ := (QbC_some n6 hb).mp a5
    rw [cb_known hQ, jbs]
    dsimp only
    rw [if_neg (show ¬ jw 1 = 0 by decide), cb_has hQ h2, jbs]
    dsimp only
    unfold tmA
    by_cases y : 0 ≤ v2 ∧ v2 < (s.1.length : Int)
    · rw [if_pos y, if_neg (show ¬ jw 1 = 0 by decide), cb_has hQ h3, jbs]
      dsimp only
      by_cases z : 0 ≤ v3 ∧ v3 < (s.1.length : Int)
      · obtain ⟨x2, rfl⟩ : ∃ k : Nat, v2 = k := ⟨v2.toNat, by omega⟩
        obtain ⟨x3, rfl⟩ : ∃ k : Nat, v3 = k := ⟨v3.toNat, by omega⟩
        rw [if_pos z, if_neg (show ¬ jw 1 = 0 by decide), cq_times a3.1 n6 hQ (by omega) (by omega) (by omega), jbs, if_pos ⟨y, z⟩]
        rfl
      · rw [if_neg z, if_pos (show jw 0 = 0 from rfl), if_neg (fun h => z h.2)]
    · rw [if_neg y, if_pos (show jw 0 = 0 from rfl), if_neg (fun h => y h.1)]
theorem lq_sets {v2 : Int} (h2 : iR v2) (hM : MOK M) (n1 : 1 ≤ n) (n6 : n ≤ 6) (hC : CV σ M) (hB : QB σ M) (hF : 5000 ≤ F) : ∃ σ', LL1_sets F σ n v2 = some (if 0 ≤ v2 ∧ v2 ≤ 3 then kA M n (fun s => setA M s n v2) else -1, σ') ∧ jfr (QP (qid n)) σ σ' ∧ CV σ' M ∧ QB σ' M := by
  obtain ⟨σ', a1, a2, a3, a4, a5⟩ := cb_quot (F := F) hM n1 n6 hC hB hF
  have nz : ¬ (qid n : Int) = 0 := by unfold qid; omega
  have w2 : jw v2 = v2 := jw_id h2.1 h2.2
  refine ⟨σ', ?_, a2, a3, a4⟩
  rw [LL1_sets, a1, jbs]
  dsimp only
  rw [if_neg nz, jsel_qid n1 n6]
  by_cases y : v2 < 0
  · rw [if_pos (show jw v2 < 0 by rw [w2]; exact y), if_neg (show ¬ (0 ≤ v2 ∧ v2 ≤ 3) by omega)]
  · by_cases z : 3 < v2
    · rw [if_neg (show ¬ jw v2 < 0 by rw [w2]; exact y), if_pos (show 3 < jw v2 by rw [w2]; exact z), if_neg (show ¬ (0 ≤ v2 ∧ v2 ≤ 3) by omega)]
    · rw [if_neg (show ¬ jw v2 < 0 by rw [w2]; exact y), if_neg (show ¬ 3 < jw v2 by rw [w2]; exact z), if_pos (show 0 ≤ v2 ∧ v2 ≤ 3 by omega)]
      unfold kA
      cases hb : qbd M n with
      | none => rw [cb_unknown hb a5, jbs]; rfl
      | some s =>
        have hQ := (QbC_some n6 hb).mp a5
        rw [cb_known hQ, jbs]
        dsimp only
        rw [if_neg (show ¬ jw 1 = 0 by decide), ck_setOf a3.1 n6 hQ (by omega) (by omega) (by omega), jbs]
end LQ
