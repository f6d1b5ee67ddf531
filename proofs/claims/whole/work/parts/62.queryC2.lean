/-! The class's questions about a quotient: next, powers, words. -/
section LQ2
variable {F n : Nat} {σ : jxS} {M : Nat → List Nat}
noncomputable def nxA (v2 v3 : Int) (s : qsT) : Int := if 0 ≤ v2 ∧ v2 < (s.1.length : Int) then (s.2 v2.toNat v3.toNat : Int) else -1
theorem lq_next {v2 v3 : Int} (h2 : iR v2) (h3 : iR v3) (hM : MOK M) (n1 : 1 ≤ n) (n6 : n ≤ 6) (hC : CV σ M) (hB : QB σ M) (hF : 5000 ≤ F) : ∃ σ', LL1_next F σ n v2 v3 = some (if 1 ≤ v3 ∧ v3 ≤ (n : Int) then kA M n (nxA v2 v3) else -1, σ') ∧ jfr (QP (qid n)) σ σ' ∧ CV σ' M ∧ QB σ' M := by
  obtain ⟨σ', a1, a2, a3, a4, a5⟩ := cb_quot (F := F) hM n1 n6 hC hB hF
  have nz : ¬ (qid n : Int) = 0 := by unfold qid; omega
  have w3 : jw v3 = v3 := jw_id h3.1 h3.2
  have wn : jw (n : Int) = (n : Int) := jw_id (by omega) (by omega)
  refine ⟨σ', ?_, a2, a3, a4⟩
  rw [LL1_next, a1, jbs]
  dsimp only
  rw [if_neg nz, jsel_qid n1 n6]
  by_cases y : v3 < 1
  · rw [if_pos (show jw v3 < 1 by rw [w3]; exact y), if_neg (show ¬ (1 ≤ v3 ∧ v3 ≤ (n : Int)) by omega)]
  · by_cases z : (n : Int) < v3
    · rw [if_neg (show ¬ jw v3 < 1 by rw [w3]; exact y), if_pos (show jw (n : Int) < jw v3 by rw [w3, wn]; exact z), if_neg (show ¬ (1 ≤ v3 ∧ v3 ≤ (n : Int)) by omega)]
    · rw [if_neg (show ¬ jw v3 < 1 by rw [w3]; exact y), if_neg (show ¬ jw (n : Int) < jw v3 by rw [w3, wn]; exact z), if_pos (show 1 ≤ v3 ∧ v3 ≤ (n : Int) by omega)]
      unfold kA
      cases hb : qbd M n with
      | none => rw [cb_unknown hb a5, jbs]; rfl
      | some s =>
        have hQ := (QbC_some n6 hb).mp a5
        rw [cb_known hQ, jbs]
        dsimp only
        rw [if_neg (show ¬ jw 1 = 0 by decide), cb_has hQ h2, jbs]
        dsimp only
        unfold nxA
        by_cases x : 0 ≤ v2 ∧ v2 < (s.1.length : Int)
        · obtain ⟨x2, rfl⟩ : ∃ k : Nat, v2 = k := ⟨v2.toNat, by omega⟩
          obtain ⟨x3, rfl⟩ : ∃ k : Nat, v3 = k := ⟨v3.toNat, by omega⟩
          rw [if_pos x, if_neg (show ¬ jw 1 = 0 by decide), cq_next n6 hQ (by omega) (by omega) (by omega), jbs, if_pos x]
          rfl
        · rw [if_neg x, if_pos (show jw 0 = 0 from rfl), if_neg x]
noncomputable def poA (n : Nat) (v2 v3 : Int) (s : qsT) : Int := if 0 ≤ v2 ∧ v2 < (s.1.length : Int) then pwA s n v2.toNat v3 else -1
theorem lq_power {v2 v3 : Int} (h2 : iR v2) (h3 : iR v3) (hM : MOK M) (n1 : 1 ≤ n) (n6 : n ≤ 6) (hC : CV σ M) (hB : QB σ M) (hF : 5000 ≤ F) : ∃ σ', LL1_power F σ n v2 v3 = some (if 0 ≤ v3 ∧ v3 ≤ 1 then kA M n (poA n v2 v3) else -1, σ') ∧ jfr (fun a j => QP (qid n) a j ∨ a = qid n + 4) σ σ' ∧ CV σ' M ∧ QB σ' M := by
  obtain ⟨σ', a1, a2, a3, a4, a5⟩ := cb_quot (F := F) hM n1 n6 hC hB hF
  have nz : ¬ (qid n : Int) = 0 := by unfold qid; omega
  have w3 : jw v3 = v3 := jw_id h3.1 h3.2
  have f1 : jfr (fun a j => QP (qid n) a j ∨ a = qid n + 4) σ σ' := jfr_mono a2 (fun a j h => Or.inl h)
  rw [LL1_power, a1, jbs]
  dsimp only
  rw [if_neg nz, jsel_qid n1 n6]
  by_cases y : v3 < 0
  · refine ⟨σ', ?_, f1, a3, a4⟩
    rw [if_pos (show jw v3 < 0 by rw [w3]; exact y), if_neg (show ¬ (0 ≤ v3 ∧ v3 ≤ 1) by omega)]
  · by_cases z : 1 < v3
    · refine ⟨σ', ?_, f1, a3, a4⟩
      rw [if_neg (show ¬ jw v3 < 0 by rw [w3]; exact y), if_pos (show 1 < jw v3 by rw [w3]; exact z), if_neg (show ¬ (0 ≤ v3 ∧ v3 ≤ 1) by omega)]
    · rw [if_neg (show ¬ jw v3 < 0 by rw [w3]; exact y), if_neg (show ¬ 1 < jw v3 by rw [w3]; exact z), if_pos (show 0 ≤ v3 ∧ v3 ≤ 1 by omega)]
      unfold kA
      cases hb : qbd M n with
      | none =>
        refine ⟨σ', ?_, f1, a3, a4⟩
        rw [cb_unknown hb a5, jbs]; rfl
      | some s =>
        have hQ := (QbC_some n6 hb).mp a5
        rw [cb_known hQ, jbs]
        dsimp only
        rw [if_neg (show ¬ jw 1 = 0 by decide), cb_has hQ h2, jbs]
        dsimp only
        unfold poA
        by_cases x : 0 ≤ v2 ∧ v2 < (s.1.length : Int)
        · obtain ⟨x2, rfl⟩ : ∃ k : Nat, v2 = k := ⟨v2.toNat, by omega⟩
          obtain ⟨σ2, b1, b2⟩ := ck_power (F := F) (e := x2) (v := v3) (qid_is n1 n6) a3.1 n6 hQ (by omega) (by omega) hF
          refine ⟨σ2, ?_, jfr_trans f1 (jfr_mono b2 (fun a j h => Or.inr h)), CV_fr2 a3 b2 (fun a j h => by simp only [qid]; omega), fun m m1 m6 => QC1_fr m6 (a4 m m1 m6) b2 (fun j => by simp only [qid]; omega) (fun a j q1 q2 => by simp only [qid] at q1 q2 ⊢; omega)⟩
          rw [if_pos x, if_neg (show ¬ jw 1 = 0 by decide), b1, jbs, if_pos x]
          rfl
        · refine ⟨σ', ?_, f1, a3, a4⟩
          rw [if_neg x, if_pos (show jw 0 = 0 from rfl), if_neg x]
noncomputable def woA (v2 v3 : Int) (s : qsT) : Int := if 0 ≤ v2 ∧ v2 < (s.1.length : Int) then (if v3.toNat = 0 then (beans (s.1.getD v2.toNat (fun _ => 0)) : Int) else (s.1.getD v2.toNat (fun _ => 0) v3.toNat : Int)) else -1
theorem lq_word {v2 v3 : Int} (h2 : iR v2) (h3 : iR v3) (hM : MOK M) (n1 : 1 ≤ n) (n6 : n ≤ 6) (hC : CV σ M) (hB : QB σ M) (hF : 5000 ≤ F) : ∃ σ', LL1_word F σ n v2 v3 = some (if 0 ≤ v3 ∧ v3 ≤ (n : Int) then kA M n (woA v2 v3) else -1, σ') ∧ jfr (QP (qid n)) σ σ' ∧ CV σ' M ∧ QB σ' M := by
  obtain ⟨σ', a1, a2, a3, a4, a5⟩ := cb_quot (F := F) hM n1 n6 hC hB hF
  have nz : ¬ (qid n : Int) = 0 := by unfold qid; omega
  have w3 : jw v3 = v3 := jw_id h3.1 h3.2
  have wn : jw (n : Int) = (n : Int) := jw_id (by omega) (by omega)
  refine ⟨σ', ?_, a2, a3, a4⟩
  rw [LL1_word, a1, jbs]
  dsimp only
  rw [if_neg nz, jsel_qid n1 n6]
  by_cases y : v3 < 0
  · rw [if_pos (show jw v3 < 0 by rw [w3]; exact y), if_neg (show ¬ (0 ≤ v3 ∧ v3 ≤ (n : Int)) by omega)]
  · by_cases z : (n : Int) < v3
    · rw [if_neg (show ¬ jw v3 < 0 by rw [w3]; exact y), if_pos (show jw (n : Int) < jw v3 by rw [w3, wn]; exact z), if_neg (show ¬ (0 ≤ v3 ∧ v3 ≤ (n : Int)) by omega)]
    · rw [if_neg (show ¬ jw v3 < 0 by rw [w3]; exact y), if_neg (show ¬ jw (n : Int) < jw v3 by rw [w3, wn]; exact z), if_pos (show 0 ≤ v3 ∧ v3 ≤ (n : Int) by omega)]
      unfold kA
      cases hb : qbd M n with
      | none => rw [cb_unknown hb a5, jbs]; rfl
      | some s =>
        have hQ := (QbC_some n6 hb).mp a5
        rw [cb_known hQ, jbs]
        dsimp only
        rw [if_neg (show ¬ jw 1 = 0 by decide), cb_has hQ h2, jbs]
        dsimp only
        unfold woA
        by_cases x : 0 ≤ v2 ∧ v2 < (s.1.length : Int)
        · obtain ⟨x2, rfl⟩ : ∃ k : Nat, v2 = k := ⟨v2.toNat, by omega⟩
          obtain ⟨x3, rfl⟩ : ∃ k : Nat, v3 = k := ⟨v3.toNat, by omega⟩
          have l16 := hQ.2.1.1.2
          have el : x2 < s.1.length := by omega
          have ge := getD_at el
          obtain ⟨⟨o1, o2⟩, _⟩ := hQ.2.1.2.1 _ (List.mem_of_getElem? ge)
          have wr := (hQ.1.2.2.2.2.2 x2 _ ge).1
          have ta := po_tally (F := F) a3.1 (h := x3) o1 (by omega) (by omega) (by omega)
          have wo : Quotient_wordOf F (qid n) σ' (x2 : Int) = some ((rank (s.1.getD x2 (fun _ => 0)) : Int), σ') := by
            rw [Quotient_wordOf, cb_has hQ h2, jbs, if_pos x]
            dsimp only
            rw [if_neg (show ¬ jw 1 = 0 by decide), if_pos (show 0 ≤ (x2 : Int) ∧ (x2 : Int) < 16 by omega), wr]
          rw [if_pos x, if_neg (show ¬ jw 1 = 0 by decide), wo, jbs]
          dsimp only
          rw [ta, jbs, if_pos x]
          rfl
        · rw [if_neg x, if_pos (show jw 0 = 0 from rfl), if_neg x]
end LQ2
