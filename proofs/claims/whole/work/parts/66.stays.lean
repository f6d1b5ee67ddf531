/-! How far a quotient stays, both sides. -/
noncomputable def sty (M : Nat → List Nat) (n : Nat) (s : qsT) (k m : Nat) : Nat := match k with
  | 0 => m
  | k + 1 => match qbd M (m + 1) with
    | none => m
    | some s' => if alb M n s s' then sty M n s k (m + 1) else m
def SYP (a : Nat) (j : Int) : Prop := VP a j ∨ 48 ≤ a
theorem lst_end {F q fu m : Nat} {σ : jxS} (m6 : m ≤ 6) : LL1_stays_c29 F q (fu + 1) m ((m : Int) + 1 + 1) σ = some ((m : Int), σ) := by
  rw [LL1_stays_c29]
  by_cases y : 6 < jw ((m : Int) + 1 + 1)
  · rw [if_pos y]
  · have e1 : jw (m : Int) = (m : Int) := jw_id (by omega) (by omega)
    have e2 : jw ((m : Int) + 1 + 1 - 1) = (m : Int) + 1 + 1 - 1 := jw_id (by omega) (by omega)
    rw [if_neg y, if_neg (show ¬ jw (m : Int) = jw ((m : Int) + 1 + 1 - 1) by rw [e1, e2]; omega)]
theorem lst_loop {F n : Nat} {M : Nat → List Nat} {s : qsT} (hM : MOK M) (n1 : 1 ≤ n) (n6 : n ≤ 6) (hF : 5000 ≤ F) : ∀ (k fu m : Nat) (σ : jxS), k + m = 6 → k + 2 < fu → n ≤ m → CV σ M → QB σ M → QK σ M (qid n) n s → ∃ σ', LL1_stays_c29 F (qid n) fu m ((m : Int) + 1) σ = some ((sty M n s k m : Int), σ') ∧ jfr SYP σ σ' ∧ CV σ' M ∧ QB σ' M := by
  intro k
  induction k with
  | zero =>
    intro fu m σ e1 e2 nm hC hB hQ
    obtain ⟨fu, rfl⟩ : ∃ k, fu = k + 1 := ⟨fu - 1, by omega⟩
    refine ⟨σ, ?_, jfr_refl _ _, hC, hB⟩
    have j : jw ((m : Int) + 1) = (m : Int) + 1 := jw_id (by omega) (by omega)
    rw [LL1_stays_c29, if_pos (show 6 < jw ((m : Int) + 1) by rw [j]; omega)]
    rfl
  | succ k ih =>
    intro fu m σ e1 e2 nm hC hB hQ
    obtain ⟨fu, rfl⟩ : ∃ k, fu = k + 1 := ⟨fu - 1, by omega⟩
    have m1 : 1 ≤ m + 1 := by omega
    have m6 : m + 1 ≤ 6 := by omega
    have j0 : jw (m : Int) = (m : Int) := jw_id (by omega) (by omega)
    have j : jw ((m : Int) + 1) = (m : Int) + 1 := jw_id (by omega) (by omega)
    have j2 : jw ((m : Int) + 1 - 1) = (m : Int) + 1 - 1 := jw_id (by omega) (by omega)
    obtain ⟨σ1, a1, a2, a3, a4, a5⟩ := cb_quot (F := F) hM m1 m6 hC hB hF
    rw [Int.natCast_add, Int.natCast_one] at a1
    have nz : ¬ (qid (m + 1) : Int) = 0 := by unfold qid; omega
    have f1 : jfr SYP σ σ1 := jfr_mono a2 (fun a j h => by
      rcases h with h | h
      · exact Or.inl h
      · right; simp only [qid] at h; omega)
    have hQ1 : QK σ1 M (qid n) n s := QK_fr hQ a2 (by simp only [QP, VP, qid]; omega) (by simp only [QP, VP, qid]; omega) (fun j => by simp only [QP, VP, qid]; omega) (fun j => by simp only [QP, VP, qid]; omega) (fun j => by simp only [QP, VP, qid]; omega)
    obtain ⟨g, rfl⟩ : ∃ g, fu = g + 1 := ⟨fu - 1, by omega⟩
    have st : LL1_stays_c29 F (qid n) (g + 1 + 1) m ((m : Int) + 1) σ = (Quotient_isAlike F (qid n) (qid (m + 1)) σ1).bind fun r60 => if jw r60.1 = 0 then LL1_stays_c29 F (qid n) (g + 1) m ((m : Int) + 1 + 1) r60.2 else LL1_stays_c29 F (qid n) (g + 1) ((m : Int) + 1) ((m : Int) + 1 + 1) r60.2 := by
      rw [LL1_stays_c29, if_neg (show ¬ 6 < jw ((m : Int) + 1) by rw [j]; omega), if_pos (show jw (m : Int) = jw ((m : Int) + 1 - 1) by rw [j0, j2]; omega), a1, jbs]
      dsimp only
      rw [if_neg nz, jsel_qid m1 m6]
    rw [st, sty]
    cases hb : qbd M (m + 1) with
    | none =>
      refine ⟨σ1, ?_, f1, a3, a4⟩
      rw [ck_alike0 hQ1 ((QbC_none hb).mp a5), jbs]
      dsimp only
      rw [if_pos (show jw 0 = 0 from rfl), lst_end (by omega)]
    | some s' =>
      rw [ck_alike n6 m6 (by omega) hQ1 ((QbC_some m6 hb).mp a5) (by omega), jbs]
      dsimp only
      cases alb M n s s'
      · refine ⟨σ1, ?_, f1, a3, a4⟩
        rw [if_pos (show jw (if false = true then 1 else 0) = 0 from rfl), lst_end (by omega)]
        rfl
      · obtain ⟨σ2, i1, i2, i3, i4⟩ := ih (g + 1) (m + 1) σ1 (by omega) (by omega) (by omega) a3 a4 hQ1
        rw [Int.natCast_add, Int.natCast_one] at i1
        refine ⟨σ2, ?_, jfr_trans f1 i2, i3, i4⟩
        rw [if_neg (show ¬ jw (if true = true then 1 else 0) = 0 by decide), i1]
        rfl
theorem lq_stays {F n : Nat} {σ : jxS} {M : Nat → List Nat} (hM : MOK M) (n1 : 1 ≤ n) (n6 : n ≤ 6) (hC : CV σ M) (hB : QB σ M) (hF : 5000 ≤ F) : ∃ σ', LL1_stays F σ n = some (kA M n (fun s => (sty M n s (6 - n) n : Int)), σ') ∧ jfr SYP σ σ' ∧ CV σ' M ∧ QB σ' M := by
  obtain ⟨σ', a1, a2, a3, a4, a5⟩ := cb_quot (F := F) hM n1 n6 hC hB hF
  have nz : ¬ (qid n : Int) = 0 := by unfold qid; omega
  have f1 : jfr SYP σ σ' := jfr_mono a2 (fun a j h => by
    rcases h with h | h
    · exact Or.inl h
    · right; simp only [qid] at h; omega)
  rw [LL1_stays, a1, jbs]
  dsimp only
  rw [if_neg nz, jsel_qid n1 n6]
  unfold kA
  cases hb : qbd M n with
  | none =>
    refine ⟨σ', ?_, f1, a3, a4⟩
    rw [cb_unknown hb a5, jbs]; rfl
  | some s =>
    have hQ := (QbC_some n6 hb).mp a5
    obtain ⟨σ2, b1, b2, b3, b4⟩ := lst_loop (F := F) hM n1 n6 hF (6 - n) F n σ' (by omega) (by omega) (Nat.le_refl _) a3 a4 hQ
    refine ⟨σ2, ?_, jfr_trans f1 b2, b3, b4⟩
    rw [cb_known hQ, jbs]
    dsimp only
    rw [if_neg (show ¬ jw 1 = 0 by decide)]
    exact b1
