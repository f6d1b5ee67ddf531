/-! The class's quotients as a board holds them. -/
theorem CV_fr2 {σ σ' : jxS} {P : Nat → Int → Prop} {M : Nat → List Nat} (h : CV σ M) (f : jfr P σ σ') (hp : ∀ a j, a ≤ 43 → ¬ P a j) : CV σ' M := by
  obtain ⟨h1, h2, ⟨o, o1, o2, o3⟩, ⟨g, g1, g2, g3⟩, h5⟩ := h
  refine ⟨PosOK_fr h1 f (fun a j _ q => hp a j (by omega)), RulC_fr h2 f (fun j => hp _ j (by omega)) (fun j => hp _ j (by omega)), ⟨o, ?_, o2, fun p q => ?_⟩, ⟨g, ?_, g2, fun p q => ?_⟩, fun p q => ?_⟩
  · rw [f 33 7 (hp _ _ (by omega))]; exact o1
  · rw [f 34 _ (hp _ _ (by omega))]; exact o3 p q
  · rw [f 33 8 (hp _ _ (by omega))]; exact g1
  · rw [f 35 _ (hp _ _ (by omega))]; exact g3 p q
  · rw [f 37 _ (hp _ _ (by omega))]; exact h5 p q
def qid (n : Nat) : Nat := 43 + 5 * n
theorem qid_is {n : Nat} (n1 : 1 ≤ n) (n6 : n ≤ 6) : isQ (qid n) := by
  unfold isQ qid
  omega
theorem QbC_some {σ : jxS} {M : Nat → List Nat} {q n : Nat} {s : qsT} (n6 : n ≤ 6) (hb : qbd M n = some s) : QbC σ M q n ↔ QK σ M q n s := by
  unfold QbC
  rw [hb]
  have ok := qbd_qOK (show n ≤ 12 by omega) hb
  constructor
  · intro h; exact ⟨h.1, ok, fun a b ha b1 b2 => (h.2 a b ha b1 b2).1⟩
  · intro h; exact ⟨h.1, fun a b ha b1 b2 => ⟨h.2.2 a b ha b1 b2, ok.2.2 a b ha b1 b2⟩⟩
theorem QbC_none {σ : jxS} {M : Nat → List Nat} {q n : Nat} (hb : qbd M n = none) : QbC σ M q n ↔ σ q 7 = -3 := by
  unfold QbC
  rw [hb]
theorem QbC_fr {σ σ' : jxS} {M : Nat → List Nat} {q n : Nat} {P : Nat → Int → Prop} (n6 : n ≤ 6) (h : QbC σ M q n) (f : jfr P σ σ') (h0 : ¬ P q 0) (h7 : ¬ P q 7) (h1 : ∀ j, ¬ P (q + 1) j) (h2 : ∀ j, ¬ P (q + 2) j) (h3 : ∀ j, ¬ P (q + 3) j) : QbC σ' M q n := by
  cases hb : qbd M n with
  | none => rw [QbC_none hb] at h ⊢; rw [f q 7 h7]; exact h
  | some s => rw [QbC_some n6 hb] at h ⊢; exact QK_fr h f h0 h7 h1 h2 h3
theorem QbC_len {σ : jxS} {M : Nat → List Nat} {q n : Nat} (n6 : n ≤ 6) (h : QbC σ M q n) : σ q 7 ≠ 0 ∧ -3 ≤ σ q 7 ∧ σ q 7 ≤ 16 := by
  cases hb : qbd M n with
  | none => rw [QbC_none hb] at h; rw [h]; decide
  | some s =>
    rw [QbC_some n6 hb] at h
    have w := h.1.2.2.2.2.1
    have l := h.2.1.1
    rw [w]
    omega
def QCh (σ : jxS) (M : Nat → List Nat) (n : Nat) : Prop := σ (qid n) 8 = -9 ∨ ∃ s, qbd M n = some s ∧ σ (qid n) 8 = prsA s M n ∧ σ (qid n) 9 = if prsB s M n then 1 else 0
def QC1 (σ : jxS) (M : Nat → List Nat) (n : Nat) : Prop := σ 32 ((n : Int) - 1) = (qid n : Int) ∧ σ (qid n) 0 = (n : Int) ∧ (σ (qid n) 7 = 0 ∨ QbC σ M (qid n) n) ∧ QCh σ M n
def QB (σ : jxS) (M : Nat → List Nat) : Prop := ∀ n, 1 ≤ n → n ≤ 6 → QC1 σ M n
theorem QC1_fr {σ σ' : jxS} {M : Nat → List Nat} {n : Nat} {P : Nat → Int → Prop} (n6 : n ≤ 6) (h : QC1 σ M n) (f : jfr P σ σ') (h32 : ∀ j, ¬ P 32 j) (hq : ∀ a j, qid n ≤ a → a < qid n + 4 → ¬ P a j) : QC1 σ' M n := by
  obtain ⟨a, b, c, d⟩ := h
  have e0 : ∀ j, σ' (qid n) j = σ (qid n) j := fun j => f _ _ (hq _ _ (by omega) (by omega))
  refine ⟨by rw [f 32 _ (h32 _)]; exact a, by rw [e0]; exact b, ?_, ?_⟩
  · rcases c with c | c
    · left; rw [e0]; exact c
    · right; exact QbC_fr n6 c f (hq _ _ (by omega) (by omega)) (hq _ _ (by omega) (by omega)) (fun j => hq _ _ (by omega) (by omega)) (fun j => hq _ _ (by omega) (by omega)) (fun j => hq _ _ (by omega) (by omega))
  · unfold QCh
    rw [e0, e0]
    exact d
theorem QB_fr {σ σ' : jxS} {M : Nat → List Nat} {P : Nat → Int → Prop} (h : QB σ M) (f : jfr P σ σ') (h32 : ∀ j, ¬ P 32 j) (hq : ∀ a j, 48 ≤ a → ¬ P a j) : QB σ' M := fun n n1 n6 => QC1_fr n6 (h n n1 n6) f h32 (fun a j q _ => hq a j (by unfold qid at q; omega))
theorem jsel_qid {n : Nat} {k : Nat → Option jxR} (n1 : 1 ≤ n) (n6 : n ≤ 6) : jsel jQS (qid n : Int) k = k (qid n) := by
  have : n = 1 ∨ n = 2 ∨ n = 3 ∨ n = 4 ∨ n = 5 ∨ n = 6 := by omega
  rcases this with h | h | h | h | h | h <;> subst h <;> rfl
/-- the quotient of a board: built, told by its place -/
theorem cb_quot {F n : Nat} {σ : jxS} {M : Nat → List Nat} (hM : MOK M) (n1 : 1 ≤ n) (n6 : n ≤ 6) (hC : CV σ M) (hB : QB σ M) (hF : 5000 ≤ F) : ∃ σ', LL1_quotientOf F σ n = some ((qid n : Int), σ') ∧ jfr (QP (qid n)) σ σ' ∧ CV σ' M ∧ QB σ' M ∧ QbC σ' M (qid n) n := by
  have hq := qid_is n1 n6
  obtain ⟨w32, w0, w7, w8⟩ := hB n n1 n6
  obtain ⟨σ', a1, a2, a3, a4⟩ := ca_build (F := F) hM hq n1 n6 hC w0 (by
    rcases w7 with h | h
    · exact Or.inl h
    · exact Or.inr ⟨(QbC_len n6 h).1, (QbC_len n6 h).2.1, (QbC_len n6 h).2.2, h⟩) hF
  refine ⟨σ', ?_, a2, a3, fun m m1 m6 => ?_, a4⟩
  · have nz : ¬ σ 32 ((n : Int) - 1) = 0 := by rw [w32]; unfold qid; omega
    rw [LL1_quotientOf, if_neg (show ¬ jw (n : Int) < 1 by unfold jw; omega), if_neg (show ¬ 6 < jw (n : Int) by unfold jw; omega), if_pos (by omega), if_neg nz, w32, jsel_qid n1 n6, a1, jbs]
  · by_cases e : m = n
    · subst e
      refine ⟨by rw [a2 32 _ (by simp only [QP, VP, qid]; omega)]; exact w32, by rw [a2 _ 0 (by simp only [QP, VP, qid]; omega)]; exact w0, Or.inr a4, ?_⟩
      unfold QCh
      rw [a2 _ 8 (by simp only [QP, VP, qid]; omega), a2 _ 9 (by simp only [QP, VP, qid]; omega)]
      exact w8
    · exact QC1_fr m6 (hB m m1 m6) a2 (fun j => by simp only [QP, VP, qid]; omega) (fun a j q1 q2 => by simp only [qid] at q1 q2; simp only [QP, VP, qid]; omega)
theorem cb_noq {F : Nat} {σ : jxS} {v : Int} (h1 : -2147483648 ≤ v) (h2 : v < 2147483648) (h : v < 1 ∨ 6 < v) : LL1_quotientOf F σ v = some (0, σ) := by
  have w : jw v = v := jw_id (by omega) (by omega)
  rw [LL1_quotientOf]
  by_cases z : v < 1
  · rw [if_pos (show jw v < 1 by rw [w]; exact z)]
  · rw [if_neg (show ¬ jw v < 1 by rw [w]; exact z), if_pos (show 6 < jw v by rw [w]; omega)]
/-- pairs and proved, kept -/
theorem cb_pairs {F n : Nat} {σ : jxS} {M : Nat → List Nat} {s : qsT} (hM : MOK M) (n1 : 1 ≤ n) (n6 : n ≤ 6) (hC : CV σ M) (hB : QB σ M) (hb : qbd M n = some s) (hQ : QK σ M (qid n) n s) (hF : 6000 ≤ F) : ∃ σ', Board_pairsOf F (qid n) σ = some (prsA s M n, σ') ∧ jfr (PQP (qid n)) σ σ' ∧ CV σ' M ∧ QB σ' M ∧ QK σ' M (qid n) n s ∧ σ' (qid n) 9 = if prsB s M n then 1 else 0 := by
  have hq := qid_is n1 n6
  obtain ⟨w32, w0, w7, w8⟩ := hB n n1 n6
  have srch : jw (σ (qid n) 8) = -9 → ∃ σ', Board_pairsOf F (qid n) σ = some (prsA s M n, σ') ∧ jfr (PQP (qid n)) σ σ' ∧ CV σ' M ∧ QB σ' M ∧ QK σ' M (qid n) n s ∧ σ' (qid n) 9 = if prsB s M n then 1 else 0 := by
    intro y
    obtain ⟨σ', a1, a2, a3, a4⟩ := ca_search (F := F) hq n1 n6 hM hC.2.1 hQ hF
    have hQ' : QK σ' M (qid n) n s := QK_fr hQ a2 (by simp only [PQP, PSP, qid]; omega) (by simp only [PQP, PSP, qid]; omega) (fun j => by simp only [PQP, PSP, qid]; omega) (fun j => by simp only [PQP, PSP, qid]; omega) (fun j => by simp only [PQP, PSP, qid]; omega)
    refine ⟨σ', ?_, a2, CV_fr2 hC a2 (fun a j h => by simp only [PQP, PSP, qid]; omega), fun m m1 m6 => ?_, hQ', a4⟩
    · rw [Board_pairsOf, if_pos y, a1, jbs]
      dsimp only
      rw [a3]
    · by_cases e : m = n
      · subst e
        exact ⟨by rw [a2 32 _ (by simp only [PQP, PSP, qid]; omega)]; exact w32, hQ'.1.1, Or.inr ((QbC_some m6 hb).mpr hQ'), Or.inr ⟨s, hb, a3, a4⟩⟩
      · exact QC1_fr m6 (hB m m1 m6) a2 (fun j => by simp only [PQP, PSP, qid]; omega) (fun a j q1 q2 => by simp only [qid] at q1 q2; simp only [PQP, PSP, qid]; omega)
  rcases w8 with h | ⟨s', hb', h8, h9⟩
  · exact srch (by rw [h]; decide)
  · rw [hb] at hb'
    injection hb' with hb'
    subst hb'
    by_cases y : jw (σ (qid n) 8) = -9
    · exact srch y
    · refine ⟨σ, ?_, jfr_refl _ _, hC, hB, hQ, h9⟩
      rw [Board_pairsOf, if_neg y, h8]
