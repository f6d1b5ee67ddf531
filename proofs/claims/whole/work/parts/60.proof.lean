/-! The class's proof of a quotient; the reference's quotients as it holds them. -/
theorem pin_le {s : qsT} {M : Nat → List Nat} {p : prT} : ∀ (m h : Nat) (l l' : List prT), l.length ≤ 2000 → pin s M l p m h = some l' → l'.length ≤ 2000 := by
  intro m
  induction m with
  | zero => intro h l l' hl hq; rw [pin] at hq; injection hq with hq; rw [← hq]; exact hl
  | succ m ih =>
    intro h l l' hl hq
    rw [pin] at hq
    cases hs : pst s M l p h with
    | none => rw [hs] at hq; cases hq
    | some l1 =>
      rw [hs] at hq
      refine ih (h + 1) l1 l' ?_ hq
      unfold pst at hs
      split at hs
      · injection hs with hs; rw [← hs]; exact hl
      · split at hs
        · cases hs
        · injection hs with hs
          rw [← hs, List.length_append, List.length_singleton]
          omega
theorem pout_le {s : qsT} {M : Nat → List Nat} {n : Nat} : ∀ (m i : Nat) (l l' : List prT), l.length ≤ 2000 → pout s M n l m i = some l' → l'.length ≤ 2000 := by
  intro m
  induction m with
  | zero => intro i l l' hl hq; rw [pout] at hq; injection hq with hq; rw [← hq]; exact hl
  | succ m ih =>
    intro i l l' hl hq
    rw [pout] at hq
    split at hq
    · cases hp : pin s M l (l.getD i (0, 0)) n 1 with
      | none => rw [hp] at hq; cases hq
      | some l1 =>
        rw [hp] at hq
        exact ih (i + 1) l1 l' (pin_le n 1 l l1 hl hp) hq
    · injection hq with hq; rw [← hq]; exact hl
theorem prsA_b (s : qsT) (M : Nat → List Nat) (n : Nat) : -2 ≤ prsA s M n ∧ prsA s M n ≤ 2000 := by
  unfold prsA
  cases hp : prs s M n with
  | none => exact ⟨by decide, by decide⟩
  | some l =>
    have := pout_le 2001 0 [(0, 0)] l (by decide) hp
    show -2 ≤ (l.length : Int) ∧ (l.length : Int) ≤ 2000
    omega
theorem cb_proof {F n : Nat} {σ : jxS} {M : Nat → List Nat} {s : qsT} (hM : MOK M) (n1 : 1 ≤ n) (n6 : n ≤ 6) (hC : CV σ M) (hB : QB σ M) (hb : qbd M n = some s) (hQ : QK σ M (qid n) n s) (hF : 6000 ≤ F) : ∃ σ', Board_proofOf F (qid n) σ = some (prfA s M n, σ') ∧ jfr (PQP (qid n)) σ σ' ∧ CV σ' M ∧ QB σ' M ∧ QK σ' M (qid n) n s := by
  have st := ck_steady (F := F) n6 hQ (by omega)
  obtain ⟨pl, pu⟩ := prsA_b s M n
  unfold prfA
  cases hs : stb s n
  · refine ⟨σ, ?_, jfr_refl _ _, hC, hB, hQ⟩
    rw [Board_proofOf, st, jbs, hs]
    rfl
  · obtain ⟨σ', a1, a2, a3, a4, a5, a6⟩ := cb_pairs (F := F) hM n1 n6 hC hB hb hQ hF
    refine ⟨σ', ?_, a2, a3, a4, a5⟩
    rw [Board_proofOf, st, jbs, hs]
    dsimp only
    rw [if_neg (show ¬ jw (if true = true then 1 else 0) = 0 by decide), a1, jbs]
    dsimp only
    have w : jw (prsA s M n) = prsA s M n := jw_id (by omega) (by omega)
    simp only [if_true]
    by_cases z : 0 < prsA s M n
    · rw [if_pos (show 0 < jw (prsA s M n) by rw [w]; exact z), if_pos z]
      cases hp : prsB s M n
      · rw [if_pos (show jw (σ' (qid n) 9) = 0 by rw [a6, hp]; rfl)]; rfl
      · rw [if_neg (show ¬ jw (σ' (qid n) 9) = 0 by rw [a6, hp]; decide)]; rfl
    · rw [if_neg (show ¬ 0 < jw (prsA s M n) by rw [w]; exact z), if_neg z]
/-- the reference's side -/
def RB (σ : jxS) (M : Nat → List Nat) : Prop := ∀ n : Nat, 1 ≤ n → n ≤ 6 → σ 30 n = 0 ∨ (σ 30 n = 1 ∧ RLd σ M n)
theorem RQ_fn {σ σ' : jxS} {n m : Nat} {s : qsT} (h : RQ σ m s) (f : jfr (RLP n) σ σ') (hn : n ≤ 6) (hm : m ≤ 6) (e : m ≠ n) : RQ σ' m s := by
  obtain ⟨⟨w0, w1, w2, w3⟩, w4, w5⟩ := h
  have l16 := w4.1.2
  refine ⟨⟨by rw [f 31 _ (by simp only [RLP, RQP]; omega)]; exact w0, w1, w2, fun i w hw => ?_⟩, w4, fun a b ha b1 b2 => by rw [f 33 _ (by simp only [RLP, RQP]; omega)]; exact w5 a b ha b1 b2⟩
  obtain ⟨u1, u2⟩ := w3 i w hw
  have il := (List.getElem?_eq_some_iff.mp hw).1
  exact ⟨fun h a b => by rw [f 32 _ (by simp only [RLP, RQP]; omega)]; exact u1 h a b, u2⟩
theorem RLd_fn {σ σ' : jxS} {M : Nat → List Nat} {n m : Nat} (h : RLd σ M m) (f : jfr (RLP n) σ σ') (hn : n ≤ 6) (hm : m ≤ 6) (e : m ≠ n) : RLd σ' M m := by
  unfold RLd at h ⊢
  cases hb : qbd M m with
  | none => rw [hb] at h; show σ' 31 m = -3; rw [f 31 _ (by simp only [RLP, RQP]; omega)]; exact h
  | some s =>
    rw [hb] at h
    obtain ⟨a, b, c, d⟩ := h
    exact ⟨RQ_fn a f hn hm e, by rw [f 34 _ (by simp only [RLP, RQP]; omega)]; exact b, by rw [f 35 _ (by simp only [RLP, RQP]; omega)]; exact c, by rw [f 36 _ (by simp only [RLP, RQP]; omega)]; exact d⟩
theorem rb_lays {F n : Nat} {σ : jxS} {M : Nat → List Nat} (n1 : 1 ≤ n) (n6 : n ≤ 6) (hM : MOK M) (hW : WT σ) (hV : VT σ M 4224) (hm : MvM σ M) (hB : RB σ M) (hF : 5000 ≤ F) : ∃ σ', Model_laysQuotient F σ n = some (0, σ') ∧ jfr (RLP n) σ σ' ∧ RB σ' M ∧ RLd σ' M n := by
  obtain ⟨σ', a1, a2, a3, a4⟩ := rk_lays (F := F) n1 n6 hM hW hV hm (hB n n1 n6) hF
  refine ⟨σ', a1, a2, fun m m1 m6 => ?_, a4⟩
  by_cases e : m = n
  · subst e; exact Or.inr ⟨a3, a4⟩
  · rcases hB m m1 m6 with h | ⟨h, h'⟩
    · left; rw [a2 30 _ (by simp only [RLP, RQP]; omega)]; exact h
    · right; exact ⟨by rw [a2 30 _ (by simp only [RLP, RQP]; omega)]; exact h, RLd_fn h' a2 n6 m6 e⟩
