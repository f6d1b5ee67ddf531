/-! How far a quotient stays, the reference. -/
def RSP (a : Nat) (_ : Int) : Prop := 29 ≤ a ∧ a ≤ 40
theorem RLP_S {n a : Nat} {j : Int} (h : RLP n a j) : RSP a j := by
  simp only [RLP, RQP] at h
  simp only [RSP]
  omega
theorem rst_loop {F n : Nat} {M : Nat → List Nat} {s : qsT} (hM : MOK M) (n1 : 1 ≤ n) (n6 : n ≤ 6) (hs : qbd M n = some s) (hF : 5000 ≤ F) : ∀ (k fu m : Nat) (σ : jxS), k + m = 6 → k < fu → n ≤ m → RI σ M → RLd σ M n → ∃ σ', Model_stays_c23 F fu n m σ = some ((sty M n s k m : Int), σ') ∧ jfr RSP σ σ' ∧ RI σ' M := by
  intro k
  induction k with
  | zero =>
    intro fu m σ e1 e2 nm hI hL
    obtain ⟨fu, rfl⟩ : ∃ k, fu = k + 1 := ⟨fu - 1, by omega⟩
    refine ⟨σ, ?_, jfr_refl _ _, hI⟩
    rw [Model_stays_c23, if_neg (show ¬ jw (m : Int) < 6 by unfold jw; omega)]
    rfl
  | succ k ih =>
    intro fu m σ e1 e2 nm hI hL
    obtain ⟨fu, rfl⟩ : ∃ k, fu = k + 1 := ⟨fu - 1, by omega⟩
    have m1 : 1 ≤ m + 1 := by omega
    have m6 : m + 1 ≤ 6 := by omega
    obtain ⟨i1, i2, i3, i4, i5⟩ := hI
    obtain ⟨σ1, a1, a2, a3, a4⟩ := rb_lays (F := F) m1 m6 hM i1 i2 i3 i4 hF
    rw [Int.natCast_add, Int.natCast_one] at a1
    have p1 : ∀ a j, a ≤ 18 → ¬ RLP (m + 1) a j := fun a j q2 => by simp only [RLP, RQP]; omega
    have hI1 : RI σ1 M := ⟨WT_fr i1 a2 (fun j => p1 _ _ (by omega)) (fun j => p1 _ _ (by omega)), VT_fr i2 a2 (fun a j q1 q2 => p1 _ _ (by omega)), MvM_fr i3 a2 (fun j => p1 _ _ (by omega)) (fun j => p1 _ _ (by omega)), a3, by rw [a2 0 13 (p1 _ _ (by omega))]; exact i5⟩
    have hL1 : RLd σ1 M n := RLd_fn hL a2 m6 n6 (by omega)
    obtain ⟨hQ1, b2, _, _⟩ := rb_some hs hL1
    have f1 : jfr RSP σ σ1 := jfr_mono a2 (fun a j h => RLP_S h)
    rw [Model_stays_c23, if_pos (show jw (m : Int) < 6 by unfold jw; omega), a1, jbs, sty]
    dsimp only
    cases hb : qbd M (m + 1) with
    | none =>
      have kn := rb_none (F := F) hb a4 m6
      rw [Int.natCast_add, Int.natCast_one] at kn
      refine ⟨σ1, ?_, f1, hI1⟩
      rw [kn, jbs]
      rfl
    | some s' =>
      obtain ⟨hQ2, c2, _, _⟩ := rb_some hb a4
      have kn := rb_known (F := F) hQ2 m6
      have al := rk_alike (F := F) (M := M) n6 m6 (by omega) hQ1 hQ2 b2 c2 (by omega)
      rw [Int.natCast_add, Int.natCast_one] at kn al
      rw [kn, jbs]
      dsimp only
      rw [if_neg (show ¬ jw 1 = 0 by decide), al, jbs]
      dsimp only
      cases alb M n s s'
      · refine ⟨σ1, ?_, f1, hI1⟩
        rw [if_pos (show jw (if false = true then 1 else 0) = 0 from rfl)]
        rfl
      · obtain ⟨σ2, d1, d2, d3⟩ := ih fu (m + 1) σ1 (by omega) (by omega) (by omega) hI1 hL1
        rw [Int.natCast_add, Int.natCast_one] at d1
        refine ⟨σ2, ?_, jfr_trans f1 d2, d3⟩
        rw [if_neg (show ¬ jw (if true = true then 1 else 0) = 0 by decide), d1]
        rfl
theorem rq_stays {F n : Nat} {σ : jxS} {M : Nat → List Nat} (n1 : 1 ≤ n) (n6 : n ≤ 6) (hM : MOK M) (hI : RI σ M) (hF : 5000 ≤ F) : ∃ σ', Model_stays F σ n = some (kA M n (fun s => (sty M n s (6 - n) n : Int)), σ') ∧ jfr RSP σ σ' ∧ RI σ' M := by
  obtain ⟨σ', a1, a2, a3, a4⟩ := rb_quot (F := F) n1 n6 hM hI hF
  have f1 : jfr RSP σ σ' := jfr_mono a2 (fun a j h => RLP_S h)
  rw [Model_stays, a1, jbs]
  dsimp only
  rw [if_neg (show ¬ jw 1 = 0 by decide)]
  unfold kA
  cases hb : qbd M n with
  | none =>
    refine ⟨σ', ?_, f1, a3⟩
    rw [rb_none hb a4 n6, jbs]; rfl
  | some s =>
    obtain ⟨b1, b2, b3, b4⟩ := rb_some hb a4
    obtain ⟨σ2, c1, c2, c3⟩ := rst_loop (F := F) hM n1 n6 hb hF (6 - n) F n σ' (by omega) (by omega) (Nat.le_refl _) a3 a4
    refine ⟨σ2, ?_, jfr_trans f1 c2, c3⟩
    rw [rb_known b1 n6, jbs]
    dsimp only
    rw [if_neg (show ¬ jw 1 = 0 by decide)]
    exact c1
