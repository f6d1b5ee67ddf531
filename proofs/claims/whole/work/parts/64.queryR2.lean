/-! The reference's questions about a quotient: next, powers, words. -/
section RQ2
variable {F n : Nat} {σ : jxS} {M : Nat → List Nat}
theorem rq_nextQ {v2 v3 : Int} (h2 : iR v2) (h3 : iR v3) (n1 : 1 ≤ n) (n6 : n ≤ 6) (hM : MOK M) (hI : RI σ M) (hF : 5000 ≤ F) : ∃ σ', Model_next_IIII F σ n v2 v3 = some (if 1 ≤ v3 ∧ v3 ≤ (n : Int) then kA M n (nxA v2 v3) else -1, σ') ∧ jfr (RLP n) σ σ' ∧ RI σ' M := by
  obtain ⟨σ', a1, a2, a3, a4⟩ := rb_quot (F := F) n1 n6 hM hI hF
  have w3 : jw v3 = v3 := jw_id h3.1 h3.2
  have wn : jw (n : Int) = (n : Int) := jw_id (by omega) (by omega)
  refine ⟨σ', ?_, a2, a3⟩
  rw [Model_next_IIII, a1, jbs]
  dsimp only
  rw [if_neg (show ¬ jw 1 = 0 by decide), w3, wn, mo_isIn h3 ⟨by decide, by decide⟩ (iR_n n6), jbs]
  dsimp only
  by_cases y : 1 ≤ v3 ∧ v3 ≤ (n : Int)
  · rw [if_pos y, if_pos y, if_neg (show ¬ jw 1 = 0 by decide)]
    unfold kA
    cases hb : qbd M n with
    | none => rw [rb_none hb a4 n6, jbs]; rfl
    | some s =>
      obtain ⟨hQ, b2, b3, b4⟩ := rb_some hb a4
      rw [rb_known hQ n6, jbs]
      dsimp only
      rw [if_neg (show ¬ jw 1 = 0 by decide), rb_has hQ n6 h2, jbs]
      dsimp only
      unfold nxA
      by_cases x : 0 ≤ v2 ∧ v2 < (s.1.length : Int)
      · obtain ⟨x2, rfl⟩ : ∃ k : Nat, v2 = k := ⟨v2.toNat, by omega⟩
        obtain ⟨x3, rfl⟩ : ∃ k : Nat, v3 = k := ⟨v3.toNat, by omega⟩
        rw [if_pos x, if_neg (show ¬ jw 1 = 0 by decide), rq_next n6 hQ (by omega) (by omega) (by omega), jbs, if_pos x]
        rfl
      · rw [if_neg x, if_pos (show jw 0 = 0 from rfl), if_neg x]
  · rw [if_neg y, if_neg y, if_pos (show jw 0 = 0 from rfl)]
theorem rq_powerQ {v2 v3 : Int} (h2 : iR v2) (h3 : iR v3) (n1 : 1 ≤ n) (n6 : n ≤ 6) (hM : MOK M) (hI : RI σ M) (hF : 5000 ≤ F) : ∃ σ', Model_power F σ n v2 v3 = some (if 0 ≤ v3 ∧ v3 ≤ 1 then kA M n (poA n v2 v3) else -1, σ') ∧ jfr (fun a j => RLP n a j ∨ a = 41) σ σ' ∧ RI σ' M := by
  obtain ⟨σ', a1, a2, a3, a4⟩ := rb_quot (F := F) n1 n6 hM hI hF
  have w3 : jw v3 = v3 := jw_id h3.1 h3.2
  have f1 : jfr (fun a j => RLP n a j ∨ a = 41) σ σ' := jfr_mono a2 (fun a j h => Or.inl h)
  rw [Model_power, a1, jbs]
  dsimp only
  rw [if_neg (show ¬ jw 1 = 0 by decide), w3, mo_isIn h3 ⟨by decide, by decide⟩ ⟨by decide, by decide⟩, jbs]
  dsimp only
  by_cases y : 0 ≤ v3 ∧ v3 ≤ 1
  · rw [if_pos y, if_pos y, if_neg (show ¬ jw 1 = 0 by decide)]
    unfold kA
    cases hb : qbd M n with
    | none =>
      refine ⟨σ', ?_, f1, a3⟩
      rw [rb_none hb a4 n6, jbs]; rfl
    | some s =>
      obtain ⟨hQ, b2, b3, b4⟩ := rb_some hb a4
      rw [rb_known hQ n6, jbs]
      dsimp only
      rw [if_neg (show ¬ jw 1 = 0 by decide), rb_has hQ n6 h2, jbs]
      dsimp only
      unfold poA
      by_cases x : 0 ≤ v2 ∧ v2 < (s.1.length : Int)
      · obtain ⟨x2, rfl⟩ : ∃ k : Nat, v2 = k := ⟨v2.toNat, by omega⟩
        obtain ⟨σ2, c1, c2⟩ := rk_power (F := F) (e := x2) (v := v3) n1 n6 hQ (by omega) (by omega) hF
        refine ⟨σ2, ?_, jfr_trans f1 (jfr_mono c2 (fun a j h => Or.inr h)), RI_fr a3 c2 (by omega) (fun a j q1 q2 => by omega) (fun a j q1 q2 => by omega)⟩
        rw [if_pos x, if_neg (show ¬ jw 1 = 0 by decide), if_pos x]
        exact c1
      · refine ⟨σ', ?_, f1, a3⟩
        rw [if_neg x, if_pos (show jw 0 = 0 from rfl), if_neg x]
  · refine ⟨σ', ?_, f1, a3⟩
    rw [if_neg y, if_neg y, if_pos (show jw 0 = 0 from rfl)]
theorem rq_word {v2 v3 : Int} (h2 : iR v2) (h3 : iR v3) (n1 : 1 ≤ n) (n6 : n ≤ 6) (hM : MOK M) (hI : RI σ M) (hF : 5000 ≤ F) : ∃ σ', Model_word F σ n v2 v3 = some (if 0 ≤ v3 ∧ v3 ≤ (n : Int) then kA M n (woA v2 v3) else -1, σ') ∧ jfr (fun a j => RLP n a j ∨ a = 38) σ σ' ∧ RI σ' M := by
  obtain ⟨σ', a1, a2, a3, a4⟩ := rb_quot (F := F) n1 n6 hM hI hF
  have w3 : jw v3 = v3 := jw_id h3.1 h3.2
  have wn : jw (n : Int) = (n : Int) := jw_id (by omega) (by omega)
  have f1 : jfr (fun a j => RLP n a j ∨ a = 38) σ σ' := jfr_mono a2 (fun a j h => Or.inl h)
  rw [Model_word, a1, jbs]
  dsimp only
  rw [if_neg (show ¬ jw 1 = 0 by decide), w3, wn, mo_isIn h3 ⟨by decide, by decide⟩ (iR_n n6), jbs]
  dsimp only
  by_cases y : 0 ≤ v3 ∧ v3 ≤ (n : Int)
  · rw [if_pos y, if_pos y, if_neg (show ¬ jw 1 = 0 by decide)]
    unfold kA
    cases hb : qbd M n with
    | none =>
      refine ⟨σ', ?_, f1, a3⟩
      rw [rb_none hb a4 n6, jbs]; rfl
    | some s =>
      obtain ⟨hQ, b2, b3, b4⟩ := rb_some hb a4
      rw [rb_known hQ n6, jbs]
      dsimp only
      rw [if_neg (show ¬ jw 1 = 0 by decide), rb_has hQ n6 h2, jbs]
      dsimp only
      unfold woA
      by_cases x : 0 ≤ v2 ∧ v2 < (s.1.length : Int)
      · obtain ⟨x2, rfl⟩ : ∃ k : Nat, v2 = k := ⟨v2.toNat, by omega⟩
        obtain ⟨x3, rfl⟩ : ∃ k : Nat, v3 = k := ⟨v3.toNat, by omega⟩
        have l16 := hQ.2.1.1.2
        have el : x2 < s.1.length := by omega
        have ge := getD_at el
        obtain ⟨u1, u2⟩ := hQ.1.2.2.2 x2 _ ge
        obtain ⟨σ2, t1, t2, t3⟩ := rk_takes (F := F) n1 n6 (show x2 < 16 by omega) u1 u2 (by omega)
        refine ⟨σ2, ?_, jfr_trans f1 (jfr_mono t2 (fun a j h => Or.inr h)), RI_fr a3 t2 (by omega) (fun a j q1 q2 => by omega) (fun a j q1 q2 => by omega)⟩
        rw [if_pos x, if_neg (show ¬ jw 1 = 0 by decide), t1, jbs, if_pos x]
        dsimp only
        by_cases z : x3 = 0
        · subst z
          rw [if_pos (show ((0 : Nat) : Int) = 0 from rfl), mo_beans t3 (by omega), jbs]
          rfl
        · have z2 : ¬ (x3 : Int).toNat = 0 := by omega
          rw [if_neg (show ¬ (x3 : Int) = 0 by omega), if_pos (show 0 ≤ (x3 : Int) ∧ (x3 : Int) < 13 by omega), t3 x3 (by omega) (by omega), if_neg z2]
          rfl
      · refine ⟨σ', ?_, f1, a3⟩
        rw [if_neg x, if_pos (show jw 0 = 0 from rfl), if_neg x]
  · refine ⟨σ', ?_, f1, a3⟩
    rw [if_neg y, if_neg y, if_pos (show jw 0 = 0 from rfl)]
end RQ2
