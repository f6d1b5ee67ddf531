/-! losers, the reference's -/
section TO
variable {F : Nat} {M : Nat → List Nat}
theorem rlo_loop {b e : Nat} {v2 : Int} {σ : jxS} (hb : b ≤ 22) (we : σ 14 ((b : Int) + 1) = (e : Int)) (e4 : e ≤ 4224) (hV : VT σ M 4224) : ∀ (n fu p : Nat) (acc fi : Int), p + n = e → n < fu → (fi = -1 ∨ (0 ≤ fi ∧ fi < 4224)) → ∃ g, Model_losers_c51 F fu b v2 acc fi p σ = Model_losers_c51 F (g + 1) b v2 (acc + (clo M n p : Int)) (if fi < 0 then flo M n p else fi) e σ := by
  intro n
  induction n with
  | zero =>
    intro fu p acc fi e1 e2 hf
    obtain ⟨fu, rfl⟩ : ∃ k, fu = k + 1 := ⟨fu - 1, by omega⟩
    refine ⟨fu, ?_⟩
    rw [clo, flo, Int.natCast_zero, Int.add_zero, show p = e by omega]
    rcases hf with rfl | hf
    · rw [if_pos (by decide)]
    · rw [if_neg (by omega)]
  | succ n ih =>
    intro fu p acc fi e1 e2 hf
    obtain ⟨fu, rfl⟩ : ∃ k, fu = k + 1 := ⟨fu - 1, by omega⟩
    have w := (hV p (by omega)).1
    have cp : 0 ≤ (p : Int) ∧ (p : Int) < 4600 := by omega
    rw [Model_losers_c51, if_pos (show 0 ≤ ((b : Int) + 1) ∧ ((b : Int) + 1) < 24 by omega), we, if_pos (show jw (p : Int) < jw (e : Int) by rw [jw_id (by omega) (by omega), jw_id (by omega) (by omega)]; omega), if_pos cp, clo, flo]
    cases hl : los M p
    · rw [hl, if_neg (by decide)] at w
      obtain ⟨g, i1⟩ := ih fu (p + 1) acc fi (by omega) (by omega) hf
      refine ⟨g, ?_⟩
      rw [if_pos (show jw (σ 15 (p : Int)) = 0 by rw [w]; rfl), if_neg (show ¬ false = true by decide), if_neg (show ¬ false = true by decide), Nat.zero_add]
      exact i1
    · rw [hl, if_pos rfl] at w
      rw [if_neg (show ¬ jw (σ 15 (p : Int)) = 0 by rw [w]; decide), if_pos (show true = true from rfl), if_pos (show true = true from rfl), Int.natCast_add, ← Int.add_assoc]
      rcases hf with rfl | hf
      · obtain ⟨g, i1⟩ := ih fu (p + 1) (acc + 1) p (by omega) (by omega) (Or.inr (by omega))
        refine ⟨g, ?_⟩
        rw [if_pos (show jw (-1) < 0 by decide), if_pos (show (-1 : Int) < 0 by decide)]
        rw [if_neg (show ¬ (p : Int) < 0 by omega)] at i1
        exact i1
      · obtain ⟨g, i1⟩ := ih fu (p + 1) (acc + 1) fi (by omega) (by omega) (Or.inr hf)
        refine ⟨g, ?_⟩
        rw [if_neg (show ¬ jw fi < 0 by rw [jw_id (by omega) (by omega)]; omega), if_neg (show ¬ fi < 0 by omega)]
        rw [if_neg (show ¬ fi < 0 by omega)] at i1
        exact i1
theorem rlo_38 {σ : jxS} {v1 v2 : Int} (h0 : 0 ≤ v1) (h22 : v1 ≤ 22) (h2 : v2 = -1 ∨ (1 ≤ v2 ∧ v2 ≤ 12)) (hW : WT σ) (hV : VT σ M 4224) (hF : 5000 ≤ F) : ∃ σ', Model_losers_c38 F v1 v2 σ = some (losA M v1 v2, σ') ∧ jfr P20 σ σ' := by
  obtain ⟨b, rfl⟩ : ∃ k : Nat, v1 = k := ⟨v1.toNat, by omega⟩
  have f1 := fo_mono (a := b) (b := b + 1) (by omega)
  have f2 := fo_le (b := b + 1) (by omega)
  have w0 := hW.2 b (by omega)
  have w1 := hW.2 (b + 1) (by omega)
  rw [show ((b + 1 : Nat) : Int) = (b : Int) + 1 by omega] at w1
  have w2 : jw v2 = v2 := jw_id (by omega) (by omega)
  obtain ⟨g, lo⟩ := rlo_loop (F := F) (v2 := v2) (b := b) (by omega) w1 f2 hV (fo (b + 1) - fo b) F (fo b) 0 (-1) (by omega) (by omega) (Or.inl rfl)
  rw [Int.zero_add, if_pos (show (-1 : Int) < 0 by decide)] at lo
  have fb := flo_b (M := M) (fo (b + 1) - fo b) (fo b)
  rw [Model_losers_c38, if_pos (by omega), w0, lo, Model_losers_c51, if_pos (show 0 ≤ ((b : Int) + 1) ∧ ((b : Int) + 1) < 24 by omega), w1, if_neg (Int.lt_irrefl _), w2, losA, if_pos (show 0 ≤ (b : Int) ∧ (b : Int) ≤ 22 ∧ (v2 = -1 ∨ (1 ≤ v2 ∧ v2 ≤ 12)) from ⟨by omega, by omega, h2⟩), Int.toNat_natCast]
  by_cases q : v2 = -1
  · rw [if_pos q, if_pos q]
    exact ⟨σ, rfl, jfr_refl _ _⟩
  · obtain ⟨σ', a1, a2⟩ := rb_told (F := F) (σ := σ) (p := flo M (fo (b + 1) - fo b) (fo b)) (h := v2) hW (by rcases fb with e | ⟨q, _, e⟩ <;> omega) (by rcases fb with e | ⟨q, _, e⟩ <;> omega) (by omega) (by omega) (by omega)
    rw [if_neg q, if_neg q, a1, jbs]
    exact ⟨σ', rfl, a2⟩
theorem rq_losers {σ : jxS} {v1 v2 : Int} (h1 : iR v1) (h2 : iR v2) (hI : RI σ M) (hF : 5000 ≤ F) : ∃ σ', Model_losers F σ v1 v2 = some (losA M v1 v2, σ') ∧ jfr P20 σ σ' := by
  obtain ⟨i1, i2, i3, i4, i5⟩ := hI
  have w1 : jw v1 = v1 := jw_id h1.1 h1.2
  have w2 : jw v2 = v2 := jw_id h2.1 h2.2
  rw [Model_losers, if_neg i5, w1, mo_isIn h1 ⟨by omega, by omega⟩ ⟨by omega, by omega⟩, jbs]
  dsimp only
  by_cases y : 0 ≤ v1 ∧ v1 ≤ 22
  · rw [if_pos y, if_neg (show ¬ jw 1 = 0 by decide), w2]
    by_cases q : v2 = -1
    · rw [if_pos q]
      exact rlo_38 y.1 y.2 (Or.inl q) i1 i2 hF
    · rw [if_neg q, mo_isIn h2 ⟨by omega, by omega⟩ ⟨by omega, by omega⟩, jbs]
      dsimp only
      by_cases z : 1 ≤ v2 ∧ v2 ≤ 12
      · rw [if_pos z, if_neg (show ¬ jw 1 = 0 by decide)]
        exact rlo_38 y.1 y.2 (Or.inr z) i1 i2 hF
      · rw [if_neg z, if_pos (show jw 0 = 0 from rfl), losA, if_neg (show ¬ (0 ≤ v1 ∧ v1 ≤ 22 ∧ (v2 = -1 ∨ (1 ≤ v2 ∧ v2 ≤ 12))) by omega)]
        exact ⟨σ, rfl, jfr_refl _ _⟩
  · rw [if_neg y, if_pos (show jw 0 = 0 from rfl), losA, if_neg (show ¬ (0 ≤ v1 ∧ v1 ≤ 22 ∧ (v2 = -1 ∨ (1 ≤ v2 ∧ v2 ≤ 12))) by omega)]
    exact ⟨σ, rfl, jfr_refl _ _⟩
end TO
