theorem tr1 (F : Nat) (σ : jxS) (p : Int) (h : 0 ≤ p) (h2 : p < 4224) : Positions_isPosition F σ p = some (1, σ) := by
  grind [Positions_isPosition, jw]
theorem tr2 (F : Nat) (σ : jxS) (p : Int) (h : 0 ≤ p) (h2 : p < 4224) : Positions_firstPart F σ p = some (σ 27 p, σ) := by
  grind [Positions_firstPart, Positions_isPosition, jw]
theorem tr3 (F : Nat) (σ : jxS) (p h : Int) (h1 : 1 ≤ h) (h2 : h ≤ 12) (h3 : 0 ≤ p) (h5 : p < σ 24 (23 - h)) (h6 : σ 24 (23 - h) ≤ 4224) (h7 : 0 ≤ σ 25 h) (h8 : σ 25 h + p < 14202) : Positions_join F σ p h = some (σ 26 (σ 25 h + p), σ) := by
  grind [Positions_join, jw]
