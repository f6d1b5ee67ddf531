/-! rows of the tables' readers, by plain numbers -/
section PX
variable {F : Nat} {σ : jxS}
theorem px_is {p : Int} (h : 0 ≤ p) (h2 : p < 4224) : Positions_isPosition F σ p = some (1, σ) := by
  grind [Positions_isPosition, jw]
theorem px_isno {p : Int} (h : p < 0 ∨ 4224 ≤ p) (hp : -2147483648 ≤ p) (hq : p ≤ 2147483647) : Positions_isPosition F σ p = some (0, σ) := by
  grind [Positions_isPosition, jw]
theorem px_first {p r : Int} (h : 0 ≤ p) (h2 : p < 4224) (hr : σ 27 p = r) : Positions_firstPart F σ p = some (r, σ) := by
  have := px_is (F := F) (σ := σ) h h2
  grind [Positions_firstPart, jw]
theorem px_end {p r : Int} (h : 0 ≤ p) (h2 : p < 4224) (hr : σ 27 (p + 1) = r) : Positions_endPart F σ p = some (r, σ) := by
  have := px_is (F := F) (σ := σ) h h2
  grind [Positions_endPart, jw]
theorem px_join {p h f s r : Int} (h1 : 1 ≤ h) (h2 : h ≤ 12) (h3 : 0 ≤ p) (hf : σ 24 (23 - h) = f) (hf2 : f ≤ 4224) (h5 : p < f) (hs : σ 25 h = s) (hs2 : 0 ≤ s) (h8 : s + p < 14202) (hr : σ 26 (s + p) = r) : Positions_join F σ p h = some (r, σ) := by
  grind [Positions_join, jw]
theorem px_joinN {p h f : Int} (h1 : 1 ≤ h) (h2 : h ≤ 12) (h3 : 0 ≤ p) (h4 : p < 4224) (hf : σ 24 (23 - h) = f) (hf1 : 0 ≤ f) (h5 : f ≤ p) : Positions_join F σ p h = some (-1, σ) := by
  grind [Positions_join, jw]
theorem px_join0 {p : Int} : Positions_join F σ p 0 = some (p, σ) := by
  grind [Positions_join, jw]
theorem px_66 {p h f s r : Int} (h1 : 1 ≤ h) (h2 : h ≤ 12) (h3 : 0 ≤ p) (hf : σ 24 (23 - h) = f) (hf2 : f ≤ 4224) (h5 : p < f) (hs : σ 25 h = s) (hs2 : 0 ≤ s) (h8 : s + p < 14202) (hr : σ 26 (s + p) = r) : Positions_joinMove_c66 F h p σ = some (r, σ) := by
  grind [Positions_joinMove_c66, jw]
theorem px_660 {p f : Int} (h3 : 0 ≤ p) (hf : σ 24 23 = f) (hf2 : f ≤ 4224) (h5 : p < f) : Positions_joinMove_c66 F 0 p σ = some (p, σ) := by
  grind [Positions_joinMove_c66, jw]
end PX
/-- division by a number that is written down, of what isn't below 0 -/
theorem jdv {x d : Int} (h : 0 ≤ x) (h2 : x ≤ 2147483647) (hd : jw d = d) : jdiv x d = x / d ∧ jrem x d = x % d := by
  have e := jw_id (by omega) h2
  constructor
  · rw [jdiv, e, hd, Int.tdiv_eq_ediv_of_nonneg h]
  · rw [jrem, e, hd, Int.tmod_eq_emod_of_nonneg h]
theorem jd13 {x : Int} (h : 0 ≤ x) (h2 : x ≤ 2147483647) : jdiv x 13 = x / 13 ∧ jrem x 13 = x % 13 := jdv h h2 rfl
theorem jd8192 {x : Int} (h : 0 ≤ x) (h2 : x ≤ 2147483647) : jdiv x 8192 = x / 8192 ∧ jrem x 8192 = x % 8192 := jdv h h2 rfl
theorem jd1000 {x : Int} (h : 0 ≤ x) (h2 : x ≤ 2147483647) : jdiv x 1000 = x / 1000 ∧ jrem x 1000 = x % 1000 := jdv h h2 rfl
theorem px_heap {F : Nat} {σ : jxS} {p h r : Int} (h1 : 0 ≤ p) (h2 : p < 14202) (hr : 0 ≤ r) (hr2 : r < 8192) (hh : 0 ≤ h) (hh2 : h ≤ 12) (hs : σ 28 p = 8192 * h + r) : Positions_heapOf F σ p = some (h, σ) ∧ Positions_restOf F σ p = some (r, σ) := by
  have e := jd8192 (x := 8192 * h + r) (by omega) (by omega)
  have c1 : ¬ jw p < 0 := by unfold jw; omega
  have c2 : jw p < 14202 := by unfold jw; omega
  have c3 : 0 ≤ p ∧ p < 14202 := ⟨h1, h2⟩
  simp only [Positions_heapOf, Positions_restOf, if_neg c1, if_pos c2, if_pos c3, hs, e.1, e.2]
  rw [show (8192 * h + r) / 8192 = h by omega, show (8192 * h + r) % 8192 = r by omega]
  exact ⟨rfl, rfl⟩
