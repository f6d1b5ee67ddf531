/-! tally, first of so many beans -/
section PO2
variable {F : Nat} {σ : jxS}
theorem po_tally (hP : PosOK σ) {c : Nat → Nat} {h : Nat} (hc : okc c) (hb : beans c ≤ 22) (h2 : h ≤ 12) (hF : 100 ≤ F) : Positions_tally F σ (rank c) h = some (if h = 0 then (beans c : Int) else (c h : Int), σ) := by
  unfold Positions_tally
  by_cases e : h = 0
  · subst e
    rw [if_pos (by unfold jw; omega), po_beans hP hb hF]
    simp only [Option.bind_some, if_true]
  · rw [if_neg (by unfold jw; omega), po_count hP hc hb (by omega) h2 hF, if_neg e]
    simp only [Option.bind_some]
theorem px_mm {b : Int} (hb : -2147483648 ≤ b) (hb2 : b ≤ 2147483647) : jmax 0 (jmin b 23) = if b < 0 then 0 else if 23 < b then 23 else b := by
  grind [jmax, jmin, jw]
theorem po_with (hP : PosOK σ) {b : Int} (hb : -2147483648 ≤ b) (hb2 : b ≤ 2147483647) {n : Nat} (hn : n ≤ 23) (he : (n : Int) = if b < 0 then 0 else if 23 < b then 23 else b) : Positions_firstWith F σ b = some ((fo n : Int), σ) := by
  have e1 := hP.1 n hn
  have e2 := px_mm hb hb2
  rw [← he] at e2
  unfold Positions_firstWith
  rw [e2, e1, if_pos (by omega)]
theorem po_withN (hP : PosOK σ) {n : Nat} (hn : n ≤ 23) : Positions_firstWith F σ (n : Int) = some ((fo n : Int), σ) := po_with hP (by omega) (by omega) hn (by rw [if_neg (by omega), if_neg (by omega)])
end PO2
