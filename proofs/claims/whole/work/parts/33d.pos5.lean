/-! counts by the tables -/
section PO2
variable {F : Nat} {σ : jxS}
theorem po_count (hP : PosOK σ) {c : Nat → Nat} {h : Nat} (hc : okc c) (hb : beans c ≤ 22) (h1 : 1 ≤ h) (h2 : h ≤ 12) (hF : 100 ≤ F) : Positions_countOf F σ (rank c) h = some ((c h : Int), σ) := by
  have key : ∀ (n fu : Nat) (d : Nat → Nat) (i : Nat), okc d → beans d ≤ 22 → d h = n → n + i = c h → n + 1 < fu → (0 < n → beans d + i ≤ 22) → Positions_countOf_c13 F fu h i (if 0 < d h then (rank (csb d h) : Int) else -1) i σ = some ((c h : Int), σ) := by
    intro n
    induction n with
    | zero =>
      intro fu d i hd hbd hn hi hfu _
      obtain ⟨fu, rfl⟩ : ∃ k, fu = k + 1 := ⟨fu - 1, by omega⟩
      have hle := count_le (c := c) h1 h2
      rw [if_neg (by omega)]
      have hi' : i = c h := by omega
      subst hi'
      simp only [Positions_countOf_c13]
      by_cases q : jw ((c h : Nat) : Int) < 22
      · rw [if_pos q, if_pos (by unfold jw; omega)]
      · rw [if_neg q]
    | succ n ih =>
      intro fu d i hd hbd hn hi hfu hbi
      obtain ⟨fu, rfl⟩ : ∃ k, fu = k + 1 := ⟨fu - 1, by omega⟩
      have hle := count_le (c := d) h1 h2
      have hpos : 0 < d h := by omega
      have b1 := beans_csb h1 h2 hpos
      have d1 : csb d h h = n := by unfold csb; rw [if_pos rfl]; omega
      have w := po_without (F := F) hP (okc_csb (h := h) hd) (by omega) h1 h2 hF
      have rt := rank_top (c := csb d h) (by omega)
      have i1 := ih fu (csb d h) (i + 1) (okc_csb hd) (by omega) d1 (by omega) (by omega) (fun _ => by have := hbi (by omega); omega)
      have hbi := hbi (by omega)
      rw [if_pos hpos]
      have e7 : ((i + 1 : Nat) : Int) = (i : Int) + 1 := by omega
      rw [e7] at i1
      simp only [Positions_countOf_c13]
      rw [if_pos (by unfold jw; omega), if_neg (by unfold jw; omega), w]
      simp only [Option.bind_some]
      exact i1
  unfold Positions_countOf
  rw [po_without hP hc hb h1 h2 hF]
  have hle := count_le (c := c) h1 h2
  have k0 := key (c h) F c 0 hc hb rfl (by omega) (by omega) (fun _ => by omega)
  simp only [Int.natCast_zero] at k0
  simp only [Option.bind_some]
  exact k0
end PO2
