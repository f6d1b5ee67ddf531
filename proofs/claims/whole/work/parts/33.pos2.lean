/-! The class's tables of positions: beans, counts. -/
section PO2
variable {F : Nat} {σ : jxS}
theorem po_beans (hP : PosOK σ) {c : Nat → Nat} (hb : beans c ≤ 22) (hF : 100 ≤ F) : Positions_beansOf F σ (rank c) = some ((beans c : Int), σ) := by
  have e4 := rank_top hb
  have key : ∀ (n fu v : Nat), n + v = beans c → n < fu → Positions_beansOf_c4 F fu (rank c) v ((v + 1 : Nat) : Int) σ = some ((beans c : Int), σ) := by
    intro n
    induction n with
    | zero =>
      intro fu v h1 h2
      obtain ⟨fu, rfl⟩ : ∃ k, fu = k + 1 := ⟨fu - 1, by omega⟩
      have hv : v = beans c := by omega
      subst hv
      have r1 := rank_lt c
      simp only [Positions_beansOf_c4]
      by_cases h22 : beans c = 22
      · rw [if_pos (by unfold jw; omega)]
      · have e1 := hP.1 (beans c + 1) (by omega)
        have e6 := fo_le (show beans c + 1 ≤ 23 by omega)
        rw [if_neg (by unfold jw; omega), if_pos (by omega), e1, if_pos (by unfold jw; omega)]
    | succ n ih =>
      intro fu v h1 h2
      obtain ⟨fu, rfl⟩ : ∃ k, fu = k + 1 := ⟨fu - 1, by omega⟩
      have e1 := hP.1 (v + 1) (by omega)
      have e6 := fo_le (show v + 1 ≤ 23 by omega)
      have r1 := rank_ge c
      have r2 := fo_mono (show v + 1 ≤ beans c by omega)
      have i1 := ih fu (v + 1) (by omega) (by omega)
      have e7 : ((v + 1 + 1 : Nat) : Int) = ((v + 1 : Nat) : Int) + 1 := by omega
      rw [e7] at i1
      simp only [Positions_beansOf_c4]
      rw [if_neg (by unfold jw; omega), if_pos (by omega), e1, if_neg (by unfold jw; omega)]
      exact i1
  have := key (beans c) F 0 (by omega) (by omega)
  exact this
end PO2
