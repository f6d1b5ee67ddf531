/-! a heap taken out -/
section PO2
variable {F : Nat} {σ : jxS}
theorem po_without (hP : PosOK σ) {c : Nat → Nat} {h : Nat} (hc : okc c) (hb : beans c ≤ 22) (h1 : 1 ≤ h) (h2 : h ≤ 12) (hF : 100 ≤ F) : Positions_without F σ (rank c) h = some (if 0 < c h then (rank (csb c h) : Int) else -1, σ) := by
  have e4 := rank_top hb
  have eE := po_end (F := F) hP hc hb
  have hl := dh_len c
  have hps : ps (rank c) + (dh c).length ≤ 14202 := by
    have h1 := ps_succ hc hb
    have h2 := ps_mono (show rank c + 1 ≤ 4224 from rank_top hb)
    have h3 := hP.2.2.2.2.2
    omega
  have key : ∀ (n fu j : Nat), n + j = (dh c).length → n < fu → (∀ i, i < j → (dh c)[i]? ≠ some h) → Positions_without_c6 F fu (rank c) h ((ps (rank c) + j : Nat) : Int) σ = some (if 0 < c h then (rank (csb c h) : Int) else -1, σ) := by
    intro n
    induction n with
    | zero =>
      intro fu j h3 h4 h5
      obtain ⟨fu, rfl⟩ : ∃ k, fu = k + 1 := ⟨fu - 1, by omega⟩
      have hno : ¬ 0 < c h := by
        intro q
        obtain ⟨i, hi⟩ := List.getElem?_of_mem (dh_mem.mpr ⟨⟨h1, h2⟩, q⟩)
        exact h5 i (by have := (List.getElem?_eq_some_iff.mp hi).1; omega) hi
      rw [if_neg hno]
      simp only [Positions_without_c6, eE, Option.bind_some]
      rw [if_neg (by unfold jw; omega)]
    | succ n ih =>
      intro fu j h3 h4 h5
      obtain ⟨fu, rfl⟩ : ∃ k, fu = k + 1 := ⟨fu - 1, by omega⟩
      obtain ⟨g, hg⟩ : ∃ g, (dh c)[j]? = some g := ⟨_, List.getElem?_eq_getElem (by omega)⟩
      obtain ⟨p1, p2⟩ := po_heap (F := F) hP hc hb hg
      obtain ⟨⟨g1, g2⟩, g3⟩ := dh_mem.mp (List.mem_of_getElem? hg)
      simp only [Positions_without_c6, eE, Option.bind_some]
      rw [if_pos (by unfold jw; omega), p1]
      simp only [Option.bind_some]
      by_cases e : g = h
      · subst e
        rw [if_pos rfl, p2, if_pos g3]
        simp only [Option.bind_some]
      · rw [if_neg (by unfold jw; omega)]
        have i1 := ih fu (j + 1) (by omega) (by omega) (fun i hi => by
          by_cases hij : i = j
          · subst hij; rw [hg]; intro q; exact e (Option.some.inj q)
          · exact h5 i (by omega))
        have e7 : ((ps (rank c) + (j + 1) : Nat) : Int) = ((ps (rank c) + j : Nat) : Int) + 1 := by omega
        rw [e7] at i1
        exact i1
  have k0 := key (dh c).length F 0 (Nat.add_zero _) (by omega) (fun i hi => absurd hi (Nat.not_lt_zero i))
  rw [Nat.add_zero] at k0
  unfold Positions_without
  rw [po_first hP hb]
  simp only [Option.bind_some]
  exact k0
end PO2
