/-! a heap taken out -/
section PO2
variable {F : Nat} {σ : jxS}
theorem px_without {p : Int} {h b L : Nat} {l : List Nat} {f : Nat → Nat} (hL : L = l.length) (hE : Positions_endPart F σ p = some (((b + L : Nat) : Int), σ)) (hb : b + L ≤ 14202) (h2 : h ≤ 12) (hg : ∀ g, g ∈ l → g ≤ 12) (hH : ∀ j g : Nat, l[j]? = some g → Positions_heapOf F σ ((b + j : Nat) : Int) = some ((g : Int), σ) ∧ Positions_restOf F σ ((b + j : Nat) : Int) = some ((f g : Int), σ)) : ∀ (n fu j : Nat), n + j = L → n < fu → (∀ i, i < j → l[i]? ≠ some h) → Positions_without_c6 F fu p h ((b + j : Nat) : Int) σ = some (if h ∈ l then (f h : Int) else -1, σ) := by
  intro n
  induction n with
  | zero =>
    intro fu j h3 h4 h5
    obtain ⟨fu, rfl⟩ : ∃ k, fu = k + 1 := ⟨fu - 1, by omega⟩
    have hno : ¬ h ∈ l := by
      intro q
      obtain ⟨i, hi⟩ := List.getElem?_of_mem q
      exact h5 i (by have := (List.getElem?_eq_some_iff.mp hi).1; omega) hi
    rw [if_neg hno, Positions_without_c6, hE, Option.bind_some]
    dsimp only
    rw [if_neg (by unfold jw; omega)]
  | succ n ih =>
    intro fu j h3 h4 h5
    obtain ⟨fu, rfl⟩ : ∃ k, fu = k + 1 := ⟨fu - 1, by omega⟩
    obtain ⟨g, hgj⟩ : ∃ g, l[j]? = some g := ⟨_, List.getElem?_eq_getElem (by omega)⟩
    obtain ⟨p1, p2⟩ := hH j g hgj
    have g2 := hg g (List.mem_of_getElem? hgj)
    rw [Positions_without_c6, hE, Option.bind_some]
    dsimp only
    rw [if_pos (by unfold jw; omega), p1, Option.bind_some]
    dsimp only
    by_cases e : g = h
    · subst e
      rw [if_pos rfl, p2, if_pos (List.mem_of_getElem? hgj)]
      rfl
    · rw [if_neg (by unfold jw; omega)]
      have i1 := ih fu (j + 1) (by omega) (by omega) (fun i hi => by
        by_cases hij : i = j
        · subst hij; rw [hgj]; intro q; exact e (Option.some.inj q)
        · exact h5 i (by omega))
      have e7 : ((b + (j + 1) : Nat) : Int) = ((b + j : Nat) : Int) + 1 := by omega
      rw [e7] at i1
      exact i1
theorem ps_all (hP : PosOK σ) {c : Nat → Nat} (hc : okc c) (hb : beans c ≤ 22) : ps (rank c) + (dh c).length ≤ 14202 := by
  have h1 := ps_succ hc hb
  have h2 := ps_mono (show rank c + 1 ≤ 4224 from rank_top hb)
  have h3 := hP.2.2.2.2.2
  rw [h1] at h2
  exact Nat.le_trans h2 h3
theorem po_without (hP : PosOK σ) {c : Nat → Nat} {h : Nat} (hc : okc c) (hb : beans c ≤ 22) (h1 : 1 ≤ h) (h2 : h ≤ 12) (hF : 100 ≤ F) : Positions_without F σ (rank c) h = some (if 0 < c h then (rank (csb c h) : Int) else -1, σ) := by
  have hl := dh_len c
  have k := px_without (F := F) (σ := σ) (p := (rank c : Int)) (h := h) (b := ps (rank c)) (L := (dh c).length) (l := dh c) (f := fun g => rank (csb c g)) rfl (po_end hP hc hb) (ps_all hP hc hb) h2 (fun g hg => (dh_mem.mp hg).1.2) (fun j g hj => po_heap hP hc hb hj) (dh c).length F 0 (Nat.add_zero _) (Nat.lt_of_le_of_lt hl (Nat.lt_of_lt_of_le (by decide) hF)) (fun i hi => absurd hi (Nat.not_lt_zero i))
  rw [Nat.add_zero] at k
  rw [Positions_without, po_first hP hb]
  refine Eq.trans k ?_
  by_cases q : 0 < c h
  · rw [if_pos q, if_pos (dh_mem.mpr ⟨⟨h1, h2⟩, q⟩)]
  · rw [if_neg q, if_neg (fun w => q (dh_mem.mp w).2)]
end PO2
