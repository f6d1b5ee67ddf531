/-! The same, sealed: numbers that nobody unfolds. -/
noncomputable def jseal {α : Type} (x : α) : α := Classical.choose (⟨x, rfl⟩ : ∃ y, y = x)
theorem jseal_eq {α : Type} (x : α) : jseal x = x := Classical.choose_spec (⟨x, rfl⟩ : ∃ y, y = x)
noncomputable def fo (b : Nat) : Nat := jseal (fo0 b)
noncomputable def beans (c : Nat → Nat) : Nat := jseal (beans0 c)
noncomputable def rank (c : Nat → Nat) : Nat := jseal (rank0 c)
theorem fo_eq (b : Nat) : fo b = fo0 b := jseal_eq _
theorem beans_eq (c : Nat → Nat) : beans c = bn 12 c := jseal_eq _
theorem rank_eq (c : Nat → Nat) : rank c = fo0 (bn 12 c) + rwk 12 c (bn 12 c) := jseal_eq _
theorem fo_tab (b : Nat) (h : b ≤ 23) : fo b = ft b := (fo_eq b).trans (fo0_tab b h)
theorem fo_23 : fo 23 = 4224 := (fo_eq 23).trans fo0_23
theorem fo_16 : fo 16 = 677 := (fo_eq 16).trans fo0_16
theorem fo_8 : fo 8 = 45 := (fo_eq 8).trans fo0_8
theorem fo_13 : fo 13 = 272 := (fo_eq 13).trans fo0_13
theorem fo_succ (b : Nat) : fo (b + 1) = fo b + wy 12 b := by rw [fo_eq, fo_eq]; rfl
theorem fo_mono {a b : Nat} (h : a ≤ b) : fo a ≤ fo b := by rw [fo_eq, fo_eq]; exact fo0_mono h
theorem rank_lt (c : Nat → Nat) : rank c < fo (beans c + 1) := by rw [fo_eq, beans_eq, rank_eq]; exact rank0_lt c
theorem rank_ge (c : Nat → Nat) : fo (beans c) ≤ rank c := by rw [fo_eq, beans_eq, rank_eq]; exact rank0_ge c
theorem rank_onto {n p : Nat} (h : p < fo n) : ∃ c, okc c ∧ beans c < n ∧ rank c = p := by
  rw [fo_eq] at h
  obtain ⟨c, h1, h2, h3⟩ := rank0_onto h
  exact ⟨c, h1, by rw [beans_eq]; exact h2, by rw [rank_eq]; exact h3⟩
theorem rank_inj {c c' : Nat → Nat} (hc : okc c) (hc' : okc c') (h : rank c = rank c') : c = c' := by
  rw [rank_eq, rank_eq] at h
  exact rank0_inj hc hc' h
theorem rank_beans {c : Nat → Nat} {b : Nat} : rank c < fo b ↔ beans c < b := by rw [fo_eq, beans_eq, rank_eq]; exact rank0_beans
theorem beans_cad (c : Nat → Nat) {h : Nat} (h1 : 1 ≤ h) (h2 : h ≤ 12) : beans (cad c h) = beans c + h := by rw [beans_eq, beans_eq]; exact beans0_cad c h1 h2
theorem beans_csb {c : Nat → Nat} {h : Nat} (h1 : 1 ≤ h) (h2 : h ≤ 12) (hc : 0 < c h) : beans (csb c h) + h = beans c := by rw [beans_eq, beans_eq]; exact beans0_csb h1 h2 hc
theorem rank_row (c : Nat → Nat) : rank c = fo (beans c) + rwk 12 c (beans c) := by rw [fo_eq, beans_eq, rank_eq]
theorem rank_least {c : Nat → Nat} {h : Nat} (h1 : 1 ≤ h) (h2 : h ≤ 12) (hc : 0 < c h) (hl : ∀ x, 1 ≤ x → x < h → c x = 0) : rwk 12 c (beans c) = wy (12 - h) (beans c) + rwk 12 (csb c h) (beans c - h) := by rw [beans_eq]; exact rank0_least h1 h2 hc hl
theorem rank_small {c : Nat → Nat} {h : Nat} (h1 : 1 ≤ h) (h2 : h ≤ 12) (hl : ∀ x, 1 ≤ x → x ≤ h → c x = 0) : rwk 12 c (beans c) < wy (12 - h) (beans c) := by rw [beans_eq]; exact rank0_small h1 h2 hl
theorem rank_0 {c : Nat → Nat} (hc : okc c) (h : beans c = 0) : c = fun _ => 0 := by rw [beans_eq] at h; exact rank0_0 hc h
