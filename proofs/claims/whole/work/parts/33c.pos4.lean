/-! counts -/
theorem bn_ge (c : Nat → Nat) {h : Nat} (h2 : h ≤ 12) : ∀ k, k ≤ 12 → 12 - k < h → h * c h ≤ bn k c := by
  intro k
  induction k with
  | zero => intro _ q; omega
  | succ k ih =>
    intro hk q
    show h * c h ≤ (12 - k) * c (12 - k) + bn k c
    by_cases e : 12 - k = h
    · rw [e]; exact Nat.le_add_right _ _
    · exact Nat.le_trans (ih (by omega) (by omega)) (Nat.le_add_left _ _)
theorem heap_le {c : Nat → Nat} {h : Nat} (h1 : 1 ≤ h) (h2 : h ≤ 12) : h * c h ≤ beans c := by
  rw [beans_eq]
  exact bn_ge c h2 12 (Nat.le_refl _) (by omega)
theorem count_le {c : Nat → Nat} {h : Nat} (h1 : 1 ≤ h) (h2 : h ≤ 12) : c h ≤ beans c :=
  Nat.le_trans (Nat.le_mul_of_pos_left _ h1) (heap_le h1 h2)
