/-! counts -/
section PO2
variable {F : Nat} {σ : jxS}
theorem heap_le {c : Nat → Nat} {h : Nat} (h1 : 1 ≤ h) (h2 : h ≤ 12) : c h * h ≤ beans c := by
  have key : ∀ k, k ≤ 12 → 12 - k < h → c h * h ≤ bn k c := by
    intro k
    induction k with
    | zero => intro _ q; omega
    | succ k ih =>
      intro hk q
      simp only [bn]
      by_cases e : 12 - k = h
      · rw [e, Nat.mul_comm]; omega
      · have := ih (by omega) (by omega); omega
  rw [beans_eq]
  exact key 12 (Nat.le_refl _) (by omega)
theorem count_le {c : Nat → Nat} {h : Nat} (h1 : 1 ≤ h) (h2 : h ≤ 12) : c h ≤ beans c := by
  have := heap_le (c := c) h1 h2
  have h3 : c h * 1 ≤ c h * h := Nat.mul_le_mul_left _ h1
  omega
end PO2
