/-! draws -/
section DG
variable {F : Nat} {σ : jxS} {M : Nat → List Nat} {c : Nat → Nat}
noncomputable def drw (x : Nat) : Nat := jseal ((x * 1103515245 + 12345) % 2147483648)
theorem drw_eq (x : Nat) : drw x = (x * 1103515245 + 12345) % 2147483648 := jseal_eq _
noncomputable def gam (M : Nat → List Nat) (k x : Nat) (c : Nat → Nat) : Nat × Nat := match k with
  | 0 => (x, 0)
  | k + 1 => if mvt M c = 0 then (x, 0) else match pkt M c (drw x / 65536 % mvt M c) with
    | none => (x, 0)
    | some o => ((gam M k (drw x) (tgt c o.1 o.2)).1, (gam M k (drw x) (tgt c o.1 o.2)).2 + 1)
theorem gam_z {k x : Nat} (h : mvt M c = 0) : gam M k x c = (x, 0) := by
  cases k with
  | zero => rfl
  | succ k => rw [gam, if_pos h]
theorem gam_s {k x : Nat} {o : Nat × Nat} (h : ¬ mvt M c = 0) (ho : pkt M c (drw x / 65536 % mvt M c) = some o) : gam M (k + 1) x c = ((gam M k (drw x) (tgt c o.1 o.2)).1, (gam M k (drw x) (tgt c o.1 o.2)).2 + 1) := by
  rw [gam, if_neg h, ho]
theorem drw_lt (x : Nat) : drw x < 2147483648 := by rw [drw_eq]; exact Nat.mod_lt _ (by decide)
theorem gam_b : ∀ (k x : Nat) (c : Nat → Nat), x < 2147483648 → (gam M k x c).1 < 2147483648 ∧ (gam M k x c).2 ≤ k := by
  intro k
  induction k with
  | zero => intro x c h; exact ⟨h, Nat.le_refl _⟩
  | succ k ih =>
    intro x c h
    rw [gam]
    split
    · exact ⟨h, Nat.zero_le _⟩
    · split
      · exact ⟨h, Nat.zero_le _⟩
      · rename_i o _
        obtain ⟨a, b⟩ := ih (drw x) (tgt c o.1 o.2) (drw_lt x)
        exact ⟨a, by dsimp only; omega⟩
theorem drw_int (x : Nat) : (((x : Int) * 1103515245) + 12345) % 2147483648 = (drw x : Int) := by
  rw [drw_eq, Int.natCast_emod, Int.natCast_add, Int.natCast_mul]
  rfl
theorem drw_ix {x m : Nat} (hm : m ≤ 20000) : jrem (jdiv (drw x : Int) 65536) (m : Int) = ((drw x / 65536 % m : Nat) : Int) := by
  have d := drw_lt x
  generalize drw x = y at d
  have e1 : jdiv (y : Int) 65536 = ((y / 65536 : Nat) : Int) := bq_div (a := y) (d := 65536) (by omega) (by omega)
  rw [e1]
  exact bq_rem (by omega) (by omega)
end DG
