/-! line, both sides. -/
section LI
variable {F : Nat} {M : Nat → List Nat}
theorem ply_is (M : Nat → List Nat) (c : Nat → Nat) : ply M c = ob (plf M c (!los M (rank c)) none (ops M c)) := rfl
theorem pls_mem {c : Nat → Nat} {w : Bool} {L : List (Nat × Nat)} {a : Option (Nat × Nat)} {o : Nat × Nat} (ho : o ∈ L) (h : ∀ x, a = some x → ∃ q, q ∈ L ∧ x.1 = ocode q) : ∀ x, pls M c w a o = some x → ∃ q, q ∈ L ∧ x.1 = ocode q := by
  intro x hx
  unfold pls at hx
  by_cases y : (w && !lsf M c o) = true
  · rw [if_pos y] at hx; exact h x hx
  · rw [if_neg y] at hx
    cases a with
    | none => exact ⟨o, ho, by rw [← Option.some.inj hx]⟩
    | some b =>
      dsimp only at hx
      by_cases z : (if w = true then rmf M c o < b.2 else b.2 < rmf M c o)
      · rw [if_pos z] at hx; exact ⟨o, ho, by rw [← Option.some.inj hx]⟩
      · rw [if_neg z] at hx; exact h x hx
theorem plf_mem {c : Nat → Nat} {w : Bool} {L : List (Nat × Nat)} : ∀ (l : List (Nat × Nat)) (a : Option (Nat × Nat)), (∀ o, o ∈ l → o ∈ L) → (∀ x, a = some x → ∃ q, q ∈ L ∧ x.1 = ocode q) → ∀ x, plf M c w a l = some x → ∃ q, q ∈ L ∧ x.1 = ocode q := by
  intro l
  induction l with
  | nil => intro a _ h x hx; exact h x hx
  | cons o l ih =>
    intro a h1 h2 x hx
    exact ih (pls M c w a o) (fun q hq => h1 q (List.mem_cons_of_mem _ hq)) (pls_mem (h1 o (List.mem_cons_self ..)) h2) x hx
/-- the move that is played on is none, or one of the moves -/
theorem ply_cases (M : Nat → List Nat) (c : Nat → Nat) : ply M c = -1 ∨ ∃ o, o ∈ ops M c ∧ ply M c = (ocode o : Int) := by
  rw [ply_is]
  cases h : plf M c (!los M (rank c)) none (ops M c) with
  | none => exact Or.inl rfl
  | some x =>
    obtain ⟨q, q1, q2⟩ := plf_mem (L := ops M c) (ops M c) none (fun o h => h) (fun x h => by cases h) x h
    exact Or.inr ⟨q, q1, by show (x.1 : Int) = _; rw [q2]⟩
noncomputable def lnp (M : Nat → List Nat) (k : Nat) (c : Nat → Nat) : Int := match k with
  | 0 => if ply M c < 0 then -2 else ply M c
  | k + 1 => if ply M c < 0 then -2 else lnp M k (tgt c ((ply M c).toNat / 1000) ((ply M c).toNat % 1000))
theorem lnp_none {c : Nat → Nat} (h : ply M c = -1) (k : Nat) : lnp M k c = -2 := by
  cases k <;> rw [lnp, if_pos (by omega)]
theorem lnp_z {c : Nat → Nat} {n : Nat} (h : ply M c = (n : Int)) : lnp M 0 c = (n : Int) := by
  rw [lnp, if_neg (by omega), h]
theorem lnp_s {c : Nat → Nat} {n k : Nat} (h : ply M c = (n : Int)) : lnp M (k + 1) c = lnp M k (tgt c (n / 1000) (n % 1000)) := by
  rw [lnp, if_neg (by omega), h, Int.toNat_natCast]
end LI
