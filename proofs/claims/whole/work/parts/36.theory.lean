/-! Least and greatest of rows, the least number that is missing, tables that are laid from the least number on. -/
theorem lst_ex {P : Nat → Prop} (h : ∃ n, P n) : ∃ n, P n ∧ ∀ m, m < n → ¬ P m := by
  obtain ⟨n, hn⟩ := h
  induction n using Nat.strongRecOn with
  | ind n ih =>
    by_cases q : ∃ m, m < n ∧ P m
    · obtain ⟨m, h1, h2⟩ := q
      exact ih m h1 h2
    · exact ⟨n, hn, fun m h1 h2 => q ⟨m, h1, h2⟩⟩
theorem out_ex (l : List Nat) : ∃ n, n ∉ l := by
  have key : ∀ l : List Nat, ∃ n, ∀ x, x ∈ l → x < n := by
    intro l
    induction l with
    | nil => exact ⟨0, fun x hx => by simp at hx⟩
    | cons a l ih =>
      obtain ⟨n, hn⟩ := ih
      refine ⟨n + a + 1, fun x hx => ?_⟩
      rcases List.mem_cons.mp hx with q | q
      · omega
      · have := hn x q; omega
  obtain ⟨n, hn⟩ := key l
  exact ⟨n, fun q => Nat.lt_irrefl n (hn n q)⟩
/-- the least number that a row doesn't have -/
noncomputable def mex (l : List Nat) : Nat := Classical.choose (lst_ex (out_ex l))
theorem mex_out (l : List Nat) : mex l ∉ l := (Classical.choose_spec (lst_ex (out_ex l))).1
theorem mex_in {l : List Nat} {m : Nat} (h : m < mex l) : m ∈ l := Classical.byContradiction fun q => (Classical.choose_spec (lst_ex (out_ex l))).2 m h q
theorem mex_is {l : List Nat} {n : Nat} (h1 : n ∉ l) (h2 : ∀ m, m < n → m ∈ l) : mex l = n := by
  rcases Nat.lt_trichotomy (mex l) n with q | q | q
  · exact absurd (h2 _ q) (mex_out l)
  · exact q
  · exact absurd (mex_in q) h1
theorem mex_le {l : List Nat} {b : Nat} (h : ∀ x, x ∈ l → x < b) : mex l ≤ b := by
  by_cases q : mex l ≤ b
  · exact q
  · exact absurd (h b (mex_in (by omega))) (Nat.lt_irrefl b)
theorem mex_congr {l l' : List Nat} (h : ∀ x, x ∈ l ↔ x ∈ l') : mex l = mex l' := mex_is (fun q => mex_out l' ((h _).mp q)) (fun m hm => (h m).mpr (mex_in hm))
/-- the least of a row, going on from a (b: a is one of them) -/
def mnf (b : Bool) (a : Nat) (l : List Nat) : Nat := match l with
  | [] => a
  | x :: t => mnf true (if b = false ∨ x < a then x else a) t
def mxf (a : Nat) (l : List Nat) : Nat := match l with
  | [] => a
  | x :: t => mxf (if a < x then x else a) t
theorem mxf_ge (l : List Nat) : ∀ a, a ≤ mxf a l := by
  induction l with
  | nil => intro a; exact Nat.le_refl _
  | cons x l ih =>
    intro a
    have hz : a ≤ (if a < x then x else a) := by split <;> omega
    exact Nat.le_trans hz (ih _)
theorem mxf_le {l : List Nat} {b : Nat} (h : ∀ x, x ∈ l → x ≤ b) : ∀ a, a ≤ b → mxf a l ≤ b := by
  induction l with
  | nil => intro a ha; exact ha
  | cons x l ih =>
    intro a ha
    simp only [mxf]
    have hx := h x (List.mem_cons_self ..)
    exact ih (fun y hy => h y (List.mem_cons_of_mem _ hy)) _ (by split <;> omega)
theorem mxf_mem {l : List Nat} : ∀ {a x : Nat}, x ∈ l → x ≤ mxf a l := by
  induction l with
  | nil => intro a x h; simp at h
  | cons y l ih =>
    intro a x h
    simp only [mxf]
    rcases List.mem_cons.mp h with q | q
    · subst q
      have hz : x ≤ (if a < x then x else a) := by split <;> omega
      exact Nat.le_trans hz (mxf_ge l _)
    · exact ih q
theorem mnf_le {l : List Nat} {b : Nat} (h : ∀ x, x ∈ l → x ≤ b) : ∀ (f : Bool) (a : Nat), a ≤ b → mnf f a l ≤ b := by
  induction l with
  | nil => intro f a ha; exact ha
  | cons x l ih =>
    intro f a ha
    simp only [mnf]
    have hx := h x (List.mem_cons_self ..)
    exact ih (fun y hy => h y (List.mem_cons_of_mem _ hy)) _ _ (by split <;> omega)
/-- the least: all are as great, and it is one -/
theorem mnf_true (l : List Nat) : ∀ a, (mnf true a l = a ∨ mnf true a l ∈ l) ∧ mnf true a l ≤ a ∧ ∀ x, x ∈ l → mnf true a l ≤ x := by
  induction l with
  | nil => intro a; exact ⟨Or.inl rfl, Nat.le_refl _, fun x hx => by simp at hx⟩
  | cons y l ih =>
    intro a
    obtain ⟨h1, h2, h3⟩ := ih (if y < a then y else a)
    have e : mnf true a (y :: l) = mnf true (if y < a then y else a) l := by simp [mnf]
    rw [e]
    refine ⟨?_, ?_, ?_⟩
    · rcases h1 with q | q
      · rw [q]
        by_cases w : y < a
        · rw [if_pos w]; exact Or.inr (List.mem_cons_self ..)
        · rw [if_neg w]; exact Or.inl rfl
      · exact Or.inr (List.mem_cons_of_mem _ q)
    · have hz : (if y < a then y else a) ≤ a := by split <;> omega
      exact Nat.le_trans h2 hz
    · intro x hx
      rcases List.mem_cons.mp hx with q | q
      · subst q
        have hz : (if x < a then x else a) ≤ x := by split <;> omega
        exact Nat.le_trans h2 hz
      · exact h3 x q
theorem mnf_false {l : List Nat} (hl : l ≠ []) (a : Nat) : mnf false a l ∈ l ∧ ∀ x, x ∈ l → mnf false a l ≤ x := by
  match l, hl with
  | y :: l, _ =>
    have e : mnf false a (y :: l) = mnf true y l := by simp [mnf]
    obtain ⟨h1, h2, h3⟩ := mnf_true l y
    rw [e]
    refine ⟨?_, fun x hx => ?_⟩
    · rcases h1 with q | q
      · rw [q]; exact List.mem_cons_self ..
      · exact List.mem_cons_of_mem _ q
    · rcases List.mem_cons.mp hx with q | q
      · subst q; exact h2
      · exact h3 x q
theorem mn_is {l : List Nat} {a n : Nat} (h1 : n ∈ l) (h2 : ∀ x, x ∈ l → n ≤ x) : mnf false a l = n := by
  obtain ⟨g1, g2⟩ := mnf_false (l := l) (fun q => by rw [q] at h1; simp at h1) a
  have := g2 n h1
  have := h2 _ g1
  omega
theorem mnt_is {l : List Nat} {a n : Nat} (h1 : n ∈ l) (h2 : ∀ x, x ∈ l → n ≤ x) (h3 : n ≤ a) : mnf true a l = n := by
  obtain ⟨g1, g2, g3⟩ := mnf_true l a
  have := g3 n h1
  rcases g1 with q | q
  · omega
  · have := h2 _ q; omega
theorem mx_is {l : List Nat} {a n : Nat} (h1 : n ∈ l ∨ n = a) (h2 : ∀ x, x ∈ l → x ≤ n) (h3 : a ≤ n) : mxf a l = n := by
  have g1 := mxf_le h2 a h3
  rcases h1 with q | q
  · have := mxf_mem (a := a) q; omega
  · have := mxf_ge l a; omega
/-- a table laid from the least number on -/
def rcd {X : Type} (d : X) (J : Nat → (Nat → X) → X) (n : Nat) : Nat → X := match n with
  | 0 => fun _ => d
  | n + 1 => fun p => if p = n then J n (rcd d J n) else rcd d J n p
noncomputable def rc {X : Type} (d : X) (J : Nat → (Nat → X) → X) (p : Nat) : X := jseal (rcd d J (p + 1) p)
theorem rcd_st {X : Type} (d : X) (J : Nat → (Nat → X) → X) (p : Nat) : ∀ n, p < n → rcd d J n p = rc d J p := by
  intro n
  induction n with
  | zero => intro h; omega
  | succ n ih =>
    intro h
    by_cases e : p = n
    · subst e; rw [rc, jseal_eq]
    · simp only [rcd, if_neg e]
      exact ih (by omega)
theorem rc_eq {X : Type} (d : X) (J : Nat → (Nat → X) → X) (hJ : ∀ p f g, (∀ q, q < p → f q = g q) → J p f = J p g) (p : Nat) : rc d J p = J p (rc d J) := by
  rw [rc, jseal_eq]
  show (if p = p then J p (rcd d J p) else rcd d J p p) = _
  rw [if_pos rfl]
  exact hJ p _ _ (fun q hq => rcd_st d J q p hq)
