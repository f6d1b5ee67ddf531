/-! Rows for symbolic steps: reads and writes of a state, conditions, calls; states that agree but for some cells. -/
theorem jup_s (σ : jxS) (i : Nat) (k v : Int) : jup σ i k v i k = v := by simp [jup]
theorem jup_k {σ : jxS} {i : Nat} {j k v : Int} (h : j ≠ k) : jup σ i k v i j = σ i j := by simp [jup, h]
theorem jup_o {σ : jxS} {i a : Nat} {j k v : Int} (h : a ≠ i) : jup σ i k v a j = σ a j := by simp [jup, h]
theorem jlt_T {x y : Int} (h : x < y) : (x < y) = True := eq_true h
theorem jlt_F {x y : Int} (h : ¬ x < y) : (x < y) = False := eq_false h
theorem jle_T {x y : Int} (h : x ≤ y) : (x ≤ y) = True := eq_true h
theorem jle_F {x y : Int} (h : ¬ x ≤ y) : (x ≤ y) = False := eq_false h
theorem jeq_T {x y : Int} (h : x = y) : (x = y) = True := eq_true h
theorem jeq_F {x y : Int} (h : ¬ x = y) : (x = y) = False := eq_false h
theorem jbs {α β : Type} (a : α) (k : α → Option β) : (some a).bind k = k a := rfl
/-- outside the cells W nothing has changed -/
def jag (W : List Nat) (σ σ' : jxS) : Prop := ∀ a, a ∉ W → σ' a = σ a
theorem jag_refl (W : List Nat) (σ : jxS) : jag W σ σ := fun _ _ => rfl
theorem jag_trans {W : List Nat} {σ σ' σ'' : jxS} (h : jag W σ σ') (h' : jag W σ' σ'') : jag W σ σ'' := fun a ha => (h' a ha).trans (h a ha)
theorem jag_mono {W W' : List Nat} {σ σ' : jxS} (h : jag W σ σ') (hw : ∀ a, a ∈ W → a ∈ W') : jag W' σ σ' := fun a ha => h a (fun q => ha (hw a q))
theorem jag_up {W : List Nat} {σ σ' : jxS} {i : Nat} {k v : Int} (h : jag W σ σ') (hi : i ∈ W) : jag W σ (jup σ' i k v) := fun a ha => by
  have hne : a ≠ i := fun q => ha (by rw [q]; exact hi)
  rw [jup_ne hne]
  exact h a ha
theorem jag_up1 (σ : jxS) (i : Nat) (k v : Int) : jag [i] σ (jup σ i k v) := fun a ha => jup_ne (fun q => ha (by rw [q]; exact List.mem_singleton.mpr rfl))
/-- a row of numbers in a cell, from a place on -/
def jrow (σ : jxS) (i : Nat) (o n : Nat) (f : Nat → Int) : Prop := ∀ j : Nat, j < n → σ i ((o + j : Nat) : Int) = f j
/-- nothing has changed but at the places P -/
def jfr (P : Nat → Int → Prop) (σ σ' : jxS) : Prop := ∀ a j, ¬ P a j → σ' a j = σ a j
theorem jfr_refl (P : Nat → Int → Prop) (σ : jxS) : jfr P σ σ := fun _ _ _ => rfl
theorem jfr_trans {P : Nat → Int → Prop} {σ σ' σ'' : jxS} (h : jfr P σ σ') (h' : jfr P σ' σ'') : jfr P σ σ'' := fun a j hp => (h' a j hp).trans (h a j hp)
theorem jfr_mono {P Q : Nat → Int → Prop} {σ σ' : jxS} (h : jfr P σ σ') (hw : ∀ a j, P a j → Q a j) : jfr Q σ σ' := fun a j hq => h a j (fun q => hq (hw a j q))
theorem jfr_up {P : Nat → Int → Prop} {σ σ' : jxS} {i : Nat} {k v : Int} (h : jfr P σ σ') (hp : P i k) : jfr P σ (jup σ' i k v) := fun a j hq => by
  by_cases e : a = i
  · by_cases e2 : j = k
    · exact absurd (by rw [e, e2]; exact hp) hq
    · rw [e, jup_k e2, ← e]; exact h a j hq
  · rw [jup_o e]; exact h a j hq
theorem jfr_ag {P : Nat → Int → Prop} {W : List Nat} {σ σ' : jxS} (h : jag W σ σ') (hw : ∀ a j, a ∈ W → P a j) : jfr P σ σ' := fun a j hq => by
  rw [h a (fun q => hq (hw a j q))]
/-- the numbers of a list in a cell, from a place on -/
def rowL (σ : jxS) (a n : Nat) (l : List Nat) : Prop := ∀ (i x : Nat), l[i]? = some x → σ a ((n + i : Nat) : Int) = (x : Int)
theorem rowL_nil (σ : jxS) (a n : Nat) : rowL σ a n [] := fun i x h => by simp at h
theorem rowL_cons {σ : jxS} {a n x : Nat} {l : List Nat} (h : σ a (n : Int) = (x : Int)) (h' : rowL σ a (n + 1) l) : rowL σ a n (x :: l) := fun i y hy => by
  cases i with
  | zero => simp only [List.getElem?_cons_zero, Option.some.injEq] at hy; subst hy; exact h
  | succ i =>
    simp only [List.getElem?_cons_succ] at hy
    have := h' i y hy
    rw [show n + (i + 1) = n + 1 + i by omega]
    exact this
theorem rowL_app {σ : jxS} {a n : Nat} {l l' : List Nat} (h : rowL σ a n l) (h' : rowL σ a (n + l.length) l') : rowL σ a n (l ++ l') := fun i y hy => by
  by_cases q : i < l.length
  · rw [List.getElem?_append_left q] at hy; exact h i y hy
  · rw [List.getElem?_append_right (by omega)] at hy
    have := h' (i - l.length) y hy
    rw [show n + l.length + (i - l.length) = n + i by omega] at this
    exact this
theorem rowL_fr {σ σ' : jxS} {a n : Nat} {l : List Nat} (h : rowL σ a n l) (h' : ∀ i : Nat, n ≤ i → i < n + l.length → σ' a (i : Int) = σ a (i : Int)) : rowL σ' a n l := fun i y hy => by
  have := (List.getElem?_eq_some_iff.mp hy).1
  rw [h' (n + i) (by omega) (by omega)]
  exact h i y hy
