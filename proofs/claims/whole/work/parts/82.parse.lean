/-! The text: what is read of it (the spec). -/
def bt (l : List Nat) (k : Nat) : Int := match l[k]? with
  | some b => (b : Int)
  | none => -1
theorem bt_in {l : List Nat} {k : Nat} (h : bt l k ≠ -1) : k < l.length := by
  unfold bt at h
  cases e : l[k]? with
  | none => rw [e] at h; exact absurd rfl h
  | some b => exact (List.getElem?_eq_some_iff.mp e).1
theorem bt_out {l : List Nat} {k : Nat} (h : l.length ≤ k) : bt l k = -1 := by
  unfold bt
  rw [List.getElem?_eq_none_iff.mpr h]
theorem bt_b {l : List Nat} {k : Nat} (hl : ∀ b, b ∈ l → b < 256) : -1 ≤ bt l k ∧ bt l k < 256 := by
  unfold bt
  cases e : l[k]? with
  | none => dsimp only; omega
  | some b =>
    have := hl b (List.mem_of_getElem? e)
    dsimp only
    omega
theorem bt_no {l : List Nat} {k : Nat} (hk : k < l.length) : bt l k ≠ -1 := by
  unfold bt
  rw [List.getElem?_eq_getElem hk]
  dsimp only
  omega
/-- past blanks -/
def skn (l : List Nat) (f k : Nat) : Nat := match f with
  | 0 => k
  | f + 1 => if bt l k = 32 then skn l f (k + 1) else k
theorem skn_st {l : List Nat} : ∀ f g k, l.length ≤ k + f → l.length ≤ k + g → skn l f k = skn l g k := by
  intro f
  induction f with
  | zero =>
    intro g k h1 h2
    cases g with
    | zero => rfl
    | succ g => rw [skn, skn, if_neg (show ¬ bt l k = 32 by rw [bt_out (by omega)]; decide)]
  | succ f ih =>
    intro g k h1 h2
    cases g with
    | zero => rw [skn, skn, if_neg (show ¬ bt l k = 32 by rw [bt_out (by omega)]; decide)]
    | succ g =>
      rw [skn, skn]
      by_cases q : bt l k = 32
      · rw [if_pos q, if_pos q]; exact ih g (k + 1) (by omega) (by omega)
      · rw [if_neg q, if_neg q]
def skp (l : List Nat) (k : Nat) : Nat := skn l l.length k
theorem skn_b {l : List Nat} : ∀ f k, k ≤ l.length → k ≤ skn l f k ∧ skn l f k ≤ l.length := by
  intro f
  induction f with
  | zero => intro k h; exact ⟨Nat.le_refl _, h⟩
  | succ f ih =>
    intro k h
    rw [skn]
    by_cases q : bt l k = 32
    · have := bt_in (l := l) (k := k) (by rw [q]; decide)
      have i := ih (k + 1) (by omega)
      rw [if_pos q]; omega
    · rw [if_neg q]; exact ⟨Nat.le_refl _, h⟩
theorem skp_b {l : List Nat} {k : Nat} (h : k ≤ l.length) : k ≤ skp l k ∧ skp l k ≤ l.length := skn_b _ _ h
abbrev isD (x : Int) : Prop := 48 ≤ x ∧ x ≤ 57
abbrev isL (x : Int) : Prop := 97 ≤ x ∧ x ≤ 122
theorem isD_in {l : List Nat} {k : Nat} (h : isD (bt l k)) : k < l.length := bt_in (by unfold isD at h; omega)
/-- past digits -/
def dge (l : List Nat) (f k : Nat) : Nat := match f with
  | 0 => k
  | f + 1 => if isD (bt l k) then dge l f (k + 1) else k
theorem dge_st {l : List Nat} : ∀ f g k, l.length ≤ k + f → l.length ≤ k + g → dge l f k = dge l g k := by
  intro f
  induction f with
  | zero =>
    intro g k h1 h2
    cases g with
    | zero => rfl
    | succ g => rw [dge, dge, if_neg (show ¬ isD (bt l k) by rw [bt_out (by omega)]; decide)]
  | succ f ih =>
    intro g k h1 h2
    cases g with
    | zero => rw [dge, dge, if_neg (show ¬ isD (bt l k) by rw [bt_out (by omega)]; decide)]
    | succ g =>
      rw [dge, dge]
      by_cases q : isD (bt l k)
      · rw [if_pos q, if_pos q]; exact ih g (k + 1) (by omega) (by omega)
      · rw [if_neg q, if_neg q]
theorem dge_b {l : List Nat} : ∀ f k, k ≤ l.length → k ≤ dge l f k ∧ dge l f k ≤ l.length := by
  intro f
  induction f with
  | zero => intro k h; exact ⟨Nat.le_refl _, h⟩
  | succ f ih =>
    intro k h
    rw [dge]
    by_cases q : isD (bt l k)
    · have := isD_in q
      have i := ih (k + 1) (by omega)
      rw [if_pos q]; omega
    · rw [if_neg q]; exact ⟨Nat.le_refl _, h⟩
/-- the number of the first three digits -/
def dvl (l : List Nat) (p n : Nat) : Int := match n with
  | 0 => 0
  | n + 1 => if n < 3 then dvl l p n * 10 + bt l (p + n) - 48 else dvl l p n
def numS (l : List Nat) (lo hi : Int) (k : Nat) : Nat ⊕ (Int × Nat) :=
  if isD (bt l (skp l k)) then
    (if dge l l.length (skp l k) - skp l k ≤ 3 ∧ lo ≤ dvl l (skp l k) (dge l l.length (skp l k) - skp l k) ∧ dvl l (skp l k) (dge l l.length (skp l k) - skp l k) ≤ hi then .inr (dvl l (skp l k) (dge l l.length (skp l k) - skp l k), dge l l.length (skp l k)) else .inl (8 * skp l k + 2))
  else .inl (8 * skp l k + 1)
theorem numS_b {l : List Nat} {lo hi : Int} {k k' : Nat} {v : Int} (hk : k ≤ l.length) (h : numS l lo hi k = .inr (v, k')) : k' ≤ l.length ∧ lo ≤ v ∧ v ≤ hi := by
  unfold numS at h
  have s := skp_b hk
  have d := dge_b (l := l) l.length (skp l k) s.2
  split at h
  · split at h
    · rename_i q
      have e := Sum.inr.inj h
      have e1 := (Prod.mk.inj e).1
      have e2 := (Prod.mk.inj e).2
      subst e1 e2
      exact ⟨d.2, q.2⟩
    · cases h
  · cases h
/-- a word stands here, and no letter behind it -/
def wml (l : List Nat) (k : Nat) (w : List Int) : Bool := match w with
  | [] => !decide (isL (bt l k))
  | x :: t => decide (bt l k = x) && wml l (k + 1) t
theorem wml_len {l : List Nat} : ∀ (w : List Int) (k : Nat), k ≤ l.length → (∀ x, x ∈ w → x ≠ -1) → wml l k w = true → k + w.length ≤ l.length := by
  intro w
  induction w with
  | nil => intro k h _ _; exact h
  | cons x t ih =>
    intro k h hw h1
    rw [wml, Bool.and_eq_true, decide_eq_true_iff] at h1
    have := bt_in (l := l) (k := k) (by rw [h1.1]; exact hw x (List.mem_cons_self ..))
    have := ih (k + 1) (by omega) (fun y hy => hw y (List.mem_cons_of_mem _ hy)) h1.2
    rw [List.length_cons]
    omega
def wOct : List Int := [111, 99, 116, 97, 108]
def wAls : List Int := [97, 108, 115, 111]
def wNev : List Int := [110, 101, 118, 101, 114]
def wTo : List Int := [116, 111]
/-- which kind of line: 1, 2, 3; 0 none -/
def kdS (l : List Nat) (p : Nat) : Nat := if wml l p wOct then 1 else if wml l p wAls then 2 else if wml l p wNev then 3 else 0
def ods (l : List Nat) (f q : Nat) (ds : List Nat) : Nat ⊕ (List Nat × Nat) := match f with
  | 0 => .inr (ds, q)
  | f + 1 => if isD (bt l q) then (if 55 < bt l q ∨ ds.length = 8 then .inl (8 * q + 3) else ods l f (q + 1) (ds ++ [(bt l q - 48).toNat])) else .inr (ds, q)
def octS (l : List Nat) (k : Nat) : Nat ⊕ (List Nat × Nat) :=
  if bt l (skp l k) = 46 then (if isD (bt l (skp l (skp l k + 1))) then ods l l.length (skp l (skp l k + 1)) [] else .inl (8 * skp l (skp l k + 1) + 1)) else .inl (8 * skp l k + 1)
def alsS (l : List Nat) (k : Nat) : Nat ⊕ ((Int × Int × Int) × Nat) := match numS l 1 12 k with
  | .inl e => .inl e
  | .inr (h, k1) => if wml l (skp l k1) wTo then (match numS l 0 (h - 1) (skp l k1 + 2) with
      | .inl e => .inl e
      | .inr (a, k2) => if isD (bt l (skp l k2)) then (match numS l 0 (h - 1 - a) (skp l k2) with
          | .inl e => .inl e
          | .inr (b, k3) => .inr ((h, a, b), k3)) else .inr ((h, a, 0), skp l k2)) else .inl (8 * skp l k1 + 1)
def nevS (l : List Nat) (k : Nat) : Nat ⊕ ((Int × Int × Int) × Nat) := match numS l 1 12 k with
  | .inl e => .inl e
  | .inr (h, k1) => match numS l 1 8 k1 with
      | .inl e => .inl e
      | .inr (a, k2) => .inr ((h, a, 0), k2)
/-- a line: its kind, its digits, its numbers -/
abbrev lnT := Nat × List Nat × Int × Int × Int
def linS (l : List Nat) (n k : Nat) : Nat ⊕ (lnT × Nat) :=
  if kdS l (skp l k) = 0 then .inl (8 * skp l k + 1)
  else if n = 16 ∨ ¬ (kdS l (skp l k) = 1 ↔ n = 0) then .inl (8 * skp l k + 4)
  else if kdS l (skp l k) = 1 then (match octS l (skp l k + 5) with
    | .inl e => .inl e
    | .inr (ds, k1) => .inr ((1, ds, 0, 0, 0), k1))
  else if kdS l (skp l k) = 2 then (match alsS l (skp l k + 4) with
    | .inl e => .inl e
    | .inr ((h, a, b), k1) => .inr ((2, [], h, a, b), k1))
  else (match nevS l (skp l k + 5) with
    | .inl e => .inl e
    | .inr ((h, a, b), k1) => .inr ((3, [], h, a, b), k1))
def txtS (l : List Nat) (f n k : Nat) (acc : List lnT) : Nat ⊕ List lnT := match f with
  | 0 => .inl 0
  | f + 1 => match linS l n k with
    | .inl e => .inl e
    | .inr (x, k1) => if bt l (skp l k1) = -1 then .inr (acc ++ [x]) else if bt l (skp l k1) = 59 then txtS l f (n + 1) (skp l k1 + 1) (acc ++ [x]) else .inl (8 * skp l k1 + 1)
/-- what the whole text says -/
def txt (l : List Nat) : Nat ⊕ List lnT := txtS l 17 0 0 []
