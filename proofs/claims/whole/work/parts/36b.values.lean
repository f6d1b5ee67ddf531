/-! Moves of positions, and what positions are worth. -/
def mmx : List Nat := [0, 1, 2, 4, 6, 9, 12, 16, 20, 25, 30, 36, 42]
/-- rows of moves, by their heaps: each a move of its heap, no more than there can be -/
def MOK (M : Nat → List Nat) : Prop := ∀ h, 1 ≤ h → h ≤ 12 → (M h).length ≤ mmx.getD h 0 ∧ ∀ m, m ∈ M h → m / 13 ≤ m % 13 ∧ m / 13 + m % 13 < h
/-- the moves of a position: heap and move, of like heaps once -/
noncomputable def ops (M : Nat → List Nat) (c : Nat → Nat) : List (Nat × Nat) := jseal ((dh c).flatMap (fun h => (M h).map (fun m => (h, m))))
theorem ops_eq (M : Nat → List Nat) (c : Nat → Nat) : ops M c = (dh c).flatMap (fun h => (M h).map (fun m => (h, m))) := jseal_eq _
noncomputable def tl (M : Nat → List Nat) (c : Nat → Nat) : List Nat := (ops M c).map (fun o => rank (tgt c o.1 o.2))
noncomputable def T (M : Nat → List Nat) (p : Nat) : List Nat := jseal (tl M (un p))
theorem T_eq (M : Nat → List Nat) (p : Nat) : T M p = tl M (un p) := jseal_eq _
theorem ops_mem {M : Nat → List Nat} {c : Nat → Nat} {o : Nat × Nat} : o ∈ ops M c ↔ ((1 ≤ o.1 ∧ o.1 ≤ 12) ∧ 0 < c o.1) ∧ o.2 ∈ M o.1 := by
  obtain ⟨h, m⟩ := o
  rw [ops_eq]
  simp only [List.mem_flatMap, List.mem_map, Prod.mk.injEq]
  constructor
  · rintro ⟨x, hx, y, hy, rfl, rfl⟩
    exact ⟨dh_mem.mp hx, hy⟩
  · rintro ⟨h1, h2⟩
    exact ⟨h, dh_mem.mpr h1, m, h2, rfl, rfl⟩
theorem ops_tgt {M : Nat → List Nat} {c : Nat → Nat} (hM : MOK M) (hc : okc c) {o : Nat × Nat} (ho : o ∈ ops M c) : okc (tgt c o.1 o.2) ∧ beans (tgt c o.1 o.2) < beans c := by
  obtain ⟨⟨⟨h1, h2⟩, h3⟩, h4⟩ := ops_mem.mp ho
  obtain ⟨a1, a2⟩ := (hM o.1 h1 h2).2 o.2 h4
  obtain ⟨t1, t2⟩ := tgt_beans (m := o.2) hc h1 h2 h3 (by omega)
  exact ⟨t1, by omega⟩
theorem un_far {p : Nat} (h : 4224 ≤ p) : un p = fun _ => 0 := by
  unfold un
  rw [dif_neg (by rw [fo_23]; omega)]
theorem un_okc (p : Nat) : okc (un p) := by
  by_cases h : p < 4224
  · exact (un_ok h).1
  · rw [un_far (by omega)]; intro x _; rfl
theorem rank_mono {c d : Nat → Nat} (h : beans d < beans c) : rank d < rank c := by
  have h1 := rank_lt d
  have h2 := rank_ge c
  have h3 := fo_mono (show beans d + 1 ≤ beans c from h)
  omega
theorem T_mem {M : Nat → List Nat} (hM : MOK M) {p q : Nat} (h : q ∈ T M p) : q < p ∧ p < 4224 ∧ ∃ o, o ∈ ops M (un p) ∧ q = rank (tgt (un p) o.1 o.2) := by
  rw [T_eq] at h
  simp only [tl, List.mem_map] at h
  obtain ⟨o, ho, rfl⟩ := h
  have hp : p < 4224 := by
    by_cases w : p < 4224
    · exact w
    · rw [un_far (by omega)] at ho
      have := (ops_mem.mp ho).1.2
      simp at this
  obtain ⟨u1, u2, u3⟩ := un_ok hp
  have t := ops_tgt hM u1 ho
  have := rank_mono t.2
  exact ⟨by omega, hp, o, ho, rfl⟩
theorem T_beans {M : Nat → List Nat} (hM : MOK M) {p q : Nat} (h : q ∈ T M p) : beans (un q) < beans (un p) ∧ q < 4224 := by
  obtain ⟨h1, h2, o, ho, rfl⟩ := T_mem hM h
  obtain ⟨u1, u2, u3⟩ := un_ok h2
  obtain ⟨t1, t2⟩ := ops_tgt hM u1 ho
  rw [un_rank t1 (by omega)]
  exact ⟨t2, by omega⟩
/-- loses, and how soon -/
noncomputable def joc (M : Nat → List Nat) (p : Nat) (f : Nat → Bool × Nat) : Bool × Nat :=
  (!(T M p).isEmpty && (T M p).all (fun q => !(f q).1),
   if (T M p).isEmpty then 0 else if (T M p).any (fun q => (f q).1) then 1 + mnf false 0 (((T M p).filter (fun q => (f q).1)).map (fun q => (f q).2)) else 1 + mxf 0 ((T M p).map (fun q => (f q).2)))
noncomputable def oc (M : Nat → List Nat) : Nat → Bool × Nat := rc (false, 0) (joc M)
noncomputable def los (M : Nat → List Nat) (p : Nat) : Bool := (oc M p).1
noncomputable def rem (M : Nat → List Nat) (p : Nat) : Nat := (oc M p).2
theorem cg_all {l : List Nat} {f g : Nat → Bool} (h : ∀ x, x ∈ l → f x = g x) : l.all f = l.all g := by
  induction l with
  | nil => rfl
  | cons a l ih => simp only [List.all_cons, h a (List.mem_cons_self ..), ih (fun x hx => h x (List.mem_cons_of_mem _ hx))]
theorem cg_any {l : List Nat} {f g : Nat → Bool} (h : ∀ x, x ∈ l → f x = g x) : l.any f = l.any g := by
  induction l with
  | nil => rfl
  | cons a l ih => simp only [List.any_cons, h a (List.mem_cons_self ..), ih (fun x hx => h x (List.mem_cons_of_mem _ hx))]
theorem cg_fm {l : List Nat} {f g : Nat → Bool × Nat} (h : ∀ x, x ∈ l → f x = g x) : (l.filter (fun q => (f q).1)).map (fun q => (f q).2) = (l.filter (fun q => (g q).1)).map (fun q => (g q).2) := by
  induction l with
  | nil => rfl
  | cons a l ih =>
    have e := h a (List.mem_cons_self ..)
    have i := ih (fun x hx => h x (List.mem_cons_of_mem _ hx))
    simp only [List.filter_cons, e]
    split
    · simp only [List.map_cons, e, i]
    · exact i
theorem oc_eq {M : Nat → List Nat} (hM : MOK M) (p : Nat) : oc M p = joc M p (oc M) := by
  refine rc_eq _ _ (fun p f g h => ?_) p
  have h' : ∀ x, x ∈ T M p → f x = g x := fun x hx => h x (T_mem hM hx).1
  simp only [joc]
  rw [cg_all (f := fun q => !(f q).1) (g := fun q => !(g q).1) (fun x hx => by rw [h' x hx]), cg_any (f := fun q => (f q).1) (g := fun q => (g q).1) (fun x hx => by rw [h' x hx]), cg_fm h', List.map_congr_left (f := fun q => (f q).2) (g := fun q => (g q).2) (fun x hx => by rw [h' x hx])]
theorem los_eq {M : Nat → List Nat} (hM : MOK M) (p : Nat) : los M p = (!(T M p).isEmpty && (T M p).all (fun q => !los M q)) := by
  rw [los, oc_eq hM]; rfl
theorem rem_eq {M : Nat → List Nat} (hM : MOK M) (p : Nat) : rem M p = if (T M p).isEmpty then 0 else if (T M p).any (fun q => los M q) then 1 + mnf false 0 (((T M p).filter (fun q => los M q)).map (fun q => rem M q)) else 1 + mxf 0 ((T M p).map (fun q => rem M q)) := by
  rw [rem, oc_eq hM]; rfl
theorem rem_le {M : Nat → List Nat} (hM : MOK M) : ∀ p, rem M p ≤ beans (un p) := by
  intro p
  induction p using Nat.strongRecOn with
  | ind p ih =>
    have hq : ∀ q, q ∈ T M p → rem M q + 1 ≤ beans (un p) := fun q h => by
      have := ih q (T_mem hM h).1
      have := (T_beans hM h).1
      omega
    rw [rem_eq hM]
    split
    · omega
    · rename_i hne
      obtain ⟨q0, hq0⟩ : ∃ q, q ∈ T M p := by
        match h : T M p with
        | [] => rw [h] at hne; simp at hne
        | q :: _ => exact ⟨q, List.mem_cons_self ..⟩
      have b0 := hq q0 hq0
      split
      · have := mnf_le (l := ((T M p).filter (fun q => los M q)).map (fun q => rem M q)) (b := beans (un p) - 1) (fun x hx => by
          obtain ⟨q, h1, rfl⟩ := List.mem_map.mp hx
          have := hq q (List.mem_filter.mp h1).1
          omega) false 0 (by omega)
        omega
      · have := mxf_le (l := (T M p).map (fun q => rem M q)) (b := beans (un p) - 1) (fun x hx => by
          obtain ⟨q, h1, rfl⟩ := List.mem_map.mp hx
          have := hq q h1
          omega) 0 (by omega)
        omega
theorem beans_un (p : Nat) : beans (un p) ≤ 22 := by
  by_cases h : p < 4224
  · exact (un_ok h).2.1
  · rw [un_far (by omega), beans_eq]
    decide
theorem rem_22 {M : Nat → List Nat} (hM : MOK M) (p : Nat) : rem M p ≤ 22 := Nat.le_trans (rem_le hM p) (beans_un p)
/-- fewest, most -/
noncomputable def fw (M : Nat → List Nat) : Nat → Nat := rc 0 (fun p f => if (T M p).isEmpty then 0 else 1 + mnf false 0 ((T M p).map f))
noncomputable def ms (M : Nat → List Nat) : Nat → Nat := rc 0 (fun p f => if (T M p).isEmpty then 0 else 1 + mxf 0 ((T M p).map f))
theorem fw_eq {M : Nat → List Nat} (hM : MOK M) (p : Nat) : fw M p = if (T M p).isEmpty then 0 else 1 + mnf false 0 ((T M p).map (fw M)) := by
  refine rc_eq (X := Nat) 0 (fun p f => if (T M p).isEmpty then 0 else 1 + mnf false 0 ((T M p).map f)) (fun p f g h => ?_) p
  have h' : ∀ x, x ∈ T M p → f x = g x := fun x hx => h x (T_mem hM hx).1
  show (if (T M p).isEmpty then 0 else 1 + mnf false 0 ((T M p).map f)) = _
  rw [List.map_congr_left h']
theorem ms_eq {M : Nat → List Nat} (hM : MOK M) (p : Nat) : ms M p = if (T M p).isEmpty then 0 else 1 + mxf 0 ((T M p).map (ms M)) := by
  refine rc_eq (X := Nat) 0 (fun p f => if (T M p).isEmpty then 0 else 1 + mxf 0 ((T M p).map f)) (fun p f g h => ?_) p
  have h' : ∀ x, x ∈ T M p → f x = g x := fun x hx => h x (T_mem hM hx).1
  show (if (T M p).isEmpty then 0 else 1 + mxf 0 ((T M p).map f)) = _
  rw [List.map_congr_left h']
theorem ms_le {M : Nat → List Nat} (hM : MOK M) : ∀ p, ms M p ≤ beans (un p) ∧ fw M p ≤ beans (un p) := by
  intro p
  induction p using Nat.strongRecOn with
  | ind p ih =>
    have hq : ∀ q, q ∈ T M p → ms M q + 1 ≤ beans (un p) ∧ fw M q + 1 ≤ beans (un p) := fun q h => by
      have := ih q (T_mem hM h).1
      have := (T_beans hM h).1
      omega
    rw [ms_eq hM, fw_eq hM]
    by_cases hne : (T M p).isEmpty = true
    · rw [if_pos hne, if_pos hne]; omega
    · obtain ⟨q0, hq0⟩ : ∃ q, q ∈ T M p := by
        match h : T M p with
        | [] => rw [h] at hne; simp at hne
        | q :: _ => exact ⟨q, List.mem_cons_self ..⟩
      have b0 := hq q0 hq0
      rw [if_neg hne, if_neg hne]
      have a1 := mxf_le (l := (T M p).map (ms M)) (b := beans (un p) - 1) (fun x hx => by
          obtain ⟨q, h1, rfl⟩ := List.mem_map.mp hx
          have := hq q h1
          omega) 0 (by omega)
      have a2 := mnf_le (l := (T M p).map (fw M)) (b := beans (un p) - 1) (fun x hx => by
          obtain ⟨q, h1, rfl⟩ := List.mem_map.mp hx
          have := hq q h1
          omega) false 0 (by omega)
      omega
/-- nim heaps beside: to which of them each can move -/
def t2 (t : Nat) : List Nat := match t with
  | 1 => [0]
  | 2 => [1]
  | 3 => [0, 1]
  | 4 => [1, 2, 3]
  | 5 => [3, 4]
  | _ => []
def tb (t : Nat) : Nat := match t with
  | 1 => 1
  | 2 => 2
  | 3 => 2
  | 4 => 3
  | 5 => 4
  | _ => 0
theorem t2_tb : ∀ t, t < 6 → ∀ s, s ∈ t2 t → tb s < tb t ∧ s < t := by decide
theorem tb_4 (t : Nat) : tb t ≤ 4 := by unfold tb; split <;> omega
noncomputable def bkl (M : Nat → List Nat) (n : Nat) (f : Nat → Nat) : List Nat := (t2 (n % 6)).map (fun s => f (6 * (n / 6) + s)) ++ (T M (n / 6)).map (fun q => f (6 * q + n % 6))
noncomputable def bkn (M : Nat → List Nat) : Nat → Nat := rc 0 (fun n f => if (bkl M n f).isEmpty then 1 else mex (bkl M n f))
noncomputable def bk (M : Nat → List Nat) (p t : Nat) : Nat := bkn M (6 * p + t)
theorem bkl_congr {M : Nat → List Nat} (hM : MOK M) {n : Nat} {f g : Nat → Nat} (h : ∀ q, q < n → f q = g q) : bkl M n f = bkl M n g := by
  unfold bkl
  rw [List.map_congr_left (l := t2 (n % 6)) (f := fun s => f (6 * (n / 6) + s)) (g := fun s => g (6 * (n / 6) + s)) (fun s hs => h _ (by have := (t2_tb (n % 6) (by omega) s hs).2; omega)), List.map_congr_left (l := T M (n / 6)) (f := fun q => f (6 * q + n % 6)) (g := fun q => g (6 * q + n % 6)) (fun q hq => h _ (by have := (T_mem hM hq).1; omega))]
theorem bkn_eq {M : Nat → List Nat} (hM : MOK M) (n : Nat) : bkn M n = if (bkl M n (bkn M)).isEmpty then 1 else mex (bkl M n (bkn M)) := by
  refine rc_eq (X := Nat) 0 (fun n f => if (bkl M n f).isEmpty then 1 else mex (bkl M n f)) (fun n f g h => ?_) n
  show (if (bkl M n f).isEmpty then 1 else mex (bkl M n f)) = _
  rw [bkl_congr hM h]
theorem bk_eq {M : Nat → List Nat} (hM : MOK M) (p : Nat) {t : Nat} (ht : t < 6) : bk M p t = if ((t2 t).map (fun s => bk M p s) ++ (T M p).map (fun q => bk M q t)).isEmpty then 1 else mex ((t2 t).map (fun s => bk M p s) ++ (T M p).map (fun q => bk M q t)) := by
  have e1 : (6 * p + t) / 6 = p := by omega
  have e2 : (6 * p + t) % 6 = t := by omega
  have e3 : bkl M (6 * p + t) (bkn M) = (t2 t).map (fun s => bk M p s) ++ (T M p).map (fun q => bk M q t) := by
    unfold bkl bk
    rw [e1, e2]
  rw [bk, bkn_eq hM, e3]
theorem bk_le {M : Nat → List Nat} (hM : MOK M) : ∀ p t, t < 6 → bk M p t ≤ beans (un p) + tb t + 1 := by
  intro p
  induction p using Nat.strongRecOn with
  | ind p ihp =>
    intro t
    induction t using Nat.strongRecOn with
    | ind t iht =>
      intro ht
      rw [bk_eq hM p ht]
      split
      · omega
      · refine mex_le (fun x hx => ?_)
        rcases List.mem_append.mp hx with q | q
        · obtain ⟨s, hs, rfl⟩ := List.mem_map.mp q
          have a := t2_tb t ht s hs
          have := iht s a.2 (by omega)
          omega
        · obtain ⟨s, hs, rfl⟩ := List.mem_map.mp q
          have := ihp s (T_mem hM hs).1 t ht
          have := (T_beans hM hs).1
          omega
theorem bk_27 {M : Nat → List Nat} (hM : MOK M) (p : Nat) {t : Nat} (ht : t < 6) : bk M p t ≤ 27 := by
  have := bk_le hM p t ht
  have := beans_un p
  have := tb_4 t
  omega
