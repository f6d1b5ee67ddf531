/-! The class's tables of positions, as its methods read them. -/
/-- the sizes of heaps that there are, the least first -/
def dh0 (c : Nat → Nat) : List Nat := [1, 2, 3, 4, 5, 6, 7, 8, 9, 10, 11, 12].filter (fun h => decide (0 < c h))
noncomputable def dh (c : Nat → Nat) : List Nat := jseal (dh0 c)
theorem dh_eq (c : Nat → Nat) : dh c = dh0 c := jseal_eq _
theorem dh_mem {c : Nat → Nat} {h : Nat} : h ∈ dh c ↔ (1 ≤ h ∧ h ≤ 12) ∧ 0 < c h := by
  rw [dh_eq]
  simp only [dh0, List.mem_filter, List.mem_cons, List.not_mem_nil, or_false, decide_eq_true_eq]
  constructor
  · rintro ⟨h1, h2⟩; exact ⟨by omega, h2⟩
  · rintro ⟨h1, h2⟩; exact ⟨by omega, h2⟩
theorem dh_len (c : Nat → Nat) : (dh c).length ≤ 12 := by
  rw [dh_eq]
  have := List.length_filter_le (fun h => decide (0 < c h)) [1, 2, 3, 4, 5, 6, 7, 8, 9, 10, 11, 12]
  exact this
theorem dh_sorted (c : Nat → Nat) : (dh c).Pairwise (· < ·) := by
  rw [dh_eq]
  exact List.Pairwise.filter _ (by decide)
/-- the position of a number -/
noncomputable def un (p : Nat) : Nat → Nat := if h : p < fo 23 then Classical.choose (rank_onto h) else fun _ => 0
theorem un_ok {p : Nat} (h : p < 4224) : okc (un p) ∧ beans (un p) ≤ 22 ∧ rank (un p) = p := by
  have h' : p < fo 23 := by rw [fo_23]; exact h
  unfold un
  rw [dif_pos h']
  obtain ⟨h1, h2, h3⟩ := Classical.choose_spec (rank_onto h')
  exact ⟨h1, by omega, h3⟩
theorem rank_top {c : Nat → Nat} (hb : beans c ≤ 22) : rank c < 4224 := by
  rw [← fo_23]; exact rank_beans.mpr (by omega)
theorem un_rank {c : Nat → Nat} (hc : okc c) (hb : beans c ≤ 22) : un (rank c) = c := by
  obtain ⟨h1, h2, h3⟩ := un_ok (rank_top hb)
  exact rank_inj h1 hc h3
/-- where the parts of a position begin -/
noncomputable def ps0 (p : Nat) : Nat := match p with
  | 0 => 0
  | p + 1 => ps0 p + (dh (un p)).length
noncomputable def ps (p : Nat) : Nat := jseal (ps0 p)
theorem ps_eq (p : Nat) : ps p = ps0 p := jseal_eq _
theorem ps_step (p : Nat) : ps (p + 1) = ps p + (dh (un p)).length := by rw [ps_eq, ps_eq]; rfl
theorem ps_zero : ps 0 = 0 := by rw [ps_eq]; rfl
theorem ps_succ {c : Nat → Nat} (hc : okc c) (hb : beans c ≤ 22) : ps (rank c + 1) = ps (rank c) + (dh c).length := by
  rw [ps_step, un_rank hc hb]
theorem ps_mono {a b : Nat} (h : a ≤ b) : ps a ≤ ps b := by
  induction b with
  | zero => have : a = 0 := by omega
            subst this; exact Nat.le_refl _
  | succ b ih =>
    by_cases hb : a ≤ b
    · have := ih hb
      rw [ps_step]; omega
    · have : a = b + 1 := by omega
      subst this; exact Nat.le_refl _
noncomputable def jsn (h : Nat) : Nat := match h with
  | 0 => 0
  | 1 => 0
  | h + 2 => jsn (h + 1) + fo (22 - h)
def jtb : List Nat := [0, 0, 3319, 5913, 7925, 9477, 10663, 11564, 12241, 12746, 13118, 13390, 13585, 13724]
def jt (h : Nat) : Nat := jtb.getD h 0
theorem jt_rec : ∀ h, h < 12 → jt (h + 2) = jt (h + 1) + ft (22 - h) := by decide +kernel
theorem jsn_tab : ∀ h, h ≤ 13 → jsn h = jt h := by
  have key : ∀ h, h + 1 ≤ 13 → jsn (h + 1) = jt (h + 1) := by
    intro h
    induction h with
    | zero => intro _; rfl
    | succ h ih =>
      intro hh
      show jsn (h + 1) + fo (22 - h) = _
      rw [jt_rec h (by omega), ih (by omega), fo_tab (22 - h) (by omega)]
  intro h hh
  match h, hh with
  | 0, _ => rfl
  | h + 1, hh => exact key h hh
theorem jsn_13 : jsn 13 = 13724 := (jsn_tab 13 (by decide)).trans (by decide)
theorem jsn_le (h : Nat) (h1 : h < 13) (h2 : 1 ≤ h) : jsn h + fo (23 - h) ≤ 13724 := by
  have : ∀ h, h < 13 → 1 ≤ h → jt h + ft (23 - h) ≤ 13724 := by decide +kernel
  rw [jsn_tab h (by omega), fo_tab (23 - h) (by omega)]
  exact this h h1 h2
/-- the tables as they are for ever -/
def PosOK (σ : jxS) : Prop :=
  (∀ b : Nat, b ≤ 23 → σ 24 b = (fo b : Int)) ∧
  (∀ h : Nat, 1 ≤ h → h ≤ 13 → σ 25 h = (jsn h : Int)) ∧
  (∀ (h : Nat) (c : Nat → Nat), 1 ≤ h → h ≤ 12 → okc c → beans c + h ≤ 22 → σ 26 ((jsn h + rank c : Nat) : Int) = (rank (cad c h) : Int)) ∧
  (∀ p : Nat, p ≤ 4224 → σ 27 p = (ps p : Int)) ∧
  (∀ (c : Nat → Nat), okc c → beans c ≤ 22 → ∀ (j h : Nat), (dh c)[j]? = some h → σ 28 ((ps (rank c) + j : Nat) : Int) = ((8192 * h + rank (csb c h) : Nat) : Int)) ∧
  ps 4224 ≤ 14202
