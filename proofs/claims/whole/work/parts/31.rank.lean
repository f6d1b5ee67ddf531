/-! Positions by their numbers: counts of heaps, and the place in the document's order. -/
/-- ways to reach b with heaps of h and those that f counts -/
def wyS (f : Nat → Nat) (h : Nat) (n b : Nat) : Nat := match n with
  | 0 => f b
  | n + 1 => f b + (if h ≤ b then wyS f h n (b - h) else 0)
/-- ways to reach b with heaps of the k greatest sizes: 13 - k to 12 -/
def wy (k : Nat) (b : Nat) : Nat := match k with
  | 0 => if b = 0 then 1 else 0
  | k + 1 => wyS (wy k) (12 - k) b b
theorem wyS_fuel (f : Nat → Nat) {h : Nat} (hh : 0 < h) : ∀ b n, b ≤ n → wyS f h n b = wyS f h b b := by
  intro b
  induction b using Nat.strongRecOn with
  | ind b ih =>
    intro n hn
    match b, n, hn with
    | 0, 0, _ => rfl
    | 0, n + 1, _ => simp only [wyS]; rw [if_neg (by omega)]; rfl
    | b + 1, n + 1, hn =>
      simp only [wyS]
      by_cases hb : h ≤ b + 1
      · rw [if_pos hb, if_pos hb, ih (b + 1 - h) (by omega) n (by omega), ih (b + 1 - h) (by omega) b (by omega)]
      · rw [if_neg hb, if_neg hb]
theorem wy_succ {k : Nat} (hk : k ≤ 11) (b : Nat) : wy (k + 1) b = wy k b + (if 12 - k ≤ b then wy (k + 1) (b - (12 - k)) else 0) := by
  show wyS (wy k) (12 - k) b b = _
  match b with
  | 0 => simp only [wyS]; rw [if_neg (by omega)]; rfl
  | b + 1 =>
    simp only [wyS]
    by_cases hb : 12 - k ≤ b + 1
    · rw [if_pos hb, if_pos hb]
      show _ = _ + wyS (wy k) (12 - k) _ _
      rw [wyS_fuel (wy k) (by omega) (b + 1 - (12 - k)) b (by omega)]
    · rw [if_neg hb, if_neg hb]
/-- how many positions of fewer than b beans -/
def fo0 (b : Nat) : Nat := match b with
  | 0 => 0
  | b + 1 => fo0 b + wy 12 b
def wtb : List (List Nat) := [[1, 0, 0, 0, 0, 0, 0, 0, 0, 0, 0, 0, 0, 0, 0, 0, 0, 0, 0, 0, 0, 0, 0], [1, 0, 0, 0, 0, 0, 0, 0, 0, 0, 0, 0, 1, 0, 0, 0, 0, 0, 0, 0, 0, 0, 0], [1, 0, 0, 0, 0, 0, 0, 0, 0, 0, 0, 1, 1, 0, 0, 0, 0, 0, 0, 0, 0, 0, 1], [1, 0, 0, 0, 0, 0, 0, 0, 0, 0, 1, 1, 1, 0, 0, 0, 0, 0, 0, 0, 1, 1, 2], [1, 0, 0, 0, 0, 0, 0, 0, 0, 1, 1, 1, 1, 0, 0, 0, 0, 0, 1, 1, 2, 2, 2], [1, 0, 0, 0, 0, 0, 0, 0, 1, 1, 1, 1, 1, 0, 0, 0, 1, 1, 2, 2, 3, 2, 2], [1, 0, 0, 0, 0, 0, 0, 1, 1, 1, 1, 1, 1, 0, 1, 1, 2, 2, 3, 3, 3, 3, 3], [1, 0, 0, 0, 0, 0, 1, 1, 1, 1, 1, 1, 2, 1, 2, 2, 3, 3, 5, 4, 5, 5, 6], [1, 0, 0, 0, 0, 1, 1, 1, 1, 1, 2, 2, 3, 2, 3, 4, 5, 6, 7, 7, 9, 10, 12], [1, 0, 0, 0, 1, 1, 1, 1, 2, 2, 3, 3, 5, 4, 6, 7, 10, 10, 13, 14, 19, 20, 25], [1, 0, 0, 1, 1, 1, 2, 2, 3, 4, 5, 6, 9, 9, 12, 16, 19, 22, 29, 33, 41, 49, 58], [1, 0, 1, 1, 2, 2, 4, 4, 7, 8, 12, 14, 21, 23, 33, 39, 52, 61, 81, 94, 122, 143, 180], [1, 1, 2, 3, 5, 7, 11, 15, 22, 30, 42, 56, 77, 100, 133, 172, 224, 285, 366, 460, 582, 725, 905]]
def ftb : List Nat := [0, 1, 2, 4, 7, 12, 19, 30, 45, 67, 97, 139, 195, 272, 372, 505, 677, 901, 1186, 1552, 2012, 2594, 3319, 4224]
def wt (k b : Nat) : Nat := (wtb.getD k []).getD b 0
def ft (b : Nat) : Nat := ftb.getD b 0
theorem wt_rec : ∀ k, k < 12 → ∀ b, b < 23 → wt (k + 1) b = wt k b + (if 12 - k ≤ b then wt (k + 1) (b - (12 - k)) else 0) := by decide +kernel
theorem wt_0 : ∀ b, b < 23 → wt 0 b = if b = 0 then 1 else 0 := by decide +kernel
theorem wy_tab : ∀ k, k ≤ 12 → ∀ b, b < 23 → wy k b = wt k b := by
  intro k
  induction k with
  | zero => intro _ b hb; rw [wt_0 b hb]; rfl
  | succ k ih =>
    intro hk b
    induction b using Nat.strongRecOn with
    | ind b ihb =>
      intro hb
      rw [wy_succ (by omega), wt_rec k (by omega) b hb, ih (by omega) b hb]
      by_cases q : 12 - k ≤ b
      · rw [if_pos q, if_pos q, ihb (b - (12 - k)) (by omega) (by omega)]
      · rw [if_neg q, if_neg q]
theorem ft_rec : ∀ b, b < 23 → ft (b + 1) = ft b + wt 12 b := by decide +kernel
theorem fo0_tab : ∀ b, b ≤ 23 → fo0 b = ft b := by
  intro b
  induction b with
  | zero => intro _; rfl
  | succ b ih => intro hb; rw [ft_rec b (by omega), ← ih (by omega), ← wy_tab 12 (Nat.le_refl _) b (by omega)]; rfl
theorem fo0_23 : fo0 23 = 4224 := (fo0_tab 23 (by decide)).trans (by decide)
theorem fo0_16 : fo0 16 = 677 := (fo0_tab 16 (by decide)).trans (by decide)
theorem fo0_8 : fo0 8 = 45 := (fo0_tab 8 (by decide)).trans (by decide)
theorem fo0_13 : fo0 13 = 272 := (fo0_tab 13 (by decide)).trans (by decide)
theorem fo0_mono {a b : Nat} (h : a ≤ b) : fo0 a ≤ fo0 b := by
  induction b with
  | zero => have : a = 0 := by omega
            subst this; exact Nat.le_refl _
  | succ b ih =>
    by_cases hb : a ≤ b
    · have := ih hb
      simp only [fo0]; omega
    · have : a = b + 1 := by omega
      subst this; exact Nat.le_refl _
/-- the beans in heaps of the k greatest sizes -/
def bn (k : Nat) (c : Nat → Nat) : Nat := match k with
  | 0 => 0
  | k + 1 => (12 - k) * c (12 - k) + bn k c
abbrev beans0 (c : Nat → Nat) : Nat := bn 12 c
def smr (k : Nat) (n l : Nat) : Nat := match n with
  | 0 => 0
  | n + 1 => wy k l + smr k n (l - (12 - k))
/-- the place in the row of those with as many beans0, by heaps of the k greatest sizes -/
def rwk (k : Nat) (c : Nat → Nat) (l : Nat) : Nat := match k with
  | 0 => 0
  | k + 1 => smr k (c (12 - k)) l + rwk k c (l - (12 - k) * c (12 - k))
def rank0 (c : Nat → Nat) : Nat := fo0 (beans0 c) + rwk 12 c (beans0 c)
theorem smr_lt {k : Nat} (hk : k ≤ 11) : ∀ (n l x : Nat), (12 - k) * n ≤ l → x < wy k (l - (12 - k) * n) → smr k n l + x < wy (k + 1) l := by
  intro n
  induction n with
  | zero =>
    intro l x _ hx
    rw [wy_succ hk]
    simp only [smr, Nat.mul_zero, Nat.sub_zero] at *
    omega
  | succ n ih =>
    intro l x hl hx
    have e : (12 - k) * (n + 1) = (12 - k) * n + (12 - k) := Nat.mul_succ _ _
    rw [e] at hl hx
    rw [wy_succ hk, if_pos (by omega)]
    have h1 := ih (l - (12 - k)) x (by omega) (by rw [show l - (12 - k) - (12 - k) * n = l - ((12 - k) * n + (12 - k)) by omega]; exact hx)
    simp only [smr]
    omega
theorem rwk_lt (c : Nat → Nat) : ∀ k, k ≤ 12 → rwk k c (bn k c) < wy k (bn k c) := by
  intro k
  induction k with
  | zero => intro _; simp [rwk, bn, wy]
  | succ k ih =>
    intro hk
    have h1 := ih (by omega)
    simp only [rwk, bn]
    have e : (12 - k) * c (12 - k) + bn k c - (12 - k) * c (12 - k) = bn k c := by omega
    rw [e]
    exact smr_lt (by omega) _ _ _ (by omega) (by rw [e]; exact h1)
theorem rank0_lt (c : Nat → Nat) : rank0 c < fo0 (beans0 c + 1) := by
  have h : rwk 12 c (beans0 c) < wy 12 (beans0 c) := rwk_lt c 12 (Nat.le_refl _)
  simp only [rank0, fo0]
  omega
theorem rank0_ge (c : Nat → Nat) : fo0 (beans0 c) ≤ rank0 c := Nat.le_add_right _ _
/-- every place is a position's -/
theorem rwk_onto : ∀ k, k ≤ 12 → ∀ l r, r < wy k l → ∃ c : Nat → Nat, (∀ h, h ≤ 12 - k ∨ 12 < h → c h = 0) ∧ bn k c = l ∧ rwk k c l = r := by
  intro k
  induction k with
  | zero =>
    intro _ l r hr
    simp only [wy] at hr
    split at hr
    · rename_i hl
      subst hl
      exact ⟨fun _ => 0, fun _ _ => rfl, rfl, by simp only [rwk]; omega⟩
    · omega
  | succ k ih =>
    intro hk l
    induction l using Nat.strongRecOn with
    | ind l ihl =>
      intro r hr
      by_cases h0 : r < wy k l
      · obtain ⟨c, h1, h2, h3⟩ := ih (by omega) l r h0
        have hz : c (12 - k) = 0 := h1 _ (Or.inl (Nat.le_refl _))
        refine ⟨c, fun h hh => h1 h (by omega), ?_, ?_⟩
        · simp only [bn, hz]; omega
        · simp only [rwk, hz, smr, Nat.mul_zero, Nat.sub_zero]; omega
      · rw [wy_succ (by omega)] at hr
        by_cases hb : 12 - k ≤ l
        · rw [if_pos hb] at hr
          obtain ⟨c, h1, h2, h3⟩ := ihl (l - (12 - k)) (by omega) (r - wy k l) (by omega)
          refine ⟨fun h => if h = 12 - k then c h + 1 else c h, fun h hh => ?_, ?_, ?_⟩
          · have : ¬ h = 12 - k := by omega
            simp only [if_neg this]
            exact h1 h hh
          · have hbn : ∀ j, j ≤ k → bn j (fun h => if h = 12 - k then c h + 1 else c h) = bn j c := by
              intro j
              induction j with
              | zero => intro _; rfl
              | succ j ihj =>
                intro hj
                simp only [bn]
                rw [if_neg (by omega), ihj (by omega)]
            simp only [bn, if_pos] at h2 ⊢
            rw [hbn k (Nat.le_refl _), Nat.mul_succ]
            omega
          · have hrw : ∀ j, j ≤ k → ∀ x, rwk j (fun h => if h = 12 - k then c h + 1 else c h) x = rwk j c x := by
              intro j
              induction j with
              | zero => intro _ x; rfl
              | succ j ihj =>
                intro hj x
                simp only [rwk]
                rw [if_neg (by omega), ihj (by omega)]
            simp only [rwk, if_pos, smr] at h3 ⊢
            rw [hrw k (Nat.le_refl _), Nat.mul_succ, show l - ((12 - k) * c (12 - k) + (12 - k)) = l - (12 - k) - (12 - k) * c (12 - k) by omega]
            omega
        · rw [if_neg hb] at hr
          omega
/-- counts of heaps 1 to 12 alone -/
def okc (c : Nat → Nat) : Prop := ∀ h, h = 0 ∨ 12 < h → c h = 0
theorem fo0_find : ∀ (n p : Nat), p < fo0 n → ∃ b, b < n ∧ fo0 b ≤ p ∧ p < fo0 (b + 1) := by
  intro n
  induction n with
  | zero => intro p hp; simp [fo0] at hp
  | succ n ih =>
    intro p hp
    by_cases h : p < fo0 n
    · obtain ⟨b, h1, h2⟩ := ih p h
      exact ⟨b, by omega, h2⟩
    · exact ⟨n, Nat.lt_succ_self n, by omega, hp⟩
theorem rank0_onto {n p : Nat} (h : p < fo0 n) : ∃ c, okc c ∧ beans0 c < n ∧ rank0 c = p := by
  obtain ⟨b, h1, h2, h3⟩ := fo0_find n p h
  simp only [fo0] at h3
  obtain ⟨c, g1, g2, g3⟩ := rwk_onto 12 (Nat.le_refl _) b (p - fo0 b) (by omega)
  refine ⟨c, fun h hh => g1 h (by omega), ?_, ?_⟩
  · show bn 12 c < n
    omega
  · rw [rank0]
    show fo0 (bn 12 c) + rwk 12 c (bn 12 c) = p
    rw [g2, g3]
    omega
theorem smr_inj {k : Nat} : ∀ (n n' l x x' : Nat), (12 - k) * n ≤ l → (12 - k) * n' ≤ l → x < wy k (l - (12 - k) * n) → x' < wy k (l - (12 - k) * n') → smr k n l + x = smr k n' l + x' → n = n' ∧ x = x' := by
  intro n
  induction n with
  | zero =>
    intro n' l x x' h1 h2 h3 h4 h5
    cases n' with
    | zero => simp only [smr] at h5; exact ⟨rfl, by omega⟩
    | succ n' =>
      simp only [smr, Nat.mul_zero, Nat.sub_zero] at h3 h5
      omega
  | succ n ih =>
    intro n' l x x' h1 h2 h3 h4 h5
    cases n' with
    | zero =>
      simp only [smr, Nat.mul_zero, Nat.sub_zero] at h4 h5
      omega
    | succ n' =>
      simp only [smr] at h5
      rw [Nat.mul_succ] at h1 h2 h3 h4
      obtain ⟨g1, g2⟩ := ih n' (l - (12 - k)) x x' (by omega) (by omega) (by rw [show l - (12 - k) - (12 - k) * n = l - ((12 - k) * n + (12 - k)) by omega]; exact h3) (by rw [show l - (12 - k) - (12 - k) * n' = l - ((12 - k) * n' + (12 - k)) by omega]; exact h4) (by omega)
      exact ⟨by omega, g2⟩
theorem rwk_inj (c c' : Nat → Nat) : ∀ k, k ≤ 12 → bn k c = bn k c' → rwk k c (bn k c) = rwk k c' (bn k c) → ∀ h, 12 - k < h → h ≤ 12 → c h = c' h := by
  intro k
  induction k with
  | zero => intro _ _ _ h h1 h2; omega
  | succ k ih =>
    intro hk hb hr h h1 h2
    have e : ∀ c : Nat → Nat, (12 - k) * c (12 - k) + bn k c - (12 - k) * c (12 - k) = bn k c := fun c => by omega
    simp only [bn] at hb
    simp only [rwk, bn] at hr
    have l1 := rwk_lt c k (by omega)
    have l2 := rwk_lt c' k (by omega)
    rw [e c] at hr
    rw [hb, e c'] at hr
    rw [← hb] at hr
    obtain ⟨g1, g2⟩ := smr_inj (k := k) (c (12 - k)) (c' (12 - k)) _ _ _ (by omega) (by omega) (by rw [e c]; exact l1) (by rw [hb, e c']; exact l2) hr
    have hbk : bn k c = bn k c' := by rw [g1] at hb; omega
    by_cases hh : h = 12 - k
    · rw [hh]; exact g1
    · exact ih (by omega) hbk (by rw [g2, hbk]) h (by omega) h2
theorem rank0_inj {c c' : Nat → Nat} (hc : okc c) (hc' : okc c') (h : rank0 c = rank0 c') : c = c' := by
  have hb : beans0 c = beans0 c' := by
    have a1 := rank0_lt c
    have a2 := rank0_ge c
    have b1 := rank0_lt c'
    have b2 := rank0_ge c'
    rcases Nat.lt_trichotomy (beans0 c) (beans0 c') with q | q | q
    · have := fo0_mono (show beans0 c + 1 ≤ beans0 c' from q); omega
    · exact q
    · have := fo0_mono (show beans0 c' + 1 ≤ beans0 c from q); omega
  have hr : rwk 12 c (bn 12 c) = rwk 12 c' (bn 12 c) := by
    have h' : fo0 (bn 12 c) + rwk 12 c (bn 12 c) = fo0 (bn 12 c') + rwk 12 c' (bn 12 c') := h
    have hb' : bn 12 c = bn 12 c' := hb
    rw [hb'] at h' ⊢
    omega
  funext x
  by_cases hx : x = 0 ∨ 12 < x
  · rw [hc x hx, hc' x hx]
  · exact rwk_inj c c' 12 (Nat.le_refl _) hb hr x (by omega) (by omega)
/-- fewer beans0, a lower number -/
theorem rank0_beans {c : Nat → Nat} {b : Nat} : rank0 c < fo0 b ↔ beans0 c < b := by
  constructor
  · intro h
    by_cases q : beans0 c < b
    · exact q
    · have := fo0_mono (show b ≤ beans0 c by omega)
      have := rank0_ge c
      omega
  · intro h
    have := fo0_mono (show beans0 c + 1 ≤ b from h)
    have := rank0_lt c
    omega
/-- a heap more, a heap less -/
def cad (c : Nat → Nat) (h : Nat) : Nat → Nat := fun x => if x = h then c x + 1 else c x
def csb (c : Nat → Nat) (h : Nat) : Nat → Nat := fun x => if x = h then c x - 1 else c x
theorem bn_cad (c : Nat → Nat) {h : Nat} : ∀ k, k ≤ 12 → bn k (cad c h) = bn k c + (if 12 - k < h ∧ h ≤ 12 then h else 0) := by
  intro k
  induction k with
  | zero => intro _; simp only [bn]; rw [if_neg (by omega)]
  | succ k ih =>
    intro hk
    simp only [bn]
    rw [ih (by omega)]
    unfold cad
    by_cases e : 12 - k = h
    · rw [if_pos e, if_neg (by omega), if_pos (by omega), Nat.mul_succ]
      omega
    · rw [if_neg e]
      by_cases q : 12 - k < h ∧ h ≤ 12
      · rw [if_pos q, if_pos (by omega)]
        omega
      · rw [if_neg q, if_neg (by omega)]
        omega
theorem beans0_cad (c : Nat → Nat) {h : Nat} (h1 : 1 ≤ h) (h2 : h ≤ 12) : beans0 (cad c h) = beans0 c + h := by
  rw [beans0, bn_cad c 12 (Nat.le_refl _), if_pos (by omega)]
theorem csb_cad (c : Nat → Nat) (h : Nat) : csb (cad c h) h = c := by
  funext x
  unfold csb cad
  by_cases e : x = h
  · simp [e]
  · simp [e]
theorem cad_csb {c : Nat → Nat} {h : Nat} (hc : 0 < c h) : cad (csb c h) h = c := by
  funext x
  unfold csb cad
  by_cases e : x = h
  · subst e; simp; omega
  · simp [e]
theorem beans0_csb {c : Nat → Nat} {h : Nat} (h1 : 1 ≤ h) (h2 : h ≤ 12) (hc : 0 < c h) : beans0 (csb c h) + h = beans0 c := by
  rw [← beans0_cad (csb c h) h1 h2, cad_csb hc]
theorem okc_cad {c : Nat → Nat} {h : Nat} (hc : okc c) (h1 : 1 ≤ h) (h2 : h ≤ 12) : okc (cad c h) := by
  intro x hx
  unfold cad
  rw [if_neg (by omega)]
  exact hc x hx
theorem okc_csb {c : Nat → Nat} {h : Nat} (hc : okc c) : okc (csb c h) := by
  intro x hx
  unfold csb
  split
  · rw [hc x hx]
  · exact hc x hx
theorem cad_comm (c : Nat → Nat) (a b : Nat) : cad (cad c a) b = cad (cad c b) a := by
  funext x
  unfold cad
  grind
theorem csb_cad_ne {c : Nat → Nat} {a b : Nat} (h : a ≠ b) : csb (cad c a) b = cad (csb c b) a := by
  funext x
  unfold csb cad
  grind
/-- without heaps below h, the row counts from h on -/
theorem rwk_low (c : Nat → Nat) (l : Nat) : ∀ k j, j ≤ k → k ≤ 12 → (∀ h, 12 - k < h → h ≤ 12 - j → c h = 0) → rwk k c l = rwk j c l := by
  intro k
  induction k with
  | zero => intro j hj _ _; have : j = 0 := by omega
            subst this; rfl
  | succ k ih =>
    intro j hj hk hz
    by_cases e : j = k + 1
    · subst e; rfl
    · have h0 : c (12 - k) = 0 := hz _ (by omega) (by omega)
      simp only [rwk, h0, smr, Nat.mul_zero, Nat.sub_zero, Nat.zero_add]
      exact ih j (by omega) (by omega) (fun h h1 h2 => hz h (by omega) h2)
theorem rwk_congr {c c' : Nat → Nat} : ∀ k, k ≤ 12 → (∀ h, 12 - k < h → h ≤ 12 → c h = c' h) → ∀ l, rwk k c l = rwk k c' l := by
  intro k
  induction k with
  | zero => intro _ _ l; rfl
  | succ k ih =>
    intro hk hh l
    simp only [rwk]
    rw [hh (12 - k) (by omega) (by omega), ih (by omega) (fun h h1 h2 => hh h (by omega) h2)]
/-- the least heap: it stands behind all without it -/
theorem rank0_least {c : Nat → Nat} {h : Nat} (h1 : 1 ≤ h) (h2 : h ≤ 12) (hc : 0 < c h) (hl : ∀ x, 1 ≤ x → x < h → c x = 0) : rwk 12 c (beans0 c) = wy (12 - h) (beans0 c) + rwk 12 (csb c h) (beans0 c - h) := by
  have hb := beans0_csb h1 h2 hc
  rw [rwk_low c (beans0 c) 12 (13 - h) (by omega) (Nat.le_refl _) (fun x x1 x2 => hl x (by omega) (by omega))]
  rw [rwk_low (csb c h) (beans0 c - h) 12 (13 - h) (by omega) (Nat.le_refl _) (fun x x1 x2 => by unfold csb; rw [if_neg (by omega)]; exact hl x (by omega) (by omega))]
  have e : 13 - h = (12 - h) + 1 := by omega
  rw [e]
  simp only [rwk]
  have e2 : 12 - (12 - h) = h := by omega
  rw [e2]
  obtain ⟨n, hn⟩ : ∃ n, c h = n + 1 := ⟨c h - 1, by omega⟩
  have hcs : csb c h h = n := by unfold csb; rw [if_pos rfl, hn]; rfl
  rw [hn, hcs]
  simp only [smr]
  rw [e2]
  rw [rwk_congr (c := c) (c' := csb c h) (12 - h) (by omega) (fun x x1 x2 => by unfold csb; rw [if_neg (by omega)])]
  rw [Nat.mul_succ, show beans0 c - (h * n + h) = beans0 c - h - h * n by omega]
  omega
theorem rank0_small {c : Nat → Nat} {h : Nat} (h1 : 1 ≤ h) (h2 : h ≤ 12) (hl : ∀ x, 1 ≤ x → x ≤ h → c x = 0) : rwk 12 c (beans0 c) < wy (12 - h) (beans0 c) := by
  rw [rwk_low c (beans0 c) 12 (12 - h) (by omega) (Nat.le_refl _) (fun x x1 x2 => hl x (by omega) (by omega))]
  have hb : ∀ k, k ≤ 12 → 12 - h ≤ k → bn k c = bn (12 - h) c := by
    intro k
    induction k with
    | zero => intro _ q; have : 12 - h = 0 := by omega
              rw [this]
    | succ k ih =>
      intro hk q
      by_cases e : 12 - h = k + 1
      · rw [e]
      · simp only [bn]
        rw [hl (12 - k) (by omega) (by omega), ih (by omega) (by omega)]
        omega
  have e : beans0 c = bn (12 - h) c := hb 12 (Nat.le_refl _) (by omega)
  rw [e]
  exact rwk_lt c (12 - h) (by omega)
theorem rank0_0 {c : Nat → Nat} (hc : okc c) (h : beans0 c = 0) : c = fun _ => 0 := by
  have hz : ∀ k, k ≤ 12 → bn k c = 0 → ∀ h, 12 - k < h → h ≤ 12 → c h = 0 := by
    intro k
    induction k with
    | zero => intro _ _ h h1 h2; omega
    | succ k ih =>
      intro hk hb h h1 h2
      simp only [bn] at hb
      by_cases e : h = 12 - k
      · subst e
        have : (12 - k) * c (12 - k) = 0 := by omega
        rcases Nat.mul_eq_zero.mp this with q | q
        · omega
        · exact q
      · exact ih (by omega) (by omega) h (by omega) h2
  funext x
  by_cases hx : x = 0 ∨ 12 < x
  · exact hc x hx
  · exact hz 12 (Nat.le_refl _) h x (by omega) (by omega)
