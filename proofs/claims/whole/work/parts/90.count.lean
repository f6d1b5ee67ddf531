/-! How many links there are. -/
section LK
theorem pigeonD : ∀ (N : Nat) (l : List Nat), l.Nodup → (∀ x, x ∈ l → x < N) → l.length ≤ N := by
  intro N
  induction N with
  | zero =>
    intro l _ h
    cases l with
    | nil => exact Nat.le_refl _
    | cons x t => exact absurd (h x (List.mem_cons_self ..)) (Nat.not_lt_zero _)
  | succ N ih =>
    intro l hn h
    have key : ∀ (l : List Nat), l.Nodup → l.length ≤ (l.filter (fun x => decide (x ≠ N))).length + 1 := by
      intro l
      induction l with
      | nil => intro _; exact Nat.zero_le _
      | cons x t iht =>
        intro hn
        rw [List.nodup_cons] at hn
        have i := iht hn.2
        by_cases e : x = N
        · subst e
          have : t.filter (fun y => decide (y ≠ x)) = t := List.filter_eq_self.mpr (fun y hy => decide_eq_true (fun z => hn.1 (z ▸ hy)))
          rw [List.filter_cons, if_neg (by simp), this, List.length_cons]
          exact Nat.le_refl _
        · rw [List.filter_cons, if_pos (by simpa using e), List.length_cons, List.length_cons]
          omega
    have a := key l hn
    have b := ih (l.filter (fun x => decide (x ≠ N))) (hn.filter _) (fun x hx => by
      obtain ⟨m1, m2⟩ := List.mem_filter.mp hx
      have := h x m1
      have := of_decide_eq_true m2
      omega)
    omega
/-- the place of a link -/
noncomputable def lkx (c : Nat → Nat) (h : Nat) : Nat := jsn h + rank (csb c h)
theorem jsn_step {h : Nat} (h1 : 1 ≤ h) (h2 : h ≤ 12) : jsn (h + 1) = jsn h + fo (23 - h) := by
  obtain ⟨k, rfl⟩ : ∃ k, h = k + 1 := ⟨h - 1, by omega⟩
  show jsn (k + 1) + fo (22 - k) = _
  rw [show 23 - (k + 1) = 22 - k by omega]
theorem jsn_mono {a b : Nat} (h1 : 1 ≤ a) (h : a ≤ b) (h2 : b ≤ 13) : jsn a ≤ jsn b := by
  induction b with
  | zero => omega
  | succ b ih =>
    by_cases e : a = b + 1
    · subst e; exact Nat.le_refl _
    · have := ih (by omega) (by omega)
      rw [jsn_step (by omega) (by omega)]
      omega
theorem lkx_b {c : Nat → Nat} {h : Nat} (hb : beans c ≤ 22) (h1 : 1 ≤ h) (h2 : h ≤ 12) (hp : 0 < c h) : jsn h ≤ lkx c h ∧ lkx c h < jsn (h + 1) := by
  have b := beans_csb h1 h2 hp
  have r : rank (csb c h) < fo (23 - h) := rank_beans.mpr (by omega)
  rw [jsn_step h1 h2, lkx]
  omega
theorem lkx_inj {c d : Nat → Nat} {h g : Nat} (hc : okc c) (hd : okc d) (hb : beans c ≤ 22) (hb2 : beans d ≤ 22) (h1 : 1 ≤ h) (h2 : h ≤ 12) (hp : 0 < c h) (g1 : 1 ≤ g) (g2 : g ≤ 12) (gp : 0 < d g) (e : lkx c h = lkx d g) : h = g ∧ c = d := by
  have a := lkx_b hb h1 h2 hp
  have b := lkx_b hb2 g1 g2 gp
  have hg : h = g := by
    by_cases q : h < g
    · have := jsn_mono (a := h + 1) (b := g) (by omega) (by omega) (by omega)
      omega
    · by_cases q2 : g < h
      · have := jsn_mono (a := g + 1) (b := h) (by omega) (by omega) (by omega)
        omega
      · omega
  subst hg
  refine ⟨rfl, ?_⟩
  have r : rank (csb c h) = rank (csb d h) := by rw [lkx, lkx] at e; omega
  have s := rank_inj (okc_csb hc) (okc_csb hd) r
  rw [← cad_csb hp, ← cad_csb gp, s]
noncomputable def lps (n : Nat) : List Nat := match n with
  | 0 => []
  | n + 1 => lps n ++ (dh (un n)).map (lkx (un n))
theorem lps_len (n : Nat) : (lps n).length = ps n := by
  induction n with
  | zero => rw [ps_zero]; rfl
  | succ n ih => rw [lps, List.length_append, List.length_map, ih, ps_step]
theorem lps_mem {x : Nat} : ∀ n, x ∈ lps n → ∃ p h, p < n ∧ h ∈ dh (un p) ∧ x = lkx (un p) h := by
  intro n
  induction n with
  | zero => intro h; exact absurd h List.not_mem_nil
  | succ n ih =>
    intro h
    rw [lps] at h
    rcases List.mem_append.mp h with q | q
    · obtain ⟨p, g, a, b, d⟩ := ih q
      exact ⟨p, g, by omega, b, d⟩
    · obtain ⟨g, a, b⟩ := List.mem_map.mp q
      exact ⟨n, g, by omega, a, b.symm⟩
theorem lps_nd : ∀ n, n ≤ 4224 → (lps n).Nodup := by
  intro n
  induction n with
  | zero => intro _; exact List.nodup_nil
  | succ n ih =>
    intro hn
    obtain ⟨u1, u2, u3⟩ := un_ok (p := n) (by omega)
    rw [lps, List.nodup_append]
    refine ⟨ih (by omega), ?_, fun a ha b hb e => ?_⟩
    · have sd : (dh (un n)).Pairwise (fun x y => lkx (un n) x ≠ lkx (un n) y) := by
        refine List.Pairwise.imp_of_mem (fun {x y} hx hy q e => ?_) (dh_sorted (un n))
        obtain ⟨⟨a1, a2⟩, a3⟩ := dh_mem.mp hx
        obtain ⟨⟨b1, b2⟩, b3⟩ := dh_mem.mp hy
        have := (lkx_inj u1 u1 u2 u2 a1 a2 a3 b1 b2 b3 e).1
        omega
      exact List.pairwise_map.mpr sd
    · obtain ⟨p, h, p1, p2, p3⟩ := lps_mem n ha
      obtain ⟨g, g1, g2⟩ := List.mem_map.mp hb
      obtain ⟨v1, v2, v3⟩ := un_ok (p := p) (by omega)
      obtain ⟨⟨a1, a2⟩, a3⟩ := dh_mem.mp p2
      obtain ⟨⟨b1, b2⟩, b3⟩ := dh_mem.mp g1
      have q := (lkx_inj v1 u1 v2 u2 a1 a2 a3 b1 b2 b3 (by rw [← p3, g2]; exact e)).2
      rw [q, u3] at v3
      omega
theorem ps_top : ps 4224 ≤ 13724 := by
  rw [← lps_len]
  refine pigeonD _ _ (lps_nd 4224 (Nat.le_refl _)) (fun x hx => ?_)
  obtain ⟨p, h, p1, p2, p3⟩ := lps_mem 4224 hx
  obtain ⟨v1, v2, v3⟩ := un_ok p1
  obtain ⟨⟨a1, a2⟩, a3⟩ := dh_mem.mp p2
  have b := lkx_b v2 a1 a2 a3
  have m := jsn_mono (a := h + 1) (b := 13) (by omega) (by omega) (by omega)
  rw [jsn_13] at m
  omega
end LK
