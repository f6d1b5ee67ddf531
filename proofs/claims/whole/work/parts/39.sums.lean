/-! Heaps don't touch one another: lengths add up. -/
noncomputable def hmo (M : Nat → List Nat) : Nat → Nat := rc 0 (fun h f => if h = 0 then 0 else mxf 0 (((M h).filter (fun m => decide (m / 13 < h ∧ m % 13 < h))).map (fun m => 1 + f (m / 13) + f (m % 13))))
noncomputable def hle (M : Nat → List Nat) : Nat → Nat := rc 0 (fun h f => if h = 0 then 0 else mnf false 0 (((M h).filter (fun m => decide (m / 13 < h ∧ m % 13 < h))).map (fun m => 1 + f (m / 13) + f (m % 13))))
theorem hmo_eq0 (M : Nat → List Nat) (h : Nat) : hmo M h = if h = 0 then 0 else mxf 0 (((M h).filter (fun m => decide (m / 13 < h ∧ m % 13 < h))).map (fun m => 1 + hmo M (m / 13) + hmo M (m % 13))) := by
  refine rc_eq (X := Nat) 0 (fun h f => if h = 0 then 0 else mxf 0 (((M h).filter (fun m => decide (m / 13 < h ∧ m % 13 < h))).map (fun m => 1 + f (m / 13) + f (m % 13)))) (fun p f g hh => ?_) h
  show (if p = 0 then 0 else mxf 0 _) = (if p = 0 then 0 else mxf 0 _)
  rw [List.map_congr_left (fun m hm => by
    have := of_decide_eq_true (List.mem_filter.mp hm).2
    rw [hh _ this.1, hh _ this.2])]
theorem hle_eq0 (M : Nat → List Nat) (h : Nat) : hle M h = if h = 0 then 0 else mnf false 0 (((M h).filter (fun m => decide (m / 13 < h ∧ m % 13 < h))).map (fun m => 1 + hle M (m / 13) + hle M (m % 13))) := by
  refine rc_eq (X := Nat) 0 (fun h f => if h = 0 then 0 else mnf false 0 (((M h).filter (fun m => decide (m / 13 < h ∧ m % 13 < h))).map (fun m => 1 + f (m / 13) + f (m % 13)))) (fun p f g hh => ?_) h
  show (if p = 0 then 0 else mnf false 0 _) = (if p = 0 then 0 else mnf false 0 _)
  rw [List.map_congr_left (fun m hm => by
    have := of_decide_eq_true (List.mem_filter.mp hm).2
    rw [hh _ this.1, hh _ this.2])]
theorem M_fil {M : Nat → List Nat} (hM : MOK M) {h : Nat} (h1 : 1 ≤ h) (h2 : h ≤ 12) : (M h).filter (fun m => decide (m / 13 < h ∧ m % 13 < h)) = M h := List.filter_eq_self.mpr (fun m hm => by
    have := (hM h h1 h2).2 m hm
    exact decide_eq_true (by omega))
theorem hmo_eq {M : Nat → List Nat} (hM : MOK M) {h : Nat} (h1 : 1 ≤ h) (h2 : h ≤ 12) : hmo M h = mxf 0 ((M h).map (fun m => 1 + hmo M (m / 13) + hmo M (m % 13))) := by
  rw [hmo_eq0, if_neg (by omega), M_fil hM h1 h2]
theorem hle_eq {M : Nat → List Nat} (hM : MOK M) {h : Nat} (h1 : 1 ≤ h) (h2 : h ≤ 12) : hle M h = mnf false 0 ((M h).map (fun m => 1 + hle M (m / 13) + hle M (m % 13))) := by
  rw [hle_eq0, if_neg (by omega), M_fil hM h1 h2]
theorem hmo_0 (M : Nat → List Nat) : hmo M 0 = 0 := by rw [hmo_eq0]; rfl
theorem hle_0 (M : Nat → List Nat) : hle M 0 = 0 := by rw [hle_eq0]; rfl
theorem hml_le {M : Nat → List Nat} (hM : MOK M) : ∀ h, h ≤ 12 → hmo M h ≤ h ∧ hle M h ≤ h := by
  intro h
  induction h using Nat.strongRecOn with
  | ind h ih =>
    intro h2
    by_cases e : h = 0
    · subst e; rw [hmo_0, hle_0]; exact ⟨Nat.le_refl _, Nat.le_refl _⟩
    · rw [hmo_eq hM (by omega) h2, hle_eq hM (by omega) h2]
      refine ⟨mxf_le (fun x hx => ?_) 0 (by omega), mnf_le (fun x hx => ?_) false 0 (by omega)⟩
      · obtain ⟨m, hm, rfl⟩ := List.mem_map.mp hx
        have a := (hM h (by omega) h2).2 m hm
        have b := ih (m / 13) (by omega) (by omega)
        have c := ih (m % 13) (by omega) (by omega)
        omega
      · obtain ⟨m, hm, rfl⟩ := List.mem_map.mp hx
        have a := (hM h (by omega) h2).2 m hm
        have b := ih (m / 13) (by omega) (by omega)
        have c := ih (m % 13) (by omega) (by omega)
        omega
def lsm (f : Nat → Nat) (c : Nat → Nat) (n : Nat) : Nat := match n with
  | 0 => 0
  | n + 1 => c (12 - n) * f (12 - n) + lsm f c n
noncomputable def lsc (f : Nat → Nat) (c : Nat → Nat) : Nat := jseal (lsm f c 12)
theorem lsc_eq (f c : Nat → Nat) : lsc f c = lsm f c 12 := jseal_eq _
theorem lsm_cad {f : Nat → Nat} {c : Nat → Nat} {h : Nat} : ∀ n, n ≤ 12 → lsm f (cad c h) n = lsm f c n + (if 12 - n < h ∧ h ≤ 12 then f h else 0) := by
  intro n
  induction n with
  | zero => intro _; simp only [lsm]; rw [if_neg (by omega)]
  | succ n ih =>
    intro hn
    simp only [lsm]
    rw [ih (by omega)]
    by_cases e : 12 - n = h
    · have this : cad c h (12 - n) = c (12 - n) + 1 := by unfold cad; rw [if_pos e]
      rw [this, if_neg (by omega), if_pos (by omega), Nat.add_mul, Nat.one_mul, e]
      omega
    · have this : cad c h (12 - n) = c (12 - n) := by unfold cad; rw [if_neg e]
      rw [this]
      by_cases q : 12 - n < h ∧ h ≤ 12
      · rw [if_pos q, if_pos (by omega)]; omega
      · rw [if_neg q, if_neg (by omega)]; omega
theorem lsc_cad {f : Nat → Nat} {c : Nat → Nat} {h : Nat} (h1 : 1 ≤ h) (h2 : h ≤ 12) : lsc f (cad c h) = lsc f c + f h := by
  rw [lsc_eq, lsc_eq, lsm_cad 12 (Nat.le_refl _), if_pos (by omega)]
theorem lsc_csb {f : Nat → Nat} {c : Nat → Nat} {h : Nat} (h1 : 1 ≤ h) (h2 : h ≤ 12) (hc : 0 < c h) : lsc f (csb c h) + f h = lsc f c := by
  rw [← lsc_cad h1 h2, cad_csb hc]
theorem lsc_ca0 {f : Nat → Nat} {c : Nat → Nat} {h : Nat} (f0 : f 0 = 0) (h2 : h ≤ 12) : lsc f (ca0 c h) = lsc f c + f h := by
  unfold ca0
  by_cases e : h = 0
  · subst e; rw [if_pos rfl, f0]; rfl
  · rw [if_neg e, lsc_cad (by omega) h2]
theorem lsc_tgt {f : Nat → Nat} {c : Nat → Nat} {h m : Nat} (f0 : f 0 = 0) (h1 : 1 ≤ h) (h2 : h ≤ 12) (hc : 0 < c h) (hm : m / 13 ≤ 12) : lsc f (tgt c h m) + f h = lsc f c + f (m / 13) + f (m % 13) := by
  rw [tgt, lsc_ca0 f0 (by omega), lsc_ca0 f0 hm]
  have := lsc_csb (f := f) h1 h2 hc
  omega
theorem lsm_zero {f : Nat → Nat} {c : Nat → Nat} (h : ∀ x, 1 ≤ x → x ≤ 12 → 0 < c x → f x = 0) : ∀ n, n ≤ 12 → lsm f c n = 0 := by
  intro n
  induction n with
  | zero => intro _; rfl
  | succ n ih =>
    intro hn
    simp only [lsm]
    rw [ih (by omega)]
    by_cases q : 0 < c (12 - n)
    · rw [h _ (by omega) (by omega) q, Nat.mul_zero]
    · rw [show c (12 - n) = 0 by omega, Nat.zero_mul]
theorem lsc_ge {f : Nat → Nat} {c : Nat → Nat} {h : Nat} (h1 : 1 ≤ h) (h2 : h ≤ 12) (hc : 0 < c h) : f h ≤ lsc f c := by
  have := lsc_csb (f := f) h1 h2 hc
  omega
theorem lsc_beans {f : Nat → Nat} {c : Nat → Nat} (hf : ∀ h, h ≤ 12 → f h ≤ h) : lsc f c ≤ beans c := by
  have key : ∀ n, n ≤ 12 → lsm f c n ≤ bn n c := by
    intro n
    induction n with
    | zero => intro _; exact Nat.le_refl _
    | succ n ih =>
      intro hn
      have a : c (12 - n) * f (12 - n) ≤ c (12 - n) * (12 - n) := Nat.mul_le_mul_left _ (hf _ (by omega))
      rw [Nat.mul_comm (c (12 - n)) (12 - n)] at a
      exact Nat.add_le_add a (ih (by omega))
  rw [lsc_eq, beans_eq]
  exact key 12 (Nat.le_refl _)
theorem T_rank {M : Nat → List Nat} {c : Nat → Nat} (hc : okc c) (hb : beans c ≤ 22) : T M (rank c) = tl M c := by rw [T_eq, un_rank hc hb]
theorem ops_nil {M : Nat → List Nat} {c : Nat → Nat} (h : (tl M c).isEmpty = true) {x : Nat} (h1 : 1 ≤ x) (h2 : x ≤ 12) (hc : 0 < c x) : M x = [] := by
  cases e : M x with
  | nil => rfl
  | cons m l =>
    have : (x, m) ∈ ops M c := ops_mem.mpr ⟨⟨⟨h1, h2⟩, hc⟩, by rw [e]; exact List.mem_cons_self ..⟩
    rw [List.isEmpty_iff, tl, List.map_eq_nil_iff] at h
    rw [h] at this
    simp at this
theorem fwms_sum {M : Nat → List Nat} (hM : MOK M) : ∀ (n : Nat) (c : Nat → Nat), okc c → beans c ≤ 22 → beans c ≤ n → fw M (rank c) = lsc (hle M) c ∧ ms M (rank c) = lsc (hmo M) c := by
  intro n
  induction n with
  | zero =>
    intro c hc hb hn
    have hz : beans c = 0 := by omega
    have f1 := lsc_beans (f := hle M) (c := c) (fun h hh => (hml_le hM h hh).2)
    have f2 := lsc_beans (f := hmo M) (c := c) (fun h hh => (hml_le hM h hh).1)
    have g := ms_le hM (rank c)
    rw [un_rank hc hb] at g
    omega
  | succ n ih =>
    intro c hc hb hn
    rw [fw_eq hM, ms_eq hM, T_rank hc hb]
    by_cases z : (tl M c).isEmpty = true
    · rw [if_pos z, if_pos z, lsc_eq, lsc_eq, lsm_zero (fun x x1 x2 x3 => by rw [hle_eq hM x1 x2, ops_nil z x1 x2 x3]; rfl) 12 (Nat.le_refl _), lsm_zero (fun x x1 x2 x3 => by rw [hmo_eq hM x1 x2, ops_nil z x1 x2 x3]; rfl) 12 (Nat.le_refl _)]
      exact ⟨rfl, rfl⟩
    · rw [if_neg z, if_neg z]
      have val : ∀ o, o ∈ ops M c → fw M (rank (tgt c o.1 o.2)) + hle M o.1 = lsc (hle M) c + hle M (o.2 / 13) + hle M (o.2 % 13) ∧ ms M (rank (tgt c o.1 o.2)) + hmo M o.1 = lsc (hmo M) c + hmo M (o.2 / 13) + hmo M (o.2 % 13) := fun o ho => by
        obtain ⟨⟨⟨h1, h2⟩, h3⟩, h4⟩ := ops_mem.mp ho
        obtain ⟨a1, a2⟩ := (hM o.1 h1 h2).2 o.2 h4
        obtain ⟨t1, t2⟩ := ops_tgt hM hc ho
        obtain ⟨i1, i2⟩ := ih (tgt c o.1 o.2) t1 (by omega) (by omega)
        rw [i1, i2]
        exact ⟨lsc_tgt (hle_0 M) h1 h2 h3 (by omega), lsc_tgt (hmo_0 M) h1 h2 h3 (by omega)⟩
      obtain ⟨o0, ho0⟩ : ∃ o, o ∈ ops M c := by
        cases e : ops M c with
        | nil => exact absurd (by rw [tl, e]; rfl) z
        | cons o l => exact ⟨o, List.mem_cons_self ..⟩
      obtain ⟨⟨⟨h1, h2⟩, h3⟩, h4⟩ := ops_mem.mp ho0
      have ne : ∀ f : Nat → Nat, (M o0.1).map f ≠ [] := fun f q => by
        rw [List.map_eq_nil_iff] at q
        rw [q] at h4
        simp at h4
      constructor
      · obtain ⟨m1, m2⟩ := mnf_false (ne (fun m => 1 + hle M (m / 13) + hle M (m % 13))) 0
        rw [← hle_eq hM h1 h2] at m1
        obtain ⟨m, hm, e⟩ := List.mem_map.mp m1
        have om : (o0.1, m) ∈ ops M c := ops_mem.mpr ⟨⟨⟨h1, h2⟩, h3⟩, hm⟩
        have v0 := (val _ om).1
        have g := lsc_ge (f := hle M) h1 h2 h3
        simp only at v0
        have r : mnf false 0 ((tl M c).map (fw M)) = lsc (hle M) c - 1 := by
          refine mn_is (List.mem_map.mpr ⟨rank (tgt c o0.1 m), List.mem_map.mpr ⟨_, om, rfl⟩, by omega⟩) (fun x hx => ?_)
          obtain ⟨q, hq, rfl⟩ := List.mem_map.mp hx
          obtain ⟨o, ho, rfl⟩ := List.mem_map.mp hq
          have v := (val o ho).1
          obtain ⟨⟨⟨k1, k2⟩, k3⟩, k4⟩ := ops_mem.mp ho
          have b := (mnf_false (l := (M o.1).map (fun m => 1 + hle M (m / 13) + hle M (m % 13))) (fun q => by rw [List.map_eq_nil_iff] at q; rw [q] at k4; simp at k4) 0).2 _ (List.mem_map.mpr ⟨o.2, k4, rfl⟩)
          rw [← hle_eq hM k1 k2] at b
          omega
        rw [r]
        omega
      · have m1 : hmo M o0.1 ∈ (M o0.1).map (fun m => 1 + hmo M (m / 13) + hmo M (m % 13)) := by
          have e := hmo_eq hM h1 h2
          match hl : (M o0.1).map (fun m => 1 + hmo M (m / 13) + hmo M (m % 13)), ne (fun m => 1 + hmo M (m / 13) + hmo M (m % 13)) with
          | x :: l, _ =>
            rw [hl] at e
            have key : ∀ (l : List Nat) (a : Nat), mxf a l = a ∨ mxf a l ∈ l := by
              intro l
              induction l with
              | nil => intro a; exact Or.inl rfl
              | cons y l ih =>
                intro a
                simp only [mxf]
                rcases ih (if a < y then y else a) with q | q
                · by_cases w : a < y
                  · rw [if_pos w] at q ⊢; rw [q]; exact Or.inr (List.mem_cons_self ..)
                  · rw [if_neg w] at q ⊢; exact Or.inl q
                · exact Or.inr (List.mem_cons_of_mem _ q)
            rw [e]
            rcases key (x :: l) 0 with q | q
            · have x1 : x ∈ (M o0.1).map (fun m => 1 + hmo M (m / 13) + hmo M (m % 13)) := by rw [hl]; exact List.mem_cons_self ..
              obtain ⟨m, _, hx⟩ := List.mem_map.mp x1
              have := mxf_mem (a := 0) (l := x :: l) (x := x) (List.mem_cons_self ..)
              omega
            · exact q
        obtain ⟨m, hm, e⟩ := List.mem_map.mp m1
        have om : (o0.1, m) ∈ ops M c := ops_mem.mpr ⟨⟨⟨h1, h2⟩, h3⟩, hm⟩
        have v0 := (val _ om).2
        have g := lsc_ge (f := hmo M) h1 h2 h3
        simp only at v0
        have r : mxf 0 ((tl M c).map (ms M)) = lsc (hmo M) c - 1 := by
          refine mx_is (Or.inl (List.mem_map.mpr ⟨rank (tgt c o0.1 m), List.mem_map.mpr ⟨_, om, rfl⟩, by omega⟩)) (fun x hx => ?_) (by omega)
          obtain ⟨q, hq, rfl⟩ := List.mem_map.mp hx
          obtain ⟨o, ho, rfl⟩ := List.mem_map.mp hq
          have v := (val o ho).2
          obtain ⟨⟨⟨k1, k2⟩, k3⟩, k4⟩ := ops_mem.mp ho
          have b := mxf_mem (a := 0) (l := (M o.1).map (fun m => 1 + hmo M (m / 13) + hmo M (m % 13))) (List.mem_map.mpr ⟨o.2, k4, rfl⟩)
          rw [← hmo_eq hM k1 k2] at b
          omega
        rw [r]
        omega
