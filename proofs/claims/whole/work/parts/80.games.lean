/-! Drawn games: the spec, the class. -/
section DG
variable {F : Nat} {σ : jxS} {M : Nat → List Nat} {c : Nat → Nat}
theorem bq_m31 (x : Int) : jand x 2147483647 = x % 2147483648 := by
  have h1 := pk_and (jI x) (m := jI 2147483647) 31 rfl
  have h2 : (jI x).toBitVec.toNat % 2 ^ 31 < 2 ^ 31 := Nat.mod_lt _ (by decide)
  rw [jand, h1, nI_toInt (by omega), bq_tbv]
  omega
noncomputable def cwt (M : Nat → List Nat) (c : Nat → Nat) (h : Nat) : Nat := jseal (c h * (M h).length)
theorem cwt_eq (M : Nat → List Nat) (c : Nat → Nat) (h : Nat) : cwt M c h = c h * (M h).length := jseal_eq _
theorem cwt_int (M : Nat → List Nat) (c : Nat → Nat) (h : Nat) : (c h : Int) * ((M h).length : Int) = (cwt M c h : Int) := by
  rw [cwt_eq, Int.natCast_mul]
theorem cwt_le (hM : MOK M) (hb : beans c ≤ 22) {h : Nat} (h1 : 1 ≤ h) (h2 : h ≤ 12) : cwt M c h ≤ 924 := by
  have a := count_le (c := c) h1 h2
  have b := MOK_len hM h1 h2
  rw [cwt_eq]
  exact Nat.le_trans (Nat.mul_le_mul (Nat.le_trans a hb) b) (by decide)
theorem cwt_0 {h : Nat} (e : c h = 0) : cwt M c h = 0 := by rw [cwt_eq, e, Nat.zero_mul]
theorem cwt_pos {h i : Nat} (e : i < cwt M c h) : 0 < (M h).length ∧ 0 < c h := by
  rw [cwt_eq] at e
  have p : 0 < c h * (M h).length := by omega
  exact ⟨Nat.pos_of_mul_pos_left p, Nat.pos_of_mul_pos_right p⟩
noncomputable def smw (M : Nat → List Nat) (c : Nat → Nat) (l : List Nat) : Nat := match l with
  | [] => 0
  | h :: t => cwt M c h + smw M c t
noncomputable def pkw (M : Nat → List Nat) (c : Nat → Nat) (l : List Nat) (i : Nat) : Option (Nat × Nat) := match l with
  | [] => none
  | h :: t => if i < cwt M c h then some (h, (M h).getD (i % (M h).length) 0) else pkw M c t (i - cwt M c h)
theorem smw_fil (l : List Nat) : smw M c (l.filter (fun h => decide (0 < c h))) = smw M c l := by
  induction l with
  | nil => rfl
  | cons h l ih =>
    rw [List.filter_cons]
    by_cases q : 0 < c h
    · rw [if_pos (decide_eq_true q), smw, smw, ih]
    · rw [if_neg (by rw [decide_eq_false q]; decide), ih, smw, cwt_0 (by omega), Nat.zero_add]
theorem pkw_fil (l : List Nat) : ∀ i, pkw M c (l.filter (fun h => decide (0 < c h))) i = pkw M c l i := by
  induction l with
  | nil => intro i; rfl
  | cons h l ih =>
    intro i
    rw [List.filter_cons]
    by_cases q : 0 < c h
    · rw [if_pos (decide_eq_true q), pkw, pkw]
      split
      · rfl
      · exact ih _
    · rw [if_neg (by rw [decide_eq_false q]; decide), ih, pkw, cwt_0 (by omega), if_neg (Nat.not_lt_zero _), Nat.sub_zero]
noncomputable def mvt (M : Nat → List Nat) (c : Nat → Nat) : Nat := jseal (smw M c (hsl 12))
theorem mvt_eq (M : Nat → List Nat) (c : Nat → Nat) : mvt M c = smw M c (hsl 12) := jseal_eq _
noncomputable def pkt (M : Nat → List Nat) (c : Nat → Nat) (i : Nat) : Option (Nat × Nat) := pkw M c (hsl 12) i
theorem mvt_dh (M : Nat → List Nat) (c : Nat → Nat) : smw M c (dh c) = mvt M c := by
  rw [mvt_eq, dh_eq]
  exact smw_fil (hsl 12)
theorem pkt_dh (M : Nat → List Nat) (c : Nat → Nat) (i : Nat) : pkw M c (dh c) i = pkt M c i := by
  rw [pkt, dh_eq]
  exact pkw_fil (hsl 12) i
theorem pkw_ex : ∀ (l : List Nat) (i : Nat), i < smw M c l → ∃ o, pkw M c l i = some o ∧ o.1 ∈ l ∧ o.2 ∈ M o.1 ∧ 0 < c o.1 := by
  intro l
  induction l with
  | nil => intro i h; rw [smw] at h; omega
  | cons h l ih =>
    intro i q
    rw [smw] at q
    rw [pkw]
    by_cases z : i < cwt M c h
    · obtain ⟨p1, p2⟩ := cwt_pos z
      refine ⟨_, if_pos z, List.mem_cons_self .., ?_, p2⟩
      have kl : i % (M h).length < (M h).length := Nat.mod_lt _ p1
      have ge : (M h)[i % (M h).length]? = some ((M h).getD (i % (M h).length) 0) := by
        rw [List.getD_eq_getElem?_getD, List.getElem?_eq_getElem kl]; rfl
      exact List.mem_of_getElem? ge
    · obtain ⟨o, o1, o2, o3⟩ := ih (i - cwt M c h) (by omega)
      exact ⟨o, by rw [if_neg z]; exact o1, List.mem_cons_of_mem _ o2, o3⟩
theorem pkt_ex {i : Nat} (h : i < mvt M c) : ∃ o, pkt M c i = some o ∧ o ∈ ops M c := by
  rw [← mvt_dh] at h
  obtain ⟨o, o1, o2, o3, o4⟩ := pkw_ex (dh c) i h
  rw [pkt_dh] at o1
  exact ⟨o, o1, ops_mem.mpr ⟨⟨(dh_mem.mp o2).1, o4⟩, o3⟩⟩
theorem smw_le (hM : MOK M) (hb : beans c ≤ 22) : ∀ (l : List Nat), (∀ h, h ∈ l → 1 ≤ h ∧ h ≤ 12) → smw M c l ≤ 924 * l.length := by
  intro l
  induction l with
  | nil => intro _; exact Nat.le_refl _
  | cons h l ih =>
    intro q
    have a := cwt_le hM hb (q h (List.mem_cons_self ..)).1 (q h (List.mem_cons_self ..)).2
    have b := ih (fun x hx => q x (List.mem_cons_of_mem _ hx))
    rw [smw, List.length_cons]
    omega
theorem mvt_le (hM : MOK M) (hb : beans c ≤ 22) : mvt M c ≤ 11088 := by
  have a := smw_le hM hb (dh c) (fun h hh => (dh_mem.mp hh).1)
  have b := dh_len c
  rw [mvt_dh] at a
  omega
theorem mvt_0 (hc : okc c) (h : beans c = 0) : mvt M c = 0 := by
  have e := rank_0 hc h
  have : ∀ x, c x = 0 := fun x => by rw [e]
  have k : ∀ l, smw M c l = 0 := by
    intro l
    induction l with
    | nil => rfl
    | cons h l ih => rw [smw, cwt_0 (this h), ih]
  rw [mvt_eq]
  exact k _
end DG
