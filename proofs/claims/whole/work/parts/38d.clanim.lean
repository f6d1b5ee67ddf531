/-! Nimbers; the class's genus, nimber, tame. -/
theorem xor_le : ∀ a b : Nat, a ^^^ b ≤ a + b := by
  intro a
  induction a using Nat.strongRecOn with
  | ind a ih =>
    intro b
    by_cases h : a = 0
    · subst h; simp
    · have i := ih (a / 2) (by omega) (b / 2)
      have d : (a ^^^ b) / 2 = a / 2 ^^^ b / 2 := Nat.xor_div_two
      have m : ((a ^^^ b) % 2 = 1) ↔ ¬ ((a % 2 = 1) ↔ (b % 2 = 1)) := Nat.xor_mod_two_eq_one
      omega
noncomputable def nim (M : Nat → List Nat) : Nat → Nat := rc 0 (fun h f => if h = 0 then 0 else mex (((M h).filter (fun m => decide (m / 13 < h ∧ m % 13 < h))).map (fun m => f (m / 13) ^^^ f (m % 13))))
theorem nim_eq0 (M : Nat → List Nat) (h : Nat) : nim M h = if h = 0 then 0 else mex (((M h).filter (fun m => decide (m / 13 < h ∧ m % 13 < h))).map (fun m => nim M (m / 13) ^^^ nim M (m % 13))) := by
  refine rc_eq (X := Nat) 0 (fun h f => if h = 0 then 0 else mex (((M h).filter (fun m => decide (m / 13 < h ∧ m % 13 < h))).map (fun m => f (m / 13) ^^^ f (m % 13)))) (fun p f g hh => ?_) h
  show (if p = 0 then 0 else mex _) = (if p = 0 then 0 else mex _)
  rw [List.map_congr_left (fun m hm => by
    have := of_decide_eq_true (List.mem_filter.mp hm).2
    rw [hh _ this.1, hh _ this.2])]
theorem nim_0 (M : Nat → List Nat) : nim M 0 = 0 := by rw [nim_eq0]; rfl
theorem nim_eq {M : Nat → List Nat} (hM : MOK M) {h : Nat} (h1 : 1 ≤ h) (h2 : h ≤ 12) : nim M h = mex ((M h).map (fun m => nim M (m / 13) ^^^ nim M (m % 13))) := by
  rw [nim_eq0, if_neg (by omega)]
  have : (M h).filter (fun m => decide (m / 13 < h ∧ m % 13 < h)) = M h := List.filter_eq_self.mpr (fun m hm => by
    have := (hM h h1 h2).2 m hm
    exact decide_eq_true (by omega))
  rw [this]
theorem nim_le {M : Nat → List Nat} (hM : MOK M) : ∀ h, h ≤ 12 → nim M h ≤ h := by
  intro h
  induction h using Nat.strongRecOn with
  | ind h ih =>
    intro h2
    by_cases e : h = 0
    · subst e; rw [nim_0]; exact Nat.le_refl _
    · rw [nim_eq hM (by omega) h2]
      refine mex_le (fun x hx => ?_)
      obtain ⟨m, hm, rfl⟩ := List.mem_map.mp hx
      have a := (hM h (by omega) h2).2 m hm
      have b := ih (m / 13) (by omega) (by omega)
      have c := ih (m % 13) (by omega) (by omega)
      have d := xor_le (nim M (m / 13)) (nim M (m % 13))
      omega
theorem nim_16 {M : Nat → List Nat} (hM : MOK M) {h : Nat} (h2 : h ≤ 12) : nim M h < 2 ^ 4 := by
  have := nim_le hM h h2
  omega
/-- the nimber of heaps of the n greatest sizes -/
noncomputable def xr (M : Nat → List Nat) (c : Nat → Nat) (n : Nat) : Nat := match n with
  | 0 => 0
  | n + 1 => (if c (12 - n) % 2 = 1 then nim M (12 - n) else 0) ^^^ xr M c n
noncomputable def nimc (M : Nat → List Nat) (c : Nat → Nat) : Nat := jseal (xr M c 12)
theorem nimc_eq (M : Nat → List Nat) (c : Nat → Nat) : nimc M c = xr M c 12 := jseal_eq _
theorem xr_lt {M : Nat → List Nat} (hM : MOK M) (c : Nat → Nat) : ∀ n, n ≤ 12 → xr M c n < 2 ^ 4 := by
  intro n
  induction n with
  | zero => intro _; exact Nat.two_pow_pos 4
  | succ n ih =>
    intro hn
    refine Nat.xor_lt_two_pow ?_ (ih (by omega))
    split
    · exact nim_16 hM (by omega)
    · exact Nat.two_pow_pos 4
theorem nimc_lt {M : Nat → List Nat} (hM : MOK M) (c : Nat → Nat) : nimc M c < 2 ^ 4 := by rw [nimc_eq]; exact xr_lt hM c 12 (Nat.le_refl _)
theorem xr_csb {M : Nat → List Nat} {c : Nat → Nat} {h : Nat} (h2 : h ≤ 12) (hc : 0 < c h) : ∀ n, n ≤ 12 → xr M c n = if 12 - n < h then nim M h ^^^ xr M (csb c h) n else xr M (csb c h) n := by
  intro n
  induction n with
  | zero => intro _; rw [if_neg (by omega)]; rfl
  | succ n ih =>
    intro hn
    simp only [xr]
    rw [ih (by omega)]
    by_cases e : 12 - n = h
    · have a1 : ¬ 12 - n < h := by omega
      have a2 : 12 - (n + 1) < h := by omega
      have this : csb c h h = c h - 1 := by unfold csb; rw [if_pos rfl]
      rw [if_neg a1, if_pos a2, e, this]
      by_cases q : c h % 2 = 1
      · have q2 : ¬ (c h - 1) % 2 = 1 := by omega
        rw [if_pos q, if_neg q2, Nat.zero_xor]
      · have q2 : (c h - 1) % 2 = 1 := by omega
        rw [if_neg q, if_pos q2, ← Nat.xor_assoc, Nat.xor_self]
    · have this : csb c h (12 - n) = c (12 - n) := by unfold csb; rw [if_neg e]
      rw [this]
      by_cases q : 12 - n < h
      · have a2 : 12 - (n + 1) < h := by omega
        rw [if_pos q, if_pos a2, ← Nat.xor_assoc, ← Nat.xor_assoc, Nat.xor_comm (nim M h)]
      · have a2 : ¬ 12 - (n + 1) < h := by omega
        rw [if_neg q, if_neg a2]
theorem nimc_csb {M : Nat → List Nat} {c : Nat → Nat} {h : Nat} (h1 : 1 ≤ h) (h2 : h ≤ 12) (hc : 0 < c h) : nimc M c = nim M h ^^^ nimc M (csb c h) := by
  rw [nimc_eq, nimc_eq, xr_csb h2 hc 12 (Nat.le_refl _), if_pos (by omega)]
theorem xr_0 (M : Nat → List Nat) : ∀ n, xr M (fun _ => 0) n = 0 := by
  intro n
  induction n with
  | zero => rfl
  | succ n ih => simp only [xr, ih]; simp
theorem nimc_0 (M : Nat → List Nat) : nimc M (fun _ => 0) = 0 := by rw [nimc_eq, xr_0]
/-- the least heap of a position -/
theorem fo_1 : fo 1 = 1 := (fo_tab 1 (by decide)).trans (by decide)
theorem rank_pos {c : Nat → Nat} : 0 < rank c ↔ 0 < beans c := by
  have := rank_beans (c := c) (b := 1)
  rw [fo_1] at this
  omega
theorem dh_ne {c : Nat → Nat} (hc : okc c) (hb : 0 < beans c) : ∃ h, (dh c)[0]? = some h := by
  cases e : dh c with
  | nil =>
    exfalso
    have : c = fun _ => 0 := by
      funext x
      by_cases hx : x = 0 ∨ 12 < x
      · exact hc x hx
      · exact Classical.byContradiction fun q => by
          have := (dh_mem (c := c) (h := x)).mpr ⟨by omega, by omega⟩
          rw [e] at this
          simp at this
    rw [this, beans_eq] at hb
    exact absurd hb (by decide)
  | cons h l => exact ⟨h, rfl⟩
theorem ca_peel {F : Nat} {σ : jxS} (hP : PosOK σ) {c : Nat → Nat} (hc : okc c) (hb : beans c ≤ 22) (h0 : 0 < beans c) : ∃ h, (1 ≤ h ∧ h ≤ 12) ∧ 0 < c h ∧ (∀ x, 1 ≤ x → x < h → c x = 0) ∧ Positions_firstPart F σ (rank c) = some ((ps (rank c) : Int), σ) ∧ Positions_heapOf F σ (ps (rank c) : Int) = some ((h : Int), σ) ∧ Positions_restOf F σ (ps (rank c) : Int) = some ((rank (csb c h) : Int), σ) := by
  obtain ⟨h, hh⟩ := dh_ne hc h0
  obtain ⟨q1, q2⟩ := dh_mem.mp (List.mem_of_getElem? hh)
  obtain ⟨p1, p2⟩ := po_heap (F := F) hP hc hb hh
  rw [Nat.add_zero] at p1 p2
  refine ⟨h, q1, q2, fun x x1 x2 => ?_, po_first hP hb, p1, p2⟩
  exact Classical.byContradiction fun q => by
    have hx := (dh_mem (c := c) (h := x)).mpr ⟨by omega, by omega⟩
    obtain ⟨i, hi⟩ := List.getElem?_of_mem hx
    have s := dh_sorted c
    by_cases e : i = 0
    · subst e; rw [hh] at hi; injection hi with hi; omega
    · obtain ⟨i1, i2⟩ := List.getElem?_eq_some_iff.mp hi
      obtain ⟨j1, j2⟩ := List.getElem?_eq_some_iff.mp hh
      have := List.pairwise_iff_getElem.mp s 0 i j1 i1 (by omega)
      rw [i2, j2] at this
      omega
def RulN (σ : jxS) (M : Nat → List Nat) : Prop := ∀ h : Nat, 1 ≤ h → h ≤ 12 → σ 16 h = (nim M h : Int)
theorem ca_nimh {F h : Nat} {σ : jxS} {M : Nat → List Nat} (hN : RulN σ M) (h1 : 1 ≤ h) (h2 : h ≤ 12) : Rules_nimberOf F σ h = some ((nim M h : Int), σ) := by
  have w := hN h h1 h2
  simp (disch := omega) only [Rules_nimberOf, LL_isHeap, w, ↓reduceIte, jw_id, jlt_T, jlt_F, jle_T, jle_F, jeq_T, jeq_F, and_self, and_true, true_and, and_false, false_and, or_true, true_or, or_false, false_or, not_true_eq_false, not_false_eq_true, jbs, jup_s, jup_k, jup_o]
theorem rank_00 : rank (fun _ => 0) = 0 := by
  have := rank_pos (c := fun _ => 0)
  have hb : beans (fun _ => 0) = 0 := by rw [beans_eq]; decide
  omega
theorem cn_step {F fu : Nat} {σ : jxS} {acc l i pf h n r : Int} (hi : i < 22) (hi0 : 0 ≤ i) (hl : 0 < l) (hl2 : l < 4224) (p1 : Positions_firstPart F σ l = some (pf, σ)) (p2 : Positions_heapOf F σ pf = some (h, σ)) (pn : Rules_nimberOf F σ h = some (n, σ)) (p3 : Positions_restOf F σ pf = some (r, σ)) : Values_nimberOf_c7 F (fu + 1) acc l i σ = Values_nimberOf_c7 F fu (jxor acc n) r (i + 1) σ := by
  simp (disch := omega) only [Values_nimberOf_c7, p1, p2, pn, p3, ↓reduceIte, jw_id, jlt_T, jlt_F, jle_T, jle_F, jeq_T, jeq_F, and_self, and_true, true_and, and_false, false_and, or_true, true_or, or_false, false_or, not_true_eq_false, not_false_eq_true, jbs, jup_s, jup_k, jup_o]
theorem cn_stop {F fu : Nat} {σ : jxS} {acc i : Int} (hi : i ≤ 22) (hi0 : 0 ≤ i) : Values_nimberOf_c7 F (fu + 1) acc 0 i σ = some (acc, σ) := by
  by_cases q : i < 22
  · simp (disch := omega) only [Values_nimberOf_c7, ↓reduceIte, jw_id, jlt_T, jlt_F, jle_T, jle_F, jeq_T, jeq_F, and_self, and_true, true_and, and_false, false_and, or_true, true_or, or_false, false_or, not_true_eq_false, not_false_eq_true, jbs, jup_s, jup_k, jup_o]
  · simp (disch := omega) only [Values_nimberOf_c7, ↓reduceIte, jw_id, jlt_T, jlt_F, jle_T, jle_F, jeq_T, jeq_F, and_self, and_true, true_and, and_false, false_and, or_true, true_or, or_false, false_or, not_true_eq_false, not_false_eq_true, jbs, jup_s, jup_k, jup_o]
theorem ca_nim_c {F : Nat} {σ : jxS} {M : Nat → List Nat} (hM : MOK M) (hP : PosOK σ) (hN : RulN σ M) : ∀ (n fu : Nat) (c : Nat → Nat) (acc i : Nat), okc c → beans c ≤ n → acc < 2 ^ 4 → i + beans c ≤ 22 → n < fu → Values_nimberOf_c7 F fu acc (rank c) i σ = some (((acc ^^^ nimc M c : Nat) : Int), σ) := by
  intro n
  induction n with
  | zero =>
    intro fu c acc i hc hb ha hi hf
    obtain ⟨fu, rfl⟩ : ∃ k, fu = k + 1 := ⟨fu - 1, by omega⟩
    have i2 : (i : Int) ≤ 22 := by omega
    have hz : beans c = 0 := by omega
    rw [rank_0 hc hz, rank_00, nimc_0, Nat.xor_zero]
    exact cn_stop i2 (Int.natCast_nonneg i)
  | succ n ih =>
    intro fu c acc i hc hb ha hi hf
    obtain ⟨fu, rfl⟩ : ∃ k, fu = k + 1 := ⟨fu - 1, by omega⟩
    have i2 : (i : Int) ≤ 22 := by omega
    by_cases hz : beans c = 0
    · rw [rank_0 hc hz, rank_00, nimc_0, Nat.xor_zero]
      exact cn_stop i2 (Int.natCast_nonneg i)
    · obtain ⟨h, ⟨h1, h2⟩, h3, h4, p1, p2, p3⟩ := ca_peel (F := F) hP hc (by omega) (by omega)
      have b := beans_csb h1 h2 h3
      have rp := rank_pos.mpr (show 0 < beans c by omega)
      have rt := rank_top (c := c) (by omega)
      have st := cn_step (F := F) (fu := fu) (acc := acc) (i := i) (by omega) (by omega) (by omega) (by omega) p1 p2 (ca_nimh (F := F) hN h1 h2) p3
      have b1 : beans (csb c h) ≤ n := by omega
      have b2 : i + 1 + beans (csb c h) ≤ 22 := by omega
      have b3 : n < fu := by omega
      have al : acc ^^^ nim M h < 2 ^ 4 := Nat.xor_lt_two_pow ha (nim_16 hM h2)
      have i1 := ih fu (csb c h) (acc ^^^ nim M h) (i + 1) (okc_csb hc) b1 al b2 b3
      rw [Int.natCast_add, Int.natCast_one, ← bq_xor (Nat.lt_of_lt_of_le al (by decide))] at i1
      rw [nimc_csb h1 h2 h3, ← Nat.xor_assoc, st]
      exact i1
theorem ca_nim {F : Nat} {σ : jxS} {M : Nat → List Nat} {c : Nat → Nat} (hM : MOK M) (hP : PosOK σ) (hN : RulN σ M) (hc : okc c) (hb : beans c ≤ 22) (hF : 100 ≤ F) : Values_nimberOf F σ (rank c) = some ((nimc M c : Int), σ) := by
  have := ca_nim_c (F := F) hM hP hN 22 F c 0 0 hc hb (by decide) (by omega) (by omega)
  rw [Nat.zero_xor] at this
  exact this
/-- genera, settled as far as asked -/
def GSP (a : Nat) (j : Int) : Prop := jLP 38 a j ∨ a = 35 ∨ a = 36 ∨ (a = 33 ∧ j = 8)
theorem ca_sgen_c {F : Nat} {σ0 : jxS} {M : Nat → List Nat} {v1 : Int} (hM : MOK M) (hP : PosOK σ0) (hR : RulC σ0 M) (hv : -2147483648 ≤ v1) (hv2 : v1 ≤ 2147483647) (hF : 5000 ≤ F) : ∀ (n fu k : Nat) (σ : jxS), n + k = 4224 → jfr GSP σ0 σ → GeC σ M k → n < fu → ∃ σ' k', Values_settleGeneraTo_c5 F fu v1 k σ = some (0, σ') ∧ jfr GSP σ0 σ' ∧ GeC σ' M k' ∧ k ≤ k' ∧ (v1 < k' ∨ k' = 4224) := by
  intro n
  induction n with
  | zero =>
    intro fu k σ e1 f h e2
    obtain ⟨fu, rfl⟩ : ∃ k, fu = k + 1 := ⟨fu - 1, by omega⟩
    refine ⟨σ, k, ?_, f, h, Nat.le_refl _, Or.inr (by omega)⟩
    have hk : k = 4224 := by omega
    subst hk
    by_cases q : v1 < 4224
    · simp (disch := omega) only [Values_settleGeneraTo_c5, ↓reduceIte, jw_id, jlt_T, jlt_F, jle_T, jle_F, jeq_T, jeq_F, and_self, and_true, true_and, and_false, false_and, or_true, true_or, or_false, false_or, not_true_eq_false, not_false_eq_true, jbs, jup_s, jup_k, jup_o]
    · simp (disch := omega) only [Values_settleGeneraTo_c5, ↓reduceIte, jw_id, jlt_T, jlt_F, jle_T, jle_F, jeq_T, jeq_F, and_self, and_true, true_and, and_false, false_and, or_true, true_or, or_false, false_or, not_true_eq_false, not_false_eq_true, jbs, jup_s, jup_k, jup_o]
  | succ n ih =>
    intro fu k σ e1 f h e2
    obtain ⟨fu, rfl⟩ : ∃ k, fu = k + 1 := ⟨fu - 1, by omega⟩
    by_cases q : v1 < k
    · refine ⟨σ, k, ?_, f, h, Nat.le_refl _, Or.inl q⟩
      simp (disch := omega) only [Values_settleGeneraTo_c5, ↓reduceIte, jw_id, jlt_T, jlt_F, jle_T, jle_F, jeq_T, jeq_F, and_self, and_true, true_and, and_false, false_and, or_true, true_or, or_false, false_or, not_true_eq_false, not_false_eq_true, jbs, jup_s, jup_k, jup_o]
    · have hk : k < 4224 := by omega
      obtain ⟨u1, u2, u3⟩ := un_ok hk
      have hP' := PosOK_fr hP f (fun a j _ _ => by simp only [GSP, jLP]; omega)
      have hR' := RulC_fr hR f (fun j => by simp only [GSP, jLP]; omega) (fun j => by simp only [GSP, jLP]; omega)
      obtain ⟨σ1, a1, a2, a3, a4, a5⟩ := ca_list (F := F) (o := 38) (Or.inl rfl) hP' hR' hM u1 u2 (by omega)
      rw [u3] at a1
      rw [← T_eq] at a4
      have a3' : σ1 38 4 = ((T M k).length : Int) := by rw [a3, T_eq, tl, List.length_map]
      have o1 : ∀ q : Nat, q < k → σ1 35 q = (gpk M q : Int) := fun q hq => by rw [a2 35 _ (by simp only [jLP]; omega)]; exact h.2.2 q hq
      obtain ⟨σ2, jg, j2⟩ := ca_genera (F := F) hM hk o1 a3' a4 hF
      have f2 : jfr GSP σ0 σ2 := jfr_trans (jfr_trans f (jfr_mono a2 (fun a j h => Or.inl h))) (jfr_mono j2 (fun a j h => Or.inr (Or.inr (Or.inl h))))
      have f1 : jfr GSP σ0 (jup (jup σ2 35 k (gpk M k)) 33 8 ((k : Int) + 1)) := jfr_up (jfr_up f2 (Or.inr (Or.inl rfl))) (Or.inr (Or.inr (Or.inr ⟨rfl, rfl⟩)))
      obtain ⟨σ', k', i1, i2, i3, i4, i5⟩ := ih fu (k + 1) _ (by omega) f1 ⟨by rw [jup_s]; rfl, by omega, fun q hq => by
        rw [jup_o (by omega)]
        by_cases e : q = k
        · rw [e, jup_s]
        · rw [jup_k (by omega), j2 35 _ (by simp [P36])]; exact o1 q (by omega)⟩ (by omega)
      refine ⟨σ', k', ?_, i2, i3, by omega, i5⟩
      rw [Int.natCast_add, Int.natCast_one] at i1
      rw [Values_settleGeneraTo_c5, if_neg (by unfold jw; omega), if_pos (by unfold jw; omega), a1, jbs]
      dsimp only
      rw [jg, jbs]
      dsimp only
      rw [if_pos (by omega)]
      exact i1
theorem ca_genus {F p k : Nat} {σ : jxS} {M : Nat → List Nat} (hM : MOK M) (h : CV σ M) (hp : p < 4224) (hk : k < 3) (hF : 5000 ≤ F) : vres M σ (Values_genusOf F σ p k) (bk M p ([0, 3, 5].getD k 0) : Int) := by
  obtain ⟨h1, h2, ⟨o, o1, o2, o3⟩, ⟨g, hg⟩, h5⟩ := h
  obtain ⟨σ', k', i1, i2, i3, i4, i5⟩ := ca_sgen_c (F := F) (v1 := p) hM h1 h2 (by omega) (by omega) hF (4224 - g) F g σ (by have := hg.2.1; omega) (jfr_refl _ _) hg (by omega)
  have w := i3.2.2 p (by omega)
  have e := px_is (F := F) (σ := σ') (p := p) (by omega) (by omega)
  have gl := gpk_lt hM p
  have s := fun s (hs : s < 6) => sh5 (x := gpk M p) (s := s) hs (by omega)
  have a := fun s (hs : s < 6) => gps_at hM p (s := s) 6 (by omega) (by omega)
  simp only [gps_6] at a
  have st : Values_settleGeneraTo F σ p = some (0, σ') := by rw [Values_settleGeneraTo, hg.1]; exact i1
  refine ⟨σ', ?_, jfr_mono i2 (fun a j h => by rcases h with (h | h | h) | h | h | h <;> simp [VP, h]), ⟨PosOK_fr h1 i2 (fun a j _ _ => by simp only [GSP, jLP]; omega), RulC_fr h2 i2 (fun j => by simp only [GSP, jLP]; omega) (fun j => by simp only [GSP, jLP]; omega), ⟨o, ?_, o2, fun q hq => ?_⟩, ⟨k', i3⟩, fun q hq => ?_⟩⟩
  · rw [Values_genusOf, st, jbs]
    dsimp only
    rw [e, jbs]
    dsimp only
    have hk3 : k = 0 ∨ k = 1 ∨ k = 2 := by omega
    rcases hk3 with rfl | rfl | rfl
    · have s0 := s 0 (by omega)
      rw [a 0 (by omega)] at s0
      have s0' : jand (jshr (gpk M p : Int) (5 * 0)) 31 = (bk M p 0 : Int) := s0
      have t0 : jtab1.getD (((0 : Nat) : Int)).toNat 0 = 0 := rfl
      simp (disch := omega) only [w, t0, s0', ↓reduceIte, jw_id, jlt_T, jlt_F, jle_T, jle_F, jeq_T, jeq_F, and_self, and_true, true_and, and_false, false_and, or_true, true_or, or_false, false_or, not_true_eq_false, not_false_eq_true, jbs, jup_s, jup_k, jup_o]
      rfl
    · have s0 := s 3 (by omega)
      rw [a 3 (by omega)] at s0
      have s0' : jand (jshr (gpk M p : Int) (5 * 3)) 31 = (bk M p 3 : Int) := s0
      have t0 : jtab1.getD (((1 : Nat) : Int)).toNat 0 = 3 := rfl
      simp (disch := omega) only [w, t0, s0', ↓reduceIte, jw_id, jlt_T, jlt_F, jle_T, jle_F, jeq_T, jeq_F, and_self, and_true, true_and, and_false, false_and, or_true, true_or, or_false, false_or, not_true_eq_false, not_false_eq_true, jbs, jup_s, jup_k, jup_o]
      rfl
    · have s0 := s 5 (by omega)
      rw [a 5 (by omega)] at s0
      have s0' : jand (jshr (gpk M p : Int) (5 * 5)) 31 = (bk M p 5 : Int) := s0
      have t0 : jtab1.getD (((2 : Nat) : Int)).toNat 0 = 5 := rfl
      simp (disch := omega) only [w, t0, s0', ↓reduceIte, jw_id, jlt_T, jlt_F, jle_T, jle_F, jeq_T, jeq_F, and_self, and_true, true_and, and_false, false_and, or_true, true_or, or_false, false_or, not_true_eq_false, not_false_eq_true, jbs, jup_s, jup_k, jup_o]
      rfl
  · rw [i2 33 7 (by simp only [GSP, jLP]; omega)]; exact o1
  · rw [i2 34 _ (by simp only [GSP, jLP]; omega)]; exact o3 q hq
  · rw [i2 37 _ (by simp only [GSP, jLP]; omega)]; exact h5 q hq
