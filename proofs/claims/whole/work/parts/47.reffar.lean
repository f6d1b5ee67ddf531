/-! The reference: nimbers of greater heaps; all that a game's moves tell. -/
theorem mo_has {F x t : Nat} {σ : jxS} (hx : x < 8) (ht : t < 3) : Model_has F σ x t = some (if x.testBit t then 1 else 0, σ) := by
  have b := bq_bit (a := x) (k := t) (by omega) (by omega)
  cases e : x.testBit t
  · rw [e] at b
    simp only [Bool.false_eq_true, if_false] at b ⊢
    simp (disch := omega) only [Model_has, b, ↓reduceIte, jw_id, jlt_T, jlt_F, jle_T, jle_F, jeq_T, jeq_F, and_self, and_true, true_and, and_false, false_and, or_true, true_or, or_false, false_or, not_true_eq_false, not_false_eq_true, jbs, jup_s, jup_k, jup_o]
  · rw [e] at b
    simp only [if_true] at b ⊢
    simp (disch := omega) only [Model_has, b, ↓reduceIte, jw_id, jlt_T, jlt_F, jle_T, jle_F, jeq_T, jeq_F, and_self, and_true, true_and, and_false, false_and, or_true, true_or, or_false, false_or, not_true_eq_false, not_false_eq_true, jbs, jup_s, jup_k, jup_o]
theorem rf_201s {F fu : Nat} {σ : jxS} {k112 : Int → jxS → Option jxR} {k128 : Int → Int → jxS → Option jxR} {h k a p q x c : Int} (k1 : 1 ≤ k) (k8 : k ≤ 8) (hl : h ≤ 160) (ha : 0 ≤ a) (ha2 : 2 * a ≤ h - k) (wc : σ 6 (k - 1) = c) (hh : Model_has F σ c 2 = some (1, σ)) (wp : σ 11 a = p) (wq : σ 11 (h - k - a) = q) (hx : jxor p q = x) (x0 : 0 ≤ x) (x1 : x < 1024) : Model_laysNimbers_c201 F k112 k128 (fu + 1) h k a σ = Model_laysNimbers_c201 F k112 k128 fu h k (a + 1) (jup σ 12 x 1) := by
  simp (disch := omega) only [Model_laysNimbers_c201, wc, hh, wp, wq, hx, ↓reduceIte, jw_id, jlt_T, jlt_F, jle_T, jle_F, jeq_T, jeq_F, and_self, and_true, true_and, and_false, false_and, or_true, true_or, or_false, false_or, not_true_eq_false, not_false_eq_true, jbs, jup_s, jup_k, jup_o]
theorem rf_201 {F h k d : Nat} {dg : Nat → Nat} {σ0 : jxS} {k112 : Int → jxS → Option jxR} {k128 : Int → Int → jxS → Option jxR} (hk : 1 ≤ k) (hk8 : k ≤ 8) (hkh : k ≤ h) (h160 : h ≤ 160) (dl : ∀ i, dg i < 8) (t2 : (dg (k - 1)).testBit 2 = true) (wc : σ0 6 ((k : Int) - 1) = (dg (k - 1) : Int)) (hN : ∀ g : Nat, g < h → σ0 11 g = (pn d dg g : Int)) : ∀ (n fu : Nat) (σ : jxS) (L : List Nat), n ≤ (h - k) / 2 → n < fu → jfr P12 σ0 σ → tk σ 1024 L → ∃ σ' L', Model_laysNimbers_c201 F k112 k128 fu h k (((h - k) / 2 + 1 - n : Nat) : Int) σ = k128 h ((k : Int) + 1) σ' ∧ jfr P12 σ0 σ' ∧ tk σ' 1024 L' ∧ ∀ x, x ∈ L' ↔ x ∈ L ∨ x ∈ pns (pn d dg) (h - k) n := by
  intro n
  induction n with
  | zero =>
    intro fu σ L e1 e2 f hs
    obtain ⟨fu, rfl⟩ : ∃ k, fu = k + 1 := ⟨fu - 1, by omega⟩
    refine ⟨σ, L, ?_, f, hs, fun x => by simp [pns]⟩
    simp (disch := omega) only [Model_laysNimbers_c201, ↓reduceIte, jw_id, jlt_T, jlt_F, jle_T, jle_F, jeq_T, jeq_F, and_self, and_true, true_and, and_false, false_and, or_true, true_or, or_false, false_or, not_true_eq_false, not_false_eq_true, jbs, jup_s, jup_k, jup_o]
  | succ n ih =>
    intro fu σ L e1 e2 f hs
    obtain ⟨fu, rfl⟩ : ∃ k, fu = k + 1 := ⟨fu - 1, by omega⟩
    generalize hl : h - k = l at *
    have p1 : l / 2 - n < h := by omega
    have p2 : l - (l / 2 - n) < h := by omega
    have x1 : ((l / 2 + 1 - (n + 1) : Nat) : Int) = ((l / 2 - n : Nat) : Int) := by omega
    have x2 : (h : Int) - k - ((l / 2 - n : Nat) : Int) = ((l - (l / 2 - n) : Nat) : Int) := by omega
    have x3 : ((l / 2 - n : Nat) : Int) + 1 = ((l / 2 + 1 - n : Nat) : Int) := by omega
    have o1 : (0 : Int) ≤ ((l / 2 - n : Nat) : Int) := Int.natCast_nonneg _
    have o2 : 2 * ((l / 2 - n : Nat) : Int) ≤ (h : Int) - k := by omega
    have o3 : (h : Int) ≤ 160 := by omega
    have o4 : (1 : Int) ≤ (k : Int) := by omega
    have o5 : (k : Int) ≤ 8 := by omega
    have e1' : n ≤ l / 2 := by omega
    have e2' : n < fu := by omega
    have q1 : l / 2 - n ≤ 160 := by omega
    have q2 : l - (l / 2 - n) ≤ 160 := by omega
    have w1 := hN _ p1
    have w2 := hN _ p2
    rw [← f 11 _ (by simp [P12])] at w1 w2
    rw [← x2] at w2
    have hh := mo_has (F := F) (σ := σ) (x := dg (k - 1)) (t := 2) (dl _) (by omega)
    rw [t2] at hh
    simp only [if_true] at hh
    have x8 : pn d dg (l / 2 - n) ^^^ pn d dg (l - (l / 2 - n)) < 2 ^ 8 := Nat.xor_lt_two_pow (pn_256 d dg q1) (pn_256 d dg q2)
    have xx := bq_xor (Nat.lt_of_lt_of_le x8 (by decide : 2 ^ 8 ≤ 2 ^ 31))
    have x9 : ((pn d dg (l / 2 - n) ^^^ pn d dg (l - (l / 2 - n)) : Nat) : Int) < 1024 := Int.ofNat_lt.mpr (Nat.lt_of_lt_of_le x8 (by decide))
    have st := rf_201s (F := F) (fu := fu) (k112 := k112) (k128 := k128) (h := h) o4 o5 o3 o1 o2 (by rw [f 6 _ (by simp [P12])]; exact wc) hh w1 w2 xx (Int.natCast_nonneg _) x9
    obtain ⟨σ', L', i1, i2, i3, i4⟩ := ih fu (jup σ 12 ((pn d dg (l / 2 - n) ^^^ pn d dg (l - (l / 2 - n)) : Nat) : Int) 1) ((pn d dg (l / 2 - n) ^^^ pn d dg (l - (l / 2 - n))) :: L) e1' e2' (jfr_up f rfl) (tk_up hs)
    refine ⟨σ', L', ?_, i2, i3, fun x => by rw [i4 x]; simp only [List.mem_cons, pns]; grind⟩
    rw [x1, st, x3]
    exact i1
theorem rf_164 {F h k d : Nat} {dg : Nat → Nat} {σ : jxS} {L : List Nat} {k112 : Int → jxS → Option jxR} {k128 : Int → Int → jxS → Option jxR} (hk : 1 ≤ k) (hk8 : k ≤ 8) (h13 : 13 ≤ h) (h160 : h ≤ 160) (dl : ∀ i, dg i < 8) (wc : σ 6 ((k : Int) - 1) = (dg (k - 1) : Int)) (hN : ∀ g : Nat, g < h → σ 11 g = (pn d dg g : Int)) (hs : tk σ 1024 L) (hF : 1000 ≤ F) : ∃ σ' L', Model_laysNimbers_c164 F k112 k128 h k σ = k128 h ((k : Int) + 1) σ' ∧ jfr P12 σ σ' ∧ tk σ' 1024 L' ∧ ∀ x, x ∈ L' ↔ x ∈ L ∨ x ∈ pnk dg (pn d dg) h k := by
  have z : ¬ h - k = 0 := by omega
  have kk : (h : Int) - k = ((h - k : Nat) : Int) := by omega
  have lh : h - k < h := by omega
  have w := hN (h - k) lh
  rw [← kk] at w
  have pl : pn d dg (h - k) < 256 := pn_256 d dg (show h - k ≤ 160 by omega)
  have hh1 := mo_has (F := F) (σ := σ) (x := dg (k - 1)) (t := 1) (dl _) (by omega)
  have second : ∀ (σ1 : jxS) (L1 : List Nat), jfr P12 σ σ1 → tk σ1 1024 L1 → ∃ σ' L', Model_laysNimbers_c201 F k112 k128 F h k 1 σ1 = k128 h ((k : Int) + 1) σ' ∧ jfr P12 σ σ' ∧ tk σ' 1024 L' ∧ ∀ x, x ∈ L' ↔ x ∈ L1 ∨ x ∈ (if (dg (k - 1)).testBit 2 then pns (pn d dg) (h - k) ((h - k) / 2) else []) := fun σ1 L1 f1 s1 => by
    have wc1 : σ1 6 ((k : Int) - 1) = (dg (k - 1) : Int) := by rw [f1 6 _ (by simp [P12])]; exact wc
    by_cases t : (dg (k - 1)).testBit 2 = true
    · obtain ⟨σ', L', i1, i2, i3, i4⟩ := rf_201 (F := F) (h := h) (k := k) (d := d) (dg := dg) (σ0 := σ1) (k112 := k112) (k128 := k128) hk hk8 (by omega) h160 dl t wc1 (fun g hg => by rw [f1 11 _ (by simp [P12])]; exact hN g hg) ((h - k) / 2) F σ1 L1 (Nat.le_refl _) (by omega) (jfr_refl _ _) s1
      refine ⟨σ', L', ?_, jfr_trans f1 i2, i3, fun x => by rw [i4 x, if_pos t]⟩
      rw [show ((h - k) / 2 + 1 - (h - k) / 2 : Nat) = 1 by omega] at i1
      exact i1
    · have t' : (dg (k - 1)).testBit 2 = false := by cases q : (dg (k - 1)).testBit 2 <;> simp_all
      have hh2 := mo_has (F := F) (σ := σ1) (x := dg (k - 1)) (t := 2) (dl _) (by omega)
      rw [t'] at hh2
      simp only [Bool.false_eq_true, if_false] at hh2
      have hh2' : Model_has F σ1 (dg (k - 1)) 2 = some (0, σ1) := hh2
      refine ⟨σ1, L1, ?_, f1, s1, fun x => by rw [if_neg t]; simp⟩
      obtain ⟨F', hF'⟩ : ∃ k, F = k + 1 := ⟨F - 1, by omega⟩
      have e : Model_laysNimbers_c201 F k112 k128 F h k 1 σ1 = Model_laysNimbers_c201 F k112 k128 (F' + 1) h k 1 σ1 := by rw [hF']
      rw [e, Model_laysNimbers_c201]
      by_cases z2 : (h : Int) - k < 2
      · simp (disch := omega) only [↓reduceIte, jw_id, jlt_T, jlt_F, jle_T, jle_F, jeq_T, jeq_F, and_self, and_true, true_and, and_false, false_and, or_true, true_or, or_false, false_or, not_true_eq_false, not_false_eq_true, jbs, jup_s, jup_k, jup_o]
      · simp (disch := omega) only [wc1, hh2', ↓reduceIte, jw_id, jlt_T, jlt_F, jle_T, jle_F, jeq_T, jeq_F, and_self, and_true, true_and, and_false, false_and, or_true, true_or, or_false, false_or, not_true_eq_false, not_false_eq_true, jbs, jup_s, jup_k, jup_o]
  by_cases t1 : (dg (k - 1)).testBit 1 = true
  · rw [t1] at hh1
    simp only [if_true] at hh1
    have hh1' : Model_has F σ (dg (k - 1)) 1 = some (1, σ) := hh1
    obtain ⟨σ', L', i1, i2, i3, i4⟩ := second (jup σ 12 (pn d dg (h - k)) 1) (pn d dg (h - k) :: L) (jfr_up (jfr_refl _ _) rfl) (tk_up hs)
    refine ⟨σ', L', ?_, i2, i3, fun x => ?_⟩
    · rw [← i1, Model_laysNimbers_c164]
      simp (disch := omega) only [wc, hh1', w, ↓reduceIte, jw_id, jlt_T, jlt_F, jle_T, jle_F, jeq_T, jeq_F, and_self, and_true, true_and, and_false, false_and, or_true, true_or, or_false, false_or, not_true_eq_false, not_false_eq_true, jbs, jup_s, jup_k, jup_o]
    · rw [i4 x, pnk, List.mem_append, if_neg z, if_pos t1]
      simp only [List.mem_cons, List.not_mem_nil, or_false]
      grind
  · have t1' : (dg (k - 1)).testBit 1 = false := by cases q : (dg (k - 1)).testBit 1 <;> simp_all
    rw [t1'] at hh1
    simp only [Bool.false_eq_true, if_false] at hh1
    have hh1' : Model_has F σ (dg (k - 1)) 1 = some (0, σ) := hh1
    obtain ⟨σ', L', i1, i2, i3, i4⟩ := second σ L (jfr_refl _ _) hs
    refine ⟨σ', L', ?_, i2, i3, fun x => ?_⟩
    · rw [← i1, Model_laysNimbers_c164]
      simp (disch := omega) only [wc, hh1', ↓reduceIte, jw_id, jlt_T, jlt_F, jle_T, jle_F, jeq_T, jeq_F, and_self, and_true, true_and, and_false, false_and, or_true, true_or, or_false, false_or, not_true_eq_false, not_false_eq_true, jbs, jup_s, jup_k, jup_o]
    · rw [i4 x, pnk, List.mem_append, if_neg z, if_neg t1]
      simp
theorem rf_128 {F h d : Nat} {dg : Nat → Nat} {σ0 : jxS} {k112 : Int → jxS → Option jxR} (hd : d ≤ 8) (dl : ∀ i, dg i < 8) (h13 : 13 ≤ h) (h160 : h ≤ 160) (wd : σ0 0 11 = (d : Int)) (wg : ∀ i : Nat, i < d → σ0 6 i = (dg i : Int)) (hN : ∀ g : Nat, g < h → σ0 11 g = (pn d dg g : Int)) (hF : 2000 ≤ F) : ∀ (n fu : Nat) (σ : jxS) (L : List Nat), n ≤ d → n < fu → jfr P12 σ0 σ → tk σ 1024 L → ∃ σ' L' g, Model_laysNimbers_c128 F k112 fu h ((d + 1 - n : Nat) : Int) σ = Model_laysNimbers_c128 F k112 (g + 1) h ((d + 1 : Nat) : Int) σ' ∧ jfr P12 σ0 σ' ∧ tk σ' 1024 L' ∧ ∀ x, x ∈ L' ↔ x ∈ L ∨ x ∈ pnl d dg (pn d dg) h n := by
  intro n
  induction n with
  | zero =>
    intro fu σ L e1 e2 f hs
    obtain ⟨fu, rfl⟩ : ∃ k, fu = k + 1 := ⟨fu - 1, by omega⟩
    exact ⟨σ, L, fu, rfl, f, hs, fun x => by simp [pnl]⟩
  | succ n ih =>
    intro fu σ L e1 e2 f hs
    obtain ⟨fu, rfl⟩ : ∃ k, fu = k + 1 := ⟨fu - 1, by omega⟩
    have w : σ 0 11 = (d : Int) := by rw [f 0 11 (by simp [P12])]; exact wd
    have wdg := wg (d - n - 1) (by omega)
    rw [← f 6 _ (by simp [P12])] at wdg
    have x1 : ((d + 1 - (n + 1) : Nat) : Int) = ((d - n : Nat) : Int) := by omega
    have x2 : ((d - n : Nat) : Int) + 1 = ((d + 1 - n : Nat) : Int) := by omega
    have x3 : ((d - n : Nat) : Int) - 1 = ((d - n - 1 : Nat) : Int) := by omega
    rw [← x3] at wdg
    obtain ⟨σ1, L1, a1, a2, a3, a4⟩ := rf_164 (F := F) (h := h) (k := d - n) (d := d) (dg := dg) (σ := σ) (k112 := k112) (k128 := Model_laysNimbers_c128 F k112 fu) (by omega) (by omega) h13 h160 dl wdg (fun g hg => by rw [f 11 _ (by simp [P12])]; exact hN g hg) hs (by omega)
    obtain ⟨σ2, L2, g, b1, b2, b3, b4⟩ := ih fu σ1 L1 (by omega) (by omega) (jfr_trans f a2) a3
    refine ⟨σ2, L2, g, ?_, b2, b3, fun x => by rw [b4 x, a4 x, pnl, if_pos (by omega), List.mem_append, or_assoc]⟩
    rw [x1, ← b1, ← x2, ← a1]
    rw [Model_laysNimbers_c128, w, if_neg (by unfold jw; omega), if_neg (by unfold jw; omega)]
theorem rf_stop {F fu : Nat} {σ : jxS} {k112 : Int → jxS → Option jxR} {h d x : Int} (h0 : 0 ≤ h) (h2 : h ≤ 160) (w : σ 0 11 = d) (hd : d ≤ 8) (hd0 : 0 ≤ d) (hl : Model_leastFree F σ = some (x, σ)) : Model_laysNimbers_c128 F k112 (fu + 1) h (d + 1) σ = k112 (h + 1) (jup σ 11 h x) := by
  simp (disch := omega) only [Model_laysNimbers_c128, w, hl, ↓reduceIte, jw_id, jlt_T, jlt_F, jle_T, jle_F, jeq_T, jeq_F, and_self, and_true, true_and, and_false, false_and, or_true, true_or, or_false, false_or, not_true_eq_false, not_false_eq_true, jbs, jup_s, jup_k, jup_o]
theorem rf_heaps {F d : Nat} {dg : Nat → Nat} {σ0 : jxS} (hd : d ≤ 8) (dl : ∀ i, dg i < 8) (wd : σ0 0 11 = (d : Int)) (wg : ∀ i : Nat, i < d → σ0 6 i = (dg i : Int)) (hF : 2000 ≤ F) : ∀ (n fu h : Nat) (σ : jxS), n + h = 161 → 13 ≤ h → n < fu → jfr NQ σ0 σ → (∀ g : Nat, g < h → σ 11 g = (pn d dg g : Int)) → ∃ σ', Model_laysNimbers_c112 F fu h σ = some (0, σ') ∧ jfr NQ σ0 σ' ∧ ∀ g : Nat, g ≤ 160 → σ' 11 g = (pn d dg g : Int) := by
  intro n
  induction n with
  | zero =>
    intro fu h σ e1 e2 e3 f hN
    obtain ⟨fu, rfl⟩ : ∃ k, fu = k + 1 := ⟨fu - 1, by omega⟩
    refine ⟨σ, ?_, f, fun g hg => hN g (by omega)⟩
    simp (disch := omega) only [Model_laysNimbers_c112, ↓reduceIte, jw_id, jlt_T, jlt_F, jle_T, jle_F, jeq_T, jeq_F, and_self, and_true, true_and, and_false, false_and, or_true, true_or, or_false, false_or, not_true_eq_false, not_false_eq_true, jbs, jup_s, jup_k, jup_o]
  | succ n ih =>
    intro fu h σ e1 e2 e3 f hN
    obtain ⟨fu, rfl⟩ : ∃ k, fu = k + 1 := ⟨fu - 1, by omega⟩
    obtain ⟨σ1, a1, a2, a3⟩ := mo_none (F := F) (B := 1024) (σ := σ) (by omega) hF
    have f1 : jfr NQ σ0 σ1 := jfr_trans f (jfr_mono a2 (fun a j h => Or.inr h))
    have w1 : σ1 0 11 = (d : Int) := by rw [f1 0 11 (by simp [NQ])]; exact wd
    obtain ⟨σ2, L2, g, b1, b2, b3, b4⟩ := rf_128 (F := F) (h := h) (k112 := Model_laysNimbers_c112 F fu) (σ0 := σ1) hd dl e2 (by omega) w1 (fun i hi => by rw [f1 6 _ (by simp [NQ])]; exact wg i hi) (fun g hg => by rw [a2 11 _ (by simp [P12])]; exact hN g hg) hF d F σ1 [] (Nat.le_refl _) (by omega) (jfr_refl _ _) a3
    have pm : mex L2 = pn d dg h := by
      rw [pn_eq, if_neg (by omega)]
      exact mex_congr (fun x => by rw [b4 x]; simp)
    have pl := pn_le d dg h
    have lf := mo_free (F := F) b3 (by rw [pm]; omega) (by omega) hF
    rw [pm] at lf
    have st := rf_stop (F := F) (fu := g) (k112 := Model_laysNimbers_c112 F fu) (h := h) (d := d) (by omega) (by omega) (by rw [b2 0 11 (by simp [P12])]; exact w1) (by omega) (by omega) lf
    obtain ⟨σ3, c1, c2, c3⟩ := ih fu (h + 1) (jup σ2 11 h (pn d dg h)) (by omega) (by omega) (by omega) (jfr_up (jfr_trans f1 (jfr_mono b2 (fun a j h => Or.inr h))) (Or.inl rfl)) (fun x hx => by
      by_cases q : x = h
      · rw [q, jup_s]
      · rw [jup_k (by omega), b2 11 _ (by simp [P12]), a2 11 _ (by simp [P12])]; exact hN x (by omega))
    refine ⟨σ3, ?_, c2, c3⟩
    rw [Int.natCast_add, Int.natCast_one] at c1
    rw [show (d + 1 - d : Nat) = 1 by omega, show ((d + 1 : Nat) : Int) = (d : Int) + 1 by omega] at b1
    have a1' : Model_takesNone F σ 1024 = some (0, σ1) := a1
    rw [← c1, ← st]
    rw [Model_laysNimbers_c112, if_neg (by unfold jw; omega), a1', jbs]
    exact b1
/-- the nimbers that the reference has -/
def NmR (σ : jxS) (M : Nat → List Nat) (d : Nat) (dg : Nat → Nat) : Prop := (∀ g : Nat, g < 13 → σ 11 g = (nim M g : Int)) ∧ (σ 0 12 = 0 → ∀ g : Nat, g ≤ 160 → σ 11 g = (pn d dg g : Int))
theorem rk_nimbers {F : Nat} {σ : jxS} {d e : Nat} {dg : Nat → Nat} {al nv : Nat → Nat → Bool} (hA : RulR σ d dg al nv) (hV : MvM σ (Mof (isMv d dg al nv))) (we : σ 0 12 = (e : Int)) (he : e ≤ 16) (h0 : e = 0 → (∀ h m, al h m = false) ∧ ∀ h k, nv h k = false) (hF : 2000 ≤ F) : ∃ σ', Model_laysNimbers F σ = some (0, σ') ∧ jfr NQ σ σ' ∧ NmR σ' (Mof (isMv d dg al nv)) d dg := by
  have hM := Mof_ok (isMv d dg al nv)
  have f0 : jfr NQ σ (jup σ 11 0 0) := jfr_up (jfr_refl _ _) (Or.inl rfl)
  obtain ⟨σ1, g, a1, a2, a3⟩ := ln_heaps (F := F) (σ0 := σ) hM hV hF 12 F 1 (jup σ 11 0 0) (by omega) (by omega) (by omega) f0 (fun g hg => by
    have : g = 0 := by omega
    subst this
    rw [nim_0]
    exact jup_s _ _ _ _)
  have w1 : σ1 0 12 = (e : Int) := by rw [a2 0 12 (by simp [NQ])]; exact we
  have a1' : Model_laysNimbers F σ = Model_laysNimbers_c9 F (g + 1) 13 σ1 := a1
  by_cases z : e = 0
  · obtain ⟨z1, z2⟩ := h0 z
    obtain ⟨σ2, b1, b2, b3⟩ := rf_heaps (F := F) (d := d) (dg := dg) (σ0 := σ1) hA.1 hA.2.1 (by rw [a2 0 11 (by simp [NQ])]; exact hA.2.2.1) (fun i hi => by rw [a2 6 _ (by simp [NQ])]; exact hA.2.2.2.1 i hi) hF 148 F 13 σ1 (by omega) (by omega) (by omega) (jfr_refl _ _) (fun g hg => by rw [a3 g hg, nim_pn hA.1 z1 z2 g (by omega)])
    refine ⟨σ2, ?_, jfr_trans a2 b2, fun g hg => by rw [b3 g (by omega), nim_pn hA.1 z1 z2 g (by omega)], fun _ => b3⟩
    rw [a1', Model_laysNimbers_c9, w1, z, if_pos (show 12 < jw 13 by decide), if_neg (show ¬ 0 < jw ((0 : Nat) : Int) by decide)]
    exact b1
  · refine ⟨σ1, ?_, a2, a3, fun q => by rw [w1] at q; omega⟩
    rw [a1', Model_laysNimbers_c9, w1, if_pos (show 12 < jw 13 by decide), if_pos (by unfold jw; omega)]
theorem rk_moves {F : Nat} {σ : jxS} {d e : Nat} {dg : Nat → Nat} {al nv : Nat → Nat → Bool} (hA : RulR σ d dg al nv) (we : σ 0 12 = (e : Int)) (he : e ≤ 16) (h0 : e = 0 → (∀ h m, al h m = false) ∧ ∀ h k, nv h k = false) (hF : 2000 ≤ F) : ∃ σ', Model_laysMoves F σ = some (0, σ') ∧ jfr NP σ σ' ∧ MvM σ' (Mof (isMv d dg al nv)) ∧ NmR σ' (Mof (isMv d dg al nv)) d dg := by
  obtain ⟨σ1, a1, a2, a3⟩ := lr_heaps (F := F) hA (by omega) 12 F 1 σ (by omega) (by omega) (by omega) (jfr_refl _ _) (fun g g1 g2 => by omega)
  obtain ⟨σ2, b1, b2, b3⟩ := rk_nimbers (F := F) (RulR_fr hA a2 (by simp [RMP]) (fun a j q1 q2 => by simp [RMP]; omega)) a3 (by rw [a2 0 12 (by simp [RMP])]; exact we) he h0 hF
  refine ⟨σ2, ?_, jfr_trans (jfr_mono a2 (fun a j h => by rcases h with q | q <;> simp [NP, q])) (jfr_mono b2 (fun a j h => by rcases h with q | q <;> simp [NP, q])), MvM_fr a3 b2 (by simp [NQ]) (by simp [NQ]), b3⟩
  have a1' : Model_laysMoves F σ = _ := a1
  rw [a1', b1, jbs]
