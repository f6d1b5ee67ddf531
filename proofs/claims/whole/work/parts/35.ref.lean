/-! The reference's tables of positions and their readers. -/
def WT (σ : jxS) : Prop := (∀ k n : Nat, 1 ≤ k → k ≤ 13 → n ≤ 22 → σ 13 (23 * (k : Int) + n) = (wy (13 - k) n : Int)) ∧ (∀ b : Nat, b ≤ 23 → σ 14 b = (fo b : Int))
/-- cell a holds the counts c -/
def Hd (σ : jxS) (a : Nat) (c : Nat → Nat) : Prop := ∀ h : Nat, 1 ≤ h → h ≤ 12 → σ a h = (c h : Int)
theorem wy_le {k b : Nat} (hk : k ≤ 12) (hb : b ≤ 22) : wy k b ≤ 905 := by
  rw [wy_tab k hk b (by omega)]
  have : ∀ k, k ≤ 12 → ∀ b, b ≤ 22 → wt k b ≤ 905 := by decide +kernel
  exact this k hk b hb
theorem mo_num_in {F a1 : Nat} {σ : jxS} {k15 : Int → Int → Int → jxS → Option jxR} {h c : Nat} (hW : WT σ) (h1 : 1 ≤ h) (h2 : h ≤ 12) (hc : σ a1 h = (c : Int)) (hc2 : c ≤ 22) : ∀ (n fu l : Nat) (v2 v3 v5 : Int), (n : Int) + v5 = c → 0 ≤ v5 → h * n ≤ l → l ≤ 22 → v2 - v5 * h = l → n < fu → Model_numberOf_c25 F a1 k15 fu v2 v3 h v5 σ = k15 (v2 - h * c) (v3 + smr (12 - h) n l) (h + 1) σ := by
  intro n
  induction n with
  | zero =>
    intro fu l v2 v3 v5 e1 e2 e3 e4 e5 e6
    obtain ⟨fu, rfl⟩ : ∃ k, fu = k + 1 := ⟨fu - 1, by omega⟩
    simp (disch := omega) only [Model_numberOf_c25, hc, ↓reduceIte, jw_id, jlt_T, jlt_F, jle_T, jle_F, jeq_T, jeq_F, and_self, and_true, true_and, and_false, false_and, or_true, true_or, or_false, false_or, not_true_eq_false, not_false_eq_true, jbs, jup_s, jup_k, jup_o]
    simp only [smr, Int.natCast_zero, Int.add_zero]
  | succ n ih =>
    intro fu l v2 v3 v5 e1 e2 e3 e4 e5 e6
    obtain ⟨fu, rfl⟩ : ∃ k, fu = k + 1 := ⟨fu - 1, by omega⟩
    have m1 : h * (n + 1) = h * n + h := Nat.mul_succ h n
    have m2 : (v5 + 1) * (h : Int) = v5 * h + h := by rw [Int.add_mul, Int.one_mul]
    have w := hW.1 (h + 1) l (by omega) (by omega) e4
    have i1 := ih fu (l - h) v2 (v3 + wy (12 - h) l) (v5 + 1) (by omega) (by omega) (by omega) (by omega) (by rw [m2]; omega) (by omega)
    have x1 : 23 * ((h : Int) + 1) + v2 - v5 * h = 23 * ((h + 1 : Nat) : Int) + (l : Int) := by omega
    have x2 : 13 - (h + 1) = 12 - h := by omega
    rw [x2] at w
    simp (disch := omega) only [Model_numberOf_c25, hc, x1, w, ↓reduceIte, jw_id, jlt_T, jlt_F, jle_T, jle_F, jeq_T, jeq_F, and_self, and_true, true_and, and_false, false_and, or_true, true_or, or_false, false_or, not_true_eq_false, not_false_eq_true, jbs, jup_s, jup_k, jup_o]
    rw [i1]
    simp only [smr]
    rw [show 12 - (12 - h) = h by omega]
    simp only [Int.natCast_add, Int.add_assoc]
theorem mo_beans_c {F a1 : Nat} {σ : jxS} {c : Nat → Nat} (hc : Hd σ a1 c) : ∀ (n fu : Nat) (v1 h : Int), n + h = 13 → n ≤ 12 → n < fu → Model_beansOf_c4 F a1 fu v1 h σ = some (v1 + bn n c, σ) := by
  intro n
  induction n with
  | zero =>
    intro fu v1 h e1 e2 e3
    obtain ⟨fu, rfl⟩ : ∃ k, fu = k + 1 := ⟨fu - 1, by omega⟩
    simp (disch := omega) only [Model_beansOf_c4, ↓reduceIte, jw_id, jlt_T, jlt_F, jle_T, jle_F, jeq_T, jeq_F, and_self, and_true, true_and, and_false, false_and, or_true, true_or, or_false, false_or, not_true_eq_false, not_false_eq_true, jbs, jup_s, jup_k, jup_o]
    simp only [bn, Int.natCast_zero, Int.add_zero]
  | succ n ih =>
    intro fu v1 h e1 e2 e3
    obtain ⟨fu, rfl⟩ : ∃ k, fu = k + 1 := ⟨fu - 1, by omega⟩
    have w := hc (12 - n) (by omega) (by omega)
    have x1 : ((12 - n : Nat) : Int) = h := by omega
    rw [x1] at w
    simp (disch := omega) only [Model_beansOf_c4, w, ↓reduceIte, jw_id, jlt_T, jlt_F, jle_T, jle_F, jeq_T, jeq_F, and_self, and_true, true_and, and_false, false_and, or_true, true_or, or_false, false_or, not_true_eq_false, not_false_eq_true, jbs, jup_s, jup_k, jup_o]
    rw [ih fu _ (h + 1) (by omega) (by omega) (by omega)]
    simp only [bn, Int.natCast_add, Int.natCast_mul, x1, Int.add_assoc]
theorem mo_beans {F a1 : Nat} {σ : jxS} {c : Nat → Nat} (hc : Hd σ a1 c) (hF : 100 ≤ F) : Model_beansOf F a1 σ = some ((beans c : Int), σ) := by
  rw [Model_beansOf, mo_beans_c hc 12 F 0 1 (by omega) (by omega) (by omega), beans_eq, Int.zero_add]
theorem bn_le {c : Nat → Nat} : ∀ k j, j ≤ k → bn j c ≤ bn k c := by
  intro k
  induction k with
  | zero => intro j hj; have : j = 0 := by omega
            subst this; exact Nat.le_refl _
  | succ k ih =>
    intro j hj
    by_cases e : j = k + 1
    · subst e; exact Nat.le_refl _
    · exact Nat.le_trans (ih j (by omega)) (Nat.le_add_left _ _)
theorem mo_num_c {F a1 : Nat} {σ : jxS} {c : Nat → Nat} (hW : WT σ) (hc : Hd σ a1 c) (hb : bn 12 c ≤ 22) (hF : 100 ≤ F) : ∀ (n fu : Nat) (v3 h : Int), n + h = 13 → n ≤ 12 → n < fu → Model_numberOf_c15 F a1 fu (bn n c) v3 h σ = some (v3 + rwk n c (bn n c), σ) := by
  intro n
  induction n with
  | zero =>
    intro fu v3 h e1 e2 e3
    obtain ⟨fu, rfl⟩ : ∃ k, fu = k + 1 := ⟨fu - 1, by omega⟩
    simp (disch := omega) only [Model_numberOf_c15, ↓reduceIte, jw_id, jlt_T, jlt_F, jle_T, jle_F, jeq_T, jeq_F, and_self, and_true, true_and, and_false, false_and, or_true, true_or, or_false, false_or, not_true_eq_false, not_false_eq_true, jbs, jup_s, jup_k, jup_o]
    simp only [rwk, Int.natCast_zero, Int.add_zero]
  | succ n ih =>
    intro fu v3 h e1 e2 e3
    obtain ⟨fu, rfl⟩ : ∃ k, fu = k + 1 := ⟨fu - 1, by omega⟩
    have w := hc (12 - n) (by omega) (by omega)
    have x1 : ((12 - n : Nat) : Int) = h := by omega
    have b1 : bn (n + 1) c = (12 - n) * c (12 - n) + bn n c := rfl
    have b2 := bn_le (c := c) 12 (n + 1) e2
    have b3 : c (12 - n) ≤ (12 - n) * c (12 - n) := Nat.le_mul_of_pos_left _ (by omega)
    have b4 := mo_num_in (F := F) (a1 := a1) (k15 := Model_numberOf_c15 F a1 fu) hW (h := 12 - n) (c := c (12 - n)) (by omega) (by omega) w (by omega) (c (12 - n)) F (bn (n + 1) c) (bn (n + 1) c) v3 0 (by omega) (by omega) (by omega) (by omega) (by omega) (by omega)
    rw [x1] at b4
    simp (disch := omega) only [Model_numberOf_c15, ↓reduceIte, jw_id, jlt_T, jlt_F, jle_T, jle_F, jeq_T, jeq_F, and_self, and_true, true_and, and_false, false_and, or_true, true_or, or_false, false_or, not_true_eq_false, not_false_eq_true, jbs, jup_s, jup_k, jup_o]
    rw [b4]
    have x2 : ((bn (n + 1) c : Nat) : Int) - h * (c (12 - n) : Int) = (bn n c : Int) := by
      rw [b1, ← x1]
      simp only [Int.natCast_add, Int.natCast_mul]
      omega
    rw [x2, ih fu _ (h + 1) (by omega) (by omega) (by omega)]
    have x3 : rwk (n + 1) c (bn (n + 1) c) = smr n (c (12 - n)) (bn (n + 1) c) + rwk n c (bn n c) := by
      show smr n (c (12 - n)) (bn (n + 1) c) + rwk n c (bn (n + 1) c - (12 - n) * c (12 - n)) = _
      rw [show bn (n + 1) c - (12 - n) * c (12 - n) = bn n c by omega]
    rw [x3, show 12 - (12 - n) = n by omega]
    simp only [Int.natCast_add, Int.add_assoc]
theorem mo_num {F a1 : Nat} {σ : jxS} {c : Nat → Nat} (hW : WT σ) (hc : Hd σ a1 c) (hb : beans c ≤ 22) (hF : 100 ≤ F) : Model_numberOf F a1 σ = some ((rank c : Int), σ) := by
  have hb' : bn 12 c ≤ 22 := by rw [← beans_eq]; exact hb
  have w := hW.2 (bn 12 c) (by omega)
  rw [Model_numberOf, mo_beans hc hF, jbs, beans_eq]
  simp (disch := omega) only [w, ↓reduceIte, jw_id, jlt_T, jlt_F, jle_T, jle_F, jeq_T, jeq_F, and_self, and_true, true_and, and_false, false_and, or_true, true_or, or_false, false_or, not_true_eq_false, not_false_eq_true, jbs, jup_s, jup_k, jup_o]
  rw [mo_num_c hW hc hb' hF 12 F _ 1 (by omega) (by omega) (by omega), rank_eq, fo_eq]
  simp only [Int.natCast_add]
/-- a position's heaps by its number: as many of h as the row tells -/
theorem WT_ag {σ σ' : jxS} {W : List Nat} (hW : WT σ) (h : jag W σ σ') (h1 : 13 ∉ W) (h2 : 14 ∉ W) : WT σ' := ⟨fun k n k1 k2 k3 => by rw [h 13 h1]; exact hW.1 k n k1 k2 k3, fun b hb => by rw [h 14 h2]; exact hW.2 b hb⟩
theorem mo_lay_in {F a : Nat} {k36 : Int → Int → Int → jxS → Option jxR} {h : Nat} (ha : a ≠ 13) (ha2 : a ≠ 14) (h1 : 1 ≤ h) (h2 : h ≤ 12) : ∀ (n fu l x : Nat) (σ : jxS), WT σ → h * n ≤ l → l ≤ 22 → x < wy (12 - h) (l - h * n) → n < fu → ∃ σ', Model_laysHeaps_c48 F a k36 fu ((smr (12 - h) n l + x : Nat) : Int) l h σ = k36 x ((l - h * n : Nat) : Int) (h + 1) σ' ∧ jag [a] σ σ' ∧ (∀ j, j ≠ (h : Int) → σ' a j = σ a j) ∧ σ' a h = σ a h + n := by
  intro n
  induction n with
  | zero =>
    intro fu l x σ hW e1 e2 e3 e4
    obtain ⟨fu, rfl⟩ : ∃ k, fu = k + 1 := ⟨fu - 1, by omega⟩
    have w := hW.1 (h + 1) l (by omega) (by omega) e2
    have x1 : 23 * ((h : Int) + 1) + l = 23 * ((h + 1 : Nat) : Int) + (l : Int) := by omega
    have x2 : 13 - (h + 1) = 12 - h := by omega
    have x3 := wy_le (k := 12 - h) (b := l) (by omega) e2
    rw [x2] at w
    simp only [Nat.mul_zero, Nat.sub_zero] at e3 ⊢
    refine ⟨σ, ?_, jag_refl _ _, fun _ _ => rfl, by omega⟩
    simp only [smr, Nat.zero_add]
    simp (disch := omega) only [Model_laysHeaps_c48, x1, w, ↓reduceIte, jw_id, jlt_T, jlt_F, jle_T, jle_F, jeq_T, jeq_F, and_self, and_true, true_and, and_false, false_and, or_true, true_or, or_false, false_or, not_true_eq_false, not_false_eq_true, jbs, jup_s, jup_k, jup_o]
  | succ n ih =>
    intro fu l x σ hW e1 e2 e3 e4
    obtain ⟨fu, rfl⟩ : ∃ k, fu = k + 1 := ⟨fu - 1, by omega⟩
    have m1 : h * (n + 1) = h * n + h := Nat.mul_succ h n
    have w := hW.1 (h + 1) l (by omega) (by omega) e2
    have x1 : 23 * ((h : Int) + 1) + l = 23 * ((h + 1 : Nat) : Int) + (l : Int) := by omega
    have x2 : 13 - (h + 1) = 12 - h := by omega
    have x3 := wy_le (k := 12 - h + 1) (b := l) (by omega) e2
    have x4 : 12 - (12 - h) = h := by omega
    rw [x2] at w
    have hW' : WT (jup σ a h (σ a h + 1)) := WT_ag hW (jag_up1 σ a h _) (by simp; omega) (by simp; omega)
    have s1 : smr (12 - h) (n + 1) l = wy (12 - h) l + smr (12 - h) n (l - h) := by
      simp only [smr]
      rw [x4]
    have s2 : smr (12 - h) (n + 1) l + x < wy (12 - h + 1) l := smr_lt (k := 12 - h) (by omega) (n + 1) l x (by rw [x4]; exact e1) (by rw [x4]; exact e3)
    have x5 : l - h - h * n = l - h * (n + 1) := by omega
    obtain ⟨σ', i1, i2, i3, i4⟩ := ih fu (l - h) x (jup σ a h (σ a h + 1)) hW' (by omega) (by omega) (by rw [x5]; exact e3) (by omega)
    refine ⟨σ', ?_, jag_trans (jag_up1 σ a h _) i2, fun j hj => by rw [i3 j hj, jup_k hj], by rw [i4, jup_s]; omega⟩
    rw [s1] at s2 ⊢
    have y1 : ((wy (12 - h) l + smr (12 - h) n (l - h) + x : Nat) : Int) - (wy (12 - h) l : Int) = ((smr (12 - h) n (l - h) + x : Nat) : Int) := by omega
    have y2 : (l : Int) - h = ((l - h : Nat) : Int) := by omega
    simp (disch := omega) only [Model_laysHeaps_c48, x1, w, ↓reduceIte, jw_id, jlt_T, jlt_F, jle_T, jle_F, jeq_T, jeq_F, and_self, and_true, true_and, and_false, false_and, or_true, true_or, or_false, false_or, not_true_eq_false, not_false_eq_true, jbs, jup_s, jup_k, jup_o]
    rw [y1, y2, i1, x5]
theorem mo_lay_c {F a : Nat} {c : Nat → Nat} (ha : a ≠ 13) (ha2 : a ≠ 14) (hb : bn 12 c ≤ 22) (hF : 100 ≤ F) : ∀ (n fu : Nat) (h : Int) (σ : jxS), n + h = 13 → n ≤ 12 → n < fu → WT σ → (∀ g : Nat, 1 ≤ g → (g : Int) < h → σ a g = (c g : Int)) → ∃ σ', Model_laysHeaps_c36 F a fu (rwk n c (bn n c)) (bn n c) h σ = some (0, σ') ∧ jag [a] σ σ' ∧ Hd σ' a c := by
  intro n
  induction n with
  | zero =>
    intro fu h σ e1 e2 e3 hW hg
    obtain ⟨fu, rfl⟩ : ∃ k, fu = k + 1 := ⟨fu - 1, by omega⟩
    refine ⟨σ, ?_, jag_refl _ _, fun g g1 g2 => hg g g1 (by omega)⟩
    simp (disch := omega) only [Model_laysHeaps_c36, ↓reduceIte, jw_id, jlt_T, jlt_F, jle_T, jle_F, jeq_T, jeq_F, and_self, and_true, true_and, and_false, false_and, or_true, true_or, or_false, false_or, not_true_eq_false, not_false_eq_true, jbs, jup_s, jup_k, jup_o]
  | succ n ih =>
    intro fu h σ e1 e2 e3 hW hg
    obtain ⟨fu, rfl⟩ : ∃ k, fu = k + 1 := ⟨fu - 1, by omega⟩
    have x1 : ((12 - n : Nat) : Int) = h := by omega
    have b1 : bn (n + 1) c = (12 - n) * c (12 - n) + bn n c := rfl
    have b2 := bn_le (c := c) 12 (n + 1) e2
    have b3 : c (12 - n) ≤ (12 - n) * c (12 - n) := Nat.le_mul_of_pos_left _ (by omega)
    have x3 : rwk (n + 1) c (bn (n + 1) c) = smr n (c (12 - n)) (bn (n + 1) c) + rwk n c (bn n c) := by
      show smr n (c (12 - n)) (bn (n + 1) c) + rwk n c (bn (n + 1) c - (12 - n) * c (12 - n)) = _
      rw [show bn (n + 1) c - (12 - n) * c (12 - n) = bn n c by omega]
    have x4 : 12 - (12 - n) = n := by omega
    have x5 : bn (n + 1) c - (12 - n) * c (12 - n) = bn n c := by omega
    have r1 := rwk_lt c n (by omega)
    have hW' : WT (jup σ a h 0) := WT_ag hW (jag_up1 σ a h _) (by simp; omega) (by simp; omega)
    obtain ⟨σ1, i1, i2, i3, i4⟩ := mo_lay_in (F := F) (a := a) (k36 := Model_laysHeaps_c36 F a fu) (h := 12 - n) ha ha2 (by omega) (by omega) (c (12 - n)) F (bn (n + 1) c) (rwk n c (bn n c)) (jup σ a h 0) hW' (by omega) (by omega) (by rw [x4, x5]; exact r1) (by omega)
    rw [x4, x5, x1] at i1
    rw [x1] at i3 i4
    obtain ⟨σ2, k1, k2, k3⟩ := ih fu (h + 1) σ1 (by omega) (by omega) (by omega) (WT_ag hW' i2 (by simp; omega) (by simp; omega)) (fun g g1 g2 => by
      by_cases q : (g : Int) = h
      · have q' : g = 12 - n := by omega
        rw [q, i4, jup_s, q']
        omega
      · rw [i3 _ q, jup_k q]
        exact hg g g1 (by omega))
    refine ⟨σ2, ?_, jag_trans (jag_trans (jag_up1 σ a h _) i2) k2, k3⟩
    simp (disch := omega) only [Model_laysHeaps_c36, ↓reduceIte, jw_id, jlt_T, jlt_F, jle_T, jle_F, jeq_T, jeq_F, and_self, and_true, true_and, and_false, false_and, or_true, true_or, or_false, false_or, not_true_eq_false, not_false_eq_true, jbs, jup_s, jup_k, jup_o]
    rw [x3, i1, k1]
theorem mo_lay_b {F a : Nat} {c : Nat → Nat} {σ : jxS} (hW : WT σ) (hb : beans c ≤ 22) : ∀ (n fu : Nat) (v : Int), n + v = beans c → 0 ≤ v → n < fu → Model_laysHeaps_c2 F a fu (rank c) v σ = Model_laysHeaps_c36 F a F ((rank c : Int) - fo (beans c)) (beans c) 1 σ := by
  have r1 := rank_lt c
  have r2 := rank_ge c
  have r3 := rank_top hb
  intro n
  induction n with
  | zero =>
    intro fu v e1 e2 e3
    obtain ⟨fu, rfl⟩ : ∃ k, fu = k + 1 := ⟨fu - 1, by omega⟩
    have hv : v = (beans c : Int) := by omega
    subst hv
    have w := hW.2 (beans c + 1) (by omega)
    have w2 := hW.2 (beans c) (by omega)
    have f1 := fo_le (show beans c + 1 ≤ 23 by omega)
    rw [Int.natCast_add, Int.natCast_one] at w
    simp (disch := omega) only [Model_laysHeaps_c2, w, w2, ↓reduceIte, jw_id, jlt_T, jlt_F, jle_T, jle_F, jeq_T, jeq_F, and_self, and_true, true_and, and_false, false_and, or_true, true_or, or_false, false_or, not_true_eq_false, not_false_eq_true, jbs, jup_s, jup_k, jup_o]
  | succ n ih =>
    intro fu v e1 e2 e3
    obtain ⟨fu, rfl⟩ : ∃ k, fu = k + 1 := ⟨fu - 1, by omega⟩
    obtain ⟨u, hu⟩ : ∃ u : Nat, v = u := ⟨v.toNat, by omega⟩
    subst hu
    have w := hW.2 (u + 1) (by omega)
    have f1 := fo_mono (show u + 1 ≤ beans c by omega)
    rw [Int.natCast_add, Int.natCast_one] at w
    simp (disch := omega) only [Model_laysHeaps_c2, w, ↓reduceIte, jw_id, jlt_T, jlt_F, jle_T, jle_F, jeq_T, jeq_F, and_self, and_true, true_and, and_false, false_and, or_true, true_or, or_false, false_or, not_true_eq_false, not_false_eq_true, jbs, jup_s, jup_k, jup_o]
    exact ih fu _ (by omega) (by omega) (by omega)
theorem mo_lay {F a : Nat} {p : Nat} {σ : jxS} (ha : a ≠ 13) (ha2 : a ≠ 14) (hW : WT σ) (hp : p < 4224) (hF : 100 ≤ F) : ∃ σ', Model_laysHeaps F a σ p = some (0, σ') ∧ jag [a] σ σ' ∧ Hd σ' a (un p) := by
  obtain ⟨h1, h2, h3⟩ := un_ok hp
  obtain ⟨σ', k1, k2, k3⟩ := mo_lay_c (F := F) (c := un p) ha ha2 (by rw [← beans_eq]; exact h2) hF 12 F 1 σ (by omega) (by omega) (by omega) hW (fun g g1 g2 => by omega)
  refine ⟨σ', ?_, k2, k3⟩
  have e := mo_lay_b (F := F) (a := a) hW h2 (beans (un p)) F 0 (by omega) (by omega) (by omega)
  rw [h3] at e
  rw [Model_laysHeaps, e]
  have r := rank_row (un p)
  rw [h3] at r
  have y : (p : Int) - fo (beans (un p)) = (rwk 12 (un p) (bn 12 (un p)) : Int) := by
    rw [← beans_eq]; omega
  rw [y, beans_eq]
  exact k1
/-- the heaps of a move's target -/
def tgt (c : Nat → Nat) (h m : Nat) : Nat → Nat := ca0 (ca0 (csb c h) (m / 13)) (m % 13)
def chg (σ : jxS) (a : Nat) (h x y e : Int) : jxS := fun b j => if b = a then σ a j - (if j = h then e else 0) + (if x ≠ 0 ∧ j = x then e else 0) + (if y ≠ 0 ∧ j = y then e else 0) else σ b j
theorem mo_puts {F a : Nat} {σ : jxS} {v e : Int} (h0 : 0 ≤ v) (hv : v ≤ 12) : Model_puts F a σ v e = some (0, if v = 0 then σ else jup σ a v (σ a v + e)) := by
  unfold Model_puts
  by_cases q : v = 0
  · subst q; rfl
  · simp (disch := omega) only [q, ↓reduceIte, jw_id, jlt_T, jlt_F, jle_T, jle_F, jeq_T, jeq_F, and_self, and_true, true_and, and_false, false_and, or_true, true_or, or_false, false_or, not_true_eq_false, not_false_eq_true, jbs, jup_s, jup_k, jup_o]
theorem mo_chg {F a : Nat} {σ : jxS} {h e : Int} {m : Nat} (h1 : 1 ≤ h) (h2 : h ≤ 12) (hm : m < 169) : Model_changes F a σ h m e = some (0, chg σ a h ((m / 13 : Nat) : Int) ((m % 13 : Nat) : Int) e) := by
  have d := jd13 (x := (m : Int)) (by omega) (by omega)
  have d1 : (m : Int) / 13 = ((m / 13 : Nat) : Int) := by omega
  have d2 : (m : Int) % 13 = ((m % 13 : Nat) : Int) := by omega
  unfold Model_changes
  simp (disch := omega) only [d.1, d.2, ↓reduceIte, jw_id, jlt_T, jlt_F, jle_T, jle_F, jeq_T, jeq_F, and_self, and_true, true_and, and_false, false_and, or_true, true_or, or_false, false_or, not_true_eq_false, not_false_eq_true, jbs, jup_s, jup_k, jup_o]
  rw [d1, d2, mo_puts (by omega) (by omega), jbs]
  dsimp only
  rw [mo_puts (by omega) (by omega), jbs]
  clear d d1 d2
  generalize ((m / 13 : Nat) : Int) = x
  generalize ((m % 13 : Nat) : Int) = y
  congr 2
  funext b j
  by_cases ex : x = 0 <;> by_cases ey : y = 0 <;> simp only [ex, ey, if_true, if_false, chg, jup] <;> grind
theorem chg_back (σ : jxS) (a : Nat) (h x y e : Int) : chg (chg σ a h x y e) a h x y (-e) = σ := by
  funext b j
  simp only [chg]
  grind
theorem chg_ag (σ : jxS) (a : Nat) (h x y e : Int) : jag [a] σ (chg σ a h x y e) := fun b hb => by
  funext j
  simp only [chg]
  rw [if_neg (by simpa using hb)]
theorem ca0_at (c : Nat → Nat) (x g : Nat) : ca0 c x g = c g + (if x ≠ 0 ∧ g = x then 1 else 0) := by
  unfold ca0 cad
  by_cases e : x = 0
  · simp [e]
  · by_cases e2 : g = x <;> simp [e, e2]
theorem tgt_at (c : Nat → Nat) (h m g : Nat) : tgt c h m g = (if g = h then c g - 1 else c g) + (if m / 13 ≠ 0 ∧ g = m / 13 then 1 else 0) + (if m % 13 ≠ 0 ∧ g = m % 13 then 1 else 0) := by
  rw [tgt, ca0_at, ca0_at]
  rfl
theorem chg_Hd {σ : jxS} {a h m : Nat} {c : Nat → Nat} (hc : Hd σ a c) (h1 : 1 ≤ h) (h2 : h ≤ 12) (hp : 0 < c h) : Hd (chg σ a h ((m / 13 : Nat) : Int) ((m % 13 : Nat) : Int) 1) a (tgt c h m) := by
  intro g g1 g2
  have w := hc g g1 g2
  rw [tgt_at]
  simp only [chg, if_true]
  generalize m / 13 = x
  generalize m % 13 = y
  rw [w]
  by_cases e0 : g = h
  · subst e0
    rw [if_pos rfl, if_pos rfl]
    split <;> split <;> split <;> split <;> omega
  · rw [if_neg (by omega), if_neg e0]
    split <;> split <;> split <;> split <;> omega
theorem tgt_beans {c : Nat → Nat} {h m : Nat} (hc : okc c) (hh : 1 ≤ h) (h2 : h ≤ 12) (hp : 0 < c h) (hm : m / 13 ≤ 12) : okc (tgt c h m) ∧ beans (tgt c h m) + h = beans c + m / 13 + m % 13 := by
  obtain ⟨a1, a2⟩ := ca0_ok (okc_csb (h := h) hc) hm
  obtain ⟨b1, b2⟩ := ca0_ok a1 (h := m % 13) (by omega)
  have := beans_csb hh h2 hp
  exact ⟨b1, by show beans (ca0 (ca0 (csb c h) (m / 13)) (m % 13)) + h = _; omega⟩
theorem mo_behind {F a : Nat} {σ : jxS} {h m : Nat} {c : Nat → Nat} (ha : a ≠ 13) (ha2 : a ≠ 14) (hW : WT σ) (hc : Hd σ a c) (ho : okc c) (hb : beans c ≤ 22) (h1 : 1 ≤ h) (h2 : h ≤ 12) (hp : 0 < c h) (hm : m / 13 + m % 13 < h) (hF : 100 ≤ F) : Model_behind F a σ h m = some ((rank (tgt c h m) : Int), σ) := by
  obtain ⟨t1, t2⟩ := tgt_beans (m := m) ho h1 h2 hp (by omega)
  unfold Model_behind
  rw [mo_chg (by omega) (by omega) (by omega), jbs]
  dsimp only
  rw [mo_num (WT_ag hW (chg_ag _ _ _ _ _ _) (by simp; omega) (by simp; omega)) (chg_Hd hc h1 h2 hp) (by omega) hF, jbs]
  dsimp only
  rw [mo_chg (by omega) (by omega) (by omega), jbs]
  dsimp only
  rw [chg_back]
