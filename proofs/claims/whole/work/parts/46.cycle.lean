/-! Periods: nimbers by the code on both sides. -/
def sk (σ : jxS) (h : Nat) (l : List Nat) : Prop := ∀ j : Nat, j < 256 → (j ∈ l → σ 21 j = (h : Int)) ∧ (j ∉ l → 0 ≤ σ 21 j ∧ σ 21 j < (h : Int))
def P21 (a : Nat) (_ : Int) : Prop := a = 21
theorem sk_up {σ : jxS} {h x : Nat} {l : List Nat} (hs : sk σ h l) : sk (jup σ 21 x h) h (x :: l) := fun j hj => by
  by_cases e : j = x
  · subst e
    exact ⟨fun _ => jup_s _ _ _ _, fun q => absurd (List.mem_cons_self ..) q⟩
  · rw [jup_k (by omega)]
    simp only [List.mem_cons, e, false_or]
    exact hs j hj
theorem pn_256 (d : Nat) (dg : Nat → Nat) {h : Nat} (hh : h ≤ 160) : pn d dg h < 2 ^ 8 := Nat.lt_of_le_of_lt (pn_le d dg h) (by omega)
theorem xa255 {a b : Nat} (ha : a < 2 ^ 8) (hb : b < 2 ^ 8) : jand (jxor (a : Int) (b : Int)) 255 = ((a ^^^ b : Nat) : Int) ∧ (a ^^^ b) < 256 := by
  have x : a ^^^ b < 2 ^ 8 := Nat.xor_lt_two_pow ha hb
  have x' : a ^^^ b < 256 := x
  rw [bq_xor (Nat.lt_of_lt_of_le x (by decide)), bq_and255]
  generalize a ^^^ b = y at x'
  exact ⟨by omega, x'⟩
theorem cy_39s {F fu : Nat} {σ : jxS} {h l a p q x : Int} (ha : 0 ≤ a) (ha2 : 2 * a ≤ l) (hl : l ≤ 160) (wp : σ 20 a = p) (wq : σ 20 (l - a) = q) (hx : jand (jxor p q) 255 = x) (x0 : 0 ≤ x) (x1 : x < 256) : Cycle_seeMoves_c39 F (fu + 1) h l a σ = Cycle_seeMoves_c39 F fu h l (a + 1) (jup σ 21 x h) := by
  simp (disch := omega) only [Cycle_seeMoves_c39, wp, wq, hx, ↓reduceIte, jw_id, jlt_T, jlt_F, jle_T, jle_F, jeq_T, jeq_F, and_self, and_true, true_and, and_false, false_and, or_true, true_or, or_false, false_or, not_true_eq_false, not_false_eq_true, jbs, jup_s, jup_k, jup_o]
theorem cy_39 {F h l d : Nat} {dg : Nat → Nat} {σ0 : jxS} (hl : l ≤ 160) (hN : ∀ g : Nat, g ≤ l → σ0 20 g = (pn d dg g : Int)) : ∀ (n fu : Nat) (σ : jxS) (L : List Nat), n ≤ l / 2 → n < fu → jfr P21 σ0 σ → sk σ h L → ∃ σ' L', Cycle_seeMoves_c39 F fu h l ((l / 2 + 1 - n : Nat) : Int) σ = some (0, σ') ∧ jfr P21 σ0 σ' ∧ sk σ' h L' ∧ ∀ x, x ∈ L' ↔ x ∈ L ∨ x ∈ pns (pn d dg) l n := by
  intro n
  induction n with
  | zero =>
    intro fu σ L e1 e2 f hs
    obtain ⟨fu, rfl⟩ : ∃ k, fu = k + 1 := ⟨fu - 1, by omega⟩
    refine ⟨σ, L, ?_, f, hs, fun x => by simp [pns]⟩
    simp (disch := omega) only [Cycle_seeMoves_c39, ↓reduceIte, jw_id, jlt_T, jlt_F, jle_T, jle_F, jeq_T, jeq_F, and_self, and_true, true_and, and_false, false_and, or_true, true_or, or_false, false_or, not_true_eq_false, not_false_eq_true, jbs, jup_s, jup_k, jup_o]
  | succ n ih =>
    intro fu σ L e1 e2 f hs
    obtain ⟨fu, rfl⟩ : ∃ k, fu = k + 1 := ⟨fu - 1, by omega⟩
    have p1 : l / 2 - n ≤ l := by omega
    have p2 : l - (l / 2 - n) ≤ l := by omega
    have x1 : ((l / 2 + 1 - (n + 1) : Nat) : Int) = ((l / 2 - n : Nat) : Int) := by omega
    have x2 : (l : Int) - ((l / 2 - n : Nat) : Int) = ((l - (l / 2 - n) : Nat) : Int) := by omega
    have x3 : ((l / 2 - n : Nat) : Int) + 1 = ((l / 2 + 1 - n : Nat) : Int) := by omega
    have o1 : (0 : Int) ≤ ((l / 2 - n : Nat) : Int) := Int.natCast_nonneg _
    have o2 : 2 * ((l / 2 - n : Nat) : Int) ≤ (l : Int) := by omega
    have o3 : (l : Int) ≤ 160 := by omega
    have e1' : n ≤ l / 2 := by omega
    have e2' : n < fu := by omega
    have q1 : l / 2 - n ≤ 160 := by omega
    have q2 : l - (l / 2 - n) ≤ 160 := by omega
    have w1 := hN _ p1
    have w2 := hN _ p2
    rw [← f 20 _ (by simp [P21])] at w1 w2
    rw [← x2] at w2
    obtain ⟨y1, y2⟩ := xa255 (pn_256 d dg q1) (pn_256 d dg q2)
    have st := cy_39s (F := F) (fu := fu) (h := h) o1 o2 o3 w1 w2 y1 (Int.natCast_nonneg _) (Int.ofNat_lt.mpr y2)
    obtain ⟨σ', L', i1, i2, i3, i4⟩ := ih fu (jup σ 21 ((pn d dg (l / 2 - n) ^^^ pn d dg (l - (l / 2 - n)) : Nat) : Int) h) ((pn d dg (l / 2 - n) ^^^ pn d dg (l - (l / 2 - n))) :: L) e1' e2' (jfr_up f rfl) (sk_up hs)
    refine ⟨σ', L', ?_, i2, i3, fun x => by rw [i4 x]; simp only [List.mem_cons, pns]; grind⟩
    rw [x1, st, x3]
    exact i1
theorem cy_10 {F : Nat} {σ : jxS} {h l x t v : Int} {b : Bool} {g : Int} (hb : jand x t = 0 ↔ b = false) (hr : 0 ≤ jand x t) (hr2 : jand x t < 8) (hl : 0 ≤ l) (hl2 : l ≤ 160) (w : σ 20 l = v) (hv : jand v 255 = g) (g0 : 0 ≤ g) (g1 : g < 256) : Cycle_seeMoves_c10 F h l x t x σ = Cycle_seeMoves_c30 F h l x (if b then jup σ 21 g h else σ) := by
  cases b
  · have e := hb.mpr rfl
    simp (disch := omega) only [Cycle_seeMoves_c10, e, Bool.false_eq_true, ↓reduceIte, jw_id, jlt_T, jlt_F, jle_T, jle_F, jeq_T, jeq_F, and_self, and_true, true_and, and_false, false_and, or_true, true_or, or_false, false_or, not_true_eq_false, not_false_eq_true, jbs, jup_s, jup_k, jup_o]
  · have e : ¬ jand x t = 0 := fun q => by have := hb.mp q; cases this
    simp (disch := omega) only [Cycle_seeMoves_c10, w, hv, ↓reduceIte, jw_id, jlt_T, jlt_F, jle_T, jle_F, jeq_T, jeq_F, and_self, and_true, true_and, and_false, false_and, or_true, true_or, or_false, false_or, not_true_eq_false, not_false_eq_true, jbs, jup_s, jup_k, jup_o]
theorem ca_see {F h k d : Nat} {dg : Nat → Nat} {σ : jxS} {L : List Nat} (dl : ∀ i, dg i < 8) (h160 : h ≤ 160) (hk : 1 ≤ k) (hk2 : k ≤ h) (hN : ∀ g : Nat, g < h → σ 20 g = (pn d dg g : Int)) (hs : sk σ h L) (hF : 1000 ≤ F) : ∃ σ' L', Cycle_seeMoves F σ h ((h : Int) - k) (dg (k - 1)) = some (0, σ') ∧ jfr P21 σ σ' ∧ sk σ' h L' ∧ ∀ x, x ∈ L' ↔ x ∈ L ∨ x ∈ pnk dg (pn d dg) h k := by
  have kk : (h : Int) - k = ((h - k : Nat) : Int) := by omega
  obtain ⟨j1, j2, j4, r1, r2, r4⟩ := jand_bit (dg (k - 1)) (dl _)
  have l160 : h - k ≤ 160 := by omega
  have lh : h - k < h := by omega
  have w := hN (h - k) lh
  have pl := pn_256 d dg l160
  have a255 : jand (pn d dg (h - k) : Int) 255 = (pn d dg (h - k) : Int) := by
    rw [bq_and255]
    have : pn d dg (h - k) < 256 := pl
    omega
  have o1 : (0 : Int) ≤ ((h - k : Nat) : Int) := Int.natCast_nonneg _
  have o2 : ((h - k : Nat) : Int) ≤ 160 := by omega
  have o3 : (pn d dg (h - k) : Int) < 256 := by have : pn d dg (h - k) < 256 := pl; omega
  -- the second part
  have second : ∀ (σ1 : jxS) (L1 : List Nat), jfr P21 σ σ1 → sk σ1 h L1 → ∃ σ' L', Cycle_seeMoves_c30 F h ((h - k : Nat) : Int) (dg (k - 1)) σ1 = some (0, σ') ∧ jfr P21 σ σ' ∧ sk σ' h L' ∧ ∀ x, x ∈ L' ↔ x ∈ L1 ∨ x ∈ (if (dg (k - 1)).testBit 2 then pns (pn d dg) (h - k) ((h - k) / 2) else []) := fun σ1 L1 f1 s1 => by
    by_cases t : (dg (k - 1)).testBit 2 = true
    · have e : ¬ jand (dg (k - 1) : Int) 4 = 0 := fun q => by rw [j4.mp q] at t; cases t
      obtain ⟨σ', L', i1, i2, i3, i4⟩ := cy_39 (F := F) (h := h) (l := h - k) (d := d) (dg := dg) (σ0 := σ1) l160 (fun g hg => by rw [f1 20 _ (by simp [P21])]; exact hN g (by omega)) ((h - k) / 2) F σ1 L1 (Nat.le_refl _) (by omega) (jfr_refl _ _) s1
      refine ⟨σ', L', ?_, jfr_trans f1 i2, i3, fun x => by rw [i4 x, if_pos t]⟩
      rw [show ((h - k) / 2 + 1 - (h - k) / 2 : Nat) = 1 by omega] at i1
      rw [Cycle_seeMoves_c30, if_neg (by rw [jw_id (by omega) (by omega)]; exact e)]
      exact i1
    · have t' : (dg (k - 1)).testBit 2 = false := by cases q : (dg (k - 1)).testBit 2 <;> simp_all
      have e := j4.mpr t'
      refine ⟨σ1, L1, ?_, f1, s1, fun x => by rw [if_neg t]; simp⟩
      rw [Cycle_seeMoves_c30, e, if_pos (show jw 0 = 0 from rfl)]
  have first : ∀ (b : Bool) (y : Nat), y = pn d dg (h - k) → ∃ L1, jfr P21 σ (if b then jup σ 21 (pn d dg (h - k)) h else σ) ∧ sk (if b then jup σ 21 (pn d dg (h - k)) h else σ) h L1 ∧ ∀ x, x ∈ L1 ↔ x ∈ L ∨ x ∈ (if b then [y] else []) := fun b y hy => by
    cases b
    · exact ⟨L, jfr_refl _ _, hs, fun x => by simp⟩
    · exact ⟨pn d dg (h - k) :: L, jfr_up (jfr_refl _ _) rfl, sk_up hs, fun x => by rw [hy]; simp only [List.mem_cons, if_true, List.not_mem_nil, or_false]; grind⟩
  rw [kk]
  by_cases z : h - k = 0
  · have c := cy_10 (F := F) (σ := σ) (h := h) (l := ((h - k : Nat) : Int)) (x := dg (k - 1)) (t := 1) (b := (dg (k - 1)).testBit 0) j1 r1.1 r1.2 o1 o2 w a255 (Int.natCast_nonneg _) o3
    obtain ⟨L1, f1, s1, m1⟩ := first ((dg (k - 1)).testBit 0) 0 (by rw [z, pn_0])
    obtain ⟨σ', L', i1, i2, i3, i4⟩ := second _ L1 f1 s1
    refine ⟨σ', L', ?_, i2, i3, fun x => ?_⟩
    · rw [Cycle_seeMoves, if_pos (by rw [z]; rfl), c]
      exact i1
    · rw [i4 x, m1 x, pnk, List.mem_append, if_pos z, or_assoc]
  · have c := cy_10 (F := F) (σ := σ) (h := h) (l := ((h - k : Nat) : Int)) (x := dg (k - 1)) (t := 2) (b := (dg (k - 1)).testBit 1) j2 r2.1 r2.2 o1 o2 w a255 (Int.natCast_nonneg _) o3
    obtain ⟨L1, f1, s1, m1⟩ := first ((dg (k - 1)).testBit 1) (pn d dg (h - k)) rfl
    obtain ⟨σ', L', i1, i2, i3, i4⟩ := second _ L1 f1 s1
    refine ⟨σ', L', ?_, i2, i3, fun x => ?_⟩
    · rw [Cycle_seeMoves, if_neg (by rw [jw_id (by omega) (by omega)]; omega), c]
      exact i1
    · rw [i4 x, m1 x, pnk, List.mem_append, if_neg z, or_assoc]
theorem cy_56 {F h : Nat} {k10 : Int → jxS → Option jxR} {σ : jxS} {L : List Nat} (h1 : 1 ≤ h) (h160 : h ≤ 160) (hs : sk σ h L) (hm : mex L ≤ 160) : ∀ (n fu v : Nat), n + v = mex L → n < fu → Cycle_findNimbers_c56 F k10 fu h v v σ = k10 ((h : Int) + 1) (jup σ 20 h (mex L)) := by
  intro n
  induction n with
  | zero =>
    intro fu v e1 e2
    obtain ⟨fu, rfl⟩ : ∃ k, fu = k + 1 := ⟨fu - 1, by omega⟩
    have hv : v = mex L := by omega
    obtain ⟨w1, w2⟩ := (hs v (by omega)).2 (by rw [hv]; exact mex_out L)
    rw [← hv]
    simp (disch := omega) only [Cycle_findNimbers_c56, Cycle_findNimbers_c86, ↓reduceIte, jw_id, jlt_T, jlt_F, jle_T, jle_F, jeq_T, jeq_F, and_self, and_true, true_and, and_false, false_and, or_true, true_or, or_false, false_or, not_true_eq_false, not_false_eq_true, jbs, jup_s, jup_k, jup_o]
  | succ n ih =>
    intro fu v e1 e2
    obtain ⟨fu, rfl⟩ : ∃ k, fu = k + 1 := ⟨fu - 1, by omega⟩
    have w := (hs v (by omega)).1 (mex_in (by omega))
    have i1 := ih fu (v + 1) (by omega) (by omega)
    rw [Int.natCast_add, Int.natCast_one] at i1
    simp (disch := omega) only [Cycle_findNimbers_c56, w, ↓reduceIte, jw_id, jlt_T, jlt_F, jle_T, jle_F, jeq_T, jeq_F, and_self, and_true, true_and, and_false, false_and, or_true, true_or, or_false, false_or, not_true_eq_false, not_false_eq_true, jbs, jup_s, jup_k, jup_o]
    exact i1
theorem cy_19 {F h d : Nat} {dg : Nat → Nat} {k10 : Int → jxS → Option jxR} {σ0 : jxS} (hd : d ≤ 8) (dl : ∀ i, dg i < 8) (h1 : 1 ≤ h) (h160 : h ≤ 160) (wd : σ0 10 8 = (d : Int)) (wg : ∀ i : Nat, i < d → σ0 11 i = (dg i : Int)) (hN : ∀ g : Nat, g < h → σ0 20 g = (pn d dg g : Int)) (hF : 1000 ≤ F) : ∀ (n fu : Nat) (σ : jxS) (L : List Nat), n ≤ d → n < fu → jfr P21 σ0 σ → sk σ h L → ∃ σ' L', Cycle_findNimbers_c19 F k10 fu h ((d + 1 - n : Nat) : Int) σ = Cycle_findNimbers_c56 F k10 F h 0 0 σ' ∧ jfr P21 σ0 σ' ∧ sk σ' h L' ∧ ∀ x, x ∈ L' ↔ x ∈ L ∨ x ∈ pnl d dg (pn d dg) h n := by
  intro n
  induction n with
  | zero =>
    intro fu σ L e1 e2 f hs
    obtain ⟨fu, rfl⟩ : ∃ k, fu = k + 1 := ⟨fu - 1, by omega⟩
    have w : σ 10 8 = (d : Int) := by rw [f 10 8 (by simp [P21])]; exact wd
    refine ⟨σ, L, ?_, f, hs, fun x => by simp [pnl]⟩
    rw [Cycle_findNimbers_c19, Rules_digitCount, jbs]
    dsimp only
    rw [w, if_pos (by unfold jw; omega)]
  | succ n ih =>
    intro fu σ L e1 e2 f hs
    obtain ⟨fu, rfl⟩ : ∃ k, fu = k + 1 := ⟨fu - 1, by omega⟩
    have w : σ 10 8 = (d : Int) := by rw [f 10 8 (by simp [P21])]; exact wd
    have wdg := wg (d - n - 1) (by omega)
    rw [← f 11 _ (by simp [P21])] at wdg
    have x1 : ((d + 1 - (n + 1) : Nat) : Int) = ((d - n : Nat) : Int) := by omega
    have x2 : ((d - n : Nat) : Int) + 1 = ((d + 1 - n : Nat) : Int) := by omega
    have x3 : ((d - n : Nat) : Int) - 1 = ((d - n - 1 : Nat) : Int) := by omega
    rw [x1]
    by_cases q : d - n ≤ h
    · obtain ⟨σ1, L1, a1, a2, a3, a4⟩ := ca_see (F := F) (d := d) (dg := dg) (k := d - n) dl h160 (by omega) q (fun g hg => by rw [f 20 _ (by simp [P21])]; exact hN g hg) hs hF
      obtain ⟨σ2, L2, b1, b2, b3, b4⟩ := ih fu σ1 L1 (by omega) (by omega) (jfr_trans f a2) a3
      refine ⟨σ2, L2, ?_, b2, b3, fun x => by rw [b4 x, a4 x, pnl, if_pos q, List.mem_append, or_assoc]⟩
      have df : Rules_digitFor F σ ((d - n : Nat) : Int) = some ((dg (d - n - 1) : Int), σ) := by
        simp (disch := omega) only [Rules_digitFor, w, x3, wdg, ↓reduceIte, jw_id, jlt_T, jlt_F, jle_T, jle_F, jeq_T, jeq_F, and_self, and_true, true_and, and_false, false_and, or_true, true_or, or_false, false_or, not_true_eq_false, not_false_eq_true, jbs, jup_s, jup_k, jup_o]
      rw [Cycle_findNimbers_c19, Rules_digitCount, jbs]
      dsimp only
      rw [w, if_neg (by unfold jw; omega), if_neg (by unfold jw; omega), df, jbs]
      dsimp only
      rw [a1, jbs]
      dsimp only
      rw [x2]
      exact b1
    · -- no such heap any more: all that follows is beyond it too
      refine ⟨σ, L, ?_, f, hs, fun x => ?_⟩
      · rw [Cycle_findNimbers_c19, Rules_digitCount, jbs]
        dsimp only
        rw [w, if_neg (by unfold jw; omega), if_pos (by unfold jw; omega)]
      · rw [pnl_mem (n + 1) e1]
        constructor
        · exact Or.inl
        · rintro (h1 | ⟨k, k1, k2, k3, k4⟩)
          · exact h1
          · omega
def CYP (a : Nat) (_ : Int) : Prop := a = 20 ∨ a = 21
theorem cy_heaps {F d : Nat} {dg : Nat → Nat} {σ0 : jxS} (hd : d ≤ 8) (dl : ∀ i, dg i < 8) (wd : σ0 10 8 = (d : Int)) (wg : ∀ i : Nat, i < d → σ0 11 i = (dg i : Int)) (hF : 1000 ≤ F) : ∀ (n fu h : Nat) (σ : jxS), n + h = 161 → 1 ≤ h → n < fu → jfr CYP σ0 σ → (∀ g : Nat, g < h → σ 20 g = (pn d dg g : Int)) → (∀ j : Nat, j < 256 → 0 ≤ σ 21 j ∧ σ 21 j < (h : Int)) → ∃ σ', Cycle_findNimbers_c10 F fu h σ = some (0, σ') ∧ jfr CYP σ0 σ' ∧ ∀ g : Nat, g ≤ 160 → σ' 20 g = (pn d dg g : Int) := by
  intro n
  induction n with
  | zero =>
    intro fu h σ e1 e2 e3 f hN hs
    obtain ⟨fu, rfl⟩ : ∃ k, fu = k + 1 := ⟨fu - 1, by omega⟩
    refine ⟨σ, ?_, f, fun g hg => hN g (by omega)⟩
    simp (disch := omega) only [Cycle_findNimbers_c10, ↓reduceIte, jw_id, jlt_T, jlt_F, jle_T, jle_F, jeq_T, jeq_F, and_self, and_true, true_and, and_false, false_and, or_true, true_or, or_false, false_or, not_true_eq_false, not_false_eq_true, jbs, jup_s, jup_k, jup_o]
  | succ n ih =>
    intro fu h σ e1 e2 e3 f hN hs
    obtain ⟨fu, rfl⟩ : ∃ k, fu = k + 1 := ⟨fu - 1, by omega⟩
    obtain ⟨σ1, L1, a1, a2, a3, a4⟩ := cy_19 (F := F) (h := h) (k10 := Cycle_findNimbers_c10 F fu) (σ0 := σ) hd dl e2 (by omega) (by rw [f 10 8 (by simp [CYP])]; exact wd) (fun i hi => by rw [f 11 _ (by simp [CYP])]; exact wg i hi) hN hF d F σ [] (Nat.le_refl _) (by omega) (jfr_refl _ _) (fun j hj => ⟨fun q => by simp at q, fun _ => hs j hj⟩)
    have pm : mex L1 = pn d dg h := by
      rw [pn_eq, if_neg (by omega)]
      exact mex_congr (fun x => by rw [a4 x]; simp)
    have pl := pn_le d dg h
    have c := cy_56 (F := F) (k10 := Cycle_findNimbers_c10 F fu) e2 (by omega) a3 (by rw [pm]; omega) (mex L1) F 0 (Nat.add_zero _) (by rw [pm]; omega)
    rw [pm] at c
    obtain ⟨σ2, b1, b2, b3⟩ := ih fu (h + 1) (jup σ1 20 h (pn d dg h)) (by omega) (by omega) (by omega) (jfr_up (jfr_trans f (jfr_mono a2 (fun a j h => Or.inr h))) (Or.inl rfl)) (fun g hg => by
      by_cases q : g = h
      · rw [q, jup_s]
      · rw [jup_k (by omega), a2 20 _ (by simp [P21])]; exact hN g (by omega)) (fun j hj => by
      rw [jup_o (by omega)]
      by_cases q : j ∈ L1
      · rw [(a3 j hj).1 q]; omega
      · have := (a3 j hj).2 q; omega)
    refine ⟨σ2, ?_, b2, b3⟩
    rw [Int.natCast_add, Int.natCast_one] at b1
    rw [show (d + 1 - d : Nat) = 1 by omega] at a1
    rw [← b1]
    rw [Cycle_findNimbers_c10, if_neg (by unfold jw; omega)]
    exact a1.trans c
theorem ca_findNimbers {F d : Nat} {dg : Nat → Nat} {σ : jxS} (hd : d ≤ 8) (dl : ∀ i, dg i < 8) (wd : σ 10 8 = (d : Int)) (wg : ∀ i : Nat, i < d → σ 11 i = (dg i : Int)) (w0 : σ 20 0 = 0) (hF : 5000 ≤ F) : ∃ σ', Cycle_findNimbers F σ = some (0, σ') ∧ jfr CYP σ σ' ∧ ∀ g : Nat, g ≤ 160 → σ' 20 g = (pn d dg g : Int) := by
  obtain ⟨σ1, a1, a2, a3⟩ := ca_fill (F := F) (a := 21) (v := 0) (N := 256) σ (by decide) (by omega) hF
  have f1 : jfr CYP σ σ1 := jfr_ag a2 (fun a j h => Or.inr (List.mem_singleton.mp h))
  obtain ⟨σ2, b1, b2, b3⟩ := cy_heaps (F := F) (σ0 := σ1) hd dl (by rw [f1 10 8 (by simp [CYP])]; exact wd) (fun i hi => by rw [f1 11 _ (by simp [CYP])]; exact wg i hi) (by omega) 160 F 1 σ1 (by omega) (by omega) (by omega) (jfr_refl _ _) (fun g hg => by
    have : g = 0 := by omega
    subst this
    rw [pn_0, a2 20 (by simp)]
    exact w0) (fun j hj => by rw [a3 j (by omega) (by omega)]; omega)
  refine ⟨σ2, ?_, jfr_trans f1 b2, b3⟩
  rw [Cycle_findNimbers, a1, jbs]
  exact b1
