/-! Quotients: the reference builds them. -/
/-- the reference's mark: the tests of heaps 1 to n, one bit each -/
noncomputable def rmk (M : Nat → List Nat) (n : Nat) (c : Nat → Nat) (m t : Nat) (a : Nat × Nat) : Nat × Nat := match m with
  | 0 => a
  | m + 1 => rmk M n c m (t + 1) (if tno n t then (a.1 ||| (if los M (rank (cpl c (un t))) then 2 ^ a.2 else 0), a.2 + 1) else a)
noncomputable def rmkF (M : Nat → List Nat) (n : Nat) (c : Nat → Nat) : Nat := jseal (rmk M n c 45 0 (0, 0)).1
theorem rmk_s (M : Nat → List Nat) (n : Nat) (c : Nat → Nat) (m t : Nat) (a : Nat × Nat) : rmk M n c (m + 1) t a = rmk M n c m (t + 1) (if tno n t then (a.1 ||| (if los M (rank (cpl c (un t))) then 2 ^ a.2 else 0), a.2 + 1) else a) := rfl
/-- equal marks: alike -/
theorem rmk_inj {M : Nat → List Nat} {n : Nat} {c d : Nat → Nat} : ∀ (m t : Nat) (a b : Nat × Nat), a.2 = b.2 → a.1 < 2 ^ a.2 → b.1 < 2 ^ b.2 → ((rmk M n c m t a).1 = (rmk M n d m t b).1 ↔ (a.1 = b.1 ∧ ∀ s, t ≤ s → s < t + m → tno n s = true → los M (rank (cpl c (un s))) = los M (rank (cpl d (un s))))) := by
  intro m
  induction m with
  | zero =>
    intro t a b e1 e2 e3
    simp only [rmk]
    exact ⟨fun h => ⟨h, fun s s1 s2 => by omega⟩, fun h => h.1⟩
  | succ m ih =>
    intro t a b e1 e2 e3
    rw [rmk_s, rmk_s]
    cases hn : tno n t
    · simp only [Bool.false_eq_true, if_false]
      rw [ih (t + 1) a b e1 e2 e3]
      constructor
      · rintro ⟨h1, h2⟩
        refine ⟨h1, fun s s1 s2 s3 => ?_⟩
        by_cases z : s = t
        · subst z; rw [hn] at s3; cases s3
        · exact h2 s (by omega) (by omega) s3
      · rintro ⟨h1, h2⟩
        exact ⟨h1, fun s s1 s2 s3 => h2 s (by omega) (by omega) s3⟩
    · simp only [if_true]
      have hlt : ∀ (x k : Nat) (l : Bool), x < 2 ^ k → x ||| (if l then 2 ^ k else 0) < 2 ^ (k + 1) := fun x k l hx => by
        have h2 : 2 ^ k < 2 ^ (k + 1) := Nat.pow_lt_pow_right (by decide) (Nat.lt_succ_self k)
        refine Nat.or_lt_two_pow (Nat.lt_trans hx h2) ?_
        split
        · exact h2
        · exact Nat.two_pow_pos _
      rw [ih (t + 1) _ _ (by show a.2 + 1 = b.2 + 1; rw [e1]) (hlt a.1 a.2 _ e2) (hlt b.1 b.2 _ e3)]
      have key : (a.1 ||| (if los M (rank (cpl c (un t))) then 2 ^ a.2 else 0)) = (b.1 ||| (if los M (rank (cpl d (un t))) then 2 ^ b.2 else 0)) ↔ a.1 = b.1 ∧ los M (rank (cpl c (un t))) = los M (rank (cpl d (un t))) := by
        have tb : ∀ (x k : Nat) (l : Bool), x < 2 ^ k → (x ||| (if l then 2 ^ k else 0)).testBit k = l := fun x k l hx => by
          rw [Nat.testBit_or, Nat.testBit_lt_two_pow hx, Bool.false_or]
          cases l
          · simp
          · simp [Nat.testBit_two_pow]
        have tl : ∀ (x k : Nat) (l : Bool) (i : Nat), x < 2 ^ k → i ≠ k → (x ||| (if l then 2 ^ k else 0)).testBit i = x.testBit i := fun x k l i hx hi => by
          rw [Nat.testBit_or]
          cases l
          · simp
          · simp only [if_true, Nat.testBit_two_pow]
            have : ¬ k = i := fun q => hi q.symm
            simp [this]
        constructor
        · intro h
          have hk : los M (rank (cpl c (un t))) = los M (rank (cpl d (un t))) := by
            have q1 := tb a.1 a.2 (los M (rank (cpl c (un t)))) e2
            have q2 := tb b.1 b.2 (los M (rank (cpl d (un t)))) e3
            rw [h, e1] at q1
            rw [q1] at q2
            exact q2
          refine ⟨Nat.eq_of_testBit_eq fun i => ?_, hk⟩
          by_cases hi : i = a.2
          · subst hi
            rw [Nat.testBit_lt_two_pow e2]
            rw [e1, Nat.testBit_lt_two_pow e3]
          · rw [← tl a.1 a.2 (los M (rank (cpl c (un t)))) i e2 hi, h, tl b.1 b.2 _ i e3 (by rw [← e1]; exact hi)]
        · rintro ⟨h1, h2⟩
          rw [h1, h2, e1]
      simp only [key]
      constructor
      · rintro ⟨⟨h1, h1'⟩, h2⟩
        refine ⟨h1, fun s s1 s2 s3 => ?_⟩
        by_cases z : s = t
        · subst z; exact h1'
        · exact h2 s (by omega) (by omega) s3
      · rintro ⟨h1, h2⟩
        exact ⟨⟨h1, h2 t (Nat.le_refl _) (by omega) hn⟩, fun s s1 s2 s3 => h2 s (by omega) (by omega) s3⟩
theorem rmkF_iff {M : Nat → List Nat} {n : Nat} {c d : Nat → Nat} : rmkF M n c = rmkF M n d ↔ smk M n c d := by
  rw [rmkF, rmkF, jseal_eq, jseal_eq, rmk_inj 45 0 (0, 0) (0, 0) rfl (by decide) (by decide)]
  constructor
  · rintro ⟨_, h⟩ t ht hn
    exact h t (Nat.zero_le _) (by omega) hn
  · intro h
    exact ⟨rfl, fun s _ h2 h3 => h s (by omega) h3⟩
theorem rmk_lt {M : Nat → List Nat} {n : Nat} {c : Nat → Nat} : ∀ (m t : Nat) (a : Nat × Nat), a.1 < 2 ^ a.2 → (rmk M n c m t a).1 < 2 ^ (a.2 + m) := by
  intro m
  induction m with
  | zero => intro t a h; exact h
  | succ m ih =>
    intro t a h
    rw [rmk_s]
    cases hn : tno n t
    · simp only [Bool.false_eq_true, if_false]
      exact Nat.lt_of_lt_of_le (ih (t + 1) a h) (Nat.pow_le_pow_right (by decide) (by omega))
    · simp only [if_true]
      have h2 : 2 ^ a.2 < 2 ^ (a.2 + 1) := Nat.pow_lt_pow_right (by decide) (Nat.lt_succ_self _)
      have := ih (t + 1) (a.1 ||| (if los M (rank (cpl c (un t))) then 2 ^ a.2 else 0), a.2 + 1) (Nat.or_lt_two_pow (Nat.lt_trans h h2) (by split; exact h2; exact Nat.two_pow_pos _))
      simp only at this
      rw [show a.2 + (m + 1) = a.2 + 1 + m by omega]
      exact this
theorem rmkF_lt (M : Nat → List Nat) (n : Nat) (c : Nat → Nat) : rmkF M n c < 2 ^ 45 := by
  rw [rmkF, jseal_eq]
  have := rmk_lt (M := M) (n := n) (c := c) 45 0 (0, 0) (by decide)
  simpa using this
def zfr (d : Nat → Nat) (m h : Nat) : Bool := match m with
  | 0 => true
  | m + 1 => decide (d h = 0) && zfr d m (h + 1)
theorem zfr_iff {d : Nat → Nat} : ∀ m h, zfr d m h = true ↔ ∀ x, h ≤ x → x < h + m → d x = 0 := by
  intro m
  induction m with
  | zero => intro h; simp only [zfr, true_iff]; intro x h1 h2; omega
  | succ m ih =>
    intro h
    simp only [zfr, Bool.and_eq_true, decide_eq_true_eq, ih]
    constructor
    · rintro ⟨h1, h2⟩ x x1 x2
      by_cases e : x = h
      · subst e; exact h1
      · exact h2 x (by omega) (by omega)
    · intro q
      exact ⟨q h (Nat.le_refl _) (by omega), fun x x1 x2 => q x (by omega) (by omega)⟩
/-- which tests have heaps above n -/
theorem rm_38 {F n : Nat} {σ : jxS} {d : Nat → Nat} {k8 : Int → Int → Int → Int → jxS → Option jxR} {v2 v4 v5 : Int} (hH : Hd σ 29 d) (hd : ∀ h, h ≤ 12 → d h ≤ 22) : ∀ (m fu h : Nat) (w : Bool), m + h = 13 → 1 ≤ h → m < fu → ∃ g, Model_markOf_c38 F k8 fu n v2 v4 v5 (if w then 1 else 0) h σ = Model_markOf_c38 F k8 (g + 1) n v2 v4 v5 (if (w && zfr d m h) then 1 else 0) 13 σ := by
  intro m
  induction m with
  | zero =>
    intro fu h w e1 e2 e3
    obtain ⟨fu, rfl⟩ : ∃ k, fu = k + 1 := ⟨fu - 1, by omega⟩
    have hh : h = 13 := by omega
    subst hh
    exact ⟨fu, by rw [zfr, Bool.and_true]; rfl⟩
  | succ m ih =>
    intro fu h w e1 e2 e3
    obtain ⟨fu, rfl⟩ : ∃ k, fu = k + 1 := ⟨fu - 1, by omega⟩
    have c1 : ¬ 12 < jw (h : Int) := by unfold jw; omega
    have wd := hH h e2 (by omega)
    have bd := hd h (by omega)
    have hh : ((h + 1 : Nat) : Int) = (h : Int) + 1 := by omega
    cases w
    · obtain ⟨g, i1⟩ := ih fu (h + 1) false (by omega) (by omega) (by omega)
      refine ⟨g, ?_⟩
      simp only [Bool.false_and, Bool.false_eq_true, if_false] at i1 ⊢
      rw [hh] at i1
      rw [← i1, Model_markOf_c38, if_neg c1, if_pos (show jw 0 = 0 from rfl)]
    · by_cases z : d h = 0
      · obtain ⟨g, i1⟩ := ih fu (h + 1) true (by omega) (by omega) (by omega)
        have e : zfr d (m + 1) h = zfr d m (h + 1) := by simp only [zfr, decide_eq_true z, Bool.true_and]
        refine ⟨g, ?_⟩
        rw [e]
        simp only [if_true] at i1 ⊢
        rw [hh] at i1
        rw [← i1, Model_markOf_c38, if_neg c1, if_neg (show ¬ jw 1 = 0 by decide), if_pos (by omega), wd, z, if_pos (show jw ((0 : Nat) : Int) = 0 from rfl)]
      · obtain ⟨g, i1⟩ := ih fu (h + 1) false (by omega) (by omega) (by omega)
        have e : zfr d (m + 1) h = false := by simp only [zfr, decide_eq_false z, Bool.false_and]
        refine ⟨g, ?_⟩
        rw [e]
        simp only [Bool.false_and, Bool.and_false, Bool.false_eq_true, if_false, if_true] at i1 ⊢
        rw [hh] at i1
        rw [← i1, Model_markOf_c38, if_neg c1, if_neg (show ¬ jw 1 = 0 by decide), if_pos (by omega), wd, if_neg (by unfold jw; omega)]
theorem tno_iff {n t : Nat} (hn : n ≤ 12) : tno n t = zfr (un t) (12 - n) (n + 1) := by
  apply Bool.eq_iff_iff.mpr
  rw [zfr_iff]
  unfold tno
  rw [List.all_eq_true]
  constructor
  · intro h x x1 x2
    exact Classical.byContradiction fun q => by
      have := of_decide_eq_true (h x (dh_mem.mpr ⟨⟨by omega, by omega⟩, by omega⟩))
      omega
  · intro h x hx
    obtain ⟨⟨a, b⟩, c⟩ := dh_mem.mp hx
    exact decide_eq_true (Classical.byContradiction fun q => by
      have := h x (by omega) (by omega)
      omega)
def RMQ (a : Nat) (_ : Int) : Prop := a = 29
theorem rk_mark_c {F n : Nat} {M : Nat → List Nat} {c : Nat → Nat} {σ0 : jxS} (hn : n ≤ 6) (n1 : 1 ≤ n) (hW : WT σ0) (hV : VT σ0 M 4224) (hc : Hd σ0 38 c) (hb : beans c ≤ 15) (hF : 1000 ≤ F) : ∀ (m fu t : Nat) (a : Nat × Nat) (σ : jxS), m + t = 45 → m < fu → a.2 ≤ t → a.1 < 2 ^ a.2 → jfr RMQ σ0 σ → ∃ σ', Model_markOf_c8 F fu n a.1 a.2 t σ = some (((rmk M n c m t a).1 : Int), σ') ∧ jfr RMQ σ0 σ' := by
  intro m
  induction m with
  | zero =>
    intro fu t a σ e1 e2 e3 e4 f
    obtain ⟨fu, rfl⟩ : ∃ k, fu = k + 1 := ⟨fu - 1, by omega⟩
    have w : σ 14 ((8 : Nat) : Int) = ((45 : Nat) : Int) := by rw [f 14 _ (by simp [RMQ]), hW.2 8 (by omega), fo_8]
    have w' : σ 14 8 = 45 := w
    refine ⟨σ, ?_, f⟩
    rw [Model_markOf_c8, w', if_neg (by unfold jw; omega)]
    rfl
  | succ m ih =>
    intro fu t a σ e1 e2 e3 e4 f
    obtain ⟨fu, rfl⟩ : ∃ k, fu = k + 1 := ⟨fu - 1, by omega⟩
    have w : σ 14 ((8 : Nat) : Int) = ((45 : Nat) : Int) := by rw [f 14 _ (by simp [RMQ]), hW.2 8 (by omega), fo_8]
    have w' : σ 14 8 = 45 := w
    have ht : t < fo 8 := by rw [fo_8]; omega
    obtain ⟨v1, v2, v3⟩ := un_small (by decide) ht
    obtain ⟨σ1, a1, a2, a3⟩ := mo_lay (F := F) (a := 29) (p := t) (σ := σ) (by omega) (by omega) (WT_fr hW f (by simp [RMQ]) (by simp [RMQ])) (by omega) (by omega)
    have f1 : jfr RMQ σ0 σ1 := jfr_trans f (jfr_ag a2 (fun a j h => List.mem_singleton.mp h))
    obtain ⟨g, b1⟩ := rm_38 (F := F) (n := n) (σ := σ1) (k8 := Model_markOf_c8 F fu) (v2 := a.1) (v4 := a.2) (v5 := t) a3 (fun h hh => by
      by_cases z : 1 ≤ h
      · have := count_le (c := un t) z hh; omega
      · have : h = 0 := by omega
        subst this
        rw [v1 0 (Or.inl rfl)]; omega) (12 - n) F (n + 1) true (by omega) (by omega) (by omega)
    rw [Bool.true_and, ← tno_iff (by omega)] at b1
    have st : Model_markOf_c8 F (fu + 1) n a.1 a.2 t σ = Model_markOf_c38 F (Model_markOf_c8 F fu) F n a.1 a.2 t 1 ((n : Int) + 1) σ1 := by
      rw [Model_markOf_c8, w', if_pos (by unfold jw; omega), a1, jbs]
    have b1' : Model_markOf_c38 F (Model_markOf_c8 F fu) F n a.1 a.2 t 1 ((n : Int) + 1) σ1 = _ := b1
    have bes := rk_beside (F := F) (a := 38) (σ := σ1) (M := M) (by omega) (by omega) (by omega) (by omega) (WT_fr hW f1 (by simp [RMQ]) (by simp [RMQ])) (VT_fr hV f1 (fun a j h1 h2 => by simp [RMQ]; omega)) (Hd_fr hc f1 (by simp [RMQ])) a3 (by omega) hF
    have tt : ((t + 1 : Nat) : Int) = (t : Int) + 1 := by omega
    have aa : ((a.2 + 1 : Nat) : Int) = (a.2 : Int) + 1 := by omega
    have k1 : a.2 < 63 := by omega
    have e1' : m + (t + 1) = 45 := by omega
    have e2' : m < fu := by omega
    have e3' : a.2 ≤ t + 1 := by omega
    have e3'' : a.2 + 1 ≤ t + 1 := by omega
    rw [st, b1', rmk_s]
    cases hn2 : tno n t
    · simp only [Bool.false_eq_true, if_false]
      obtain ⟨σ2, c1, c2⟩ := ih fu (t + 1) a σ1 e1' e2' e3' e4 f1
      rw [tt] at c1
      refine ⟨σ2, ?_, c2⟩
      rw [Model_markOf_c38, if_pos (by decide), if_pos (show jw 0 = 0 from rfl)]
      exact c1
    · simp only [if_true]
      have h2 : 2 ^ a.2 < 2 ^ (a.2 + 1) := Nat.pow_lt_pow_right (by decide) (Nat.lt_succ_self _)
      have e4' : (a.1 ||| (if los M (rank (cpl c (un t))) then 2 ^ a.2 else 0)) < 2 ^ (a.2 + 1) := Nat.or_lt_two_pow (Nat.lt_trans e4 h2) (by split; exact h2; exact Nat.two_pow_pos _)
      obtain ⟨σ2, c1, c2⟩ := ih fu (t + 1) (a.1 ||| (if los M (rank (cpl c (un t))) then 2 ^ a.2 else 0), a.2 + 1) σ1 e1' e2' e3'' e4' f1
      simp only at c1
      rw [tt, aa] at c1
      refine ⟨σ2, ?_, c2⟩
      rw [Model_markOf_c38, if_pos (by decide), if_neg (show ¬ jw 1 = 0 by decide), bes, jbs]
      dsimp only
      cases hl : los M (rank (cpl c (un t)))
      · rw [hl] at c1
        simp only [Bool.false_eq_true, if_false, Nat.or_zero] at c1 ⊢
        have o0 := bl_or (a := a.1) (b := 0) (by rw [Nat.or_zero]; exact Nat.lt_of_lt_of_le e4 (Nat.pow_le_pow_right (by decide) (by omega)))
        rw [Nat.or_zero] at o0
        have o0' : jlor (a.1 : Int) 0 = (a.1 : Int) := o0
        rw [if_pos (show jw 0 = 0 from rfl), o0']
        exact c1
      · rw [hl] at c1
        simp only [if_true] at c1 ⊢
        have ol : a.1 ||| 2 ^ a.2 < 2 ^ 63 := Nat.or_lt_two_pow (Nat.lt_of_lt_of_le e4 (Nat.pow_le_pow_right (by decide) (by omega))) (Nat.pow_lt_pow_right (by decide) k1)
        rw [if_neg (show ¬ jw 1 = 0 by decide), bl_one k1, bl_or ol]
        exact c1
theorem rk_mark {F n : Nat} {M : Nat → List Nat} {c : Nat → Nat} {σ : jxS} (hn : n ≤ 6) (n1 : 1 ≤ n) (hW : WT σ) (hV : VT σ M 4224) (hc : Hd σ 38 c) (hb : beans c ≤ 15) (hF : 1000 ≤ F) : ∃ σ', Model_markOf F σ n = some ((rmkF M n c : Int), σ') ∧ jfr RMQ σ σ' := by
  obtain ⟨σ', a1, a2⟩ := rk_mark_c (F := F) hn n1 hW hV hc hb hF 45 F 0 (0, 0) σ (by omega) (by omega) (by omega) (by decide) (jfr_refl _ _)
  refine ⟨σ', ?_, a2⟩
  rw [rmkF, jseal_eq]
  exact a1
