/-! The reference: nimbers by the moves. -/
theorem ln_step {F fu : Nat} {σ : jxS} {k9 : Int → jxS → Option jxR} {h k n m a b x : Int} (h0 : 0 ≤ h) (h2 : h ≤ 12) (w : σ 10 h = n) (hn : n ≤ 64) (hk : 0 ≤ k) (hk2 : k < n) (w2 : σ 9 (64 * h + k) = m) (m0 : 0 ≤ m) (m1 : m < 169) (wa : σ 11 (m / 13) = a) (wb : σ 11 (m % 13) = b) (hx : jxor a b = x) (x0 : 0 ≤ x) (x1 : x < 1024) : Model_laysNimbers_c24 F k9 (fu + 1) h k σ = Model_laysNimbers_c24 F k9 fu h (k + 1) (jup σ 12 x 1) := by
  have d := jd13 m0 (by omega)
  simp (disch := omega) only [Model_laysNimbers_c24, w, w2, d.1, d.2, wa, wb, hx, ↓reduceIte, jw_id, jlt_T, jlt_F, jle_T, jle_F, jeq_T, jeq_F, and_self, and_true, true_and, and_false, false_and, or_true, true_or, or_false, false_or, not_true_eq_false, not_false_eq_true, jbs, jup_s, jup_k, jup_o]
theorem ln_stop {F fu : Nat} {σ : jxS} {k9 : Int → jxS → Option jxR} {h n x : Int} (h0 : 0 ≤ h) (h2 : h ≤ 12) (w : σ 10 h = n) (hn : n ≤ 64) (hn0 : 0 ≤ n) (hl : Model_leastFree F σ = some (x, σ)) : Model_laysNimbers_c24 F k9 (fu + 1) h n σ = k9 (h + 1) (jup σ 11 h x) := by
  simp (disch := omega) only [Model_laysNimbers_c24, w, hl, ↓reduceIte, jw_id, jlt_T, jlt_F, jle_T, jle_F, jeq_T, jeq_F, and_self, and_true, true_and, and_false, false_and, or_true, true_or, or_false, false_or, not_true_eq_false, not_false_eq_true, jbs, jup_s, jup_k, jup_o]
theorem ln_in {F h : Nat} {σ0 : jxS} {M : Nat → List Nat} {k9 : Int → jxS → Option jxR} (hM : MOK M) (h1 : 1 ≤ h) (h2 : h ≤ 12) (hV : MvM σ0 M) (hJ : ∀ g : Nat, g < h → σ0 11 g = (nim M g : Int)) : ∀ (r : List Nat) (fu k : Nat) (l : List Nat) (σ : jxS), (M h).drop k = r → r.length + k = (M h).length → r.length < fu → jfr P12 σ0 σ → tk σ 1024 l → ∃ σ' l' g, Model_laysNimbers_c24 F k9 fu h k σ = Model_laysNimbers_c24 F k9 (g + 1) h ((M h).length : Int) σ' ∧ jfr P12 σ0 σ' ∧ tk σ' 1024 l' ∧ ∀ x, x ∈ l' ↔ x ∈ l ∨ x ∈ r.map (fun m => nim M (m / 13) ^^^ nim M (m % 13)) := by
  have ml := MOK_len hM h1 h2
  intro r
  induction r with
  | nil =>
    intro fu k l σ e1 e2 e3 f ht
    obtain ⟨fu, rfl⟩ : ∃ k, fu = k + 1 := ⟨fu - 1, by omega⟩
    simp only [List.length_nil] at e2
    exact ⟨σ, l, fu, by rw [show k = (M h).length by omega], f, ht, fun x => by simp⟩
  | cons m r ih =>
    intro fu k l σ e1 e2 e3 f ht
    obtain ⟨fu, rfl⟩ : ∃ k, fu = k + 1 := ⟨fu - 1, by omega⟩
    simp only [List.length_cons] at e2 e3
    obtain ⟨hm, hr⟩ := drop_at e1
    have hmq := (hM h h1 h2).2 m (List.mem_of_getElem? hm)
    have p1 : m / 13 ≤ 12 := by omega
    have p2 : m % 13 ≤ 12 := by omega
    have p3 : m / 13 < h := by omega
    have p4 : m % 13 < h := by omega
    have d1 : (m : Int) / 13 = ((m / 13 : Nat) : Int) := by omega
    have d2 : (m : Int) % 13 = ((m % 13 : Nat) : Int) := by omega
    have e2' : r.length + (k + 1) = (M h).length := by omega
    have e3' : r.length < fu := by omega
    have o1 : (0 : Int) ≤ (h : Int) := by omega
    have o2 : (h : Int) ≤ 12 := by omega
    have o3 : ((M h).length : Int) ≤ 64 := by omega
    have o4 : (0 : Int) ≤ (k : Int) := by omega
    have o5 : (k : Int) < ((M h).length : Int) := by omega
    have o6 : (0 : Int) ≤ (m : Int) := by omega
    have o7 : (m : Int) < 169 := by omega
    have kk : (k : Int) + 1 = ((k + 1 : Nat) : Int) := by omega
    have hV' := MvM_fr hV f (by simp [P12]) (by simp [P12])
    have w := (hV' h h1 h2).1
    have w2 := (hV' h h1 h2).2 k m hm
    have a1 := hJ (m / 13) p3
    have b1 := hJ (m % 13) p4
    rw [← f 11 _ (by simp [P12]), ← d1] at a1
    rw [← f 11 _ (by simp [P12]), ← d2] at b1
    have x4 : nim M (m / 13) ^^^ nim M (m % 13) < 2 ^ 4 := Nat.xor_lt_two_pow (nim_16 hM p1) (nim_16 hM p2)
    have x := bq_xor (Nat.lt_of_lt_of_le x4 (by decide : 2 ^ 4 ≤ 2 ^ 31))
    have x5 : ((nim M (m / 13) ^^^ nim M (m % 13) : Nat) : Int) < 1024 := Int.ofNat_lt.mpr (Nat.lt_of_lt_of_le x4 (by decide))
    have st := ln_step (F := F) (fu := fu) (k9 := k9) o1 o2 w o3 o4 o5 w2 o6 o7 a1 b1 x (Int.natCast_nonneg _) x5
    obtain ⟨σ', l', g, i1, i2, i3, i4⟩ := ih fu (k + 1) ((nim M (m / 13) ^^^ nim M (m % 13)) :: l) (jup σ 12 ((nim M (m / 13) ^^^ nim M (m % 13) : Nat) : Int) 1) hr e2' e3' (jfr_up f rfl) (tk_up ht)
    refine ⟨σ', l', g, ?_, i2, i3, fun y => by rw [i4 y]; simp only [List.mem_cons, List.map_cons]; grind⟩
    rw [st, kk]
    exact i1
def NQ (a : Nat) (_ : Int) : Prop := a = 11 ∨ a = 12
theorem ln_heaps {F : Nat} {σ0 : jxS} {M : Nat → List Nat} (hM : MOK M) (hV : MvM σ0 M) (hF : 2000 ≤ F) : ∀ (n fu h : Nat) (σ : jxS), n + h = 13 → 1 ≤ h → n < fu → jfr NQ σ0 σ → (∀ g : Nat, g < h → σ 11 g = (nim M g : Int)) → ∃ σ' g, Model_laysNimbers_c9 F fu h σ = Model_laysNimbers_c9 F (g + 1) 13 σ' ∧ jfr NQ σ0 σ' ∧ ∀ g : Nat, g < 13 → σ' 11 g = (nim M g : Int) := by
  intro n
  induction n with
  | zero =>
    intro fu h σ e1 e2 e3 f hJ
    obtain ⟨fu, rfl⟩ : ∃ k, fu = k + 1 := ⟨fu - 1, by omega⟩
    exact ⟨σ, fu, by rw [show h = 13 by omega]; rfl, f, fun g hg => hJ g (by omega)⟩
  | succ n ih =>
    intro fu h σ e1 e2 e3 f hJ
    obtain ⟨fu, rfl⟩ : ∃ k, fu = k + 1 := ⟨fu - 1, by omega⟩
    have h2 : h ≤ 12 := by omega
    have ml := MOK_len hM e2 h2
    obtain ⟨σ1, a1, a2, a3⟩ := mo_none (F := F) (B := 1024) (σ := σ) (by omega) hF
    have f1 : jfr NQ σ0 σ1 := jfr_trans f (jfr_mono a2 (fun a j h => Or.inr h))
    have hV1 := MvM_fr hV f1 (by simp [NQ]) (by simp [NQ])
    have hJ1 : ∀ g : Nat, g < h → σ1 11 g = (nim M g : Int) := fun g hg => by rw [a2 11 _ (by simp [P12])]; exact hJ g hg
    obtain ⟨σ2, l2, g, b1, b2, b3, b4⟩ := ln_in (F := F) (k9 := Model_laysNimbers_c9 F fu) hM e2 h2 hV1 hJ1 (M h) F 0 [] σ1 rfl rfl (by omega) (jfr_refl _ _) a3
    have w2 := (MvM_fr hV1 b2 (by simp [P12]) (by simp [P12]) h e2 h2).1
    have nl := nim_le hM h h2
    have nm : mex l2 = nim M h := by
      rw [nim_eq hM e2 h2]
      exact mex_congr (fun x => by rw [b4 x]; simp)
    have lf := mo_free (F := F) b3 (by rw [nm]; omega) (by omega) hF
    rw [nm] at lf
    have st := ln_stop (F := F) (fu := g) (k9 := Model_laysNimbers_c9 F fu) (h := h) (by omega) (by omega) w2 (by omega) (by omega) lf
    obtain ⟨σ3, g3, c1, c2, c3⟩ := ih fu (h + 1) (jup σ2 11 h (nim M h)) (by omega) (by omega) (by omega) (jfr_up (jfr_trans f1 (jfr_mono b2 (fun a j h => Or.inr h))) (Or.inl rfl)) (fun x hx => by
      by_cases q : x = h
      · rw [q, jup_s]
      · rw [jup_k (by omega), b2 11 _ (by simp [P12])]; exact hJ1 x (by omega))
    refine ⟨σ3, g3, ?_, c2, c3⟩
    rw [show ((h + 1 : Nat) : Int) = (h : Int) + 1 by omega] at c1
    have a1' : Model_takesNone F σ 1024 = some (0, σ1) := a1
    have b1' : Model_laysNimbers_c24 F (Model_laysNimbers_c9 F fu) F h 0 σ1 = _ := b1
    rw [← c1, ← st, ← b1']
    rw [Model_laysNimbers_c9, if_neg (by unfold jw; omega), a1', jbs]
/-- nimbers by the code alone: heaps of any size -/
def pns (f : Nat → Nat) (l n : Nat) : List Nat := match n with
  | 0 => []
  | n + 1 => (f (l / 2 - n) ^^^ f (l - (l / 2 - n))) :: pns f l n
def pnk (dg : Nat → Nat) (f : Nat → Nat) (h k : Nat) : List Nat := (if h - k = 0 then (if (dg (k - 1)).testBit 0 then [0] else []) else (if (dg (k - 1)).testBit 1 then [f (h - k)] else [])) ++ (if (dg (k - 1)).testBit 2 then pns f (h - k) ((h - k) / 2) else [])
def pnl (d : Nat) (dg : Nat → Nat) (f : Nat → Nat) (h n : Nat) : List Nat := match n with
  | 0 => []
  | n + 1 => (if d - n ≤ h then pnk dg f h (d - n) else []) ++ pnl d dg f h n
theorem pns_mem {f : Nat → Nat} {l x : Nat} : ∀ n, n ≤ l / 2 → (x ∈ pns f l n ↔ ∃ a, l / 2 - n < a ∧ a ≤ l / 2 ∧ x = f a ^^^ f (l - a)) := by
  intro n
  induction n with
  | zero => intro _; simp only [pns, List.not_mem_nil, false_iff]; rintro ⟨a, h1, h2, _⟩; omega
  | succ n ih =>
    intro hn
    simp only [pns, List.mem_cons, ih (by omega)]
    constructor
    · rintro (q | ⟨a, h1, h2, h3⟩)
      · exact ⟨l / 2 - n, by omega, by omega, q⟩
      · exact ⟨a, by omega, h2, h3⟩
    · rintro ⟨a, h1, h2, h3⟩
      by_cases e : a = l / 2 - n
      · subst e; exact Or.inl h3
      · exact Or.inr ⟨a, by omega, h2, h3⟩
theorem pnl_mem {d : Nat} {dg f : Nat → Nat} {h x : Nat} : ∀ n, n ≤ d → (x ∈ pnl d dg f h n ↔ ∃ k, d - n < k ∧ k ≤ d ∧ k ≤ h ∧ x ∈ pnk dg f h k) := by
  intro n
  induction n with
  | zero => intro _; simp only [pnl, List.not_mem_nil, false_iff]; rintro ⟨k, h1, h2, _⟩; omega
  | succ n ih =>
    intro hn
    simp only [pnl, List.mem_append, ih (by omega)]
    constructor
    · rintro (q | ⟨k, h1, h2, h3, h4⟩)
      · by_cases e : d - n ≤ h
        · rw [if_pos e] at q; exact ⟨d - n, by omega, by omega, e, q⟩
        · rw [if_neg e] at q; simp at q
      · exact ⟨k, by omega, h2, h3, h4⟩
    · rintro ⟨k, h1, h2, h3, h4⟩
      by_cases e : k = d - n
      · subst e; rw [if_pos h3]; exact Or.inl h4
      · exact Or.inr ⟨k, by omega, h2, h3, h4⟩
theorem pnk_congr {dg f g : Nat → Nat} {h k : Nat} (hk : 1 ≤ k) (hk2 : k ≤ h) (e : ∀ q, q < h → f q = g q) {x : Nat} : x ∈ pnk dg f h k ↔ x ∈ pnk dg g h k := by
  unfold pnk
  simp only [List.mem_append]
  rw [e (h - k) (by omega)]
  refine or_congr Iff.rfl ?_
  by_cases t : (dg (k - 1)).testBit 2 = true
  · rw [if_pos t, if_pos t, pns_mem _ (Nat.le_refl _), pns_mem _ (Nat.le_refl _)]
    constructor
    · rintro ⟨a, h1, h2, h3⟩; exact ⟨a, h1, h2, by rw [h3, e a (by omega), e (h - k - a) (by omega)]⟩
    · rintro ⟨a, h1, h2, h3⟩; exact ⟨a, h1, h2, by rw [h3, e a (by omega), e (h - k - a) (by omega)]⟩
  · rw [if_neg t, if_neg t]
noncomputable def pn (d : Nat) (dg : Nat → Nat) : Nat → Nat := rc 0 (fun h f => if h = 0 then 0 else mex (pnl d dg f h d))
theorem pn_eq {d : Nat} {dg : Nat → Nat} (h : Nat) : pn d dg h = if h = 0 then 0 else mex (pnl d dg (pn d dg) h d) := by
  refine rc_eq (X := Nat) 0 (fun h f => if h = 0 then 0 else mex (pnl d dg f h d)) (fun p f g hh => ?_) h
  show (if p = 0 then 0 else mex (pnl d dg f p d)) = (if p = 0 then 0 else mex (pnl d dg g p d))
  rw [mex_congr (l := pnl d dg f p d) (l' := pnl d dg g p d) (fun x => by
    rw [pnl_mem d (Nat.le_refl _), pnl_mem d (Nat.le_refl _)]
    constructor
    · rintro ⟨k, h1, h2, h3, h4⟩; exact ⟨k, h1, h2, h3, (pnk_congr (by omega) h3 hh).mp h4⟩
    · rintro ⟨k, h1, h2, h3, h4⟩; exact ⟨k, h1, h2, h3, (pnk_congr (by omega) h3 hh).mpr h4⟩)]
theorem pnk_mem {dg f : Nat → Nat} {h k x : Nat} : x ∈ pnk dg f h k ↔ (h - k = 0 ∧ (dg (k - 1)).testBit 0 = true ∧ x = 0) ∨ (h - k ≠ 0 ∧ (dg (k - 1)).testBit 1 = true ∧ x = f (h - k)) ∨ ((dg (k - 1)).testBit 2 = true ∧ ∃ a, 1 ≤ a ∧ a ≤ (h - k) / 2 ∧ x = f a ^^^ f (h - k - a)) := by
  unfold pnk
  rw [List.mem_append]
  have t2 : x ∈ (if (dg (k - 1)).testBit 2 = true then pns f (h - k) ((h - k) / 2) else []) ↔ ((dg (k - 1)).testBit 2 = true ∧ ∃ a, 1 ≤ a ∧ a ≤ (h - k) / 2 ∧ x = f a ^^^ f (h - k - a)) := by
    by_cases t : (dg (k - 1)).testBit 2 = true
    · rw [if_pos t, pns_mem _ (Nat.le_refl _)]
      constructor
      · rintro ⟨a, h1, h2, h3⟩; exact ⟨t, a, by omega, h2, h3⟩
      · rintro ⟨_, a, h1, h2, h3⟩; exact ⟨a, by omega, h2, h3⟩
    · rw [if_neg t]
      simp [t]
  rw [t2]
  by_cases z : h - k = 0
  · rw [if_pos z]
    by_cases t : (dg (k - 1)).testBit 0 = true
    · rw [if_pos t]; simp [z, t]
    · rw [if_neg t]; simp [z, t]
  · rw [if_neg z]
    by_cases t : (dg (k - 1)).testBit 1 = true
    · rw [if_pos t]; simp [z, t]
    · rw [if_neg t]; simp [z, t]
theorem pn_0 (d : Nat) (dg : Nat → Nat) : pn d dg 0 = 0 := by rw [pn_eq]; rfl
theorem pn_le (d : Nat) (dg : Nat → Nat) : ∀ h, pn d dg h ≤ h := by
  intro h
  induction h using Nat.strongRecOn with
  | ind h ih =>
    rw [pn_eq]
    by_cases e : h = 0
    · rw [if_pos e]; omega
    · rw [if_neg e]
      refine mex_le (fun x hx => ?_)
      obtain ⟨k, k1, k2, k3, k4⟩ := (pnl_mem d (Nat.le_refl _)).mp hx
      rcases pnk_mem.mp k4 with ⟨_, _, q⟩ | ⟨_, _, q⟩ | ⟨_, a, a1, a2, q⟩
      · omega
      · have := ih (h - k) (by omega); omega
      · have i1 := ih a (by omega)
        have i2 := ih (h - k - a) (by omega)
        have i3 := xor_le (pn d dg a) (pn d dg (h - k - a))
        rw [← q] at i3
        omega
/-- without moves more or never, heaps of 1 to 12 have these nimbers -/
theorem nim_pn {d : Nat} {dg : Nat → Nat} (hd : d ≤ 8) {al nv : Nat → Nat → Bool} (ha : ∀ h m, al h m = false) (hn : ∀ h k, nv h k = false) : ∀ h, h ≤ 12 → nim (Mof (isMv d dg al nv)) h = pn d dg h := by
  have hM := Mof_ok (isMv d dg al nv)
  intro h
  induction h using Nat.strongRecOn with
  | ind h ih =>
    intro h2
    by_cases e : h = 0
    · subst e; rw [nim_0, pn_0]
    · rw [nim_eq hM (by omega) h2, pn_eq, if_neg e]
      refine mex_congr (fun x => ?_)
      rw [List.mem_map, pnl_mem d (Nat.le_refl _)]
      constructor
      · rintro ⟨m, hm, rfl⟩
        have mo := (hM h (by omega) h2).2 m hm
        have mp : isMv d dg al nv h m = true := (List.mem_filter.mp hm).2
        unfold isMv at mp
        rw [ha, hn] at mp
        simp only [Bool.false_or, Bool.not_false, Bool.and_true, Bool.and_eq_true, decide_eq_true_eq] at mp
        obtain ⟨m1, m2⟩ := mp
        refine ⟨h - m / 13 - m % 13, by omega, m1, by omega, pnk_mem.mpr ?_⟩
        rw [ih (m / 13) (by omega) (by omega), ih (m % 13) (by omega) (by omega)]
        have hk : h - (h - m / 13 - m % 13) = m / 13 + m % 13 := by omega
        rw [hk]
        by_cases b0 : m % 13 = 0
        · have a0 : m / 13 = 0 := by omega
          rw [if_pos b0] at m2
          refine Or.inl ⟨by omega, m2, ?_⟩
          rw [a0, b0, pn_0]
          rfl
        · rw [if_neg b0] at m2
          by_cases a0 : m / 13 = 0
          · rw [if_pos a0] at m2
            refine Or.inr (Or.inl ⟨by omega, m2, ?_⟩)
            rw [a0, pn_0, Nat.zero_xor, Nat.zero_add]
          · rw [if_neg a0] at m2
            refine Or.inr (Or.inr ⟨m2, m / 13, by omega, by omega, ?_⟩)
            rw [show m / 13 + m % 13 - m / 13 = m % 13 by omega]
      · rintro ⟨k, k1, k2, k3, k4⟩
        have mk : ∀ a b : Nat, a ≤ b → a + b = h - k → (dg (k - 1)).testBit (if b = 0 then 0 else if a = 0 then 1 else 2) = true → x = pn d dg a ^^^ pn d dg b → ∃ m, m ∈ Mof (isMv d dg al nv) h ∧ nim (Mof (isMv d dg al nv)) (m / 13) ^^^ nim (Mof (isMv d dg al nv)) (m % 13) = x := fun a b hab hs ht hx => by
          have q1 : (13 * a + b) / 13 = a := by omega
          have q2 : (13 * a + b) % 13 = b := by omega
          refine ⟨13 * a + b, (Mof_mem h2 hab (by omega)).mpr ?_, ?_⟩
          · unfold isMv
            rw [ha, hn, q1, q2, show h - a - b = k by omega, ht, decide_eq_true k2]
            rfl
          · rw [q1, q2, ih a (by omega) (by omega), ih b (by omega) (by omega)]
            exact hx.symm
        rcases pnk_mem.mp k4 with ⟨z, t, q⟩ | ⟨z, t, q⟩ | ⟨t, a, a1, a2, q⟩
        · exact mk 0 0 (Nat.le_refl _) (by omega) (by rw [if_pos rfl]; exact t) (by rw [q, pn_0]; rfl)
        · exact mk 0 (h - k) (by omega) (by omega) (by rw [if_neg z, if_pos rfl]; exact t) (by rw [q, pn_0, Nat.zero_xor])
        · exact mk a (h - k - a) (by omega) (by omega) (by rw [if_neg (by omega), if_neg (by omega)]; exact t) q
