/-! The class's game: learning the text. -/
section GC
variable {F : Nat} {σ : jxS}
def BnG (σ : jxS) (acc : List lnT) : Prop := (∀ h : Nat, 1 ≤ h → h ≤ 12 → ∃ s : Nat, s < 2 ^ 31 ∧ σ 12 h = (s : Int) ∧ ∀ k, 1 ≤ k → k ≤ 8 → s.testBit k = gN acc h k) ∧ (∀ h a : Nat, 1 ≤ h → h ≤ 12 → a ≤ 12 → ∃ s : Nat, s < 2 ^ 31 ∧ σ 13 (13 * (h : Int) + a) = (s : Int) ∧ ∀ b, a ≤ b → a + b < h → s.testBit b = gA acc h (13 * a + b))
theorem or_bit {s k : Nat} (hs : s < 2 ^ 31) (hk : k ≤ 12) : jor (s : Int) (jshl 1 (k : Int)) = ((s ||| 2 ^ k : Nat) : Int) ∧ s ||| 2 ^ k < 2 ^ 31 := by
  have k2 : 2 ^ k < 2 ^ 31 := Nat.pow_lt_pow_right (by decide) (by omega)
  have e1 : jshl 1 (k : Int) = ((1 * 2 ^ k : Nat) : Int) := bq_shl (a := 1) (by omega) (by rw [Nat.one_mul]; exact k2)
  have o := Nat.or_lt_two_pow hs k2
  rw [e1, Nat.one_mul]
  exact ⟨bq_or o, o⟩
theorem bit_or {s k j : Nat} : (s ||| 2 ^ k).testBit j = (s.testBit j || decide (k = j)) := by
  rw [Nat.testBit_or, Nat.testBit_two_pow]
theorem gN_app {acc : List lnT} {x : lnT} {h k : Nat} : gN (acc ++ [x]) h k = (gN acc h k || decide (x.1 = 3 ∧ 9 * x.2.2.1 + x.2.2.2.1 = 9 * (h : Int) + k)) := any_app
theorem gA_app {acc : List lnT} {x : lnT} {h m : Nat} : gA (acc ++ [x]) h m = (gA acc h m || decide (x.1 = 2 ∧ aixI x.2.2.1 x.2.2.2.1 x.2.2.2.2 = 169 * (h : Int) + m)) := any_app
def P123 (a : Nat) (_ : Int) : Prop := a = 12 ∨ a = 13
theorem ll_24 {v2 v3 v4 : Int} {k : Nat} (hk : k ≠ 2) (hk2 : k ≤ 3) : Rules_learnLine_c24 F (k : Int) v2 v3 v4 σ = some (0, σ) := by
  rw [Rules_learnLine_c24, if_neg (show ¬ jw (k : Int) = 2 by rw [jw_id (by omega) (by omega)]; omega)]
theorem ll_also {h m n s : Nat} {v3 v4 : Int} (jm : jmin v3 v4 = (m : Int)) (jx : jmax v3 v4 = (n : Int)) (h1 : 1 ≤ (h : Int) ∧ (h : Int) ≤ 12) (m1 : 0 ≤ (m : Int) ∧ (m : Int) ≤ 12) (c0 : 0 ≤ 13 * (h : Int) + (m : Int) ∧ 13 * (h : Int) + (m : Int) < 169) (hR : iR (h : Int)) (mR : iR (m : Int)) (ix : ((h : Int) * 13) + (m : Int) = 13 * (h : Int) + m) (s2 : σ 13 (13 * (h : Int) + m) = (s : Int)) (o1 : jor (s : Int) (jshl 1 (n : Int)) = ((s ||| 2 ^ n : Nat) : Int)) : Rules_learnLine F σ ((2 : Nat) : Int) h v3 v4 = some (0, jup σ 13 (13 * (h : Int) + m) ((s ||| 2 ^ n : Nat) : Int)) := by
  rw [Rules_learnLine, if_neg (show ¬ jw ((2 : Nat) : Int) = 3 by decide), Rules_learnLine_c24, if_pos (show jw ((2 : Nat) : Int) = 2 from rfl), lb_heap hR, jbs, if_pos h1]
  dsimp only
  rw [if_neg (show ¬ jw 1 = 0 by decide), jm, jx, lb_heap0 mR, jbs, if_pos m1]
  dsimp only
  rw [if_neg (show ¬ jw 1 = 0 by decide), ix, if_pos c0, if_pos c0, s2, o1]
theorem ll_never {h n s : Nat} {v4 : Int} (h1 : 1 ≤ (h : Int) ∧ (h : Int) ≤ 12) (c0 : 0 ≤ (h : Int) ∧ (h : Int) < 13) (hR : iR (h : Int)) (s2 : σ 12 (h : Int) = (s : Int)) (o1 : jor (s : Int) (jshl 1 (n : Int)) = ((s ||| 2 ^ n : Nat) : Int)) : Rules_learnLine F σ ((3 : Nat) : Int) h n v4 = some (0, jup σ 12 (h : Int) ((s ||| 2 ^ n : Nat) : Int)) := by
  rw [Rules_learnLine, if_pos (show jw ((3 : Nat) : Int) = 3 from rfl), lb_heap hR, jbs, if_pos h1]
  dsimp only
  rw [if_neg (show ¬ jw 1 = 0 by decide), if_pos c0, if_pos c0, s2, o1]
  exact ll_24 (by decide) (by decide)
theorem mm_spec {a b : Int} {h : Nat} (a0 : 0 ≤ a) (b0 : 0 ≤ b) (s : a + b < (h : Int)) (h12 : h ≤ 12) : ∃ m n : Nat, m ≤ n ∧ m + n < h ∧ jmin a b = (m : Int) ∧ jmax a b = (n : Int) ∧ aixI (h : Int) a b = 169 * (h : Int) + 13 * m + n := by
  by_cases z : a < b
  · refine ⟨a.toNat, b.toNat, by omega, by omega, ?_, ?_, ?_⟩
    · unfold jmin
      rw [jw_id (x := a) (by omega) (by omega), jw_id (x := b) (by omega) (by omega)]
      split <;> omega
    · unfold jmax
      rw [jw_id (x := a) (by omega) (by omega), jw_id (x := b) (by omega) (by omega)]
      split <;> omega
    · unfold aixI
      rw [if_pos z]
      omega
  · refine ⟨b.toNat, a.toNat, by omega, by omega, ?_, ?_, ?_⟩
    · unfold jmin
      rw [jw_id (x := a) (by omega) (by omega), jw_id (x := b) (by omega) (by omega)]
      split <;> omega
    · unfold jmax
      rw [jw_id (x := a) (by omega) (by omega), jw_id (x := b) (by omega) (by omega)]
      split <;> omega
    · unfold aixI
      rw [if_neg z]
      omega
theorem BnG_octal {acc : List lnT} {ds : List Nat} {h a b : Int} (hB : BnG σ acc) : BnG σ (acc ++ [(1, ds, h, a, b)]) := by
  refine ⟨fun h' a1 a2 => ?_, fun h' a' a1 a2 a3 => ?_⟩
  · obtain ⟨s, s1, s2, s3⟩ := hB.1 h' a1 a2
    refine ⟨s, s1, s2, fun k k1 k2 => ?_⟩
    rw [gN_app, decide_eq_false (fun z => absurd z.1 (by show ¬ (1 : Nat) = 3; decide)), Bool.or_false]
    exact s3 k k1 k2
  · obtain ⟨s, s1, s2, s3⟩ := hB.2 h' a' a1 a2 a3
    refine ⟨s, s1, s2, fun k k1 k2 => ?_⟩
    rw [gA_app, decide_eq_false (fun z => absurd z.1 (by show ¬ (1 : Nat) = 2; decide)), Bool.or_false]
    exact s3 k k1 k2
theorem BnG_also {acc : List lnT} {ds : List Nat} {h m n s : Nat} {a b : Int} (h1 : 1 ≤ h) (h2 : h ≤ 12) (mn : m ≤ n) (mh : m + n < h) (ax : aixI (h : Int) a b = 169 * (h : Int) + 13 * m + n) (o2 : s ||| 2 ^ n < 2 ^ 31) (s3 : ∀ k, m ≤ k → m + k < h → s.testBit k = gA acc h (13 * m + k)) (hB : BnG σ acc) : BnG (jup σ 13 (13 * (h : Int) + m) ((s ||| 2 ^ n : Nat) : Int)) (acc ++ [(2, ds, (h : Int), a, b)]) := by
  refine ⟨fun g a1 a2 => ?_, fun g p a1 a2 a3 => ?_⟩
  · obtain ⟨t, t1, t2, t3⟩ := hB.1 g a1 a2
    refine ⟨t, t1, by rw [jup_o (by omega)]; exact t2, fun k k1 k2 => ?_⟩
    rw [gN_app, decide_eq_false (fun z => absurd z.1 (by show ¬ (2 : Nat) = 3; decide)), Bool.or_false]
    exact t3 k k1 k2
  · by_cases eq : g = h ∧ p = m
    · obtain ⟨rfl, rfl⟩ := eq
      refine ⟨s ||| 2 ^ n, o2, by rw [jup_s], fun k c1 c2 => ?_⟩
      rw [bit_or, gA_app, s3 k c1 c2]
      congr 1
      have e : (n = k) ↔ (((2, ds, (g : Int), a, b) : lnT).1 = 2 ∧ aixI (g : Int) a b = 169 * (g : Int) + ((13 * p + k : Nat) : Int)) := by
        rw [ax]
        exact ⟨fun z => ⟨rfl, by omega⟩, fun z => by have := z.2; omega⟩
      exact decide_eq_decide.mpr e
    · obtain ⟨t, t1, t2, t3⟩ := hB.2 g p a1 a2 a3
      refine ⟨t, t1, ?_, fun k c1 c2 => ?_⟩
      · rw [jup_k (by omega)]; exact t2
      · have e : ¬ (((2, ds, (h : Int), a, b) : lnT).1 = 2 ∧ aixI (h : Int) a b = 169 * (g : Int) + ((13 * p + k : Nat) : Int)) := by
          rw [ax]
          intro z
          have z2 := z.2
          have a1 : 13 * m + n < 169 := by omega
          have a2 : 13 * p + k < 169 := by omega
          have a3 : 169 * h + (13 * m + n) = 169 * g + (13 * p + k) := by omega
          have a4 : m = (13 * m + n) / 13 := by omega
          have a5 : p = (13 * p + k) / 13 := by omega
          generalize 13 * m + n = u at a1 a3 a4
          generalize 13 * p + k = w at a2 a3 a5
          have a6 : u = w := by omega
          exact eq ⟨by omega, by rw [a4, a5, a6]⟩
        rw [gA_app, decide_eq_false e, Bool.or_false]
        exact t3 k c1 c2
theorem BnG_never {acc : List lnT} {ds : List Nat} {h n s : Nat} {b : Int} (h1 : 1 ≤ h) (h2 : h ≤ 12) (n1 : 1 ≤ n) (n8 : n ≤ 8) (o2 : s ||| 2 ^ n < 2 ^ 31) (s3 : ∀ k, 1 ≤ k → k ≤ 8 → s.testBit k = gN acc h k) (hB : BnG σ acc) : BnG (jup σ 12 (h : Int) ((s ||| 2 ^ n : Nat) : Int)) (acc ++ [(3, ds, (h : Int), (n : Int), b)]) := by
  refine ⟨fun g a1 a2 => ?_, fun g p a1 a2 a3 => ?_⟩
  · by_cases eq : g = h
    · subst eq
      refine ⟨s ||| 2 ^ n, o2, by rw [jup_s], fun k k1 k2 => ?_⟩
      rw [bit_or, gN_app, s3 k k1 k2]
      congr 1
      have e : (n = k) ↔ (((3, ds, (g : Int), (n : Int), b) : lnT).1 = 3 ∧ 9 * (g : Int) + (n : Int) = 9 * (g : Int) + (k : Int)) := ⟨fun z => ⟨rfl, by omega⟩, fun z => by have := z.2; omega⟩
      exact decide_eq_decide.mpr e
    · obtain ⟨t, t1, t2, t3⟩ := hB.1 g a1 a2
      refine ⟨t, t1, by rw [jup_k (by omega)]; exact t2, fun k k1 k2 => ?_⟩
      have e : ¬ (((3, ds, (h : Int), (n : Int), b) : lnT).1 = 3 ∧ 9 * (h : Int) + (n : Int) = 9 * (g : Int) + (k : Int)) := fun z => eq (by have := z.2; omega)
      rw [gN_app, decide_eq_false e, Bool.or_false]
      exact t3 k k1 k2
  · obtain ⟨t, t1, t2, t3⟩ := hB.2 g p a1 a2 a3
    refine ⟨t, t1, by rw [jup_o (by omega)]; exact t2, fun k c1 c2 => ?_⟩
    rw [gA_app, decide_eq_false (fun z => absurd z.1 (by show ¬ (3 : Nat) = 2; decide)), Bool.or_false]
    exact t3 k c1 c2
theorem ca_line {acc : List lnT} {x : lnT} {v2 v3 v4 : Int} (hx : lnOK x) (hv : x.1 ≠ 1 → v2 = x.2.2.1 ∧ v3 = x.2.2.2.1 ∧ v4 = x.2.2.2.2) (hB : BnG σ acc) : ∃ σ', Rules_learnLine F σ (x.1 : Int) v2 v3 v4 = some (0, σ') ∧ jfr P123 σ σ' ∧ BnG σ' (acc ++ [x]) := by
  obtain ⟨kd, ds, h, a, b⟩ := x
  rcases hx with ⟨q1, q2, q3⟩ | ⟨q1, ⟨q2, q3⟩, q4, q5, q6⟩ | ⟨q1, ⟨q2, q3⟩, q4, q5⟩
  · dsimp only at q1
    subst q1
    refine ⟨σ, ?_, jfr_refl _ _, BnG_octal hB⟩
    have e24 : Rules_learnLine_c24 F ((1 : Nat) : Int) v2 v3 v4 σ = some (0, σ) := ll_24 (by decide) (by decide)
    rw [Rules_learnLine, if_neg (show ¬ jw ((1 : Nat) : Int) = 3 by decide)]
    exact e24
  · dsimp only at q1 q2 q3 q4 q5 q6 hv
    subst q1
    obtain ⟨e2, e3, e4⟩ := hv (by decide)
    subst e2 e3 e4
    obtain ⟨h', rfl⟩ : ∃ k : Nat, v2 = k := ⟨v2.toNat, by omega⟩
    obtain ⟨m, n, mn, mh, R⟩ := mm_spec (a := v3) (b := v4) (h := h') q4 q5 q6 (by omega)
    obtain ⟨s, s1, s2, s3⟩ := hB.2 h' m (by omega) (by omega) (by omega)
    have n12 : n ≤ 12 := by omega
    have c1 : 1 ≤ h' := by omega
    have c2 : h' ≤ 12 := by omega
    have c3 : 0 ≤ (m : Int) ∧ (m : Int) ≤ 12 := by omega
    have c4 : 0 ≤ 13 * (h' : Int) + (m : Int) ∧ 13 * (h' : Int) + (m : Int) < 169 := by omega
    have c5 : iR (h' : Int) := ⟨by omega, by omega⟩
    have c6 : iR (m : Int) := ⟨by omega, by omega⟩
    have c7 : ((h' : Int) * 13) + (m : Int) = 13 * (h' : Int) + m := by omega
    obtain ⟨o1, o2⟩ := or_bit s1 (k := n) n12
    exact ⟨_, ll_also R.1 R.2.1 ⟨q2, q3⟩ c3 c4 c5 c6 c7 s2 o1, jfr_up (jfr_refl _ _) (Or.inr rfl), BnG_also c1 c2 mn mh R.2.2 o2 s3 hB⟩
  · dsimp only at q1 q2 q3 q4 q5 hv
    subst q1
    obtain ⟨e2, e3, e4⟩ := hv (by decide)
    subst e2 e3 e4
    obtain ⟨h', rfl⟩ : ∃ k : Nat, v2 = k := ⟨v2.toNat, by omega⟩
    obtain ⟨n, rfl⟩ : ∃ k : Nat, v3 = k := ⟨v3.toNat, by omega⟩
    obtain ⟨s, s1, s2, s3⟩ := hB.1 h' (by omega) (by omega)
    have n12 : n ≤ 12 := by omega
    have c1 : 1 ≤ h' := by omega
    have c2 : h' ≤ 12 := by omega
    have c3 : 1 ≤ n := by omega
    have c4 : n ≤ 8 := by omega
    have c5 : iR (h' : Int) := ⟨by omega, by omega⟩
    have c6 : 0 ≤ (h' : Int) ∧ (h' : Int) < 13 := by omega
    obtain ⟨o1, o2⟩ := or_bit s1 (k := n) n12
    exact ⟨_, ll_never ⟨q2, q3⟩ c6 c5 s2 o1, jfr_up (jfr_refl _ _) (Or.inl rfl), BnG_never c1 c2 c3 c4 o2 s3 hB⟩
theorem ca_lines {ls : List lnT} {σ0 : jxS} (ok : lsOK ls) (hL : LsC σ0 ls) (w : σ0 3 7 = (ls.length : Int)) : ∀ (n fu i : Nat) (σ : jxS), n + i = ls.length → n < fu → jfr P123 σ0 σ → BnG σ (ls.take i) → ∃ σ', Rules_learn_c54 F fu i σ = Rules_learn_c102 F σ' ∧ jfr P123 σ0 σ' ∧ BnG σ' ls := by
  intro n
  have l16 := ok.2.1
  induction n with
  | zero =>
    intro fu i σ e1 e2 f hB
    obtain ⟨fu, rfl⟩ : ∃ k, fu = k + 1 := ⟨fu - 1, by omega⟩
    refine ⟨σ, ?_, f, ?_⟩
    · have w1 : σ 3 7 = (ls.length : Int) := by rw [f 3 7 (by simp [P123])]; exact w
      rw [Rules_learn_c54, if_neg (show ¬ jw (i : Int) < jw (σ 3 7) by rw [w1, jw_id (by omega) (by omega), jw_id (by omega) (by omega)]; omega)]
    · rw [List.take_of_length_le (by omega)] at hB
      exact hB
  | succ n ih =>
    intro fu i σ e1 e2 f hB
    obtain ⟨fu, rfl⟩ : ∃ k, fu = k + 1 := ⟨fu - 1, by omega⟩
    have il : i < ls.length := by omega
    obtain ⟨x, hx⟩ : ∃ x, ls[i]? = some x := ⟨ls[i], List.getElem?_eq_getElem il⟩
    have xo := ok.2.2.1 x (List.mem_of_getElem? hx)
    obtain ⟨t1, t2, t3⟩ := hL i x hx
    have w1 : σ 3 7 = (ls.length : Int) := by rw [f 3 7 (by simp [P123])]; exact w
    have w5 : σ 5 i = (x.1 : Int) := by rw [f 5 _ (by simp [P123])]; exact t1
    obtain ⟨σ1, a1, a2, a3⟩ := ca_line (F := F) (v2 := σ 6 i) (v3 := σ 7 i) (v4 := σ 8 i) xo (fun q => by
      obtain ⟨u1, u2, u3⟩ := t2 q
      exact ⟨by rw [f 6 _ (by simp [P123])]; exact u1, by rw [f 7 _ (by simp [P123])]; exact u2, by rw [f 8 _ (by simp [P123])]; exact u3⟩) hB
    rw [← take_s hx] at a3
    obtain ⟨σ2, b1, b2, b3⟩ := ih fu (i + 1) σ1 (by omega) (by omega) (jfr_trans f a2) a3
    refine ⟨σ2, ?_, b2, b3⟩
    have c0 : 0 ≤ (i : Int) ∧ (i : Int) < 16 := by omega
    rw [Rules_learn_c54, if_pos (show jw (i : Int) < jw (σ 3 7) by rw [w1, jw_id (by omega) (by omega), jw_id (by omega) (by omega)]; omega), if_pos (show jw (i : Int) < 16 by rw [jw_id (by omega) (by omega)]; omega), if_pos c0, if_pos c0, if_pos c0, if_pos c0, w5, a1, jbs]
    exact b1
def RLP1 (a : Nat) (j : Int) : Prop := (10 ≤ a ∧ a ≤ 18)
theorem ca_learn {ls : List lnT} (ok : lsOK ls) (hL : LsC σ ls) (w : σ 3 7 = (ls.length : Int)) (z : σ 16 0 = 0 ∧ σ 17 0 = 0 ∧ σ 18 0 = 0) (hF : 5000 ≤ F) : ∃ σ', Rules_learn F σ = some (0, σ') ∧ jfr RLP1 σ σ' ∧ RulC σ' (gM ls) ∧ RulN σ' (gM ls) ∧ RulL σ' (gM ls) ∧ RulA σ' (gD ls) (gG ls) (gA ls) (gN ls) ∧ (σ' 16 0 = 0 ∧ σ' 17 0 = 0 ∧ σ' 18 0 = 0) ∧ σ' 10 9 = ((ls.length - 1 : Nat) : Int) := by
  have l1 := ok.1
  have l16 := ok.2.1
  obtain ⟨d8, g8⟩ := gD_ok ok
  obtain ⟨x0, hx0⟩ : ∃ x0, ls[0]? = some x0 := ⟨ls[0]'(by omega), List.getElem?_eq_getElem _⟩
  have gd : gDs ls = x0.2.1 := by
    cases ls with
    | nil => simp at hx0
    | cons y t => rw [← Option.some.inj hx0]; rfl
  have x1 := (ok.2.2.2 0 x0 hx0).mpr rfl
  obtain ⟨u1, u2⟩ := (hL 0 x0 hx0).2.2 x1
  rw [← gd] at u1 u2
  have u1' : σ 3 6 = (gD ls : Int) := u1
  rw [Rules_learn, jup_o (by omega), w, u1']
  generalize hs : jcopy (jup (jup σ 10 8 (gD ls : Int)) 10 9 ((ls.length : Int) - 1)) 4 11 8 = s3
  have f3 : jfr (fun a j => a = 10 ∨ a = 11) σ s3 := by
    intro a j q
    rw [← hs]
    unfold jcopy
    rw [if_neg (by omega), jup_o (by omega), jup_o (by omega)]
  have v8 : s3 10 8 = (gD ls : Int) := by
    rw [← hs]
    unfold jcopy
    rw [if_neg (by omega), jup_k (by omega), jup_s]
  have v9 : s3 10 9 = ((ls.length - 1 : Nat) : Int) := by
    rw [← hs]
    unfold jcopy
    rw [if_neg (by omega), jup_s]
    omega
  have v11 : ∀ i : Nat, i < gD ls → s3 11 i = (gG ls i : Int) := by
    intro i hi
    have ge : (gDs ls)[i]? = some (gG ls i) := by
      have il : i < (gDs ls).length := hi
      rw [gG, List.getD_eq_getElem?_getD, List.getElem?_eq_getElem il]; rfl
    have := u2 i _ ge
    rw [Nat.zero_add] at this
    rw [← hs]
    unfold jcopy
    rw [if_pos ⟨rfl, by omega, by omega⟩, jup_o (by omega), jup_o (by omega)]
    exact this
  obtain ⟨σ1, a1, a2, a3⟩ := ca_fill (F := F) (a := 12) (v := 0) (N := 13) s3 (by decide) (by omega) hF
  obtain ⟨σ2, b1, b2, b3⟩ := ca_fill (F := F) (a := 13) (v := 0) (N := 169) σ1 (by decide) (by omega) hF
  have f2 : jfr (fun a j => a = 10 ∨ a = 11 ∨ a = 12 ∨ a = 13) σ σ2 := jfr_trans (jfr_mono f3 (fun a j q => by omega)) (jfr_trans (jfr_ag a2 (fun a j q => by simp at q; omega)) (jfr_ag b2 (fun a j q => by simp at q; omega)))
  have hB : BnG σ2 (ls.take 0) := by
    rw [List.take_zero]
    refine ⟨fun h h1 h2 => ⟨0, by decide, ?_, fun k _ _ => by rw [Nat.zero_testBit]; rfl⟩, fun h a h1 h2 ha => ⟨0, by decide, ?_, fun k _ _ => by rw [Nat.zero_testBit]; rfl⟩⟩
    · rw [b2 12 (by simp), a3 h (by omega) (by omega)]; rfl
    · rw [b3 _ (by omega) (by omega)]; rfl
  obtain ⟨σ3, c1, c2, c3⟩ := ca_lines (F := F) ok (σ0 := σ2) (fun i x hx => by
    obtain ⟨t1, t2, t3⟩ := hL i x hx
    exact ⟨by rw [f2 5 _ (by omega)]; exact t1, fun q => by obtain ⟨p1, p2, p3⟩ := t2 q; exact ⟨by rw [f2 6 _ (by omega)]; exact p1, by rw [f2 7 _ (by omega)]; exact p2, by rw [f2 8 _ (by omega)]; exact p3⟩, fun q => by obtain ⟨p1, p2⟩ := t3 q; exact ⟨by rw [f2 3 _ (by omega)]; exact p1, fun i y hy => by rw [f2 4 _ (by omega)]; exact p2 i y hy⟩⟩) (by rw [f2 3 7 (by omega)]; exact w) ls.length F 0 σ2 (by omega) (by omega) (jfr_refl _ _) hB
  have g3 : jfr (fun a j => a = 12 ∨ a = 13) s3 σ3 := jfr_trans (jfr_ag a2 (fun a j q => by simp at q; omega)) (jfr_trans (jfr_ag b2 (fun a j q => by simp at q; omega)) c2)
  have hA : RulA σ3 (gD ls) (gG ls) (gA ls) (gN ls) := ⟨d8, g8, by rw [g3 10 8 (by omega)]; exact v8, fun i hi => by rw [g3 11 _ (by omega)]; exact v11 i hi, c3.1, c3.2⟩
  have zz : σ3 16 0 = 0 ∧ σ3 17 0 = 0 ∧ σ3 18 0 = 0 := ⟨by rw [g3 16 _ (by omega), f3 16 _ (by omega)]; exact z.1, by rw [g3 17 _ (by omega), f3 17 _ (by omega)]; exact z.2.1, by rw [g3 18 _ (by omega), f3 18 _ (by omega)]; exact z.2.2⟩
  obtain ⟨σ4, d1, d2, d3, d4, d5, d6⟩ := ca_rules (F := F) hA zz (by omega)
  refine ⟨σ4, ?_, ?_, d3, d4, d5, RulA_fr hA d2 (by simp [MP, JP]) (fun a j _ _ => by simp only [MP, JP]; omega), d6, ?_⟩
  · rw [a1, jbs]
    dsimp only
    rw [b1, jbs]
    dsimp only
    have c1' : Rules_learn_c54 F F 0 σ2 = Rules_learn_c102 F σ3 := c1
    rw [c1', d1]
  · exact jfr_trans (jfr_mono f3 (fun a j q => by simp only [RLP1]; omega)) (jfr_trans (jfr_mono g3 (fun a j q => by simp only [RLP1]; omega)) (jfr_mono d2 (fun a j q => by simp only [MP, JP] at q; simp only [RLP1]; omega)))
  · rw [d2 10 9 (by simp [MP, JP]), g3 10 9 (by omega)]; exact v9
end GC
