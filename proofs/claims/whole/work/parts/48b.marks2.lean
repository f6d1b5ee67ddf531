/-! Marks: told apart, alike; the tests of some heaps; the reference's side. -/
/-- the first test of which two positions differ -/
noncomputable def fbt (M : Nat → List Nat) (p q : Nat) (n t : Nat) : Int := match n with
  | 0 => -1
  | n + 1 => if los M (rank (cpl (un p) (un t))) = los M (rank (cpl (un q) (un t))) then fbt M p q n (t + 1) else (t : Int)
theorem fbt_s (M : Nat → List Nat) (p q n t : Nat) : fbt M p q (n + 1) t = if los M (rank (cpl (un p) (un t))) = los M (rank (cpl (un q) (un t))) then fbt M p q n (t + 1) else (t : Int) := rfl
theorem cfb_loop {F p q : Nat} {σ : jxS} {M : Nat → List Nat} : ∀ (n fu t : Nat), n + t = 45 → n < fu → Values_firstBetween_c15 F fu ((mrk M p ^^^ mrk M q : Nat) : Int) t σ = some (fbt M p q n t, σ) := by
  have xl : mrk M p ^^^ mrk M q < 2 ^ 45 := Nat.xor_lt_two_pow (mrk_lt M p) (mrk_lt M q)
  have xl2 : mrk M p ^^^ mrk M q < 2 ^ 63 := Nat.lt_of_lt_of_le xl (by decide)
  have bits : ∀ t, t < 45 → (mrk M p ^^^ mrk M q).testBit t = (los M (rank (cpl (un p) (un t))) ^^ los M (rank (cpl (un q) (un t)))) := fun t ht => by
    rw [Nat.testBit_xor, mrk_bit, mrk_bit, decide_eq_true ht, Bool.true_and, Bool.true_and]
  intro n
  induction n with
  | zero =>
    intro fu t e1 e2
    obtain ⟨fu, rfl⟩ : ∃ k, fu = k + 1 := ⟨fu - 1, by omega⟩
    have h1 : ¬ (t : Int) < 45 := by omega
    have h2 : (t : Int) = 45 := by omega
    rw [Values_firstBetween_c15, h2, if_neg (by decide)]
    rfl
  | succ n ih =>
    intro fu t e1 e2
    obtain ⟨fu, rfl⟩ : ∃ k, fu = k + 1 := ⟨fu - 1, by omega⟩
    have ht : t < 45 := by omega
    have c1 : jw (t : Int) < 45 := by unfold jw; omega
    have e1' : n + (t + 1) = 45 := by omega
    have e2' : n < fu := by omega
    have i1 := ih fu (t + 1) e1' e2'
    rw [Int.natCast_add, Int.natCast_one] at i1
    have bb := bl_bit (k := t) (by omega) xl2
    rw [bits t ht] at bb
    rw [fbt_s, Values_firstBetween_c15, if_pos c1, bb]
    cases h1 : los M (rank (cpl (un p) (un t))) <;> cases h2 : los M (rank (cpl (un q) (un t)))
    · rw [if_neg (by decide), if_pos rfl]; exact i1
    · rw [if_pos (by decide), if_neg (by decide)]
    · rw [if_pos (by decide), if_neg (by decide)]
    · rw [if_neg (by decide), if_pos rfl]; exact i1
theorem ca_between {F p q : Nat} {σ : jxS} {M : Nat → List Nat} (hM : MOK M) (h : CV σ M) (hp : p < 677) (hq : q < 677) (hF : 5000 ≤ F) : vres M σ (Values_firstBetween F σ p q) (fbt M p q 45 0) := by
  unfold Values_firstBetween
  refine vres_bind (ca_mark hM h hp hF) (fun σ1 f1 h1 => ?_)
  refine vres_bind (ca_mark hM h1 hq hF) (fun σ2 f2 h2 => ?_)
  dsimp only
  have xl : mrk M p ^^^ mrk M q < 2 ^ 45 := Nat.xor_lt_two_pow (mrk_lt M p) (mrk_lt M q)
  rw [bl_xor (Nat.lt_of_lt_of_le xl (by decide))]
  exact ⟨σ2, cfb_loop (F := F) 45 F 0 (by omega) (by omega), jfr_refl _ _, h2⟩
theorem fbt_none (M : Nat → List Nat) (p q : Nat) : ∀ n t, n + t = 45 → (fbt M p q n t = -1 ↔ ∀ s, t ≤ s → s < 45 → los M (rank (cpl (un p) (un s))) = los M (rank (cpl (un q) (un s)))) := by
  intro n
  induction n with
  | zero => intro t ht; simp only [fbt, true_iff]; intro s h1 h2; omega
  | succ n ih =>
    intro t ht
    rw [fbt_s]
    by_cases e : los M (rank (cpl (un p) (un t))) = los M (rank (cpl (un q) (un t)))
    · rw [if_pos e, ih (t + 1) (by omega)]
      constructor
      · intro h s h1 h2
        by_cases z : s = t
        · subst z; exact e
        · exact h s (by omega) h2
      · intro h s h1 h2
        exact h s (by omega) h2
    · rw [if_neg e]
      constructor
      · intro h; omega
      · intro h; exact absurd (h t (Nat.le_refl _) (by omega)) e
theorem mrk_eq_iff (M : Nat → List Nat) (p q : Nat) : mrk M p = mrk M q ↔ fbt M p q 45 0 = -1 := by
  rw [fbt_none M p q 45 0 (by omega)]
  constructor
  · intro h s _ h2
    have := mrk_bit M p s
    rw [h, mrk_bit, decide_eq_true h2, Bool.true_and, Bool.true_and] at this
    exact this.symm
  · intro h
    apply Nat.eq_of_testBit_eq
    intro s
    rw [mrk_bit, mrk_bit]
    by_cases z : s < 45
    · rw [h s (by omega) z]
    · rw [decide_eq_false z, Bool.false_and, Bool.false_and]
/-- the first alike -/
noncomputable def fal (M : Nat → List Nat) (p : Nat) (n t : Nat) : Int := match n with
  | 0 => -1
  | n + 1 => if fbt M p t 45 0 = -1 then (t : Int) else fal M p n (t + 1)
theorem fal_s (M : Nat → List Nat) (p n t : Nat) : fal M p (n + 1) t = if fbt M p t 45 0 = -1 then (t : Int) else fal M p n (t + 1) := rfl
theorem cal_loop {F p : Nat} {M : Nat → List Nat} (hM : MOK M) (hF : 5000 ≤ F) : ∀ (n fu t : Nat) (σ : jxS), CV σ M → n + t = 45 → n < fu → vres M σ (Values_firstAlike_c9 F fu (mrk M p) t σ) (fal M p n t) := by
  have mb : ∀ p, (-9223372036854775808 ≤ (mrk M p : Int) ∧ (mrk M p : Int) ≤ 9223372036854775807) := fun p => by
    have : mrk M p < 35184372088832 := mrk_lt M p
    omega
  intro n
  induction n with
  | zero =>
    intro fu t σ h e1 e2
    obtain ⟨fu, rfl⟩ : ∃ k, fu = k + 1 := ⟨fu - 1, by omega⟩
    have h2 : (t : Int) = 45 := by omega
    rw [Values_firstAlike_c9, h2, if_neg (by decide)]
    exact vres_ret h
  | succ n ih =>
    intro fu t σ h e1 e2
    obtain ⟨fu, rfl⟩ : ∃ k, fu = k + 1 := ⟨fu - 1, by omega⟩
    have c1 : jw (t : Int) < 45 := by unfold jw; omega
    have t677 : t < 677 := by omega
    have e1' : n + (t + 1) = 45 := by omega
    have e2' : n < fu := by omega
    rw [Values_firstAlike_c9, if_pos c1, fal_s]
    refine vres_bind (ca_mark hM h t677 hF) (fun σ1 f1 h1 => ?_)
    dsimp only
    rw [bl_cmp (mb t) (mb p)]
    by_cases z : fbt M p t 45 0 = -1
    · have me := (mrk_eq_iff M p t).mpr z
      rw [if_pos z, me, if_neg (Int.lt_irrefl _), if_pos rfl, if_pos (show jw 0 = 0 from rfl)]
      exact vres_ret h1
    · have me : ¬ mrk M p = mrk M t := fun q => z ((mrk_eq_iff M p t).mp q)
      have i1 := ih fu (t + 1) σ1 h1 e1' e2'
      rw [Int.natCast_add, Int.natCast_one] at i1
      rw [if_neg z]
      by_cases z2 : (mrk M p : Int) < (mrk M t : Int)
      · rw [if_pos z2, if_neg (show ¬ jw 1 = 0 by decide)]
        exact i1
      · have z3 : ¬ (mrk M t : Int) = (mrk M p : Int) := fun q => me (Int.ofNat_inj.mp q.symm)
        rw [if_neg z2, if_neg z3, if_neg (show ¬ jw (-1) = 0 by decide)]
        exact i1
theorem ca_alike {F p : Nat} {σ : jxS} {M : Nat → List Nat} (hM : MOK M) (h : CV σ M) (hp : p < 677) (hF : 5000 ≤ F) : vres M σ (Values_firstAlike F σ p) (fal M p 45 0) := by
  unfold Values_firstAlike
  refine vres_bind (ca_mark hM h hp hF) (fun σ1 f1 h1 => ?_)
  exact cal_loop hM hF 45 F 0 σ1 h1 (by omega) (by omega)
/-- the reference: with a test beside -/
def adt (σ : jxS) (a : Nat) (n : Int) (e : Int) : jxS := fun b j => if b = a ∧ 1 ≤ j ∧ j < n then σ a j + e * σ 29 j else σ b j
theorem rl_add {F a : Nat} (ha : a ≠ 29) : ∀ (n fu : Nat) (k : Int) (σ0 : jxS), n + k = 13 → 1 ≤ k → n < fu → Model_losesBeside_c2 F a fu k (adt σ0 a k 1) = (Model_numberOf F a (adt σ0 a 13 1)).bind (fun r32 => if 0 ≤ r32.1 ∧ r32.1 < 4600 then Model_losesBeside_c39 F a F (r32.2 15 r32.1) 1 r32.2 else none) := by
  intro n
  induction n with
  | zero =>
    intro fu k σ0 e1 e2 e3
    obtain ⟨fu, rfl⟩ : ∃ k, fu = k + 1 := ⟨fu - 1, by omega⟩
    have hk : k = 13 := by omega
    subst hk
    rw [Model_losesBeside_c2, if_pos (by decide)]
  | succ n ih =>
    intro fu k σ0 e1 e2 e3
    obtain ⟨fu, rfl⟩ : ∃ k, fu = k + 1 := ⟨fu - 1, by omega⟩
    have i1 := ih fu (k + 1) σ0 (by omega) (by omega) (by omega)
    have e : jup (adt σ0 a k 1) a k ((adt σ0 a k 1) a k + (adt σ0 a k 1) 29 k) = adt σ0 a (k + 1) 1 := by
      funext b j
      have h29 : (adt σ0 a k 1) 29 k = σ0 29 k := by simp only [adt]; rw [if_neg (fun q => ha q.1.symm)]
      have hak : (adt σ0 a k 1) a k = σ0 a k := by simp only [adt]; rw [if_neg (by omega)]
      rw [h29, hak]
      simp only [jup, adt]
      by_cases hb : b = a
      · subst hb
        by_cases hj : j = k
        · subst hj
          rw [if_pos ⟨rfl, rfl⟩, if_pos (by omega), Int.one_mul]
        · rw [if_neg (fun q => hj q.2)]
          by_cases hr : 1 ≤ j ∧ j < k
          · rw [if_pos ⟨rfl, hr⟩, if_pos (by omega)]
          · rw [if_neg (fun q => hr q.2), if_neg (by omega)]
      · rw [if_neg (fun q => hb q.1), if_neg (fun q => hb q.1), if_neg (fun q => hb q.1)]
    rw [← i1, ← e]
    rw [Model_losesBeside_c2, if_neg (by unfold jw; omega), if_pos (by omega), if_pos (by omega), if_pos (by omega)]
theorem rl_sub {F a : Nat} {v : Int} (ha : a ≠ 29) (hv : v = 0 ∨ v = 1) : ∀ (n fu : Nat) (k : Int) (σ0 : jxS), n + k = 13 → 1 ≤ k → n < fu → Model_losesBeside_c39 F a fu v k (adt σ0 a k (-1)) = some (v, adt σ0 a 13 (-1)) := by
  intro n
  induction n with
  | zero =>
    intro fu k σ0 e1 e2 e3
    obtain ⟨fu, rfl⟩ : ∃ k, fu = k + 1 := ⟨fu - 1, by omega⟩
    have hk : k = 13 := by omega
    subst hk
    rw [Model_losesBeside_c39, if_pos (by decide), if_pos hv]
  | succ n ih =>
    intro fu k σ0 e1 e2 e3
    obtain ⟨fu, rfl⟩ : ∃ k, fu = k + 1 := ⟨fu - 1, by omega⟩
    have i1 := ih fu (k + 1) σ0 (by omega) (by omega) (by omega)
    have e : jup (adt σ0 a k (-1)) a k ((adt σ0 a k (-1)) a k - (adt σ0 a k (-1)) 29 k) = adt σ0 a (k + 1) (-1) := by
      funext b j
      have h29 : (adt σ0 a k (-1)) 29 k = σ0 29 k := by simp only [adt]; rw [if_neg (fun q => ha q.1.symm)]
      have hak : (adt σ0 a k (-1)) a k = σ0 a k := by simp only [adt]; rw [if_neg (by omega)]
      rw [h29, hak]
      simp only [jup, adt]
      by_cases hb : b = a
      · subst hb
        by_cases hj : j = k
        · subst hj
          rw [if_pos ⟨rfl, rfl⟩, if_pos (by omega)]
          omega
        · rw [if_neg (fun q => hj q.2)]
          by_cases hr : 1 ≤ j ∧ j < k
          · rw [if_pos ⟨rfl, hr⟩, if_pos (by omega)]
          · rw [if_neg (fun q => hr q.2), if_neg (by omega)]
      · rw [if_neg (fun q => hb q.1), if_neg (fun q => hb q.1), if_neg (fun q => hb q.1)]
    rw [← i1, ← e]
    rw [Model_losesBeside_c39, if_neg (by unfold jw; omega), if_pos (by omega), if_pos (by omega), if_pos (by omega)]
theorem adt_1 (σ : jxS) (a : Nat) (e : Int) : adt σ a 1 e = σ := by
  funext b j
  simp only [adt]
  rw [if_neg (by omega)]
theorem adt_back {σ : jxS} {a : Nat} (ha : a ≠ 29) : adt (adt σ a 13 1) a 13 (-1) = σ := by
  funext b j
  simp only [adt]
  by_cases h : b = a ∧ 1 ≤ j ∧ j < 13
  · rw [if_pos h, if_pos ⟨trivial, h.2⟩, if_neg (fun q => ha q.1.symm), h.1]
    omega
  · rw [if_neg h, if_neg h]
theorem rk_beside {F a : Nat} {σ : jxS} {M : Nat → List Nat} {c d : Nat → Nat} (ha : a ≠ 29) (ha2 : a ≠ 13) (ha3 : a ≠ 14) (ha4 : a ≠ 15) (hW : WT σ) (hV : VT σ M 4224) (hc : Hd σ a c) (hd : Hd σ 29 d) (hs : beans c + beans d ≤ 22) (hF : 1000 ≤ F) : Model_losesBeside F a σ = some (if los M (rank (cpl c d)) then 1 else 0, σ) := by
  have ad := rl_add (F := F) (a := a) ha 12 F 1 σ (by omega) (by omega) (by omega)
  rw [adt_1] at ad
  have ag : jag [a] σ (adt σ a 13 1) := fun b hb => by
    funext j
    simp only [adt]
    rw [if_neg (fun q => hb (by rw [q.1]; exact List.mem_singleton.mpr rfl))]
  have hcd : Hd (adt σ a 13 1) a (cpl c d) := fun g g1 g2 => by
    simp only [adt]
    rw [if_pos ⟨trivial, by omega, by omega⟩, hc g g1 g2, hd g g1 g2]
    simp only [cpl]
    omega
  have bc := beans_cpl c d
  have nb := mo_num (F := F) (WT_ag hW ag (by simp; omega) (by simp; omega)) hcd (by omega) (by omega)
  have rt := rank_top (c := cpl c d) (by omega)
  have l15 : (adt σ a 13 1) 15 (rank (cpl c d) : Int) = if los M (rank (cpl c d)) then 1 else 0 := by
    rw [ag 15 (by simp; omega)]
    exact (hV _ rt).1
  have sb := rl_sub (F := F) (a := a) (v := if los M (rank (cpl c d)) then 1 else 0) ha (by split <;> simp) 12 F 1 (adt σ a 13 1) (by omega) (by omega) (by omega)
  rw [adt_1, adt_back ha] at sb
  have ad' : Model_losesBeside F a σ = _ := ad
  rw [ad', nb, jbs]
  dsimp only
  rw [if_pos (by omega), l15]
  exact sb
