/-! Quotients: how they are built; the class's side. -/
/-- a test without heaps above n -/
noncomputable def tno (n t : Nat) : Bool := (dh (un t)).all (fun h => decide (h ≤ n))
noncomputable def tstn (n k : Nat) : Nat := match k with
  | 0 => 0
  | k + 1 => tstn n k ||| (if tno n k then 2 ^ k else 0)
noncomputable def tst (n : Nat) : Nat := jseal (tstn n 45)
theorem tstn_lt (n : Nat) : ∀ k, tstn n k < 2 ^ k := by
  intro k
  induction k with
  | zero => exact Nat.one_pos
  | succ k ih =>
    have h2 : 2 ^ k < 2 ^ (k + 1) := Nat.pow_lt_pow_right (by decide) (Nat.lt_succ_self k)
    refine Nat.or_lt_two_pow (Nat.lt_trans ih h2) ?_
    split
    · exact h2
    · exact Nat.two_pow_pos _
theorem tstn_bit (n : Nat) : ∀ k t, (tstn n k).testBit t = (decide (t < k) && tno n t) := by
  intro k
  induction k with
  | zero => intro t; simp [tstn]
  | succ k ih =>
    intro t
    simp only [tstn, Nat.testBit_or, ih]
    by_cases e : t = k
    · subst e
      cases hl : tno n t
      · simp
      · simp [Nat.testBit_two_pow]
    · have e' : ¬ k = t := fun q => e q.symm
      have : (if tno n k = true then 2 ^ k else 0).testBit t = false := by
        split
        · rw [Nat.testBit_two_pow]; simp [e']
        · simp
      rw [this, Bool.or_false]
      by_cases q : t < k
      · simp [q, show t < k + 1 by omega]
      · simp [q, show ¬ t < k + 1 by omega]
theorem tst_lt (n : Nat) : tst n < 2 ^ 45 := by rw [tst, jseal_eq]; exact tstn_lt n 45
theorem tst_bit (n t : Nat) : (tst n).testBit t = (decide (t < 45) && tno n t) := by rw [tst, jseal_eq]; exact tstn_bit n 45 t
/-- alike by the tests of heaps 1 to n -/
def smk (M : Nat → List Nat) (n : Nat) (c d : Nat → Nat) : Prop := ∀ t, t < 45 → tno n t = true → los M (rank (cpl c (un t))) = los M (rank (cpl d (un t)))
theorem smk_iff {M : Nat → List Nat} {n : Nat} {c d : Nat → Nat} (hc : okc c) (hb : beans c ≤ 22) (hd : okc d) (hb' : beans d ≤ 22) : (mrk M (rank c) &&& tst n) = (mrk M (rank d) &&& tst n) ↔ smk M n c d := by
  constructor
  · intro h t ht hn
    have e : (mrk M (rank c) &&& tst n).testBit t = (mrk M (rank d) &&& tst n).testBit t := by rw [h]
    rw [Nat.testBit_and, Nat.testBit_and, mrk_bit, mrk_bit, tst_bit, hn, decide_eq_true ht, un_rank hc hb, un_rank hd hb'] at e
    simpa using e
  · intro h
    apply Nat.eq_of_testBit_eq
    intro t
    rw [Nat.testBit_and, Nat.testBit_and, mrk_bit, mrk_bit, tst_bit, un_rank hc hb, un_rank hd hb']
    by_cases ht : t < 45
    · cases hn : tno n t
      · simp
      · rw [h t ht hn]
    · rw [decide_eq_false ht]
      simp
noncomputable def smb (M : Nat → List Nat) (n : Nat) (u w : Nat → Nat) : Bool := @decide (smk M n u w) (Classical.propDecidable _)
theorem smb_iff {M : Nat → List Nat} {n : Nat} {u w : Nat → Nat} : smb M n u w = true ↔ smk M n u w := @decide_eq_true_iff _ (Classical.propDecidable _)
/-- which element, from the i-th on -/
noncomputable def fel (M : Nat → List Nat) (n : Nat) (w : Nat → Nat) (i : Nat) (l : List (Nat → Nat)) : Option Nat := match l with
  | [] => none
  | u :: l => if smb M n u w then some i else fel M n w (i + 1) l
abbrev qsT : Type := List (Nat → Nat) × (Nat → Nat → Nat)
/-- the word with a heap more -/
noncomputable def qst (M : Nat → List Nat) (n : Nat) (s : qsT) (e h : Nat) : Option qsT :=
  if 15 < beans (cad (s.1.getD e (fun _ => 0)) h) then none else match fel M n (cad (s.1.getD e (fun _ => 0)) h) 0 s.1 with
    | some f => some (s.1, fun a b => if a = e ∧ b = h then f else s.2 a b)
    | none => if s.1.length = 16 then none else some (s.1 ++ [cad (s.1.getD e (fun _ => 0)) h], fun a b => if a = e ∧ b = h then s.1.length else s.2 a b)
noncomputable def qin (M : Nat → List Nat) (n : Nat) (s : qsT) (e m h : Nat) : Option qsT := match m with
  | 0 => some s
  | m + 1 => match qst M n s e h with
    | none => none
    | some s' => qin M n s' e m (h + 1)
noncomputable def qout (M : Nat → List Nat) (n : Nat) (s : qsT) (fu e : Nat) : Option qsT := match fu with
  | 0 => some s
  | fu + 1 => if e < s.1.length then (match qin M n s e n 1 with
    | none => none
    | some s' => qout M n s' fu (e + 1)) else some s
noncomputable def qbd (M : Nat → List Nat) (n : Nat) : Option qsT := qout M n ([fun _ => 0], fun _ _ => 0) 17 0
theorem CV_fr {σ σ' : jxS} {P : Nat → Int → Prop} {M : Nat → List Nat} (h : CV σ M) (f : jfr P σ σ') (hp : ∀ a j, a ≤ 47 → ¬ P a j) : CV σ' M := by
  obtain ⟨h1, h2, ⟨o, o1, o2, o3⟩, ⟨g, g1, g2, g3⟩, h5⟩ := h
  refine ⟨PosOK_fr h1 f (fun a j _ q => hp a j (by omega)), RulC_fr h2 f (fun j => hp _ j (by omega)) (fun j => hp _ j (by omega)), ⟨o, ?_, o2, fun p q => ?_⟩, ⟨g, ?_, g2, fun p q => ?_⟩, fun p q => ?_⟩
  · rw [f 33 7 (hp _ _ (by omega))]; exact o1
  · rw [f 34 _ (hp _ _ (by omega))]; exact o3 p q
  · rw [f 33 8 (hp _ _ (by omega))]; exact g1
  · rw [f 35 _ (hp _ _ (by omega))]; exact g3 p q
  · rw [f 37 _ (hp _ _ (by omega))]; exact h5 p q
def isQ (q : Nat) : Prop := q = 48 ∨ q = 53 ∨ q = 58 ∨ q = 63 ∨ q = 68 ∨ q = 73
def QP (q a : Nat) (j : Int) : Prop := VP a j ∨ (a = q ∧ j = 7) ∨ a = q + 1 ∨ a = q + 2 ∨ a = q + 3
def okW (l : List (Nat → Nat)) : Prop := ∀ w, w ∈ l → okc w ∧ beans w ≤ 15
def QW (σ : jxS) (M : Nat → List Nat) (q n : Nat) (l : List (Nat → Nat)) : Prop := σ q 0 = (n : Int) ∧ okW l ∧ l.length ≤ 16 ∧ 1 ≤ l.length ∧ σ q 7 = (l.length : Int) ∧ ∀ (i : Nat) (w : Nat → Nat), l[i]? = some w → σ (q + 1) i = (rank w : Int) ∧ σ (q + 2) i = ((mrk M (rank w) &&& tst n : Nat) : Int)
theorem rank_677 {c : Nat → Nat} : rank c < 677 ↔ beans c ≤ 15 := by
  have := rank_beans (c := c) (b := 16)
  rw [fo_16] at this
  omega
theorem mt_lt (M : Nat → List Nat) (p n : Nat) : mrk M p &&& tst n < 2 ^ 45 := Nat.and_lt_two_pow _ (tst_lt n)
theorem mt_rng (M : Nat → List Nat) (p n : Nat) : (-9223372036854775808 ≤ ((mrk M p &&& tst n : Nat) : Int) ∧ ((mrk M p &&& tst n : Nat) : Int) ≤ 9223372036854775807) := by
  have : mrk M p &&& tst n < 35184372088832 := mt_lt M p n
  generalize mrk M p &&& tst n = x at this ⊢
  omega
theorem cef_step {F q fu : Nat} {σ : jxS} {p m e n x : Int} (e0 : 0 ≤ e) (en : e < n) (n16 : n ≤ 16) (wn : σ q 7 = n) (wx : jlcmp (σ (q + 2) e) m = x) (x1 : -1 ≤ x) (x2 : x ≤ 1) : Quotient_elementFor_c3 F q (fu + 1) p m e σ = if x = 0 then some (e, σ) else Quotient_elementFor_c3 F q fu p m (e + 1) σ := by
  by_cases z : x = 0
  · rw [Quotient_elementFor_c3, wn, if_pos (by unfold jw; omega), if_pos (by unfold jw; omega), if_pos (by omega), wx, if_pos (by unfold jw; omega), if_pos z]
  · rw [Quotient_elementFor_c3, wn, if_pos (by unfold jw; omega), if_pos (by unfold jw; omega), if_pos (by omega), wx, if_neg (by unfold jw; omega), if_neg z]
theorem cmp_mt (M : Nat → List Nat) (p r n : Nat) : ∃ x : Int, jlcmp ((mrk M p &&& tst n : Nat) : Int) ((mrk M r &&& tst n : Nat) : Int) = x ∧ -1 ≤ x ∧ x ≤ 1 ∧ (x = 0 ↔ (mrk M p &&& tst n) = (mrk M r &&& tst n)) := by
  refine ⟨_, bl_cmp (mt_rng M p n) (mt_rng M r n), ?_⟩
  generalize mrk M p &&& tst n = a
  generalize mrk M r &&& tst n = b
  by_cases h1 : (b : Int) < (a : Int)
  · rw [if_pos h1]
    refine ⟨by omega, by omega, ⟨fun q => by omega, fun q => by subst q; omega⟩⟩
  · rw [if_neg h1]
    by_cases h2 : (a : Int) = (b : Int)
    · rw [if_pos h2]
      exact ⟨by omega, by omega, ⟨fun _ => by omega, fun _ => rfl⟩⟩
    · rw [if_neg h2]
      exact ⟨by omega, by omega, ⟨fun q => by omega, fun q => by subst q; exact absurd rfl h2⟩⟩
theorem cef_loop {F q n N : Nat} {σ : jxS} {M : Nat → List Nat} {l : List (Nat → Nat)} {w : Nat → Nat} (hN : l.length = N) (h : QW σ M q n l) (hw : okc w) (hb : beans w ≤ 15) : ∀ (r : List (Nat → Nat)) (fu i : Nat), l.drop i = r → r.length + i = N → r.length < fu → ∃ g, Quotient_elementFor_c3 F q fu (rank w) ((mrk M (rank w) &&& tst n : Nat) : Int) i σ = (match fel M n w i r with
      | some f => some ((f : Int), σ)
      | none => Quotient_elementFor_c3 F q (g + 1) (rank w) ((mrk M (rank w) &&& tst n : Nat) : Int) N σ) ∧ (∀ f, fel M n w i r = some f → f < N) := by
  obtain ⟨h0, h1, h2, h3, h4, h5⟩ := h
  rw [hN] at h2 h3 h4
  intro r
  induction r with
  | nil =>
    intro fu i e1 e2 e3
    obtain ⟨fu, rfl⟩ : ∃ k, fu = k + 1 := ⟨fu - 1, by omega⟩
    simp only [List.length_nil] at e2
    exact ⟨fu, by simp only [fel]; rw [show i = N by omega], fun f hf => by simp only [fel] at hf; cases hf⟩
  | cons u r ih =>
    intro fu i e1 e2 e3
    obtain ⟨fu, rfl⟩ : ∃ k, fu = k + 1 := ⟨fu - 1, by omega⟩
    simp only [List.length_cons] at e2 e3
    have o1 : (0 : Int) ≤ (i : Int) := by omega
    have o2 : (i : Int) < (N : Int) := by omega
    have o3 : (N : Int) ≤ 16 := by omega
    have e2' : r.length + (i + 1) = N := by omega
    have e3' : r.length < fu := by omega
    have iN : i < N := by omega
    obtain ⟨hm, hr⟩ := drop_o e1
    obtain ⟨u1, u2⟩ := h1 u (List.mem_of_getElem? hm)
    obtain ⟨w1, w2⟩ := h5 i u hm
    obtain ⟨x, x1, x2, x3, x4⟩ := cmp_mt M (rank u) (rank w) n
    rw [← w2] at x1
    have st := cef_step (F := F) (fu := fu) (p := rank w) o1 o2 o3 h4 x1 x2 x3
    have sm := smk_iff (M := M) (n := n) u1 (Nat.le_trans u2 (by decide)) hw (Nat.le_trans hb (by decide))
    rw [fel]
    by_cases z : smk M n u w
    · have zb := smb_iff.mpr z
      rw [if_pos (x4.mpr (sm.mpr z))] at st
      refine ⟨0, ?_, fun f hf => ?_⟩
      · simp only [if_pos zb]; exact st
      · simp only [if_pos zb, Option.some.injEq] at hf
        omega
    · have zb : ¬ smb M n u w = true := fun q => z (smb_iff.mp q)
      rw [if_neg (fun q => z (sm.mp (x4.mp q)))] at st
      obtain ⟨g, i1, i2⟩ := ih fu (i + 1) hr e2' e3'
      rw [Int.natCast_add, Int.natCast_one] at i1
      refine ⟨g, ?_, fun f hf => ?_⟩
      · simp only [if_neg zb]
        rw [st]
        exact i1
      · simp only [if_neg zb] at hf
        exact i2 f hf
theorem cef_new {F q g : Nat} {σ : jxS} {p m n : Int} (hq : isQ q) (wn : σ q 7 = n) (n0 : 0 ≤ n) (n16 : n ≤ 16) : Quotient_elementFor_c3 F q (g + 1) p m n σ = if n < 16 then some (n, jup (jup (jup σ (q + 1) n p) (q + 2) n m) q 7 (n + 1)) else some (-1, σ) := by
  by_cases z : n < 16
  · rw [if_pos z, Quotient_elementFor_c3, wn, if_neg (by unfold jw; omega), Quotient_elementFor_c40, wn, if_pos (by unfold jw; omega), if_pos (by omega)]
    have e1 : (jup σ (q + 1) n p) q 7 = n := by rw [jup_o (by omega)]; exact wn
    have e2 : (jup (jup σ (q + 1) n p) (q + 2) n m) q 7 = n := by rw [jup_o (by omega)]; exact e1
    dsimp only
    rw [e1, if_pos (by omega), e2, jup_s, show n + 1 - 1 = n by omega]
  · rw [if_neg z, Quotient_elementFor_c3, wn, if_neg (by unfold jw; omega), Quotient_elementFor_c40, wn, if_neg (by unfold jw; omega)]
