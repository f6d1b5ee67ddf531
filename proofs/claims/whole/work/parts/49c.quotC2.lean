/-! Quotients: the class builds them whole. -/
theorem dh_last {c : Nat → Nat} {n : Nat} : (dh c).all (fun h => decide (h ≤ n)) = decide ((dh c).getLastD 0 ≤ n) := by
  have s := dh_sorted c
  cases e : dh c with
  | nil => simp
  | cons x l =>
    rw [e] at s
    have key : ∀ (l : List Nat) (x : Nat), (x :: l).Pairwise (· < ·) → (x :: l).all (fun h => decide (h ≤ n)) = decide ((x :: l).getLastD 0 ≤ n) := by
      intro l
      induction l with
      | nil => intro x _; simp
      | cons y l ih =>
        intro x hx
        have hx' := List.pairwise_cons.mp hx
        have i := ih y hx'.2
        have xy := hx'.1 y (List.mem_cons_self ..)
        have e1 : (x :: y :: l).getLastD 0 = (y :: l).getLastD 0 := by simp [List.getLastD]
        rw [List.all_cons, i, e1]
        by_cases q : (y :: l).getLastD 0 ≤ n
        · have yn : y ≤ n := by
            have := i
            rw [decide_eq_true q] at this
            have := List.all_eq_true.mp this y (List.mem_cons_self ..)
            exact of_decide_eq_true this
          rw [decide_eq_true q, decide_eq_true (by omega : x ≤ n)]
          rfl
        · rw [decide_eq_false q, Bool.and_false]
    exact key l x s
theorem po_big {F : Nat} {σ : jxS} (hP : PosOK σ) {c : Nat → Nat} (hc : okc c) (hb : beans c ≤ 22) : Positions_biggestHeap F σ (rank c) = some ((((dh c).getLastD 0 : Nat) : Int), σ) := by
  have e1 := po_first (F := F) hP (c := c) hb
  have e2 := po_end (F := F) hP hc hb
  have ba := ps_all hP hc hb
  have pl := dh_len c
  rw [Positions_biggestHeap, e1, jbs]
  dsimp only
  rw [e2, jbs]
  dsimp only
  cases e : dh c with
  | nil =>
    rw [if_pos (by simp)]
    rfl
  | cons x l =>
    have lx : ((x :: l) : List Nat)[l.length]? = some ((x :: l).getLastD 0) := by
      rw [← e]
      have : (dh c).getLastD 0 = (x :: l).getLast (by simp) := by rw [e]; simp [List.getLastD]
      rw [e] at this ⊢
      rw [this, List.getLast_eq_getElem]
      simp
    rw [← e] at lx
    obtain ⟨h1, h2⟩ := po_heap (F := F) hP hc hb lx
    rw [e, List.length_cons] at ba pl
    generalize hL : l.length = L at *
    generalize hB : ps (rank c) = B at *
    rw [List.length_cons, hL]
    rw [if_neg (by unfold jw; omega)]
    rw [e, List.length_cons, hL] at e2
    rw [e2, jbs]
    dsimp only
    rw [show ((B + (L + 1) : Nat) : Int) - 1 = ((B + L : Nat) : Int) by omega, h1, jbs]
    rw [e]
theorem cts_loop {F n : Nat} {σ : jxS} (hP : PosOK σ) (n6 : n ≤ 6) : ∀ (m fu t : Nat), m + t = 45 → m < fu → Values_testsOf_c5 F fu n (tstn n t) t σ = some (((tstn n 45 : Nat) : Int), σ) := by
  intro m
  induction m with
  | zero =>
    intro fu t e1 e2
    obtain ⟨fu, rfl⟩ : ∃ k, fu = k + 1 := ⟨fu - 1, by omega⟩
    have ht : t = 45 := by omega
    subst ht
    rw [Values_testsOf_c5, if_neg (by decide)]
  | succ m ih =>
    intro fu t e1 e2
    obtain ⟨fu, rfl⟩ : ∃ k, fu = k + 1 := ⟨fu - 1, by omega⟩
    have ht : t < fo 8 := by rw [fo_8]; omega
    have c1 : jw (t : Int) < 45 := by unfold jw; omega
    have e1' : m + (t + 1) = 45 := by omega
    have e2' : m < fu := by omega
    have t63 : t < 63 := by omega
    obtain ⟨v1, v2, v3⟩ := un_small (by decide) ht
    have bg := po_big (F := F) hP v1 (by omega)
    rw [v3] at bg
    have i1 := ih fu (t + 1) e1' e2'
    rw [Int.natCast_add, Int.natCast_one] at i1
    have tn : tno n t = decide ((dh (un t)).getLastD 0 ≤ n) := dh_last
    have l12 : (dh (un t)).getLastD 0 ≤ 12 := by
      cases e : dh (un t) with
      | nil => exact Nat.zero_le _
      | cons x l =>
        have : (x :: l).getLastD 0 ∈ dh (un t) := by rw [e]; simp [List.getLastD]
        exact (dh_mem.mp this).1.2
    have sh : jlshl 1 (t : Int) = ((2 ^ t : Nat) : Int) := bl_one t63
    have ol : tstn n t ||| 2 ^ t < 2 ^ 63 := Nat.or_lt_two_pow (Nat.lt_of_lt_of_le (tstn_lt n t) (Nat.pow_le_pow_right (by decide) (by omega))) (Nat.pow_lt_pow_right (by decide) t63)
    generalize hg : (dh (un t)).getLastD 0 = g at *
    rw [Values_testsOf_c5, if_pos c1, bg, jbs]
    dsimp only
    by_cases z : g ≤ n
    · rw [decide_eq_true z] at tn
      rw [if_neg (by unfold jw; omega), sh, bl_or ol]
      have e : tstn n (t + 1) = tstn n t ||| 2 ^ t := by simp only [tstn, tn, if_true]
      rw [e] at i1
      exact i1
    · rw [decide_eq_false z] at tn
      rw [if_pos (by unfold jw; omega)]
      have e : tstn n (t + 1) = tstn n t := by simp only [tstn, tn]; simp
      rw [e] at i1
      exact i1
theorem ca_tests {F n : Nat} {σ : jxS} (hP : PosOK σ) (n6 : n ≤ 6) (hF : 100 ≤ F) : Values_testsOf F σ n = some ((tst n : Int), σ) := by
  have := cts_loop (F := F) hP n6 45 F 0 (by omega) (by omega)
  rw [tst, jseal_eq]
  exact this
/-- a quotient as the class has it: not built, unknown, or its words and nexts -/
def QbC (σ : jxS) (M : Nat → List Nat) (q n : Nat) : Prop := match qbd M n with
  | none => σ q 7 = -3
  | some s => QW σ M q n s.1 ∧ ∀ a b : Nat, a < s.1.length → 1 ≤ b → b ≤ n → σ (q + 3) (6 * (a : Int) + b - 1) = (s.2 a b : Int) ∧ s.2 a b < s.1.length
theorem cqb_out {F q n : Nat} {M : Nat → List Nat} (hM : MOK M) (hq : isQ q) (n1 : 1 ≤ n) (n6 : n ≤ 6) (hF : 5000 ≤ F) : ∀ (m fu e : Nat) (s : qsT) (σ : jxS), m + e = 17 → m + 1 < fu → CV σ M → QW σ M q n s.1 → NXC σ q n s e 1 → match qout M n s m e with
    | none => ∃ σ', Quotient_build_c50 F q fu (tst n) e σ = some (0, σ') ∧ jfr (QP q) σ σ' ∧ CV σ' M ∧ σ' q 7 = -3
    | some s' => ∃ σ', Quotient_build_c50 F q fu (tst n) e σ = some (0, σ') ∧ jfr (QP q) σ σ' ∧ CV σ' M ∧ QW σ' M q n s'.1 ∧ ∀ a b : Nat, a < s'.1.length → 1 ≤ b → b ≤ n → σ' (q + 3) (6 * (a : Int) + b - 1) = (s'.2 a b : Int) ∧ s'.2 a b < s'.1.length := by
  intro m
  induction m with
  | zero =>
    intro fu e s σ e1 e2 hC hQ hX
    obtain ⟨fu, rfl⟩ : ∃ k, fu = k + 1 := ⟨fu - 1, by omega⟩
    have l16 := hQ.2.2.1
    have w7 := hQ.2.2.2.2.1
    refine ⟨σ, ?_, jfr_refl _ _, hC, hQ, fun a b ha b1 b2 => hX a b (Or.inl (by omega)) b1 b2⟩
    rw [Quotient_build_c50, w7, if_neg (by unfold jw; omega)]
  | succ m ih =>
    intro fu e s σ e1 e2 hC hQ hX
    obtain ⟨fu, rfl⟩ : ∃ k, fu = k + 1 := ⟨fu - 1, by omega⟩
    have l16 := hQ.2.2.1
    have w7 := hQ.2.2.2.2.1
    rw [qout]
    by_cases z : e < s.1.length
    · simp only [if_pos z]
      have st : Quotient_build_c50 F q (fu + 1) (tst n) e σ = Quotient_build_c67 F q (Quotient_build_c50 F q fu) F (tst n) e 1 σ := by
        rw [Quotient_build_c50, w7, if_pos (by unfold jw; omega), if_pos (by unfold jw; omega)]
      have i := cqb_in (F := F) (k50 := Quotient_build_c50 F q fu) hM hq n1 n6 (e := e) (by omega) hF n F 1 s σ (by omega) (by omega) (by omega) hC hQ hX z
      have ee : ((e + 1 : Nat) : Int) = (e : Int) + 1 := by omega
      cases hi : qin M n s e n 1 with
      | none =>
        rw [hi] at i
        obtain ⟨σ1, a1, a2, a3, a4, a5⟩ := i
        refine ⟨σ1, ?_, a2, a3, a4⟩
        have a1' : Quotient_build_c67 F q (Quotient_build_c50 F q fu) F (tst n) e 1 σ = _ := a1
        rw [st, a1']
        obtain ⟨g, rfl⟩ : ∃ k, fu = k + 1 := ⟨fu - 1, by omega⟩
        rw [Quotient_build_c50, a4, if_neg (by unfold jw; omega)]
      | some s1 =>
        rw [hi] at i
        obtain ⟨σ1, a1, a2, a3, a4, a5, a6⟩ := i
        have j := ih fu (e + 1) s1 σ1 (by omega) (by omega) a3 a4 a5
        have a1' : Quotient_build_c67 F q (Quotient_build_c50 F q fu) F (tst n) e 1 σ = _ := a1
        rw [st, a1', ← ee]
        simp only
        cases ho : qout M n s1 m (e + 1) with
        | none =>
          rw [ho] at j
          obtain ⟨σ2, b1, b2, b3, b4⟩ := j
          exact ⟨σ2, b1, jfr_trans a2 b2, b3, b4⟩
        | some s2 =>
          rw [ho] at j
          obtain ⟨σ2, b1, b2, b3, b4, b5⟩ := j
          exact ⟨σ2, b1, jfr_trans a2 b2, b3, b4, b5⟩
    · simp only [if_neg z]
      refine ⟨σ, ?_, jfr_refl _ _, hC, hQ, fun a b ha b1 b2 => hX a b (Or.inl (by omega)) b1 b2⟩
      rw [Quotient_build_c50, w7, if_neg (by unfold jw; omega)]
theorem mrk_00 (M : Nat → List Nat) : rank (fun _ => 0) = 0 := rank_00
theorem ca_build {F q n : Nat} {σ : jxS} {M : Nat → List Nat} (hM : MOK M) (hq : isQ q) (n1 : 1 ≤ n) (n6 : n ≤ 6) (hC : CV σ M) (wn : σ q 0 = (n : Int)) (h : σ q 7 = 0 ∨ (σ q 7 ≠ 0 ∧ -3 ≤ σ q 7 ∧ σ q 7 ≤ 16 ∧ QbC σ M q n)) (hF : 5000 ≤ F) : ∃ σ', Quotient_build F q σ = some (0, σ') ∧ jfr (QP q) σ σ' ∧ CV σ' M ∧ QbC σ' M q n := by
  have q48 : 48 ≤ q := by rcases hq with h | h | h | h | h | h <;> omega
  rcases h with h | ⟨h1, h2, h3, h4⟩
  · have ts := ca_tests (F := F) hC.1 n6 (by omega)
    have fA : jfr (fun a j => (a = q ∧ j = 7) ∨ a = q + 1) σ (jup (jup σ q 7 1) (q + 1) 0 0) := jfr_up (jfr_up (jfr_refl _ _) (Or.inl ⟨rfl, rfl⟩)) (Or.inr rfl)
    have hC1 := CV_fr hC fA (fun a j ha => by omega)
    obtain ⟨σ1, a1, a2, a3⟩ := ca_mark (F := F) (p := 0) hM hC1 (by omega) hF
    have la := bl_and (a := mrk M 0) (b := tst n) (Nat.lt_of_lt_of_le (mt_lt M _ n) (by decide))
    have fB : jfr (fun a _ => a = q + 2) σ1 (jup σ1 (q + 2) 0 ((mrk M 0 &&& tst n : Nat) : Int)) := jfr_up (jfr_refl _ _) rfl
    have v : ∀ (b : Nat) (j : Int), 48 ≤ b → ¬ VP b j := fun b j hb => by simp only [VP]; omega
    have fq : jfr (QP q) σ (jup σ1 (q + 2) 0 ((mrk M 0 &&& tst n : Nat) : Int)) := jfr_trans (jfr_trans (jfr_mono fA (fun a j h => by rcases h with w | w; exact Or.inr (Or.inl w); exact Or.inr (Or.inr (Or.inl w)))) (jfr_mono a2 (fun a j h => Or.inl h))) (jfr_mono fB (fun a j h => Or.inr (Or.inr (Or.inr (Or.inl h)))))
    have w0 : QW (jup σ1 (q + 2) 0 ((mrk M 0 &&& tst n : Nat) : Int)) M q n [fun _ => 0] := by
      refine ⟨?_, ?_, by decide, by decide, ?_, ?_⟩
      · rw [jup_o (by omega), a2 q 0 (v _ _ q48), jup_o (by omega), jup_k (by omega)]; exact wn
      · intro w hw
        rw [List.mem_singleton.mp hw]
        exact ⟨fun _ _ => rfl, by rw [beans_eq]; decide⟩
      · rw [jup_o (by omega), a2 q 7 (v _ _ q48), jup_o (by omega), jup_s]; rfl
      · intro i w hw
        have i0 : i = 0 := by
          have := (List.getElem?_eq_some_iff.mp hw).1
          simp at this
          omega
        subst i0
        simp only [List.getElem?_cons_zero, Option.some.injEq] at hw
        subst hw
        rw [rank_00]
        exact ⟨by rw [jup_o (by omega)]; show σ1 (q + 1) 0 = 0; rw [a2 (q + 1) 0 (v _ _ (by omega)), jup_s], jup_s _ _ _ _⟩
    have o := cqb_out (F := F) hM hq n1 n6 hF 17 F 0 ([fun _ => 0], fun _ _ => 0) (jup σ1 (q + 2) 0 ((mrk M 0 &&& tst n : Nat) : Int)) (by omega) (by omega) (CV_fr a3 fB (fun a j ha => by omega)) w0 (fun a b hab b1 b2 => by omega)
    have st : Quotient_build F q σ = Quotient_build_c50 F q F (tst n) ((0 : Nat) : Int) (jup σ1 (q + 2) 0 ((mrk M 0 &&& tst n : Nat) : Int)) := by
      have a1' : Values_markOf F (jup (jup σ q 7 1) (q + 1) 0 0) 0 = some ((mrk M 0 : Int), σ1) := a1
      rw [Quotient_build, h, if_pos (show jw 0 = 0 from rfl), wn, ts, jbs]
      dsimp only
      rw [a1', jbs]
      dsimp only
      rw [la]
      rfl
    unfold QbC
    rw [st]
    unfold qbd
    cases ho : qout M n ([fun _ => 0], fun _ _ => 0) 17 0 with
    | none =>
      rw [ho] at o
      obtain ⟨σ2, b1, b2, b3, b4⟩ := o
      exact ⟨σ2, b1, jfr_trans fq b2, b3, b4⟩
    | some s =>
      rw [ho] at o
      obtain ⟨σ2, b1, b2, b3, b4, b5⟩ := o
      exact ⟨σ2, b1, jfr_trans fq b2, b3, b4, b5⟩
  · refine ⟨σ, ?_, jfr_refl _ _, hC, h4⟩
    rw [Quotient_build, if_neg (by unfold jw; omega)]
