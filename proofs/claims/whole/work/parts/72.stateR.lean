/-! The reference: nimbers of heaps, like nim, tame, state, genus. -/
section RS
variable {F a : Nat} {σ : jxS} {M : Nat → List Nat} {c : Nat → Nat}
theorem jr2 {x : Int} (h : 0 ≤ x) (h2 : x ≤ 2147483647) : jrem x 2 = x % 2 := (jdv h h2 rfl).2
theorem rn_st {fu : Nat} {v h x y : Int} (h1 : 1 ≤ h) (h2 : h ≤ 12) (wc : σ a h = y) (y0 : 0 ≤ y) (y1 : y ≤ 22) (wn : σ 11 h = x) : Model_nimberOfHeaps_c4 F a (fu + 1) v h σ = Model_nimberOfHeaps_c4 F a fu (jxor v (if y % 2 = 1 then x else 0)) (h + 1) σ := by
  have e := jr2 (x := y) y0 (by omega)
  by_cases q : y % 2 = 1
  · simp (disch := omega) only [Model_nimberOfHeaps_c4, wc, wn, e, ↓reduceIte, jw_id, jlt_T, jlt_F, jle_T, jle_F, jeq_T, jeq_F, and_self, and_true, true_and, and_false, false_and, or_true, true_or, or_false, false_or, not_true_eq_false, not_false_eq_true, jbs, jup_s, jup_k, jup_o]
  · simp (disch := omega) only [Model_nimberOfHeaps_c4, wc, wn, e, ↓reduceIte, jw_id, jlt_T, jlt_F, jle_T, jle_F, jeq_T, jeq_F, and_self, and_true, true_and, and_false, false_and, or_true, true_or, or_false, false_or, not_true_eq_false, not_false_eq_true, jbs, jup_s, jup_k, jup_o]
theorem rn_loop (hM : MOK M) (hH : Hd σ a c) (hb : beans c ≤ 22) (hN : ∀ g : Nat, g < 13 → σ 11 g = (nim M g : Int)) : ∀ (n fu acc : Nat) (h : Int), n + h = 13 → n ≤ 12 → n < fu → acc < 2 ^ 4 → Model_nimberOfHeaps_c4 F a fu acc h σ = some (((acc ^^^ xr M c n : Nat) : Int), σ) := by
  intro n
  induction n with
  | zero =>
    intro fu acc h e1 e2 e3 e4
    obtain ⟨fu, rfl⟩ : ∃ k, fu = k + 1 := ⟨fu - 1, by omega⟩
    rw [xr, Nat.xor_zero]
    simp (disch := omega) only [Model_nimberOfHeaps_c4, ↓reduceIte, jw_id, jlt_T, jlt_F, jle_T, jle_F, jeq_T, jeq_F, and_self, and_true, true_and, and_false, false_and, or_true, true_or, or_false, false_or, not_true_eq_false, not_false_eq_true, jbs, jup_s, jup_k, jup_o]
  | succ n ih =>
    intro fu acc h e1 e2 e3 e4
    obtain ⟨fu, rfl⟩ : ∃ k, fu = k + 1 := ⟨fu - 1, by omega⟩
    have x1 : ((12 - n : Nat) : Int) = h := by omega
    have w1 := hH (12 - n) (by omega) (by omega)
    have w2 := hN (12 - n) (by omega)
    have cl := count_le (c := c) (h := 12 - n) (by omega) (by omega)
    have n16 := nim_16 hM (h := 12 - n) (by omega)
    rw [x1] at w1 w2
    rw [rn_st (by omega) (by omega) w1 (by omega) (by omega) w2, xr, ← Nat.xor_assoc]
    have t16 : (if c (12 - n) % 2 = 1 then nim M (12 - n) else 0) < 2 ^ 4 := by
      split
      · exact n16
      · decide
    have x16 : acc ^^^ (if c (12 - n) % 2 = 1 then nim M (12 - n) else 0) < 2 ^ 4 := Nat.xor_lt_two_pow e4 t16
    have e5 : (if (c (12 - n) : Int) % 2 = 1 then (nim M (12 - n) : Int) else 0) = ((if c (12 - n) % 2 = 1 then nim M (12 - n) else 0 : Nat) : Int) := by
      by_cases q : c (12 - n) % 2 = 1
      · rw [if_pos q, if_pos (show (c (12 - n) : Int) % 2 = 1 by omega)]
      · rw [if_neg q, if_neg (show ¬ (c (12 - n) : Int) % 2 = 1 by omega)]; rfl
    rw [e5, bq_xor (Nat.lt_of_lt_of_le x16 (by decide))]
    exact ih fu _ (h + 1) (by omega) (by omega) (by omega) x16
theorem rk_nimc (hM : MOK M) (hH : Hd σ a c) (hb : beans c ≤ 22) (hN : ∀ g : Nat, g < 13 → σ 11 g = (nim M g : Int)) (hF : 100 ≤ F) : Model_nimberOfHeaps F a σ = some ((nimc M c : Int), σ) := by
  have l := rn_loop (F := F) (a := a) hM hH hb hN 12 F 0 1 (by omega) (by omega) (by omega) (by decide)
  rw [Nat.zero_xor, ← nimc_eq] at l
  exact l
noncomputable def smn (M : Nat → List Nat) (c : Nat → Nat) (n : Nat) : Bool := match n with
  | 0 => true
  | n + 1 => (decide (c (12 - n) = 0) || decide (nim M (12 - n) < 2)) && smn M c n
theorem smn_iff : ∀ n, n ≤ 12 → (smn M c n = true ↔ ∀ h, 12 - n < h → h ≤ 12 → 0 < c h → nim M h < 2) := by
  intro n
  induction n with
  | zero => intro _; exact ⟨fun _ h a b => by omega, fun _ => rfl⟩
  | succ n ih =>
    intro hn
    rw [smn, Bool.and_eq_true, ih (by omega), Bool.or_eq_true, decide_eq_true_iff, decide_eq_true_iff]
    constructor
    · intro ⟨q1, q2⟩ h a b d
      by_cases e : h = 12 - n
      · subst e
        rcases q1 with q1 | q1
        · omega
        · exact q1
      · exact q2 h (by omega) b d
    · intro q
      refine ⟨?_, fun h a b d => q h (by omega) b d⟩
      by_cases z : c (12 - n) = 0
      · exact Or.inl z
      · exact Or.inr (q (12 - n) (by omega) (by omega) (by omega))
theorem smn_smh : smn M c 12 = smh M c := by
  rw [Bool.eq_iff_iff, smn_iff 12 (Nat.le_refl _), smh, List.all_eq_true]
  constructor
  · intro q h hh
    obtain ⟨⟨a, b⟩, d⟩ := dh_mem.mp hh
    exact decide_eq_true (q h (by omega) b d)
  · intro q h a b d
    exact of_decide_eq_true (q h (dh_mem.mpr ⟨⟨by omega, b⟩, d⟩))
theorem rl_loop (hM : MOK M) (hH : Hd σ a c) (hb : beans c ≤ 22) (hN : ∀ g : Nat, g < 13 → σ 11 g = (nim M g : Int)) {p : Int} : ∀ (n fu : Nat) (w : Bool) (h : Int), n + h = 13 → n ≤ 12 → n < fu → ∃ g, Model_isLikeNim_c5 F a fu p (if w then 1 else 0) h σ = Model_isLikeNim_c5 F a (g + 1) p (if w && smn M c n then 1 else 0) 13 σ := by
  intro n
  induction n with
  | zero =>
    intro fu w h e1 e2 e3
    obtain ⟨fu, rfl⟩ : ∃ k, fu = k + 1 := ⟨fu - 1, by omega⟩
    refine ⟨fu, ?_⟩
    rw [smn, Bool.and_true, show h = 13 by omega]
  | succ n ih =>
    intro fu w h e1 e2 e3
    obtain ⟨fu, rfl⟩ : ∃ k, fu = k + 1 := ⟨fu - 1, by omega⟩
    have x1 : ((12 - n : Nat) : Int) = h := by omega
    have w1 := hH (12 - n) (by omega) (by omega)
    have w2 := hN (12 - n) (by omega)
    have cl := count_le (c := c) (h := 12 - n) (by omega) (by omega)
    have n16 := nim_le hM (12 - n) (by omega)
    rw [x1] at w1 w2
    generalize hy : c (12 - n) = y at w1 cl
    generalize hx : nim M (12 - n) = x at w2 n16
    obtain ⟨g, i1⟩ := ih fu (w && (decide (y = 0) || decide (x < 2))) (h + 1) (by omega) (by omega) (by omega)
    refine ⟨g, ?_⟩
    rw [smn, hy, hx, ← Bool.and_assoc, ← i1]
    cases w
    · simp only [Bool.false_and, Bool.false_eq_true, if_false]
      simp (disch := omega) only [Model_isLikeNim_c5, ↓reduceIte, jw_id, jlt_T, jlt_F, jle_T, jle_F, jeq_T, jeq_F, and_self, and_true, true_and, and_false, false_and, or_true, true_or, or_false, false_or, not_true_eq_false, not_false_eq_true, jbs, jup_s, jup_k, jup_o]
    · simp only [Bool.true_and, if_true]
      by_cases z : y = 0
      · rw [decide_eq_true z, Bool.true_or, if_pos rfl]
        simp (disch := omega) only [Model_isLikeNim_c5, w1, ↓reduceIte, jw_id, jlt_T, jlt_F, jle_T, jle_F, jeq_T, jeq_F, and_self, and_true, true_and, and_false, false_and, or_true, true_or, or_false, false_or, not_true_eq_false, not_false_eq_true, jbs, jup_s, jup_k, jup_o]
      · by_cases z2 : x < 2
        · rw [decide_eq_true z2, Bool.or_true, if_pos rfl]
          simp (disch := omega) only [Model_isLikeNim_c5, w1, w2, ↓reduceIte, jw_id, jlt_T, jlt_F, jle_T, jle_F, jeq_T, jeq_F, and_self, and_true, true_and, and_false, false_and, or_true, true_or, or_false, false_or, not_true_eq_false, not_false_eq_true, jbs, jup_s, jup_k, jup_o]
        · rw [decide_eq_false z, decide_eq_false z2, Bool.or_false, if_neg (by decide)]
          simp (disch := omega) only [Model_isLikeNim_c5, w1, w2, ↓reduceIte, jw_id, jlt_T, jlt_F, jle_T, jle_F, jeq_T, jeq_F, and_self, and_true, true_and, and_false, false_and, or_true, true_or, or_false, false_or, not_true_eq_false, not_false_eq_true, jbs, jup_s, jup_k, jup_o]
theorem rl_66 {n t : Nat} {l t' : Int} {lo : Bool} (et : t' = (t : Int)) (n16 : n < 16) (t16 : t < 2) (w0 : lo = false → l = 0) (w1 : lo = true → l = 1) : Model_isLikeNim_c66 F a t' n l σ = some (if (lo == decide (n = t)) then 1 else 0, σ) := by
  have wn : jw (n : Int) = (n : Int) := jw_id (by omega) (by omega)
  have wt : jw (t : Int) = (t : Int) := jw_id (by omega) (by omega)
  rw [Model_isLikeNim_c66, et, wn, wt]
  by_cases z : n = t
  · rw [if_pos (show (n : Int) = (t : Int) by omega), decide_eq_true z]
    cases lo
    · rw [w0 rfl]; rfl
    · rw [w1 rfl]; rfl
  · rw [if_neg (show ¬ (n : Int) = (t : Int) by omega), decide_eq_false z]
    cases lo
    · rw [w0 rfl]; rfl
    · rw [w1 rfl]; rfl
theorem rl_fin {g n : Nat} {p : Int} {lo s : Bool} (n16 : n < 16) (p0 : 0 ≤ p) (p1 : p < 4224) (nm : Model_nimberOfHeaps F a σ = some ((n : Int), σ)) (w0 : lo = false → σ 15 p = 0) (w1 : lo = true → σ 15 p = 1) : Model_isLikeNim_c5 F a (g + 1) p (if s then 1 else 0) 13 σ = some (if (lo == decide (n = if s then 1 else 0)) then 1 else 0, σ) := by
  rw [Model_isLikeNim_c5, if_pos (show 12 < jw 13 by decide), if_pos (show 0 ≤ p ∧ p < 4600 by omega), nm, jbs]
  cases s
  · dsimp only
    rw [if_pos (show jw (if false = true then 1 else 0) = 0 from rfl), if_neg (show ¬ false = true by decide)]
    exact rl_66 (t := 0) rfl n16 (by omega) w0 w1
  · dsimp only
    rw [if_neg (show ¬ jw (if true = true then 1 else 0) = 0 by decide), if_pos (show true = true from rfl)]
    exact rl_66 (t := 1) rfl n16 (by omega) w0 w1
theorem rk_like (hM : MOK M) (hH : Hd σ a c) (hb : beans c ≤ 22) (hN : ∀ g : Nat, g < 13 → σ 11 g = (nim M g : Int)) (hV : VT σ M 4224) (hF : 100 ≤ F) : Model_isLikeNim F a σ (rank c) = some (if lkn M c then 1 else 0, σ) := by
  have rt := rank_top hb
  have w := (hV _ rt).1
  obtain ⟨g, l⟩ := rl_loop (F := F) (a := a) (p := rank c) hM hH hb hN 12 F true 1 (by omega) (by omega) (by omega)
  rw [smn_smh, Bool.true_and] at l
  have n16 := nimc_lt hM c
  have nm := rk_nimc (F := F) (a := a) hM hH hb hN hF
  have st : Model_isLikeNim F a σ (rank c) = Model_isLikeNim_c5 F a (g + 1) (rank c) (if smh M c then 1 else 0) 13 σ := l
  rw [st, lkn]
  exact rl_fin n16 (by omega) (by omega) nm (fun e => by rw [w, e]; rfl) (fun e => by rw [w, e]; rfl)
theorem rb_gen {p k : Nat} (hB : BT σ M (6 * 4224)) (hp : p < 4224) (hk : k < 3) : Model_genusOf F σ p k = some ((bk M p ([0, 3, 5].getD k 0) : Int), σ) := by
  have b0 := hB (6 * p + 0) (by omega)
  have b3 := hB (6 * p + 3) (by omega)
  have b5 := hB (6 * p + 5) (by omega)
  rw [show ((6 * p + 0 : Nat) : Int) = 6 * (p : Int) + 0 by omega] at b0
  rw [show ((6 * p + 3 : Nat) : Int) = 6 * (p : Int) + 3 by omega] at b3
  rw [show ((6 * p + 5 : Nat) : Int) = 6 * (p : Int) + 5 by omega] at b5
  rcases (show k = 0 ∨ k = 1 ∨ k = 2 by omega) with e | e | e
  · subst e
    simp (disch := omega) only [Model_genusOf, b0, ↓reduceIte, jw_id, jlt_T, jlt_F, jle_T, jle_F, jeq_T, jeq_F, and_self, and_true, true_and, and_false, false_and, or_true, true_or, or_false, false_or, not_true_eq_false, not_false_eq_true, jbs, jup_s, jup_k, jup_o]
    rfl
  · subst e
    simp (disch := omega) only [Model_genusOf, b3, ↓reduceIte, jw_id, jlt_T, jlt_F, jle_T, jle_F, jeq_T, jeq_F, and_self, and_true, true_and, and_false, false_and, or_true, true_or, or_false, false_or, not_true_eq_false, not_false_eq_true, jbs, jup_s, jup_k, jup_o]
    rfl
  · subst e
    simp (disch := omega) only [Model_genusOf, b5, ↓reduceIte, jw_id, jlt_T, jlt_F, jle_T, jle_F, jeq_T, jeq_F, and_self, and_true, true_and, and_false, false_and, or_true, true_or, or_false, false_or, not_true_eq_false, not_false_eq_true, jbs, jup_s, jup_k, jup_o]
    rfl
set_option maxHeartbeats 1000000 in
theorem rt_fin {n a b d x : Int} (n0 : 0 ≤ n) (n1 : n < 16) (a0 : 0 ≤ a) (a1 : a ≤ 27) (b0 : 0 ≤ b) (b1 : b ≤ 27) (d0 : 0 ≤ d) (d1 : d ≤ 27) (x0 : n = 0 → x = 2) (x1 : n = 1 → x = 3) (x2 : 0 ≤ x) (x3 : x < 16) : (if jw a = jw n then if jw b = jw x then if jw d = jw n then some ((1 : Int), σ) else Model_isTame_c42 F n a b d σ else Model_isTame_c42 F n a b d σ else Model_isTame_c42 F n a b d σ) = some (if d = n ∧ b = x ∧ (a = n ∨ (n < 2 ∧ a = 1 - n)) then 1 else 0, σ) := by
  unfold Model_isTame_c42 Model_isTame_c62
  rw [jw_id (x := a) (by omega) (by omega), jw_id (x := n) (by omega) (by omega), jw_id (x := b) (by omega) (by omega), jw_id (x := d) (by omega) (by omega), jw_id (x := x) (by omega) (by omega)]
  repeat' split
  all_goals first | rfl | (exfalso; omega)
theorem rk_tame (hM : MOK M) (hB : BT σ M (6 * 4224)) (hb : beans c ≤ 22) : Model_isTame F σ (rank c) (nimc M c) = some (if tam M c then 1 else 0, σ) := by
  have rt := rank_top hb
  have n16 := nimc_lt hM c
  have g0 := rb_gen (F := F) (k := 0) hB rt (by omega)
  have g1 := rb_gen (F := F) (k := 1) hB rt (by omega)
  have g2 := rb_gen (F := F) (k := 2) hB rt (by omega)
  have c0 := bk_27 hM (rank c) (t := 0) (by omega)
  have c3 := bk_27 hM (rank c) (t := 3) (by omega)
  have c5 := bk_27 hM (rank c) (t := 5) (by omega)
  rw [show [0, 3, 5].getD 0 0 = 0 from rfl] at g0
  rw [show [0, 3, 5].getD 1 0 = 3 from rfl] at g1
  rw [show [0, 3, 5].getD 2 0 = 5 from rfl] at g2
  have g0' : Model_genusOf F σ (rank c) 0 = _ := g0
  have g1' : Model_genusOf F σ (rank c) 1 = _ := g1
  have g2' : Model_genusOf F σ (rank c) 2 = _ := g2
  rw [Model_isTame, g0', jbs, g1', jbs, g2', jbs, tam]
  dsimp only
  generalize bk M (rank c) 0 = a at c0
  generalize bk M (rank c) 3 = b at c3
  generalize bk M (rank c) 5 = d at c5
  generalize nimc M c = n at n16
  have x16 : n ^^^ 2 < 2 ^ 4 := Nat.xor_lt_two_pow n16 (by decide)
  have ex : jxor (n : Int) 2 = ((n ^^^ 2 : Nat) : Int) := bq_xor (b := 2) (Nat.lt_of_lt_of_le x16 (by decide))
  have x0 : n = 0 → n ^^^ 2 = 2 := by intro e; rw [e]; rfl
  have x1 : n = 1 → n ^^^ 2 = 3 := by intro e; rw [e]; rfl
  rw [ex]
  generalize n ^^^ 2 = x at x16 x0 x1
  have fin := rt_fin (F := F) (σ := σ) (n := n) (a := a) (b := b) (d := d) (x := x) (by omega) (by omega) (by omega) (by omega) (by omega) (by omega) (by omega) (by omega) (by omega) (by omega) (by omega) (by omega)
  rw [fin]
  have e : ((d : Int) = n ∧ (b : Int) = x ∧ ((a : Int) = n ∨ ((n : Int) < 2 ∧ (a : Int) = 1 - n))) ↔ (d = n ∧ b = x ∧ (a = n ∨ (n < 2 ∧ a = 1 - n))) := by omega
  by_cases q : d = n ∧ b = x ∧ (a = n ∨ (n < 2 ∧ a = 1 - n))
  · rw [if_pos (e.mpr q), if_pos (decide_eq_true q)]
  · rw [if_neg (fun z => q (e.mp z)), if_neg (show ¬ decide (d = n ∧ b = x ∧ (a = n ∨ (n < 2 ∧ a = 1 - n))) = true by rw [decide_eq_false q]; decide)]
/-- what state answers -/
noncomputable def staA (M : Nat → List Nat) (c : Nat → Nat) (v : Int) : Int :=
  if v = 0 then (if los M (rank c) then 0 else 1) else if v = 1 then (rem M (rank c) : Int) else if v = 2 then (nimc M c : Int) else if v = 3 then (bk M (rank c) 0 : Int) else if v = 4 then (gws M c (ops M c) : Int) else if v = 5 then (if lkn M c then 1 else 0) else if v = 6 then (fw M (rank c) : Int) else if v = 7 then (ms M (rank c) : Int) else if v = 8 then (if tam M c then 1 else 0) else -1
theorem if10 {b : Bool} : (if jw (if b then 1 else 0) = 0 then some ((0 : Int), σ) else some (1, σ)) = some (if b then 1 else 0, σ) := by
  cases b <;> rfl
theorem rq_state {v : Int} (hv : iR v) (hM : MOK M) (hI : RI σ M) (hH : Hd σ 24 c) (hc : okc c) (hb : beans c ≤ 22) (hN : ∀ g : Nat, g < 13 → σ 11 g = (nim M g : Int)) (hB : BT σ M (6 * 4224)) (hF : 1000 ≤ F) : Model_state F σ v = some (staA M c v, σ) := by
  obtain ⟨i1, i2, i3, i4, i5⟩ := hI
  have wv : jw v = v := jw_id hv.1 hv.2
  have rt := rank_top hb
  obtain ⟨v1, v2, v3, v4⟩ := i2 _ rt
  have hn : Model_handNumber F σ = some ((rank c : Int), σ) := by
    rw [Model_handNumber, mo_num i1 hH hb (by omega), jbs]
  have nm := rk_nimc (F := F) (a := 24) hM hH hb hN (by omega)
  have lk := rk_like (F := F) (a := 24) hM hH hb hN i2 (by omega)
  have ta := rk_tame (F := F) hM hB hb
  have gd := rk_good (F := F) ⟨i1, i3, i2, hH⟩ hM hc hb hF
  have g0 := rb_gen (F := F) (k := 0) hB rt (by omega)
  rw [show [0, 3, 5].getD 0 0 = 0 from rfl] at g0
  have g0' : Model_genusOf F σ (rank c) 0 = _ := g0
  have cr : 0 ≤ (rank c : Int) ∧ (rank c : Int) < 4600 := by omega
  rw [Model_state, if_neg i5, wv, mo_isIn hv ⟨by omega, by omega⟩ ⟨by omega, by omega⟩, jbs]
  dsimp only
  unfold staA
  by_cases y : 0 ≤ v ∧ v ≤ 8
  · rw [if_pos y, if_neg (show ¬ jw 1 = 0 by decide), hn, jbs]
    dsimp only
    by_cases e0 : v = 0
    · rw [if_pos e0, if_pos cr, if_pos e0]
      simp only [v1]
      cases los M (rank c) <;> rfl
    rw [if_neg e0, if_neg e0]
    by_cases e1 : v = 1
    · rw [if_pos e1, if_pos cr, v2, if_pos e1]
    rw [if_neg e1, if_neg e1]
    by_cases e2 : v = 2
    · rw [if_pos e2, nm, jbs, if_pos e2]
    rw [if_neg e2, if_neg e2]
    by_cases e3 : v = 3
    · rw [if_pos e3, g0', jbs, if_pos e3]
    rw [if_neg e3, if_neg e3]
    by_cases e4 : v = 4
    · rw [if_pos e4, gd, jbs, if_pos e4]
    rw [if_neg e4, if_neg e4]
    by_cases e5 : v = 5
    · rw [if_pos e5, lk, jbs, if_pos e5]
      exact if10
    rw [if_neg e5, if_neg e5]
    by_cases e6 : v = 6
    · rw [if_pos e6, if_pos cr, v3, if_pos e6]
    rw [if_neg e6, if_neg e6]
    by_cases e7 : v = 7
    · rw [if_pos e7, if_pos cr, v4, if_pos e7]
    rw [if_neg e7, if_neg e7, nm, jbs]
    dsimp only
    rw [ta, jbs, if_pos (show v = 8 by omega)]
    exact if10
  · rw [if_neg y, if_pos (show jw 0 = 0 from rfl), if_neg (by omega), if_neg (by omega), if_neg (by omega), if_neg (by omega), if_neg (by omega), if_neg (by omega), if_neg (by omega), if_neg (by omega), if_neg (by omega)]
noncomputable def genA (M : Nat → List Nat) (c : Nat → Nat) (v : Int) : Int := if 0 ≤ v ∧ v ≤ 2 then (bk M (rank c) ([0, 3, 5].getD v.toNat 0) : Int) else -1
theorem rq_genus {v : Int} (hv : iR v) (hI : RI σ M) (hH : Hd σ 24 c) (hb : beans c ≤ 22) (hB : BT σ M (6 * 4224)) (hF : 1000 ≤ F) : Model_genus F σ v = some (genA M c v, σ) := by
  obtain ⟨i1, i2, i3, i4, i5⟩ := hI
  have wv : jw v = v := jw_id hv.1 hv.2
  have rt := rank_top hb
  have hn : Model_handNumber F σ = some ((rank c : Int), σ) := by
    rw [Model_handNumber, mo_num i1 hH hb (by omega), jbs]
  rw [Model_genus, if_neg i5, wv, mo_isIn hv ⟨by omega, by omega⟩ ⟨by omega, by omega⟩, jbs]
  dsimp only
  unfold genA
  by_cases y : 0 ≤ v ∧ v ≤ 2
  · obtain ⟨k, rfl⟩ : ∃ k : Nat, v = k := ⟨v.toNat, by omega⟩
    rw [if_pos y, if_neg (show ¬ jw 1 = 0 by decide), hn, jbs]
    dsimp only
    rw [rb_gen hB rt (by omega), jbs, if_pos y]
    rfl
  · rw [if_neg y, if_pos (show jw 0 = 0 from rfl), if_neg y]
end RS
