/-! Drawn games: the reference. -/
section DR
variable {F : Nat} {M : Nat → List Nat}
def GWP (a : Nat) (j : Int) : Prop := a = 26 ∨ (a = 0 ∧ j = 44)
theorem rmw_loop {σ : jxS} {c : Nat → Nat} (hm : MvM σ M) (hH : Hd σ 26 c) : ∀ (n fu : Nat) (acc h : Int), n + h = 13 → n ≤ 12 → n < fu → Model_movesOfWalk_c4 F fu acc h σ = some (acc + (smw M c (hsl n) : Int), σ) := by
  intro n
  induction n with
  | zero =>
    intro fu acc h e1 e2 e3
    obtain ⟨fu, rfl⟩ : ∃ k, fu = k + 1 := ⟨fu - 1, by omega⟩
    rw [Model_movesOfWalk_c4, if_pos (show 12 < jw h by rw [jw_id (by omega) (by omega)]; omega), hsl, smw, Int.natCast_zero, Int.add_zero]
  | succ n ih =>
    intro fu acc h e1 e2 e3
    obtain ⟨fu, rfl⟩ : ∃ k, fu = k + 1 := ⟨fu - 1, by omega⟩
    have x1 : ((12 - n : Nat) : Int) = h := by omega
    have w1 := hH (12 - n) (by omega) (by omega)
    have w2 := (hm (12 - n) (by omega) (by omega)).1
    rw [x1] at w1 w2
    have c0 : 0 ≤ h ∧ h < 13 := by omega
    have nx := ih fu (acc + (cwt M c (12 - n) : Int)) (h + 1) (by omega) (by omega) (by omega)
    rw [Model_movesOfWalk_c4, if_neg (show ¬ 12 < jw h by rw [jw_id (by omega) (by omega)]; omega), if_pos c0, if_pos c0, w1, w2, cwt_int, nx, hsl, smw, Int.natCast_add, Int.add_assoc]
theorem rk_movesOf {σ : jxS} {c : Nat → Nat} (hm : MvM σ M) (hH : Hd σ 26 c) (hF : 100 ≤ F) : Model_movesOfWalk F σ = some ((mvt M c : Int), σ) := by
  have lo := rmw_loop (F := F) hm hH 12 F 0 1 (by omega) (by omega) (by omega)
  rw [Int.zero_add, ← mvt_eq] at lo
  exact lo
theorem rgb_loop {σ : jxS} {c : Nat → Nat} {o : Nat × Nat} (hM : MOK M) (hm : MvM σ M) (hH : Hd σ 26 c) (hb : beans c ≤ 22) : ∀ (n fu i : Nat) (h : Int), n + h = 13 → n ≤ 12 → n < fu → i ≤ 20000 → pkw M c (hsl n) i = some o → Model_goesBy_c4 F fu i h σ = some (0, chg σ 26 o.1 ((o.2 / 13 : Nat) : Int) ((o.2 % 13 : Nat) : Int) 1) := by
  intro n
  induction n with
  | zero => intro fu i h e1 e2 e3 e4 e5; cases e5
  | succ n ih =>
    intro fu i h e1 e2 e3 e4 e5
    obtain ⟨fu, rfl⟩ : ∃ k, fu = k + 1 := ⟨fu - 1, by omega⟩
    have x1 : ((12 - n : Nat) : Int) = h := by omega
    have h1 : 1 ≤ 12 - n := by omega
    have h2 : 12 - n ≤ 12 := by omega
    have w1 := hH (12 - n) h1 h2
    obtain ⟨w2, w3⟩ := hm (12 - n) h1 h2
    have cl := cwt_le hM hb h1 h2
    have ml := MOK_len hM h1 h2
    rw [x1] at w1 w2
    have c0 : 0 ≤ h ∧ h < 13 := by omega
    rw [hsl, pkw] at e5
    rw [Model_goesBy_c4, if_pos c0, if_pos c0, w1, w2, cwt_int]
    by_cases z : i < cwt M c (12 - n)
    · obtain ⟨p1, p2⟩ := cwt_pos z
      have r1 : 0 ≤ 64 * h + ((i % (M (12 - n)).length : Nat) : Int) ∧ 64 * h + ((i % (M (12 - n)).length : Nat) : Int) < 832 := by
        have := Nat.mod_lt i p1
        omega
      have kl : i % (M (12 - n)).length < (M (12 - n)).length := Nat.mod_lt _ p1
      have ge : (M (12 - n))[i % (M (12 - n)).length]? = some ((M (12 - n)).getD (i % (M (12 - n)).length) 0) := by
        rw [List.getD_eq_getElem?_getD, List.getElem?_eq_getElem kl]; rfl
      have wk := w3 _ _ ge
      have mo := (hM (12 - n) h1 h2).2 _ (List.mem_of_getElem? ge)
      have m169 : (M (12 - n)).getD (i % (M (12 - n)).length) 0 < 169 := by omega
      have ch := mo_chg (F := F) (a := 26) (σ := σ) (h := h) (e := 1) (m := (M (12 - n)).getD (i % (M (12 - n)).length) 0) (by omega) (by omega) m169
      rw [if_pos z] at e5
      have e6 := Option.some.inj e5
      rw [x1] at wk
      obtain ⟨c1, l0, c2, c3, jr⟩ := cam_n e4 cl ml z p1
      rw [if_pos c1, if_pos c0, l0, if_neg c3, jr, if_pos r1, wk, ch, jbs, ← e6]
      dsimp only
      rw [x1]
    · rw [if_neg z] at e5
      have nx := ih fu (i - cwt M c (12 - n)) (h + 1) (by omega) (by omega) (by omega) (by omega) e5
      rw [show ((i - cwt M c (12 - n) : Nat) : Int) = (i : Int) - (cwt M c (12 - n) : Int) by omega] at nx
      rw [if_neg (show ¬ jw (i : Int) < jw (cwt M c (12 - n) : Int) by rw [jw_id (by omega) (by omega), jw_id (by omega) (by omega)]; omega), if_pos c0, if_pos c0]
      exact nx
theorem jl_rem {a m : Nat} (ha : a < 9223372036854775808) (hm : m < 9223372036854775808) : jlrem (a : Int) (m : Int) = ((a % m : Nat) : Int) := by
  have e1 : jw64 (a : Int) = (a : Int) := by unfold jw64; omega
  have e2 : jw64 (m : Int) = (m : Int) := by unfold jw64; omega
  rw [jlrem, e1, e2]
  exact Int.ofNat_tmod a m
theorem jl_div {a m : Nat} (ha : a < 9223372036854775808) (hm : m < 9223372036854775808) : jldiv (a : Int) (m : Int) = ((a / m : Nat) : Int) := by
  have e1 : jw64 (a : Int) = (a : Int) := by unfold jw64; omega
  have e2 : jw64 (m : Int) = (m : Int) := by unfold jw64; omega
  rw [jldiv, e1, e2]
  exact Int.ofNat_tdiv a m
theorem drw_L {x : Nat} (hx : x < 2147483648) : jlrem (((x : Int) * 1103515245) + 12345) 2147483648 = (drw x : Int) := by
  have h := jl_rem (a := x * 1103515245 + 12345) (m := 2147483648) (by omega) (by omega)
  rw [drw_eq, ← h, Int.natCast_add, Int.natCast_mul]
  rfl
theorem rk_draw {σ : jxS} {x m : Nat} (wx : σ 0 44 = (x : Int)) (hx : x < 2147483648) (m1 : 0 < m) (m2 : m ≤ 20000) : Model_draw F σ m = some (((drw x / 65536 % m : Nat) : Int), jup σ 0 44 (drw x : Int)) := by
  have d := drw_lt x
  have wm : jw (m : Int) = (m : Int) := jw_id (by omega) (by omega)
  have wm2 : ¬ jw64 (m : Int) = 0 := by unfold jw64; omega
  have L := drw_L hx
  generalize drw x = y at d L
  have q1 : jldiv (y : Int) 65536 = ((y / 65536 : Nat) : Int) := jl_div (a := y) (m := 65536) (by omega) (by omega)
  have q2 := jl_rem (a := y / 65536) (m := m) (by omega) (by omega)
  rw [Model_draw, wx, L, wm, if_neg wm2, jup_s, q1, q2]
theorem RG_fr {σ σ' : jxS} (hI : RI σ M) (f : jfr GWP σ σ') : WT σ' ∧ MvM σ' M := by
  obtain ⟨i1, i2, i3, i4, i5⟩ := hI
  exact ⟨WT_fr i1 f (fun j => by simp [GWP]) (fun j => by simp [GWP]), MvM_fr i3 f (fun j => by simp [GWP]) (fun j => by simp [GWP])⟩
theorem rgm_loop {σ0 : jxS} {k48 : Int → Int → Int → Int → Int → jxS → Option jxR} {v1 v2 v3 v4 v5 : Int} (hM : MOK M) (hI : RI σ0 M) (hF : 100 ≤ F) : ∀ (k fu x n : Nat) (c : Nat → Nat) (σ : jxS), okc c → beans c ≤ k → k ≤ 22 → n + k ≤ 22 → k < fu → x < 2147483648 → jfr GWP σ0 σ → Hd σ 26 c → σ 0 44 = (x : Int) → ∃ σ', Model_games_c93 F k48 fu v1 v2 v3 v4 v5 n (mvt M c) σ = Model_games_c133 F k48 v1 v2 v4 v5 ((n + (gam M k x c).2 : Nat) : Int) (if (n + (gam M k x c).2) % 2 = 0 then 1 else 0) v3 σ' ∧ jfr GWP σ0 σ' ∧ σ' 0 44 = ((gam M k x c).1 : Int) := by
  intro k
  induction k with
  | zero =>
    intro fu x n c σ hc hb hk hn hf hx f hH w
    obtain ⟨fu, rfl⟩ : ∃ k, fu = k + 1 := ⟨fu - 1, by omega⟩
    refine ⟨σ, ?_, f, w⟩
    rw [mvt_0 hc (by omega), Model_games_c93, if_neg (show ¬ 0 < jw ((0 : Nat) : Int) by decide), gam, Nat.add_zero, jr2 (by omega) (by omega)]
    by_cases q : n % 2 = 0
    · rw [if_pos q, if_pos (show jw ((n : Int) % 2) = 0 by rw [jw_id (by omega) (by omega)]; omega)]
    · rw [if_neg q, if_neg (show ¬ jw ((n : Int) % 2) = 0 by rw [jw_id (by omega) (by omega)]; omega)]
  | succ k ih =>
    intro fu x n c σ hc hb hk hn hf hx f hH w
    obtain ⟨fu, rfl⟩ : ∃ k, fu = k + 1 := ⟨fu - 1, by omega⟩
    have ml := mvt_le hM (c := c) (by omega)
    by_cases z : mvt M c = 0
    · refine ⟨σ, ?_, f, by rw [gam_z z]; exact w⟩
      rw [gam_z z, z, Model_games_c93, if_neg (show ¬ 0 < jw ((0 : Nat) : Int) by decide), Nat.add_zero, jr2 (by omega) (by omega)]
      by_cases q : n % 2 = 0
      · rw [if_pos q, if_pos (show jw ((n : Int) % 2) = 0 by rw [jw_id (by omega) (by omega)]; omega)]
      · rw [if_neg q, if_neg (show ¬ jw ((n : Int) % 2) = 0 by rw [jw_id (by omega) (by omega)]; omega)]
    · have p0 : 0 < mvt M c := by omega
      have wj : 0 < jw (mvt M c : Int) := by rw [jw_id (by omega) (by omega)]; omega
      have il : drw x / 65536 % mvt M c ≤ 20000 := Nat.le_trans (Nat.le_of_lt (Nat.mod_lt _ p0)) (by omega)
      obtain ⟨o, o1, o2⟩ := pkt_ex (M := M) (c := c) (i := drw x / 65536 % mvt M c) (Nat.mod_lt _ p0)
      obtain ⟨t1, t2⟩ := ops_tgt hM hc o2
      obtain ⟨⟨⟨m1, m2⟩, m3⟩, m4⟩ := ops_mem.mp o2
      have dr := rk_draw (F := F) (σ := σ) w hx p0 (by omega)
      have f1 : jfr GWP σ0 (jup σ 0 44 (drw x : Int)) := jfr_up f (Or.inr ⟨rfl, rfl⟩)
      have hH1 : Hd (jup σ 0 44 (drw x : Int)) 26 c := fun g g1 g2 => by rw [jup_o (by omega)]; exact hH g g1 g2
      have gb := rgb_loop (F := F) (σ := jup σ 0 44 (drw x : Int)) (o := o) hM (RG_fr hI f1).2 hH1 (by omega) 12 F (drw x / 65536 % mvt M c) 1 (by omega) (by omega) (by omega) il o1
      have hd2 := chg_Hd (m := o.2) hH1 m1 m2 m3
      have f2 : jfr GWP σ0 (chg (jup σ 0 44 (drw x : Int)) 26 o.1 ((o.2 / 13 : Nat) : Int) ((o.2 % 13 : Nat) : Int) 1) := jfr_trans f1 (jfr_ag (chg_ag _ _ _ _ _ _) (fun a j h => by simp only [List.mem_singleton] at h; exact Or.inl h))
      have w2 : (chg (jup σ 0 44 (drw x : Int)) 26 o.1 ((o.2 / 13 : Nat) : Int) ((o.2 % 13 : Nat) : Int) 1) 0 44 = (drw x : Int) := by
        rw [chg_ag (jup σ 0 44 (drw x : Int)) 26 o.1 _ _ 1 0 (by simp), jup_s]
      have mo := rk_movesOf (F := F) (RG_fr hI f2).2 hd2 hF
      obtain ⟨σ3, d1, d2, d3⟩ := ih fu (drw x) (n + 1) (tgt c o.1 o.2) _ t1 (by omega) (by omega) (by omega) (by omega) (drw_lt x) f2 hd2 w2
      refine ⟨σ3, ?_, d2, by rw [gam_s z o1]; exact d3⟩
      have gb' : Model_goesBy F (jup σ 0 44 (drw x : Int)) ((drw x / 65536 % mvt M c : Nat) : Int) = _ := gb
      rw [Model_games_c93, if_pos wj, dr, jbs]
      dsimp only
      rw [gb', jbs]
      dsimp only
      rw [mo, jbs, gam_s z o1]
      dsimp only
      rw [show n + ((gam M k (drw x) (tgt c o.1 o.2)).2 + 1) = n + 1 + (gam M k (drw x) (tgt c o.1 o.2)).2 by omega]
      exact d1
theorem rgc_copy {σ0 : jxS} {k48 : Int → Int → Int → Int → Int → jxS → Option jxR} {v1 v2 v3 v4 v5 : Int} : ∀ (n fu : Nat) (j : Int) (σ : jxS), n + j = 13 → 0 ≤ j → n < fu → jfr P26 σ0 σ → (∀ i : Int, 0 ≤ i → i < j → σ 26 i = σ0 24 i) → ∃ σ', Model_games_c57 F k48 fu v1 v2 v3 v4 v5 j σ = (Model_movesOfWalk F σ').bind (fun r88 => Model_games_c93 F k48 F v1 v2 v3 v4 v5 0 r88.1 r88.2) ∧ jfr P26 σ0 σ' ∧ ∀ i : Int, 0 ≤ i → i < 13 → σ' 26 i = σ0 24 i := by
  intro n
  induction n with
  | zero =>
    intro fu j σ e1 e2 e3 f h
    obtain ⟨fu, rfl⟩ : ∃ k, fu = k + 1 := ⟨fu - 1, by omega⟩
    refine ⟨σ, ?_, f, fun i a b => h i a (by omega)⟩
    simp (disch := omega) only [Model_games_c57, ↓reduceIte, jw_id, jlt_T, jlt_F, jle_T, jle_F, jeq_T, jeq_F, and_self, and_true, true_and, and_false, false_and, or_true, true_or, or_false, false_or, not_true_eq_false, not_false_eq_true, jbs, jup_s, jup_k, jup_o]
  | succ n ih =>
    intro fu j σ e1 e2 e3 f h
    obtain ⟨fu, rfl⟩ : ∃ k, fu = k + 1 := ⟨fu - 1, by omega⟩
    have w : σ 24 j = σ0 24 j := f 24 j (by simp only [P26]; omega)
    obtain ⟨σ', i1, i2, i3⟩ := ih fu (j + 1) (jup σ 26 j (σ0 24 j)) (by omega) (by omega) (by omega) (jfr_up f rfl) (fun i a b => by
      by_cases e : i = j
      · rw [e, jup_s]
      · rw [jup_k e]; exact h i a (by omega))
    refine ⟨σ', ?_, i2, i3⟩
    simp (disch := omega) only [Model_games_c57, w, ↓reduceIte, jw_id, jlt_T, jlt_F, jle_T, jle_F, jeq_T, jeq_F, and_self, and_true, true_and, and_false, false_and, or_true, true_or, or_false, false_or, not_true_eq_false, not_false_eq_true, jbs, jup_s, jup_k, jup_o]
    exact i1
theorem rdr_loop {m : Nat} {v2 : Int} {c : Nat → Nat} {σ0 : jxS} (hM : MOK M) (hI : RI σ0 M) (hH : Hd σ0 24 c) (hc : okc c) (hb : beans c ≤ 22) (hm : m ≤ 20) (hv : v2 = 0 ∨ v2 = 1) (hF : 100 ≤ F) : ∀ (n fu i x won gone : Nat) (σ : jxS), i + n = m → n < fu → x < 2147483648 → jfr GWP σ0 σ → σ 0 44 = (x : Int) → ∃ σ', Model_games_c48 F fu m v2 won gone i σ = some (if v2 = 0 then ((gmo M c n x won gone).1 : Int) else ((gmo M c n x won gone).2 : Int), σ') ∧ jfr GWP σ0 σ' := by
  intro n
  induction n with
  | zero =>
    intro fu i x won gone σ e1 e2 hx f w
    obtain ⟨fu, rfl⟩ : ∃ k, fu = k + 1 := ⟨fu - 1, by omega⟩
    refine ⟨σ, ?_, f⟩
    rw [Model_games_c48, if_neg (show ¬ jw (i : Int) < jw (m : Int) by rw [jw_id (by omega) (by omega), jw_id (by omega) (by omega)]; omega), gmo]
    rcases hv with rfl | rfl
    · rfl
    · rfl
  | succ n ih =>
    intro fu i x won gone σ e1 e2 hx f w
    obtain ⟨fu, rfl⟩ : ∃ k, fu = k + 1 := ⟨fu - 1, by omega⟩
    obtain ⟨g1, g2⟩ := gam_b (M := M) 22 x c hx
    obtain ⟨σ1, a1, a2, a3⟩ := rgc_copy (F := F) (σ0 := σ) (k48 := Model_games_c48 F fu) (v1 := m) (v2 := v2) (v3 := won) (v4 := gone) (v5 := i) 13 F 0 σ (by omega) (by omega) (by omega) (jfr_refl _ _) (fun i a b => by omega)
    have f1 : jfr GWP σ0 σ1 := jfr_trans f (jfr_mono a2 (fun a j h => Or.inl h))
    have hd1 : Hd σ1 26 c := fun g q1 q2 => by
      rw [a3 g (by omega) (by omega), f 24 _ (by simp [GWP])]
      exact hH g q1 q2
    have w1 : σ1 0 44 = (x : Int) := by rw [a2 0 44 (by simp [P26])]; exact w
    have mo := rk_movesOf (F := F) (RG_fr hI f1).2 hd1 hF
    obtain ⟨σ2, b1, b2, b3⟩ := rgm_loop (F := F) (σ0 := σ0) (k48 := Model_games_c48 F fu) (v1 := m) (v2 := v2) (v3 := won) (v4 := gone) (v5 := i) hM hI hF 22 F x 0 c σ1 hc hb (by omega) (by omega) (by omega) hx f1 hd1 w1
    have b1' : Model_games_c93 F (Model_games_c48 F fu) F m v2 won gone i 0 (mvt M c) σ1 = _ := b1
    rw [Model_games_c48, if_pos (show jw (i : Int) < jw (m : Int) by rw [jw_id (by omega) (by omega), jw_id (by omega) (by omega)]; omega), a1, mo, jbs]
    dsimp only
    rw [b1', gmo]
    generalize gam M 22 x c = r at g1 g2 b3
    obtain ⟨σ3, d1, d2⟩ := ih fu (i + 1) r.1 (won + (if r.2 % 2 = 0 then 1 else 0)) (gone + r.2) σ2 (by omega) (by omega) g1 b2 b3
    refine ⟨σ3, ?_, d2⟩
    rw [Model_games_c133, Nat.zero_add, ← d1]
    rw [show ((gone + r.2 : Nat) : Int) = (gone : Int) + (r.2 : Int) from Int.natCast_add _ _, show ((i + 1 : Nat) : Int) = (i : Int) + 1 by omega]
    by_cases q : r.2 % 2 = 0
    · rw [if_pos q, if_pos q]; rfl
    · rw [if_neg q, if_neg q]; rfl
theorem rq_games {σ : jxS} {c : Nat → Nat} {v1 v2 : Int} {x : Nat} (h1 : iR v1) (h2 : iR v2) (hM : MOK M) (hI : RI σ M) (hH : Hd σ 24 c) (hc : okc c) (hb : beans c ≤ 22) (wx : σ 0 43 = (x : Int)) (hx : x < 2147483648) (hF : 100 ≤ F) : ∃ σ', Model_games F σ v1 v2 = some (gamA M c x v1 v2, σ') ∧ jfr GWP σ σ' := by
  have w1 : jw v1 = v1 := jw_id h1.1 h1.2
  have w2 : jw v2 = v2 := jw_id h2.1 h2.2
  have wj : jw (x : Int) = (x : Int) := jw_id (by omega) (by omega)
  rw [Model_games, if_neg hI.2.2.2.2, w1, w2, mo_isIn h1 ⟨by omega, by omega⟩ ⟨by omega, by omega⟩, jbs, gamA]
  dsimp only
  by_cases y : 1 ≤ v1 ∧ v1 ≤ 20
  · rw [if_pos y, if_neg (show ¬ jw 1 = 0 by decide), mo_isIn h2 ⟨by omega, by omega⟩ ⟨by omega, by omega⟩, jbs]
    dsimp only
    by_cases z : 0 ≤ v2 ∧ v2 ≤ 1
    · obtain ⟨m, rfl⟩ : ∃ k : Nat, v1 = k := ⟨v1.toNat, by omega⟩
      have f1 : jfr GWP σ (jup σ 0 44 (x : Int)) := jfr_up (jfr_refl _ _) (Or.inr ⟨rfl, rfl⟩)
      obtain ⟨σ2, b1, b2⟩ := rdr_loop (F := F) (m := m) (v2 := v2) (c := c) (σ0 := σ) hM hI hH hc hb (by omega) (by omega) hF m F 0 x 0 0 (jup σ 0 44 (x : Int)) (by omega) (by omega) hx f1 (jup_s _ _ _ _)
      have b1' : Model_games_c48 F F m v2 0 0 0 (jup σ 0 44 (x : Int)) = _ := b1
      rw [if_pos z, if_neg (show ¬ jw 1 = 0 by decide), wx, wj, b1', if_pos (show (1 ≤ (m : Int) ∧ (m : Int) ≤ 20) ∧ (0 ≤ v2 ∧ v2 ≤ 1) from ⟨y, z⟩), Int.toNat_natCast]
      exact ⟨σ2, rfl, b2⟩
    · rw [if_neg z, if_pos (show jw 0 = 0 from rfl), if_neg (fun q => z q.2)]
      exact ⟨σ, rfl, jfr_refl _ _⟩
  · rw [if_neg y, if_pos (show jw 0 = 0 from rfl), if_neg (fun q => y q.1)]
    exact ⟨σ, rfl, jfr_refl _ _⟩
end DR
