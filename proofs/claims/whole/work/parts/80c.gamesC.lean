/-! the class's games -/
section DG
variable {F : Nat} {σ : jxS} {M : Nat → List Nat} {c : Nat → Nat}
theorem cgm_loop {k12 : Int → Int → Int → Int → Int → Int → jxS → Option jxR} {v1 v2 v5 v7 v9 : Int} (hM : MOK M) (hP : PosOK σ) (hR : RulC σ M) (hF : 100 ≤ F) : ∀ (k fu x : Nat) (c : Nat → Nat) (v6 : Int), okc c → beans c ≤ k → k ≤ 22 → k < fu → Board_drawGames_c49 F k12 fu v1 v2 x v5 v6 v7 (rank c) v9 (mvt M c) ((22 - k : Nat) : Int) σ = Board_drawGames_c108 F k12 v1 v2 ((gam M k x c).1 : Int) v5 (v6 + ((gam M k x c).2 : Int)) v7 v9 σ := by
  intro k
  induction k with
  | zero =>
    intro fu x c v6 hc hb hk hf
    obtain ⟨fu, rfl⟩ : ∃ k, fu = k + 1 := ⟨fu - 1, by omega⟩
    rw [Board_drawGames_c49, if_neg (show ¬ jw ((22 - 0 : Nat) : Int) < 22 by decide), gam, Int.natCast_zero, Int.add_zero]
  | succ k ih =>
    intro fu x c v6 hc hb hk hf
    obtain ⟨fu, rfl⟩ : ∃ k, fu = k + 1 := ⟨fu - 1, by omega⟩
    have ml := mvt_le hM (c := c) (by omega)
    rw [Board_drawGames_c49, if_pos (show jw ((22 - (k + 1) : Nat) : Int) < 22 by rw [jw_id (by omega) (by omega)]; omega)]
    by_cases z : mvt M c = 0
    · rw [gam_z z, if_neg (show ¬ 0 < jw (mvt M c : Int) by rw [z]; decide), Int.natCast_zero, Int.add_zero]
    · obtain ⟨o, o1, o2⟩ := pkt_ex (M := M) (c := c) (i := drw x / 65536 % mvt M c) (Nat.mod_lt _ (by omega))
      obtain ⟨t1, t2⟩ := ops_tgt hM hc o2
      have wj : jw (mvt M c : Int) = (mvt M c : Int) := jw_id (by omega) (by omega)
      have il : drw x / 65536 % mvt M c ≤ 20000 := by
        have := Nat.mod_lt (drw x / 65536) (show 0 < mvt M c by omega)
        omega
      have af := ca_after (F := F) (σ := σ) hM hP hR hc (by omega) il o1 hF
      have mo := ca_movesOf (F := F) (σ := σ) (c := tgt c o.1 o.2) hM hP hR t1 (by omega) hF
      have nx := ih fu (drw x) (tgt c o.1 o.2) (v6 + 1) t1 (by omega) (by omega) (by omega)
      rw [show ((22 - k : Nat) : Int) = ((22 - (k + 1) : Nat) : Int) + 1 by omega] at nx
      rw [wj, if_pos (show 0 < (mvt M c : Int) by omega), if_neg (show ¬ (mvt M c : Int) = 0 by omega), bq_m31, drw_int, drw_ix (by omega), af, jbs]
      dsimp only
      rw [mo, jbs]
      dsimp only
      rw [nx, gam_s z o1, Int.natCast_add, Int.natCast_one, show v6 + 1 + ((gam M k (drw x) (tgt c o.1 o.2)).2 : Int) = v6 + (((gam M k (drw x) (tgt c o.1 o.2)).2 : Int) + 1) by omega]
noncomputable def gmo (M : Nat → List Nat) (c : Nat → Nat) (n x won gone : Nat) : Nat × Nat := match n with
  | 0 => (won, gone)
  | n + 1 => gmo M c n (gam M 22 x c).1 (won + (if (gam M 22 x c).2 % 2 = 0 then 1 else 0)) (gone + (gam M 22 x c).2)
theorem cdr_loop {m : Nat} {v2 : Int} (hM : MOK M) (hP : PosOK σ) (hR : RulC σ M) (hh : σ 29 2 = (rank c : Int)) (hc : okc c) (hb : beans c ≤ 22) (hm : m ≤ 20) (hv : v2 = 0 ∨ v2 = 1) (hF : 100 ≤ F) : ∀ (n fu i x won gone : Nat), i + n = m → n < fu → x < 2147483648 → Board_drawGames_c12 F fu m v2 x won gone i σ = some (if v2 = 0 then ((gmo M c n x won gone).1 : Int) else ((gmo M c n x won gone).2 : Int), σ) := by
  intro n
  induction n with
  | zero =>
    intro fu i x won gone e1 e2 hx
    obtain ⟨fu, rfl⟩ : ∃ k, fu = k + 1 := ⟨fu - 1, by omega⟩
    rw [Board_drawGames_c12, if_neg (show ¬ jw (i : Int) < jw (m : Int) by rw [jw_id (by omega) (by omega), jw_id (by omega) (by omega)]; omega), Board_drawGames_c127, gmo]
    rcases hv with rfl | rfl
    · rfl
    · rfl
  | succ n ih =>
    intro fu i x won gone e1 e2 hx
    obtain ⟨fu, rfl⟩ : ∃ k, fu = k + 1 := ⟨fu - 1, by omega⟩
    obtain ⟨g1, g2⟩ := gam_b (M := M) 22 x c hx
    have mo := ca_movesOf (F := F) (σ := σ) (c := c) hM hP hR hc hb hF
    have lo := cgm_loop (F := F) (σ := σ) (k12 := Board_drawGames_c12 F fu) (v1 := m) (v2 := v2) (v5 := won) (v7 := i) (v9 := gone) hM hP hR hF 22 F x c gone hc hb (by omega) (by omega)
    have lo' : Board_drawGames_c49 F (Board_drawGames_c12 F fu) F m v2 x won gone i (rank c) gone (mvt M c) 0 σ = _ := lo
    rw [Board_drawGames_c12, if_pos (show jw (i : Int) < jw (m : Int) by rw [jw_id (by omega) (by omega), jw_id (by omega) (by omega)]; omega), if_pos (show jw (i : Int) < 20 by rw [jw_id (by omega) (by omega)]; omega), Hand_position, jbs]
    dsimp only
    rw [hh, mo, jbs]
    dsimp only
    rw [lo', gmo]
    generalize gam M 22 x c = r at g1 g2
    have nx := ih fu (i + 1) r.1 (won + (if r.2 % 2 = 0 then 1 else 0)) (gone + r.2) (by omega) (by omega) g1
    rw [Board_drawGames_c108, show (gone : Int) + (r.2 : Int) - gone = (r.2 : Int) by omega, jr2 (by omega) (by omega)]
    rw [show ((gone + r.2 : Nat) : Int) = (gone : Int) + (r.2 : Int) from Int.natCast_add _ _, show ((i + 1 : Nat) : Int) = (i : Int) + 1 by omega] at nx
    by_cases q : r.2 % 2 = 0
    · rw [if_pos q] at nx ⊢
      rw [if_pos (show jw ((r.2 : Int) % 2) = 0 by rw [jw_id (by omega) (by omega)]; omega)]
      exact nx
    · rw [if_neg q] at nx ⊢
      rw [if_neg (show ¬ jw ((r.2 : Int) % 2) = 0 by rw [jw_id (by omega) (by omega)]; omega)]
      exact nx
noncomputable def gamA (M : Nat → List Nat) (c : Nat → Nat) (x : Nat) (v1 v2 : Int) : Int := if (1 ≤ v1 ∧ v1 ≤ 20) ∧ (0 ≤ v2 ∧ v2 ≤ 1) then (if v2 = 0 then ((gmo M c v1.toNat x 0 0).1 : Int) else ((gmo M c v1.toNat x 0 0).2 : Int)) else -1
theorem lq_games {v1 v2 : Int} {x : Nat} (h1 : iR v1) (h2 : iR v2) (hM : MOK M) (hP : PosOK σ) (hR : RulC σ M) (hh : σ 29 2 = (rank c : Int)) (hc : okc c) (hb : beans c ≤ 22) (wx : σ 0 3 = (x : Int)) (hx : x < 2147483648) (hF : 100 ≤ F) : LL1_games F σ v1 v2 = some (gamA M c x v1 v2, σ) := by
  have w1 : jw v1 = v1 := jw_id h1.1 h1.2
  have w2 : jw v2 = v2 := jw_id h2.1 h2.2
  rw [LL1_games, w1, w2, gamA, wx]
  by_cases y : v1 < 1
  · rw [if_pos y, if_neg (fun q => by omega)]
  by_cases y2 : 20 < v1
  · rw [if_neg y, if_pos y2, if_neg (fun q => by omega)]
  by_cases y3 : v2 < 0
  · rw [if_neg y, if_neg y2, if_pos y3, if_neg (fun q => by omega)]
  by_cases y4 : 1 < v2
  · rw [if_neg y, if_neg y2, if_neg y3, if_pos y4, if_neg (fun q => by omega)]
  obtain ⟨m, rfl⟩ : ∃ k : Nat, v1 = k := ⟨v1.toNat, by omega⟩
  have lo := cdr_loop (F := F) (σ := σ) (m := m) (v2 := v2) hM hP hR hh hc hb (by omega) (by omega) hF m F 0 x 0 0 (by omega) (by omega) hx
  have lo' : Board_drawGames F σ m v2 x = _ := lo
  rw [if_neg y, if_neg y2, if_neg y3, if_neg y4, lo', jbs, if_pos (show (1 ≤ (m : Int) ∧ (m : Int) ≤ 20) ∧ (0 ≤ v2 ∧ v2 ≤ 1) by omega), Int.toNat_natCast]
end DG
