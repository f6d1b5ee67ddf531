/-! The first odd one, the first wild one: both sides. -/
section OD
variable {F : Nat} {M : Nat → List Nat}
noncomputable def ffo (f : Nat → Bool) (n p : Nat) : Int := match n with
  | 0 => -1
  | n + 1 => if f p then ffo f n (p + 1) else (p : Int)
theorem ffo_b (f : Nat → Bool) : ∀ (n p : Nat), ffo f n p = -1 ∨ ∃ q : Nat, q < p + n ∧ ffo f n p = (q : Int) := by
  intro n
  induction n with
  | zero => intro p; exact Or.inl rfl
  | succ n ih =>
    intro p
    rw [ffo]
    split
    · rcases ih (p + 1) with h | ⟨q, h, e⟩
      · exact Or.inl h
      · exact Or.inr ⟨q, by omega, e⟩
    · exact Or.inr ⟨p, by omega, rfl⟩
noncomputable def odf (M : Nat → List Nat) (w : Bool) (p : Nat) : Bool := if w then tam M (un p) else lkn M (un p)
noncomputable def oddX (M : Nat → List Nat) (w : Bool) : Int := jseal (ffo (odf M w) 272 0)
theorem oddX_eq (M : Nat → List Nat) (w : Bool) : oddX M w = ffo (odf M w) 272 0 := jseal_eq _
theorem oddX_b (M : Nat → List Nat) (w : Bool) : -1 ≤ oddX M w ∧ oddX M w < 272 := by
  rw [oddX_eq]
  rcases ffo_b (odf M w) 272 0 with h | ⟨q, h, e⟩ <;> omega
def OdC (σ : jxS) (M : Nat → List Nat) : Prop := (σ 9 8 = -2 ∨ σ 9 8 = oddX M false) ∧ (σ 9 9 = -2 ∨ σ 9 9 = oddX M true)
def OWP (x : Int) (a : Nat) (j : Int) : Prop := VP a j ∨ (a = 9 ∧ j = x)
theorem CV_9 {σ : jxS} {k v : Int} (h : CV σ M) : CV (jup σ 9 k v) M := by
  obtain ⟨h1, h2, ⟨o, o1, o2, o3⟩, ⟨g, g1, g2, g3⟩, h5⟩ := h
  have f : jfr (fun a j => a = 9) σ (jup σ 9 k v) := jfr_up (jfr_refl _ _) rfl
  refine ⟨PosOK_fr h1 f (fun a j _ _ => by omega), RulC_fr h2 f (fun j => by omega) (fun j => by omega), ⟨o, ?_, o2, fun p hp => ?_⟩, ⟨g, ?_, g2, fun p hp => ?_⟩, fun p hp => ?_⟩
  · rw [f 33 7 (by omega)]; exact o1
  · rw [f 34 _ (by omega)]; exact o3 p hp
  · rw [f 33 8 (by omega)]; exact g1
  · rw [f 35 _ (by omega)]; exact g3 p hp
  · rw [f 37 _ (by omega)]; exact h5 p hp
theorem cod_loop (hM : MOK M) (hF : 5000 ≤ F) : ∀ (n fu p : Nat) (σ : jxS), p + n = 272 → n + 1 < fu → CV σ M → RulN σ M → σ 9 8 = -2 → ∃ σ', Board_firstOdd_c12 F fu 272 p σ = some (ffo (odf M false) n p, σ') ∧ jfr (OWP 8) σ σ' ∧ CV σ' M ∧ σ' 9 8 = ffo (odf M false) n p := by
  intro n
  induction n with
  | zero =>
    intro fu p σ e1 e2 h hN w
    obtain ⟨fu, rfl⟩ : ∃ k, fu = k + 1 := ⟨fu - 1, by omega⟩
    refine ⟨jup σ 9 8 (-1), ?_, jfr_up (jfr_refl _ _) (Or.inr ⟨rfl, rfl⟩), CV_9 h, by rw [jup_s, ffo]⟩
    rw [Board_firstOdd_c12, if_neg (show ¬ jw (p : Int) < jw 272 by rw [jw_id (by omega) (by omega), jw_id (by omega) (by omega)]; omega), Board_firstOdd_c48, if_pos (show jw (σ 9 8) = -2 by rw [w]; rfl)]
    dsimp only
    rw [jup_s, ffo]
  | succ n ih =>
    intro fu p σ e1 e2 h hN w
    obtain ⟨fu, rfl⟩ : ∃ k, fu = k + 1 := ⟨fu - 1, by omega⟩
    obtain ⟨u1, u2, u3⟩ := un_ok (p := p) (by omega)
    obtain ⟨σ1, a1, a2, a3⟩ := ca_like (F := F) (c := un p) hM h hN u1 u2 hF
    rw [u3] at a1
    have w1 : σ1 9 8 = -2 := by rw [a2 9 8 (by simp [VP])]; exact w
    rw [Board_firstOdd_c12, if_pos (show jw (p : Int) < jw 272 by rw [jw_id (by omega) (by omega), jw_id (by omega) (by omega)]; omega), if_pos (show jw (σ 9 8) = -2 by rw [w]; rfl), a1, jbs]
    dsimp only
    rw [ffo, show odf M false p = lkn M (un p) from rfl]
    cases lkn M (un p)
    · rw [if_pos (show jw (if false = true then 1 else 0) = 0 from rfl), if_neg (show ¬ false = true by decide)]
      refine ⟨jup σ1 9 8 p, ?_, jfr_up (jfr_mono a2 (fun a j h => Or.inl h)) (Or.inr ⟨rfl, rfl⟩), CV_9 a3, jup_s _ _ _ _⟩
      obtain ⟨fu, rfl⟩ : ∃ k, fu = k + 1 := ⟨fu - 1, by omega⟩
      have w2 : ¬ jw ((jup σ1 9 8 (p : Int)) 9 8) = -2 := by rw [jup_s, jw_id (by omega) (by omega)]; omega
      rw [Board_firstOdd_c12]
      by_cases z : jw ((p : Int) + 1) < jw 272
      · rw [if_pos z, if_neg w2, Board_firstOdd_c48, if_neg w2, jup_s]
      · rw [if_neg z, Board_firstOdd_c48, if_neg w2, jup_s]
    · rw [if_neg (show ¬ jw (if true = true then 1 else 0) = 0 by decide), if_pos (show true = true from rfl)]
      obtain ⟨σ2, b1, b2, b3, b4⟩ := ih fu (p + 1) σ1 (by omega) (by omega) a3 (RulN_VP hN a2) w1
      exact ⟨σ2, b1, jfr_trans (jfr_mono a2 (fun a j h => Or.inl h)) b2, b3, b4⟩
theorem cwi_loop (hM : MOK M) (hF : 5000 ≤ F) : ∀ (n fu p : Nat) (σ : jxS), p + n = 272 → n + 1 < fu → CV σ M → RulN σ M → σ 9 9 = -2 → ∃ σ', Board_firstWild_c12 F fu 272 p σ = some (ffo (odf M true) n p, σ') ∧ jfr (OWP 9) σ σ' ∧ CV σ' M ∧ σ' 9 9 = ffo (odf M true) n p := by
  intro n
  induction n with
  | zero =>
    intro fu p σ e1 e2 h hN w
    obtain ⟨fu, rfl⟩ : ∃ k, fu = k + 1 := ⟨fu - 1, by omega⟩
    refine ⟨jup σ 9 9 (-1), ?_, jfr_up (jfr_refl _ _) (Or.inr ⟨rfl, rfl⟩), CV_9 h, by rw [jup_s, ffo]⟩
    rw [Board_firstWild_c12, if_neg (show ¬ jw (p : Int) < jw 272 by rw [jw_id (by omega) (by omega), jw_id (by omega) (by omega)]; omega), Board_firstWild_c48, if_pos (show jw (σ 9 9) = -2 by rw [w]; rfl)]
    dsimp only
    rw [jup_s, ffo]
  | succ n ih =>
    intro fu p σ e1 e2 h hN w
    obtain ⟨fu, rfl⟩ : ∃ k, fu = k + 1 := ⟨fu - 1, by omega⟩
    obtain ⟨u1, u2, u3⟩ := un_ok (p := p) (by omega)
    obtain ⟨σ1, a1, a2, a3⟩ := ca_tame (F := F) (c := un p) hM h hN u1 u2 hF
    rw [u3] at a1
    have w1 : σ1 9 9 = -2 := by rw [a2 9 9 (by simp [VP])]; exact w
    rw [Board_firstWild_c12, if_pos (show jw (p : Int) < jw 272 by rw [jw_id (by omega) (by omega), jw_id (by omega) (by omega)]; omega), if_pos (show jw (σ 9 9) = -2 by rw [w]; rfl), a1, jbs]
    dsimp only
    rw [ffo, show odf M true p = tam M (un p) from rfl]
    cases tam M (un p)
    · rw [if_pos (show jw (if false = true then 1 else 0) = 0 from rfl), if_neg (show ¬ false = true by decide)]
      refine ⟨jup σ1 9 9 p, ?_, jfr_up (jfr_mono a2 (fun a j h => Or.inl h)) (Or.inr ⟨rfl, rfl⟩), CV_9 a3, jup_s _ _ _ _⟩
      obtain ⟨fu, rfl⟩ : ∃ k, fu = k + 1 := ⟨fu - 1, by omega⟩
      have w2 : ¬ jw ((jup σ1 9 9 (p : Int)) 9 9) = -2 := by rw [jup_s, jw_id (by omega) (by omega)]; omega
      rw [Board_firstWild_c12]
      by_cases z : jw ((p : Int) + 1) < jw 272
      · rw [if_pos z, if_neg w2, Board_firstWild_c48, if_neg w2, jup_s]
      · rw [if_neg z, Board_firstWild_c48, if_neg w2, jup_s]
    · rw [if_neg (show ¬ jw (if true = true then 1 else 0) = 0 by decide), if_pos (show true = true from rfl)]
      obtain ⟨σ2, b1, b2, b3, b4⟩ := ih fu (p + 1) σ1 (by omega) (by omega) a3 (RulN_VP hN a2) w1
      exact ⟨σ2, b1, jfr_trans (jfr_mono a2 (fun a j h => Or.inl h)) b2, b3, b4⟩
theorem ca_first9 {σ : jxS} (hM : MOK M) (h : CV σ M) (hN : RulN σ M) (hO : OdC σ M) (hF : 5000 ≤ F) : ∃ σ', Board_firstOdd F σ = some (oddX M false, σ') ∧ jfr (OWP 8) σ σ' ∧ CV σ' M ∧ OdC σ' M := by
  have fw13 := po_withN (F := F) h.1 (n := 13) (by omega)
  rw [fo_13] at fw13
  have fw' : Positions_firstWith F σ 13 = some (272, σ) := fw13
  have ob := oddX_b M false
  rw [Board_firstOdd, fw', jbs]
  dsimp only
  rcases hO with ⟨w | w, w9⟩
  · obtain ⟨σ', a1, a2, a3, a4⟩ := cod_loop (F := F) hM hF 272 F 0 σ (by omega) (by omega) h hN w
    rw [← oddX_eq] at a1 a4
    exact ⟨σ', a1, a2, a3, Or.inr a4, by rw [a2 9 9 (by simp [OWP, VP])]; exact w9⟩
  · have w2 : ¬ jw (σ 9 8) = -2 := by rw [w, jw_id (by omega) (by omega)]; omega
    refine ⟨σ, ?_, jfr_refl _ _, h, ⟨Or.inr w, w9⟩⟩
    obtain ⟨F', rfl⟩ : ∃ k, F = k + 1 := ⟨F - 1, by omega⟩
    rw [Board_firstOdd_c12, if_pos (show jw 0 < jw 272 by decide), if_neg w2, Board_firstOdd_c48, if_neg w2, w]
theorem ca_firstw {σ : jxS} (hM : MOK M) (h : CV σ M) (hN : RulN σ M) (hO : OdC σ M) (hF : 5000 ≤ F) : ∃ σ', Board_firstWild F σ = some (oddX M true, σ') ∧ jfr (OWP 9) σ σ' ∧ CV σ' M ∧ OdC σ' M := by
  have fw13 := po_withN (F := F) h.1 (n := 13) (by omega)
  rw [fo_13] at fw13
  have fw' : Positions_firstWith F σ 13 = some (272, σ) := fw13
  have ob := oddX_b M true
  rw [Board_firstWild, fw', jbs]
  dsimp only
  rcases hO with ⟨w8, w | w⟩
  · obtain ⟨σ', a1, a2, a3, a4⟩ := cwi_loop (F := F) hM hF 272 F 0 σ (by omega) (by omega) h hN w
    rw [← oddX_eq] at a1 a4
    exact ⟨σ', a1, a2, a3, by rw [a2 9 8 (by simp [OWP, VP])]; exact w8, Or.inr a4⟩
  · have w2 : ¬ jw (σ 9 9) = -2 := by rw [w, jw_id (by omega) (by omega)]; omega
    refine ⟨σ, ?_, jfr_refl _ _, h, ⟨w8, Or.inr w⟩⟩
    obtain ⟨F', rfl⟩ : ∃ k, F = k + 1 := ⟨F - 1, by omega⟩
    rw [Board_firstWild_c12, if_pos (show jw 0 < jw 272 by decide), if_neg w2, Board_firstWild_c48, if_neg w2, w]
theorem lb_heap0 {σ : jxS} {v : Int} (hv : iR v) : LL_isHeapOrAll F σ v = some (if 0 ≤ v ∧ v ≤ 12 then 1 else 0, σ) := by
  have wv : jw v = v := jw_id hv.1 hv.2
  rw [LL_isHeapOrAll, wv]
  by_cases y : v < 0
  · rw [if_pos y, if_neg (show ¬ (0 ≤ v ∧ v ≤ 12) by omega)]
  · by_cases z : 12 < v
    · rw [if_neg y, if_pos z, if_neg (show ¬ (0 ≤ v ∧ v ≤ 12) by omega)]
    · rw [if_neg y, if_neg z, if_pos (show 0 ≤ v ∧ v ≤ 12 by omega)]
noncomputable def oddA (M : Nat → List Nat) (w : Bool) (v : Int) : Int := if 0 ≤ v ∧ v ≤ 12 then telA (oddX M w) v else -1
theorem lq_odd {σ : jxS} {v : Int} (hv : iR v) (hM : MOK M) (h : CV σ M) (hN : RulN σ M) (hO : OdC σ M) (hF : 5000 ≤ F) : ∃ σ', LL1_odd F σ v = some (oddA M false v, σ') ∧ jfr (OWP 8) σ σ' ∧ CV σ' M ∧ OdC σ' M := by
  have ob := oddX_b M false
  rw [LL1_odd, lb_heap0 hv, jbs, oddA]
  dsimp only
  by_cases y : 0 ≤ v ∧ v ≤ 12
  · obtain ⟨σ', a1, a2, a3, a4⟩ := ca_first9 (F := F) hM h hN hO hF
    rw [if_pos y, if_pos y, if_neg (show ¬ jw 1 = 0 by decide), a1, jbs]
    dsimp only
    rw [lb_tally a3.1 (by omega) (by omega) y.1 y.2 (by omega), jbs]
    exact ⟨σ', rfl, a2, a3, a4⟩
  · rw [if_neg y, if_neg y, if_pos (show jw 0 = 0 from rfl)]
    exact ⟨σ, rfl, jfr_refl _ _, h, hO⟩
theorem lq_wild {σ : jxS} {v : Int} (hv : iR v) (hM : MOK M) (h : CV σ M) (hN : RulN σ M) (hO : OdC σ M) (hF : 5000 ≤ F) : ∃ σ', LL1_wild F σ v = some (oddA M true v, σ') ∧ jfr (OWP 9) σ σ' ∧ CV σ' M ∧ OdC σ' M := by
  have ob := oddX_b M true
  rw [LL1_wild, lb_heap0 hv, jbs, oddA]
  dsimp only
  by_cases y : 0 ≤ v ∧ v ≤ 12
  · obtain ⟨σ', a1, a2, a3, a4⟩ := ca_firstw (F := F) hM h hN hO hF
    rw [if_pos y, if_pos y, if_neg (show ¬ jw 1 = 0 by decide), a1, jbs]
    dsimp only
    rw [lb_tally a3.1 (by omega) (by omega) y.1 y.2 (by omega), jbs]
    exact ⟨σ', rfl, a2, a3, a4⟩
  · rw [if_neg y, if_neg y, if_pos (show jw 0 = 0 from rfl)]
    exact ⟨σ, rfl, jfr_refl _ _, h, hO⟩
/-! the reference's -/
theorem rod_loop {σ0 : jxS} {w : Bool} (hM : MOK M) (hW : WT σ0) (hV : VT σ0 M 4224) (hN : ∀ g : Nat, g < 13 → σ0 11 g = (nim M g : Int)) (hB : BT σ0 M (6 * 4224)) (hF : 1000 ≤ F) : ∀ (n fu p : Nat) (σ : jxS), p + n = 272 → n < fu → jfr P20 σ0 σ → ∃ σ', Model_firstOdd_c2 F fu (if w then 1 else 0) p σ = some (ffo (odf M w) n p, σ') ∧ jfr P20 σ0 σ' := by
  intro n
  induction n with
  | zero =>
    intro fu p σ e1 e2 f
    obtain ⟨fu, rfl⟩ : ∃ k, fu = k + 1 := ⟨fu - 1, by omega⟩
    refine ⟨σ, ?_, f⟩
    have w13 : σ 14 13 = 272 := by
      rw [f 14 13 (by simp [P20])]
      have := hW.2 13 (by omega)
      rw [fo_13] at this
      exact this
    rw [Model_firstOdd_c2, w13, if_neg (show ¬ jw (p : Int) < jw 272 by rw [jw_id (by omega) (by omega), jw_id (by omega) (by omega)]; omega), ffo]
  | succ n ih =>
    intro fu p σ e1 e2 f
    obtain ⟨fu, rfl⟩ : ∃ k, fu = k + 1 := ⟨fu - 1, by omega⟩
    have w13 : σ 14 13 = 272 := by
      rw [f 14 13 (by simp [P20])]
      have := hW.2 13 (by omega)
      rw [fo_13] at this
      exact this
    have hW1 : WT σ := WT_fr hW f (fun j => by simp [P20]) (fun j => by simp [P20])
    obtain ⟨σ1, a1, a2, a3⟩ := mo_lay (F := F) (a := 20) (p := p) (by omega) (by omega) hW1 (by omega) (by omega)
    have f1 : jfr P20 σ0 σ1 := jfr_trans f (jfr_ag a2 (fun a j h => by simpa [P20] using h))
    have hV1 : VT σ1 M 4224 := VT_fr hV f1 (fun a j _ _ => by simp only [P20]; omega)
    have hN1 : ∀ g : Nat, g < 13 → σ1 11 g = (nim M g : Int) := fun g hg => by rw [f1 11 _ (by simp [P20])]; exact hN g hg
    have hB1 : BT σ1 M (6 * 4224) := fun i hi => by rw [f1 19 _ (by simp [P20])]; exact hB i hi
    obtain ⟨u1, u2, u3⟩ := un_ok (p := p) (by omega)
    rw [Model_firstOdd_c2, w13, if_pos (show jw (p : Int) < jw 272 by rw [jw_id (by omega) (by omega), jw_id (by omega) (by omega)]; omega), a1, jbs]
    dsimp only
    rw [ffo]
    obtain ⟨σ2, b1, b2⟩ := ih fu (p + 1) σ1 (by omega) (by omega) f1
    cases w
    · have lk := rk_like (F := F) (a := 20) (c := un p) hM a3 u2 hN1 hV1 (by omega)
      rw [u3] at lk
      rw [if_pos (show jw (if false = true then 1 else 0) = 0 from rfl), lk, jbs, show odf M false p = lkn M (un p) from rfl]
      dsimp only
      cases lkn M (un p)
      · exact ⟨σ1, rfl, f1⟩
      · exact ⟨σ2, b1, b2⟩
    · have nm := rk_nimc (F := F) (a := 20) (c := un p) hM a3 u2 hN1 (by omega)
      have ta := rk_tame (F := F) (c := un p) hM hB1 u2
      rw [u3] at ta
      rw [if_neg (show ¬ jw (if true = true then 1 else 0) = 0 by decide), nm, jbs, show odf M true p = tam M (un p) from rfl]
      dsimp only
      rw [ta, jbs]
      dsimp only
      cases tam M (un p)
      · exact ⟨σ1, rfl, f1⟩
      · exact ⟨σ2, b1, b2⟩
theorem rk_firstOdd {σ : jxS} {w : Bool} (hM : MOK M) (hW : WT σ) (hV : VT σ M 4224) (hN : ∀ g : Nat, g < 13 → σ 11 g = (nim M g : Int)) (hB : BT σ M (6 * 4224)) (hF : 1000 ≤ F) : ∃ σ', Model_firstOdd F σ (if w then 1 else 0) = some (oddX M w, σ') ∧ jfr P20 σ σ' := by
  obtain ⟨σ', a1, a2⟩ := rod_loop (F := F) (w := w) hM hW hV hN hB hF 272 F 0 σ (by omega) (by omega) (jfr_refl _ _)
  rw [← oddX_eq] at a1
  exact ⟨σ', a1, a2⟩
theorem rq_odd {σ : jxS} {v : Int} (hv : iR v) (hM : MOK M) (hI : RI σ M) (hN : ∀ g : Nat, g < 13 → σ 11 g = (nim M g : Int)) (hB : BT σ M (6 * 4224)) (hF : 1000 ≤ F) : ∃ σ', Model_odd F σ v = some (oddA M false v, σ') ∧ jfr P20 σ σ' := by
  obtain ⟨i1, i2, i3, i4, i5⟩ := hI
  have wv : jw v = v := jw_id hv.1 hv.2
  have ob := oddX_b M false
  rw [Model_odd, if_neg i5, wv, mo_isIn hv ⟨by omega, by omega⟩ ⟨by omega, by omega⟩, jbs, oddA]
  dsimp only
  by_cases y : 0 ≤ v ∧ v ≤ 12
  · obtain ⟨σ1, a1, a2⟩ := rk_firstOdd (F := F) (w := false) hM i1 i2 hN hB hF
    have a1' : Model_firstOdd F σ 0 = _ := a1
    obtain ⟨σ2, b1, b2⟩ := rb_told (F := F) (σ := σ1) (p := oddX M false) (h := v) (WT_fr i1 a2 (fun j => by simp [P20]) (fun j => by simp [P20])) (by omega) (by omega) y.1 y.2 (by omega)
    rw [if_pos y, if_pos y, if_neg (show ¬ jw 1 = 0 by decide), a1', jbs]
    dsimp only
    rw [b1, jbs]
    exact ⟨σ2, rfl, jfr_trans a2 b2⟩
  · rw [if_neg y, if_neg y, if_pos (show jw 0 = 0 from rfl)]
    exact ⟨σ, rfl, jfr_refl _ _⟩
theorem rq_wild {σ : jxS} {v : Int} (hv : iR v) (hM : MOK M) (hI : RI σ M) (hN : ∀ g : Nat, g < 13 → σ 11 g = (nim M g : Int)) (hB : BT σ M (6 * 4224)) (hF : 1000 ≤ F) : ∃ σ', Model_wild F σ v = some (oddA M true v, σ') ∧ jfr P20 σ σ' := by
  obtain ⟨i1, i2, i3, i4, i5⟩ := hI
  have wv : jw v = v := jw_id hv.1 hv.2
  have ob := oddX_b M true
  rw [Model_wild, if_neg i5, wv, mo_isIn hv ⟨by omega, by omega⟩ ⟨by omega, by omega⟩, jbs, oddA]
  dsimp only
  by_cases y : 0 ≤ v ∧ v ≤ 12
  · obtain ⟨σ1, a1, a2⟩ := rk_firstOdd (F := F) (w := true) hM i1 i2 hN hB hF
    have a1' : Model_firstOdd F σ 1 = _ := a1
    obtain ⟨σ2, b1, b2⟩ := rb_told (F := F) (σ := σ1) (p := oddX M true) (h := v) (WT_fr i1 a2 (fun j => by simp [P20]) (fun j => by simp [P20])) (by omega) (by omega) y.1 y.2 (by omega)
    rw [if_pos y, if_pos y, if_neg (show ¬ jw 1 = 0 by decide), a1', jbs]
    dsimp only
    rw [b1, jbs]
    exact ⟨σ2, rfl, jfr_trans a2 b2⟩
  · rw [if_neg y, if_neg y, if_pos (show jw 0 = 0 from rfl)]
    exact ⟨σ, rfl, jfr_refl _ _⟩
end OD
