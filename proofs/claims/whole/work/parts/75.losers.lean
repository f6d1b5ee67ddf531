/-! A position told; losers; the first odd and wild one: both sides. -/
section TO
variable {F : Nat} {M : Nat → List Nat}
noncomputable def telA (p h : Int) : Int := if p < 0 then -2 else if h = 0 then (beans (un p.toNat) : Int) else (un p.toNat h.toNat : Int)
theorem lb_tally {σ : jxS} {p h : Int} (hP : PosOK σ) (hp : -1 ≤ p) (hp2 : p < 4224) (h0 : 0 ≤ h) (h12 : h ≤ 12) (hF : 100 ≤ F) : LL1_tallyOrNoSuch F σ p h = some (telA p h, σ) := by
  have wp : jw p = p := jw_id (by omega) (by omega)
  rw [LL1_tallyOrNoSuch, wp, telA]
  by_cases y : p < 0
  · rw [if_pos y, if_pos y]
  · obtain ⟨q, rfl⟩ : ∃ k : Nat, p = k := ⟨p.toNat, by omega⟩
    obtain ⟨g, rfl⟩ : ∃ k : Nat, h = k := ⟨h.toNat, by omega⟩
    obtain ⟨u1, u2, u3⟩ := un_ok (p := q) (by omega)
    have t := po_tally (F := F) hP (h := g) u1 u2 (by omega) hF
    rw [u3] at t
    rw [if_neg y, if_neg y, t, jbs, Int.toNat_natCast, Int.toNat_natCast]
    by_cases z : g = 0
    · rw [if_pos z, if_pos (show (g : Int) = 0 by omega)]
    · rw [if_neg z, if_neg (show ¬ (g : Int) = 0 by omega)]
def P20 (a : Nat) (_ : Int) : Prop := a = 20
theorem rb_told {σ : jxS} {p h : Int} (hW : WT σ) (hp : -1 ≤ p) (hp2 : p < 4224) (h0 : 0 ≤ h) (h12 : h ≤ 12) (hF : 100 ≤ F) : ∃ σ', Model_told F σ p h = some (telA p h, σ') ∧ jfr P20 σ σ' := by
  have wp : jw p = p := jw_id (by omega) (by omega)
  rw [Model_told, wp, telA]
  by_cases y : p < 0
  · rw [if_pos y, if_pos y]
    exact ⟨σ, rfl, jfr_refl _ _⟩
  · obtain ⟨q, rfl⟩ : ∃ k : Nat, p = k := ⟨p.toNat, by omega⟩
    obtain ⟨g, rfl⟩ : ∃ k : Nat, h = k := ⟨h.toNat, by omega⟩
    have wh : jw (g : Int) = (g : Int) := jw_id (by omega) (by omega)
    obtain ⟨σ', a1, a2, a3⟩ := mo_lay (F := F) (a := 20) (p := q) (by omega) (by omega) hW (by omega) hF
    refine ⟨σ', ?_, jfr_ag a2 (fun a j h => by simpa [P20] using h)⟩
    rw [if_neg y, if_neg y, Model_partOf, a1, jbs, wh, Int.toNat_natCast, Int.toNat_natCast]
    by_cases z : (g : Int) = 0
    · rw [if_pos z, mo_beans a3 hF, jbs, if_pos z]
      rfl
    · rw [if_neg z, if_pos (show 0 ≤ (g : Int) ∧ (g : Int) < 13 by omega), jbs, if_neg z]
      dsimp only
      rw [a3 g (by omega) (by omega)]
/-! losers -/
noncomputable def clo (M : Nat → List Nat) (n p : Nat) : Nat := match n with
  | 0 => 0
  | n + 1 => (if los M p then 1 else 0) + clo M n (p + 1)
noncomputable def flo (M : Nat → List Nat) (n p : Nat) : Int := match n with
  | 0 => -1
  | n + 1 => if los M p then (p : Int) else flo M n (p + 1)
theorem flo_b : ∀ (n p : Nat), flo M n p = -1 ∨ ∃ q : Nat, q < p + n ∧ flo M n p = (q : Int) := by
  intro n
  induction n with
  | zero => intro p; exact Or.inl rfl
  | succ n ih =>
    intro p
    rw [flo]
    split
    · exact Or.inr ⟨p, by omega, rfl⟩
    · rcases ih (p + 1) with h | ⟨q, h, e⟩
      · exact Or.inl h
      · exact Or.inr ⟨q, by omega, e⟩
theorem po_w1 {σ : jxS} {b : Nat} (hP : PosOK σ) (hb : b ≤ 22) : Positions_firstWith F σ ((b : Int) + 1) = some ((fo (b + 1) : Int), σ) := by
  have := po_withN (F := F) hP (n := b + 1) (by omega)
  rw [show ((b + 1 : Nat) : Int) = (b : Int) + 1 by omega] at this
  exact this
theorem clc_loop {b e : Nat} (hM : MOK M) (hb : b ≤ 22) (he : fo (b + 1) = e) (e4 : e ≤ 4224) (hF : 5000 ≤ F) : ∀ (n fu p : Nat) (acc : Int) (σ : jxS), p + n = e → n < fu → CV σ M → vres M σ (Values_countLosers_c11 F fu b acc p σ) (acc + (clo M n p : Int)) := by
  intro n
  induction n with
  | zero =>
    intro fu p acc σ e1 e2 h
    obtain ⟨fu, rfl⟩ : ∃ k, fu = k + 1 := ⟨fu - 1, by omega⟩
    rw [Values_countLosers_c11, po_w1 h.1 hb, jbs, he]
    dsimp only
    rw [if_neg (show ¬ jw (p : Int) < jw (e : Int) by rw [jw_id (by omega) (by omega), jw_id (by omega) (by omega)]; omega), clo, Int.natCast_zero, Int.add_zero]
    exact vres_ret h
  | succ n ih =>
    intro fu p acc σ e1 e2 h
    obtain ⟨fu, rfl⟩ : ∃ k, fu = k + 1 := ⟨fu - 1, by omega⟩
    rw [Values_countLosers_c11, po_w1 h.1 hb, jbs, he]
    dsimp only
    rw [if_pos (show jw (p : Int) < jw (e : Int) by rw [jw_id (by omega) (by omega), jw_id (by omega) (by omega)]; omega)]
    refine vres_bind (ca_loses hM h (by omega) hF) (fun σ1 f1 h1 => ?_)
    dsimp only
    rw [clo]
    cases los M p
    · rw [if_pos (show jw (if false = true then 1 else 0) = 0 from rfl), if_neg (show ¬ false = true by decide), Nat.zero_add]
      exact ih fu (p + 1) acc σ1 (by omega) (by omega) h1
    · rw [if_neg (show ¬ jw (if true = true then 1 else 0) = 0 by decide), if_pos (show true = true from rfl), Int.natCast_add, ← Int.add_assoc]
      exact ih fu (p + 1) (acc + 1) σ1 (by omega) (by omega) h1
theorem clf_loop {b e : Nat} (hM : MOK M) (hb : b ≤ 22) (he : fo (b + 1) = e) (e4 : e ≤ 4224) (hF : 5000 ≤ F) : ∀ (n fu p : Nat) (σ : jxS), p + n = e → n < fu → CV σ M → vres M σ (Values_firstLoser_c9 F fu b p σ) (flo M n p) := by
  intro n
  induction n with
  | zero =>
    intro fu p σ e1 e2 h
    obtain ⟨fu, rfl⟩ : ∃ k, fu = k + 1 := ⟨fu - 1, by omega⟩
    rw [Values_firstLoser_c9, po_w1 h.1 hb, jbs, he]
    dsimp only
    rw [if_neg (show ¬ jw (p : Int) < jw (e : Int) by rw [jw_id (by omega) (by omega), jw_id (by omega) (by omega)]; omega), flo]
    exact vres_ret h
  | succ n ih =>
    intro fu p σ e1 e2 h
    obtain ⟨fu, rfl⟩ : ∃ k, fu = k + 1 := ⟨fu - 1, by omega⟩
    rw [Values_firstLoser_c9, po_w1 h.1 hb, jbs, he]
    dsimp only
    rw [if_pos (show jw (p : Int) < jw (e : Int) by rw [jw_id (by omega) (by omega), jw_id (by omega) (by omega)]; omega)]
    refine vres_bind (ca_loses hM h (by omega) hF) (fun σ1 f1 h1 => ?_)
    dsimp only
    rw [flo]
    cases los M p
    · rw [if_pos (show jw (if false = true then 1 else 0) = 0 from rfl), if_neg (show ¬ false = true by decide)]
      exact ih fu (p + 1) σ1 (by omega) (by omega) h1
    · rw [if_neg (show ¬ jw (if true = true then 1 else 0) = 0 by decide), if_pos (show true = true from rfl)]
      exact vres_ret h1
noncomputable def losA (M : Nat → List Nat) (b h : Int) : Int := if 0 ≤ b ∧ b ≤ 22 ∧ (h = -1 ∨ (1 ≤ h ∧ h ≤ 12)) then (if h = -1 then (clo M (fo (b.toNat + 1) - fo b.toNat) (fo b.toNat) : Int) else telA (flo M (fo (b.toNat + 1) - fo b.toNat) (fo b.toNat)) h) else -1
theorem lo_17 {σ : jxS} {v1 v2 t : Int} (h1 : iR v1) (h2 : iR v2) (hM : MOK M) (h : CV σ M) (ht : (t = 1 ∧ (v2 = -1 ∨ (1 ≤ v2 ∧ v2 ≤ 12))) ∨ (t = 0 ∧ ¬ (v2 = -1 ∨ (1 ≤ v2 ∧ v2 ≤ 12)))) (hF : 5000 ≤ F) : vres M σ (LL1_losers_c17 F v1 v2 t σ) (losA M v1 v2) := by
  have w1 : jw v1 = v1 := jw_id h1.1 h1.2
  have w2 : jw v2 = v2 := jw_id h2.1 h2.2
  rw [LL1_losers_c17, w1, w2, losA]
  by_cases y : v1 < 0
  · rw [if_pos y, if_neg (show ¬ (0 ≤ v1 ∧ v1 ≤ 22 ∧ (v2 = -1 ∨ (1 ≤ v2 ∧ v2 ≤ 12))) by omega)]
    exact vres_ret h
  by_cases z : 22 < v1
  · rw [if_neg y, if_pos z, if_neg (show ¬ (0 ≤ v1 ∧ v1 ≤ 22 ∧ (v2 = -1 ∨ (1 ≤ v2 ∧ v2 ≤ 12))) by omega)]
    exact vres_ret h
  rcases ht with ⟨rfl, ht⟩ | ⟨rfl, ht⟩
  · obtain ⟨b, rfl⟩ : ∃ k : Nat, v1 = k := ⟨v1.toNat, by omega⟩
    have f1 := fo_mono (a := b) (b := b + 1) (by omega)
    have f2 := fo_le (b := b + 1) (by omega)
    have f3 := po_withN (F := F) h.1 (n := b) (by omega)
    rw [if_neg y, if_neg z, if_neg (show ¬ jw 1 = 0 by decide), if_pos (show 0 ≤ (b : Int) ∧ (b : Int) ≤ 22 ∧ (v2 = -1 ∨ (1 ≤ v2 ∧ v2 ≤ 12)) from ⟨by omega, by omega, ht⟩), Int.toNat_natCast]
    by_cases q : v2 = -1
    · rw [if_pos q, if_pos q, Values_countLosers, f3, jbs]
      refine vres_bind (x := (clo M (fo (b + 1) - fo b) (fo b) : Int)) ?_ (fun σ1 f1 h1 => vres_ret h1)
      have := clc_loop (F := F) hM (b := b) (by omega) rfl f2 hF (fo (b + 1) - fo b) F (fo b) 0 σ (by omega) (by omega) h
      rw [Int.zero_add] at this
      exact this
    · rw [if_neg q, if_neg q, Values_firstLoser, f3, jbs]
      refine vres_bind (x := flo M (fo (b + 1) - fo b) (fo b)) (clf_loop (F := F) hM (b := b) (by omega) rfl f2 hF (fo (b + 1) - fo b) F (fo b) σ (by omega) (by omega) h) (fun σ1 f1 h1 => ?_)
      dsimp only
      have fb := flo_b (M := M) (fo (b + 1) - fo b) (fo b)
      rw [lb_tally h1.1 (by rcases fb with e | ⟨q, _, e⟩ <;> omega) (by rcases fb with e | ⟨q, _, e⟩ <;> omega) (by omega) (by omega) (by omega), jbs]
      exact vres_ret h1
  · rw [if_neg y, if_neg z, if_pos (show jw 0 = 0 from rfl), if_neg (fun q => ht q.2.2)]
    exact vres_ret h
theorem lq_losers {σ : jxS} {v1 v2 : Int} (h1 : iR v1) (h2 : iR v2) (hM : MOK M) (h : CV σ M) (hF : 5000 ≤ F) : vres M σ (LL1_losers F σ v1 v2) (losA M v1 v2) := by
  have w2 : jw v2 = v2 := jw_id h2.1 h2.2
  rw [LL1_losers, w2]
  by_cases q : v2 = -1
  · rw [if_pos q, LL1_losers_c12]
    exact lo_17 h1 h2 hM h (Or.inl ⟨rfl, Or.inl q⟩) hF
  · rw [if_neg q, lb_heap h2, jbs]
    dsimp only
    by_cases z : 1 ≤ v2 ∧ v2 ≤ 12
    · rw [if_pos z, if_neg (show ¬ jw 1 = 0 by decide), LL1_losers_c12]
      exact lo_17 h1 h2 hM h (Or.inl ⟨rfl, Or.inr z⟩) hF
    · rw [if_neg z, if_pos (show jw 0 = 0 from rfl)]
      exact lo_17 h1 h2 hM h (Or.inr ⟨rfl, by omega⟩) hF
end TO
