/-! The class counts its ways. -/
section WC
variable {F : Nat}
def WyC (σ : jxS) (k : Nat) : Prop := ∀ kk m : Nat, k ≤ kk → kk ≤ 13 → m ≤ 22 → σ 23 ((kk : Int) * 23 + m) = (wy (13 - kk) m : Int)
theorem cw_of {σ : jxS} {k b : Int} {x : Int} (k1 : 1 ≤ k) (k2 : k ≤ 13) (b1 : 0 ≤ b) (b2 : b ≤ 22) (w : σ 23 (k * 23 + b) = x) : Positions_waysOf F σ k b = some (x, σ) := by
  rw [Positions_waysOf, if_neg (show ¬ jw k < 1 by rw [jw_id (by omega) (by omega)]; omega), if_neg (show ¬ 13 < jw k by rw [jw_id (by omega) (by omega)]; omega), if_neg (show ¬ jw b < 0 by rw [jw_id (by omega) (by omega)]; omega), if_neg (show ¬ 22 < jw b by rw [jw_id (by omega) (by omega)]; omega), Positions_waysOf_c26, if_neg (show ¬ jw 1 = 0 by decide), if_pos (show 0 ≤ k * 23 + b ∧ k * 23 + b < 322 by omega), w]
theorem cwy_in {k : Nat} {k12 : Int → jxS → Option jxR} (k1 : 1 ≤ k) (k2 : k ≤ 12) : ∀ (n fu b : Nat) (σ : jxS), n + b = 23 → n < fu → WyC σ (k + 1) → (∀ m : Nat, m < b → σ 23 ((k : Int) * 23 + m) = (wy (13 - k) m : Int)) → ∃ σ', Positions_countWays_c19 F k12 fu k b σ = k12 ((k : Int) + (-1)) σ' ∧ jfr (fun a _ => a = 23) σ σ' ∧ WyC σ' k := by
  intro n
  induction n with
  | zero =>
    intro fu b σ e1 e2 hW hb
    obtain ⟨fu, rfl⟩ : ∃ k, fu = k + 1 := ⟨fu - 1, by omega⟩
    refine ⟨σ, ?_, jfr_refl _ _, fun kk m q1 q2 q3 => ?_⟩
    · rw [Positions_countWays_c19, if_pos (show 22 < jw (b : Int) by rw [jw_id (by omega) (by omega)]; omega)]
    · by_cases e : kk = k
      · subst e; exact hb m (by omega)
      · exact hW kk m (by omega) q2 q3
  | succ n ih =>
    intro fu b σ e1 e2 hW hb
    obtain ⟨fu, rfl⟩ : ∃ k, fu = k + 1 := ⟨fu - 1, by omega⟩
    have w1 := hW (k + 1) b (by omega) (by omega) (by omega)
    rw [show ((k + 1 : Nat) : Int) * 23 + (b : Int) = ((k : Int) + 1) * 23 + b by omega] at w1
    have wo := cw_of (F := F) (k := (k : Int) + 1) (b := (b : Int)) (by omega) (by omega) (by omega) (by omega) w1
    have ea := wy_at (b := b) k1 k2
    have c2 : 0 ≤ (k : Int) * 23 + b ∧ (k : Int) * 23 + b < 322 := by omega
    obtain ⟨σ', i1, i2, i3⟩ := ih fu (b + 1) (jup σ 23 ((k : Int) * 23 + b) (wy (13 - k) b : Int)) (by omega) (by omega) (fun kk m q1 q2 q3 => by rw [jup_k (by omega)]; exact hW kk m q1 q2 q3) (fun m hm => by
      by_cases e : m = b
      · subst e; rw [jup_s]
      · rw [jup_k (by omega)]; exact hb m (by omega))
    refine ⟨σ', ?_, jfr_trans (jfr_up (jfr_refl _ _) rfl) i2, i3⟩
    rw [show ((b + 1 : Nat) : Int) = (b : Int) + 1 by omega] at i1
    rw [Positions_countWays_c19, if_neg (show ¬ 22 < jw (b : Int) by rw [jw_id (by omega) (by omega)]; omega)]
    by_cases q : b < k
    · rw [if_neg (show ¬ k ≤ b by omega), Nat.add_zero] at ea
      rw [if_pos (show jw (b : Int) < jw (k : Int) by rw [jw_id (by omega) (by omega), jw_id (by omega) (by omega)]; omega), Positions_countWays_c42, wo, jbs, if_pos c2]
      dsimp only
      rw [Int.add_zero, ← ea]
      exact i1
    · have w2 := hb (b - k) (by omega)
      rw [show (k : Int) * 23 + ((b - k : Nat) : Int) = (k : Int) * 23 + ((b : Int) - k) by omega] at w2
      have wo2 := cw_of (F := F) (k := (k : Int)) (b := (b : Int) - k) (by omega) (by omega) (by omega) (by omega) w2
      rw [if_pos (show k ≤ b by omega)] at ea
      rw [if_neg (show ¬ jw (b : Int) < jw (k : Int) by rw [jw_id (by omega) (by omega), jw_id (by omega) (by omega)]; omega), wo2, jbs, Positions_countWays_c42]
      dsimp only
      rw [wo, jbs, if_pos c2]
      dsimp only
      rw [← Int.natCast_add, ← ea]
      exact i1
theorem cwy_out (hF : 100 ≤ F) : ∀ (k fu : Nat) (σ : jxS), k ≤ 12 → k < fu → WyC σ (k + 1) → ∃ σ', Positions_countWays_c12 F fu k σ = Positions_countWays_c78 F F 0 σ' ∧ jfr (fun a _ => a = 23) σ σ' ∧ WyC σ' 1 := by
  intro k
  induction k with
  | zero =>
    intro fu σ e1 e2 hW
    obtain ⟨fu, rfl⟩ : ∃ k, fu = k + 1 := ⟨fu - 1, by omega⟩
    exact ⟨σ, by rw [Positions_countWays_c12, if_pos (show jw ((0 : Nat) : Int) < 1 by decide)], jfr_refl _ _, hW⟩
  | succ k ih =>
    intro fu σ e1 e2 hW
    obtain ⟨fu, rfl⟩ : ∃ k, fu = k + 1 := ⟨fu - 1, by omega⟩
    obtain ⟨σ1, a1, a2, a3⟩ := cwy_in (F := F) (k := k + 1) (k12 := Positions_countWays_c12 F fu) (by omega) (by omega) 23 F 0 σ (by omega) (by omega) hW (fun m hm => by omega)
    obtain ⟨σ2, b1, b2, b3⟩ := ih fu σ1 (by omega) (by omega) a3
    have a1' : Positions_countWays_c19 F (Positions_countWays_c12 F fu) F ((k + 1 : Nat) : Int) 0 σ = _ := a1
    refine ⟨σ2, ?_, jfr_trans a2 b2, b3⟩
    rw [Positions_countWays_c12, if_neg (show ¬ jw ((k + 1 : Nat) : Int) < 1 by rw [jw_id (by omega) (by omega)]; omega), a1', show ((k + 1 : Nat) : Int) + (-1) = (k : Int) by omega]
    exact b1
theorem cwy_fo : ∀ (n fu b : Nat) (σ : jxS), n + b = 23 → n < fu → WyC σ 1 → (∀ m : Nat, m ≤ b → σ 24 m = (fo m : Int)) → ∃ σ', Positions_countWays_c78 F fu b σ = Positions_countWays_c113 F F 1 σ' ∧ jfr (fun a _ => a = 24) σ σ' ∧ ∀ m : Nat, m ≤ 23 → σ' 24 m = (fo m : Int) := by
  intro n
  induction n with
  | zero =>
    intro fu b σ e1 e2 hW hb
    obtain ⟨fu, rfl⟩ : ∃ k, fu = k + 1 := ⟨fu - 1, by omega⟩
    refine ⟨σ, ?_, jfr_refl _ _, fun m hm => hb m (by omega)⟩
    rw [Positions_countWays_c78, if_pos (show 22 < jw (b : Int) by rw [jw_id (by omega) (by omega)]; omega)]
  | succ n ih =>
    intro fu b σ e1 e2 hW hb
    obtain ⟨fu, rfl⟩ : ∃ k, fu = k + 1 := ⟨fu - 1, by omega⟩
    have w1 := hW 1 b (by omega) (by omega) (by omega)
    have wo := cw_of (F := F) (k := 1) (b := (b : Int)) (by omega) (by omega) (by omega) (by omega) w1
    have w2 := hb b (Nat.le_refl _)
    obtain ⟨σ', i1, i2, i3⟩ := ih fu (b + 1) (jup σ 24 ((b : Int) + 1) (fo (b + 1) : Int)) (by omega) (by omega) (fun kk m q1 q2 q3 => by rw [jup_o (by omega)]; exact hW kk m q1 q2 q3) (fun m hm => by
      by_cases e : m = b + 1
      · subst e; rw [show ((b + 1 : Nat) : Int) = (b : Int) + 1 by omega, jup_s]
      · rw [jup_k (by omega)]; exact hb m (by omega))
    refine ⟨σ', ?_, jfr_trans (jfr_up (jfr_refl _ _) rfl) i2, i3⟩
    rw [show ((b + 1 : Nat) : Int) = (b : Int) + 1 by omega, fo_succ, Int.natCast_add] at i1
    rw [Positions_countWays_c78, if_neg (show ¬ 22 < jw (b : Int) by rw [jw_id (by omega) (by omega)]; omega), if_pos (show 0 ≤ (b : Int) ∧ (b : Int) < 24 by omega), wo, jbs, if_pos (show 0 ≤ (b : Int) + 1 ∧ (b : Int) + 1 < 24 by omega)]
    dsimp only
    rw [w2]
    exact i1
theorem cwy_js {σ0 : jxS} (hfo : ∀ m : Nat, m ≤ 23 → σ0 24 m = (fo m : Int)) : ∀ (n fu h : Nat) (σ : jxS), n + h = 13 → 1 ≤ h → n < fu → jfr (fun a _ => a = 25) σ0 σ → (∀ g : Nat, 1 ≤ g → g ≤ h → σ 25 g = (jsn g : Int)) → ∃ σ', Positions_countWays_c113 F fu h σ = some (0, σ') ∧ jfr (fun a _ => a = 25) σ0 σ' ∧ ∀ g : Nat, 1 ≤ g → g ≤ 13 → σ' 25 g = (jsn g : Int) := by
  intro n
  induction n with
  | zero =>
    intro fu h σ e1 e2 e3 f hb
    obtain ⟨fu, rfl⟩ : ∃ k, fu = k + 1 := ⟨fu - 1, by omega⟩
    refine ⟨σ, ?_, f, fun g g1 g2 => hb g g1 (by omega)⟩
    rw [Positions_countWays_c113, if_pos (show 12 < jw (h : Int) by rw [jw_id (by omega) (by omega)]; omega)]
  | succ n ih =>
    intro fu h σ e1 e2 e3 f hb
    obtain ⟨fu, rfl⟩ : ∃ k, fu = k + 1 := ⟨fu - 1, by omega⟩
    have w1 := hb h e2 (Nat.le_refl _)
    have w2 : σ 24 (23 - (h : Int)) = (fo (23 - h) : Int) := by
      have := hfo (23 - h) (by omega)
      rw [f 24 _ (by omega), show (23 : Int) - h = ((23 - h : Nat) : Int) by omega]
      exact this
    obtain ⟨σ', i1, i2, i3⟩ := ih fu (h + 1) (jup σ 25 ((h : Int) + 1) (jsn (h + 1) : Int)) (by omega) (by omega) (by omega) (jfr_up f rfl) (fun g g1 g2 => by
      by_cases e : g = h + 1
      · subst e; rw [show ((h + 1 : Nat) : Int) = (h : Int) + 1 by omega, jup_s]
      · rw [jup_k (by omega)]; exact hb g g1 (by omega))
    refine ⟨σ', ?_, i2, i3⟩
    rw [show ((h + 1 : Nat) : Int) = (h : Int) + 1 by omega, jsn_step e2 (by omega), Int.natCast_add] at i1
    rw [Positions_countWays_c113, if_neg (show ¬ 12 < jw (h : Int) by rw [jw_id (by omega) (by omega)]; omega), if_pos (show 0 ≤ (h : Int) ∧ (h : Int) < 14 by omega), if_pos (show 0 ≤ 23 - (h : Int) ∧ 23 - (h : Int) < 24 by omega), if_pos (show 0 ≤ (h : Int) + 1 ∧ (h : Int) + 1 < 14 by omega), w1, w2]
    exact i1
theorem ca_ways {σ : jxS} (h23 : ∀ j : Int, 0 ≤ j → j < 322 → σ 23 j = 0) (h24 : σ 24 0 = 0) (h25 : σ 25 1 = 0) (hF : 100 ≤ F) : ∃ σ', Positions_countWays F σ = some (0, σ') ∧ jfr (fun a j => a = 23 ∨ a = 24 ∨ a = 25) σ σ' ∧ WyC σ' 1 ∧ (∀ m : Nat, m ≤ 23 → σ' 24 m = (fo m : Int)) ∧ ∀ g : Nat, 1 ≤ g → g ≤ 13 → σ' 25 g = (jsn g : Int) := by
  have w13 : WyC (jup σ 23 299 1) (12 + 1) := fun kk m q1 q2 q3 => by
    have : kk = 13 := by omega
    subst this
    have wb : wy (13 - 13) m = if m = 0 then 1 else 0 := rfl
    rw [wb]
    by_cases e : m = 0
    · subst e; exact jup_s _ _ _ _
    · rw [if_neg e, jup_k (by omega)]
      exact h23 _ (by omega) (by omega)
  obtain ⟨σ2, b1, b2, b3⟩ := cwy_out (F := F) hF 12 F (jup σ 23 299 1) (by omega) (by omega) w13
  have f0 : fo 0 = 0 := by rw [fo_eq]; rfl
  obtain ⟨σ3, c1, c2, c3⟩ := cwy_fo (F := F) 23 F 0 σ2 (by omega) (by omega) b3 (fun m hm => by
    have : m = 0 := by omega
    subst this
    rw [f0, b2 24 _ (by omega), jup_o (by omega)]
    exact h24)
  obtain ⟨σ4, d1, d2, d3⟩ := cwy_js (F := F) c3 12 F 1 σ3 (by omega) (by omega) (by omega) (jfr_refl _ _) (fun g g1 g2 => by
    have : g = 1 := by omega
    subst this
    rw [c2 25 _ (by omega), b2 25 _ (by omega), jup_o (by omega)]
    exact h25)
  refine ⟨σ4, ?_, jfr_trans (jfr_up (jfr_refl _ _) (Or.inl rfl)) (jfr_trans (jfr_mono b2 (fun a j q => Or.inl q)) (jfr_trans (jfr_mono c2 (fun a j q => Or.inr (Or.inl q))) (jfr_mono d2 (fun a j q => Or.inr (Or.inr q))))), fun kk m q1 q2 q3 => ?_, fun m hm => ?_, d3⟩
  · rw [Positions_countWays]
    exact b1.trans (c1.trans d1)
  · rw [d2 23 _ (by omega), c2 23 _ (by omega)]; exact b3 kk m q1 q2 q3
  · rw [d2 24 _ (by omega)]; exact c3 m hm
end WC
