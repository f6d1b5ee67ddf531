/-! The reference counts its ways. -/
section WA
variable {F : Nat}
def WyR (σ : jxS) (k : Nat) : Prop := ∀ kk m : Nat, k ≤ kk → kk ≤ 13 → m ≤ 22 → σ 13 (23 * (kk : Int) + m) = (wy (13 - kk) m : Int)
theorem wy_at {k b : Nat} (k1 : 1 ≤ k) (k12 : k ≤ 12) : wy (13 - k) b = wy (13 - (k + 1)) b + (if k ≤ b then wy (13 - k) (b - k) else 0) := by
  have := wy_succ (k := 12 - k) (by omega) b
  rw [show 12 - k + 1 = 13 - k by omega, show 12 - (12 - k) = k by omega] at this
  rw [this, show 13 - (k + 1) = 12 - k by omega]
theorem rwy_in {k : Nat} {k36 : Int → jxS → Option jxR} (k1 : 1 ≤ k) (k12 : k ≤ 12) : ∀ (n fu b : Nat) (σ : jxS), n + b = 23 → n < fu → WyR σ (k + 1) → (∀ m : Nat, m < b → σ 13 (23 * (k : Int) + m) = (wy (13 - k) m : Int)) → ∃ σ', Model_countsWays_c43 F k36 fu k b σ = k36 ((k : Int) + (-1)) σ' ∧ jfr (fun a _ => a = 13) σ σ' ∧ WyR σ' k := by
  intro n
  induction n with
  | zero =>
    intro fu b σ e1 e2 hW hb
    obtain ⟨fu, rfl⟩ : ∃ k, fu = k + 1 := ⟨fu - 1, by omega⟩
    refine ⟨σ, ?_, jfr_refl _ _, fun kk m q1 q2 q3 => ?_⟩
    · rw [Model_countsWays_c43, if_pos (show 22 < jw (b : Int) by rw [jw_id (by omega) (by omega)]; omega)]
    · by_cases e : kk = k
      · subst e; exact hb m (by omega)
      · exact hW kk m (by omega) q2 q3
  | succ n ih =>
    intro fu b σ e1 e2 hW hb
    obtain ⟨fu, rfl⟩ : ∃ k, fu = k + 1 := ⟨fu - 1, by omega⟩
    have w1 := hW (k + 1) b (by omega) (by omega) (by omega)
    rw [show 23 * ((k + 1 : Nat) : Int) + (b : Int) = 23 * ((k : Int) + 1) + b by omega] at w1
    have ea := wy_at (b := b) k1 k12
    have c1 : 0 ≤ 23 * ((k : Int) + 1) + b ∧ 23 * ((k : Int) + 1) + b < 322 := by omega
    have c2 : 0 ≤ 23 * (k : Int) + b ∧ 23 * (k : Int) + b < 322 := by omega
    obtain ⟨σ', i1, i2, i3⟩ := ih fu (b + 1) (jup σ 13 (23 * (k : Int) + b) (wy (13 - k) b : Int)) (by omega) (by omega) (fun kk m q1 q2 q3 => by rw [jup_k (by omega)]; exact hW kk m q1 q2 q3) (fun m hm => by
      by_cases e : m = b
      · subst e; rw [jup_s]
      · rw [jup_k (by omega)]; exact hb m (by omega))
    refine ⟨σ', ?_, jfr_trans (jfr_up (jfr_refl _ _) rfl) i2, i3⟩
    rw [show ((b + 1 : Nat) : Int) = (b : Int) + 1 by omega] at i1
    rw [Model_countsWays_c43, if_neg (show ¬ 22 < jw (b : Int) by rw [jw_id (by omega) (by omega)]; omega), if_pos c1]
    by_cases q : b < k
    · rw [if_neg (show ¬ k ≤ b by omega), Nat.add_zero] at ea
      rw [if_pos (show jw (b : Int) < jw (k : Int) by rw [jw_id (by omega) (by omega), jw_id (by omega) (by omega)]; omega), if_pos c2, w1, Int.add_zero, ← ea]
      exact i1
    · have w2 := hb (b - k) (by omega)
      rw [show 23 * (k : Int) + ((b - k : Nat) : Int) = 23 * (k : Int) + b - k by omega] at w2
      rw [if_pos (show k ≤ b by omega)] at ea
      rw [if_neg (show ¬ jw (b : Int) < jw (k : Int) by rw [jw_id (by omega) (by omega), jw_id (by omega) (by omega)]; omega), if_pos (show 0 ≤ 23 * (k : Int) + b - k ∧ 23 * (k : Int) + b - k < 322 by omega), if_pos c2, w1, w2, ← Int.natCast_add, ← ea]
      exact i1
theorem rwy_out (hF : 100 ≤ F) : ∀ (k fu : Nat) (σ : jxS), k ≤ 12 → k < fu → WyR σ (k + 1) → ∃ σ', Model_countsWays_c36 F fu k σ = Model_countsWays_c110 F F 0 σ' ∧ jfr (fun a _ => a = 13) σ σ' ∧ WyR σ' 1 := by
  intro k
  induction k with
  | zero =>
    intro fu σ e1 e2 hW
    obtain ⟨fu, rfl⟩ : ∃ k, fu = k + 1 := ⟨fu - 1, by omega⟩
    exact ⟨σ, by rw [Model_countsWays_c36, if_pos (show jw ((0 : Nat) : Int) < 1 by decide)], jfr_refl _ _, hW⟩
  | succ k ih =>
    intro fu σ e1 e2 hW
    obtain ⟨fu, rfl⟩ : ∃ k, fu = k + 1 := ⟨fu - 1, by omega⟩
    obtain ⟨σ1, a1, a2, a3⟩ := rwy_in (F := F) (k := k + 1) (k36 := Model_countsWays_c36 F fu) (by omega) (by omega) 23 F 0 σ (by omega) (by omega) hW (fun m hm => by omega)
    obtain ⟨σ2, b1, b2, b3⟩ := ih fu σ1 (by omega) (by omega) a3
    have a1' : Model_countsWays_c43 F (Model_countsWays_c36 F fu) F ((k + 1 : Nat) : Int) 0 σ = _ := a1
    refine ⟨σ2, ?_, jfr_trans a2 b2, b3⟩
    rw [Model_countsWays_c36, if_neg (show ¬ jw ((k + 1 : Nat) : Int) < 1 by rw [jw_id (by omega) (by omega)]; omega), a1', show ((k + 1 : Nat) : Int) + (-1) = (k : Int) by omega]
    exact b1
theorem rwy_fo : ∀ (n fu b : Nat) (σ : jxS), n + b = 23 → n < fu → WyR σ 1 → (∀ m : Nat, m ≤ b → σ 14 m = (fo m : Int)) → ∃ σ', Model_countsWays_c110 F fu b σ = some (0, jup σ' 0 24 4224) ∧ jfr (fun a _ => a = 14) σ σ' ∧ WT σ' := by
  intro n
  induction n with
  | zero =>
    intro fu b σ e1 e2 hW hb
    obtain ⟨fu, rfl⟩ : ∃ k, fu = k + 1 := ⟨fu - 1, by omega⟩
    have w := hb 23 (by omega)
    rw [fo_23] at w
    have w' : σ 14 23 = 4224 := w
    refine ⟨σ, ?_, jfr_refl _ _, fun k n k1 k2 k3 => hW k n k1 k2 k3, fun m hm => hb m (by omega)⟩
    rw [Model_countsWays_c110, if_pos (show 22 < jw (b : Int) by rw [jw_id (by omega) (by omega)]; omega), w']
  | succ n ih =>
    intro fu b σ e1 e2 hW hb
    obtain ⟨fu, rfl⟩ : ∃ k, fu = k + 1 := ⟨fu - 1, by omega⟩
    have w1 := hW 1 b (by omega) (by omega) (by omega)
    have w1' : σ 13 (23 + (b : Int)) = (wy 12 b : Int) := w1
    have w2 := hb b (Nat.le_refl _)
    obtain ⟨σ', i1, i2, i3⟩ := ih fu (b + 1) (jup σ 14 ((b : Int) + 1) (fo (b + 1) : Int)) (by omega) (by omega) (fun kk m q1 q2 q3 => by rw [jup_o (by omega)]; exact hW kk m q1 q2 q3) (fun m hm => by
      by_cases e : m = b + 1
      · subst e; rw [show ((b + 1 : Nat) : Int) = (b : Int) + 1 by omega, jup_s]
      · rw [jup_k (by omega)]; exact hb m (by omega))
    refine ⟨σ', ?_, jfr_trans (jfr_up (jfr_refl _ _) rfl) i2, i3⟩
    rw [show ((b + 1 : Nat) : Int) = (b : Int) + 1 by omega] at i1
    rw [Model_countsWays_c110, if_neg (show ¬ 22 < jw (b : Int) by rw [jw_id (by omega) (by omega)]; omega), if_pos (show 0 ≤ (b : Int) ∧ (b : Int) < 24 by omega), if_pos (show 0 ≤ 23 + (b : Int) ∧ 23 + (b : Int) < 322 by omega), if_pos (show 0 ≤ (b : Int) + 1 ∧ (b : Int) + 1 < 24 by omega), w1', w2, ← Int.natCast_add, ← fo_succ]
    exact i1
theorem rwy_0 : ∀ (n fu b : Nat) (σ : jxS), n + b = 23 → n < fu → (∀ m : Nat, m < b → σ 13 (299 + (m : Int)) = (wy 0 m : Int)) → ∃ σ', Model_countsWays_c2 F fu b σ = Model_countsWays_c36 F F 12 σ' ∧ jfr (fun a _ => a = 13) σ σ' ∧ ∀ m : Nat, m ≤ 22 → σ' 13 (299 + (m : Int)) = (wy 0 m : Int) := by
  intro n
  induction n with
  | zero =>
    intro fu b σ e1 e2 hb
    obtain ⟨fu, rfl⟩ : ∃ k, fu = k + 1 := ⟨fu - 1, by omega⟩
    refine ⟨σ, ?_, jfr_refl _ _, fun m hm => hb m (by omega)⟩
    rw [Model_countsWays_c2, if_pos (show 22 < jw (b : Int) by rw [jw_id (by omega) (by omega)]; omega)]
  | succ n ih =>
    intro fu b σ e1 e2 hb
    obtain ⟨fu, rfl⟩ : ∃ k, fu = k + 1 := ⟨fu - 1, by omega⟩
    have wb : wy 0 b = if b = 0 then 1 else 0 := rfl
    obtain ⟨σ', i1, i2, i3⟩ := ih fu (b + 1) (jup σ 13 (299 + (b : Int)) (wy 0 b : Int)) (by omega) (by omega) (fun m hm => by
      by_cases e : m = b
      · subst e; rw [jup_s]
      · rw [jup_k (by omega)]; exact hb m (by omega))
    refine ⟨σ', ?_, jfr_trans (jfr_up (jfr_refl _ _) rfl) i2, i3⟩
    rw [show ((b + 1 : Nat) : Int) = (b : Int) + 1 by omega] at i1
    have c0 : 0 ≤ 299 + (b : Int) ∧ 299 + (b : Int) < 322 := by omega
    rw [Model_countsWays_c2, if_neg (show ¬ 22 < jw (b : Int) by rw [jw_id (by omega) (by omega)]; omega)]
    by_cases q : b = 0
    · rw [wb, if_pos q] at i1
      rw [if_pos (show jw (b : Int) = 0 by rw [q]; rfl), if_pos c0]
      exact i1
    · rw [wb, if_neg q] at i1
      rw [if_neg (show ¬ jw (b : Int) = 0 by rw [jw_id (by omega) (by omega)]; omega), if_pos c0]
      exact i1
theorem rk_ways {σ : jxS} (h14 : σ 14 0 = 0) (hF : 100 ≤ F) : ∃ σ', Model_countsWays F σ = some (0, σ') ∧ jfr (fun a j => a = 13 ∨ a = 14 ∨ (a = 0 ∧ j = 24)) σ σ' ∧ WT σ' ∧ σ' 0 24 = 4224 := by
  obtain ⟨σ1, a1, a2, a3⟩ := rwy_0 (F := F) 23 F 0 σ (by omega) (by omega) (fun m hm => by omega)
  have w13 : WyR σ1 (12 + 1) := fun kk m q1 q2 q3 => by
    have : kk = 13 := by omega
    subst this
    exact a3 m q3
  obtain ⟨σ2, b1, b2, b3⟩ := rwy_out (F := F) hF 12 F σ1 (by omega) (by omega) w13
  have f0 : fo 0 = 0 := by rw [fo_eq]; rfl
  obtain ⟨σ3, c1, c2, c3⟩ := rwy_fo (F := F) 23 F 0 σ2 (by omega) (by omega) b3 (fun m hm => by
    have : m = 0 := by omega
    subst this
    rw [f0, b2 14 _ (by omega), a2 14 _ (by omega)]
    exact h14)
  have f3 : jfr (fun a j => a = 0 ∧ j = 24) σ3 (jup σ3 0 24 4224) := jfr_up (jfr_refl _ _) ⟨rfl, rfl⟩
  refine ⟨_, (a1.trans (b1.trans c1)), jfr_trans (jfr_mono a2 (fun a j q => Or.inl q)) (jfr_trans (jfr_mono b2 (fun a j q => Or.inl q)) (jfr_trans (jfr_mono c2 (fun a j q => Or.inr (Or.inl q))) (jfr_mono f3 (fun a j q => Or.inr (Or.inr q))))), WT_fr c3 f3 (fun j => by omega) (fun j => by omega), jup_s _ _ _ _⟩
end WA
