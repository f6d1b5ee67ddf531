/-! Positions' constructor, its tail: all positions are linked. -/
section PIN
variable {F : Nat}
def PIv (σ : jxS) (p : Nat) : Prop := WyC σ 1 ∧ Lnk σ p ∧ ∀ q : Nat, q < p → σ 27 q = (ps q : Int)
def PIQ (a : Nat) (_ : Int) : Prop := a = 26 ∨ a = 27 ∨ a = 28
theorem cpi_stop {fu : Nat} {k64 : Int → Int → jxS → Option jxR} {v1 v2 v3 x : Int} {σ : jxS} (h1 : 0 ≤ v2) (h2 : v2 ≤ 22) (w : σ 24 (v2 + 1) = x) (hx : 0 ≤ x) (hx2 : x ≤ 4224) (h3 : 0 ≤ v3) (h4 : v3 ≤ 4224) (hge : x ≤ v3) : Positions_init_c77 F k64 (fu + 1) v1 v2 v3 σ = k64 v1 (v2 + 1) σ := by
  rw [Positions_init_c77, if_pos (show 0 ≤ v2 + 1 ∧ v2 + 1 < 24 by omega), w, if_neg (show ¬ jw v3 < jw x by rw [jw_id (by omega) (by omega), jw_id (by omega) (by omega)]; omega)]
theorem cpi_go {fu : Nat} {k64 : Int → Int → jxS → Option jxR} {v1 v2 v3 x y : Int} {σ σ' : jxS} (h1 : 0 ≤ v2) (h2 : v2 ≤ 22) (w : σ 24 (v2 + 1) = x) (hx : 0 ≤ x) (hx2 : x ≤ 4224) (h3 : 0 ≤ v3) (hlt : v3 < x) (e : Positions_linkParts F (jup σ 27 v3 v1) v3 v2 v1 = some (y, σ')) : Positions_init_c77 F k64 (fu + 1) v1 v2 v3 σ = Positions_init_c77 F k64 fu y v2 (v3 + 1) σ' := by
  rw [Positions_init_c77, if_pos (show 0 ≤ v2 + 1 ∧ v2 + 1 < 24 by omega), w, if_pos (show jw v3 < jw x by rw [jw_id (by omega) (by omega), jw_id (by omega) (by omega)]; omega), if_pos (show jw v3 < 4224 by rw [jw_id (by omega) (by omega)]; omega), if_pos (show 0 ≤ v3 ∧ v3 < 4225 by omega)]
  dsimp only
  rw [e, jbs]
theorem Lnk_27 {σ : jxS} {p : Nat} {k v : Int} (h : Lnk σ p) : Lnk (jup σ 27 k v) p := by
  obtain ⟨a, b, d, e⟩ := h
  refine ⟨fun q hq => ?_, fun q h1 h2 => ?_, fun q c h1 h2 h3 h4 h5 => ?_, fun c h1 h2 h3 j q h4 => ?_⟩
  · rw [jup_o (by omega)]; exact a q hq
  · rw [jup_o (by omega)]; exact b q h1 h2
  · rw [jup_o (by omega)]; exact d q c h1 h2 h3 h4 h5
  · rw [jup_o (by omega)]; exact e c h1 h2 h3 j q h4
theorem WyC_27 {σ : jxS} {k v : Int} (h : WyC σ 1) : WyC (jup σ 27 k v) 1 := fun kk m q1 q2 q3 => by rw [jup_o (by omega)]; exact h kk m q1 q2 q3
theorem cpi_in {b : Nat} {k64 : Int → Int → jxS → Option jxR} (hb : b ≤ 22) (hF : 100 ≤ F) : ∀ (n fu p : Nat) (σ : jxS), n + p = fo (b + 1) → fo b ≤ p → n < fu → PIv σ p → ∃ σ', Positions_init_c77 F k64 fu (ps p : Int) b p σ = k64 (ps (fo (b + 1)) : Int) ((b : Int) + 1) σ' ∧ jfr PIQ σ σ' ∧ PIv σ' (fo (b + 1)) := by
  have f1 := fo_le (b := b + 1) (by omega)
  intro n
  induction n with
  | zero =>
    intro fu p σ e1 e2 e3 h
    obtain ⟨fu, rfl⟩ : ∃ k, fu = k + 1 := ⟨fu - 1, by omega⟩
    have e : p = fo (b + 1) := by omega
    subst e
    have w := h.2.1.1 (b + 1) (by omega)
    rw [show ((b + 1 : Nat) : Int) = (b : Int) + 1 by omega] at w
    exact ⟨σ, cpi_stop (by omega) (by omega) w (by omega) (by omega) (by omega) (by omega) (by omega), jfr_refl _ _, h⟩
  | succ n ih =>
    intro fu p σ e1 e2 e3 h
    obtain ⟨fu, rfl⟩ : ∃ k, fu = k + 1 := ⟨fu - 1, by omega⟩
    have pl : p < 4224 := by omega
    obtain ⟨u1, u2, u3⟩ := un_ok pl
    have w := h.2.1.1 (b + 1) (by omega)
    rw [show ((b + 1 : Nat) : Int) = (b : Int) + 1 by omega] at w
    have ub : beans (un p) = b := by
      have g1 : beans (un p) < b + 1 := rank_beans.mp (by rw [u3]; omega)
      have g2 : ¬ beans (un p) < b := fun q => by
        have := rank_beans.mpr q
        omega
      omega
    have hl := ca_linkParts (F := F) (σ := jup σ 27 (p : Int) (ps p : Int)) u1 u2 (WyC_27 h.1) (fun q hq => by
      rw [u3] at hq
      by_cases e : q = p
      · subst e; exact jup_s _ _ _ _
      · rw [jup_k (by omega)]; exact h.2.2 q (by omega)) (by rw [u3]; exact Lnk_27 h.2.1) hF
    rw [u3, ub] at hl
    obtain ⟨σ1, l1, l2, l3⟩ := hl
    have h1 : PIv σ1 (p + 1) := ⟨fun kk m q1 q2 q3 => by rw [l2 23 _ (by simp [P2628]), jup_o (by omega)]; exact h.1 kk m q1 q2 q3, l3, fun q hq => by
      rw [l2 27 _ (by simp [P2628])]
      by_cases e : q = p
      · subst e; exact jup_s _ _ _ _
      · rw [jup_k (by omega)]; exact h.2.2 q (by omega)⟩
    obtain ⟨σ', i1, i2, i3⟩ := ih fu (p + 1) σ1 (by omega) (by omega) (by omega) h1
    refine ⟨σ', ?_, jfr_trans (jfr_trans (jfr_up (jfr_refl _ _) (Or.inr (Or.inl rfl))) (jfr_mono l2 (fun a j q => by rcases q with q | q; exact Or.inl q; exact Or.inr (Or.inr q)))) i2, i3⟩
    rw [cpi_go (by omega) (by omega) w (by omega) (by omega) (by omega) (by omega) l1, show (p : Int) + 1 = ((p + 1 : Nat) : Int) by omega]
    exact i1
theorem cpi_out (hF : 5000 ≤ F) : ∀ (n fu b : Nat) (σ : jxS), n + b = 23 → n < fu → PIv σ (fo b) → ∃ σ', Positions_init_c64 F fu (ps (fo b) : Int) b σ = some (0, jup σ' 27 4224 (ps 4224 : Int)) ∧ jfr PIQ σ σ' ∧ PIv σ' 4224 := by
  intro n
  induction n with
  | zero =>
    intro fu b σ e1 e2 h
    obtain ⟨fu, rfl⟩ : ∃ k, fu = k + 1 := ⟨fu - 1, by omega⟩
    have e : b = 23 := by omega
    subst e
    rw [fo_23] at h ⊢
    refine ⟨σ, ?_, jfr_refl _ _, h⟩
    rw [Positions_init_c64, if_pos (show 22 < jw ((23 : Nat) : Int) by rw [jw_id (by omega) (by omega)]; omega)]
  | succ n ih =>
    intro fu b σ e1 e2 h
    obtain ⟨fu, rfl⟩ : ∃ k, fu = k + 1 := ⟨fu - 1, by omega⟩
    have f1 := fo_le (b := b + 1) (by omega)
    have fm := fo_mono (a := b) (b := b + 1) (by omega)
    have w := h.2.1.1 b (by omega)
    obtain ⟨σ1, a1, a2, a3⟩ := cpi_in (F := F) (b := b) (k64 := Positions_init_c64 F fu) (by omega) (by omega) (fo (b + 1) - fo b) F (fo b) σ (by omega) (Nat.le_refl _) (by omega) h
    obtain ⟨σ', i1, i2, i3⟩ := ih fu (b + 1) σ1 (by omega) (by omega) a3
    refine ⟨σ', ?_, jfr_trans a2 i2, i3⟩
    rw [Positions_init_c64, if_neg (show ¬ 22 < jw (b : Int) by rw [jw_id (by omega) (by omega)]; omega), if_pos (show 0 ≤ (b : Int) ∧ (b : Int) < 24 by omega), w, a1, show (b : Int) + 1 = ((b + 1 : Nat) : Int) by omega]
    exact i1
theorem ca_posinit {σ : jxS} (h23 : ∀ j : Int, 0 ≤ j → j < 322 → σ 23 j = 0) (h24 : σ 24 0 = 0) (h25 : σ 25 1 = 0) (hF : 6000 ≤ F) : ∃ σ', Positions_init F σ = some (0, σ') ∧ jfr (fun a _ => 23 ≤ a ∧ a ≤ 28) σ σ' ∧ PosOK σ' := by
  obtain ⟨σ1, a1, a2, a3, a4, a5⟩ := ca_ways (F := F) h23 h24 h25 (by omega)
  have f0 : fo 0 = 0 := by rw [fo_eq]; rfl
  have h0 : PIv σ1 (fo 0) := ⟨a3, ⟨a4, a5, fun h c _ _ _ _ q => by rw [f0] at q; omega, fun c _ _ q => by rw [f0] at q; omega⟩, fun q hq => by rw [f0] at hq; omega⟩
  obtain ⟨σ2, b1, b2, b3⟩ := cpi_out (F := F) (by omega) 23 F 0 σ1 (by omega) (by omega) h0
  refine ⟨jup σ2 27 4224 (ps 4224 : Int), ?_, jfr_up (jfr_trans (jfr_mono a2 (fun a j q => by omega)) (jfr_mono b2 (fun a j q => by simp only [PIQ] at q; omega))) (by omega), ?_⟩
  · rw [Positions_init, a1, jbs]
    dsimp only
    rw [f0, ps_zero] at b1
    exact b1
  · refine lnk_pos (fun q hq => ?_) (Lnk_27 b3.2.1)
    by_cases e : q = 4224
    · subst e; exact jup_s _ _ _ _
    · rw [jup_k (by omega)]; exact b3.2.2 q (by omega)
end PIN
