/-! keep, apart, simplest, count, draws, period: the class. -/
section KC
variable {F : Nat} {σ : jxS} {M : Nat → List Nat} {c : Nat → Nat} {us : List (Nat → Nat)} {ks : Nat → Option (Nat → Nat)}
/-- what is kept, in the class -/
def KeC (σ : jxS) (ks : Nat → Option (Nat → Nat)) : Prop := ∀ k : Nat, k < 3 → (ks k = none → σ 31 k = -1) ∧ ∀ u, ks k = some u → σ 31 k = (rank u : Int) ∧ okc u ∧ beans u ≤ 22
noncomputable def keeK (c : Nat → Nat) (ks : Nat → Option (Nat → Nat)) (v : Int) : Nat → Option (Nat → Nat) := fun k => if 0 ≤ v ∧ v ≤ 2 ∧ k = v.toNat then some c else ks k
noncomputable def keeA (c : Nat → Nat) (v : Int) : Int := if 0 ≤ v ∧ v ≤ 2 then (beans c : Int) else -1
theorem KeC_fr {σ' : jxS} {P : Nat → Int → Prop} (h : KeC σ ks) (f : jfr P σ σ') (hp : ∀ j, ¬ P 31 j) : KeC σ' ks := by
  intro k hk
  obtain ⟨a, b⟩ := h k hk
  exact ⟨fun e => by rw [f 31 _ (hp _)]; exact a e, fun u e => by rw [f 31 _ (hp _)]; exact b u e⟩
def P31 (a : Nat) (_ : Int) : Prop := a = 31
theorem lq_keep {v : Int} (hv : iR v) (h : CV σ M) (hH : HaC σ c us) (hK : KeC σ ks) (hF : 100 ≤ F) : ∃ σ', LL1_keep F σ v = some (keeA c v, σ') ∧ jfr P31 σ σ' ∧ KeC σ' (keeK c ks v) := by
  have hb := hH.2.1
  have wv : jw v = v := jw_id hv.1 hv.2
  have no : ¬ (0 ≤ v ∧ v ≤ 2) → keeK c ks v = ks := fun q => by
    funext k
    rw [keeK, if_neg (fun r => q ⟨r.1, r.2.1⟩)]
  rw [LL1_keep, wv, keeA]
  by_cases y : v < 0
  · rw [if_pos y, if_neg (show ¬ (0 ≤ v ∧ v ≤ 2) by omega), no (by omega)]
    exact ⟨σ, rfl, jfr_refl _ _, hK⟩
  by_cases z : v < 3
  · obtain ⟨g, rfl⟩ : ∃ k : Nat, v = k := ⟨v.toNat, by omega⟩
    have f1 : jfr P31 σ (jup σ 31 g (rank c)) := jfr_up (jfr_refl _ _) rfl
    have cv : CV (jup σ 31 g (rank c)) M := CV_fr3 h f1 (fun a j q => by simp only [P31] at q; omega)
    have ku : Hand_keepUnder F σ g = some (0, jup σ 31 g (rank c)) := by
      rw [Hand_keepUnder, wv, if_neg y, if_pos z, if_pos (show 0 ≤ (g : Int) ∧ (g : Int) < 3 by omega), hH.1]
    have hp : (jup σ 31 g (rank c)) 29 2 = (rank c : Int) := by rw [jup_o (by omega)]; exact hH.1
    rw [if_neg y, if_pos z, ku, jbs, Hand_position]
    dsimp only
    rw [jbs]
    dsimp only
    rw [hp, po_beans cv.1 hb.2 hF, jbs, if_pos (show 0 ≤ (g : Int) ∧ (g : Int) ≤ 2 by omega)]
    refine ⟨_, rfl, f1, fun k hk => ?_⟩
    dsimp only
    by_cases e : k = g
    · subst e
      rw [jup_s, keeK, if_pos ⟨by omega, by omega, by omega⟩]
      exact ⟨fun q => (by cases q), fun u q => (by rw [← Option.some.inj q]; exact ⟨rfl, hb⟩)⟩
    · rw [jup_k (by omega), keeK, if_neg (fun q => e (by have := q.2.2; omega))]
      exact hK k hk
  · rw [if_neg y, if_neg z, if_neg (show ¬ (0 ≤ v ∧ v ≤ 2) by omega), no (by omega)]
    exact ⟨σ, rfl, jfr_refl _ _, hK⟩
theorem lb_mark {p : Int} (hp : -1 ≤ p) (hp2 : p < 4224) : Values_hasMark F σ p = some (if 0 ≤ p ∧ p < 677 then 1 else 0, σ) := by
  have wp : jw p = p := jw_id (by omega) (by omega)
  rw [Values_hasMark, wp]
  by_cases y : p < 0
  · rw [if_pos y, if_neg (by omega)]
  · by_cases z : p < 677
    · rw [if_neg y, if_pos z, if_pos (by omega)]
    · rw [if_neg y, if_neg z, if_neg (by omega)]
theorem rank_677b {u : Nat → Nat} : rank u < 677 ↔ beans u ≤ 15 := by
  have := rank_beans (c := u) (b := 16)
  rw [fo_16] at this
  omega
noncomputable def apaA (M : Nat → List Nat) (c : Nat → Nat) (ks : Nat → Option (Nat → Nat)) (v1 v2 : Int) : Int := if (0 ≤ v2 ∧ v2 ≤ 12) ∧ (0 ≤ v1 ∧ v1 ≤ 2) then (match ks v1.toNat with
    | none => -1
    | some u => if 15 < beans c ∨ 15 < beans u then -3 else telA (fbt M (rank c) (rank u) 45 0) v2) else -1
theorem fbt_b (M : Nat → List Nat) (p q : Nat) : ∀ n t, -1 ≤ fbt M p q n t ∧ fbt M p q n t < (t : Int) + n + 1 := by
  intro n
  induction n with
  | zero => intro t; rw [fbt]; omega
  | succ n ih =>
    intro t
    rw [fbt_s]
    have := ih (t + 1)
    split <;> omega
theorem fal_b (M : Nat → List Nat) (p : Nat) : ∀ n t, -1 ≤ fal M p n t ∧ fal M p n t < (t : Int) + n + 1 := by
  intro n
  induction n with
  | zero => intro t; rw [fal]; omega
  | succ n ih =>
    intro t
    rw [fal_s]
    have := ih (t + 1)
    split <;> omega
theorem lq_apart {v1 v2 : Int} (h1 : iR v1) (h2 : iR v2) (hM : MOK M) (h : CV σ M) (hH : HaC σ c us) (hK : KeC σ ks) (hF : 5000 ≤ F) : vres M σ (LL1_apart F σ v1 v2) (apaA M c ks v1 v2) := by
  have hb := hH.2.1
  have w1 : jw v1 = v1 := jw_id h1.1 h1.2
  have rt := rank_top hb.2
  rw [LL1_apart, lb_heap0 h2, jbs, apaA]
  dsimp only
  by_cases y : 0 ≤ v2 ∧ v2 ≤ 12
  · rw [if_pos y, if_neg (show ¬ jw 1 = 0 by decide)]
    by_cases z : 0 ≤ v1 ∧ v1 ≤ 2
    · obtain ⟨k, rfl⟩ : ∃ k : Nat, v1 = k := ⟨v1.toNat, by omega⟩
      obtain ⟨k1, k2⟩ := hK k (by omega)
      have ku : Hand_keptUnder F σ k = some (σ 31 k, σ) := by
        rw [Hand_keptUnder, w1, if_neg (by omega), if_pos (show (k : Int) < 3 by omega), if_pos (show 0 ≤ (k : Int) ∧ (k : Int) < 3 by omega)]
      rw [ku, jbs, if_pos (show (0 ≤ v2 ∧ v2 ≤ 12) ∧ (0 ≤ (k : Int) ∧ (k : Int) ≤ 2) from ⟨y, z⟩), Int.toNat_natCast]
      dsimp only
      cases e : ks k with
      | none =>
        rw [k1 e, if_pos (show jw (-1) < 0 by decide)]
        exact vres_ret h
      | some u =>
        obtain ⟨u1, u2, u3⟩ := k2 u e
        have ru := rank_top u3
        have r6 := rank_677b (u := u)
        have c6 := rank_677b (u := c)
        rw [u1, if_neg (show ¬ jw (rank u : Int) < 0 by rw [jw_id (by omega) (by omega)]; omega), lb_mark (by omega) (by omega), jbs]
        dsimp only
        by_cases q : 15 < beans u
        · rw [if_neg (show ¬ (0 ≤ (rank u : Int) ∧ (rank u : Int) < 677) by omega), if_pos (show jw 0 = 0 from rfl), if_pos (Or.inr q)]
          exact vres_ret h
        · rw [if_pos (show 0 ≤ (rank u : Int) ∧ (rank u : Int) < 677 by omega), if_neg (show ¬ jw 1 = 0 by decide), Hand_position, jbs]
          dsimp only
          rw [hH.1, lb_mark (by omega) (by omega), jbs]
          dsimp only
          by_cases q2 : 15 < beans c
          · rw [if_neg (show ¬ (0 ≤ (rank c : Int) ∧ (rank c : Int) < 677) by omega), if_pos (show jw 0 = 0 from rfl), if_pos (Or.inl q2)]
            exact vres_ret h
          · rw [if_pos (show 0 ≤ (rank c : Int) ∧ (rank c : Int) < 677 by omega), if_neg (show ¬ jw 1 = 0 by decide), if_neg (show ¬ (15 < beans c ∨ 15 < beans u) by omega), Hand_position, jbs]
            dsimp only
            rw [hH.1]
            refine vres_bind (ca_between hM h (by omega) (by omega) hF) (fun σ1 f1 h1 => ?_)
            dsimp only
            have fb := fbt_b M (rank c) (rank u) 45 0
            rw [lb_tally h1.1 (by omega) (by omega) y.1 y.2 (by omega), jbs]
            exact vres_ret h1
    · have ku : Hand_keptUnder F σ v1 = some (-1, σ) := by
        rw [Hand_keptUnder, w1]
        by_cases q : v1 < 0
        · rw [if_pos q]
        · rw [if_neg q, if_neg (show ¬ v1 < 3 by omega)]
      rw [ku, jbs]
      dsimp only
      rw [if_pos (show jw (-1) < 0 by decide), if_neg (fun q => z q.2)]
      exact vres_ret h
  · rw [if_neg y, if_pos (show jw 0 = 0 from rfl), if_neg (fun q => y q.1)]
    exact vres_ret h
noncomputable def simA (M : Nat → List Nat) (c : Nat → Nat) (v : Int) : Int := if 0 ≤ v ∧ v ≤ 12 then (if 15 < beans c then -3 else telA (fal M (rank c) 45 0) v) else -1
theorem lq_simplest {v : Int} (hv : iR v) (hM : MOK M) (h : CV σ M) (hH : HaC σ c us) (hF : 5000 ≤ F) : vres M σ (LL1_simplest F σ v) (simA M c v) := by
  have hb := hH.2.1
  have rt := rank_top hb.2
  have c6 := rank_677b (u := c)
  rw [LL1_simplest, lb_heap0 hv, jbs, simA]
  dsimp only
  by_cases y : 0 ≤ v ∧ v ≤ 12
  · rw [if_pos y, if_pos y, if_neg (show ¬ jw 1 = 0 by decide), Hand_position, jbs]
    dsimp only
    rw [hH.1, lb_mark (by omega) (by omega), jbs]
    dsimp only
    by_cases q2 : 15 < beans c
    · rw [if_neg (show ¬ (0 ≤ (rank c : Int) ∧ (rank c : Int) < 677) by omega), if_pos (show jw 0 = 0 from rfl), if_pos q2]
      exact vres_ret h
    · rw [if_pos (show 0 ≤ (rank c : Int) ∧ (rank c : Int) < 677 by omega), if_neg (show ¬ jw 1 = 0 by decide), if_neg q2, Hand_position, jbs]
      dsimp only
      rw [hH.1]
      refine vres_bind (ca_alike hM h (by omega) hF) (fun σ1 f1 h1 => ?_)
      dsimp only
      have fb := fal_b M (rank c) 45 0
      rw [lb_tally h1.1 (by omega) (by omega) y.1 y.2 (by omega), jbs]
      exact vres_ret h1
  · rw [if_neg y, if_neg y, if_pos (show jw 0 = 0 from rfl)]
    exact vres_ret h
/-! count -/
def kbt (ks : Nat → Option (Nat → Nat)) : Nat := (if (ks 0).isSome then 1 else 0) + (if (ks 1).isSome then 2 else 0) + (if (ks 2).isSome then 4 else 0)
theorem lb_bits (hK : KeC σ ks) (hF : 10 ≤ F) : Hand_keptBits F σ = some ((kbt ks : Int), σ) := by
  have st : ∀ (k fu : Nat) (v : Int), k < 3 → Hand_keptBits_c4 F (fu + 1) v k σ = Hand_keptBits_c4 F fu (if (ks k).isSome then jor v (jshl 1 k) else v) ((k : Int) + 1) σ := by
    intro k fu v hk
    obtain ⟨k1, k2⟩ := hK k hk
    rw [Hand_keptBits_c4, if_pos (show jw (k : Int) < 3 by rw [jw_id (by omega) (by omega)]; omega), if_pos (show 0 ≤ (k : Int) ∧ (k : Int) < 3 by omega)]
    cases e : ks k with
    | none =>
      rw [if_pos (show jw (σ 31 (k : Int)) < 0 by rw [k1 e]; decide)]
      rfl
    | some u =>
      obtain ⟨u1, u2, u3⟩ := k2 u e
      have ru := rank_top u3
      rw [if_neg (show ¬ jw (σ 31 (k : Int)) < 0 by rw [u1, jw_id (by omega) (by omega)]; omega)]
      rfl
  obtain ⟨F', rfl⟩ : ∃ k, F = k + 4 := ⟨F - 4, by omega⟩
  have s0 : Hand_keptBits_c4 (F' + 4) (F' + 4) 0 0 σ = _ := st 0 (F' + 3) 0 (by omega)
  have s1 := fun v => st 1 (F' + 2) v (by omega)
  have s2 := fun v => st 2 (F' + 1) v (by omega)
  rw [Hand_keptBits, s0]
  have s1' : ∀ v, Hand_keptBits_c4 (F' + 4) (F' + 3) v (((0 : Nat) : Int) + 1) σ = _ := s1
  have s2' : ∀ v, Hand_keptBits_c4 (F' + 4) (F' + 2) v (((1 : Nat) : Int) + 1) σ = _ := s2
  rw [s1', s2', Hand_keptBits_c4, if_neg (show ¬ jw (((2 : Nat) : Int) + 1) < 3 by decide)]
  unfold kbt
  cases (ks 0).isSome <;> cases (ks 1).isSome <;> cases (ks 2).isSome <;> rfl
noncomputable def couA (d e : Nat) (x : Int) (us : List (Nat → Nat)) (ks : Nat → Option (Nat → Nat)) (l : List Int) (v : Int) : Int := if v = 0 then (d : Int) else if v = 1 then (e : Int) else if v = 2 then x else if v = 3 then (us.length : Int) else if v = 4 then (kbt ks : Int) else if v = 5 then (l.length : Int) else -1
theorem lq_count {v x : Int} {d e : Nat} {l : List Int} (hv : iR v) (wd : σ 10 8 = (d : Int)) (we : σ 10 9 = (e : Int)) (wx : σ 0 3 = x) (hH : HaC σ c us) (hK : KeC σ ks) (wl : σ 1 1 = (l.length : Int)) (hF : 10 ≤ F) : LL1_count F σ v = some (couA d e x us ks l v, σ) := by
  have wv : jw v = v := jw_id hv.1 hv.2
  rw [LL1_count, wv, couA]
  by_cases e0 : v = 0
  · rw [if_pos e0, if_pos e0, Rules_digitCount, jbs]
    dsimp only
    rw [wd]
  rw [if_neg e0, if_neg e0]
  by_cases e1 : v = 1
  · rw [if_pos e1, if_pos e1, Rules_extraLines, jbs]
    dsimp only
    rw [we]
  rw [if_neg e1, if_neg e1]
  by_cases e2 : v = 2
  · rw [if_pos e2, if_pos e2, wx]
  rw [if_neg e2, if_neg e2]
  by_cases e3 : v = 3
  · rw [if_pos e3, if_pos e3, Hand_undoable, jbs]
    dsimp only
    rw [hH.2.2.2.2.1]
  rw [if_neg e3, if_neg e3]
  by_cases e4 : v = 4
  · rw [if_pos e4, if_pos e4, lb_bits hK hF, jbs]
  rw [if_neg e4, if_neg e4]
  by_cases e5 : v = 5
  · rw [if_pos e5, if_pos e5, Tape_size, jbs]
    dsimp only
    rw [wl]
  rw [if_neg e5, if_neg e5]
/-! draws, period -/
theorem lq_draws {v x : Int} (hv : iR v) (wx : σ 0 3 = x) : LL1_draws F σ v = if v < 0 then some (-1, σ) else some (x, jup σ 0 3 v) := by
  rw [LL1_draws, jw_id hv.1 hv.2, wx]
noncomputable def pedA (d e : Nat) (dg : Nat → Nat) (v : Int) : Int := if 0 ≤ v ∧ v ≤ 1 then (if 0 < e then -3 else perA d dg v) else -1
theorem lq_period {v : Int} {d e : Nat} {dg : Nat → Nat} (hv : iR v) (hd : d ≤ 8) (dl : ∀ i, dg i < 8) (wd : σ 10 8 = (d : Int)) (wg : ∀ i : Nat, i < d → σ 11 i = (dg i : Int)) (we : σ 10 9 = (e : Int)) (he : e ≤ 16) (h : CyC σ d dg) (hF : 5000 ≤ F) : ∃ σ', LL1_period F σ v = some (pedA d e dg v, σ') ∧ jfr CYQ σ σ' ∧ CyC σ' d dg := by
  have wv : jw v = v := jw_id hv.1 hv.2
  rw [LL1_period, wv, pedA]
  by_cases y : v < 0
  · rw [if_pos y, if_neg (show ¬ (0 ≤ v ∧ v ≤ 1) by omega)]
    exact ⟨σ, rfl, jfr_refl _ _, h⟩
  by_cases z : 1 < v
  · rw [if_neg y, if_pos z, if_neg (show ¬ (0 ≤ v ∧ v ≤ 1) by omega)]
    exact ⟨σ, rfl, jfr_refl _ _, h⟩
  rw [if_neg y, if_neg z, Rules_extraLines, jbs, if_pos (show 0 ≤ v ∧ v ≤ 1 by omega)]
  dsimp only
  by_cases q : 0 < e
  · rw [if_pos (show 0 < jw (σ 10 9) by rw [we, jw_id (by omega) (by omega)]; omega), if_pos q]
    exact ⟨σ, rfl, jfr_refl _ _, h⟩
  · obtain ⟨σ', a1, a2, a3⟩ := ca_period (F := F) (v := v) hd dl wd wg (by omega) h hF
    rw [if_neg (show ¬ 0 < jw (σ 10 9) by rw [we, jw_id (by omega) (by omega)]; omega), if_neg q, a1, jbs]
    exact ⟨σ', rfl, a2, a3⟩
end KC
