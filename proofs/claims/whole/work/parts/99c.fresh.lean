/-! Fresh objects; the first game. -/
section FRS
variable {F : Nat}
theorem jsM1_o {a : Nat} {j : Int} (h2 : a ≠ 2) (h22 : a ≠ 22) (h23 : a ≠ 23) : jsM1 a j = 0 := by
  unfold jsM1
  simp only [jup, h2, h22, h23, false_and, if_false]
  rfl
theorem jsM1_tw : TW jsM1 := by
  intro t ht
  match t, ht with
  | 0, _ => exact ⟨rfl, fun k s h => by simp [t2] at h⟩
  | 1, _ =>
    refine ⟨rfl, fun k s h => ?_⟩
    match k, h with
    | 0, h => obtain rfl := Option.some.inj (show some 0 = some s from h); rfl
    | k + 1, h => simp [t2] at h
  | 2, _ =>
    refine ⟨rfl, fun k s h => ?_⟩
    match k, h with
    | 0, h => obtain rfl := Option.some.inj (show some 1 = some s from h); rfl
    | k + 1, h => simp [t2] at h
  | 3, _ =>
    refine ⟨rfl, fun k s h => ?_⟩
    match k, h with
    | 0, h => obtain rfl := Option.some.inj (show some 0 = some s from h); rfl
    | 1, h => obtain rfl := Option.some.inj (show some 1 = some s from h); rfl
    | k + 2, h => simp [t2] at h
  | 4, _ =>
    refine ⟨rfl, fun k s h => ?_⟩
    match k, h with
    | 0, h => obtain rfl := Option.some.inj (show some 1 = some s from h); rfl
    | 1, h => obtain rfl := Option.some.inj (show some 2 = some s from h); rfl
    | 2, h => obtain rfl := Option.some.inj (show some 3 = some s from h); rfl
    | k + 3, h => simp [t2] at h
  | 5, _ =>
    refine ⟨rfl, fun k s h => ?_⟩
    match k, h with
    | 0, h => obtain rfl := Option.some.inj (show some 3 = some s from h); rfl
    | 1, h => obtain rfl := Option.some.inj (show some 4 = some s from h); rfl
    | k + 2, h => simp [t2] at h
theorem jsM1_wd : WdT jsM1 := by
  have h : ∀ i : Nat, i < 24 → jsM1 2 (i : Int) = wdb.getD i 0 := by decide +kernel
  intro i x hx
  have hl := (List.getElem?_eq_some_iff.mp hx).1
  rw [h i hl, List.getD_eq_getElem?_getD, hx]
  rfl
/-- a fresh object of the class, a fresh one of the reference -/
theorem fresh_R0 (hF : 100 ≤ F) : ∃ σm, Model_init F jsM1 = some (0, σm) ∧ R0 (jup jz 0 3 0) σm := by
  obtain ⟨σm, a1, a2, a3, a4⟩ := rk_ways (F := F) (σ := jsM1) (jsM1_o (by omega) (by omega) (by omega)) hF
  have z : ∀ a j, a ≠ 2 → a ≠ 22 → a ≠ 23 → a ≠ 13 → a ≠ 14 → ¬ (a = 0 ∧ j = 24) → σm a j = 0 := fun a j h1 h2 h3 h4 h5 h6 => by
    rw [a2 a j (by omega)]
    exact jsM1_o h1 h2 h3
  refine ⟨σm, by rw [Model_init, a1, jbs], [], 0, by omega, TpC_0 rfl, rfl, ⟨⟨by simp [tpS], fun i x hx => by simp [tpS] at hx⟩, z 0 1 (by omega) (by omega) (by omega) (by omega) (by omega) (by omega), Nat.zero_le _, fun b hb => by simp at hb⟩, z 0 43 (by omega) (by omega) (by omega) (by omega) (by omega) (by omega), z 0 13 (by omega) (by omega) (by omega) (by omega) (by omega) (by omega), ⟨fun h h1 h2 => z 24 _ (by omega) (by omega) (by omega) (by omega) (by omega) (by omega), Nat.zero_le _, z 0 37 (by omega) (by omega) (by omega) (by omega) (by omega) (by omega), fun i u h hu => by simp at hu⟩, z 0 40 (by omega) (by omega) (by omega) (by omega) (by omega) (by omega), a3, TW_F jsM1_tw a2 (fun j => by omega) (fun j => by omega), WdT_fr jsM1_wd a2 (fun j => by omega), a4⟩
def JBP (a : Nat) (_ : Int) : Prop := a = 32 ∨ 48 ≤ a
theorem jsB_fr (σ : jxS) : jfr JBP σ (jsB σ) := by
  unfold jsB
  exact jfr_up (jfr_up (jfr_up (jfr_up (jfr_up (jfr_up (jfr_up (jfr_up (jfr_up (jfr_up (jfr_up (jfr_up (jfr_refl _ _) (Or.inr (by decide))) (Or.inl rfl)) (Or.inr (by decide))) (Or.inl rfl)) (Or.inr (by decide))) (Or.inl rfl)) (Or.inr (by decide))) (Or.inl rfl)) (Or.inr (by decide))) (Or.inl rfl)) (Or.inr (by decide))) (Or.inl rfl)
theorem jsB_v (σ : jxS) : ∀ n : Nat, 1 ≤ n → n ≤ 6 → jsB σ 32 ((n : Int) - 1) = (qid n : Int) ∧ jsB σ (qid n) 0 = (n : Int) := by
  intro n h1 h2
  match n, h1, h2 with
  | 1, _, _ => exact ⟨rfl, rfl⟩
  | 2, _, _ => exact ⟨rfl, rfl⟩
  | 3, _, _ => exact ⟨rfl, rfl⟩
  | 4, _, _ => exact ⟨rfl, rfl⟩
  | 5, _, _ => exact ⟨rfl, rfl⟩
  | 6, _, _ => exact ⟨rfl, rfl⟩
/-- a board that was just made -/
theorem fresh_BdC {σ : jxS} (hP : PosOK σ) (h1 : σ 16 0 = 0) (h2 : σ 17 0 = 0) (h3 : σ 18 0 = 0) (h4 : σ 20 0 = 0) : BdC (jsB σ) := by
  have f := jsB_fr σ
  exact ⟨PosOK_fr hP f (fun a j q1 q2 q => by simp only [JBP] at q; omega), jsB_v σ, ⟨by rw [f 16 0 (by simp [JBP])]; exact h1, by rw [f 17 0 (by simp [JBP])]; exact h2, by rw [f 18 0 (by simp [JBP])]; exact h3⟩, by rw [f 20 0 (by simp [JBP])]; exact h4⟩
theorem z_gameS {σ σm : jxS} {l : List Nat} {x : Nat} {ls : List lnT} (hz : ∀ a, 9 ≤ a → ∀ j, σ a j = 0) (hx : x < 2147483648) (t1 : TpC σ (tpN l)) (w3 : σ 0 3 = (x : Int)) (t2 : TpQ σm l) (w43 : σm 0 43 = (x : Int)) (hW : WT σm) (hT : TW σm) (hw : WdT σm) (hA : σm 0 24 = 4224) (ht : txt l = .inr ls) (hF : 6000 ≤ F) :
    ∃ σ1 σ2 σ3 σ5 σm', Reader_readText F σ = some ((ls.length : Int), σ1) ∧ Tape_cutTo F σ1 0 = some (1, σ2) ∧ (1 ≤ ls.length ∧ ls.length ≤ 16) ∧ (∀ a, 9 ≤ a → ∀ j, σ2 a j = 0) ∧ Positions_init F σ2 = some (0, σ3) ∧ (∀ a, 29 ≤ a → ∀ j, σ3 a j = 0) ∧ Board_begin F (jsB σ3) = some (0, σ5) ∧ Model_game F σm = some ((ls.length : Int), σm') ∧ R1 σ5 σm' := by
  have hl := t2.2.2.2
  obtain ⟨y, σ1, a1, a2, a3⟩ := rc_text (F := F) t1 hl (by omega)
  rw [ht] at a3
  obtain ⟨q1, q2, q3⟩ := a3
  have ll : (tpN l).length = l.length := List.length_map ..
  have l2 : l.length ≤ 200 := ll ▸ t1.2.1
  have ok := txt_ok hl l2 ht
  have o1 := ok.1
  have o2 := ok.2.1
  have u1 : TpC σ1 (tpN l) := TpC_fr t1 a2 (by simp [RTP]) (fun j => by simp only [RTP]; omega)
  have cu := ca_cut (F := F) (v := 0) ⟨by omega, by omega⟩ u1
  rw [if_pos (show (0 : Int) ≤ 0 ∧ (0 : Int) ≤ (l.length : Int) by omega), if_pos (show (0 : Int) ≤ 0 ∧ (0 : Int) ≤ (l.length : Int) by omega)] at cu
  have f2 : jfr (fun a j => RTP a j ∨ (a = 1 ∧ j = 1)) σ (jup σ1 1 1 0) := jfr_up (jfr_mono a2 (fun a j q => Or.inl q)) (Or.inr ⟨rfl, rfl⟩)
  have f11 : jfr (fun a j => a = 1) σ1 (jup σ1 1 1 0) := jfr_up (jfr_refl _ _) rfl
  generalize hs2 : jup σ1 1 1 0 = σ2 at cu f2 f11
  have w11 : σ2 1 1 = 0 := by rw [← hs2, jup_s]
  have z2 : ∀ a, 9 ≤ a → ∀ j, σ2 a j = 0 := fun a ha j => by rw [f2 a j (by simp only [RTP]; omega)]; exact hz a ha j
  obtain ⟨σ3, p1, p2, p3⟩ := ca_posinit (F := F) (σ := σ2) (fun j _ _ => z2 23 (by omega) j) (z2 24 (by omega) 0) (z2 25 (by omega) 1) hF
  have z3 : ∀ a, 29 ≤ a → ∀ j, σ3 a j = 0 := fun a ha j => by rw [p2 a j (by omega)]; exact z2 a (by omega) j
  have hb := fresh_BdC p3 (by rw [p2 16 0 (by omega)]; exact z2 16 (by omega) 0) (by rw [p2 17 0 (by omega)]; exact z2 17 (by omega) 0) (by rw [p2 18 0 (by omega)]; exact z2 18 (by omega) 0) (by rw [p2 20 0 (by omega)]; exact z2 20 (by omega) 0)
  have f4 := jsB_fr σ3
  have g4 : ∀ a j, a ≠ 1 → a ≤ 8 → jsB σ3 a j = σ1 a j := fun a j h1 h2 => by rw [f4 a j (by simp only [JBP]; omega), p2 a j (by omega), f11 a j h1]
  have hL2 : LsC (jsB σ3) ls := fun i y hy => by
    obtain ⟨t1, t2, t3⟩ := q2 i y hy
    exact ⟨by rw [g4 5 _ (by omega) (by omega)]; exact t1, fun q => by obtain ⟨p1, p2, p3⟩ := t2 q; exact ⟨by rw [g4 6 _ (by omega) (by omega)]; exact p1, by rw [g4 7 _ (by omega) (by omega)]; exact p2, by rw [g4 8 _ (by omega) (by omega)]; exact p3⟩, fun q => by obtain ⟨p1, p2⟩ := t3 q; exact ⟨by rw [g4 3 _ (by omega) (by omega)]; exact p1, fun i y hy => by rw [g4 4 _ (by omega) (by omega)]; exact p2 i y hy⟩⟩
  obtain ⟨σ5, b1, b2, b3⟩ := ca_begin (F := F) ok hL2 (by rw [g4 3 7 (by omega) (by omega)]; exact q3) hb (by omega)
  obtain ⟨σm', c1, c2, c3, c4⟩ := rq_gameS (F := F) t2 hw hW hT hA ht (by omega)
  refine ⟨σ1, σ2, σ3, σ5, σm', by rw [a1, q1], cu, ⟨by omega, by omega⟩, z2, p1, z3, b1, c1, ls, _, _, _, [], x, ok, hx, gam_CI b3 (TpC_0 (by rw [b2 1 1 (by simp [BGP]), f4 1 1 (by simp [JBP]), p2 1 1 (by omega)]; exact w11)) ?_, gam_MI c4 (WdT_fr hw c2 (fun j => by simp [GMP])) (TW_F hT c2 (fun j => by simp [GMP]) (fun j => by simp [GMP])) (by rw [c2 0 24 (by simp [GMP])]; exact hA) c3 ?_⟩
  · rw [b2 0 3 (by simp [BGP]), f4 0 3 (by simp [JBP]), p2 0 3 (by omega), f2 0 3 (by simp [RTP])]
    exact w3
  · rw [c2 0 43 (by simp [GMP])]
    exact w43
end FRS
