/-! the rest -/
section HR
variable {F : Nat} {σ : jxS} {M : Nat → List Nat} {c : Nat → Nat} {us : List (Nat → Nat)}
theorem rb_after {h m : Nat} {c' : Nat → Nat} (hH : HaR σ c us) (hc' : c' = tgt c h m) (h1 : 1 ≤ h) (h2 : h ≤ 12) (hp : 0 < c h) (hm : m < 169) (hF : 1000 ≤ F) : ∃ σ1 σ2, Model_keepsAct F σ = some (0, σ1) ∧ Model_changes F 24 σ1 h m 1 = some (0, σ2) ∧ jfr HRP σ σ2 ∧ HaR σ2 c' ((c :: us).take 30) := by
  obtain ⟨σ1, a1, a2, a3⟩ := ra_keeps (F := F) hH hF
  have ch := mo_chg (F := F) (a := 24) (σ := σ1) (h := h) (e := 1) (m := m) (by omega) (by omega) hm
  have hd := chg_Hd (m := m) a3.1 h1 h2 hp
  have fc : jfr (fun a _ => a = 24) σ1 (chg σ1 24 h ((m / 13 : Nat) : Int) ((m % 13 : Nat) : Int) 1) := jfr_ag (chg_ag _ _ _ _ _ _) (fun a j h => by simpa using h)
  exact ⟨σ1, _, a1, ch, jfr_trans (jfr_mono a2 (fun a j => KP_HRP)) (jfr_mono fc (fun a j h => Or.inl h)), HaR_24 a3 fc (by rw [hc']; exact hd)⟩
theorem rq_move {v1 v2 v3 : Int} (h1 : iR v1) (h2 : iR v2) (h3 : iR v3) (hI : RI σ M) (hM : MOK M) (hH : HaR σ c us) (hc : okc c) (hb : beans c ≤ 22) (hF : 1000 ≤ F) : actR σ (Model_move F σ v1 v2 v3) (mvS M c us v1 v2 v3) := by
  obtain ⟨i1, i2, i3, i4, i5⟩ := hI
  rw [Model_move, rb_isMove h1 h2 h3 i5 i3 hM (by omega), jbs, mvS]
  dsimp only
  by_cases y : ((1 ≤ v1 ∧ v1 ≤ 12) ∧ (0 ≤ v2 ∧ v2 ≤ v3 ∧ v3 ≤ 12) ∧ v2 + v3 < v1) ∧ 13 * v2.toNat + v3.toNat ∈ M v1.toNat
  · rw [if_pos y, if_neg (show ¬ jw 1 = 0 by decide)]
    obtain ⟨⟨⟨y1, y2⟩, ⟨y3, y4, y5⟩, y6⟩, y7⟩ := y
    obtain ⟨g, rfl⟩ : ∃ k : Nat, v1 = k := ⟨v1.toNat, by omega⟩
    obtain ⟨a, rfl⟩ : ∃ k : Nat, v2 = k := ⟨v2.toNat, by omega⟩
    obtain ⟨b, rfl⟩ : ∃ k : Nat, v3 = k := ⟨v3.toNat, by omega⟩
    rw [Int.toNat_natCast, Int.toNat_natCast, Int.toNat_natCast] at y7 ⊢
    have wc := hH.1 g (by omega) (by omega)
    have cl := count_le (c := c) (h := g) (by omega) (by omega)
    rw [if_pos (show 0 ≤ (g : Int) ∧ (g : Int) < 13 by omega)]
    by_cases q : 0 < c g
    · obtain ⟨t1, t2⟩ := tgt_beans (c := c) (h := g) (m := 13 * a + b) hc (by omega) (by omega) q (by omega)
      have rt2 := rank_top (c := tgt c g (13 * a + b)) (by omega)
      obtain ⟨σ1, σ2, a1, a2, a3, a4⟩ := rb_after (F := F) (h := g) (m := 13 * a + b) hH rfl (by omega) (by omega) q (by omega) hF
      rw [show ((13 * a + b : Nat) : Int) = 13 * (a : Int) + b by omega] at a2
      have hW2 : WT σ2 := WT_fr i1 a3 (fun j => by simp [HRP]) (fun j => by simp [HRP])
      have hV2 : VT σ2 M 4224 := VT_fr i2 a3 (fun a j _ _ => by simp only [HRP]; omega)
      have hn : Model_handNumber F σ2 = some ((rank (tgt c g (13 * a + b)) : Int), σ2) := by
        rw [Model_handNumber, mo_num hW2 a4.1 (by omega) (by omega), jbs]
      have wv := (hV2 _ rt2).1
      rw [if_neg (show ¬ jw (σ 24 (g : Int)) = 0 by rw [wc, jw_id (by omega) (by omega)]; omega), a1, jbs]
      dsimp only
      rw [a2, jbs]
      dsimp only
      rw [hn, jbs, if_pos (show ((1 ≤ (g : Int) ∧ (g : Int) ≤ 12) ∧ (0 ≤ (a : Int) ∧ (a : Int) ≤ b ∧ (b : Int) ≤ 12) ∧ (a : Int) + b < g) ∧ 13 * a + b ∈ M g ∧ 0 < c g from ⟨⟨⟨y1, y2⟩, ⟨y3, y4, y5⟩, y6⟩, y7, q⟩)]
      dsimp only
      rw [if_pos (show 0 ≤ (rank (tgt c g (13 * a + b)) : Int) ∧ (rank (tgt c g (13 * a + b)) : Int) < 4600 by omega)]
      refine ⟨σ2, ?_, a3, a4⟩
      simp only [wv]
      cases los M (rank (tgt c g (13 * a + b))) <;> rfl
    · rw [if_pos (show jw (σ 24 (g : Int)) = 0 by rw [wc, jw_id (by omega) (by omega)]; omega), if_neg (fun r => q r.2.2)]
      exact ract_no hH
  · rw [if_neg y, if_pos (show jw 0 = 0 from rfl), if_neg (fun r => y ⟨r.1, r.2.1⟩)]
    exact ract_no hH
theorem frl_find (X : Option jxR) : ∀ (l : List (Nat × Nat)), frl M c σ l X = match l.find? (lsf M c) with
    | none => X
    | some o => some ((ocode o : Int), σ) := by
  intro l
  induction l with
  | nil => rfl
  | cons o l ih =>
    rw [frl, List.find?_cons]
    cases e : lsf M c o
    · rw [if_neg (by decide)]; exact ih
    · rw [if_pos rfl]
theorem rq_reply (hI : RI σ M) (hM : MOK M) (hH : HaR σ c us) (hc : okc c) (hb : beans c ≤ 22) (hF : 1000 ≤ F) : actR σ (Model_reply F σ) (repS M c us) := by
  obtain ⟨i1, i2, i3, i4, i5⟩ := hI
  rw [Model_reply, if_neg i5, rk_first ⟨i1, i3, i2, hH.1⟩ hM hc hb hF, frl_find, repS]
  cases e : (ops M c).find? (lsf M c) with
  | none =>
    dsimp only
    rw [jbs]
    exact ract_no hH
  | some o =>
    have om := List.mem_of_find?_eq_some e
    obtain ⟨⟨⟨m1, m2⟩, m3⟩, m4⟩ := ops_mem.mp om
    have mo := (hM o.1 m1 m2).2 o.2 m4
    obtain ⟨oc, p2, p3⟩ := op_code hM om
    obtain ⟨σ1, σ2, a1, a2, a3, a4⟩ := rb_after (F := F) (h := o.1) (m := o.2) hH rfl m1 m2 m3 (by omega) hF
    obtain ⟨dv, dr, dn⟩ := cd_dv oc p2 p3
    dsimp only
    rw [jbs]
    dsimp only
    rw [if_neg dn, a1, jbs]
    dsimp only
    rw [dv, dr, a2, jbs]
    exact ⟨σ2, rfl, a3, a4⟩
theorem rq_clear (hH : HaR σ c us) (hb : beans c ≤ 22) (hF : 1000 ≤ F) : actR σ (Model_clear F σ) (clS c us) := by
  rw [Model_clear, mo_beans hH.1 (by omega), jbs, clS]
  dsimp only
  by_cases y : beans c = 0
  · rw [if_pos y, if_pos (show jw (beans c : Int) = 0 by rw [jw_id (by omega) (by omega)]; omega)]
    exact ract_no hH
  · obtain ⟨σ1, a1, a2, a3⟩ := ra_keeps (F := F) hH hF
    obtain ⟨σ2, b1, b2, b3⟩ := rh_clear_c (F := F) (v := beans c) 13 F 0 σ1 (by omega) (by omega) (by omega) (fun j a b => by omega)
    rw [if_neg y, if_neg (show ¬ jw (beans c : Int) = 0 by rw [jw_id (by omega) (by omega)]; omega), a1, jbs]
    exact ⟨σ2, b1, jfr_trans (jfr_mono a2 (fun a j => KP_HRP)) (jfr_mono b2 (fun a j h => Or.inl h)), HaR_24 a3 b2 (fun g g1 g2 => by rw [b3 g (by omega) (by omega)]; rfl)⟩
theorem rq_undo (hH : HaR σ c us) (hF : 1000 ≤ F) : actR σ (Model_undo F σ) (unS c us) := by
  cases us with
  | nil =>
    have w : σ 0 37 = 0 := hH.2.2.1
    rw [Model_undo, w, if_pos (show jw 0 = 0 from rfl)]
    exact ract_no hH
  | cons u t =>
    obtain ⟨σ3, d1, d2, d3⟩ := ra_undo (F := F) hH hF
    rw [d1]
    exact ⟨σ3, rfl, jfr_mono d2 (fun a j h => by simp only [UP] at h; simp only [HRP]; omega), d3⟩
theorem rq_hand {v : Int} (hv : iR v) (hH : Hd σ 24 c) (hF : 100 ≤ F) : Model_hand F σ v = some (hanA c v, σ) := by
  have wv : jw v = v := jw_id hv.1 hv.2
  rw [Model_hand, wv, mo_isIn hv ⟨by omega, by omega⟩ ⟨by omega, by omega⟩, jbs, hanA]
  dsimp only
  by_cases y : 1 ≤ v ∧ v ≤ 12
  · obtain ⟨g, rfl⟩ : ∃ k : Nat, v = k := ⟨v.toNat, by omega⟩
    rw [if_pos y, if_neg (show ¬ jw 1 = 0 by decide), if_pos (show 0 ≤ (g : Int) ∧ (g : Int) < 13 by omega), if_pos (show 0 ≤ (g : Int) ∧ (g : Int) ≤ 12 by omega), if_neg (show ¬ (g : Int) = 0 by omega), Int.toNat_natCast, hH g (by omega) (by omega)]
  · rw [if_neg y, if_pos (show jw 0 = 0 from rfl)]
    by_cases z : v = 0
    · rw [if_pos z, mo_beans hH hF, jbs, if_pos (show 0 ≤ v ∧ v ≤ 12 by omega), if_pos z]
    · rw [if_neg z, if_neg (show ¬ (0 ≤ v ∧ v ≤ 12) by omega)]
end HR
