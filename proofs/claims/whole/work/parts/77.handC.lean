/-! The class: option, put, move, reply, clear, undo, hand. -/
section HC
variable {F : Nat} {σ : jxS} {M : Nat → List Nat} {c : Nat → Nat} {us : List (Nat → Nat)}
theorem CV_fr3 {σ' : jxS} {P : Nat → Int → Prop} (h : CV σ M) (f : jfr P σ σ') (hp : ∀ a j, P a j → a ≠ 14 ∧ a ≠ 15 ∧ ¬ (24 ≤ a ∧ a ≤ 28) ∧ a ≠ 33 ∧ a ≠ 34 ∧ a ≠ 35 ∧ a ≠ 37) : CV σ' M := by
  obtain ⟨h1, h2, ⟨o, o1, o2, o3⟩, ⟨g, g1, g2, g3⟩, h5⟩ := h
  refine ⟨PosOK_fr h1 f (fun a j _ _ q => by have := hp a j q; omega), RulC_fr h2 f (fun j q => by have := hp _ _ q; omega) (fun j q => by have := hp _ _ q; omega), ⟨o, ?_, o2, fun p hp' => ?_⟩, ⟨g, ?_, g2, fun p hp' => ?_⟩, fun p hp' => ?_⟩
  · rw [f 33 7 (fun q => by have := hp _ _ q; omega)]; exact o1
  · rw [f 34 _ (fun q => by have := hp _ _ q; omega)]; exact o3 p hp'
  · rw [f 33 8 (fun q => by have := hp _ _ q; omega)]; exact g1
  · rw [f 35 _ (fun q => by have := hp _ _ q; omega)]; exact g3 p hp'
  · rw [f 37 _ (fun q => by have := hp _ _ q; omega)]; exact h5 p hp'
theorem CV_HP {σ' : jxS} (h : CV σ M) (f : jfr HP σ σ') : CV σ' M := CV_fr3 h f (fun a j q => by simp only [HP] at q; omega)
noncomputable def optA (M : Nat → List Nat) (v1 v2 v3 : Int) : Int := if (1 ≤ v1 ∧ v1 ≤ 12) ∧ (0 ≤ v3 ∧ v3 ≤ 1) ∧ (0 ≤ v2 ∧ v2 < ((M v1.toNat).length : Int)) then (if v3 = 0 then (((M v1.toNat).getD v2.toNat 0 / 13 : Nat) : Int) else (((M v1.toNat).getD v2.toNat 0 % 13 : Nat) : Int)) else -1
theorem ca_atno {h : Nat} {v : Int} (hv : iR v) (hR : RulC σ M) (hM : MOK M) (h1 : 1 ≤ h) (h2 : h ≤ 12) (hk : ¬ (0 ≤ v ∧ v < ((M h).length : Int))) : Rules_moveAt F σ h v = some (-1, σ) := by
  have w0 := hR.1 h (by omega) (by omega)
  have w1 := hR.1 (h + 1) (by omega) (by omega)
  rw [show ((h + 1 : Nat) : Int) = (h : Int) + 1 by omega] at w1
  have ms := mst_s M h1
  have m3 := mst_203 hM
  have m4 := mst_mono M (a := h + 1) (b := 13) (by omega) (by omega)
  have wv : jw v = v := jw_id hv.1 hv.2
  rw [Rules_moveAt, lb_heap ⟨by omega, by omega⟩, jbs, if_pos (show 1 ≤ (h : Int) ∧ (h : Int) ≤ 12 by omega), wv]
  dsimp only
  rw [if_neg (show ¬ jw 1 = 0 by decide)]
  by_cases y : v < 0
  · rw [if_pos y]
  · rw [if_neg y, if_pos (show 0 ≤ ((h : Int) + 1) ∧ ((h : Int) + 1) < 14 by omega), if_pos (show 0 ≤ (h : Int) ∧ (h : Int) < 14 by omega), if_neg (show ¬ v < jw (σ 14 ((h : Int) + 1) - σ 14 (h : Int)) by rw [w0, w1, jw_id (by omega) (by omega)]; omega)]
theorem lq_option {v1 v2 v3 : Int} (h1 : iR v1) (h2 : iR v2) (h3 : iR v3) (hR : RulC σ M) (hM : MOK M) : LL1_option F σ v1 v2 v3 = some (optA M v1 v2 v3, σ) := by
  have w3 : jw v3 = v3 := jw_id h3.1 h3.2
  rw [LL1_option, lb_heap h1, jbs, w3, optA]
  dsimp only
  by_cases y : 1 ≤ v1 ∧ v1 ≤ 12
  · rw [if_pos y, if_neg (show ¬ jw 1 = 0 by decide)]
    by_cases z : v3 < 0
    · rw [if_pos z, if_neg (show ¬ ((1 ≤ v1 ∧ v1 ≤ 12) ∧ (0 ≤ v3 ∧ v3 ≤ 1) ∧ (0 ≤ v2 ∧ v2 < ((M v1.toNat).length : Int))) from fun q => by omega)]
    by_cases z2 : 1 < v3
    · rw [if_neg z, if_pos z2, if_neg (show ¬ ((1 ≤ v1 ∧ v1 ≤ 12) ∧ (0 ≤ v3 ∧ v3 ≤ 1) ∧ (0 ≤ v2 ∧ v2 < ((M v1.toNat).length : Int))) from fun q => by omega)]
    rw [if_neg z, if_neg z2]
    obtain ⟨h, rfl⟩ : ∃ k : Nat, v1 = k := ⟨v1.toNat, by omega⟩
    rw [Int.toNat_natCast]
    by_cases q : 0 ≤ v2 ∧ v2 < ((M h).length : Int)
    · obtain ⟨k, rfl⟩ : ∃ k : Nat, v2 = k := ⟨v2.toNat, by omega⟩
      rw [if_pos (show (1 ≤ (h : Int) ∧ (h : Int) ≤ 12) ∧ (0 ≤ v3 ∧ v3 ≤ 1) ∧ (0 ≤ (k : Int) ∧ (k : Int) < ((M h).length : Int)) from ⟨y, ⟨by omega, by omega⟩, q⟩), Int.toNat_natCast]
      have kl : k < (M h).length := by omega
      have ge : (M h)[k]? = some ((M h).getD k 0) := by
        rw [List.getD_eq_getElem?_getD, List.getElem?_eq_getElem kl]; rfl
      have at' := ca_at (F := F) hR hM (h := h) (by omega) (by omega) ge
      have mo := (hM h (by omega) (by omega)).2 _ (List.mem_of_getElem? ge)
      generalize (M h).getD k 0 = m at at' mo ge
      rw [at', jbs]
      dsimp only
      have m0 : (0 : Int) ≤ (m : Int) ∧ (m : Int) ≤ 2147483647 := by omega
      rw [if_neg (show ¬ jw (m : Int) < 0 by rw [jw_id (by omega) (by omega)]; omega)]
      have d1 := (jd13 m0.1 m0.2).1
      have d2 := (jd13 m0.1 m0.2).2
      rw [d1, d2]
      by_cases e : v3 = 0
      · rw [if_pos e, if_pos e]; rfl
      · rw [if_neg e, if_neg e]; rfl
    · rw [ca_atno h2 hR hM (by omega) (by omega) q, jbs, if_neg (show ¬ ((1 ≤ (h : Int) ∧ (h : Int) ≤ 12) ∧ (0 ≤ v3 ∧ v3 ≤ 1) ∧ (0 ≤ v2 ∧ v2 < ((M h).length : Int))) from fun r => q r.2.2)]
      rfl
  · rw [if_neg y, if_pos (show jw 0 = 0 from rfl), if_neg (fun q => y q.1)]
/-! acts on the hand: the answer, the hand, what can be undone -/
abbrev haT := Int × (Nat → Nat) × List (Nat → Nat)
noncomputable def putS (c : Nat → Nat) (us : List (Nat → Nat)) (v : Int) : haT := if (1 ≤ v ∧ v ≤ 12) ∧ (beans c : Int) + v ≤ 22 then ((beans c : Int) + v, cad c v.toNat, (c :: us).take 30) else (-1, c, us)
def actC (M : Nat → List Nat) (σ : jxS) (o : Option jxR) (s : haT) : Prop := ∃ σ', o = some (s.1, σ') ∧ jfr (fun a j => HP a j ∨ VQ a j) σ σ' ∧ CV σ' M ∧ HaC σ' s.2.1 s.2.2
theorem HaC_fr {σ' : jxS} {P : Nat → Int → Prop} (h : HaC σ c us) (f : jfr P σ σ') (hp : ∀ a j, P a j → ¬ (29 ≤ a ∧ a ≤ 30)) : HaC σ' c us := by
  obtain ⟨h1, h2, h3, h4, h5, t, t1, t2, t3⟩ := h
  refine ⟨?_, h2, h3, h4, ?_, t, t1, ?_, fun i u hu => ?_⟩
  · rw [f 29 2 (fun q => hp _ _ q (by omega))]; exact h1
  · rw [f 29 4 (fun q => hp _ _ q (by omega))]; exact h5
  · rw [f 29 3 (fun q => hp _ _ q (by omega))]; exact t2
  · rw [f 30 _ (fun q => hp _ _ q (by omega))]; exact t3 i u hu
theorem VQ_29 {a : Nat} {j : Int} (h : VQ a j) : ¬ (29 ≤ a ∧ a ≤ 30) := by
  rcases h with h | h
  · simp only [VP] at h; omega
  · simp only [jLP] at h; omega
theorem act_no {x : Int} (h : CV σ M) (hH : HaC σ c us) : actC M σ (some (x, σ)) (x, c, us) := ⟨σ, rfl, jfr_refl _ _, h, hH⟩
theorem lq_put {v : Int} (hv : iR v) (h : CV σ M) (hH : HaC σ c us) (hF : 100 ≤ F) : actC M σ (LL1_put F σ v) (putS c us v) := by
  have hb := hH.2.1
  rw [LL1_put, lb_heap hv, jbs, putS]
  dsimp only
  by_cases y : 1 ≤ v ∧ v ≤ 12
  · obtain ⟨g, rfl⟩ : ∃ k : Nat, v = k := ⟨v.toNat, by omega⟩
    have jn := po_join (F := F) h.1 (h := g) hb.1 hb.2 (by omega) (by omega)
    rw [if_pos y, if_neg (show ¬ jw 1 = 0 by decide), Hand_position, jbs]
    dsimp only
    rw [hH.1, jn, jbs]
    dsimp only
    by_cases z : beans c + g ≤ 22
    · have bc := beans_cad c (h := g) (by omega) (by omega)
      have rt := rank_top (c := cad c g) (by omega)
      obtain ⟨σ', a1, a2, a3⟩ := ca_become (F := F) (c' := cad c g) hH (okc_cad hb.1 (by omega) (by omega)) (by omega)
      have cv := CV_HP h a2
      have bo := po_beans (F := F) cv.1 (c := cad c g) (by omega) hF
      rw [if_pos z, if_pos (show (1 ≤ (g : Int) ∧ (g : Int) ≤ 12) ∧ (beans c : Int) + g ≤ 22 from ⟨y, by omega⟩), if_neg (show ¬ jw (rank (cad c g) : Int) < 0 by rw [jw_id (by omega) (by omega)]; omega), a1, jbs]
      dsimp only
      rw [bo, jbs, bc, Int.toNat_natCast]
      exact ⟨σ', by rw [Int.natCast_add], jfr_mono a2 (fun a j h => Or.inl h), cv, a3⟩
    · rw [if_neg z, if_pos (show jw (-1) < 0 by decide), if_neg (show ¬ ((1 ≤ (g : Int) ∧ (g : Int) ≤ 12) ∧ (beans c : Int) + g ≤ 22) from fun q => by omega)]
      exact act_no h hH
  · rw [if_neg y, if_pos (show jw 0 = 0 from rfl), if_neg (fun q => y q.1)]
    exact act_no h hH
noncomputable def mvS (M : Nat → List Nat) (c : Nat → Nat) (us : List (Nat → Nat)) (h a b : Int) : haT := if ((1 ≤ h ∧ h ≤ 12) ∧ (0 ≤ a ∧ a ≤ b ∧ b ≤ 12) ∧ a + b < h) ∧ 13 * a.toNat + b.toNat ∈ M h.toNat ∧ 0 < c h.toNat then (if los M (rank (tgt c h.toNat (13 * a.toNat + b.toNat))) then 0 else 1, tgt c h.toNat (13 * a.toNat + b.toNat), (c :: us).take 30) else (-1, c, us)
theorem lb_isMove {d : Nat} {dg : Nat → Nat} {al nv : Nat → Nat → Bool} {v1 v2 v3 : Int} (h1 : 1 ≤ v1) (h12 : v1 ≤ 12) (h2 : iR v2) (h3 : iR v3) (hA : RulA σ d dg al nv) : Rules_isMove F σ v1 v2 v3 = some (if (0 ≤ v2 ∧ v2 ≤ v3 ∧ v3 ≤ 12) ∧ v2 + v3 < v1 ∧ 13 * v2.toNat + v3.toNat ∈ Mof (isMv d dg al nv) v1.toNat then 1 else 0, σ) := by
  have w2 : jw v2 = v2 := jw_id h2.1 h2.2
  have w3 : jw v3 = v3 := jw_id h3.1 h3.2
  have w1 : jw v1 = v1 := jw_id (by omega) (by omega)
  rw [Rules_isMove, w2, w3]
  by_cases y : v2 < 0
  · rw [if_pos y, if_neg (fun q => by omega)]
  by_cases y2 : v3 < v2
  · rw [if_neg y, if_pos y2, if_neg (fun q => by omega)]
  by_cases y3 : 12 < v3
  · rw [if_neg y, if_neg y2, if_pos y3, if_neg (fun q => by omega)]
  rw [if_neg y, if_neg y2, if_neg y3, lb_heap ⟨by omega, by omega⟩, jbs, if_pos (show 1 ≤ v1 ∧ v1 ≤ 12 by omega)]
  dsimp only
  rw [if_neg (show ¬ jw 1 = 0 by decide), w1, jw_id (x := v2 + v3) (by omega) (by omega)]
  by_cases y4 : v2 + v3 < v1
  · obtain ⟨g, rfl⟩ : ∃ k : Nat, v1 = k := ⟨v1.toNat, by omega⟩
    obtain ⟨a, rfl⟩ : ∃ k : Nat, v2 = k := ⟨v2.toNat, by omega⟩
    obtain ⟨b, rfl⟩ : ∃ k : Nat, v3 = k := ⟨v3.toNat, by omega⟩
    have mm := Mof_mem (P := isMv d dg al nv) (h := g) (a := a) (b := b) (by omega) (by omega) (by omega)
    rw [if_pos y4, ca_allows hA (by omega) (by omega) (by omega) (by omega), jbs, Int.toNat_natCast, Int.toNat_natCast, Int.toNat_natCast]
    dsimp only
    cases e : isMv d dg al nv g (13 * a + b)
    · rw [if_neg (show ¬ false = true by decide), if_pos (Or.inl rfl), if_neg (fun q => by rw [e] at mm; exact absurd (mm.mp q.2.2) (by decide))]
    · rw [if_pos (show true = true from rfl), if_pos (Or.inr rfl), if_pos ⟨⟨by omega, by omega, by omega⟩, y4, mm.mpr e⟩]
  · rw [if_neg y4, if_neg (fun q => y4 q.2.1)]
theorem lq_move {d : Nat} {dg : Nat → Nat} {al nv : Nat → Nat → Bool} {v1 v2 v3 : Int} (h1 : iR v1) (h2 : iR v2) (h3 : iR v3) (hA : RulA σ d dg al nv) (h : CV σ (Mof (isMv d dg al nv))) (hH : HaC σ c us) (hF : 5000 ≤ F) : actC (Mof (isMv d dg al nv)) σ (LL1_move F σ v1 v2 v3) (mvS (Mof (isMv d dg al nv)) c us v1 v2 v3) := by
  have hb := hH.2.1
  have hM := Mof_ok (isMv d dg al nv)
  rw [LL1_move, lb_heap h1, jbs, mvS]
  dsimp only
  by_cases y : 1 ≤ v1 ∧ v1 ≤ 12
  · rw [if_pos y, if_neg (show ¬ jw 1 = 0 by decide), lb_isMove y.1 y.2 h2 h3 hA, jbs]
    dsimp only
    generalize hMe : Mof (isMv d dg al nv) = M at h hM
    by_cases z : (0 ≤ v2 ∧ v2 ≤ v3 ∧ v3 ≤ 12) ∧ v2 + v3 < v1 ∧ 13 * v2.toNat + v3.toNat ∈ M v1.toNat
    · rw [if_pos z, if_neg (show ¬ jw 1 = 0 by decide), Hand_position, jbs]
      dsimp only
      obtain ⟨g, rfl⟩ : ∃ k : Nat, v1 = k := ⟨v1.toNat, by omega⟩
      obtain ⟨a, rfl⟩ : ∃ k : Nat, v2 = k := ⟨v2.toNat, by omega⟩
      obtain ⟨b, rfl⟩ : ∃ k : Nat, v3 = k := ⟨v3.toNat, by omega⟩
      rw [Int.toNat_natCast, Int.toNat_natCast, Int.toNat_natCast] at z ⊢
      have wo := po_without (F := F) h.1 (h := g) hb.1 hb.2 (by omega) (by omega) (by omega)
      rw [hH.1, wo, jbs]
      dsimp only
      by_cases q : 0 < c g
      · have m13 : (13 * a + b) / 13 = a ∧ (13 * a + b) % 13 = b := by omega
        obtain ⟨t1, t2⟩ := tgt_beans (c := c) (h := g) (m := 13 * a + b) hb.1 (by omega) (by omega) q (by omega)
        have rt := rank_top (c := csb c g) (by have := beans_csb (c := c) (h := g) (by omega) (by omega) q; omega)
        have mv := ca_mv (F := F) h.1 (c := c) (h := g) (m := 13 * a + b) hb.1 hb.2 (by omega) (by omega) q (by omega)
        rw [show ((13 * a + b : Nat) : Int) = 13 * (a : Int) + b by omega] at mv
        obtain ⟨σ1, a1, a2, a3⟩ := ca_become (F := F) (c' := tgt c g (13 * a + b)) hH t1 (by omega)
        have cv := CV_HP h a2
        have rt2 := rank_top (c := tgt c g (13 * a + b)) (by omega)
        obtain ⟨σ2, b1, b2, b3⟩ := ca_loses (F := F) hM cv rt2 hF
        rw [if_pos q, if_neg (show ¬ jw (rank (csb c g) : Int) < 0 by rw [jw_id (by omega) (by omega)]; omega), mv, jbs]
        dsimp only
        rw [a1, jbs]
        dsimp only
        rw [b1, jbs, if_pos (show ((1 ≤ (g : Int) ∧ (g : Int) ≤ 12) ∧ (0 ≤ (a : Int) ∧ (a : Int) ≤ b ∧ (b : Int) ≤ 12) ∧ (a : Int) + b < g) ∧ 13 * a + b ∈ M g ∧ 0 < c g from ⟨⟨y, z.1, z.2.1⟩, z.2.2, q⟩)]
        refine ⟨σ2, ?_, jfr_trans (jfr_mono a2 (fun a j h => Or.inl h)) (jfr_mono b2 (fun a j h => Or.inr (Or.inl h))), b3, HaC_fr a3 b2 (fun a j h => VQ_29 (Or.inl h))⟩
        dsimp only
        cases los M (rank (tgt c g (13 * a + b))) <;> rfl
      · rw [if_neg q, if_pos (show jw (-1) < 0 by decide), if_neg (fun r => q r.2.2)]
        exact act_no h hH
    · rw [if_neg z, if_pos (show jw 0 = 0 from rfl), if_neg (fun r => z ⟨r.1.2.1, r.1.2.2, r.2.1⟩)]
      exact act_no h hH
  · rw [if_neg y, if_pos (show jw 0 = 0 from rfl), if_neg (fun q => y q.1.1)]
    exact act_no h hH
noncomputable def repS (M : Nat → List Nat) (c : Nat → Nat) (us : List (Nat → Nat)) : haT := match (ops M c).find? (lsf M c) with
  | none => (-2, c, us)
  | some o => ((ocode o : Int), tgt c o.1 o.2, (c :: us).take 30)
theorem findIdx_at {α : Type} {p : α → Bool} {x : α} : ∀ {l : List α}, l.find? p = some x → l[l.findIdx p]? = some x := by
  intro l
  induction l with
  | nil => intro h; cases h
  | cons a l ih =>
    intro h
    rw [List.find?_cons] at h
    rw [List.findIdx_cons]
    cases e : p a
    · rw [e] at h
      simp only [cond_false] at h ⊢
      rw [List.getElem?_cons_succ]
      exact ih h
    · rw [e] at h
      simp only [cond_true] at h ⊢
      rw [List.getElem?_cons_zero]
      exact h
theorem lq_reply (hM : MOK M) (h : CV σ M) (hH : HaC σ c us) (hF : 5000 ≤ F) : actC M σ (LL1_reply F σ) (repS M c us) := by
  have hb := hH.2.1
  have ol := ops_len hM c
  obtain ⟨σ1, a1, a2, a3, a4⟩ := ca_list41 (F := F) hM h hb.1 hb.2 (by omega)
  obtain ⟨σ2, b1, b2, b3⟩ := cr_loop (F := F) hM hb.1 hb.2 hF rfl (ops M c) F 0 σ1 a3 a4 rfl (Nat.add_zero _) (Nat.lt_of_le_of_lt ol (by omega))
  have f2 : jfr VQ σ σ2 := jfr_trans (jfr_mono a2 (fun a j h => Or.inr h)) (jfr_mono b1 (fun a j h => Or.inl h))
  have hH2 := HaC_fr hH f2 (fun a j h => VQ_29 h)
  have b3' : Board_makeReply_c16 F F 0 σ1 = _ := b3
  rw [LL1_reply, Board_makeReply, Hand_position, jbs]
  dsimp only
  rw [hH.1, a1, jbs]
  dsimp only
  rw [b3', repS]
  cases e : (ops M c).find? (lsf M c) with
  | none => exact ⟨σ2, rfl, jfr_mono f2 (fun a j h => Or.inr h), b2, hH2⟩
  | some o =>
    have fi := findIdx_at e
    have om := List.mem_of_find?_eq_some e
    obtain ⟨t1, t2⟩ := ops_tgt hM hb.1 om
    obtain ⟨σ3, d1, d2, d3⟩ := ca_become (F := F) (c' := tgt c o.1 o.2) hH2 t1 (by omega)
    have hO3 : OL σ3 M 41 c := OL_fr (OL_VP a4 b1) d2 (by simp only [HP]; omega) (fun j => by simp only [HP]; omega) (fun j => by simp only [HP]; omega)
    obtain ⟨_, t4, _⟩ := ol_at (F := F) hM hO3 fi
    dsimp only
    rw [d1, jbs]
    dsimp only
    rw [show ((0 : Nat) : Int) + ((List.findIdx (lsf M c) (ops M c) : Nat) : Int) = ((List.findIdx (lsf M c) (ops M c) : Nat) : Int) from Int.zero_add _, t4, jbs]
    exact ⟨σ3, rfl, jfr_trans (jfr_mono f2 (fun a j h => Or.inr h)) (jfr_mono d2 (fun a j h => Or.inl h)), CV_HP b2 d2, d3⟩
noncomputable def clS (c : Nat → Nat) (us : List (Nat → Nat)) : haT := if beans c = 0 then (-1, c, us) else ((beans c : Int), fun _ => 0, (c :: us).take 30)
theorem okc_00 : okc (fun _ => 0) := by
  have := un_okc 4224
  rw [un_far (Nat.le_refl _)] at this
  exact this
theorem beans_00 : beans (fun _ => 0) = 0 := by rw [beans_eq]; decide
theorem lq_clear (h : CV σ M) (hH : HaC σ c us) (hF : 100 ≤ F) : actC M σ (LL1_clear F σ) (clS c us) := by
  have hb := hH.2.1
  have rt := rank_top hb.2
  have rp := rank_pos (c := c)
  rw [LL1_clear, Hand_position, jbs, clS]
  dsimp only
  rw [hH.1]
  by_cases y : beans c = 0
  · rw [if_pos y, if_pos (show jw (rank c : Int) = 0 by rw [jw_id (by omega) (by omega)]; omega)]
    exact act_no h hH
  · have bo := po_beans (F := F) h.1 (c := c) hb.2 hF
    obtain ⟨σ3, d1, d2, d3⟩ := ca_become (F := F) (c' := fun _ => 0) hH okc_00 (by rw [beans_00]; omega)
    rw [rank_00] at d1
    have d1' : Hand_become F σ 0 = _ := d1
    rw [if_neg y, if_neg (show ¬ jw (rank c : Int) = 0 by rw [jw_id (by omega) (by omega)]; omega), Hand_position, jbs]
    dsimp only
    rw [hH.1, bo, jbs]
    dsimp only
    rw [d1', jbs]
    exact ⟨σ3, rfl, jfr_mono d2 (fun a j h => Or.inl h), CV_HP h d2, d3⟩
def unS (c : Nat → Nat) (us : List (Nat → Nat)) : haT := match us with
  | [] => (-1, c, [])
  | u :: t => ((t.length : Int), u, t)
theorem lq_undo (h : CV σ M) (hH : HaC σ c us) : actC M σ (LL1_undo F σ) (unS c us) := by
  rw [LL1_undo]
  cases us with
  | nil =>
    have w : σ 29 4 = 0 := hH.2.2.2.2.1
    rw [Hand_takeBack, w, if_pos (show jw 0 = 0 from rfl), jbs]
    exact act_no h hH
  | cons u t =>
    obtain ⟨σ3, d1, d2, d3⟩ := ca_back (F := F) hH
    rw [d1, jbs]
    exact ⟨σ3, rfl, jfr_mono d2 (fun a j h => Or.inl h), CV_HP h d2, d3⟩
noncomputable def hanA (c : Nat → Nat) (v : Int) : Int := if 0 ≤ v ∧ v ≤ 12 then (if v = 0 then (beans c : Int) else (c v.toNat : Int)) else -1
theorem lq_hand {v : Int} (hv : iR v) (h : CV σ M) (hH : HaC σ c us) (hF : 100 ≤ F) : LL1_hand F σ v = some (hanA c v, σ) := by
  have hb := hH.2.1
  rw [LL1_hand, lb_heap0 hv, jbs, hanA]
  dsimp only
  by_cases y : 0 ≤ v ∧ v ≤ 12
  · obtain ⟨g, rfl⟩ : ∃ k : Nat, v = k := ⟨v.toNat, by omega⟩
    rw [if_pos y, if_pos y, if_neg (show ¬ jw 1 = 0 by decide), Hand_position, jbs]
    dsimp only
    rw [hH.1, po_tally h.1 hb.1 hb.2 (by omega) hF, jbs, Int.toNat_natCast]
    by_cases z : g = 0
    · rw [if_pos z, if_pos (show (g : Int) = 0 by omega)]
    · rw [if_neg z, if_neg (show ¬ (g : Int) = 0 by omega)]
  · rw [if_neg y, if_neg y, if_pos (show jw 0 = 0 from rfl)]
end HC
