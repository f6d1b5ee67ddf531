/-! The class's game: a board begins. -/
section BG
variable {F : Nat} {σ : jxS}
/-- what every board keeps -/
def BdC (σ : jxS) : Prop := PosOK σ ∧ (∀ n : Nat, 1 ≤ n → n ≤ 6 → σ 32 ((n : Int) - 1) = (qid n : Int) ∧ σ (qid n) 0 = (n : Int)) ∧ (σ 16 0 = 0 ∧ σ 17 0 = 0 ∧ σ 18 0 = 0) ∧ σ 20 0 = 0
theorem BdC_fr {σ' : jxS} {P : Nat → Int → Prop} (h : BdC σ) (f : jfr P σ σ') (h1 : ∀ a j, P a j → ¬ (24 ≤ a ∧ a ≤ 28) ∧ a ≠ 32 ∧ ¬ (48 ≤ a ∧ j = 0) ∧ ¬ (16 ≤ a ∧ a ≤ 18) ∧ a ≠ 20) : BdC σ' := by
  obtain ⟨a, b, c, d⟩ := h
  refine ⟨PosOK_fr a f (fun x j x1 x2 q => (h1 x j q).1 ⟨x1, x2⟩), fun n n1 n6 => ⟨?_, ?_⟩, ⟨?_, ?_, ?_⟩, ?_⟩
  · rw [f 32 _ (fun q => (h1 _ _ q).2.1 rfl)]; exact (b n n1 n6).1
  · rw [f _ 0 (fun q => (h1 _ _ q).2.2.1 ⟨by unfold qid; omega, rfl⟩)]; exact (b n n1 n6).2
  · rw [f 16 0 (fun q => (h1 _ _ q).2.2.2.1 (by omega))]; exact c.1
  · rw [f 17 0 (fun q => (h1 _ _ q).2.2.2.1 (by omega))]; exact c.2.1
  · rw [f 18 0 (fun q => (h1 _ _ q).2.2.2.1 (by omega))]; exact c.2.2
  · rw [f 20 0 (fun q => (h1 _ _ q).2.2.2.2 rfl)]; exact d
def QFP (a : Nat) (j : Int) : Prop := 48 ≤ a ∧ 7 ≤ j ∧ j ≤ 9
theorem cbg_loop : ∀ (n fu j : Nat) (σ : jxS), n + j = 6 → n < fu → (∀ m : Nat, 1 ≤ m → m ≤ 6 → σ 32 ((m : Int) - 1) = (qid m : Int)) → (∀ m : Nat, 1 ≤ m → m ≤ j → σ (qid m) 7 = 0 ∧ σ (qid m) 8 = -9) → ∃ σ', Board_begin_c31 F fu j σ = some (0, jup (jup σ' 9 8 (-2)) 9 9 (-2)) ∧ jfr QFP σ σ' ∧ ∀ m : Nat, 1 ≤ m → m ≤ 6 → σ' (qid m) 7 = 0 ∧ σ' (qid m) 8 = -9 := by
  intro n
  induction n with
  | zero =>
    intro fu j σ e1 e2 h32 h
    obtain ⟨fu, rfl⟩ : ∃ k, fu = k + 1 := ⟨fu - 1, by omega⟩
    refine ⟨σ, ?_, jfr_refl _ _, fun m m1 m2 => h m m1 (by omega)⟩
    rw [Board_begin_c31, if_neg (show ¬ jw (j : Int) < 6 by rw [jw_id (by omega) (by omega)]; omega)]
  | succ n ih =>
    intro fu j σ e1 e2 h32 h
    obtain ⟨fu, rfl⟩ : ∃ k, fu = k + 1 := ⟨fu - 1, by omega⟩
    have w := h32 (j + 1) (by omega) (by omega)
    rw [show ((j + 1 : Nat) : Int) - 1 = (j : Int) by omega] at w
    have nz : ¬ σ 32 (j : Int) = 0 := by rw [w]; unfold qid; omega
    have q48 : 48 ≤ qid (j + 1) := by unfold qid; omega
    have f1 : jfr QFP σ (jup (jup (jup σ (qid (j + 1)) 7 0) (qid (j + 1)) 8 (-9)) (qid (j + 1)) 9 0) := jfr_up (jfr_up (jfr_up (jfr_refl _ _) ⟨q48, by omega, by omega⟩) ⟨q48, by omega, by omega⟩) ⟨q48, by omega, by omega⟩
    obtain ⟨σ', i1, i2, i3⟩ := ih fu (j + 1) (jup (jup (jup σ (qid (j + 1)) 7 0) (qid (j + 1)) 8 (-9)) (qid (j + 1)) 9 0) (by omega) (by omega) (fun m m1 m2 => by rw [f1 32 _ (by simp only [QFP]; omega)]; exact h32 m m1 m2) (fun m m1 m2 => by
      by_cases e : m = j + 1
      · subst e
        exact ⟨by rw [jup_k (by omega), jup_k (by omega), jup_s], by rw [jup_k (by omega), jup_s]⟩
      · have ne : qid m ≠ qid (j + 1) := by unfold qid; omega
        rw [jup_o ne, jup_o ne, jup_o ne, jup_o ne, jup_o ne, jup_o ne]
        exact h m m1 (by omega))
    refine ⟨σ', ?_, jfr_trans f1 i2, i3⟩
    have c0 : 0 ≤ (j : Int) ∧ (j : Int) < 6 := by omega
    rw [Board_begin_c31, if_pos (show jw (j : Int) < 6 by rw [jw_id (by omega) (by omega)]; omega), if_pos c0, if_neg nz, w, jsel_qid (by omega) (by omega), if_pos c0, if_neg (by rw [← w]; exact nz), jsel_qid (by omega) (by omega), Quotient_forget, jbs]
    exact i1
def BGP (a : Nat) (j : Int) : Prop := (a = 9 ∧ (j = 8 ∨ j = 9)) ∨ (10 ≤ a ∧ a ≤ 18) ∨ (a = 19 ∧ j = 2) ∨ (a = 29 ∧ (j = 2 ∨ j = 3 ∨ j = 4)) ∨ a = 31 ∨ (a = 33 ∧ (j = 7 ∨ j = 8)) ∨ a = 37 ∨ (48 ≤ a ∧ 7 ≤ j ∧ j ≤ 9)
def gamC (σ : jxS) (ls : List lnT) : Prop := CV σ (gM ls) ∧ QB σ (gM ls) ∧ HaC σ (fun _ => 0) [] ∧ KeC σ (fun _ => none) ∧ RulN σ (gM ls) ∧ RulL σ (gM ls) ∧ RulA σ (gD ls) (gG ls) (gA ls) (gN ls) ∧ σ 10 9 = ((ls.length - 1 : Nat) : Int) ∧ CyC σ (gD ls) (gG ls) ∧ OdC σ (gM ls) ∧ BdC σ
theorem ca_begin {ls : List lnT} (ok : lsOK ls) (hL : LsC σ ls) (w : σ 3 7 = (ls.length : Int)) (hb : BdC σ) (hF : 5000 ≤ F) : ∃ σ', Board_begin F σ = some (0, σ') ∧ jfr BGP σ σ' ∧ gamC σ' ls := by
  obtain ⟨σ1, a1, a2, a3, a4, a5, a6, a7, a8⟩ := ca_learn (F := F) ok hL w hb.2.2.1 hF
  generalize hs2 : jup (jup (jup (jup σ1 19 2 0) 29 2 0) 29 3 0) 29 4 0 = σ2
  have f2 : jfr (fun a j => (a = 19 ∧ j = 2) ∨ (a = 29 ∧ (j = 2 ∨ j = 3 ∨ j = 4))) σ1 σ2 := by
    rw [← hs2]
    exact jfr_up (jfr_up (jfr_up (jfr_up (jfr_refl _ _) (by omega)) (by omega)) (by omega)) (by omega)
  have v2 : σ2 29 2 = 0 := by rw [← hs2, jup_k (by omega), jup_k (by omega), jup_s]
  have v3 : σ2 29 3 = 0 := by rw [← hs2, jup_k (by omega), jup_s]
  have v4 : σ2 29 4 = 0 := by rw [← hs2, jup_s]
  have v19 : σ2 19 2 = 0 := by rw [← hs2, jup_o (by omega), jup_o (by omega), jup_o (by omega), jup_s]
  obtain ⟨σ3, b1, b2, b3⟩ := ca_fill (F := F) (a := 31) (v := -1) (N := 3) σ2 (by decide) (by omega) hF
  obtain ⟨σ4, c1, c2, c3⟩ := ca_fillL (F := F) (a := 37) (v := -1) (N := 677) (jup (jup σ3 33 7 0) 33 8 0) (by decide) (by omega) hF
  have f4 : jfr (fun a j => (a = 19 ∧ j = 2) ∨ (a = 29 ∧ (j = 2 ∨ j = 3 ∨ j = 4)) ∨ a = 31 ∨ (a = 33 ∧ (j = 7 ∨ j = 8)) ∨ a = 37) σ1 σ4 := jfr_trans (jfr_mono f2 (fun a j q => by omega)) (jfr_trans (jfr_ag b2 (fun a j q => by simp at q; omega)) (jfr_trans (jfr_up (jfr_up (jfr_refl _ _) (by omega)) (by omega)) (jfr_ag c2 (fun a j q => by simp at q; omega))))
  have g4 : jfr BGP σ σ4 := jfr_trans (jfr_mono a2 (fun a j q => by simp only [RLP1] at q; simp only [BGP]; omega)) (jfr_mono f4 (fun a j q => by simp only [BGP]; omega))
  obtain ⟨σ5, d1, d2, d3⟩ := cbg_loop (F := F) 6 F 0 σ4 (by omega) (by omega) (fun m m1 m2 => by rw [g4 32 _ (by simp only [BGP]; omega)]; exact (hb.2.1 m m1 m2).1) (fun m m1 m2 => by omega)
  generalize hs6 : jup (jup σ5 9 8 (-2)) 9 9 (-2) = σ6 at d1
  have f6 : jfr (fun a j => a = 9 ∧ (j = 8 ∨ j = 9)) σ5 σ6 := by
    rw [← hs6]
    exact jfr_up (jfr_up (jfr_refl _ _) (by omega)) (by omega)
  have f46 : jfr (fun a j => (48 ≤ a ∧ 7 ≤ j ∧ j ≤ 9) ∨ (a = 9 ∧ (j = 8 ∨ j = 9))) σ4 σ6 := jfr_trans (jfr_mono d2 (fun a j q => Or.inl q)) (jfr_mono f6 (fun a j q => Or.inr q))
  have g6 : jfr BGP σ σ6 := jfr_trans g4 (jfr_mono f46 (fun a j q => by simp only [BGP]; omega))
  have f16 : jfr (fun a j => ¬ (10 ≤ a ∧ a ≤ 18)) σ1 σ6 := jfr_trans (jfr_mono f4 (fun a j q => by omega)) (jfr_mono f46 (fun a j q => by omega))
  have bd1 : BdC σ1 := by
    have := BdC_fr (P := fun a j => 10 ≤ a ∧ a ≤ 15) (σ := jup (jup (jup σ1 16 0 0) 17 0 0) 18 0 0) (σ' := σ1)
    obtain ⟨p1, p2, p3, p4⟩ := hb
    exact ⟨PosOK_fr p1 a2 (fun a j q1 q2 => by simp only [RLP1]; omega), fun n n1 n6 => ⟨by rw [a2 32 _ (by simp only [RLP1]; omega)]; exact (p2 n n1 n6).1, by rw [a2 _ 0 (by simp only [RLP1]; unfold qid; omega)]; exact (p2 n n1 n6).2⟩, a7, by rw [a2 20 0 (by simp only [RLP1]; omega)]; exact p4⟩
  have bd6 : BdC σ6 := BdC_fr (BdC_fr bd1 f4 (fun a j q => by omega)) f46 (fun a j q => by omega)
  have e4 : ∀ a j, ¬ ((48 ≤ a ∧ 7 ≤ j ∧ j ≤ 9) ∨ (a = 9 ∧ (j = 8 ∨ j = 9))) → σ6 a j = σ4 a j := fun a j q => f46 a j q
  have w33a : σ6 33 7 = 0 := by rw [e4 33 7 (by omega), c2 33 (by simp), jup_k (by omega), jup_s]
  have w33b : σ6 33 8 = 0 := by rw [e4 33 8 (by omega), c2 33 (by simp), jup_s]
  have rc6 : RulC σ6 (gM ls) := RulC_fr a3 f16 (fun j => by omega) (fun j => by omega)
  refine ⟨σ6, ?_, g6, ⟨bd6.1, rc6, ⟨0, w33a, Nat.zero_le _, fun p hp => absurd hp (Nat.not_lt_zero _)⟩, ⟨0, w33b, Nat.zero_le _, fun p hp => absurd hp (Nat.not_lt_zero _)⟩, fun p hp => Or.inl ?_⟩, fun n n1 n6 => ⟨(bd6.2.1 n n1 n6).1, (bd6.2.1 n n1 n6).2, Or.inl ?_, Or.inl ?_⟩, ⟨?_, ⟨okc_00, by rw [beans_00]; omega⟩, fun u hu => absurd hu List.not_mem_nil, Nat.zero_le _, ?_, 0, by omega, ?_, fun i u hu => by simp at hu⟩, fun k hk => ⟨fun _ => ?_, fun u hu => by cases hu⟩, fun h h1 h2 => by rw [f16 16 _ (by omega)]; exact a4 h h1 h2, fun h h1 h2 => by rw [f16 17 _ (by omega), f16 18 _ (by omega)]; exact a5 h h1 h2, RulA_fr a6 f16 (by omega) (fun a j q1 q2 => by omega), by rw [f16 10 9 (by omega)]; exact a8, ⟨bd6.2.2.2, Or.inl ?_⟩, ⟨Or.inl ?_, Or.inl ?_⟩, bd6⟩
  · rw [Board_begin, a1, jbs]
    dsimp only
    rw [Cycle_forget, jbs]
    dsimp only
    rw [Hand_empty, hs2, b1, jbs]
    dsimp only
    rw [jbs]
    dsimp only
    rw [Values_forget, c1, jbs]
    dsimp only
    rw [jbs]
    exact d1
  · rw [e4 37 _ (by omega)]; exact c3 p (by omega) (by omega)
  · have q48 : 48 ≤ qid n := by unfold qid; omega
    rw [f6 _ 7 (by omega)]; exact (d3 n n1 n6).1
  · have q48 : 48 ≤ qid n := by unfold qid; omega
    rw [f6 _ 8 (by omega)]; exact (d3 n n1 n6).2
  · rw [e4 29 2 (by omega), c2 29 (by simp), jup_o (by omega), jup_o (by omega), b2 29 (by simp), rank_00]; exact v2
  · rw [e4 29 4 (by omega), c2 29 (by simp), jup_o (by omega), jup_o (by omega), b2 29 (by simp)]; exact v4
  · rw [e4 29 3 (by omega), c2 29 (by simp), jup_o (by omega), jup_o (by omega), b2 29 (by simp)]; exact v3
  · rw [e4 31 _ (by omega), c2 31 (by simp), jup_o (by omega), jup_o (by omega)]; exact b3 k (by omega) (by omega)
  · rw [e4 19 2 (by omega), c2 19 (by simp), jup_o (by omega), jup_o (by omega), b2 19 (by simp)]; exact v19
  · rw [← hs6, jup_k (by omega), jup_s]
  · rw [← hs6, jup_s]
theorem TpC_0 {σ' : jxS} (w : σ' 1 1 = 0) : TpC σ' (tpN []) :=
  ⟨w, Nat.zero_le _, fun i x hx => by simp [tpN] at hx⟩
theorem lq_gameE {l : List Nat} {e : Nat} (h : TpC σ (tpN l)) (hl : ∀ b, b ∈ l → b < 256) (ht : txt l = .inl e) (hF : 5000 ≤ F) : ∃ σ', (Reader_readText F σ).bind (fun r4 => (Tape_cutTo F r4.2 0).bind fun r13 => some (r4.1, r13.2)) = some (-2 - (e : Int), σ') ∧ LL1_game F σ = some (-2 - (e : Int), σ') ∧ jfr (fun a j => RTP a j ∨ (a = 1 ∧ j = 1)) σ σ' ∧ TpC σ' (tpN []) := by
  obtain ⟨x, σ1, a1, a2, a3⟩ := rc_text (F := F) h hl (by omega)
  rw [ht] at a3
  have a3' : x = -2 - (e : Int) := a3
  have ll : (tpN l).length = l.length := List.length_map ..
  have l2 : l.length ≤ 200 := ll ▸ h.2.1
  have e17 := txt_e hl l2 17 0 0 [] e (Nat.zero_le _) rfl ht
  have t1 : TpC σ1 (tpN l) := TpC_fr h a2 (by simp [RTP]) (fun j => by simp only [RTP]; omega)
  have cu := ca_cut (F := F) (v := 0) ⟨by omega, by omega⟩ t1
  rw [if_pos (show (0 : Int) ≤ 0 ∧ (0 : Int) ≤ (l.length : Int) by omega), if_pos (show (0 : Int) ≤ 0 ∧ (0 : Int) ≤ (l.length : Int) by omega)] at cu
  refine ⟨jup σ1 1 1 0, ?_, ?_, jfr_up (jfr_mono a2 (fun a j q => Or.inl q)) (Or.inr ⟨rfl, rfl⟩), TpC_0 (jup_s _ _ _ _)⟩
  · rw [a1, jbs]
    dsimp only
    rw [cu, jbs, a3']
  · rw [LL1_game, a1, jbs]
    dsimp only
    rw [cu, jbs]
    dsimp only
    rw [if_neg (show ¬ 0 < jw x by rw [a3', jw_id (by omega) (by omega)]; omega), a3']
theorem lq_gameS {l : List Nat} {ls : List lnT} (h : TpC σ (tpN l)) (hl : ∀ b, b ∈ l → b < 256) (hb : BdC σ) (ht : txt l = .inr ls) (hF : 5000 ≤ F) : ∃ σ', LL1_game F σ = some ((ls.length : Int), σ') ∧ jfr (fun a j => RTP a j ∨ (a = 1 ∧ j = 1) ∨ BGP a j) σ σ' ∧ TpC σ' (tpN []) ∧ gamC σ' ls := by
  obtain ⟨x, σ1, a1, a2, a3⟩ := rc_text (F := F) h hl (by omega)
  rw [ht] at a3
  obtain ⟨q1, q2, q3⟩ := a3
  have ll : (tpN l).length = l.length := List.length_map ..
  have l2 : l.length ≤ 200 := ll ▸ h.2.1
  have ok := txt_ok hl l2 ht
  have o1 := ok.1
  have o2 := ok.2.1
  have t1 : TpC σ1 (tpN l) := TpC_fr h a2 (by simp [RTP]) (fun j => by simp only [RTP]; omega)
  have cu := ca_cut (F := F) (v := 0) ⟨by omega, by omega⟩ t1
  rw [if_pos (show (0 : Int) ≤ 0 ∧ (0 : Int) ≤ (l.length : Int) by omega), if_pos (show (0 : Int) ≤ 0 ∧ (0 : Int) ≤ (l.length : Int) by omega)] at cu
  have f2 : jfr (fun a j => RTP a j ∨ (a = 1 ∧ j = 1)) σ (jup σ1 1 1 0) := jfr_up (jfr_mono a2 (fun a j q => Or.inl q)) (Or.inr ⟨rfl, rfl⟩)
  have hb2 : BdC (jup σ1 1 1 0) := BdC_fr hb f2 (fun a j q => by simp only [RTP] at q; omega)
  have f11 : jfr (fun a j => a = 1) σ1 (jup σ1 1 1 0) := jfr_up (jfr_refl _ _) rfl
  have hL2 : LsC (jup σ1 1 1 0) ls := fun i y hy => by
    obtain ⟨t1, t2, t3⟩ := q2 i y hy
    exact ⟨by rw [f11 5 _ (by omega)]; exact t1, fun q => by obtain ⟨p1, p2, p3⟩ := t2 q; exact ⟨by rw [f11 6 _ (by omega)]; exact p1, by rw [f11 7 _ (by omega)]; exact p2, by rw [f11 8 _ (by omega)]; exact p3⟩, fun q => by obtain ⟨p1, p2⟩ := t3 q; exact ⟨by rw [f11 3 _ (by omega)]; exact p1, fun i y hy => by rw [f11 4 _ (by omega)]; exact p2 i y hy⟩⟩
  obtain ⟨σ3, b1, b2, b3⟩ := ca_begin (F := F) ok hL2 (by rw [f11 3 7 (by omega)]; exact q3) hb2 hF
  refine ⟨σ3, ?_, jfr_trans (jfr_mono f2 (fun a j q => q.elim Or.inl (fun z => Or.inr (Or.inl z)))) (jfr_mono b2 (fun a j q => Or.inr (Or.inr q))), TpC_0 (by rw [b2 1 1 (by simp [BGP]), jup_s]), b3⟩
  rw [LL1_game, a1, jbs]
  dsimp only
  rw [cu, jbs]
  dsimp only
  rw [if_pos (show 0 < jw x by rw [q1, jw_id (by omega) (by omega)]; omega), LL1_game_c39, b1, jbs, q1]
end BG
