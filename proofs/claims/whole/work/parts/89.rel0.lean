/-! Class and reference side by side, without a game. -/
section RZ
variable {F : Nat} {σ σm : jxS}
def R0 (σ σm : jxS) : Prop := ∃ (l : List Nat) (x : Nat), x < 2147483648 ∧ TpC σ (tpN l) ∧ σ 0 3 = (x : Int) ∧ (TpQ σm l ∧ σm 0 43 = (x : Int) ∧ σm 0 13 = 0 ∧ HaR σm (fun _ => 0) [] ∧ σm 0 40 = 0 ∧ WT σm ∧ TW σm ∧ WdT σm ∧ σm 0 24 = 4224)
def OK0 (o1 o2 : Option jxR) : Prop := ∃ r σ' σm', o1 = some (r, σ') ∧ o2 = some (r, σm') ∧ R0 σ' σm'
theorem z_same {r : Int} {o1 o2 : Option jxR} (h : R0 σ σm) (e1 : o1 = some (r, σ)) (e2 : o2 = some (r, σm)) : OK0 o1 o2 := ⟨r, σ, σm, e1, e2, h⟩
theorem R0_13 (h : R0 σ σm) : jw (σm 0 13) = 0 := by
  obtain ⟨l, x, _, _, _, _, _, h3, _⟩ := h
  rw [h3]
  rfl
theorem z_heap {v : Int} (h : R0 σ σm) : Model_isHeap F σm v = some (0, σm) := by
  rw [Model_isHeap, if_pos (R0_13 h)]
theorem z_quot {v : Int} (h : R0 σ σm) : Model_isQuotient F σm v = some (0, σm) := by
  rw [Model_isQuotient, if_pos (R0_13 h)]
theorem z_moves {v : Int} (h : R0 σ σm) : OK0 (LL0_moves F σ v) (Model_moves F σm v) := z_same h rfl (by rw [Model_moves, z_heap h, jbs]; rfl)
theorem z_option {v v2 v3 : Int} (h : R0 σ σm) : OK0 (LL0_option F σ v v2 v3) (Model_option F σm v v2 v3) := z_same h rfl (by rw [Model_option, z_heap h, jbs]; rfl)
theorem z_nimber {v : Int} (h : R0 σ σm) : OK0 (LL0_nimber F σ v) (Model_nimber F σm v) := z_same h rfl (by rw [Model_nimber, z_heap h, jbs]; rfl)
theorem z_period {v : Int} (h : R0 σ σm) : OK0 (LL0_period F σ v) (Model_period F σm v) := z_same h rfl (by rw [Model_period, if_pos (R0_13 h)])
theorem z_odd {v : Int} (h : R0 σ σm) : OK0 (LL0_odd F σ v) (Model_odd F σm v) := z_same h rfl (by rw [Model_odd, if_pos (R0_13 h)])
theorem z_wild {v : Int} (h : R0 σ σm) : OK0 (LL0_wild F σ v) (Model_wild F σm v) := z_same h rfl (by rw [Model_wild, if_pos (R0_13 h)])
theorem z_put {v : Int} (h : R0 σ σm) : OK0 (LL0_put F σ v) (Model_put F σm v) := z_same h rfl (by rw [Model_put, z_heap h, jbs]; rfl)
theorem z_move {v v2 v3 : Int} (h : R0 σ σm) : OK0 (LL0_move F σ v v2 v3) (Model_move F σm v v2 v3) := by
  have e : Model_isMove F σm v v2 v3 = some (0, σm) := by rw [Model_isMove, z_heap h, jbs]; rfl
  exact z_same h rfl (by rw [Model_move, e, jbs]; rfl)
theorem z_reply (h : R0 σ σm) : OK0 (LL0_reply F σ) (Model_reply F σm) := z_same h rfl (by rw [Model_reply, if_pos (R0_13 h)])
theorem z_clear (h : R0 σ σm) (hF : 1000 ≤ F) : OK0 (LL0_clear F σ) (Model_clear F σm) := by
  refine z_same h rfl ?_
  obtain ⟨l, x, _, _, _, _, _, _, h4, _⟩ := h
  rw [Model_clear, mo_beans h4.1 (by omega), jbs, beans_00]
  rfl
theorem z_undo (h : R0 σ σm) : OK0 (LL0_undo F σ) (Model_undo F σm) := by
  refine z_same h rfl ?_
  obtain ⟨l, x, _, _, _, _, _, _, h4, _⟩ := h
  have w : σm 0 37 = 0 := h4.2.2.1
  rw [Model_undo, if_pos (show jw (σm 0 37) = 0 by rw [w]; rfl)]
theorem z_hand {v : Int} (hv : iR v) (h : R0 σ σm) (hF : 1000 ≤ F) : OK0 (LL0_hand F σ v) (Model_hand F σm v) := by
  have h' := h
  obtain ⟨l, x, _, _, _, _, _, _, h4, _⟩ := h
  have e2 := rq_hand (F := F) hv h4.1 (by omega)
  refine z_same h' ?_ e2
  rw [LL0_hand, lb_heap0 hv, jbs, hanA]
  dsimp only
  by_cases y : 0 ≤ v ∧ v ≤ 12
  · rw [if_pos y, if_pos y, if_neg (show ¬ jw 1 = 0 by decide), beans_00]
    by_cases z : v = 0
    · rw [if_pos z]; rfl
    · rw [if_neg z]; rfl
  · rw [if_neg y, if_neg y, if_pos (show jw 0 = 0 from rfl)]
theorem z_state {v : Int} (h : R0 σ σm) : OK0 (LL0_state F σ v) (Model_state F σm v) := z_same h rfl (by rw [Model_state, if_pos (R0_13 h)])
theorem z_genus {v : Int} (h : R0 σ σm) : OK0 (LL0_genus F σ v) (Model_genus F σm v) := z_same h rfl (by rw [Model_genus, if_pos (R0_13 h)])
theorem z_line {v : Int} (h : R0 σ σm) : OK0 (LL0_line F σ v) (Model_line F σm v) := z_same h rfl (by rw [Model_line, if_pos (R0_13 h)])
theorem z_losers {v v2 : Int} (h2 : iR v2) (h : R0 σ σm) : OK0 (LL0_losers F σ v v2) (Model_losers F σm v v2) := by
  refine z_same h ?_ (by rw [Model_losers, if_pos (R0_13 h)])
  rw [LL0_losers]
  by_cases q : jw v2 = -1
  · rw [if_pos q]; rfl
  · rw [if_neg q, lb_heap h2, jbs]
    dsimp only
    split <;> rfl
theorem z_keep {v : Int} (h : R0 σ σm) : OK0 (LL0_keep F σ v) (Model_keep F σm v) := z_same h rfl (by rw [Model_keep, if_pos (R0_13 h)])
theorem z_apart {v v2 : Int} (h : R0 σ σm) : OK0 (LL0_apart F σ v v2) (Model_apart F σm v v2) := z_same h rfl (by rw [Model_apart, if_pos (R0_13 h)])
theorem z_simplest {v : Int} (h : R0 σ σm) : OK0 (LL0_simplest F σ v) (Model_simplest F σm v) := z_same h rfl (by rw [Model_simplest, if_pos (R0_13 h)])
theorem z_answers {v : Int} (h : R0 σ σm) : OK0 (LL0_answers F σ v) (Model_answers F σm v) := z_same h rfl (by rw [Model_answers, if_pos (R0_13 h)])
theorem z_games {v v2 : Int} (h : R0 σ σm) : OK0 (LL0_games F σ v v2) (Model_games F σm v v2) := z_same h rfl (by rw [Model_games, if_pos (R0_13 h)])
theorem z_elements {v : Int} (h : R0 σ σm) : OK0 (LL0_elements F σ v) (Model_elements F σm v) := z_same h rfl (by rw [Model_elements, z_quot h, jbs]; rfl)
theorem z_word {v v2 v3 : Int} (h : R0 σ σm) : OK0 (LL0_word F σ v v2 v3) (Model_word F σm v v2 v3) := z_same h rfl (by rw [Model_word, z_quot h, jbs]; rfl)
theorem z_next {v v2 v3 : Int} (h : R0 σ σm) : OK0 (LL0_next F σ v v2 v3) (Model_next_IIII F σm v v2 v3) := z_same h rfl (by rw [Model_next_IIII, z_quot h, jbs]; rfl)
theorem z_times {v v2 v3 : Int} (h : R0 σ σm) : OK0 (LL0_times F σ v v2 v3) (Model_times F σm v v2 v3) := z_same h rfl (by rw [Model_times, z_quot h, jbs]; rfl)
theorem z_sets {v v2 : Int} (h : R0 σ σm) : OK0 (LL0_sets F σ v v2) (Model_sets F σm v v2) := z_same h rfl (by rw [Model_sets, z_quot h, jbs]; rfl)
theorem z_pairs {v : Int} (h : R0 σ σm) : OK0 (LL0_pairs F σ v) (Model_pairs F σm v) := z_same h rfl (by rw [Model_pairs, z_quot h, jbs]; rfl)
theorem z_proved {v : Int} (h : R0 σ σm) : OK0 (LL0_proved F σ v) (Model_proved F σm v) := z_same h rfl (by rw [Model_proved, z_quot h, jbs]; rfl)
theorem z_stays {v : Int} (h : R0 σ σm) : OK0 (LL0_stays F σ v) (Model_stays F σm v) := z_same h rfl (by rw [Model_stays, z_quot h, jbs]; rfl)
theorem z_power {v v2 v3 : Int} (h : R0 σ σm) : OK0 (LL0_power F σ v v2 v3) (Model_power F σm v v2 v3) := z_same h rfl (by rw [Model_power, z_quot h, jbs]; rfl)
theorem z_place {v : Int} (h : R0 σ σm) : OK0 (LL0_place F σ v) (Model_place F σm v) := z_same h rfl (by rw [Model_place, z_quot h, jbs]; rfl)
theorem z_count {v : Int} (hv : iR v) (h : R0 σ σm) : OK0 (LL0_count F σ v) (Model_count F σm v) := by
  have h' := h
  have h13 := R0_13 h
  obtain ⟨l, x, _, t1, t2, tq, h2, _, h4, h5, _⟩ := h
  have wv : jw v = v := jw_id hv.1 hv.2
  have ll : (tpN l).length = l.length := List.length_map ..
  have w1 := t1.1
  rw [ll] at w1
  have w37 : σm 0 37 = 0 := h4.2.2.1
  rw [LL0_count, Model_count, wv]
  by_cases e0 : v = 0
  · rw [if_pos e0, if_pos e0, if_pos h13]; exact z_same h' rfl rfl
  rw [if_neg e0, if_neg e0]
  by_cases e1 : v = 1
  · rw [if_pos e1, if_pos e1, if_pos h13]; exact z_same h' rfl rfl
  rw [if_neg e1, if_neg e1]
  by_cases e2 : v = 2
  · rw [if_pos e2, if_pos e2, t2, h2]; exact z_same h' rfl rfl
  rw [if_neg e2, if_neg e2]
  by_cases e3 : v = 3
  · rw [if_pos e3, if_pos e3, w37]; exact z_same h' rfl rfl
  rw [if_neg e3, if_neg e3]
  by_cases e4 : v = 4
  · rw [if_pos e4, if_pos e4, h5]; exact z_same h' rfl rfl
  rw [if_neg e4, if_neg e4]
  by_cases e5 : v = 5
  · rw [if_pos e5, if_pos e5, Tape_size, jbs, tq.2.1]
    dsimp only
    rw [w1]
    exact z_same h' rfl rfl
  rw [if_neg e5, if_neg e5]
  exact z_same h' rfl rfl
theorem R0_t {σ' σm' : jxS} {l' : List Nat} {P Q : Nat → Int → Prop} (h : R0 σ σm) (f : jfr P σ σ') (g : jfr Q σm σm') (hp : ¬ P 0 3) (hq : ∀ a j, Q a j → GMP a j ∧ a ≠ 24 ∧ a ≠ 25 ∧ ¬ (a = 0 ∧ (j = 13 ∨ j = 37 ∨ j = 40))) (t1 : TpC σ' (tpN l')) (t2 : TpQ σm' l') : R0 σ' σm' := by
  obtain ⟨l, x, hx, _, h2, _, h4, h5, h6, h7, h8, h9, h10, h11⟩ := h
  have no : ∀ a j, ¬ GMP a j → ¬ Q a j := fun a j q z => q (hq a j z).1
  refine ⟨l', x, hx, t1, by rw [f 0 3 hp]; exact h2, t2, by rw [g 0 43 (no _ _ (by simp [GMP]))]; exact h4, by rw [g 0 13 (fun z => (hq _ _ z).2.2.2 ⟨rfl, by omega⟩)]; exact h5, HaR_fr h6 g (fun a j q => ?_), by rw [g 0 40 (fun z => (hq _ _ z).2.2.2 ⟨rfl, by omega⟩)]; exact h7, WT_fr h8 g (fun j => no _ _ (by simp [GMP])) (fun j => no _ _ (by simp [GMP])), TW_F h9 g (fun j => no _ _ (by simp [GMP])) (fun j => no _ _ (by simp [GMP])), WdT_fr h10 g (fun j => no _ _ (by simp [GMP])), by rw [g 0 24 (no _ _ (by simp [GMP]))]; exact h11⟩
  have := hq a j q
  exact ⟨this.2.1, this.2.2.1, fun z => this.2.2.2 ⟨z.1, by omega⟩⟩
theorem trp_ok {a : Nat} {j : Int} (h : TRP a j) : GMP a j ∧ a ≠ 24 ∧ a ≠ 25 ∧ ¬ (a = 0 ∧ (j = 13 ∨ j = 37 ∨ j = 40)) := by
  simp only [TRP] at h
  simp only [GMP]
  omega
theorem z_feed {v1 v2 v3 v4 v5 : Int} (h1 : iR v1) (h2 : iR v2) (h3 : iR v3) (h4 : iR v4) (h5 : iR v5) (h : R0 σ σm) (hF : 6000 ≤ F) : OK0 (LL0_feed F σ v1 v2 v3 v4 v5) (Model_feed F σm v1 v2 v3 v4 v5) := by
  have h' := h
  obtain ⟨l, x, hx, t1, _, t2, _⟩ := h
  obtain ⟨σ', a1, a2, a3⟩ := ca_feed (F := F) (a := v1) (b := v2) (c := v3) (d := v4) (e := v5) rfl t1 (by omega)
  obtain ⟨σm', b1, b2, b3⟩ := rq_feed (F := F) h1 h2 h3 h4 h5 t2 (by omega)
  exact ⟨_, σ', σm', a1, b1, R0_t h' a2 b2 (by simp [TP]) (fun a j => trp_ok) a3 b3⟩
theorem z_end {v : Int} (hv : iR v) (h : R0 σ σm) : OK0 (LL0_end F σ v) (Model_end F σm v) := by
  have h' := h
  obtain ⟨l, x, hx, t1, _, t2, _⟩ := h
  obtain ⟨σ', a1, a2, a3⟩ := ca_end (F := F) rfl hv t1
  obtain ⟨σm', b1, b2, b3⟩ := rq_end (F := F) hv t2
  exact ⟨_, σ', σm', a1, b1, R0_t h' a2 b2 (by simp [TP]) (fun a j => trp_ok) a3 b3⟩
theorem z_draws {v : Int} (hv : iR v) (h : R0 σ σm) : OK0 (LL0_draws F σ v) (Model_draws F σm v) := by
  have h' := h
  obtain ⟨l, x, hx, t1, w3, t2, w43, h5, h6, h7, h8, h9, h10, h11⟩ := h
  have e1 : LL0_draws F σ v = if v < 0 then some (-1, σ) else some ((x : Int), jup σ 0 3 v) := by
    rw [LL0_draws, jw_id hv.1 hv.2, w3]
  rw [e1, rq_draws hv w43]
  by_cases q : v < 0
  · rw [if_pos q, if_pos q]; exact z_same h' rfl rfl
  · obtain ⟨y, rfl⟩ : ∃ k : Nat, v = k := ⟨v.toNat, by omega⟩
    have hv2 := hv.2
    rw [if_neg q, if_neg q]
    have f : jfr (fun a j => a = 0 ∧ j = 3) σ (jup σ 0 3 (y : Int)) := jfr_up (jfr_refl _ _) ⟨rfl, rfl⟩
    have g : jfr (fun a j => a = 0 ∧ j = 43) σm (jup σm 0 43 (y : Int)) := jfr_up (jfr_refl _ _) ⟨rfl, rfl⟩
    exact ⟨_, _, _, rfl, rfl, l, y, by omega, TpC_fr t1 f (by omega) (fun j => by omega), jup_s _ _ _ _, TpQ_fr t2 g (by omega) (fun j => by omega), jup_s _ _ _ _, by rw [g 0 13 (by omega)]; exact h5, HaR_fr h6 g (fun a j q => by omega), by rw [g 0 40 (by omega)]; exact h7, WT_fr h8 g (fun j => by omega) (fun j => by omega), TW_F h9 g (fun j => by omega) (fun j => by omega), WdT_fr h10 g (fun j => by omega), by rw [g 0 24 (by omega)]; exact h11⟩
/-- a text that fails, without a game -/
theorem z_gameE {l : List Nat} {x e : Nat} (hx : x < 2147483648) (t1 : TpC σ (tpN l)) (h : R0 σ σm) (t2 : TpQ σm l) (ht : txt l = .inl e) (hF : 6000 ≤ F) : ∃ σ' σm', (Reader_readText F σ).bind (fun r4 => (Tape_cutTo F r4.2 0).bind fun r13 => some (r4.1, r13.2)) = some (-2 - (e : Int), σ') ∧ Model_game F σm = some (-2 - (e : Int), σm') ∧ R0 σ' σm' := by
  have h' := h
  obtain ⟨_, _, _, _, _, _, _, _, _, _, _, _, h10, _⟩ := h
  obtain ⟨σ', a0, a1, a2, a3⟩ := lq_gameE (F := F) t1 t2.2.2.2 ht (by omega)
  obtain ⟨σm', b1, b2, b3⟩ := rq_gameE (F := F) t2 h10 ht (by omega)
  refine ⟨σ', σm', a0, b1, R0_t h' a2 b2 (by simp [RTP]) (fun a j q => ?_) a3 b3⟩
  simp only [RAP, LRP] at q
  simp only [GMP]
  omega
end RZ
