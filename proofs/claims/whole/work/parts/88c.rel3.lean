/-! Class and reference side by side: quotients, tape, draws, game. -/
section RG
variable {F : Nat} {σ σm : jxS}
variable {ls : List lnT} {c : Nat → Nat} {us : List (Nat → Nat)} {ks : Nat → Option (Nat → Nat)} {l : List Nat} {x : Nat}
theorem rsp_ok {a : Nat} {j : Int} (h : 28 ≤ a) : MSok a j := by
  simp only [MSok]
  omega
theorem QP_32 {n a : Nat} {j : Int} (h : QP (qid n) a j) : 32 ≤ a := by
  simp only [QP, VP, qid] at h
  omega
theorem PQP_32 {n a : Nat} {j : Int} (h : PQP (qid n) a j) : 32 ≤ a := by
  simp only [PQP, PSP, qid] at h
  omega
/-- a question about a quotient -/
theorem ok_q {r : Int} {o1 o2 : Option jxR} {P Q : Nat → Int → Prop} (hls : lsOK ls) (hx : x < 2147483648) (hC : CI σ ls c us ks l x) (hM : MI σm ls c us ks l x) (e1 : ∃ σ', o1 = some (r, σ') ∧ jfr P σ σ' ∧ CV σ' (gM ls) ∧ QB σ' (gM ls)) (e2 : ∃ σm', o2 = some (r, σm') ∧ jfr Q σm σm' ∧ RI σm' (gM ls)) (hp : ∀ a j, P a j → 32 ≤ a) (hq : ∀ a j, Q a j → 28 ≤ a) : OK1 o1 o2 := by
  obtain ⟨σ', a1, a2, a3, a4⟩ := e1
  obtain ⟨σm', b1, b2, b3⟩ := e2
  exact ⟨r, σ', σm', a1, b1, ls, c, us, ks, l, x, hls, hx, CI_q hC a2 hp a3 a4, MI_q hM b2 (fun a j q => rsp_ok (hq a j q)) b3⟩
theorem RLP_28 {n a : Nat} {j : Int} (h : RLP n a j) : 28 ≤ a := by
  have := RLP_S h
  simp only [RSP] at this
  omega
/-- asked of no quotient -/
theorem ok_nq {v : Int} {k1 k2 : jxR → Option jxR} {o1 o2 : Option jxR} (hv : iR v) (h : v < 1 ∨ 6 < v) (hR : R1 σ σm) (e1 : o1 = (LL1_quotientOf F σ v).bind k1) (e2 : o2 = (Model_isQuotient F σm v).bind k2) (h1 : ∀ s, k1 (0, s) = some (-1, s)) (h2 : ∀ s, k2 (0, s) = some (-1, s)) : OK1 o1 o2 := by
  obtain ⟨ls, c, us, ks, l, x, hls, hx, hC, hM⟩ := hR
  exact ok_same hls hx hC hM (by rw [e1, cb_noq hv.1 (by have := hv.2; omega) h, jbs, h1]) (by rw [e2, rb_noq hv h, jbs, h2])
theorem nq_cases (v : Int) : (v < 1 ∨ 6 < v) ∨ ∃ n : Nat, v = (n : Int) ∧ 1 ≤ n ∧ n ≤ 6 := by
  by_cases q : v < 1 ∨ 6 < v
  · exact Or.inl q
  · exact Or.inr ⟨v.toNat, by omega, by omega, by omega⟩
theorem k_elements {v : Int} (hv : iR v) (h : R1 σ σm) (hF : 6000 ≤ F) : OK1 (LL1_elements F σ v) (Model_elements F σm v) := by
  rcases nq_cases v with q | ⟨n, rfl, n1, n6⟩
  · exact ok_nq hv q h rfl rfl (fun s => rfl) (fun s => rfl)
  · obtain ⟨ls, c, us, ks, l, x, hls, hx, hC, hM⟩ := h
    exact ok_q hls hx hC hM (lq_elements (gM_ok ls) n1 n6 hC.1 hC.2.1 (by omega)) (rq_elements n1 n6 (gM_ok ls) hM.1 (by omega)) (fun a j => QP_32) (fun a j => RLP_28)
theorem k_pairs {v : Int} (hv : iR v) (h : R1 σ σm) (hF : 6000 ≤ F) : OK1 (LL1_pairs F σ v) (Model_pairs F σm v) := by
  rcases nq_cases v with q | ⟨n, rfl, n1, n6⟩
  · exact ok_nq hv q h rfl rfl (fun s => rfl) (fun s => rfl)
  · obtain ⟨ls, c, us, ks, l, x, hls, hx, hC, hM⟩ := h
    exact ok_q hls hx hC hM (lq_pairs (gM_ok ls) n1 n6 hC.1 hC.2.1 hF) (rq_pairs n1 n6 (gM_ok ls) hM.1 (by omega)) (fun a j q => q.elim QP_32 PQP_32) (fun a j => RLP_28)
theorem k_proved {v : Int} (hv : iR v) (h : R1 σ σm) (hF : 6000 ≤ F) : OK1 (LL1_proved F σ v) (Model_proved F σm v) := by
  rcases nq_cases v with q | ⟨n, rfl, n1, n6⟩
  · exact ok_nq hv q h rfl rfl (fun s => rfl) (fun s => rfl)
  · obtain ⟨ls, c, us, ks, l, x, hls, hx, hC, hM⟩ := h
    exact ok_q hls hx hC hM (lq_proved (gM_ok ls) n1 n6 hC.1 hC.2.1 hF) (rq_proved n1 n6 (gM_ok ls) hM.1 (by omega)) (fun a j q => q.elim QP_32 PQP_32) (fun a j => RLP_28)
theorem k_times {v v2 v3 : Int} (hv : iR v) (h2 : iR v2) (h3 : iR v3) (h : R1 σ σm) (hF : 6000 ≤ F) : OK1 (LL1_times F σ v v2 v3) (Model_times F σm v v2 v3) := by
  rcases nq_cases v with q | ⟨n, rfl, n1, n6⟩
  · exact ok_nq hv q h rfl rfl (fun s => rfl) (fun s => rfl)
  · obtain ⟨ls, c, us, ks, l, x, hls, hx, hC, hM⟩ := h
    exact ok_q hls hx hC hM (lq_times h2 h3 (gM_ok ls) n1 n6 hC.1 hC.2.1 (by omega)) (rq_timesQ h2 h3 n1 n6 (gM_ok ls) hM.1 (by omega)) (fun a j => QP_32) (fun a j => RLP_28)
theorem k_sets {v v2 : Int} (hv : iR v) (h2 : iR v2) (h : R1 σ σm) (hF : 6000 ≤ F) : OK1 (LL1_sets F σ v v2) (Model_sets F σm v v2) := by
  rcases nq_cases v with q | ⟨n, rfl, n1, n6⟩
  · exact ok_nq hv q h rfl rfl (fun s => rfl) (fun s => rfl)
  · obtain ⟨ls, c, us, ks, l, x, hls, hx, hC, hM⟩ := h
    exact ok_q hls hx hC hM (lq_sets h2 (gM_ok ls) n1 n6 hC.1 hC.2.1 (by omega)) (rq_sets h2 n1 n6 (gM_ok ls) hM.1 (by omega)) (fun a j => QP_32) (fun a j => RLP_28)
theorem k_next {v v2 v3 : Int} (hv : iR v) (h2 : iR v2) (h3 : iR v3) (h : R1 σ σm) (hF : 6000 ≤ F) : OK1 (LL1_next F σ v v2 v3) (Model_next_IIII F σm v v2 v3) := by
  rcases nq_cases v with q | ⟨n, rfl, n1, n6⟩
  · exact ok_nq hv q h rfl rfl (fun s => rfl) (fun s => rfl)
  · obtain ⟨ls, c, us, ks, l, x, hls, hx, hC, hM⟩ := h
    exact ok_q hls hx hC hM (lq_next h2 h3 (gM_ok ls) n1 n6 hC.1 hC.2.1 (by omega)) (rq_nextQ h2 h3 n1 n6 (gM_ok ls) hM.1 (by omega)) (fun a j => QP_32) (fun a j => RLP_28)
theorem k_power {v v2 v3 : Int} (hv : iR v) (h2 : iR v2) (h3 : iR v3) (h : R1 σ σm) (hF : 6000 ≤ F) : OK1 (LL1_power F σ v v2 v3) (Model_power F σm v v2 v3) := by
  rcases nq_cases v with q | ⟨n, rfl, n1, n6⟩
  · exact ok_nq hv q h rfl rfl (fun s => rfl) (fun s => rfl)
  · obtain ⟨ls, c, us, ks, l, x, hls, hx, hC, hM⟩ := h
    exact ok_q hls hx hC hM (lq_power h2 h3 (gM_ok ls) n1 n6 hC.1 hC.2.1 (by omega)) (rq_powerQ h2 h3 n1 n6 (gM_ok ls) hM.1 (by omega)) (fun a j q => q.elim QP_32 (fun e => by unfold qid at e; omega)) (fun a j q => q.elim RLP_28 (fun e => by omega))
theorem k_word {v v2 v3 : Int} (hv : iR v) (h2 : iR v2) (h3 : iR v3) (h : R1 σ σm) (hF : 6000 ≤ F) : OK1 (LL1_word F σ v v2 v3) (Model_word F σm v v2 v3) := by
  rcases nq_cases v with q | ⟨n, rfl, n1, n6⟩
  · exact ok_nq hv q h rfl rfl (fun s => rfl) (fun s => rfl)
  · obtain ⟨ls, c, us, ks, l, x, hls, hx, hC, hM⟩ := h
    exact ok_q hls hx hC hM (lq_word h2 h3 (gM_ok ls) n1 n6 hC.1 hC.2.1 (by omega)) (rq_word h2 h3 n1 n6 (gM_ok ls) hM.1 (by omega)) (fun a j => QP_32) (fun a j q => q.elim RLP_28 (fun e => by omega))
theorem k_stays {v : Int} (hv : iR v) (h : R1 σ σm) (hF : 6000 ≤ F) : OK1 (LL1_stays F σ v) (Model_stays F σm v) := by
  rcases nq_cases v with q | ⟨n, rfl, n1, n6⟩
  · exact ok_nq hv q h rfl rfl (fun s => rfl) (fun s => rfl)
  · obtain ⟨ls, c, us, ks, l, x, hls, hx, hC, hM⟩ := h
    exact ok_q hls hx hC hM (lq_stays (gM_ok ls) n1 n6 hC.1 hC.2.1 (by omega)) (rq_stays n1 n6 (gM_ok ls) hM.1 (by omega)) (fun a j q => by simp only [SYP, VP] at q; omega) (fun a j q => by simp only [RSP] at q; omega)
/-! the tape -/
theorem sgb_h {b n : Nat} (hb : b < 256) (hn : n ≤ 6) : inH n (b : Int) = inH n (sgb b) := by
  unfold inH sgb
  by_cases q : b < 128
  · rw [if_pos q]
  · rw [if_neg q, decide_eq_false (show ¬ (b : Int) ≤ (n : Int) by omega), decide_eq_false (show ¬ 1 ≤ (b : Int) - 256 by omega), Bool.and_false, Bool.false_and]
theorem sgb_e {b h : Nat} (hb : b < 256) (hh : h ≤ 6) : ((b : Int) = (h : Int)) = (sgb b = (h : Int)) := by
  unfold sgb
  by_cases q : b < 128
  · rw [if_pos q]
  · rw [if_neg q]
    exact propext ⟨fun z => by omega, fun z => by omega⟩
theorem plI_eq {s : qsT} {h : Nat} (hh : h ≤ 6) : ∀ (l : List Nat) (r : Nat), (∀ b, b ∈ l → b < 256) → plI s h r (tpN l) = plI s h r (tpS l) := by
  intro l
  induction l with
  | nil => intro r _; rfl
  | cons b l ih =>
    intro r hl
    have e := sgb_e (hl b (List.mem_cons_self ..)) hh
    have i := fun r => ih r (fun y hy => hl y (List.mem_cons_of_mem _ hy))
    show plI s h (if (b : Int) = (h : Int) then s.2 r h else r) (tpN l) = plI s h (if sgb b = (h : Int) then s.2 r h else r) (tpS l)
    simp only [e]
    exact i _
theorem plO_eq {s : qsT} {n : Nat} (hn : n ≤ 6) (hl : ∀ b, b ∈ l → b < 256) : ∀ (k r : Nat), plO s n (tpN l) k r = plO s n (tpS l) k r := by
  intro k
  induction k with
  | zero => intro r; rfl
  | succ k ih =>
    intro r
    rw [plO, plO, plI_eq (by omega) l r hl]
    exact ih _
theorem plA_eq {M : Nat → List Nat} {n : Nat} (hn : n ≤ 6) (hl : ∀ b, b ∈ l → b < 256) : plA M n (tpN l) = plA M n (tpS l) := by
  have ha : (tpN l).all (inH n) = (tpS l).all (inH n) := by
    rw [tpN, tpS, List.all_map, List.all_map, Bool.eq_iff_iff, List.all_eq_true, List.all_eq_true]
    exact ⟨fun q b hb => by have := q b hb; rw [Function.comp] at this ⊢; rw [← sgb_h (hl b hb) hn]; exact this, fun q b hb => by have := q b hb; rw [Function.comp] at this ⊢; rw [sgb_h (hl b hb) hn]; exact this⟩
  have ho : (fun s => (plO s n (tpN l) n 0 : Int)) = fun s => (plO s n (tpS l) n 0 : Int) := by
    funext s
    rw [plO_eq hn hl]
  unfold plA
  rw [ha, ho]
theorem CS_t {σ' : jxS} {P : Nat → Int → Prop} {l' : List Nat} (h : CS σ ls c us ks l x) (f : jfr P σ σ') (hp : ∀ a j, P a j → a = 1 ∨ a = 2 ∨ 32 ≤ a) (ht : TpC σ' (tpN l')) : CS σ' ls c us ks l' x := by
  obtain ⟨h1, h2, h3, h4, h5, h6, h7, h8, h9, h10, h11⟩ := h
  have no : ∀ a j, a ≠ 1 → a ≠ 2 → a < 32 → ¬ P a j := fun a j q1 q2 q3 z => by have := hp a j z; omega
  exact ⟨HaC_fr h1 f (fun a j q => by have := hp a j q; omega), KeC_fr h2 f (fun j => no _ _ (by omega) (by omega) (by omega)), fun h a b => by rw [f 16 _ (no _ _ (by omega) (by omega) (by omega))]; exact h3 h a b, fun h a b => by rw [f 17 _ (no _ _ (by omega) (by omega) (by omega)), f 18 _ (no _ _ (by omega) (by omega) (by omega))]; exact h4 h a b, RulA_fr h5 f (no _ _ (by omega) (by omega) (by omega)) (fun a j _ _ => no _ _ (by omega) (by omega) (by omega)), by rw [f 10 9 (no _ _ (by omega) (by omega) (by omega))]; exact h6, CyC_fr h7 f (fun j => no _ _ (by omega) (by omega) (by omega)) (fun j => no _ _ (by omega) (by omega) (by omega)), OdC_fr h8 f (no _ _ (by omega) (by omega) (by omega)) (no _ _ (by omega) (by omega) (by omega)), ⟨by rw [f 16 0 (no _ _ (by omega) (by omega) (by omega))]; exact h9.1, by rw [f 17 0 (no _ _ (by omega) (by omega) (by omega))]; exact h9.2.1, by rw [f 18 0 (no _ _ (by omega) (by omega) (by omega))]; exact h9.2.2⟩, ht, by rw [f 0 3 (no _ _ (by omega) (by omega) (by omega))]; exact h11⟩
theorem MS_t {σ' : jxS} {P : Nat → Int → Prop} {l' : List Nat} (h : MS σ ls c us ks l x) (f : jfr P σ σ') (hp : ∀ a j, P a j → MSok a j ∨ a = 1 ∨ (a = 0 ∧ j = 1)) (ht : TpQ σ' l') : MS σ' ls c us ks l' x := by
  obtain ⟨h1, h2, h3, h4, h5, h6, h7, h8, h9, h10, h11⟩ := h
  have no : ∀ a j, ¬ MSok a j → a ≠ 1 → ¬ (a = 0 ∧ j = 1) → ¬ P a j := fun a j q q2 q3 z => by
    rcases hp a j z with y | y | y
    · exact q y
    · exact q2 y
    · exact q3 y
  have n0 : ∀ j, (j = 11 ∨ j = 12 ∨ j = 24 ∨ j = 37 ∨ j = 40 ∨ j = 43) → ¬ P 0 j := fun j q => no 0 j (fun z => z.2.2.2.2.2.2.2.2.2 ⟨rfl, by omega⟩) (by omega) (by omega)
  have na : ∀ a j, ¬ MSok a j → a ≠ 0 → a ≠ 1 → ¬ P a j := fun a j q q1 q2 => no a j q q2 (fun z => q1 z.1)
  refine ⟨HaR_fr h1 f (fun a j q => ?_), KeR_fr h2 f (n0 40 (by omega)) (fun j => na 27 j (by simp [MSok]) (by omega) (by omega)), ⟨fun g hg => by rw [f 11 _ (na 11 _ (by simp [MSok]) (by omega) (by omega))]; exact h3.1 g hg, fun q g hg => by rw [f 11 _ (na 11 _ (by simp [MSok]) (by omega) (by omega))]; rw [f 0 12 (n0 12 (by omega))] at q; exact h3.2 q g hg⟩, fun i hi => by rw [f 19 _ (na 19 _ (by simp [MSok]) (by omega) (by omega))]; exact h4 i hi, by rw [f 0 11 (n0 11 (by omega))]; exact h5, by rw [f 0 12 (n0 12 (by omega))]; exact h6, WdT_fr h7 f (fun j => na 2 j (by simp [MSok]) (by omega) (by omega)), TW_F h8 f (fun j => na 22 j (by simp [MSok]) (by omega) (by omega)) (fun j => na 23 j (by simp [MSok]) (by omega) (by omega)), by rw [f 0 24 (n0 24 (by omega))]; exact h9, ht, by rw [f 0 43 (n0 43 (by omega))]; exact h11⟩
  rcases hp a j q with y | y | y
  · simp only [MSok] at y; omega
  · omega
  · omega
theorem k_place {v : Int} (hv : iR v) (h : R1 σ σm) (hF : 6000 ≤ F) : OK1 (LL1_place F σ v) (Model_place F σm v) := by
  rcases nq_cases v with q | ⟨n, rfl, n1, n6⟩
  · exact ok_nq hv q h rfl rfl (fun s => rfl) (fun s => rfl)
  · obtain ⟨ls, c, us, ks, l, x, hls, hx, hC, hM⟩ := h
    have tq := hM.2.2.2.2.2.2.2.2.2.2.1
    obtain ⟨σ', a1, a2, a3, a4⟩ := lq_place (F := F) hC.2.2.2.2.2.2.2.2.2.2.2.1 (gM_ok ls) n1 n6 hC.1 hC.2.1 (by omega)
    obtain ⟨σm', b1, b2, b3⟩ := rq_place (F := F) (l := tpS l) tq.1 (by rw [tpS, List.length_map]; exact tq.2.1) n1 n6 (gM_ok ls) hM.1 (by omega)
    rw [plA_eq n6 tq.2.2.2] at a1
    have f1 : jfr (fun a j => a = 1) σ' (jup σ' 1 1 0) := jfr_up (jfr_refl _ _) rfl
    have g1 : jfr (fun a j => a = 0 ∧ j = 1) σm' (jup σm' 0 1 0) := jfr_up (jfr_refl _ _) ⟨rfl, rfl⟩
    have f2 : jfr (fun a j => a = 1 ∨ 32 ≤ a) σ (jup σ' 1 1 0) := jfr_trans (jfr_mono a2 (fun a j q => Or.inr (QP_32 q))) (jfr_mono f1 (fun a j q => Or.inl q))
    have g2 : jfr (fun a j => 28 ≤ a ∨ (a = 0 ∧ j = 1)) σm (jup σm' 0 1 0) := jfr_trans (jfr_mono b2 (fun a j q => Or.inl (RLP_28 q))) (jfr_mono g1 (fun a j q => Or.inr q))
    exact ⟨_, _, _, a1, b1, ls, c, us, ks, [], x, hls, hx, ⟨CV_fr3 a3 f1 (fun a j q => by omega), QB_fr a4 f1 (fun j => by omega) (fun a j q => by omega), CS_t hC.2.2 f2 (fun a j q => by omega) (TpC_0 (jup_s _ _ _ _))⟩, ⟨RI_fr b3 g1 (by omega) (fun a j _ _ => by omega) (fun a j _ _ => by omega), MS_t hM.2 g2 (fun a j q => q.elim (fun z => Or.inl (rsp_ok z)) (fun z => Or.inr (Or.inr z))) (TpQ_0 (jup_s _ _ _ _))⟩⟩
theorem CI_t {σ' : jxS} {l' : List Nat} (h : CI σ ls c us ks l x) (f : jfr TP σ σ') (ht : TpC σ' (tpN l')) : CI σ' ls c us ks l' x :=
  ⟨CV_fr3 h.1 f (fun a j q => by simp only [TP] at q; omega), QB_fr h.2.1 f (fun j => by simp [TP]) (fun a j q => by simp only [TP]; omega), CS_t h.2.2 f (fun a j q => by simp only [TP] at q; omega) ht⟩
theorem MI_t {σ' : jxS} {l' : List Nat} (h : MI σ ls c us ks l x) (f : jfr TRP σ σ') (ht : TpQ σ' l') : MI σ' ls c us ks l' x :=
  ⟨RI_fr h.1 f (by simp [TRP]) (fun a j _ _ => by simp only [TRP]; omega) (fun a j _ _ => by simp only [TRP]; omega), MS_t h.2 f (fun a j q => Or.inr q) ht⟩
theorem k_feed {v1 v2 v3 v4 v5 : Int} (h1 : iR v1) (h2 : iR v2) (h3 : iR v3) (h4 : iR v4) (h5 : iR v5) (h : R1 σ σm) (hF : 6000 ≤ F) : OK1 (LL1_feed F σ v1 v2 v3 v4 v5) (Model_feed F σm v1 v2 v3 v4 v5) := by
  obtain ⟨ls, c, us, ks, l, x, hls, hx, hC, hM⟩ := h
  obtain ⟨σ', a1, a2, a3⟩ := ca_feed (F := F) (a := v1) (b := v2) (c := v3) (d := v4) (e := v5) rfl hC.2.2.2.2.2.2.2.2.2.2.2.1 (by omega)
  obtain ⟨σm', b1, b2, b3⟩ := rq_feed (F := F) h1 h2 h3 h4 h5 hM.2.2.2.2.2.2.2.2.2.2.1 (by omega)
  exact ⟨_, σ', σm', a1, b1, ls, c, us, ks, _, x, hls, hx, CI_t hC a2 a3, MI_t hM b2 b3⟩
theorem k_end {v : Int} (hv : iR v) (h : R1 σ σm) : OK1 (LL1_end F σ v) (Model_end F σm v) := by
  obtain ⟨ls, c, us, ks, l, x, hls, hx, hC, hM⟩ := h
  obtain ⟨σ', a1, a2, a3⟩ := ca_end (F := F) rfl hv hC.2.2.2.2.2.2.2.2.2.2.2.1
  obtain ⟨σm', b1, b2, b3⟩ := rq_end (F := F) hv hM.2.2.2.2.2.2.2.2.2.2.1
  exact ⟨_, σ', σm', a1, b1, ls, c, us, ks, _, x, hls, hx, CI_t hC a2 a3, MI_t hM b2 b3⟩
theorem k_draws {v : Int} (hv : iR v) (h : R1 σ σm) : OK1 (LL1_draws F σ v) (Model_draws F σm v) := by
  obtain ⟨ls, c, us, ks, l, x, hls, hx, hC, hM⟩ := h
  obtain ⟨h1, h2, h3, h4, h5, h6, h7, h8, h9, h10, h11⟩ := hC.2.2
  obtain ⟨m1, m2, m3, m4, m5, m6, m7, m8, m9, m10, m11⟩ := hM.2
  rw [lq_draws hv h11, rq_draws hv m11]
  by_cases q : v < 0
  · rw [if_pos q, if_pos q]
    exact ⟨-1, σ, σm, rfl, rfl, ls, c, us, ks, l, x, hls, hx, hC, hM⟩
  · obtain ⟨y, rfl⟩ : ∃ k : Nat, v = k := ⟨v.toNat, by omega⟩
    have hv2 := hv.2
    rw [if_neg q, if_neg q]
    have f : jfr (fun a j => a = 0 ∧ j = 3) σ (jup σ 0 3 (y : Int)) := jfr_up (jfr_refl _ _) ⟨rfl, rfl⟩
    have g : jfr (fun a j => a = 0 ∧ j = 43) σm (jup σm 0 43 (y : Int)) := jfr_up (jfr_refl _ _) ⟨rfl, rfl⟩
    exact ⟨_, _, _, rfl, rfl, ls, c, us, ks, l, y, hls, by omega, ⟨CV_fr3 hC.1 f (fun a j q => by omega), QB_fr hC.2.1 f (fun j => by omega) (fun a j q => by omega), HaC_fr h1 f (fun a j q => by omega), KeC_fr h2 f (fun j => by omega), fun h a b => by rw [f 16 _ (by omega)]; exact h3 h a b, fun h a b => by rw [f 17 _ (by omega), f 18 _ (by omega)]; exact h4 h a b, RulA_fr h5 f (by omega) (fun a j _ _ => by omega), by rw [f 10 9 (by omega)]; exact h6, CyC_fr h7 f (fun j => by omega) (fun j => by omega), OdC_fr h8 f (by omega) (by omega), ⟨by rw [f 16 0 (by omega)]; exact h9.1, by rw [f 17 0 (by omega)]; exact h9.2.1, by rw [f 18 0 (by omega)]; exact h9.2.2⟩, TpC_fr h10 f (by omega) (fun j => by omega), jup_s _ _ _ _⟩, ⟨RI_fr hM.1 g (by omega) (fun a j _ _ => by omega) (fun a j _ _ => by omega), HaR_fr m1 g (fun a j q => by omega), KeR_fr m2 g (by omega) (fun j => by omega), ⟨fun k hk => by rw [g 11 _ (by omega)]; exact m3.1 k hk, fun q k hk => by rw [g 11 _ (by omega)]; rw [g 0 12 (by omega)] at q; exact m3.2 q k hk⟩, fun i hi => by rw [g 19 _ (by omega)]; exact m4 i hi, by rw [g 0 11 (by omega)]; exact m5, by rw [g 0 12 (by omega)]; exact m6, WdT_fr m7 g (fun j => by omega), TW_F m8 g (fun j => by omega) (fun j => by omega), by rw [g 0 24 (by omega)]; exact m9, TpQ_fr m10 g (by omega) (fun j => by omega), jup_s _ _ _ _⟩⟩
theorem CI_bd (h : CI σ ls c us ks l x) : BdC σ := by
  obtain ⟨h1, h2, h3, h4, h5, h6, h7, h8, h9, h10, h11⟩ := h.2.2
  exact ⟨h.1.1, fun n n1 n6 => ⟨(h.2.1 n n1 n6).1, (h.2.1 n n1 n6).2.1⟩, h9, h7.1⟩
theorem gam_CI (h : gamC σ ls) (ht : TpC σ (tpN l)) (hx : σ 0 3 = (x : Int)) : CI σ ls (fun _ => 0) [] (fun _ => none) l x := by
  obtain ⟨h1, h2, h3, h4, h5, h6, h7, h8, h9, h10, h11⟩ := h
  exact ⟨h1, h2, h3, h4, h5, h6, h7, h8, h9, h10, h11.2.2.1, ht, hx⟩
theorem gam_MI (h : gamR σ ls) (hw : WdT σ) (hT : TW σ) (hA : σ 0 24 = 4224) (ht : TpQ σ l) (hx : σ 0 43 = (x : Int)) : MI σ ls (fun _ => 0) [] (fun _ => none) l x := by
  obtain ⟨h1, h2, h3, h4, h5, h6, h7⟩ := h
  exact ⟨h1, h2, h3, h4, h5, h6, h7, hw, hT, hA, ht, hx⟩
theorem k_game (h : R1 σ σm) (hF : 6000 ≤ F) : OK1 (LL1_game F σ) (Model_game F σm) := by
  obtain ⟨ls, c, us, ks, l, x, hls, hx, hC, hM⟩ := h
  have tq := hM.2.2.2.2.2.2.2.2.2.2.1
  have tc := hC.2.2.2.2.2.2.2.2.2.2.2.1
  have hw := hM.2.2.2.2.2.2.2.1
  have hT := hM.2.2.2.2.2.2.2.2.1
  have hA := hM.2.2.2.2.2.2.2.2.2.1
  cases e : txt l with
  | inl er =>
    obtain ⟨σ', _, a1, a2, a3⟩ := lq_gameE (F := F) tc tq.2.2.2 e (by omega)
    obtain ⟨σm', b1, b2, b3⟩ := rq_gameE (F := F) tq hw e (by omega)
    obtain ⟨h1, h2, h3, h4, h5, h6, h7, h8, h9, h10, h11⟩ := hC.2.2
    have no : ∀ a j, ¬ (1 ≤ a ∧ a ≤ 8) → ¬ (RTP a j ∨ (a = 1 ∧ j = 1)) := fun a j q z => by
      simp only [RTP] at z
      omega
    refine ⟨_, σ', σm', a1, b1, ls, c, us, ks, [], x, hls, hx, ⟨CV_fr3 hC.1 a2 (fun a j q => by simp only [RTP] at q; omega), QB_fr hC.2.1 a2 (fun j => no _ _ (by omega)) (fun a j q => no _ _ (by omega)), HaC_fr h1 a2 (fun a j q z => no a j (by omega) q), KeC_fr h2 a2 (fun j => no _ _ (by omega)), fun h q1 q2 => by rw [a2 16 _ (no _ _ (by omega))]; exact h3 h q1 q2, fun h q1 q2 => by rw [a2 17 _ (no _ _ (by omega)), a2 18 _ (no _ _ (by omega))]; exact h4 h q1 q2, RulA_fr h5 a2 (no _ _ (by omega)) (fun a j _ _ => no _ _ (by omega)), by rw [a2 10 9 (no _ _ (by omega))]; exact h6, CyC_fr h7 a2 (fun j => no _ _ (by omega)) (fun j => no _ _ (by omega)), OdC_fr h8 a2 (no _ _ (by omega)) (no _ _ (by omega)), ⟨by rw [a2 16 0 (no _ _ (by omega))]; exact h9.1, by rw [a2 17 0 (no _ _ (by omega))]; exact h9.2.1, by rw [a2 18 0 (no _ _ (by omega))]; exact h9.2.2⟩, a3, by rw [a2 0 3 (no _ _ (by omega))]; exact h11⟩, ⟨RI_fr hM.1 b2 (by simp [RAP, LRP]) (fun a j _ _ => by simp only [RAP, LRP]; omega) (fun a j _ _ => by simp only [RAP, LRP]; omega), MS_t hM.2 b2 (fun a j q => ?_) b3⟩⟩
    simp only [RAP, LRP] at q
    simp only [MSok]
    omega
  | inr ns =>
    have l2 := tq.2.2.1
    have ok := txt_ok tq.2.2.2 l2 e
    obtain ⟨σ', a1, a2, a3, a4⟩ := lq_gameS (F := F) tc tq.2.2.2 (CI_bd hC) e (by omega)
    obtain ⟨σm', b1, b2, b3, b4⟩ := rq_gameS (F := F) tq hw hM.1.1 hT hA e (by omega)
    refine ⟨_, σ', σm', a1, b1, ns, _, _, _, [], x, ok, hx, gam_CI a4 a3 ?_, gam_MI b4 (WdT_fr hw b2 (fun j => by simp [GMP])) (TW_F hT b2 (fun j => by simp [GMP]) (fun j => by simp [GMP])) (by rw [b2 0 24 (by simp [GMP])]; exact hA) b3 ?_⟩
    · rw [a2 0 3 (by simp only [RTP, BGP]; omega)]
      exact hC.2.2.2.2.2.2.2.2.2.2.2.2
    · rw [b2 0 43 (by simp [GMP])]
      exact hM.2.2.2.2.2.2.2.2.2.2.2
end RG
