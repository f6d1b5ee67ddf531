/-! Class and reference side by side, with a game. -/
section RE
variable {F : Nat} {σ σm : jxS}
/-- what the class holds beside values and quotients -/
def CS (σ : jxS) (ls : List lnT) (c : Nat → Nat) (us : List (Nat → Nat)) (ks : Nat → Option (Nat → Nat)) (l : List Nat) (x : Nat) : Prop := HaC σ c us ∧ KeC σ ks ∧ RulN σ (gM ls) ∧ RulL σ (gM ls) ∧ RulA σ (gD ls) (gG ls) (gA ls) (gN ls) ∧ σ 10 9 = ((ls.length - 1 : Nat) : Int) ∧ CyC σ (gD ls) (gG ls) ∧ OdC σ (gM ls) ∧ (σ 16 0 = 0 ∧ σ 17 0 = 0 ∧ σ 18 0 = 0) ∧ TpC σ (tpN l) ∧ σ 0 3 = (x : Int)
def CI (σ : jxS) (ls : List lnT) (c : Nat → Nat) (us : List (Nat → Nat)) (ks : Nat → Option (Nat → Nat)) (l : List Nat) (x : Nat) : Prop := CV σ (gM ls) ∧ QB σ (gM ls) ∧ CS σ ls c us ks l x
def MS (σ : jxS) (ls : List lnT) (c : Nat → Nat) (us : List (Nat → Nat)) (ks : Nat → Option (Nat → Nat)) (l : List Nat) (x : Nat) : Prop := HaR σ c us ∧ KeR σ ks ∧ NmR σ (gM ls) (gD ls) (gG ls) ∧ BT σ (gM ls) (6 * 4224) ∧ σ 0 11 = (gD ls : Int) ∧ σ 0 12 = ((ls.length - 1 : Nat) : Int) ∧ WdT σ ∧ TW σ ∧ σ 0 24 = 4224 ∧ TpQ σ l ∧ σ 0 43 = (x : Int)
def MI (σ : jxS) (ls : List lnT) (c : Nat → Nat) (us : List (Nat → Nat)) (ks : Nat → Option (Nat → Nat)) (l : List Nat) (x : Nat) : Prop := RI σ (gM ls) ∧ MS σ ls c us ks l x
/-- both hold the same game, hand, tape .. -/
def R1 (σ σm : jxS) : Prop := ∃ ls c us ks l x, lsOK ls ∧ x < 2147483648 ∧ CI σ ls c us ks l x ∧ MI σm ls c us ks l x
def OK1 (o1 o2 : Option jxR) : Prop := ∃ r σ' σm', o1 = some (r, σ') ∧ o2 = some (r, σm') ∧ R1 σ' σm'
variable {ls : List lnT} {c : Nat → Nat} {us : List (Nat → Nat)} {ks : Nat → Option (Nat → Nat)} {l : List Nat} {x : Nat}
theorem OdC_fr {σ' : jxS} {M : Nat → List Nat} {P : Nat → Int → Prop} (h : OdC σ M) (f : jfr P σ σ') (h8 : ¬ P 9 8) (h9 : ¬ P 9 9) : OdC σ' M := by
  obtain ⟨a, b⟩ := h
  exact ⟨by rw [f 9 8 h8]; exact a, by rw [f 9 9 h9]; exact b⟩
theorem CyC_fr {σ' : jxS} {d : Nat} {dg : Nat → Nat} {P : Nat → Int → Prop} (h : CyC σ d dg) (f : jfr P σ σ') (h1 : ∀ j, ¬ P 19 j) (h2 : ∀ j, ¬ P 20 j) : CyC σ' d dg := by
  unfold CyC at h ⊢
  rw [f 20 0 (h2 _), f 19 2 (h1 _)]
  cases e : sPr d (pn d dg) 160 1 with
  | none =>
    rw [e] at h
    dsimp only at h ⊢
    rw [f 19 3 (h1 _)]
    exact h
  | some y =>
    rw [e] at h
    dsimp only at h ⊢
    rw [f 19 3 (h1 _), f 19 4 (h1 _)]
    exact h
theorem CS_fr {σ' : jxS} {P : Nat → Int → Prop} (h : CS σ ls c us ks l x) (f : jfr P σ σ') (hp : ∀ a j, P a j → 32 ≤ a) : CS σ' ls c us ks l x := by
  obtain ⟨h1, h2, h3, h4, h5, h6, h7, h8, h9, h10, h11⟩ := h
  have no : ∀ a j, a < 32 → ¬ P a j := fun a j q z => by have := hp a j z; omega
  exact ⟨HaC_fr h1 f (fun a j q => by have := hp a j q; omega), KeC_fr h2 f (fun j => no _ _ (by omega)), fun h a b => by rw [f 16 _ (no _ _ (by omega))]; exact h3 h a b, fun h a b => by rw [f 17 _ (no _ _ (by omega)), f 18 _ (no _ _ (by omega))]; exact h4 h a b, RulA_fr h5 f (no _ _ (by omega)) (fun a j _ _ => no _ _ (by omega)), by rw [f 10 9 (no _ _ (by omega))]; exact h6, CyC_fr h7 f (fun j => no _ _ (by omega)) (fun j => no _ _ (by omega)), OdC_fr h8 f (no _ _ (by omega)) (no _ _ (by omega)), ⟨by rw [f 16 0 (no _ _ (by omega))]; exact h9.1, by rw [f 17 0 (no _ _ (by omega))]; exact h9.2.1, by rw [f 18 0 (no _ _ (by omega))]; exact h9.2.2⟩, TpC_fr h10 f (no _ _ (by omega)) (fun j => no _ _ (by omega)), by rw [f 0 3 (no _ _ (by omega))]; exact h11⟩
theorem VQ_32 {a : Nat} {j : Int} (h : VQ a j) : 33 ≤ a ∧ a ≤ 43 := by
  rcases h with h | h
  · simp only [VP] at h; omega
  · simp only [jLP] at h; omega
theorem CI_vq {σ' : jxS} (h : CI σ ls c us ks l x) (f : jfr VQ σ σ') (hC : CV σ' (gM ls)) : CI σ' ls c us ks l x :=
  ⟨hC, QB_fr h.2.1 f (fun j q => by have := VQ_32 q; omega) (fun a j q z => by have := VQ_32 z; omega), CS_fr h.2.2 f (fun a j q => by have := VQ_32 q; omega)⟩
theorem CI_vp {σ' : jxS} (h : CI σ ls c us ks l x) (f : jfr VP σ σ') (hC : CV σ' (gM ls)) : CI σ' ls c us ks l x := CI_vq h (jfr_mono f (fun a j q => Or.inl q)) hC
theorem CI_q {σ' : jxS} {P : Nat → Int → Prop} (h : CI σ ls c us ks l x) (f : jfr P σ σ') (hp : ∀ a j, P a j → 32 ≤ a) (hC : CV σ' (gM ls)) (hB : QB σ' (gM ls)) : CI σ' ls c us ks l x := ⟨hC, hB, CS_fr h.2.2 f hp⟩
def MSok (a : Nat) (j : Int) : Prop := a ≠ 1 ∧ a ≠ 2 ∧ a ≠ 11 ∧ a ≠ 19 ∧ a ≠ 22 ∧ a ≠ 23 ∧ a ≠ 24 ∧ a ≠ 25 ∧ a ≠ 27 ∧ ¬ (a = 0 ∧ (j = 1 ∨ j = 11 ∨ j = 12 ∨ j = 24 ∨ j = 37 ∨ j = 40 ∨ j = 43))
theorem MS_fr {σ' : jxS} {P : Nat → Int → Prop} (h : MS σ ls c us ks l x) (f : jfr P σ σ') (hp : ∀ a j, P a j → MSok a j) : MS σ' ls c us ks l x := by
  obtain ⟨h1, h2, h3, h4, h5, h6, h7, h8, h9, h10, h11⟩ := h
  have no : ∀ a j, ¬ MSok a j → ¬ P a j := fun a j q z => q (hp a j z)
  have n0 : ∀ j, (j = 1 ∨ j = 11 ∨ j = 12 ∨ j = 24 ∨ j = 37 ∨ j = 40 ∨ j = 43) → ¬ P 0 j := fun j q => no 0 j (fun z => z.2.2.2.2.2.2.2.2.2 ⟨rfl, q⟩)
  refine ⟨HaR_fr h1 f (fun a j q => ?_), KeR_fr h2 f (n0 40 (by omega)) (fun j => no 27 j (by simp [MSok])), ⟨fun g hg => by rw [f 11 _ (no 11 _ (by simp [MSok]))]; exact h3.1 g hg, fun q g hg => by rw [f 11 _ (no 11 _ (by simp [MSok]))]; rw [f 0 12 (n0 12 (by omega))] at q; exact h3.2 q g hg⟩, fun i hi => by rw [f 19 _ (no 19 _ (by simp [MSok]))]; exact h4 i hi, by rw [f 0 11 (n0 11 (by omega))]; exact h5, by rw [f 0 12 (n0 12 (by omega))]; exact h6, WdT_fr h7 f (fun j => no 2 j (by simp [MSok])), TW_F h8 f (fun j => no 22 j (by simp [MSok])) (fun j => no 23 j (by simp [MSok])), by rw [f 0 24 (n0 24 (by omega))]; exact h9, TpQ_fr h10 f (n0 1 (by omega)) (fun j => no 1 j (by simp [MSok])), by rw [f 0 43 (n0 43 (by omega))]; exact h11⟩
  have := hp a j q
  simp only [MSok] at this
  omega
theorem MI_v {σ' : jxS} {P : Nat → Int → Prop} (h : MI σ ls c us ks l x) (f : jfr P σ σ') (hp : ∀ a j, P a j → MSok a j ∧ ¬ (a = 0 ∧ j = 13) ∧ ¬ (9 ≤ a ∧ a ≤ 18) ∧ ¬ (30 ≤ a ∧ a ≤ 36)) : MI σ' ls c us ks l x :=
  ⟨RI_fr h.1 f (fun q => (hp _ _ q).2.1 ⟨rfl, rfl⟩) (fun a j q1 q2 z => (hp _ _ z).2.2.1 ⟨q1, q2⟩) (fun a j q1 q2 z => (hp _ _ z).2.2.2 ⟨q1, q2⟩), MS_fr h.2 f (fun a j q => (hp a j q).1)⟩
theorem MI_q {σ' : jxS} {P : Nat → Int → Prop} (h : MI σ ls c us ks l x) (f : jfr P σ σ') (hp : ∀ a j, P a j → MSok a j) (hI : RI σ' (gM ls)) : MI σ' ls c us ks l x := ⟨hI, MS_fr h.2 f hp⟩
theorem gM_ok (ls : List lnT) : MOK (gM ls) := Mof_ok _
/-- an answer that changes nothing on both sides -/
theorem ok_same {r : Int} (hls : lsOK ls) (hx : x < 2147483648) (hC : CI σ ls c us ks l x) (hM : MI σm ls c us ks l x) {o1 o2 : Option jxR} (e1 : o1 = some (r, σ)) (e2 : o2 = some (r, σm)) : OK1 o1 o2 :=
  ⟨r, σ, σm, e1, e2, ls, c, us, ks, l, x, hls, hx, hC, hM⟩
theorem ok_v {r : Int} {o1 o2 : Option jxR} (hls : lsOK ls) (hx : x < 2147483648) (hC : CI σ ls c us ks l x) (hM : MI σm ls c us ks l x) (e1 : vres (gM ls) σ o1 r) (e2 : o2 = some (r, σm)) : OK1 o1 o2 := by
  obtain ⟨σ', a1, a2, a3⟩ := e1
  exact ⟨r, σ', σm, a1, e2, ls, c, us, ks, l, x, hls, hx, CI_vp hC a2 a3, hM⟩
theorem ok_vq {r : Int} {o1 o2 : Option jxR} {P : Nat → Int → Prop} (hls : lsOK ls) (hx : x < 2147483648) (hC : CI σ ls c us ks l x) (hM : MI σm ls c us ks l x) (e1 : vqs (gM ls) σ o1 r) (e2 : ∃ σm', o2 = some (r, σm') ∧ jfr P σm σm') (hp : ∀ a j, P a j → MSok a j ∧ ¬ (a = 0 ∧ j = 13) ∧ ¬ (9 ≤ a ∧ a ≤ 18) ∧ ¬ (30 ≤ a ∧ a ≤ 36)) : OK1 o1 o2 := by
  obtain ⟨σ', a1, a2, a3⟩ := e1
  obtain ⟨σm', b1, b2⟩ := e2
  exact ⟨r, σ', σm', a1, b1, ls, c, us, ks, l, x, hls, hx, CI_vq hC a2 a3, MI_v hM b2 hp⟩
theorem vr_q {M : Nat → List Nat} {o : Option jxR} {r : Int} (h : vres M σ o r) : vqs M σ o r := by
  obtain ⟨σ', a, b, d⟩ := h
  exact ⟨σ', a, jfr_mono b (fun a j q => Or.inl q), d⟩
theorem p20_ok {a : Nat} {j : Int} (h : P20 a j) : MSok a j ∧ ¬ (a = 0 ∧ j = 13) ∧ ¬ (9 ≤ a ∧ a ≤ 18) ∧ ¬ (30 ≤ a ∧ a ≤ 36) := by
  simp only [P20] at h
  simp only [MSok]
  omega
theorem p26_ok {a : Nat} {j : Int} (h : P26 a j) : MSok a j ∧ ¬ (a = 0 ∧ j = 13) ∧ ¬ (9 ≤ a ∧ a ≤ 18) ∧ ¬ (30 ≤ a ∧ a ≤ 36) := by
  simp only [P26] at h
  simp only [MSok]
  omega
theorem app_ok {a : Nat} {j : Int} (h : APP a j) : MSok a j ∧ ¬ (a = 0 ∧ j = 13) ∧ ¬ (9 ≤ a ∧ a ≤ 18) ∧ ¬ (30 ≤ a ∧ a ≤ 36) := by
  simp only [APP] at h
  simp only [MSok]
  omega
theorem gwp_ok {a : Nat} {j : Int} (h : GWP a j) : MSok a j ∧ ¬ (a = 0 ∧ j = 13) ∧ ¬ (9 ≤ a ∧ a ≤ 18) ∧ ¬ (30 ≤ a ∧ a ≤ 36) := by
  simp only [GWP] at h
  simp only [MSok]
  omega
/-! the calls that only read -/
theorem k_moves {v : Int} (hv : iR v) (h : R1 σ σm) : OK1 (LL1_moves F σ v) (Model_moves F σm v) := by
  obtain ⟨ls, c, us, ks, l, x, hls, hx, hC, hM⟩ := h
  exact ok_same hls hx hC hM (lq_moves hv hC.1.2.1 (gM_ok ls)) (rq_moves hv hM.1.2.2.2.2 hM.1.2.2.1)
theorem k_option {v1 v2 v3 : Int} (h1 : iR v1) (h2 : iR v2) (h3 : iR v3) (h : R1 σ σm) : OK1 (LL1_option F σ v1 v2 v3) (Model_option F σm v1 v2 v3) := by
  obtain ⟨ls, c, us, ks, l, x, hls, hx, hC, hM⟩ := h
  exact ok_same hls hx hC hM (lq_option h1 h2 h3 hC.1.2.1 (gM_ok ls)) (rq_option h1 h2 h3 hM.1.2.2.2.2 hM.1.2.2.1 (gM_ok ls))
theorem k_nimber {v : Int} (hv : iR v) (h : R1 σ σm) : OK1 (LL1_nimber F σ v) (Model_nimber F σm v) := by
  obtain ⟨ls, c, us, ks, l, x, hls, hx, hC, hM⟩ := h
  exact ok_same hls hx hC hM (lq_nimber hv hC.2.2.2.2.1) (rq_nimber hv hM.1.2.2.2.2 hM.2.2.2.1.1)
theorem k_hand {v : Int} (hv : iR v) (h : R1 σ σm) (hF : 100 ≤ F) : OK1 (LL1_hand F σ v) (Model_hand F σm v) := by
  obtain ⟨ls, c, us, ks, l, x, hls, hx, hC, hM⟩ := h
  exact ok_same hls hx hC hM (lq_hand hv hC.1 hC.2.2.1 hF) (rq_hand hv hM.2.1.1 hF)
theorem k_state {v : Int} (hv : iR v) (h : R1 σ σm) (hF : 5000 ≤ F) : OK1 (LL1_state F σ v) (Model_state F σm v) := by
  obtain ⟨ls, c, us, ks, l, x, hls, hx, hC, hM⟩ := h
  have hH := hC.2.2.1
  exact ok_v hls hx hC hM (lq_state hv (gM_ok ls) hC.1 hH.1 hC.2.2.2.2.1 hC.2.2.2.2.2.1 hH.2.1.1 hH.2.1.2 hF) (rq_state hv (gM_ok ls) hM.1 hM.2.1.1 hH.2.1.1 hH.2.1.2 hM.2.2.2.1.1 hM.2.2.2.2.1 (by omega))
theorem k_genus {v : Int} (hv : iR v) (h : R1 σ σm) (hF : 5000 ≤ F) : OK1 (LL1_genus F σ v) (Model_genus F σm v) := by
  obtain ⟨ls, c, us, ks, l, x, hls, hx, hC, hM⟩ := h
  have hH := hC.2.2.1
  exact ok_v hls hx hC hM (lq_genus hv (gM_ok ls) hC.1 hH.1 hH.2.1.2 hF) (rq_genus hv hM.1 hM.2.1.1 hH.2.1.2 hM.2.2.2.2.1 (by omega))
theorem k_line {v : Int} (hv : iR v) (h : R1 σ σm) (hF : 5000 ≤ F) : OK1 (LL1_line F σ v) (Model_line F σm v) := by
  obtain ⟨ls, c, us, ks, l, x, hls, hx, hC, hM⟩ := h
  have hH := hC.2.2.1
  exact ok_vq hls hx hC hM (lq_line hv (gM_ok ls) hC.1 hH.1 hH.2.1.1 hH.2.1.2 hF) (rq_line hv (gM_ok ls) hM.1 hM.2.1.1 hH.2.1.1 hH.2.1.2 (by omega)) (fun a j => p26_ok)
theorem k_losers {v1 v2 : Int} (h1 : iR v1) (h2 : iR v2) (h : R1 σ σm) (hF : 5000 ≤ F) : OK1 (LL1_losers F σ v1 v2) (Model_losers F σm v1 v2) := by
  obtain ⟨ls, c, us, ks, l, x, hls, hx, hC, hM⟩ := h
  exact ok_vq hls hx hC hM (vr_q (lq_losers h1 h2 (gM_ok ls) hC.1 hF)) (rq_losers h1 h2 hM.1 hF) (fun a j => p20_ok)
theorem k_apart {v1 v2 : Int} (h1 : iR v1) (h2 : iR v2) (h : R1 σ σm) (hF : 5000 ≤ F) : OK1 (LL1_apart F σ v1 v2) (Model_apart F σm v1 v2) := by
  obtain ⟨ls, c, us, ks, l, x, hls, hx, hC, hM⟩ := h
  have hH := hC.2.2.1
  exact ok_vq hls hx hC hM (vr_q (lq_apart h1 h2 (gM_ok ls) hC.1 hH hC.2.2.2.1 hF)) (rq_apart h1 h2 hM.1 hM.2.1 hH.2.1.1 hH.2.1.2 hM.2.2.1 (fun k u hk e => ((hC.2.2.2.1 k hk).2 u e).2) (by omega)) (fun a j => app_ok)
theorem k_simplest {v : Int} (hv : iR v) (h : R1 σ σm) (hF : 5000 ≤ F) : OK1 (LL1_simplest F σ v) (Model_simplest F σm v) := by
  obtain ⟨ls, c, us, ks, l, x, hls, hx, hC, hM⟩ := h
  have hH := hC.2.2.1
  exact ok_vq hls hx hC hM (vr_q (lq_simplest hv (gM_ok ls) hC.1 hH hF)) (rq_simplest hv hM.1 hM.2.1 hH.2.1.1 hH.2.1.2 (by omega)) (fun a j => app_ok)
theorem k_games {v1 v2 : Int} (h1 : iR v1) (h2 : iR v2) (h : R1 σ σm) (hF : 5000 ≤ F) : OK1 (LL1_games F σ v1 v2) (Model_games F σm v1 v2) := by
  obtain ⟨ls, c, us, ks, l, x, hls, hx, hC, hM⟩ := h
  have hH := hC.2.2.1
  obtain ⟨σm', b1, b2⟩ := rq_games (F := F) h1 h2 (gM_ok ls) hM.1 hM.2.1.1 hH.2.1.1 hH.2.1.2 hM.2.2.2.2.2.2.2.2.2.2.2 hx (by omega)
  exact ⟨_, σ, σm', lq_games h1 h2 (gM_ok ls) hC.1.1 hC.1.2.1 hH.1 hH.2.1.1 hH.2.1.2 hC.2.2.2.2.2.2.2.2.2.2.2.2 hx (by omega), b1, ls, c, us, ks, l, x, hls, hx, hC, MI_v hM b2 (fun a j => gwp_ok)⟩
theorem jw13 {y : Int} (h : ¬ jw y = 0) (e : y = 1 ∨ y = 0) : y = 1 := by
  rcases e with e | e
  · exact e
  · rw [e] at h; exact absurd rfl h
theorem k_count {v : Int} (hv : iR v) (h : R1 σ σm) (hF : 5000 ≤ F) : OK1 (LL1_count F σ v) (Model_count F σm v) := by
  obtain ⟨ls, c, us, ks, l, x, hls, hx, hC, hM⟩ := h
  have ll : (tpN l).length = l.length := List.length_map ..
  have w1 := hC.2.2.2.2.2.2.2.2.2.2.2.1.1
  rw [ll] at w1
  have e1 : LL1_count F σ v = some (couA (gD ls) (ls.length - 1) x us ks (tpN l) v, σ) := lq_count hv hC.2.2.2.2.2.2.1.2.2.1 hC.2.2.2.2.2.2.2.1 hC.2.2.2.2.2.2.2.2.2.2.2.2 hC.2.2.1 hC.2.2.2.1 hC.2.2.2.2.2.2.2.2.2.2.2.1.1 (by omega)
  have e2 : Model_count F σm v = some (couA (gD ls) (ls.length - 1) x us ks (tpN l) v, σm) := rq_count hv hM.1.2.2.2.2 hM.2.2.2.2.2.1 hM.2.2.2.2.2.2.1 hM.2.2.2.2.2.2.2.2.2.2.2 hM.2.1 hM.2.2.1 (by rw [ll]; exact hM.2.2.2.2.2.2.2.2.2.2.1.2.1)
  exact ok_same hls hx hC hM e1 e2
end RE
