/-! Class and reference side by side: acts, caches, quotients, tape, game. -/
section RF
variable {F : Nat} {σ σm : jxS}
variable {ls : List lnT} {c : Nat → Nat} {us : List (Nat → Nat)} {ks : Nat → Option (Nat → Nat)} {l : List Nat} {x : Nat}
theorem k_odd {v : Int} (hv : iR v) (h : R1 σ σm) (hF : 5000 ≤ F) : OK1 (LL1_odd F σ v) (Model_odd F σm v) := by
  obtain ⟨ls, c, us, ks, l, x, hls, hx, hC, hM⟩ := h
  obtain ⟨σ', a1, a2, a3, a4⟩ := lq_odd (F := F) hv (gM_ok ls) hC.1 hC.2.2.2.2.1 hC.2.2.2.2.2.2.2.2.2.1 hF
  obtain ⟨σm', b1, b2⟩ := rq_odd (F := F) hv (gM_ok ls) hM.1 hM.2.2.2.1.1 hM.2.2.2.2.1 (by omega)
  obtain ⟨h1, h2, h3, h4, h5, h6, h7, h8, h9, h10, h11⟩ := hC.2.2
  have no : ∀ a j, ¬ (33 ≤ a ∧ a ≤ 40) → ¬ (a = 9 ∧ j = 8) → ¬ OWP 8 a j := fun a j q1 q2 z => by
    simp only [OWP, VP] at z
    omega
  exact ⟨_, σ', σm', a1, b1, ls, c, us, ks, l, x, hls, hx, ⟨a3, QB_fr hC.2.1 a2 (fun j => no _ _ (by omega) (by omega)) (fun a j q => no _ _ (by omega) (by omega)), HaC_fr h1 a2 (fun a j q z => no a j (by omega) (by omega) q), KeC_fr h2 a2 (fun j => no _ _ (by omega) (by omega)), fun h q1 q2 => by rw [a2 16 _ (no _ _ (by omega) (by omega))]; exact h3 h q1 q2, fun h q1 q2 => by rw [a2 17 _ (no _ _ (by omega) (by omega)), a2 18 _ (no _ _ (by omega) (by omega))]; exact h4 h q1 q2, RulA_fr h5 a2 (no _ _ (by omega) (by omega)) (fun a j _ _ => no _ _ (by omega) (by omega)), by rw [a2 10 9 (no _ _ (by omega) (by omega))]; exact h6, CyC_fr h7 a2 (fun j => no _ _ (by omega) (by omega)) (fun j => no _ _ (by omega) (by omega)), a4, ⟨by rw [a2 16 0 (no _ _ (by omega) (by omega))]; exact h9.1, by rw [a2 17 0 (no _ _ (by omega) (by omega))]; exact h9.2.1, by rw [a2 18 0 (no _ _ (by omega) (by omega))]; exact h9.2.2⟩, TpC_fr h10 a2 (no _ _ (by omega) (by omega)) (fun j => no _ _ (by omega) (by omega)), by rw [a2 0 3 (no _ _ (by omega) (by omega))]; exact h11⟩, MI_v hM b2 (fun a j => p20_ok)⟩
theorem k_wild {v : Int} (hv : iR v) (h : R1 σ σm) (hF : 5000 ≤ F) : OK1 (LL1_wild F σ v) (Model_wild F σm v) := by
  obtain ⟨ls, c, us, ks, l, x, hls, hx, hC, hM⟩ := h
  obtain ⟨σ', a1, a2, a3, a4⟩ := lq_wild (F := F) hv (gM_ok ls) hC.1 hC.2.2.2.2.1 hC.2.2.2.2.2.2.2.2.2.1 hF
  obtain ⟨σm', b1, b2⟩ := rq_wild (F := F) hv (gM_ok ls) hM.1 hM.2.2.2.1.1 hM.2.2.2.2.1 (by omega)
  obtain ⟨h1, h2, h3, h4, h5, h6, h7, h8, h9, h10, h11⟩ := hC.2.2
  have no : ∀ a j, ¬ (33 ≤ a ∧ a ≤ 40) → ¬ (a = 9 ∧ j = 9) → ¬ OWP 9 a j := fun a j q1 q2 z => by
    simp only [OWP, VP] at z
    omega
  exact ⟨_, σ', σm', a1, b1, ls, c, us, ks, l, x, hls, hx, ⟨a3, QB_fr hC.2.1 a2 (fun j => no _ _ (by omega) (by omega)) (fun a j q => no _ _ (by omega) (by omega)), HaC_fr h1 a2 (fun a j q z => no a j (by omega) (by omega) q), KeC_fr h2 a2 (fun j => no _ _ (by omega) (by omega)), fun h q1 q2 => by rw [a2 16 _ (no _ _ (by omega) (by omega))]; exact h3 h q1 q2, fun h q1 q2 => by rw [a2 17 _ (no _ _ (by omega) (by omega)), a2 18 _ (no _ _ (by omega) (by omega))]; exact h4 h q1 q2, RulA_fr h5 a2 (no _ _ (by omega) (by omega)) (fun a j _ _ => no _ _ (by omega) (by omega)), by rw [a2 10 9 (no _ _ (by omega) (by omega))]; exact h6, CyC_fr h7 a2 (fun j => no _ _ (by omega) (by omega)) (fun j => no _ _ (by omega) (by omega)), a4, ⟨by rw [a2 16 0 (no _ _ (by omega) (by omega))]; exact h9.1, by rw [a2 17 0 (no _ _ (by omega) (by omega))]; exact h9.2.1, by rw [a2 18 0 (no _ _ (by omega) (by omega))]; exact h9.2.2⟩, TpC_fr h10 a2 (no _ _ (by omega) (by omega)) (fun j => no _ _ (by omega) (by omega)), by rw [a2 0 3 (no _ _ (by omega) (by omega))]; exact h11⟩, MI_v hM b2 (fun a j => p20_ok)⟩
theorem k_period {v : Int} (hv : iR v) (h : R1 σ σm) (hF : 5000 ≤ F) : OK1 (LL1_period F σ v) (Model_period F σm v) := by
  obtain ⟨ls, c, us, ks, l, x, hls, hx, hC, hM⟩ := h
  obtain ⟨h1, h2, h3, h4, h5, h6, h7, h8, h9, h10, h11⟩ := hC.2.2
  have o16 := hls.2.1
  obtain ⟨σ', a1, a2, a3⟩ := lq_period (F := F) hv h5.1 h5.2.1 h5.2.2.1 h5.2.2.2.1 h6 (by omega) h7 hF
  have b1 := rq_period (F := F) (σ := σm) hv hM.1.2.2.2.2 h5.1 hM.2.2.2.2.2.1 hM.2.2.2.2.2.2.1 (by omega) hM.2.2.2.1 (by omega)
  have no : ∀ a j, ¬ (19 ≤ a ∧ a ≤ 21) → ¬ CYQ a j := fun a j q1 z => by
    simp only [CYQ] at z
    omega
  exact ⟨_, σ', σm, a1, b1, ls, c, us, ks, l, x, hls, hx, ⟨CV_fr3 hC.1 a2 (fun a j q => by simp only [CYQ] at q; omega), QB_fr hC.2.1 a2 (fun j => no _ _ (by omega)) (fun a j q => no _ _ (by omega)), HaC_fr h1 a2 (fun a j q z => no a j (by omega) q), KeC_fr h2 a2 (fun j => no _ _ (by omega)), fun h q1 q2 => by rw [a2 16 _ (no _ _ (by omega))]; exact h3 h q1 q2, fun h q1 q2 => by rw [a2 17 _ (no _ _ (by omega)), a2 18 _ (no _ _ (by omega))]; exact h4 h q1 q2, RulA_fr h5 a2 (no _ _ (by omega)) (fun a j _ _ => no _ _ (by omega)), by rw [a2 10 9 (no _ _ (by omega))]; exact h6, a3, OdC_fr h8 a2 (no _ _ (by omega)) (no _ _ (by omega)), ⟨by rw [a2 16 0 (no _ _ (by omega))]; exact h9.1, by rw [a2 17 0 (no _ _ (by omega))]; exact h9.2.1, by rw [a2 18 0 (no _ _ (by omega))]; exact h9.2.2⟩, TpC_fr h10 a2 (no _ _ (by omega)) (fun j => no _ _ (by omega)), by rw [a2 0 3 (no _ _ (by omega))]; exact h11⟩, hM⟩
/-- acts -/
theorem ok_act {o1 o2 : Option jxR} {s : haT} (hls : lsOK ls) (hx : x < 2147483648) (hC : CI σ ls c us ks l x) (hM : MI σm ls c us ks l x) (e1 : actC (gM ls) σ o1 s) (e2 : actR σm o2 s) : OK1 o1 o2 := by
  obtain ⟨σ', a1, a2, a3, a4⟩ := e1
  obtain ⟨σm', b1, b2, b3⟩ := e2
  obtain ⟨h1, h2, h3, h4, h5, h6, h7, h8, h9, h10, h11⟩ := hC.2.2
  obtain ⟨m1, m2, m3, m4, m5, m6, m7, m8, m9, m10, m11⟩ := hM.2
  have no : ∀ a j, ¬ (29 ≤ a ∧ a ≤ 30) → ¬ (33 ≤ a ∧ a ≤ 43) → ¬ (HP a j ∨ VQ a j) := fun a j q1 q2 z => by
    rcases z with z | z
    · simp only [HP] at z; omega
    · have := VQ_32 z; omega
  have nm : ∀ a j, a ≠ 24 → a ≠ 25 → ¬ (a = 0 ∧ j = 37) → ¬ HRP a j := fun a j q1 q2 q3 z => by
    simp only [HRP] at z
    omega
  exact ⟨_, σ', σm', a1, b1, ls, s.2.1, s.2.2, ks, l, x, hls, hx, ⟨a3, QB_fr hC.2.1 a2 (fun j => no _ _ (by omega) (by omega)) (fun a j q => no _ _ (by omega) (by omega)), a4, KeC_fr h2 a2 (fun j => no _ _ (by omega) (by omega)), fun h q1 q2 => by rw [a2 16 _ (no _ _ (by omega) (by omega))]; exact h3 h q1 q2, fun h q1 q2 => by rw [a2 17 _ (no _ _ (by omega) (by omega)), a2 18 _ (no _ _ (by omega) (by omega))]; exact h4 h q1 q2, RulA_fr h5 a2 (no _ _ (by omega) (by omega)) (fun a j _ _ => no _ _ (by omega) (by omega)), by rw [a2 10 9 (no _ _ (by omega) (by omega))]; exact h6, CyC_fr h7 a2 (fun j => no _ _ (by omega) (by omega)) (fun j => no _ _ (by omega) (by omega)), OdC_fr h8 a2 (no _ _ (by omega) (by omega)) (no _ _ (by omega) (by omega)), ⟨by rw [a2 16 0 (no _ _ (by omega) (by omega))]; exact h9.1, by rw [a2 17 0 (no _ _ (by omega) (by omega))]; exact h9.2.1, by rw [a2 18 0 (no _ _ (by omega) (by omega))]; exact h9.2.2⟩, TpC_fr h10 a2 (no _ _ (by omega) (by omega)) (fun j => no _ _ (by omega) (by omega)), by rw [a2 0 3 (no _ _ (by omega) (by omega))]; exact h11⟩, ⟨RI_fr hM.1 b2 (nm _ _ (by omega) (by omega) (by omega)) (fun a j _ _ => nm _ _ (by omega) (by omega) (by omega)) (fun a j _ _ => nm _ _ (by omega) (by omega) (by omega)), b3, KeR_fr m2 b2 (nm _ _ (by omega) (by omega) (by omega)) (fun j => nm _ _ (by omega) (by omega) (by omega)), ⟨fun g hg => by rw [b2 11 _ (nm _ _ (by omega) (by omega) (by omega))]; exact m3.1 g hg, fun q g hg => by rw [b2 11 _ (nm _ _ (by omega) (by omega) (by omega))]; rw [b2 0 12 (nm _ _ (by omega) (by omega) (by omega))] at q; exact m3.2 q g hg⟩, fun i hi => by rw [b2 19 _ (nm _ _ (by omega) (by omega) (by omega))]; exact m4 i hi, by rw [b2 0 11 (nm _ _ (by omega) (by omega) (by omega))]; exact m5, by rw [b2 0 12 (nm _ _ (by omega) (by omega) (by omega))]; exact m6, WdT_fr m7 b2 (fun j => nm _ _ (by omega) (by omega) (by omega)), TW_F m8 b2 (fun j => nm _ _ (by omega) (by omega) (by omega)) (fun j => nm _ _ (by omega) (by omega) (by omega)), by rw [b2 0 24 (nm _ _ (by omega) (by omega) (by omega))]; exact m9, TpQ_fr m10 b2 (nm _ _ (by omega) (by omega) (by omega)) (fun j => nm _ _ (by omega) (by omega) (by omega)), by rw [b2 0 43 (nm _ _ (by omega) (by omega) (by omega))]; exact m11⟩⟩
theorem k_put {v : Int} (hv : iR v) (h : R1 σ σm) (hF : 5000 ≤ F) : OK1 (LL1_put F σ v) (Model_put F σm v) := by
  obtain ⟨ls, c, us, ks, l, x, hls, hx, hC, hM⟩ := h
  have hH := hC.2.2.1
  exact ok_act hls hx hC hM (lq_put hv hC.1 hH (by omega)) (rq_put hv hM.1.2.2.2.2 hM.2.1 hH.2.1.2 (by omega))
theorem k_move {v1 v2 v3 : Int} (h1 : iR v1) (h2 : iR v2) (h3 : iR v3) (h : R1 σ σm) (hF : 5000 ≤ F) : OK1 (LL1_move F σ v1 v2 v3) (Model_move F σm v1 v2 v3) := by
  obtain ⟨ls, c, us, ks, l, x, hls, hx, hC, hM⟩ := h
  have hH := hC.2.2.1
  exact ok_act hls hx hC hM (lq_move h1 h2 h3 hC.2.2.2.2.2.2.1 hC.1 hH hF) (rq_move h1 h2 h3 hM.1 (gM_ok ls) hM.2.1 hH.2.1.1 hH.2.1.2 (by omega))
theorem k_reply (h : R1 σ σm) (hF : 5000 ≤ F) : OK1 (LL1_reply F σ) (Model_reply F σm) := by
  obtain ⟨ls, c, us, ks, l, x, hls, hx, hC, hM⟩ := h
  have hH := hC.2.2.1
  exact ok_act hls hx hC hM (lq_reply (gM_ok ls) hC.1 hH hF) (rq_reply hM.1 (gM_ok ls) hM.2.1 hH.2.1.1 hH.2.1.2 (by omega))
theorem k_clear (h : R1 σ σm) (hF : 5000 ≤ F) : OK1 (LL1_clear F σ) (Model_clear F σm) := by
  obtain ⟨ls, c, us, ks, l, x, hls, hx, hC, hM⟩ := h
  have hH := hC.2.2.1
  exact ok_act hls hx hC hM (lq_clear hC.1 hH (by omega)) (rq_clear hM.2.1 hH.2.1.2 (by omega))
theorem k_undo (h : R1 σ σm) (hF : 5000 ≤ F) : OK1 (LL1_undo F σ) (Model_undo F σm) := by
  obtain ⟨ls, c, us, ks, l, x, hls, hx, hC, hM⟩ := h
  exact ok_act hls hx hC hM (lq_undo hC.1 hC.2.2.1) (rq_undo hM.2.1 (by omega))
theorem rk_answers2 {M : Nat → List Nat} {v : Int} (hI : RV σ M 24 c) (hM : MOK M) (hc : okc c) (hb : beans c ≤ 22) (h13 : ¬ jw (σ 0 13) = 0) (hF : 1000 ≤ F) (hv : iR v) : Model_answers F σ v = some (if v < -1 then -1 else anp M c v 0 (ops M c), σ) := by
  have wv : jw v = v := jw_id hv.1 hv.2
  rw [Model_answers, if_neg h13, wv]
  by_cases z : v < -1
  · rw [if_pos z, if_pos z]
  · have ol := ops_len hM c
    rw [← glo_ops] at ol
    have o := ra_out (F := F) (v := v) hI hM hc hb hF (by omega) hv.2 12 F 1 0 (by omega) (by omega) (by omega) (by omega)
    rw [glo_ops, anl_anp] at o
    rw [if_neg z, if_neg z]
    exact o
theorem k_answers {v : Int} (hv : iR v) (h : R1 σ σm) (hF : 5000 ≤ F) : OK1 (LL1_answers F σ v) (Model_answers F σm v) := by
  obtain ⟨ls, c, us, ks, l, x, hls, hx, hC, hM⟩ := h
  have hH := hC.2.2.1
  have b' := rk_answers2 (F := F) ⟨hM.1.1, hM.1.2.2.1, hM.1.2.1, hM.2.1.1⟩ (gM_ok ls) hH.2.1.1 hH.2.1.2 hM.1.2.2.2.2 (by omega) hv
  exact ok_vq (P := P20) hls hx hC hM (ck_answers (gM_ok ls) hC.1 hH.1 hH.2.1.1 hH.2.1.2 hF hv.1 hv.2) ⟨σm, b', jfr_refl _ _⟩ (fun a j => p20_ok)
theorem k_keep {v : Int} (hv : iR v) (h : R1 σ σm) (hF : 5000 ≤ F) : OK1 (LL1_keep F σ v) (Model_keep F σm v) := by
  obtain ⟨ls, c, us, ks, l, x, hls, hx, hC, hM⟩ := h
  obtain ⟨h1, h2, h3, h4, h5, h6, h7, h8, h9, h10, h11⟩ := hC.2.2
  obtain ⟨m1, m2, m3, m4, m5, m6, m7, m8, m9, m10, m11⟩ := hM.2
  obtain ⟨σ', a1, a2, a3⟩ := lq_keep (F := F) hv hC.1 h1 h2 (by omega)
  obtain ⟨σm', b1, b2, b3⟩ := rq_keep (F := F) hv hM.1.2.2.2.2 m1 m2 (by omega)
  have no : ∀ a j, a ≠ 31 → ¬ P31 a j := fun a j q z => q z
  have nm : ∀ a j, a ≠ 27 → ¬ (a = 0 ∧ j = 40) → ¬ KRP a j := fun a j q1 q2 z => by
    simp only [KRP] at z
    omega
  exact ⟨_, σ', σm', a1, b1, ls, c, us, keeK c ks v, l, x, hls, hx, ⟨CV_fr3 hC.1 a2 (fun a j q => by simp only [P31] at q; omega), QB_fr hC.2.1 a2 (fun j => no _ _ (by omega)) (fun a j q => no _ _ (by omega)), HaC_fr h1 a2 (fun a j q => by simp only [P31] at q; omega), a3, fun h q1 q2 => by rw [a2 16 _ (no _ _ (by omega))]; exact h3 h q1 q2, fun h q1 q2 => by rw [a2 17 _ (no _ _ (by omega)), a2 18 _ (no _ _ (by omega))]; exact h4 h q1 q2, RulA_fr h5 a2 (no _ _ (by omega)) (fun a j _ _ => no _ _ (by omega)), by rw [a2 10 9 (no _ _ (by omega))]; exact h6, CyC_fr h7 a2 (fun j => no _ _ (by omega)) (fun j => no _ _ (by omega)), OdC_fr h8 a2 (no _ _ (by omega)) (no _ _ (by omega)), ⟨by rw [a2 16 0 (no _ _ (by omega))]; exact h9.1, by rw [a2 17 0 (no _ _ (by omega))]; exact h9.2.1, by rw [a2 18 0 (no _ _ (by omega))]; exact h9.2.2⟩, TpC_fr h10 a2 (no _ _ (by omega)) (fun j => no _ _ (by omega)), by rw [a2 0 3 (no _ _ (by omega))]; exact h11⟩, ⟨RI_fr hM.1 b2 (nm _ _ (by omega) (by omega)) (fun a j _ _ => nm _ _ (by omega) (by omega)) (fun a j _ _ => nm _ _ (by omega) (by omega)), HaR_fr m1 b2 (fun a j q => by simp only [KRP] at q; omega), b3, ⟨fun g hg => by rw [b2 11 _ (nm _ _ (by omega) (by omega))]; exact m3.1 g hg, fun q g hg => by rw [b2 11 _ (nm _ _ (by omega) (by omega))]; rw [b2 0 12 (nm _ _ (by omega) (by omega))] at q; exact m3.2 q g hg⟩, fun i hi => by rw [b2 19 _ (nm _ _ (by omega) (by omega))]; exact m4 i hi, by rw [b2 0 11 (nm _ _ (by omega) (by omega))]; exact m5, by rw [b2 0 12 (nm _ _ (by omega) (by omega))]; exact m6, WdT_fr m7 b2 (fun j => nm _ _ (by omega) (by omega)), TW_F m8 b2 (fun j => nm _ _ (by omega) (by omega)) (fun j => nm _ _ (by omega) (by omega)), by rw [b2 0 24 (nm _ _ (by omega) (by omega))]; exact m9, TpQ_fr m10 b2 (nm _ _ (by omega) (by omega)) (fun j => nm _ _ (by omega) (by omega)), by rw [b2 0 43 (nm _ _ (by omega) (by omega))]; exact m11⟩⟩
end RF
