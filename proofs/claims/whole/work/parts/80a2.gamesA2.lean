/-! the class: after a move -/
section DG
variable {F : Nat} {σ : jxS} {M : Nat → List Nat} {c : Nat → Nat}
theorem cam_n {i w l : Nat} (hi : i ≤ 20000) (hw : w ≤ 924) (hl : l ≤ 42) (z : i < w) (p : 0 < l) : jw (i : Int) < jw (w : Int) ∧ jw (l : Int) = (l : Int) ∧ 0 < (l : Int) ∧ ¬ (l : Int) = 0 ∧ jrem (i : Int) (l : Int) = ((i % l : Nat) : Int) := by
  refine ⟨?_, jw_id (by omega) (by omega), by omega, by omega, bq_rem (by omega) (by omega)⟩
  rw [jw_id (by omega) (by omega), jw_id (by omega) (by omega)]
  omega
theorem cam_loop {b L : Nat} (hM : MOK M) (hP : PosOK σ) (hR : RulC σ M) (hc : okc c) (hb : beans c ≤ 22) (hL : L = (dh c).length) (hbL : b + L ≤ 14202) (eb : b = ps (rank c)) (hE : Positions_endPart F σ (rank c) = some (((b + L : Nat) : Int), σ)) (hF : 100 ≤ F) {o : Nat × Nat} : ∀ (r : List Nat) (fu j i : Nat), (dh c).drop j = r → r.length + j = L → r.length < fu → i ≤ 20000 → pkw M c r i = some o → Board_afterMove_c12 F fu (rank c) i ((b + j : Nat) : Int) σ = some ((rank (tgt c o.1 o.2) : Int), σ) := by
  intro r
  induction r with
  | nil =>
    intro fu j i e1 e2 e3 e4 e5
    cases e5
  | cons h r ih =>
    intro fu j i e1 e2 e3 e4 e5
    obtain ⟨fu, rfl⟩ : ∃ k, fu = k + 1 := ⟨fu - 1, by omega⟩
    simp only [List.length_cons] at e2 e3
    obtain ⟨hk, hr⟩ := drop_o e1
    obtain ⟨⟨m1, m2⟩, m3⟩ := dh_mem.mp (List.mem_of_getElem? hk)
    obtain ⟨he, hre⟩ := po_heap (F := F) hP hc hb hk
    rw [← eb] at he hre
    have co := po_count (F := F) hP (h := h) hc hb m1 m2 hF
    have mc := ca_count (F := F) hR hM (h := h) m1 m2
    have cl := cwt_le hM hb m1 m2
    have ml := MOK_len hM m1 m2
    rw [Board_afterMove_c12, hE, jbs]
    dsimp only
    rw [if_pos (show jw ((b + j : Nat) : Int) < jw ((b + L : Nat) : Int) by rw [jw_id (by omega) (by omega), jw_id (by omega) (by omega)]; omega), he, jbs]
    dsimp only
    rw [mc, jbs]
    dsimp only
    rw [co, jbs]
    dsimp only
    rw [cwt_int]
    rw [pkw] at e5
    by_cases z : i < cwt M c h
    · obtain ⟨p1, p2⟩ := cwt_pos z
      obtain ⟨c1, l0, c2, c3, jr⟩ := cam_n e4 cl ml z p1
      rw [if_pos z] at e5
      have e6 := Option.some.inj e5
      subst e6
      have kl : i % (M h).length < (M h).length := Nat.mod_lt _ p1
      have ge : (M h)[i % (M h).length]? = some ((M h).getD (i % (M h).length) 0) := by
        rw [List.getD_eq_getElem?_getD, List.getElem?_eq_getElem kl]; rfl
      have at' := ca_at (F := F) hR hM m1 m2 ge
      have mo := (hM h m1 m2).2 _ (List.mem_of_getElem? ge)
      have mv := ca_mv (F := F) hP (c := c) (h := h) (m := (M h).getD (i % (M h).length) 0) hc hb m1 m2 m3 mo.2
      rw [if_pos c1, l0, if_pos c2, if_neg c3, jr, at', jbs]
      dsimp only
      rw [hre, jbs]
      dsimp only
      rw [mv, jbs]
    · rw [if_neg z] at e5
      have nx := ih fu (j + 1) (i - cwt M c h) hr (by omega) (by omega) (by omega) e5
      rw [show ((b + (j + 1) : Nat) : Int) = ((b + j : Nat) : Int) + 1 by omega, show ((i - cwt M c h : Nat) : Int) = (i : Int) - (cwt M c h : Int) by omega] at nx
      rw [if_neg (show ¬ jw (i : Int) < jw (cwt M c h : Int) by rw [jw_id (by omega) (by omega), jw_id (by omega) (by omega)]; omega), Board_afterMove_c107]
      exact nx
theorem ca_after {i : Nat} {o : Nat × Nat} (hM : MOK M) (hP : PosOK σ) (hR : RulC σ M) (hc : okc c) (hb : beans c ≤ 22) (hi : i ≤ 20000) (ho : pkt M c i = some o) (hF : 100 ≤ F) : Board_afterMove F σ (rank c) i = some ((rank (tgt c o.1 o.2) : Int), σ) := by
  have dl := dh_len c
  rw [← pkt_dh] at ho
  have lo := cam_loop (F := F) hM hP hR hc hb rfl (ps_all hP hc hb) rfl (po_end hP hc hb) hF (dh c) F 0 i rfl (Nat.add_zero _) (by omega) hi ho
  rw [Board_afterMove, po_first hP hb, jbs]
  exact lo
end DG
