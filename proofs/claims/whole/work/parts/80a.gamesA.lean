/-! the class: how many moves, after a move -/
section DG
variable {F : Nat} {σ : jxS} {M : Nat → List Nat} {c : Nat → Nat}
/-! the class -/
theorem cmo_loop {b L : Nat} (hM : MOK M) (hP : PosOK σ) (hR : RulC σ M) (hc : okc c) (hb : beans c ≤ 22) (hL : L = (dh c).length) (hbL : b + L ≤ 14202) (eb : b = ps (rank c)) (hE : Positions_endPart F σ (rank c) = some (((b + L : Nat) : Int), σ)) (hF : 100 ≤ F) : ∀ (r : List Nat) (fu j : Nat) (acc : Int), (dh c).drop j = r → r.length + j = L → r.length < fu → Board_movesOf_c11 F fu (rank c) acc ((b + j : Nat) : Int) σ = some (acc + (smw M c r : Int), σ) := by
  intro r
  induction r with
  | nil =>
    intro fu j acc e1 e2 e3
    obtain ⟨fu, rfl⟩ : ∃ k, fu = k + 1 := ⟨fu - 1, by omega⟩
    simp only [List.length_nil] at e2
    rw [Board_movesOf_c11, hE, jbs]
    dsimp only
    rw [if_neg (show ¬ jw ((b + j : Nat) : Int) < jw ((b + L : Nat) : Int) by rw [jw_id (by omega) (by omega), jw_id (by omega) (by omega)]; omega), smw, Int.natCast_zero, Int.add_zero]
  | cons h r ih =>
    intro fu j acc e1 e2 e3
    obtain ⟨fu, rfl⟩ : ∃ k, fu = k + 1 := ⟨fu - 1, by omega⟩
    simp only [List.length_cons] at e2 e3
    obtain ⟨hk, hr⟩ := drop_o e1
    obtain ⟨⟨m1, m2⟩, m3⟩ := dh_mem.mp (List.mem_of_getElem? hk)
    have he := (po_heap (F := F) hP hc hb hk).1
    rw [← eb] at he
    have co := po_count (F := F) hP (h := h) hc hb m1 m2 hF
    have mc := ca_count (F := F) hR hM (h := h) m1 m2
    have nx := ih fu (j + 1) (acc + (cwt M c h : Int)) hr (by omega) (by omega)
    rw [show ((b + (j + 1) : Nat) : Int) = ((b + j : Nat) : Int) + 1 by omega] at nx
    rw [Board_movesOf_c11, hE, jbs]
    dsimp only
    rw [if_pos (show jw ((b + j : Nat) : Int) < jw ((b + L : Nat) : Int) by rw [jw_id (by omega) (by omega), jw_id (by omega) (by omega)]; omega), he, jbs]
    dsimp only
    rw [co, jbs]
    dsimp only
    rw [mc, jbs]
    dsimp only
    rw [cwt_int, nx, smw, Int.natCast_add, Int.add_assoc]
theorem ca_movesOf (hM : MOK M) (hP : PosOK σ) (hR : RulC σ M) (hc : okc c) (hb : beans c ≤ 22) (hF : 100 ≤ F) : Board_movesOf F σ (rank c) = some ((mvt M c : Int), σ) := by
  have dl := dh_len c
  have lo := cmo_loop (F := F) hM hP hR hc hb rfl (ps_all hP hc hb) rfl (po_end hP hc hb) hF (dh c) F 0 0 rfl (Nat.add_zero _) (by omega)
  rw [Int.zero_add, mvt_dh] at lo
  rw [Board_movesOf, po_first hP hb, jbs]
  exact lo
end DG
