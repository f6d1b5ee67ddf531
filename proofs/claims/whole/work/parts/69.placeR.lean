/-! The place of what was fed: the class's call, the reference's. -/
theorem lq_place {F n : Nat} {σ : jxS} {M : Nat → List Nat} {l : List Int} (hT : TpC σ l) (hM : MOK M) (n1 : 1 ≤ n) (n6 : n ≤ 6) (hC : CV σ M) (hB : QB σ M) (hF : 5000 ≤ F) : ∃ σ', LL1_place F σ n = some (plA M n l, jup σ' 1 1 0) ∧ jfr (QP (qid n)) σ σ' ∧ CV σ' M ∧ QB σ' M := by
  obtain ⟨σ', a1, a2, a3, a4, a5⟩ := cb_quot (F := F) hM n1 n6 hC hB hF
  have nz : ¬ (qid n : Int) = 0 := by unfold qid; omega
  have hT' : TpC σ' l := ⟨by rw [a2 1 1 (by simp only [QP, VP, qid]; omega)]; exact hT.1, hT.2.1, fun i x hx => by rw [a2 2 _ (by simp only [QP, VP, qid]; omega)]; exact hT.2.2 i x hx⟩
  have lt := hT.2.1
  have w := hT'.1
  have p := cpl_all (F := F) (q := qid n) rfl (a4 n n1 n6).2.1 hT' n1 n6 a5 (by omega) l F 0 rfl (Nat.add_zero _) (by omega)
  have p' : Quotient_placeOf F (qid n) σ' = some (plA M n l, σ') := p
  refine ⟨σ', ?_, a2, a3, a4⟩
  rw [LL1_place, a1, jbs]
  dsimp only
  rw [if_neg nz, jsel_qid n1 n6, p', jbs]
  dsimp only
  rw [Tape_cutTo, if_neg (show ¬ jw 0 < 0 by decide), if_neg (show ¬ jw (σ' 1 1) < jw 0 by rw [w]; unfold jw; omega), jbs]
section PLR
variable {F n N : Nat} {σ : jxS} {M : Nat → List Nat} {s : qsT} {l : List Int}
theorem rpl_in {k68 : Int → Int → Int → Int → jxS → Option jxR} {h : Nat} (hN : l.length = N) (hT : TpR σ l) (n6 : n ≤ 6) (hQ : RQ σ n s) (h1 : 1 ≤ h) (h2 : h ≤ n) : ∀ (t : List Int) (fu i r : Nat), l.drop i = t → t.length + i = N → t.length < fu → r < s.1.length → Model_place_c77 F k68 fu n N r h i σ = k68 n N (plI s h r t : Int) ((h : Int) + 1) σ := by
  have N2 : N ≤ 200 := by rw [← hN]; exact hT.1
  intro t
  induction t with
  | nil =>
    intro fu i r e1 e2 e3 hr
    obtain ⟨fu, rfl⟩ : ∃ k, fu = k + 1 := ⟨fu - 1, by omega⟩
    simp only [List.length_nil] at e2
    rw [Model_place_c77, if_neg (show ¬ jw (i : Int) < jw (N : Int) by unfold jw; omega)]
    rfl
  | cons x t ih =>
    intro fu i r e1 e2 e3 hr
    obtain ⟨fu, rfl⟩ : ∃ k, fu = k + 1 := ⟨fu - 1, by omega⟩
    simp only [List.length_cons] at e2 e3
    obtain ⟨hm, hd⟩ := drop_o e1
    obtain ⟨wx, hx⟩ := hT.2 i x hm
    have jx : jw (σ 1 i) = x := by rw [wx]; exact jw_id hx.1 hx.2
    have jh : jw (h : Int) = (h : Int) := jw_id (by omega) (by omega)
    have e2' : t.length + (i + 1) = N := by omega
    have e3' : t.length < fu := by omega
    rw [Model_place_c77, if_pos (show jw (i : Int) < jw (N : Int) by unfold jw; omega), if_pos (show 0 ≤ (i : Int) ∧ (i : Int) < 200 by omega), plI]
    by_cases z : x = (h : Int)
    · have i1 := ih fu (i + 1) (s.2 r h) hd e2' e3' (hQ.2.1.2.2 r h hr h1 h2)
      rw [Int.natCast_add, Int.natCast_one] at i1
      rw [if_pos (show jw (σ 1 i) = jw (h : Int) by rw [jx, jh]; exact z), rq_next n6 hQ hr h1 h2, jbs, if_pos z]
      exact i1
    · have i1 := ih fu (i + 1) r hd e2' e3' hr
      rw [Int.natCast_add, Int.natCast_one] at i1
      rw [if_neg (show ¬ jw (σ 1 i) = jw (h : Int) by rw [jx, jh]; exact z), if_neg z]
      exact i1
theorem rpl_out (hN : l.length = N) (hT : TpR σ l) (n6 : n ≤ 6) (hQ : RQ σ n s) (hF : 300 ≤ F) : ∀ (k fu h r : Nat), k + h = n + 1 → 1 ≤ h → k < fu → r < s.1.length → Model_place_c68 F fu n N r h σ = some ((plO s n l k r : Int), σ) := by
  have lt := hT.1
  intro k
  induction k with
  | zero =>
    intro fu h r e1 e2 e3 hr
    obtain ⟨fu, rfl⟩ : ∃ k, fu = k + 1 := ⟨fu - 1, by omega⟩
    rw [Model_place_c68, if_pos (show jw (n : Int) < jw (h : Int) by unfold jw; omega)]
    rfl
  | succ k ih =>
    intro fu h r e1 e2 e3 hr
    obtain ⟨fu, rfl⟩ : ∃ k, fu = k + 1 := ⟨fu - 1, by omega⟩
    have h2 : h ≤ n := by omega
    have a := rpl_in (F := F) (k68 := Model_place_c68 F fu) hN hT n6 hQ e2 h2 l F 0 r rfl (by omega) (by omega) hr
    have a' : Model_place_c77 F (Model_place_c68 F fu) F n N r h 0 σ = _ := a
    have i1 := ih fu (h + 1) (plI s h r l) (by omega) (by omega) (by omega) (plI_lt hQ.2.1 e2 h2 l r hr)
    rw [Int.natCast_add, Int.natCast_one] at i1
    rw [Model_place_c68, if_neg (show ¬ jw (n : Int) < jw (h : Int) by unfold jw; omega), a', i1, plO, show n - k = h by omega]
theorem rpl_all (hN : l.length = N) (hT : TpR σ l) (n1 : 1 ≤ n) (n6 : n ≤ 6) (hb : RLd σ M n) (hF : 300 ≤ F) : ∀ (t : List Int) (fu i : Nat), l.drop i = t → t.length + i = N → t.length < fu → Model_place_c22 F fu n N i σ = some (if t.all (inH n) then kA M n (fun s => (plO s n l n 0 : Int)) else -2, σ) := by
  have N2 : N ≤ 200 := by rw [← hN]; exact hT.1
  have jn : jw (n : Int) = (n : Int) := jw_id (by omega) (by omega)
  intro t
  induction t with
  | nil =>
    intro fu i e1 e2 e3
    obtain ⟨fu, rfl⟩ : ∃ k, fu = k + 1 := ⟨fu - 1, by omega⟩
    simp only [List.length_nil] at e2
    rw [Model_place_c22, if_neg (show ¬ jw (i : Int) < jw (N : Int) by unfold jw; omega), List.all_nil]
    unfold kA
    cases hq : qbd M n with
    | none => rw [rb_none hq hb n6, jbs]; rfl
    | some s =>
      obtain ⟨hQ, _, _, _⟩ := rb_some hq hb
      have a := rpl_out (F := F) hN hT n6 hQ hF n F 1 0 (by omega) (by omega) (by omega) (by have := hQ.2.1.1.1; omega)
      rw [rb_known hQ n6, jbs]
      dsimp only
      rw [if_neg (show ¬ jw 1 = 0 by decide)]
      exact a
  | cons x t ih =>
    intro fu i e1 e2 e3
    obtain ⟨fu, rfl⟩ : ∃ k, fu = k + 1 := ⟨fu - 1, by omega⟩
    simp only [List.length_cons] at e2 e3
    obtain ⟨hm, hd⟩ := drop_o e1
    obtain ⟨wx, hx⟩ := hT.2 i x hm
    have jx : jw (σ 1 i) = x := by rw [wx]; exact jw_id hx.1 hx.2
    have e2' : t.length + (i + 1) = N := by omega
    have e3' : t.length < fu := by omega
    have i1 := ih fu (i + 1) hd e2' e3'
    rw [Int.natCast_add, Int.natCast_one] at i1
    rw [Model_place_c22, if_pos (show jw (i : Int) < jw (N : Int) by unfold jw; omega), if_pos (show 0 ≤ (i : Int) ∧ (i : Int) < 200 by omega), jx, jn, mo_isIn hx ⟨by decide, by decide⟩ (iR_n n6), jbs, List.all_cons]
    dsimp only
    by_cases y : 1 ≤ x ∧ x ≤ (n : Int)
    · have f : inH n x = true := by unfold inH; simp; omega
      rw [if_pos y, if_neg (show ¬ jw 1 = 0 by decide), f, Bool.true_and]
      exact i1
    · have f : inH n x = false := by unfold inH; simp; omega
      rw [if_neg y, if_pos (show jw 0 = 0 from rfl), f, Bool.false_and]
      rfl
theorem rq_place (hT : TpR σ l) (hl : σ 0 1 = (l.length : Int)) (n1 : 1 ≤ n) (n6 : n ≤ 6) (hM : MOK M) (hI : RI σ M) (hF : 5000 ≤ F) : ∃ σ', Model_place F σ n = some (plA M n l, jup σ' 0 1 0) ∧ jfr (RLP n) σ σ' ∧ RI σ' M := by
  obtain ⟨σ', a1, a2, a3, a4⟩ := rb_quot (F := F) n1 n6 hM hI hF
  have f1 : jfr (fun a _ => a = 0) σ' (jup σ' 0 1 0) := jfr_up (jfr_refl _ _) rfl
  have w : σ' 0 1 = (l.length : Int) := by rw [a2 0 1 (by simp only [RLP, RQP]; omega)]; exact hl
  have hT' : TpR (jup σ' 0 1 0) l := ⟨hT.1, fun i x hx => by rw [jup_o (by omega), a2 1 _ (by simp only [RLP, RQP]; omega)]; exact hT.2 i x hx⟩
  have lt := hT.1
  have p := rpl_all (F := F) rfl hT' n1 n6 (RLd_fr a4 f1 (fun a j q1 q2 => by omega)) (by omega) l F 0 rfl (Nat.add_zero _) (by omega)
  refine ⟨σ', ?_, a2, a3⟩
  rw [Model_place, a1, jbs]
  dsimp only
  rw [if_neg (show ¬ jw 1 = 0 by decide), w]
  exact p
end PLR
