/-! Pairs: the reference's search. -/
theorem RQ_fr {σ σ' : jxS} {n : Nat} {s : qsT} {P : Nat → Int → Prop} (h : RQ σ n s) (f : jfr P σ σ') (h1 : ∀ j, ¬ P 31 j) (h2 : ∀ j, ¬ P 32 j) (h3 : ∀ j, ¬ P 33 j) : RQ σ' n s := by
  obtain ⟨⟨w0, w1, w2, w3⟩, w4, w5⟩ := h
  refine ⟨⟨by rw [f 31 _ (h1 _)]; exact w0, w1, w2, fun i w hw => ?_⟩, w4, fun a b ha b1 b2 => by rw [f 33 _ (h3 _)]; exact w5 a b ha b1 b2⟩
  obtain ⟨u1, u2⟩ := w3 i w hw
  exact ⟨fun h a b => by rw [f 32 _ (h2 _)]; exact u1 h a b, u2⟩
def PL (σ : jxS) (l : List prT) : Prop := l.length ≤ 2000 ∧ ∀ (i : Nat) (x : prT), l[i]? = some x → σ 39 i = (x.1 : Int) ∧ σ 40 i = (x.2 : Int)
def PLP (a : Nat) (_ : Int) : Prop := a = 39 ∨ a = 40
theorem rpa_loop {F L N : Nat} {σ : jxS} {l : List prT} {y : prT} (L16 : L ≤ 16) (hl : okP L l) (hP : PL σ l) (hN : l.length = N) (hy : y.1 < L ∧ y.2 < 2 ^ L) : ∀ (r : List prT) (fu i : Nat), l.drop i = r → r.length + i = N → r.length < fu → ∃ v : Int, Model_pairAt_c3 F fu N y.1 y.2 i σ = some (v, σ) ∧ (y ∈ r → 0 ≤ v ∧ v < 2000) ∧ (y ∉ r → v = -1) := by
  have N2 : N ≤ 2000 := by rw [← hN]; exact hP.1
  have pw : 2 ^ L ≤ 65536 := Nat.pow_le_pow_right (n := 2) (by decide) L16
  intro r
  induction r with
  | nil =>
    intro fu i e1 e2 e3
    obtain ⟨fu, rfl⟩ : ∃ k, fu = k + 1 := ⟨fu - 1, by omega⟩
    simp only [List.length_nil] at e2
    refine ⟨-1, ?_, fun h => by simp at h, fun _ => rfl⟩
    rw [Model_pairAt_c3, if_neg (show ¬ jw (i : Int) < jw (N : Int) by unfold jw; omega)]
  | cons x r ih =>
    intro fu i e1 e2 e3
    obtain ⟨fu, rfl⟩ : ∃ k, fu = k + 1 := ⟨fu - 1, by omega⟩
    simp only [List.length_cons] at e2 e3
    obtain ⟨hm, hr⟩ := drop_o e1
    obtain ⟨w1, w2⟩ := hP.2 i x hm
    have hx := hl x (List.mem_of_getElem? hm)
    have x1 : x.1 < 16 := by omega
    have x2 : x.2 < 65536 := by omega
    have y1 : y.1 < 16 := by omega
    have y2 : y.2 < 65536 := by omega
    have c1 : jw (i : Int) < jw (N : Int) := by unfold jw; omega
    have c2 : 0 ≤ (i : Int) ∧ (i : Int) < 2000 := by omega
    have e2' : r.length + (i + 1) = N := by omega
    have e3' : r.length < fu := by omega
    obtain ⟨v, i1, i2, i3⟩ := ih fu (i + 1) hr e2' e3'
    rw [Int.natCast_add, Int.natCast_one] at i1
    by_cases z1 : x.1 = y.1
    · have d1 : jw (σ 39 i) = jw (y.1 : Int) := by rw [w1, z1]
      by_cases z2 : x.2 = y.2
      · have d2 : jw (σ 40 i) = jw (y.2 : Int) := by rw [w2, z2]
        have xy : x = y := Prod.ext z1 z2
        refine ⟨i, ?_, fun _ => c2, fun h => absurd (by rw [xy]; exact List.mem_cons_self) h⟩
        rw [Model_pairAt_c3, if_pos c1, if_pos c2, if_pos d1, if_pos c2, if_pos d2]
      · have d2 : ¬ jw (σ 40 i) = jw (y.2 : Int) := by rw [w2, jw_id (by omega) (by omega), jw_id (by omega) (by omega)]; omega
        have xy : ¬ y = x := fun h => z2 (by rw [h])
        refine ⟨v, ?_, fun h => i2 ((List.mem_cons.mp h).resolve_left xy), fun h => i3 (fun k => h (List.mem_cons_of_mem _ k))⟩
        rw [Model_pairAt_c3, if_pos c1, if_pos c2, if_pos d1, if_pos c2, if_neg d2]
        exact i1
    · have d1 : ¬ jw (σ 39 i) = jw (y.1 : Int) := by rw [w1, jw_id (by omega) (by omega), jw_id (by omega) (by omega)]; omega
      have xy : ¬ y = x := fun h => z1 (by rw [h])
      refine ⟨v, ?_, fun h => i2 ((List.mem_cons.mp h).resolve_left xy), fun h => i3 (fun k => h (List.mem_cons_of_mem _ k))⟩
      rw [Model_pairAt_c3, if_pos c1, if_pos c2, if_neg d1]
      exact i1
theorem PL_app {σ : jxS} {l : List prT} {y : prT} (h : PL σ l) (hl : l.length < 2000) : PL (jup (jup σ 39 l.length y.1) 40 l.length y.2) (l ++ [y]) := by
  refine ⟨by rw [List.length_append, List.length_singleton]; omega, fun i x hx => ?_⟩
  by_cases z : i < l.length
  · rw [List.getElem?_append_left z] at hx
    obtain ⟨a, b⟩ := h.2 i x hx
    rw [jup_o (by omega), jup_k (by omega), jup_k (by omega), jup_o (by omega)]
    exact ⟨a, b⟩
  · have il := (List.getElem?_eq_some_iff.mp hx).1
    rw [List.length_append, List.length_singleton] at il
    have e : i = l.length := by omega
    subst e
    rw [List.getElem?_append_right (Nat.le_refl _), Nat.sub_self] at hx
    injection hx with hx
    subst hx
    rw [jup_o (by omega), jup_s, jup_s]
    exact ⟨rfl, rfl⟩
section RPS
variable {F n : Nat} {σ0 : jxS} {M : Nat → List Nat} {s : qsT}
theorem rps_in (n1 : 1 ≤ n) (n6 : n ≤ 6) (hM : MOK M) (hV : MvM σ0 M) (hQ : RQ σ0 n s) (hF : 5000 ≤ F) {k18 : Int → Int → Int → jxS → Option jxR} {i : Nat} {p : prT} (hi2 : i < 2000) : ∀ (m fu h : Nat) (l : List prT) (σ : jxS), m + h = n + 1 → 1 ≤ h → m < fu → l[i]? = some p → okP s.1.length l → jfr PLP σ0 σ → PL σ l → match pin s M l p m h with
    | none => ∃ σ', Model_findsPairs_c26 F k18 fu n l.length i h σ = some (-2, σ') ∧ jfr PLP σ0 σ'
    | some l' => ∃ σ', Model_findsPairs_c26 F k18 fu n l.length i h σ = k18 n l'.length ((i : Int) + 1) σ' ∧ jfr PLP σ0 σ' ∧ PL σ' l' ∧ okP s.1.length l' := by
  have c3 : 0 ≤ (i : Int) ∧ (i : Int) < 2000 := by omega
  intro m
  induction m with
  | zero =>
    intro fu h l σ e1 e2 e3 hi hl f hS
    obtain ⟨fu, rfl⟩ : ∃ k, fu = k + 1 := ⟨fu - 1, by omega⟩
    refine ⟨σ, ?_, f, hS, hl⟩
    rw [Model_findsPairs_c26, if_pos (show jw (n : Int) < jw (h : Int) by unfold jw; omega)]
  | succ m ih =>
    intro fu h l σ e1 e2 e3 hi hl f hS
    obtain ⟨fu, rfl⟩ : ∃ k, fu = k + 1 := ⟨fu - 1, by omega⟩
    have hQ' := RQ_fr hQ f (fun j => by simp [PLP]) (fun j => by simp [PLP]) (fun j => by simp [PLP])
    have hV' := MvM_fr hV f (fun j => by simp [PLP]) (fun j => by simp [PLP])
    have po := hl p (List.mem_of_getElem? hi)
    have p2 : p.2 < 2 ^ 16 := Nat.lt_of_lt_of_le po.2 (Nat.pow_le_pow_right (by decide) hQ.2.1.1.2)
    obtain ⟨w1, w2⟩ := hS.2 i p hi
    have h2 : h ≤ n := by omega
    have nx := rq_next (F := F) n6 hQ' po.1 e2 h2
    have sb := rf_setBy (F := F) n1 n6 hM hV' hQ' po.1 p2 e2 h2 (by omega)
    have no := pnx_ok hM hQ.2.1 (show n ≤ 12 by omega) po.1 e2 h2
    have hh : ((h + 1 : Nat) : Int) = (h : Int) + 1 := by omega
    have l2 := hS.1
    obtain ⟨v, v1, v2, v3⟩ := rpa_loop (F := F) (y := pnx s M p h) hQ.2.1.1.2 hl hS rfl no l F 0 rfl (Nat.add_zero _) (by omega)
    have v1' : Model_pairAt F σ l.length (s.2 p.1 h) (folS s M p.1 p.2 h) = some (v, σ) := v1
    rw [Model_findsPairs_c26, if_neg (show ¬ jw (n : Int) < jw (h : Int) by unfold jw; omega), if_pos c3, w1, nx, jbs]
    dsimp only
    rw [if_pos c3, if_pos c3, w1, w2, sb, jbs]
    dsimp only
    rw [v1', jbs]
    dsimp only
    rw [← hh, pin, pst]
    by_cases a : pnx s M p h ∈ l
    · have vv := v2 a
      rw [if_pos (pmb_iff.mpr a), if_neg (show ¬ jw v < 0 by unfold jw; omega)]
      exact ih fu (h + 1) l σ (by omega) (by omega) (by omega) hi hl f hS
    · have na : ¬ pmb l (pnx s M p h) = true := fun q => a (pmb_iff.mp q)
      rw [if_neg na, v3 a, if_pos (show jw (-1) < 0 by decide)]
      by_cases c : l.length = 2000
      · rw [if_pos c, if_pos (show jw (l.length : Int) = 2000 by rw [c]; rfl)]
        exact ⟨σ, rfl, f⟩
      · have cc : 0 ≤ (l.length : Int) ∧ (l.length : Int) < 2000 := by omega
        rw [if_neg c, if_neg (show ¬ jw (l.length : Int) = 2000 by rw [jw_id (by omega) (by omega)]; omega), if_pos cc, if_pos cc]
        have il := (List.getElem?_eq_some_iff.mp hi).1
        have i1 := ih fu (h + 1) (l ++ [pnx s M p h]) (jup (jup σ 39 l.length (s.2 p.1 h)) 40 l.length (folS s M p.1 p.2 h)) (by omega) (by omega) (by omega) (by rw [List.getElem?_append_left il]; exact hi) (okP_app hl no) (jfr_up (jfr_up f (Or.inl rfl)) (Or.inr rfl)) (PL_app (y := pnx s M p h) hS (by omega))
        rw [show ((l ++ [pnx s M p h]).length : Int) = (l.length : Int) + 1 by rw [List.length_append, List.length_singleton]; rfl] at i1
        exact i1
theorem rps_out (n1 : 1 ≤ n) (n6 : n ≤ 6) (hM : MOK M) (hV : MvM σ0 M) (hQ : RQ σ0 n s) (hF : 5000 ≤ F) : ∀ (m fu i : Nat) (l : List prT) (σ : jxS), m + i = 2001 → m + 1 < fu → okP s.1.length l → jfr PLP σ0 σ → PL σ l → match pout s M n l m i with
    | none => ∃ σ', Model_findsPairs_c18 F fu n l.length i σ = some (-2, σ') ∧ jfr PLP σ0 σ'
    | some l' => ∃ σ', Model_findsPairs_c18 F fu n l.length i σ = some ((l'.length : Int), σ') ∧ jfr PLP σ0 σ' ∧ PL σ' l' ∧ okP s.1.length l' := by
  intro m
  induction m with
  | zero =>
    intro fu i l σ e1 e2 hl f hS
    obtain ⟨fu, rfl⟩ : ∃ k, fu = k + 1 := ⟨fu - 1, by omega⟩
    have l2 := hS.1
    refine ⟨σ, ?_, f, hS, hl⟩
    rw [Model_findsPairs_c18, if_neg (show ¬ jw (i : Int) < jw (l.length : Int) by unfold jw; omega)]
  | succ m ih =>
    intro fu i l σ e1 e2 hl f hS
    obtain ⟨fu, rfl⟩ : ∃ k, fu = k + 1 := ⟨fu - 1, by omega⟩
    have l2 := hS.1
    rw [pout]
    by_cases z : i < l.length
    · simp only [if_pos z]
      have c1 : jw (i : Int) < jw (l.length : Int) := by unfold jw; omega
      have ii : ((i + 1 : Nat) : Int) = (i : Int) + 1 := by omega
      have k := rps_in (F := F) (k18 := Model_findsPairs_c18 F fu) (i := i) (p := l.getD i (0, 0)) n1 n6 hM hV hQ hF (by omega) n F 1 l σ (by omega) (by omega) (by omega) (getD_pr z) hl f hS
      have st : Model_findsPairs_c18 F (fu + 1) n l.length i σ = Model_findsPairs_c26 F (Model_findsPairs_c18 F fu) F n l.length i ((1 : Nat) : Int) σ := by
        rw [Model_findsPairs_c18, if_pos c1]; rfl
      rw [st]
      cases hp : pin s M l (l.getD i (0, 0)) n 1 with
      | none =>
        rw [hp] at k
        exact k
      | some l1 =>
        rw [hp] at k
        obtain ⟨σ1, a1, a2, a3, a4⟩ := k
        rw [a1, ← ii]
        exact ih fu (i + 1) l1 σ1 (by omega) (by omega) a4 a2 a3
    · simp only [if_neg z]
      refine ⟨σ, ?_, f, hS, hl⟩
      rw [Model_findsPairs_c18, if_neg (show ¬ jw (i : Int) < jw (l.length : Int) by unfold jw; omega)]
theorem rk_pairs {σ : jxS} (n1 : 1 ≤ n) (n6 : n ≤ 6) (hM : MOK M) (hV : MvM σ M) (hQ : RQ σ n s) (hF : 5000 ≤ F) : ∃ σ', Model_findsPairs F σ n = some (prsA s M n, σ') ∧ jfr PLP σ σ' ∧ ∀ l, prs s M n = some l → PL σ' l ∧ okP s.1.length l := by
  have l1 := hQ.2.1.1.1
  have y0 : (0 : Nat) < s.1.length ∧ (0 : Nat) < 2 ^ s.1.length := ⟨by omega, Nat.two_pow_pos _⟩
  have f0 : jfr PLP σ (jup (jup σ 39 0 0) 40 0 0) := jfr_up (jfr_up (jfr_refl _ _) (Or.inl rfl)) (Or.inr rfl)
  have hS0 : PL (jup (jup σ 39 0 0) 40 0 0) [(0, 0)] := PL_app (σ := σ) (l := []) (y := (0, 0)) ⟨by decide, fun i x hx => by simp at hx⟩ (by decide)
  have o := rps_out (F := F) (σ0 := σ) n1 n6 hM hV hQ hF 2001 F 0 [(0, 0)] _ (by omega) (by omega) (fun x hx => by rw [List.mem_singleton.mp hx]; exact y0) f0 hS0
  unfold prsA prs
  cases ho : pout s M n [(0, 0)] 2001 0 with
  | none =>
    rw [ho] at o
    obtain ⟨σ', a, b⟩ := o
    exact ⟨σ', a, b, fun l hl => by cases hl⟩
  | some l =>
    rw [ho] at o
    obtain ⟨σ', a, b, c, d⟩ := o
    exact ⟨σ', a, b, fun l' hl => by injection hl with hl; rw [← hl]; exact ⟨c, d⟩⟩
end RPS
