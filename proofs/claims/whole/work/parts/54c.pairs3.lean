/-! Pairs: the class's search, whole. -/
theorem HS_flag {σ : jxS} {l : List prT} {v : Int} (h : HS σ hvP l) : HS (jup σ 44 5 v) hvP l := by
  obtain ⟨g1, g2, g3, ⟨js, g4, g5⟩, g6⟩ := h
  refine ⟨by rw [jup_k (by omega)]; exact g1, g2, fun i x hx => by rw [jup_o (by omega)]; exact g3 i x hx, ⟨js, g4, fun j hj => by rw [jup_o (by omega)]; exact g5 j hj⟩, fun x hx => ?_⟩
  obtain ⟨k, k1, k2, k3⟩ := g6 x hx
  exact ⟨k, k1, by rw [jup_o (by omega)]; exact k2, fun i hi => by rw [jup_o (by omega)]; exact k3 i hi⟩
section CP3
variable {F q n : Nat} {σ0 : jxS} {M : Nat → List Nat} {s : qsT}
theorem cps_in (hq : isQ q) (n6 : n ≤ 6) (hM : MOK M) (hQ : QK σ0 M q n s) (hT : MvT σ0 M s n) (hF : 5000 ≤ F) {k30 : Int → jxS → Option jxR} {i : Nat} {p : prT} (hi2 : i < 2000) : ∀ (m fu h : Nat) (l : List prT) (σ : jxS), m + h = n + 1 → 1 ≤ h → m < fu → l[i]? = some p → okP s.1.length l → jfr HSP σ0 σ → HS σ hvP l → σ 44 5 = 0 → match pin s M l p m h with
    | none => ∃ σ' l', Pairs_search_c54 F q k30 fu i h σ = k30 ((i : Int) + 1) σ' ∧ jfr HSP σ0 σ' ∧ HS σ' hvP l' ∧ σ' 44 5 = 1
    | some l' => ∃ σ', Pairs_search_c54 F q k30 fu i h σ = k30 ((i : Int) + 1) σ' ∧ jfr HSP σ0 σ' ∧ HS σ' hvP l' ∧ okP s.1.length l' ∧ σ' 44 5 = 0 := by
  have q48 : 48 ≤ q := by rcases hq with h | h | h | h | h | h <;> omega
  intro m
  induction m with
  | zero =>
    intro fu h l σ e1 e2 e3 hi hl f hS w5
    obtain ⟨fu, rfl⟩ : ∃ k, fu = k + 1 := ⟨fu - 1, by omega⟩
    have w0 : σ q 0 = (n : Int) := by rw [f q 0 (by simp only [HSP]; omega)]; exact hQ.1.1
    refine ⟨σ, ?_, f, hS, hl, w5⟩
    rw [Pairs_search_c54, Quotient_heaps, jbs]
    dsimp only
    rw [if_pos (show jw (σ q 0) < jw (h : Int) by rw [w0]; unfold jw; omega)]
  | succ m ih =>
    intro fu h l σ e1 e2 e3 hi hl f hS w5
    obtain ⟨fu, rfl⟩ : ∃ k, fu = k + 1 := ⟨fu - 1, by omega⟩
    have w0 : σ q 0 = (n : Int) := by rw [f q 0 (by simp only [HSP]; omega)]; exact hQ.1.1
    have hQ' := QK_fr hQ f (by simp only [HSP]; omega) (by simp only [HSP]; omega) (fun j => by simp only [HSP]; omega) (fun j => by simp only [HSP]; omega) (fun j => by simp only [HSP]; omega)
    have hT' : MvT σ M s n := fun e h a b c => by rw [f 47 _ (by simp [HSP])]; exact hT e h a b c
    have po := hl p (List.mem_of_getElem? hi)
    have wi := hS.2.2.1 i p hi
    have fo := ca_follow (F := F) n6 hM hQ' hT' po e2 (show h ≤ n by omega) (by omega)
    have no := pnx_ok hM hQ.2.1 (show n ≤ 12 by omega) po.1 e2 (show h ≤ n by omega)
    have hh : ((h + 1 : Nat) : Int) = (h : Int) + 1 := by omega
    have st : Pairs_search_c54 F q k30 (fu + 1) i h σ = (Pairs_insert F σ (pkP (pnx s M p h))).bind fun r75 => (Pairs_search_c54 F q k30 fu) i ((h : Int) + 1) r75.2 := by
      rw [Pairs_search_c54, Quotient_heaps, jbs]
      dsimp only
      rw [if_neg (show ¬ jw (σ q 0) < jw (h : Int) by rw [w0]; unfold jw; omega), if_pos (by omega), wi, fo, jbs]
    rw [st, ← hh, pin, pst]
    rcases ca_insert (F := F) hQ.2.1.1.2 hl no hS hF with ⟨a, b⟩ | ⟨a, c, b⟩ | ⟨a, c, σ', b, b2, b3⟩
    · rw [if_pos (pmb_iff.mpr a), b, jbs]
      exact ih fu (h + 1) l σ (by omega) (by omega) (by omega) hi hl f hS w5
    · have na : ¬ pmb l (pnx s M p h) = true := fun q => a (pmb_iff.mp q)
      rw [if_neg na, if_pos c, b, jbs]
      have f2 : jfr (fun a j => a = 44 ∧ j = 5) σ (jup σ 44 5 1) := jfr_up (jfr_refl _ _) ⟨rfl, rfl⟩
      obtain ⟨σ2, d1, d2, d3, d4⟩ := cps_over (F := F) (k30 := k30) hq n6 hM hQ hT hF hi hl c m fu (h + 1) (jup σ 44 5 1) (by omega) (by omega) (by omega) (jfr_trans f (jfr_mono f2 (fun a j h => Or.inr (Or.inr ⟨h.1, Or.inr h.2⟩)))) (HS_flag hS) (jup_s _ _ _ _)
      exact ⟨σ2, l, d1, d2, d3, d4⟩
    · have na : ¬ pmb l (pnx s M p h) = true := fun q => a (pmb_iff.mp q)
      rw [if_neg na, if_neg (by omega), b, jbs]
      have il := (List.getElem?_eq_some_iff.mp hi).1
      exact ih fu (h + 1) (l ++ [pnx s M p h]) σ' (by omega) (by omega) (by omega) (by rw [List.getElem?_append_left il]; exact hi) (okP_app hl no) (jfr_trans f (jfr_mono b2 (fun a j h => by rcases h with w | w | w; exact Or.inl w; exact Or.inr (Or.inl w); exact Or.inr (Or.inr ⟨w.1, Or.inl w.2⟩)))) b3 (by rw [b2 44 5 (by omega)]; exact w5)
theorem getD_pr {l : List prT} {i : Nat} (hi : i < l.length) : l[i]? = some (l.getD i (0, 0)) := by
  rw [List.getElem?_eq_getElem hi, List.getD_eq_getElem?_getD, List.getElem?_eq_getElem hi]
  rfl
theorem cps_out (hq : isQ q) (n6 : n ≤ 6) (n1 : 1 ≤ n) (hM : MOK M) (hQ : QK σ0 M q n s) (hT : MvT σ0 M s n) (hF : 5000 ≤ F) : ∀ (m fu i : Nat) (l : List prT) (σ : jxS), m + i = 2001 → m + 1 < fu → okP s.1.length l → jfr HSP σ0 σ → HS σ hvP l → σ 44 5 = 0 → match pout s M n l m i with
    | none => ∃ σ' l', Pairs_search_c30 F q fu i σ = Pairs_search_c90 F q σ' ∧ jfr HSP σ0 σ' ∧ HS σ' hvP l' ∧ σ' 44 5 = 1
    | some l' => ∃ σ', Pairs_search_c30 F q fu i σ = Pairs_search_c90 F q σ' ∧ jfr HSP σ0 σ' ∧ HS σ' hvP l' ∧ okP s.1.length l' ∧ σ' 44 5 = 0 := by
  intro m
  induction m with
  | zero =>
    intro fu i l σ e1 e2 hl f hS w5
    obtain ⟨fu, rfl⟩ : ∃ k, fu = k + 1 := ⟨fu - 1, by omega⟩
    have w4 := hS.1
    have l2 := hS.2.1
    refine ⟨σ, ?_, f, hS, hl, w5⟩
    rw [Pairs_search_c30, if_neg (show ¬ jw (i : Int) < jw (σ 44 4) by rw [w4]; unfold jw; omega)]
  | succ m ih =>
    intro fu i l σ e1 e2 hl f hS w5
    obtain ⟨fu, rfl⟩ : ∃ k, fu = k + 1 := ⟨fu - 1, by omega⟩
    have w4 := hS.1
    have l2 := hS.2.1
    rw [pout]
    by_cases z : i < l.length
    · simp only [if_pos z]
      have c1 : jw (i : Int) < jw (σ 44 4) := by rw [w4]; unfold jw; omega
      have c2 : jw (i : Int) < 2000 := by unfold jw; omega
      have c3 : jw (σ 44 5) = 0 := by rw [w5]; rfl
      have st : Pairs_search_c30 F q (fu + 1) i σ = Pairs_search_c54 F q (Pairs_search_c30 F q fu) F i 1 σ := by
        rw [Pairs_search_c30, if_pos c1, if_pos c2, if_pos c3]
      have ii : ((i + 1 : Nat) : Int) = (i : Int) + 1 := by omega
      have k := cps_in (F := F) (k30 := Pairs_search_c30 F q fu) (i := i) (p := l.getD i (0, 0)) hq n6 hM hQ hT hF (by omega) n F 1 l σ (by omega) (by omega) (by omega) (getD_pr z) hl f hS w5
      rw [st]
      cases hp : pin s M l (l.getD i (0, 0)) n 1 with
      | none =>
        rw [hp] at k
        obtain ⟨σ1, l1, a1, a2, a3, a4⟩ := k
        have a1' : Pairs_search_c54 F q (Pairs_search_c30 F q fu) F i 1 σ = _ := a1
        refine ⟨σ1, l1, ?_, a2, a3, a4⟩
        rw [a1']
        obtain ⟨g, rfl⟩ : ∃ k, fu = k + 1 := ⟨fu - 1, by omega⟩
        have c5 : ¬ jw (σ1 44 5) = 0 := by rw [a4]; decide
        rw [Pairs_search_c30]
        by_cases y1 : jw ((i : Int) + 1) < jw (σ1 44 4)
        · rw [if_pos y1]
          by_cases y2 : jw ((i : Int) + 1) < 2000
          · rw [if_pos y2, if_neg c5]
          · rw [if_neg y2]
        · rw [if_neg y1]
      | some l1 =>
        rw [hp] at k
        obtain ⟨σ1, a1, a2, a3, a4, a5⟩ := k
        have a1' : Pairs_search_c54 F q (Pairs_search_c30 F q fu) F i 1 σ = _ := a1
        rw [a1', ← ii]
        exact ih fu (i + 1) l1 σ1 (by omega) (by omega) a4 a2 a3 a5
    · simp only [if_neg z]
      refine ⟨σ, ?_, f, hS, hl, w5⟩
      rw [Pairs_search_c30, if_neg (show ¬ jw (i : Int) < jw (σ 44 4) by rw [w4]; unfold jw; omega)]
/-- the moves of heaps beside each element -/
theorem clm_in (n6 : n ≤ 6) (hM : MOK M) (hR : RulC σ0 M) (hq : isQ q) (hQ : QK σ0 M q n s) (hF : 100 ≤ F) {k2 : Int → jxS → Option jxR} {e : Nat} (he : e < s.1.length) : ∀ (m fu h : Nat) (σ : jxS), m + h = n + 1 → 1 ≤ h → m < fu → jfr (fun a _ => a = 47) σ0 σ → (∀ a b : Nat, (a < e ∨ (a = e ∧ b < h)) → 1 ≤ b → b ≤ n → σ 47 (6 * (a : Int) + b - 1) = (mvf s a (M b) 0 : Int)) → ∃ σ', Pairs_listMoves_c18 F q k2 fu e h σ = k2 ((e : Int) + 1) σ' ∧ jfr (fun a _ => a = 47) σ0 σ' ∧ ∀ a b : Nat, a < e + 1 → 1 ≤ b → b ≤ n → σ' 47 (6 * (a : Int) + b - 1) = (mvf s a (M b) 0 : Int) := by
  have q48 : 48 ≤ q := by rcases hq with h | h | h | h | h | h <;> omega
  have l16 := hQ.2.1.1.2
  intro m
  induction m with
  | zero =>
    intro fu h σ e1 e2 e3 f hX
    obtain ⟨fu, rfl⟩ : ∃ k, fu = k + 1 := ⟨fu - 1, by omega⟩
    have w0 : σ q 0 = (n : Int) := by rw [f q 0 (by omega)]; exact hQ.1.1
    refine ⟨σ, ?_, f, fun a b ha b1 b2 => hX a b (by omega) b1 b2⟩
    rw [Pairs_listMoves_c18, Quotient_heaps, jbs]
    dsimp only
    rw [if_pos (show jw (σ q 0) < jw (h : Int) by rw [w0]; unfold jw; omega)]
  | succ m ih =>
    intro fu h σ e1 e2 e3 f hX
    obtain ⟨fu, rfl⟩ : ∃ k, fu = k + 1 := ⟨fu - 1, by omega⟩
    have w0 : σ q 0 = (n : Int) := by rw [f q 0 (by omega)]; exact hQ.1.1
    have hn : h ≤ n := by omega
    have ml := MOK_len hM e2 (show h ≤ 12 by omega)
    have c3 : 0 ≤ (e : Int) * 6 + h - 1 ∧ (e : Int) * 6 + h - 1 < 96 := by omega
    have c4 : (e : Int) * 6 + h - 1 = 6 * (e : Int) + h - 1 := by omega
    have hQ' := QK_fr hQ f (by omega) (by omega) (fun j => by omega) (fun j => by omega) (fun j => by omega)
    have mv := (cf_moves (F := F) n6 hM (RulC_fr hR f (fun j => by omega) (fun j => by omega)) hQ' he e2 hn (M h) F 0 0 rfl rfl (by omega) (by decide)).1
    have mv' : Pairs_movesOf F q σ e h = some ((mvf s e (M h) 0 : Int), σ) := mv
    obtain ⟨σ', i1, i2, i3⟩ := ih fu (h + 1) (jup σ 47 (6 * (e : Int) + h - 1) (mvf s e (M h) 0)) (by omega) (by omega) (by omega) (jfr_up f rfl) (fun a b hab b1 b2 => by
      by_cases y : a = e ∧ b = h
      · obtain ⟨y1, y2⟩ := y
        subst y1 y2
        exact jup_s _ _ _ _
      · rw [jup_k (by omega)]
        exact hX a b (by omega) b1 b2)
    rw [Int.natCast_add, Int.natCast_one] at i1
    refine ⟨σ', ?_, i2, i3⟩
    rw [Pairs_listMoves_c18, Quotient_heaps, jbs]
    dsimp only
    rw [if_neg (show ¬ jw (σ q 0) < jw (h : Int) by rw [w0]; unfold jw; omega), if_neg (show ¬ 6 < jw (h : Int) by unfold jw; omega), mv', jbs]
    dsimp only
    rw [if_pos c3, c4]
    exact i1
theorem clm_out (n6 : n ≤ 6) (hM : MOK M) (hR : RulC σ0 M) (hq : isQ q) (hQ : QK σ0 M q n s) (hF : 100 ≤ F) {L : Nat} (hL : s.1.length = L) : ∀ (m fu e : Nat) (σ : jxS), m + e = L → m < fu → jfr (fun a _ => a = 47) σ0 σ → (∀ a b : Nat, a < e → 1 ≤ b → b ≤ n → σ 47 (6 * (a : Int) + b - 1) = (mvf s a (M b) 0 : Int)) → ∃ σ', Pairs_listMoves_c2 F q fu e σ = some (0, σ') ∧ jfr (fun a _ => a = 47) σ0 σ' ∧ MvT σ' M s n := by
  have q48 : 48 ≤ q := by rcases hq with h | h | h | h | h | h <;> omega
  have l16 : L ≤ 16 := by rw [← hL]; exact hQ.2.1.1.2
  intro m
  induction m with
  | zero =>
    intro fu e σ e1 e2 f hX
    obtain ⟨fu, rfl⟩ : ∃ k, fu = k + 1 := ⟨fu - 1, by omega⟩
    have w7 : σ q 7 = (L : Int) := by rw [f q 7 (by omega), ← hL]; exact hQ.1.2.2.2.2.1
    refine ⟨σ, ?_, f, fun a b ha b1 b2 => hX a b (by omega) b1 b2⟩
    rw [Pairs_listMoves_c2, Quotient_size, jbs]
    dsimp only
    rw [if_neg (show ¬ jw (e : Int) < jw (σ q 7) by rw [w7]; unfold jw; omega)]
  | succ m ih =>
    intro fu e σ e1 e2 f hX
    obtain ⟨fu, rfl⟩ : ∃ k, fu = k + 1 := ⟨fu - 1, by omega⟩
    have w7 : σ q 7 = (L : Int) := by rw [f q 7 (by omega), ← hL]; exact hQ.1.2.2.2.2.1
    have hQ' := QK_fr hQ f (by omega) (by omega) (fun j => by omega) (fun j => by omega) (fun j => by omega)
    obtain ⟨σ1, a1, a2, a3⟩ := clm_in (F := F) (k2 := Pairs_listMoves_c2 F q fu) n6 hM hR hq hQ hF (e := e) (by omega) n F 1 σ (by omega) (by omega) (by omega) f (fun a b hab b1 b2 => hX a b (by omega) b1 b2)
    obtain ⟨σ2, b1, b2, b3⟩ := ih fu (e + 1) σ1 (by omega) (by omega) a2 a3
    rw [Int.natCast_add, Int.natCast_one] at b1
    have a1' : Pairs_listMoves_c18 F q (Pairs_listMoves_c2 F q fu) F e 1 σ = _ := a1
    refine ⟨σ2, ?_, b2, b3⟩
    rw [Pairs_listMoves_c2, Quotient_size, jbs]
    dsimp only
    rw [if_pos (show jw (e : Int) < jw (σ q 7) by rw [w7]; unfold jw; omega), if_pos (show jw (e : Int) < 16 by unfold jw; omega), a1', b1]
end CP3
