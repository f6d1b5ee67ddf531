/-! Pairs: whether all fit; the class's answer. -/
def fitP (lost : Nat) (x : prT) : Bool := lost.testBit x.1 == (decide (x.2 ≠ 0) && decide (x.2 &&& lost = 0))
theorem lsN_lt {M : Nat → List Nat} {s : qsT} : ∀ (m e acc : Nat), m + e ≤ 16 → acc < 2 ^ 16 → lsN M s m e acc < 2 ^ 16 := by
  intro m
  induction m with
  | zero => intro e acc _ h; exact h
  | succ m ih =>
    intro e acc he ha
    simp only [lsN]
    refine ih (e + 1) _ (by omega) ?_
    split
    · exact (orN ha (show e < 16 by omega)).2
    · exact ha
theorem lsF_lt {M : Nat → List Nat} {s : qsT} {n : Nat} (hs : qOK s n) : lsF M s < 2 ^ 16 := lsN_lt _ _ _ (by have := hs.1.2; omega) (by decide)
theorem caf_49 {F lost S : Nat} {σ : jxS} {k2 : Int → Int → jxS → Option jxR} {i : Int} {b : Bool} (hS : S < 2 ^ 16) : Pairs_allFit_c49 F k2 lost i S (if b then 1 else 0) σ = if b = (decide (S ≠ 0) && decide (S &&& lost = 0)) then k2 lost (i + 1) σ else some (0, σ) := by
  obtain ⟨a1, a2⟩ := adN (b := lost) hS
  have S2 : S < 65536 := hS
  have A2 : S &&& lost < 65536 := a2
  by_cases z : S = 0
  · subst z
    rw [Pairs_allFit_c49, if_pos (show jw ((0 : Nat) : Int) = 0 from rfl), Pairs_allFit_c65, Pairs_allFit_c66]
    cases b
    · rw [if_pos (show jw (if false = true then 1 else 0) = jw 0 from rfl)]; simp
    · rw [if_neg (by decide)]; simp
  · have c1 : ¬ jw (S : Int) = 0 := by rw [jw_id (by omega) (by omega)]; omega
    rw [Pairs_allFit_c49, if_neg c1, a1]
    generalize S &&& lost = A at A2
    by_cases y : A = 0
    · subst y
      rw [if_pos (show jw ((0 : Nat) : Int) = 0 from rfl), Pairs_allFit_c66]
      cases b
      · rw [if_neg (by decide)]; simp [z]
      · rw [if_pos (by decide)]; simp [z]
    · have c2 : ¬ jw (A : Int) = 0 := by rw [jw_id (by omega) (by omega)]; omega
      rw [if_neg c2, Pairs_allFit_c65, Pairs_allFit_c66]
      cases b
      · rw [if_pos (show jw (if false = true then 1 else 0) = jw 0 from rfl)]; simp [y]
      · rw [if_neg (by decide)]; simp [y]
theorem caf_loop {F L lost N : Nat} {σ : jxS} {l : List prT} (L16 : L ≤ 16) (hl : okP L l) (hS : HS σ hvP l) (hN : l.length = N) (hlo : lost < 2 ^ 16) : ∀ (r : List prT) (fu i : Nat), l.drop i = r → r.length + i = N → r.length < fu → Pairs_allFit_c2 F fu lost i σ = some (if r.all (fitP lost) then 1 else 0, σ) := by
  have w4 : σ 44 4 = (N : Int) := by rw [← hN]; exact hS.1
  have N2 : N ≤ 2000 := by rw [← hN]; exact hS.2.1
  intro r
  induction r with
  | nil =>
    intro fu i e1 e2 e3
    obtain ⟨fu, rfl⟩ : ∃ k, fu = k + 1 := ⟨fu - 1, by omega⟩
    simp only [List.length_nil] at e2
    rw [Pairs_allFit_c2, if_neg (show ¬ jw (i : Int) < jw (σ 44 4) by rw [w4]; unfold jw; omega)]
    rfl
  | cons x r ih =>
    intro fu i e1 e2 e3
    obtain ⟨fu, rfl⟩ : ∃ k, fu = k + 1 := ⟨fu - 1, by omega⟩
    simp only [List.length_cons] at e2 e3
    obtain ⟨hm, hr⟩ := drop_o e1
    have hx := hl x (List.mem_of_getElem? hm)
    have x2 : x.2 < 2 ^ 16 := Nat.lt_of_lt_of_le hx.2 (Nat.pow_le_pow_right (by decide) L16)
    have x1 : x.1 < 16 := by omega
    have wi := hS.2.2.1 i x hm
    obtain ⟨a1, a2⟩ := jshr16 x1 x2
    have a1' : jshr (pkP x : Int) 16 = (x.1 : Int) := a1
    have a2' : jand (pkP x : Int) 65535 = (x.2 : Int) := a2
    have bt := bq_bit (a := lost) (k := x.1) (by omega) (Nat.lt_of_lt_of_le hlo (by decide))
    have c1 : jw (i : Int) < jw (σ 44 4) := by rw [w4]; unfold jw; omega
    have c2 : jw (i : Int) < 2000 := by unfold jw; omega
    have c3 : 0 ≤ (i : Int) ∧ (i : Int) < 2000 := by omega
    have e2' : r.length + (i + 1) = N := by omega
    have e3' : r.length < fu := by omega
    have i1 := ih fu (i + 1) hr e2' e3'
    rw [Int.natCast_add, Int.natCast_one] at i1
    have st : Pairs_allFit_c2 F (fu + 1) lost i σ = Pairs_allFit_c49 F (Pairs_allFit_c2 F fu) lost i x.2 (if lost.testBit x.1 then 1 else 0) σ := by
      rw [Pairs_allFit_c2, if_pos c1, if_pos c2, if_pos c3, if_pos c3, wi, a1', a2']
      cases hb : lost.testBit x.1
      · rw [hb] at bt
        simp only [Bool.false_eq_true, if_false] at bt ⊢
        rw [if_neg (show ¬ jw (jand (jshr (lost : Int) (x.1 : Int)) 1) = 1 by rw [bt]; decide)]
      · rw [hb] at bt
        simp only [if_true] at bt ⊢
        rw [if_pos (show jw (jand (jshr (lost : Int) (x.1 : Int)) 1) = 1 by rw [bt]; decide)]
    rw [st, caf_49 x2, List.all_cons]
    by_cases z : lost.testBit x.1 = (decide (x.2 ≠ 0) && decide (x.2 &&& lost = 0))
    · have fz : fitP lost x = true := by unfold fitP; rw [z]; simp
      rw [if_pos z, fz, Bool.true_and]
      exact i1
    · have fz : fitP lost x = false := by
        unfold fitP
        cases h : (lost.testBit x.1 == (decide (x.2 ≠ 0) && decide (x.2 &&& lost = 0)))
        · rfl
        · exact absurd (beq_iff_eq.mp h) z
      rw [if_neg z, fz, Bool.false_and]
      rfl
/-- the answers of pairs and proved -/
noncomputable def prsA (s : qsT) (M : Nat → List Nat) (n : Nat) : Int := match prs s M n with
  | none => -2
  | some l => (l.length : Int)
noncomputable def prsB (s : qsT) (M : Nat → List Nat) (n : Nat) : Bool := match prs s M n with
  | none => false
  | some l => l.all (fitP (lsF M s))
def PQP (q a : Nat) (j : Int) : Prop := PSP a j ∨ (a = q ∧ (j = 8 ∨ j = 9))
theorem HS_fr {σ σ' : jxS} {l : List prT} {P : Nat → Int → Prop} (h : HS σ hvP l) (f : jfr P σ σ') (h1 : ¬ P 44 4) (h2 : ∀ j, ¬ P 45 j) (h3 : ∀ j, ¬ P 46 j) : HS σ' hvP l := by
  obtain ⟨g1, g2, g3, ⟨js, g4, g5⟩, g6⟩ := h
  refine ⟨by rw [f 44 4 h1]; exact g1, g2, fun i x hx => by rw [f 45 _ (h2 _)]; exact g3 i x hx, ⟨js, g4, fun j hj => by rw [f 46 _ (h3 _)]; exact g5 j hj⟩, fun x hx => ?_⟩
  obtain ⟨k, k1, k2, k3⟩ := g6 x hx
  exact ⟨k, k1, by rw [f 46 _ (h3 _)]; exact k2, fun i hi => by rw [f 46 _ (h3 _)]; exact k3 i hi⟩
theorem ca_search {F q n : Nat} {σ : jxS} {M : Nat → List Nat} {s : qsT} (hq : isQ q) (n1 : 1 ≤ n) (n6 : n ≤ 6) (hM : MOK M) (hR : RulC σ M) (hQ : QK σ M q n s) (hF : 6000 ≤ F) : ∃ σ', Pairs_search F q σ = some (0, σ') ∧ jfr (PQP q) σ σ' ∧ σ' q 8 = prsA s M n ∧ σ' q 9 = (if prsB s M n then 1 else 0) := by
  have q48 : 48 ≤ q := by rcases hq with h | h | h | h | h | h <;> omega
  have l16 := hQ.2.1.1.2
  have l1 := hQ.2.1.1.1
  obtain ⟨σ1, a1, a2, a3⟩ := ca_fill (F := F) (a := 46) (v := 0) (N := 4096) σ (by decide) (by omega) (by omega)
  have f1 : jfr PSP σ (jup (jup σ1 44 4 0) 44 5 0) := jfr_up (jfr_up (jfr_ag a2 (fun a j h => Or.inr (Or.inl (List.mem_singleton.mp h)))) (Or.inr (Or.inr (Or.inr ⟨rfl, Or.inl rfl⟩)))) (Or.inr (Or.inr (Or.inr ⟨rfl, Or.inr rfl⟩)))
  have pq : ∀ j, ¬ PSP q j := fun j => by simp only [PSP]; omega
  have pq' : ∀ k j, q ≤ k → ¬ PSP k j := fun k j hk => by simp only [PSP]; omega
  have hQ1 := QK_fr hQ f1 (pq _) (pq _) (fun j => pq' _ _ (by omega)) (fun j => pq' _ _ (by omega)) (fun j => pq' _ _ (by omega))
  have hR1 := RulC_fr hR f1 (fun j => by simp [PSP]) (fun j => by simp [PSP])
  obtain ⟨σ2, b1, b2, b3⟩ := clm_out (F := F) n6 hM hR1 hq hQ1 (by omega) rfl s.1.length F 0 (jup (jup σ1 44 4 0) 44 5 0) (Nat.add_zero _) (by omega) (jfr_refl _ _) (fun a b ha => by omega)
  have f2 : jfr PSP σ σ2 := jfr_trans f1 (jfr_mono b2 (fun a j h => Or.inr (Or.inr (Or.inl h))))
  have hS0 : HS σ2 hvP [] := ⟨by rw [b2 44 4 (by omega), jup_k (by omega), jup_s]; rfl, by decide, fun i x hx => by simp at hx, ⟨[], rfl, fun j hj => Or.inl (by rw [b2 46 _ (by omega), jup_o (by omega), jup_o (by omega)]; exact a3 j (by omega) (by omega))⟩, fun x hx => by simp at hx⟩
  have hQ2 := QK_fr hQ f2 (pq _) (pq _) (fun j => pq' _ _ (by omega)) (fun j => pq' _ _ (by omega)) (fun j => pq' _ _ (by omega))
  have y0 : (0 : Nat) < s.1.length ∧ (0 : Nat) < 2 ^ s.1.length := ⟨by omega, Nat.two_pow_pos _⟩
  rcases ca_insert (F := F) (L := s.1.length) (l := []) (y := (0, 0)) l16 (fun x hx => by simp at hx) y0 hS0 (by omega) with ⟨w, _⟩ | ⟨_, w, _⟩ | ⟨_, _, σ3, c1, c2, c3⟩
  · simp at w
  · simp at w
  · have f3h : jfr HSP σ2 σ3 := jfr_mono c2 (fun a j h => by rcases h with w | w | w; exact Or.inl w; exact Or.inr (Or.inl w); exact Or.inr (Or.inr ⟨w.1, Or.inl w.2⟩))
    have w5 : σ3 44 5 = 0 := by rw [c2 44 5 (by omega), b2 44 5 (by omega)]; exact jup_s _ _ _ _
    have o := cps_out (F := F) (σ0 := σ2) hq n6 n1 hM hQ2 b3 (by omega) 2001 F 0 [(0, 0)] σ3 (by omega) (by omega) (fun x hx => by rw [List.mem_singleton.mp hx]; exact y0) f3h c3 w5
    have c1' : Pairs_insert F σ2 0 = some (0, σ3) := c1
    have b1' : Pairs_listMoves F q (jup (jup σ1 44 4 0) 44 5 0) = some (0, σ2) := b1
    have st : Pairs_search F q σ = Pairs_search_c30 F q F ((0 : Nat) : Int) σ3 := by
      rw [Pairs_search, a1, jbs]
      dsimp only
      rw [b1', jbs]
      dsimp only
      rw [c1', jbs]
      rfl
    have hsp : ∀ {σ' : jxS}, jfr HSP σ2 σ' → jfr PSP σ σ' := fun h => jfr_trans f2 (jfr_mono h (fun a j w => by rcases w with w | w | w; exact Or.inl w; exact Or.inr (Or.inl w); exact Or.inr (Or.inr (Or.inr w))))
    rw [st]
    unfold prsA prsB prs
    cases ho : pout s M n [(0, 0)] 2001 0 with
    | none =>
      rw [ho] at o
      obtain ⟨σ4, l4, d1, d2, d3, d4⟩ := o
      have c5 : ¬ jw (σ4 44 5) = 0 := by rw [d4]; decide
      have c6 : ¬ jw ((jup σ4 q 8 (-2)) 44 5) = 0 := by rw [jup_o (by omega)]; exact c5
      refine ⟨jup (jup σ4 q 8 (-2)) q 9 0, ?_, jfr_up (jfr_up (jfr_mono (hsp d2) (fun a j h => Or.inl h)) (Or.inr ⟨rfl, Or.inl rfl⟩)) (Or.inr ⟨rfl, Or.inr rfl⟩), by rw [jup_k (by omega), jup_s], by rw [jup_s]; rfl⟩
      rw [d1, Pairs_search_c90, if_neg c5, Pairs_search_c107, if_neg c6]
    | some l =>
      rw [ho] at o
      obtain ⟨σ4, d1, d2, d3, d4, d5⟩ := o
      have c5 : jw (σ4 44 5) = 0 := by rw [d5]; rfl
      have w4 := d3.1
      have fq : jfr (fun a j => a = q ∧ j = 8) σ4 (jup σ4 q 8 (l.length : Int)) := jfr_up (jfr_refl _ _) ⟨rfl, rfl⟩
      have c6 : jw ((jup σ4 q 8 (l.length : Int)) 44 5) = 0 := by rw [jup_o (by omega)]; exact c5
      have hQ4 := QK_fr (QK_fr hQ (hsp d2) (pq _) (pq _) (fun j => pq' _ _ (by omega)) (fun j => pq' _ _ (by omega)) (fun j => pq' _ _ (by omega))) fq (by omega) (by omega) (fun j => by omega) (fun j => by omega) (fun j => by omega)
      have lo := cs_lostF (F := F) hQ4 (by omega)
      have hS4 := HS_fr d3 fq (by omega) (fun j => by omega) (fun j => by omega)
      have l2 := d3.2.1
      have af := caf_loop (F := F) (lost := lsF M s) l16 d4 hS4 rfl (lsF_lt (M := M) hQ.2.1) l F 0 rfl (Nat.add_zero _) (by omega)
      have af' : Pairs_allFit F (jup σ4 q 8 (l.length : Int)) (lsF M s) = some (if l.all (fitP (lsF M s)) then 1 else 0, jup σ4 q 8 (l.length : Int)) := af
      refine ⟨jup (jup σ4 q 8 (l.length : Int)) q 9 (if l.all (fitP (lsF M s)) then 1 else 0), ?_, jfr_up (jfr_up (jfr_mono (hsp d2) (fun a j h => Or.inl h)) (Or.inr ⟨rfl, Or.inl rfl⟩)) (Or.inr ⟨rfl, Or.inr rfl⟩), by rw [jup_k (by omega), jup_s], jup_s _ _ _ _⟩
      rw [d1, Pairs_search_c90, if_pos c5, w4, Pairs_search_c107, if_pos c6]
      dsimp only
      rw [lo, jbs]
      dsimp only
      rw [af', jbs]
      dsimp only
      cases l.all (fitP (lsF M s))
      · rfl
      · rfl
