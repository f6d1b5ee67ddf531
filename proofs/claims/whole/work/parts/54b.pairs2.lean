/-! Pairs: all of them, found by the class. -/
noncomputable def pnx (s : qsT) (M : Nat → List Nat) (p : prT) (h : Nat) : prT := (s.2 p.1 h, folS s M p.1 p.2 h)
noncomputable def pmb (l : List prT) (x : prT) : Bool := @decide (x ∈ l) (Classical.propDecidable _)
theorem pmb_iff {l : List prT} {x : prT} : pmb l x = true ↔ x ∈ l := @decide_eq_true_iff _ (Classical.propDecidable _)
noncomputable def pst (s : qsT) (M : Nat → List Nat) (l : List prT) (p : prT) (h : Nat) : Option (List prT) := if pmb l (pnx s M p h) then some l else if l.length = 2000 then none else some (l ++ [pnx s M p h])
noncomputable def pin (s : qsT) (M : Nat → List Nat) (l : List prT) (p : prT) (m h : Nat) : Option (List prT) := match m with
  | 0 => some l
  | m + 1 => match pst s M l p h with
    | none => none
    | some l' => pin s M l' p m (h + 1)
noncomputable def pout (s : qsT) (M : Nat → List Nat) (n : Nat) (l : List prT) (fu i : Nat) : Option (List prT) := match fu with
  | 0 => some l
  | fu + 1 => if i < l.length then (match pin s M l (l.getD i (0, 0)) n 1 with
    | none => none
    | some l' => pout s M n l' fu (i + 1)) else some l
noncomputable def prs (s : qsT) (M : Nat → List Nat) (n : Nat) : Option (List prT) := pout s M n [(0, 0)] 2001 0
def MvT (σ : jxS) (M : Nat → List Nat) (s : qsT) (n : Nat) : Prop := ∀ e h : Nat, e < s.1.length → 1 ≤ h → h ≤ n → σ 47 (6 * (e : Int) + h - 1) = (mvf s e (M h) 0 : Int)
theorem jshr16 {a b : Nat} (ha : a < 16) (hb : b < 65536) : jshr ((65536 * a + b : Nat) : Int) 16 = (a : Int) ∧ jand ((65536 * a + b : Nat) : Int) 65535 = (b : Int) := by
  have s := bq_shr (a := 65536 * a + b) (k := 16) (by omega) (by omega)
  have s' : jshr ((65536 * a + b : Nat) : Int) 16 = (((65536 * a + b) / 2 ^ 16 : Nat) : Int) := s
  refine ⟨?_, ?_⟩
  · rw [s']
    have : (65536 * a + b) / 2 ^ 16 = a := by omega
    rw [this]
  · rw [bq_and65535]
    omega
section CP
variable {F q n : Nat} {σ : jxS} {M : Nat → List Nat} {s : qsT}
theorem ca_follow (n6 : n ≤ 6) (hM : MOK M) (hQ : QK σ M q n s) (hT : MvT σ M s n) {p : prT} {h : Nat} (hp : p.1 < s.1.length ∧ p.2 < 2 ^ s.1.length) (h1 : 1 ≤ h) (h2 : h ≤ n) (hF : 100 ≤ F) : Pairs_follow F q σ (pkP p) h = some ((pkP (pnx s M p h) : Int), σ) := by
  have l16 := hQ.2.1.1.2
  have p2 : p.2 < 65536 := Nat.lt_of_lt_of_le hp.2 (Nat.le_trans (Nat.pow_le_pow_right (by decide) l16) (by decide))
  have p1 : p.1 < 16 := Nat.lt_of_lt_of_le hp.1 l16
  have c1 : ¬ jw ((p.1 : Int) * 6 + h - 1) < 0 := by rw [jw_id (by omega) (by omega)]; omega
  have c2 : jw ((p.1 : Int) * 6 + h - 1) < 96 := by rw [jw_id (by omega) (by omega)]; omega
  have c3 : 0 ≤ (p.1 : Int) * 6 + h - 1 ∧ (p.1 : Int) * 6 + h - 1 < 96 := by omega
  have c4 : (p.1 : Int) * 6 + h - 1 = 6 * (p.1 : Int) + h - 1 := by omega
  obtain ⟨a1, a2⟩ := jshr16 p1 p2
  have a1' : jshr (pkP p : Int) 16 = (p.1 : Int) := a1
  have a2' : jand (pkP p : Int) 65535 = (p.2 : Int) := a2
  have w := hT p.1 h hp.1 h1 h2
  have mv : mvf s p.1 (M h) 0 < 2 ^ s.1.length := mvf_lt (M := M) hQ.2.1 hp.1 _ _ (fun m hm => by have := (hM h h1 (by omega)).2 m hm; omega) (Nat.two_pow_pos _)
  have mv2 : mvf s p.1 (M h) 0 < 2 ^ 16 := Nat.lt_of_lt_of_le mv (Nat.pow_le_pow_right (by decide) l16)
  obtain ⟨f1, f2⟩ := cf_follow (F := F) n6 hQ hp.1 hp.2 h1 h2 16 F 0 (mvf s p.1 (M h) 0) (by omega) (by omega) mv2
  have eq : nsf s p.2 h 16 0 (mvf s p.1 (M h) 0) = folS s M p.1 p.2 h := by
    rw [nsf_acc]
    unfold folS
    obtain ⟨k, hk⟩ : ∃ k, 16 = s.1.length + k := ⟨16 - s.1.length, by omega⟩
    rw [hk, nsf_split, nsf_far _ _ _ k]
    intro g hg
    exact Nat.testBit_lt_two_pow (Nat.lt_of_lt_of_le hp.2 (Nat.pow_le_pow_right (by decide) (by omega)))
  rw [eq] at f1
  rw [Pairs_follow, a1', if_neg c1, if_pos c2, if_pos c3, a2', c4, w]
  exact f1
end CP
theorem pnx_ok {s : qsT} {n h : Nat} {M : Nat → List Nat} {p : prT} (hM : MOK M) (hs : qOK s n) (n6 : n ≤ 12) (hp : p.1 < s.1.length) (h1 : 1 ≤ h) (h2 : h ≤ n) : (pnx s M p h).1 < s.1.length ∧ (pnx s M p h).2 < 2 ^ s.1.length := ⟨hs.2.2 p.1 h hp h1 h2, folS_lt hM hs n6 hp h1 h2⟩
theorem okP_app {L : Nat} {l : List prT} {y : prT} (h : okP L l) (hy : y.1 < L ∧ y.2 < 2 ^ L) : okP L (l ++ [y]) := fun x hx => by
  rcases List.mem_append.mp hx with w | w
  · exact h x w
  · rw [List.mem_singleton.mp w]; exact hy
theorem QK_fr {σ σ' : jxS} {M : Nat → List Nat} {q n : Nat} {s : qsT} {P : Nat → Int → Prop} (h : QK σ M q n s) (f : jfr P σ σ') (h0 : ¬ P q 0) (h7 : ¬ P q 7) (h1 : ∀ j, ¬ P (q + 1) j) (h2 : ∀ j, ¬ P (q + 2) j) (h3 : ∀ j, ¬ P (q + 3) j) : QK σ' M q n s := by
  obtain ⟨⟨w0, w1, w2, w3, w4, w5⟩, w6, w7⟩ := h
  refine ⟨⟨by rw [f q 0 h0]; exact w0, w1, w2, w3, by rw [f q 7 h7]; exact w4, fun i w hw => ?_⟩, w6, fun a b ha b1 b2 => ?_⟩
  · rw [f (q + 1) _ (h1 _), f (q + 2) _ (h2 _)]; exact w5 i w hw
  · rw [f (q + 3) _ (h3 _)]; exact w7 a b ha b1 b2
def PSP (a : Nat) (j : Int) : Prop := a = 45 ∨ a = 46 ∨ a = 47 ∨ (a = 44 ∧ (j = 4 ∨ j = 5))
section CP2
variable {F q n : Nat} {σ0 : jxS} {M : Nat → List Nat} {s : qsT}
/-- one too many was found: what comes behind changes no more than the flag -/
theorem cps_over (hq : isQ q) (n6 : n ≤ 6) (hM : MOK M) (hQ : QK σ0 M q n s) (hT : MvT σ0 M s n) (hF : 5000 ≤ F) {k30 : Int → jxS → Option jxR} {i : Nat} {l : List prT} {p : prT} (hi : l[i]? = some p) (hl : okP s.1.length l) (hl2 : l.length = 2000) : ∀ (m fu h : Nat) (σ : jxS), m + h = n + 1 → 1 ≤ h → m < fu → jfr HSP σ0 σ → HS σ hvP l → σ 44 5 = 1 → ∃ σ', Pairs_search_c54 F q k30 fu i h σ = k30 ((i : Int) + 1) σ' ∧ jfr HSP σ0 σ' ∧ HS σ' hvP l ∧ σ' 44 5 = 1 := by
  have q48 : 48 ≤ q := by rcases hq with h | h | h | h | h | h <;> omega
  have il := (List.getElem?_eq_some_iff.mp hi).1
  intro m
  induction m with
  | zero =>
    intro fu h σ e1 e2 e3 f hS w5
    obtain ⟨fu, rfl⟩ : ∃ k, fu = k + 1 := ⟨fu - 1, by omega⟩
    have w0 : σ q 0 = (n : Int) := by rw [f q 0 (by simp only [HSP]; omega)]; exact hQ.1.1
    refine ⟨σ, ?_, f, hS, w5⟩
    rw [Pairs_search_c54, Quotient_heaps, jbs]
    dsimp only
    rw [if_pos (show jw (σ q 0) < jw (h : Int) by rw [w0]; unfold jw; omega)]
  | succ m ih =>
    intro fu h σ e1 e2 e3 f hS w5
    obtain ⟨fu, rfl⟩ : ∃ k, fu = k + 1 := ⟨fu - 1, by omega⟩
    have w0 : σ q 0 = (n : Int) := by rw [f q 0 (by simp only [HSP]; omega)]; exact hQ.1.1
    have hQ' := QK_fr hQ f (by simp only [HSP]; omega) (by simp only [HSP]; omega) (fun j => by simp only [HSP]; omega) (fun j => by simp only [HSP]; omega) (fun j => by simp only [HSP]; omega)
    have hT' : MvT σ M s n := fun e h a b c => by rw [f 47 _ (by simp [HSP])]; exact hT e h a b c
    have po := hl p (List.mem_of_getElem? hi)
    have wi := hS.2.2.1 i p hi
    have fo := ca_follow (F := F) n6 hM hQ' hT' po e2 (show h ≤ n by omega) (by omega)
    have no := pnx_ok hM hQ.2.1 (show n ≤ 12 by omega) po.1 e2 (show h ≤ n by omega)
    have hh : ((h + 1 : Nat) : Int) = (h : Int) + 1 := by omega
    have st : Pairs_search_c54 F q k30 (fu + 1) i h σ = (Pairs_insert F σ (pkP (pnx s M p h))).bind fun r75 => (Pairs_search_c54 F q k30 fu) i ((h : Int) + 1) r75.2 := by
      rw [Pairs_search_c54, Quotient_heaps, jbs]
      dsimp only
      rw [if_neg (show ¬ jw (σ q 0) < jw (h : Int) by rw [w0]; unfold jw; omega), if_pos (by omega), wi, fo, jbs]
    rw [st, ← hh]
    rcases ca_insert (F := F) hQ.2.1.1.2 hl no hS hF with ⟨_, b⟩ | ⟨_, _, b⟩ | ⟨_, b, _⟩
    · rw [b, jbs]
      exact ih fu (h + 1) σ (by omega) (by omega) (by omega) f hS w5
    · rw [b, jbs]
      have f2 : jfr (fun a j => a = 44 ∧ j = 5) σ (jup σ 44 5 1) := jfr_up (jfr_refl _ _) ⟨rfl, rfl⟩
      have hS2 : HS (jup σ 44 5 1) hvP l := by
        obtain ⟨g1, g2, g3, ⟨js, g4, g5⟩, g6⟩ := hS
        refine ⟨by rw [jup_k (by omega)]; exact g1, g2, fun i x hx => by rw [jup_o (by omega)]; exact g3 i x hx, ⟨js, g4, fun j hj => by rw [jup_o (by omega)]; exact g5 j hj⟩, fun x hx => ?_⟩
        obtain ⟨k, k1, k2, k3⟩ := g6 x hx
        exact ⟨k, k1, by rw [jup_o (by omega)]; exact k2, fun i hi => by rw [jup_o (by omega)]; exact k3 i hi⟩
      exact ih fu (h + 1) (jup σ 44 5 1) (by omega) (by omega) (by omega) (jfr_trans f (jfr_mono f2 (fun a j h => Or.inr (Or.inr ⟨h.1, Or.inr h.2⟩)))) hS2 (jup_s _ _ _ _)
    · omega
end CP2
