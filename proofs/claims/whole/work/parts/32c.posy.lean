/-! the tables' readers -/
section PO
variable {F : Nat} {σ : jxS}
theorem fo_le {b : Nat} (h : b ≤ 23) : fo b ≤ 4224 := by rw [← fo_23]; exact fo_mono h
theorem po_first (hP : PosOK σ) {c : Nat → Nat} (hb : beans c ≤ 22) : Positions_firstPart F σ (rank c) = some ((ps (rank c) : Int), σ) := by
  have h1 := rank_top hb
  exact px_first (by omega) (by omega) (hP.2.2.2.1 (rank c) (by omega))
theorem po_end (hP : PosOK σ) {c : Nat → Nat} (hc : okc c) (hb : beans c ≤ 22) : Positions_endPart F σ (rank c) = some (((ps (rank c) + (dh c).length : Nat) : Int), σ) := by
  have h1 := rank_top hb
  have h2 := hP.2.2.2.1 (rank c + 1) (by omega)
  rw [ps_succ hc hb] at h2
  have e : ((rank c + 1 : Nat) : Int) = (rank c : Int) + 1 := by omega
  rw [e] at h2
  exact px_end (by omega) (by omega) h2
theorem ps_at (hP : PosOK σ) {c : Nat → Nat} (hc : okc c) (hb : beans c ≤ 22) {j : Nat} (hj : j < (dh c).length) : ps (rank c) + j < 14202 := by
  have h1 := ps_succ hc hb
  have h2 := ps_mono (show rank c + 1 ≤ 4224 from rank_top hb)
  have h3 := hP.2.2.2.2.2
  omega
theorem csb_le {c : Nat → Nat} {h : Nat} (hh : h ∈ dh c) : beans (csb c h) + h = beans c := by
  obtain ⟨⟨h1, h2⟩, h3⟩ := dh_mem.mp hh
  exact beans_csb h1 h2 h3
theorem po_heap (hP : PosOK σ) {c : Nat → Nat} (hc : okc c) (hb : beans c ≤ 22) {j h : Nat} (hj : (dh c)[j]? = some h) : Positions_heapOf F σ ((ps (rank c) + j : Nat) : Int) = some ((h : Int), σ) ∧ Positions_restOf F σ ((ps (rank c) + j : Nat) : Int) = some ((rank (csb c h) : Int), σ) := by
  have h1 := ps_at hP hc hb (List.getElem?_eq_some_iff.mp hj).1
  have h2 := hP.2.2.2.2.1 c hc hb j h hj
  have hm := List.mem_of_getElem? hj
  obtain ⟨⟨g1, g2⟩, g3⟩ := dh_mem.mp hm
  have g4 := csb_le hm
  have g5 := rank_top (c := csb c h) (by omega)
  have e : ((8192 * h + rank (csb c h) : Nat) : Int) = 8192 * (h : Int) + (rank (csb c h) : Int) := by omega
  rw [e] at h2
  exact px_heap (by omega) (by omega) (by omega) (by omega) (by omega) (by omega) h2
theorem po_join (hP : PosOK σ) {c : Nat → Nat} {h : Nat} (hc : okc c) (hb : beans c ≤ 22) (h1 : 1 ≤ h) (h2 : h ≤ 12) : Positions_join F σ (rank c) h = some (if beans c + h ≤ 22 then (rank (cad c h) : Int) else -1, σ) := by
  have e1 := hP.1 (23 - h) (by omega)
  have e2 := hP.2.1 h h1 (by omega)
  have e3 := jsn_le h (by omega) h1
  have e4 := rank_top hb
  have e5 : ((23 - h : Nat) : Int) = 23 - (h : Int) := by omega
  rw [e5] at e1
  have e6 := fo_le (show 23 - h ≤ 23 by omega)
  have e7 : rank c < fo (23 - h) ↔ beans c < 23 - h := rank_beans
  by_cases hq : beans c + h ≤ 22
  · have e8 := hP.2.2.1 h c h1 h2 hc hq
    have e9 : ((jsn h + rank c : Nat) : Int) = (jsn h : Int) + (rank c : Int) := by omega
    rw [e9] at e8
    have e10 : rank c < fo (23 - h) := e7.mpr (by omega)
    rw [if_pos hq]
    exact px_join (by omega) (by omega) (by omega) e1 (by omega) (by omega) e2 (by omega) (by omega) e8
  · have e10 : ¬ rank c < fo (23 - h) := fun q => by have := e7.mp q; omega
    rw [if_neg hq]
    exact px_joinN (by omega) (by omega) (by omega) (by omega) e1 (by omega) (by omega)
def ca0 (c : Nat → Nat) (h : Nat) : Nat → Nat := if h = 0 then c else cad c h
theorem ca0_ok {c : Nat → Nat} {h : Nat} (hc : okc c) (h2 : h ≤ 12) : okc (ca0 c h) ∧ beans (ca0 c h) = beans c + h := by
  unfold ca0
  by_cases e : h = 0
  · simp [e]; exact hc
  · rw [if_neg e]
    exact ⟨okc_cad hc (by omega) h2, beans_cad c (by omega) h2⟩
theorem po_join0 (hP : PosOK σ) {c : Nat → Nat} {h : Nat} (hc : okc c) (h2 : h ≤ 12) (hb : beans c + h ≤ 22) : Positions_join F σ (rank c) h = some ((rank (ca0 c h) : Int), σ) := by
  unfold ca0
  by_cases e : h = 0
  · subst e
    simp only [if_true]
    exact px_join0
  · rw [if_neg e, po_join hP hc (by omega) (by omega) h2, if_pos hb]
theorem po_mv66 (hP : PosOK σ) {c : Nat → Nat} {b : Nat} (hc : okc c) (hb2 : b ≤ 12) (hb : beans c + b ≤ 22) : Positions_joinMove_c66 F b (rank c) σ = some ((rank (ca0 c b) : Int), σ) := by
  have e1 := hP.1 (23 - b) (by omega)
  have e4 := rank_top (c := c) (by omega)
  have e5 : ((23 - b : Nat) : Int) = 23 - (b : Int) := by omega
  rw [e5] at e1
  have e6 := fo_le (show 23 - b ≤ 23 by omega)
  have e10 : rank c < fo (23 - b) := rank_beans.mpr (by omega)
  unfold ca0
  by_cases e : b = 0
  · subst e
    simp only [if_true]
    exact px_660 (by omega) e1 (by omega) (by omega)
  · rw [if_neg e]
    have e2 := hP.2.1 b (by omega) (by omega)
    have e3 := jsn_le b (by omega) (by omega)
    have e8 := hP.2.2.1 b c (by omega) hb2 hc hb
    have e9 : ((jsn b + rank c : Nat) : Int) = (jsn b : Int) + (rank c : Int) := by omega
    rw [e9] at e8
    exact px_66 (by omega) (by omega) (by omega) e1 (by omega) (by omega) e2 (by omega) (by omega) e8
theorem po_move (hP : PosOK σ) {c : Nat → Nat} {a b : Nat} (hc : okc c) (ha2 : a ≤ 12) (hb2 : b ≤ 12) (hb : beans c + a + b ≤ 22) : Positions_joinMove F σ (rank c) ((13 * a + b : Nat) : Int) = some ((rank (ca0 (ca0 c a) b) : Int), σ) := by
  have d := jd13 (x := ((13 * a + b : Nat) : Int)) (by omega) (by omega)
  have d1' : jdiv ((13 * a + b : Nat) : Int) 13 = (a : Int) := by rw [d.1]; omega
  have d2' : jrem ((13 * a + b : Nat) : Int) 13 = (b : Int) := by rw [d.2]; omega
  obtain ⟨o1, o2⟩ := ca0_ok hc ha2
  have m := po_mv66 (F := F) hP o1 hb2 (by omega)
  have e1 := hP.1 (23 - a) (by omega)
  have e4 := rank_top (c := c) (by omega)
  have e5 : ((23 - a : Nat) : Int) = 23 - (a : Int) := by omega
  rw [e5] at e1
  have e6 := fo_le (show 23 - a ≤ 23 by omega)
  have e10 : rank c < fo (23 - a) := rank_beans.mpr (by omega)
  unfold Positions_joinMove
  rw [d1', d2']
  have c1 : ¬ jw (rank c : Int) < 0 := by unfold jw; omega
  have c2 : ¬ jw (a : Int) < 0 := by unfold jw; omega
  have c3 : ¬ jw (b : Int) < 0 := by unfold jw; omega
  have c4 : ¬ 12 < jw (a : Int) := by unfold jw; omega
  have c5 : 0 ≤ 23 - (a : Int) ∧ 23 - (a : Int) < 24 := by omega
  have c6 : jw (rank c : Int) < jw (σ 24 (23 - (a : Int))) := by rw [e1]; unfold jw; omega
  rw [if_neg c1, if_neg c2, if_neg c3, if_neg c4, if_pos c5, if_pos c6]
  unfold ca0 at m ⊢
  by_cases e : a = 0
  · subst e
    simp only [if_true] at m ⊢
    rw [if_pos (by unfold jw; omega)]
    exact m
  · rw [if_neg e] at m ⊢
    have e2 := hP.2.1 a (by omega) (by omega)
    have e3 := jsn_le a (by omega) (by omega)
    have e8 := hP.2.2.1 a c (by omega) ha2 hc (by omega)
    have e9 : ((jsn a + rank c : Nat) : Int) = (jsn a : Int) + (rank c : Int) := by omega
    rw [e9] at e8
    rw [if_neg (by unfold jw; omega), if_pos (by omega), e2, if_pos (by omega), e8]
    exact m
end PO
