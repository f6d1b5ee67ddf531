/-! The place of what was fed, the class. -/
def TpC (σ : jxS) (l : List Int) : Prop := σ 1 1 = (l.length : Int) ∧ l.length ≤ 200 ∧ ∀ (i : Nat) (x : Int), l[i]? = some x → σ 2 i = x ∧ iR x
def TpR (σ : jxS) (l : List Int) : Prop := l.length ≤ 200 ∧ ∀ (i : Nat) (x : Int), l[i]? = some x → σ 1 i = x ∧ iR x
noncomputable def plI (s : qsT) (h : Nat) (r : Nat) (l : List Int) : Nat := match l with
  | [] => r
  | x :: t => plI s h (if x = (h : Int) then s.2 r h else r) t
noncomputable def plO (s : qsT) (n : Nat) (l : List Int) (k : Nat) (r : Nat) : Nat := match k with
  | 0 => r
  | k + 1 => plO s n l k (plI s (n - k) r l)
def inH (n : Nat) (x : Int) : Bool := decide (1 ≤ x) && decide (x ≤ (n : Int))
noncomputable def plA (M : Nat → List Nat) (n : Nat) (l : List Int) : Int := if l.all (inH n) then kA M n (fun s => (plO s n l n 0 : Int)) else -2
theorem plI_lt {s : qsT} {n h : Nat} (hs : qOK s n) (h1 : 1 ≤ h) (h2 : h ≤ n) : ∀ (l : List Int) (r : Nat), r < s.1.length → plI s h r l < s.1.length := by
  intro l
  induction l with
  | nil => intro r hr; exact hr
  | cons x t ih =>
    intro r hr
    rw [plI]
    refine ih _ ?_
    split
    · exact hs.2.2 r h hr h1 h2
    · exact hr
theorem tp_at {F i : Nat} {σ : jxS} {l : List Int} {x : Int} (hT : TpC σ l) (hx : l[i]? = some x) : Tape_at F σ i = some (x, σ) := by
  obtain ⟨w, b, t⟩ := hT
  have il := (List.getElem?_eq_some_iff.mp hx).1
  rw [Tape_at, if_neg (show ¬ jw (i : Int) < 0 by unfold jw; omega), if_pos (show jw (i : Int) < jw (σ 1 1) by rw [w]; unfold jw; omega), if_pos (show 0 ≤ (i : Int) ∧ (i : Int) < 200 by omega), (t i x hx).1]
section PLC
variable {F q n : Nat} {σ : jxS} {M : Nat → List Nat} {s : qsT} {l : List Int}
theorem cpl_in {k54 : Int → Int → jxS → Option jxR} {h N : Nat} (hN : l.length = N) (hT : TpC σ l) (n6 : n ≤ 6) (hQ : QK σ M q n s) (h1 : 1 ≤ h) (h2 : h ≤ n) : ∀ (t : List Int) (fu i r : Nat), l.drop i = t → t.length + i = N → t.length < fu → r < s.1.length → Quotient_placeOf_c65 F q k54 fu r h i σ = k54 (plI s h r t : Int) ((h : Int) + 1) σ := by
  have w : σ 1 1 = (N : Int) := by rw [← hN]; exact hT.1
  have N2 : N ≤ 200 := by rw [← hN]; exact hT.2.1
  intro t
  induction t with
  | nil =>
    intro fu i r e1 e2 e3 hr
    obtain ⟨fu, rfl⟩ : ∃ k, fu = k + 1 := ⟨fu - 1, by omega⟩
    simp only [List.length_nil] at e2
    rw [Quotient_placeOf_c65, Tape_size, jbs]
    dsimp only
    rw [if_neg (show ¬ jw (i : Int) < jw (σ 1 1) by rw [w]; unfold jw; omega)]
    rfl
  | cons x t ih =>
    intro fu i r e1 e2 e3 hr
    obtain ⟨fu, rfl⟩ : ∃ k, fu = k + 1 := ⟨fu - 1, by omega⟩
    simp only [List.length_cons] at e2 e3
    obtain ⟨hm, hd⟩ := drop_o e1
    have hx := (hT.2.2 i x hm).2
    have jx : jw x = x := jw_id hx.1 hx.2
    have jh : jw (h : Int) = (h : Int) := jw_id (by omega) (by omega)
    have e2' : t.length + (i + 1) = N := by omega
    have e3' : t.length < fu := by omega
    rw [Quotient_placeOf_c65, Tape_size, jbs]
    dsimp only
    rw [if_pos (show jw (i : Int) < jw (σ 1 1) by rw [w]; unfold jw; omega), tp_at hT hm, jbs]
    dsimp only
    rw [jx, jh, plI]
    by_cases z : x = (h : Int)
    · have i1 := ih fu (i + 1) (s.2 r h) hd e2' e3' (hQ.2.1.2.2 r h hr h1 h2)
      rw [Int.natCast_add, Int.natCast_one] at i1
      rw [if_pos z, cq_next n6 hQ hr h1 h2, jbs, if_pos z]
      exact i1
    · have i1 := ih fu (i + 1) r hd e2' e3' hr
      rw [Int.natCast_add, Int.natCast_one] at i1
      rw [if_neg z, if_neg z]
      exact i1
theorem cpl_out (hT : TpC σ l) (n6 : n ≤ 6) (hQ : QK σ M q n s) (hF : 300 ≤ F) : ∀ (k fu h r : Nat), k + h = n + 1 → 1 ≤ h → k < fu → r < s.1.length → Quotient_placeOf_c54 F q fu r h σ = some ((plO s n l k r : Int), σ) := by
  have w0 := hQ.1.1
  have lt := hT.2.1
  intro k
  induction k with
  | zero =>
    intro fu h r e1 e2 e3 hr
    obtain ⟨fu, rfl⟩ : ∃ k, fu = k + 1 := ⟨fu - 1, by omega⟩
    rw [Quotient_placeOf_c54, if_pos (show jw (σ q 0) < jw (h : Int) by rw [w0]; unfold jw; omega)]
    rfl
  | succ k ih =>
    intro fu h r e1 e2 e3 hr
    obtain ⟨fu, rfl⟩ : ∃ k, fu = k + 1 := ⟨fu - 1, by omega⟩
    have h2 : h ≤ n := by omega
    have a := cpl_in (F := F) (k54 := Quotient_placeOf_c54 F q fu) rfl hT n6 hQ e2 h2 l F 0 r rfl (Nat.add_zero _) (by omega) hr
    have a' : Quotient_placeOf_c65 F q (Quotient_placeOf_c54 F q fu) F r h 0 σ = _ := a
    have i1 := ih fu (h + 1) (plI s h r l) (by omega) (by omega) (by omega) (plI_lt hQ.2.1 e2 h2 l r hr)
    rw [Int.natCast_add, Int.natCast_one] at i1
    rw [Quotient_placeOf_c54, if_neg (show ¬ jw (σ q 0) < jw (h : Int) by rw [w0]; unfold jw; omega), a', i1, plO, show n - k = h by omega]
theorem cpl_all {N : Nat} (hN : l.length = N) (w0 : σ q 0 = (n : Int)) (hT : TpC σ l) (n1 : 1 ≤ n) (n6 : n ≤ 6) (hb : QbC σ M q n) (hF : 300 ≤ F) : ∀ (t : List Int) (fu i : Nat), l.drop i = t → t.length + i = N → t.length < fu → Quotient_placeOf_c2 F q fu i σ = some (if t.all (inH n) then kA M n (fun s => (plO s n l n 0 : Int)) else -2, σ) := by
  have w : σ 1 1 = (N : Int) := by rw [← hN]; exact hT.1
  have N2 : N ≤ 200 := by rw [← hN]; exact hT.2.1
  have jn : jw (σ q 0) = (n : Int) := by rw [w0, jw_id (by omega) (by omega)]
  intro t
  induction t with
  | nil =>
    intro fu i e1 e2 e3
    obtain ⟨fu, rfl⟩ : ∃ k, fu = k + 1 := ⟨fu - 1, by omega⟩
    simp only [List.length_nil] at e2
    rw [Quotient_placeOf_c2, Tape_size, jbs]
    dsimp only
    rw [if_neg (show ¬ jw (i : Int) < jw (σ 1 1) by rw [w]; unfold jw; omega), List.all_nil]
    unfold kA
    cases hq : qbd M n with
    | none => rw [cb_unknown hq hb, jbs]; rfl
    | some s =>
      have hQ := (QbC_some n6 hq).mp hb
      have a := cpl_out (F := F) hT n6 hQ hF n F 1 0 (by omega) (by omega) (by omega) (by have := hQ.2.1.1.1; omega)
      rw [cb_known hQ, jbs]
      dsimp only
      rw [if_neg (show ¬ jw 1 = 0 by decide)]
      exact a
  | cons x t ih =>
    intro fu i e1 e2 e3
    obtain ⟨fu, rfl⟩ : ∃ k, fu = k + 1 := ⟨fu - 1, by omega⟩
    simp only [List.length_cons] at e2 e3
    obtain ⟨hm, hd⟩ := drop_o e1
    have hx := (hT.2.2 i x hm).2
    have jx : jw x = x := jw_id hx.1 hx.2
    have e2' : t.length + (i + 1) = N := by omega
    have e3' : t.length < fu := by omega
    have i1 := ih fu (i + 1) hd e2' e3'
    rw [Int.natCast_add, Int.natCast_one] at i1
    rw [Quotient_placeOf_c2, Tape_size, jbs]
    dsimp only
    rw [if_pos (show jw (i : Int) < jw (σ 1 1) by rw [w]; unfold jw; omega), tp_at hT hm, jbs, List.all_cons]
    dsimp only
    by_cases y : x < 1
    · have f : inH n x = false := by unfold inH; simp; omega
      rw [if_pos (show jw x < 1 by rw [jx]; exact y), f, Bool.false_and]
      rfl
    · rw [if_neg (show ¬ jw x < 1 by rw [jx]; exact y), tp_at hT hm, jbs]
      dsimp only
      by_cases z : (n : Int) < x
      · have f : inH n x = false := by unfold inH; simp; omega
        rw [if_pos (show jw (σ q 0) < jw x by rw [jn, jx]; exact z), f, Bool.false_and]
        rfl
      · have f : inH n x = true := by unfold inH; simp; omega
        rw [if_neg (show ¬ jw (σ q 0) < jw x by rw [jn, jx]; exact z), f, Bool.true_and]
        exact i1
end PLC
