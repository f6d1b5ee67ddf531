/-! The reference's reader: lines, the text. -/
section QT
variable {F : Nat} {σ : jxS} {l : List Nat}
def alB (ls : List lnT) (j : Int) : Bool := ls.any (fun x => decide (x.1 = 2 ∧ aixI x.2.2.1 x.2.2.2.1 x.2.2.2.2 = j))
def nvB (ls : List lnT) (j : Int) : Bool := ls.any (fun x => decide (x.1 = 3 ∧ 9 * x.2.2.1 + x.2.2.2.1 = j))
/-- the lines as the reference holds them -/
def LsR (σ : jxS) (ls : List lnT) : Prop := σ 0 7 = ((ls.length - 1 : Nat) : Int) ∧ (∀ j : Int, 0 ≤ j → j < 2197 → σ 4 j = if alB ls j then 1 else 0) ∧ (∀ j : Int, 0 ≤ j → j < 117 → σ 5 j = if nvB ls j then 1 else 0) ∧ ∀ x, ls[0]? = some x → σ 0 6 = (x.2.1.length : Int) ∧ rowL σ 3 0 x.2.1
def LRP (a : Nat) (j : Int) : Prop := (a = 0 ∧ (j = 2 ∨ j = 3 ∨ j = 4 ∨ j = 6 ∨ j = 7)) ∨ (3 ≤ a ∧ a ≤ 5)
theorem OcP_LRP {a : Nat} {j : Int} (h : OcP a j) : LRP a j := by
  simp only [OcP] at h
  simp only [LRP]
  omega
theorem AnP_LRP {a : Nat} {j : Int} (h : AnP a j) : LRP a j := by
  simp only [AnP] at h
  simp only [LRP]
  omega
theorem At2_LRP {a : Nat} {j : Int} (h : At2 a j) : LRP a j := Or.inl ⟨h.1, Or.inl h.2⟩
theorem kd_wd {p : Nat} : (kdS l p = 1 ↔ wdS l p = 0) ∧ (kdS l p = 2 ↔ wdS l p = 1) ∧ (kdS l p = 3 ↔ wdS l p = 2) ∧ (kdS l p = 0 ↔ wdS l p = -1 ∨ wdS l p = 3) ∧ (kdS l p = 1 → wml l p wOct = true) ∧ (kdS l p = 2 → wml l p wAls = true) ∧ (kdS l p = 3 → wml l p wNev = true) := by
  unfold kdS wdS
  by_cases y0 : wml l p wOct = true
  · rw [if_pos y0, if_pos y0]
    exact ⟨by omega, by omega, by omega, by omega, fun _ => y0, fun q => absurd q (by decide), fun q => absurd q (by decide)⟩
  rw [if_neg y0, if_neg y0]
  by_cases y1 : wml l p wAls = true
  · rw [if_pos y1, if_pos y1]
    exact ⟨by omega, by omega, by omega, by omega, fun q => absurd q (by decide), fun _ => y1, fun q => absurd q (by decide)⟩
  rw [if_neg y1, if_neg y1]
  by_cases y2 : wml l p wNev = true
  · rw [if_pos y2, if_pos y2]
    exact ⟨by omega, by omega, by omega, by omega, fun q => absurd q (by decide), fun q => absurd q (by decide), fun _ => y2⟩
  rw [if_neg y2, if_neg y2]
  refine ⟨?_, ?_, ?_, ?_, fun q => absurd q (by decide), fun q => absurd q (by decide), fun q => absurd q (by decide)⟩ <;> (split <;> omega)
def linR (σ : jxS) (l : List Nat) (ls : List lnT) (x : Int) (r : Nat ⊕ (lnT × Nat)) : Prop := match r with
  | .inl e => x = 0 ∧ σ 0 3 = (e : Int)
  | .inr (y, k') => x = 1 ∧ RdR σ l k' ∧ LsR σ (ls ++ [y])
theorem any_app {ls : List lnT} {y : lnT} {P : lnT → Bool} : (ls ++ [y]).any P = (ls.any P || P y) := by
  rw [List.any_append, List.any_cons, List.any_nil, Bool.or_false]
theorem rr_line {k n : Nat} {ls : List lnT} (h : RdR σ l k) (hk : k ≤ l.length) (hn : n ≤ 16) (ln : ls.length = n) (hls : LsR σ ls) (h6 : n = 0 → σ 0 6 = 0) (hF : 1000 ≤ F) : ∃ x σ', Model_readsLine F σ (n : Int) = some (x, σ') ∧ jfr LRP σ σ' ∧ linR σ' l ls x (linS l n k) := by
  obtain ⟨σ1, a1, a2, a3⟩ := rr_word (F := F) h hk hF
  have s := skp_b (l := l) hk
  have l2 := (RdR_len h).2.1
  rw [Model_readsLine, a1, jbs]
  dsimp only
  unfold linS
  generalize skp l k = p at a3 s
  obtain ⟨e1, e2, e3, e0, g1, g2, g3⟩ := kd_wd (l := l) (p := p)
  have kl := kdS_len (l := l) s.2
  have wb := wdS_b (l := l) (p := p)
  have f1 : jfr LRP σ σ1 := jfr_mono a2 (fun a j => At2_LRP)
  have ff : ∀ x, jfr LRP σ (jup σ1 0 3 x) := fun x => jfr_up f1 (Or.inl ⟨rfl, Or.inr (Or.inl rfl)⟩)
  have w7 : σ1 0 7 = ((ls.length - 1 : Nat) : Int) := by rw [a2 0 7 (by simp [At2])]; exact hls.1
  have c15 : Model_readsLine_c15 F σ1 = some (0, jup σ1 0 3 ((8 * p + 1 : Nat) : Int)) := rr_fail1 (F := F) (m := 1) (m' := 1) rfl a3.2.2 rfl
  have c52 : Model_readsLine_c52 F σ1 = some (0, jup σ1 0 3 ((8 * p + 4 : Nat) : Int)) := rr_fail1 (F := F) (m := 4) (m' := 4) rfl a3.2.2 rfl
  have jv : ∀ m : Int, iR m → (jw (wdS l p) = m ↔ wdS l p = m) := fun m _ => by rw [jw_id (by omega) (by omega)]
  generalize kdS l p = kd at e1 e2 e3 e0 g1 g2 g3 kl
  generalize wdS l p = wd at e1 e2 e3 e0 wb jv
  by_cases y0 : kd = 0
  · rw [if_pos y0]
    rcases e0.mp y0 with q | q
    · rw [if_pos ((jv (-1) ⟨by omega, by omega⟩).mpr q), c15]
      exact ⟨0, _, rfl, ff _, rfl, jup_s _ _ _ _⟩
    · rw [if_neg (fun z => by have := (jv (-1) ⟨by omega, by omega⟩).mp z; omega), if_pos ((jv 3 ⟨by omega, by omega⟩).mpr q), c15]
      exact ⟨0, _, rfl, ff _, rfl, jup_s _ _ _ _⟩
  have nq : ¬ (wd = -1 ∨ wd = 3) := fun q => y0 (e0.mpr q)
  rw [if_neg y0, if_neg (fun z => nq (Or.inl ((jv (-1) ⟨by omega, by omega⟩).mp z))), if_neg (fun z => nq (Or.inr ((jv 3 ⟨by omega, by omega⟩).mp z)))]
  by_cases y16 : n = 16
  · rw [if_pos (show jw (n : Int) = 16 by rw [y16]; rfl), c52, if_pos (Or.inl y16)]
    exact ⟨0, _, rfl, ff _, rfl, jup_s _ _ _ _⟩
  have n0 : jw (n : Int) = 0 ↔ n = 0 := by rw [jw_id (by omega) (by omega)]; omega
  rw [if_neg (show ¬ jw (n : Int) = 16 by rw [jw_id (by omega) (by omega)]; omega)]
  by_cases y1 : kd = 1
  · rw [if_pos ((jv 0 ⟨by omega, by omega⟩).mpr (e1.mp y1)), Model_readsLine_c40]
    by_cases yn : n = 0
    · subst yn
      obtain ⟨σ2, b1, b2, b3⟩ := rr_pass_c (F := F) wOct F p σ1 a3 s.2 (by decide) (g1 y1) (by show 5 < F; omega)
      have b1' : Model_passWord F σ1 = some (0, σ2) := b1
      have b3' : RdR σ2 l (p + 5) := b3
      obtain ⟨x, σ3, d1, d2, d3⟩ := rr_octal (F := F) b3' (kl.1 y1) (by rw [b2 0 6 (by simp [At2]), a2 0 6 (by simp [At2])]; exact h6 rfl) hF
      have x01 : x = 0 ∨ x = 1 := by
        cases e : octS l (p + 5) with
        | inl c => rw [e] at d3; exact Or.inl d3.1
        | inr r => rw [e] at d3; exact Or.inr d3.1
      rw [if_pos (n0.mpr rfl), Model_readsLine_c49, if_pos (show jw 1 = jw 1 from rfl), b1', jbs, if_pos ((jv 0 ⟨by omega, by omega⟩).mpr (e1.mp y1)), if_neg (show ¬ ((0 : Nat) = 16 ∨ ¬ (kd = 1 ↔ (0 : Nat) = 0)) by omega), if_pos y1]
      dsimp only
      rw [d1, jbs, if_pos x01]
      refine ⟨x, σ3, rfl, jfr_trans f1 (jfr_trans (jfr_mono b2 (fun a j => At2_LRP)) (jfr_mono d2 (fun a j => OcP_LRP))), ?_⟩
      have nl : ls = [] := List.eq_nil_of_length_eq_zero ln
      subst nl
      cases e : octS l (p + 5) with
      | inl c => rw [e] at d3; exact d3
      | inr r =>
        obtain ⟨ds, k'⟩ := r
        rw [e] at d3
        obtain ⟨q1, q2, q3, q4⟩ := d3
        refine ⟨q1, q2, ?_, fun j j0 j1 => ?_, fun j j0 j1 => ?_, fun z hz => ?_⟩
        · rw [d2 0 7 (by simp [OcP]), b2 0 7 (by simp [At2]), w7]; rfl
        · rw [d2 4 _ (by simp [OcP]), b2 4 _ (by simp [At2]), a2 4 _ (by simp [At2]), hls.2.1 j j0 j1]; rfl
        · rw [d2 5 _ (by simp [OcP]), b2 5 _ (by simp [At2]), a2 5 _ (by simp [At2]), hls.2.2.1 j j0 j1]; rfl
        · have hz' : ((1, ds, 0, 0, 0) : lnT) = z := Option.some.inj hz
          rw [← hz']; exact ⟨q3, q4⟩
    · rw [if_neg (fun z => yn (n0.mp z)), Model_readsLine_c49, if_neg (show ¬ jw 1 = jw 0 by decide), c52, if_pos (Or.inr (by omega))]
      exact ⟨0, _, rfl, ff _, rfl, jup_s _ _ _ _⟩
  rw [if_neg (fun z => y1 (e1.mpr ((jv 0 ⟨by omega, by omega⟩).mp z))), Model_readsLine_c40]
  by_cases yn : n = 0
  · rw [if_pos (n0.mpr yn), Model_readsLine_c49, if_neg (show ¬ jw 0 = jw 1 by decide), c52, if_pos (Or.inr (by omega))]
    exact ⟨0, _, rfl, ff _, rfl, jup_s _ _ _ _⟩
  rw [if_neg (fun z => yn (n0.mp z)), Model_readsLine_c49, if_pos (show jw 0 = jw 0 from rfl), if_neg (show ¬ (n = 16 ∨ ¬ (kd = 1 ↔ n = 0)) by omega), if_neg y1]
  have l1 : ∀ y : lnT, (ls ++ [y])[0]? = ls[0]? := fun y => List.getElem?_append_left (by omega)
  have la : ∀ y : lnT, (((ls ++ [y]).length - 1 : Nat) : Int) = ((ls.length - 1 : Nat) : Int) + 1 := fun y => by rw [List.length_append, List.length_singleton]; omega
  by_cases y2 : kd = 2
  · obtain ⟨σ2, b1, b2, b3⟩ := rr_pass_c (F := F) wAls F p σ1 a3 s.2 (by decide) (g2 y2) (by show 4 < F; omega)
    have b1' : Model_passWord F σ1 = some (0, σ2) := b1
    have b3' : RdR σ2 l (p + 4) := b3
    obtain ⟨x, σ3, d1, d2, d3⟩ := rr_also (F := F) b3' (kl.2.1 y2) hF
    have x01 : x = 0 ∨ x = 1 := by
      cases e : alsS l (p + 4) with
      | inl c => rw [e] at d3; exact Or.inl d3.1
      | inr r => rw [e] at d3; exact Or.inr d3.1
    rw [b1', jbs, if_neg (fun z => y1 (e1.mpr ((jv 0 ⟨by omega, by omega⟩).mp z))), if_pos ((jv 1 ⟨by omega, by omega⟩).mpr (e2.mp y2)), if_pos y2]
    dsimp only
    rw [d1, jbs, if_pos x01]
    refine ⟨x, σ3, rfl, jfr_trans f1 (jfr_trans (jfr_mono b2 (fun a j => At2_LRP)) (jfr_mono d2 (fun a j => AnP_LRP))), ?_⟩
    cases e : alsS l (p + 4) with
    | inl c => rw [e] at d3; exact d3
    | inr r =>
      obtain ⟨⟨hh, a, b⟩, k'⟩ := r
      rw [e] at d3
      obtain ⟨q1, q2, q3, q4, q5, q6⟩ := d3
      refine ⟨q1, q2, ?_, fun j j0 j1 => ?_, fun j j0 j1 => ?_, fun z hz => ?_⟩
      · rw [q3, b2 0 7 (by simp [At2]), w7, la]
      · rw [alB, any_app]
        by_cases ej : j = aixI hh a b
        · rw [ej, q4, decide_eq_true (show ((2, [], hh, a, b) : lnT).1 = 2 ∧ aixI hh a b = aixI hh a b from ⟨rfl, rfl⟩), Bool.or_true, if_pos rfl]
        · rw [q5 j ej, b2 4 _ (by simp [At2]), a2 4 _ (by simp [At2]), hls.2.1 j j0 j1, decide_eq_false (show ¬ (((2, [], hh, a, b) : lnT).1 = 2 ∧ aixI hh a b = j) from fun q => ej q.2.symm), Bool.or_false]
          rfl
      · rw [nvB, any_app, q6, b2 5 _ (by simp [At2]), a2 5 _ (by simp [At2]), hls.2.2.1 j j0 j1, decide_eq_false (show ¬ (((2, [], hh, a, b) : lnT).1 = 3 ∧ 9 * hh + a = j) from fun q => absurd q.1 (by show ¬ (2 : Nat) = 3; decide)), Bool.or_false]
        rfl
      · rw [l1] at hz
        obtain ⟨u1, u2⟩ := hls.2.2.2 z hz
        exact ⟨by rw [d2 0 6 (by simp [AnP]), b2 0 6 (by simp [At2]), a2 0 6 (by simp [At2])]; exact u1, fun i v hv => by rw [d2 3 _ (by simp [AnP]), b2 3 _ (by simp [At2]), a2 3 _ (by simp [At2])]; exact u2 i v hv⟩
  · have y3 : kd = 3 := by omega
    obtain ⟨σ2, b1, b2, b3⟩ := rr_pass_c (F := F) wNev F p σ1 a3 s.2 (by decide) (g3 y3) (by show 5 < F; omega)
    have b1' : Model_passWord F σ1 = some (0, σ2) := b1
    have b3' : RdR σ2 l (p + 5) := b3
    obtain ⟨x, σ3, d1, d2, d3⟩ := rr_never (F := F) b3' (kl.2.2.1 y3) hF
    have x01 : x = 0 ∨ x = 1 := by
      cases e : nevS l (p + 5) with
      | inl c => rw [e] at d3; exact Or.inl d3.1
      | inr r => rw [e] at d3; exact Or.inr d3.1
    rw [b1', jbs, if_neg (fun z => y1 (e1.mpr ((jv 0 ⟨by omega, by omega⟩).mp z))), if_neg (fun z => y2 (e2.mpr ((jv 1 ⟨by omega, by omega⟩).mp z))), if_neg y2]
    dsimp only
    rw [d1, jbs, if_pos x01]
    refine ⟨x, σ3, rfl, jfr_trans f1 (jfr_trans (jfr_mono b2 (fun a j => At2_LRP)) (jfr_mono d2 (fun a j => AnP_LRP))), ?_⟩
    cases e : nevS l (p + 5) with
    | inl c => rw [e] at d3; exact d3
    | inr r =>
      obtain ⟨⟨hh, a, b⟩, k'⟩ := r
      rw [e] at d3
      obtain ⟨q1, q2, q3, q4, q5, q6⟩ := d3
      refine ⟨q1, q2, ?_, fun j j0 j1 => ?_, fun j j0 j1 => ?_, fun z hz => ?_⟩
      · rw [q3, b2 0 7 (by simp [At2]), w7, la]
      · rw [alB, any_app, q6, b2 4 _ (by simp [At2]), a2 4 _ (by simp [At2]), hls.2.1 j j0 j1, decide_eq_false (show ¬ (((3, [], hh, a, b) : lnT).1 = 2 ∧ aixI hh a b = j) from fun q => absurd q.1 (by show ¬ (3 : Nat) = 2; decide)), Bool.or_false]
        rfl
      · rw [nvB, any_app]
        by_cases ej : j = 9 * hh + a
        · rw [ej, q4, decide_eq_true (show ((3, [], hh, a, b) : lnT).1 = 3 ∧ 9 * hh + a = 9 * hh + a from ⟨rfl, rfl⟩), Bool.or_true, if_pos rfl]
        · rw [q5 j ej, b2 5 _ (by simp [At2]), a2 5 _ (by simp [At2]), hls.2.2.1 j j0 j1, decide_eq_false (show ¬ (((3, [], hh, a, b) : lnT).1 = 3 ∧ 9 * hh + a = j) from fun q => ej q.2.symm), Bool.or_false]
          rfl
      · rw [l1] at hz
        obtain ⟨u1, u2⟩ := hls.2.2.2 z hz
        exact ⟨by rw [d2 0 6 (by simp [AnP]), b2 0 6 (by simp [At2]), a2 0 6 (by simp [At2])]; exact u1, fun i v hv => by rw [d2 3 _ (by simp [AnP]), b2 3 _ (by simp [At2]), a2 3 _ (by simp [At2])]; exact u2 i v hv⟩
end QT
