/-! The class: loops over the moves of the hand. -/
def OL (σ : jxS) (M : Nat → List Nat) (o : Nat) (c : Nat → Nat) : Prop := σ o 4 = ((ops M c).length : Int) ∧ rowL σ (o + 1) 0 (tl M c) ∧ rowL σ (o + 2) 0 ((ops M c).map ocode)
theorem ol_at {F o i : Nat} {σ : jxS} {M : Nat → List Nat} {c : Nat → Nat} {m : Nat × Nat} (hM : MOK M) (h : OL σ M o c) (hi : (ops M c)[i]? = some m) : Options_target F o σ i = some ((rank (tgt c m.1 m.2) : Int), σ) ∧ Options_code F o σ i = some ((ocode m : Int), σ) ∧ i < (ops M c).length := by
  have ol := ops_len hM c
  have il := (List.getElem?_eq_some_iff.mp hi).1
  have w := h.1
  have w1 := h.2.1 i (rank (tgt c m.1 m.2)) (by rw [tl, List.getElem?_map, hi]; rfl)
  have w2 := h.2.2 i (ocode m) (by rw [List.getElem?_map, hi]; rfl)
  rw [Nat.zero_add] at w1 w2
  refine ⟨?_, ?_, il⟩
  · simp (disch := omega) only [Options_target, w, w1, ↓reduceIte, jw_id, jlt_T, jlt_F, jle_T, jle_F, jeq_T, jeq_F, and_self, and_true, true_and, and_false, false_and, or_true, true_or, or_false, false_or, not_true_eq_false, not_false_eq_true, jbs, jup_s, jup_k, jup_o]
  · simp (disch := omega) only [Options_code, w, w2, ↓reduceIte, jw_id, jlt_T, jlt_F, jle_T, jle_F, jeq_T, jeq_F, and_self, and_true, true_and, and_false, false_and, or_true, true_or, or_false, false_or, not_true_eq_false, not_false_eq_true, jbs, jup_s, jup_k, jup_o]
theorem OL_fr {σ σ' : jxS} {P : Nat → Int → Prop} {M : Nat → List Nat} {o : Nat} {c : Nat → Nat} (h : OL σ M o c) (f : jfr P σ σ') (h1 : ¬ P o 4) (h2 : ∀ j, ¬ P (o + 1) j) (h3 : ∀ j, ¬ P (o + 2) j) : OL σ' M o c := ⟨by rw [f o 4 h1]; exact h.1, rowL_F h.2.1 f h2, rowL_F h.2.2 f h3⟩
theorem OL_VP {σ σ' : jxS} {M : Nat → List Nat} {c : Nat → Nat} (h : OL σ M 41 c) (f : jfr VP σ σ') : OL σ' M 41 c := OL_fr h f (by simp [VP]) (fun j => by simp [VP]) (fun j => by simp [VP])
theorem op_rank {M : Nat → List Nat} {c : Nat → Nat} (hM : MOK M) (hc : okc c) (hb : beans c ≤ 22) {o : Nat × Nat} (ho : o ∈ ops M c) : rank (tgt c o.1 o.2) < 4224 := by
  have := ops_tgt hM hc ho
  exact rank_top (by omega)
theorem op_code {M : Nat → List Nat} {c : Nat → Nat} (hM : MOK M) {o : Nat × Nat} (ho : o ∈ ops M c) : ocode o < 12169 ∧ ocode o / 1000 = o.1 ∧ ocode o % 1000 = o.2 := by
  obtain ⟨⟨⟨h1, h2⟩, h3⟩, h4⟩ := ops_mem.mp ho
  have := (hM o.1 h1 h2).2 o.2 h4
  simp only [ocode]
  omega
theorem drop_o {α : Type} {l r : List α} {k : Nat} {m : α} (e1 : l.drop k = m :: r) : l[k]? = some m ∧ l.drop (k + 1) = r := by
  constructor
  · have : (l.drop k)[0]? = some m := by rw [e1]; rfl
    rwa [List.getElem?_drop, Nat.add_zero] at this
  · have : (l.drop k).drop 1 = r := by rw [e1]; rfl
    rwa [List.drop_drop] at this
/-- the first that loses -/
theorem cr_loop {F N : Nat} {M : Nat → List Nat} {c : Nat → Nat} (hM : MOK M) (hc : okc c) (hb : beans c ≤ 22) (hF : 5000 ≤ F) (hN : (ops M c).length = N) : ∀ (r : List (Nat × Nat)) (fu i : Nat) (σ : jxS), CV σ M → OL σ M 41 c → (ops M c).drop i = r → r.length + i = N → r.length < fu → ∃ σ', jfr VP σ σ' ∧ CV σ' M ∧ Board_makeReply_c16 F fu i σ = (match r.find? (lsf M c) with
      | none => some (-2, σ')
      | some o => (Hand_become F σ' (rank (tgt c o.1 o.2))).bind fun r57 => (Options_code F 41 r57.2 ((i : Int) + (r.findIdx (lsf M c) : Nat))).bind fun r65 => some (r65.1, r65.2)) := by
  intro r
  have ol : N ≤ 203 := hN ▸ ops_len hM c
  induction r with
  | nil =>
    intro fu i σ h hO e1 e2 e3
    obtain ⟨fu, rfl⟩ : ∃ k, fu = k + 1 := ⟨fu - 1, by omega⟩
    simp only [List.length_nil] at e2
    refine ⟨σ, jfr_refl _ _, h, ?_⟩
    have w : σ 41 4 = (N : Int) := by rw [← hN]; exact hO.1
    simp only [List.find?_nil]
    rw [Board_makeReply_c16, Options_size, jbs]
    dsimp only
    rw [w, if_neg (by unfold jw; omega)]
  | cons o r ih =>
    intro fu i σ h hO e1 e2 e3
    obtain ⟨fu, rfl⟩ : ∃ k, fu = k + 1 := ⟨fu - 1, by omega⟩
    simp only [List.length_cons] at e2 e3
    obtain ⟨hm, hr⟩ := drop_o e1
    obtain ⟨t1, t2, _⟩ := ol_at (F := F) hM hO hm
    have w : σ 41 4 = (N : Int) := by rw [← hN]; exact hO.1
    have om := List.mem_of_getElem? hm
    obtain ⟨σ1, a1, a2, a3⟩ := ca_loses (F := F) hM h (op_rank hM hc hb om) hF
    have hO1 := OL_VP hO a2
    cases hl : lsf M c o
    · have hl' : los M (rank (tgt c o.1 o.2)) = false := hl
      rw [hl'] at a1
      obtain ⟨σ2, b1, b2, b3⟩ := ih fu (i + 1) σ1 a3 hO1 hr (by omega) (by omega)
      refine ⟨σ2, jfr_trans a2 b1, b2, ?_⟩
      rw [List.find?_cons, hl, List.findIdx_cons, hl]
      simp only [Bool.false_eq_true, if_false, cond_false] at a1 ⊢
      rw [Int.natCast_add, Int.natCast_one] at b3
      rw [Board_makeReply_c16, Options_size, jbs]
      dsimp only
      rw [w, if_pos (by unfold jw; omega), t1, jbs]
      dsimp only
      rw [a1, jbs]
      dsimp only
      rw [if_pos (show jw 0 = 0 from rfl), b3]
      rw [show (i : Int) + ((r.findIdx (lsf M c) + 1 : Nat) : Int) = (i : Int) + 1 + (r.findIdx (lsf M c) : Nat) by omega]
    · have hl' : los M (rank (tgt c o.1 o.2)) = true := hl
      rw [hl'] at a1
      refine ⟨σ1, a2, a3, ?_⟩
      rw [List.find?_cons, hl, List.findIdx_cons, hl]
      simp only [if_true, cond_true] at a1 ⊢
      obtain ⟨t1', _, _⟩ := ol_at (F := F) hM hO1 hm
      rw [Board_makeReply_c16, Options_size, jbs]
      dsimp only
      rw [w, if_pos (by unfold jw; omega), t1, jbs]
      dsimp only
      rw [a1, jbs]
      dsimp only
      rw [if_neg (show ¬ jw 1 = 0 by decide), t1', jbs]
      dsimp only
      rw [show (i : Int) + ((0 : Nat) : Int) = (i : Int) by omega]
noncomputable def anp (M : Nat → List Nat) (c : Nat → Nat) (k : Int) (n : Nat) (l : List (Nat × Nat)) : Int := match l with
  | [] => if k = -1 then (n : Int) else -2
  | o :: t => if lsf M c o then (if (n : Int) = k then (ocode o : Int) else anp M c k (n + 1) t) else anp M c k n t
theorem anl_anp (M : Nat → List Nat) (c : Nat → Nat) (σ : jxS) (k : Int) (l : List (Nat × Nat)) : ∀ n, anl M c σ k n l (fun n => some (if k = -1 then (n : Int) else -2, σ)) = some (anp M c k n l, σ) := by
  induction l with
  | nil => intro n; rfl
  | cons o l ih =>
    intro n
    simp only [anl, anp, ih]
    split
    · split <;> rfl
    · rfl
theorem can_loop {F N : Nat} {M : Nat → List Nat} {c : Nat → Nat} {v : Int} (hM : MOK M) (hc : okc c) (hb : beans c ≤ 22) (hF : 5000 ≤ F) (hN : (ops M c).length = N) (hv : -1 ≤ v) (hv2 : v ≤ 2147483647) : ∀ (r : List (Nat × Nat)) (fu i n : Nat) (σ : jxS), CV σ M → OL σ M 41 c → (ops M c).drop i = r → r.length + i = N → r.length < fu → n ≤ i → vres M σ (Board_answerAt_c18 F fu v n i σ) (anp M c v n r) := by
  intro r
  have ol : N ≤ 203 := hN ▸ ops_len hM c
  induction r with
  | nil =>
    intro fu i n σ h hO e1 e2 e3 e4
    obtain ⟨fu, rfl⟩ : ∃ k, fu = k + 1 := ⟨fu - 1, by omega⟩
    simp only [List.length_nil] at e2
    refine ⟨σ, ?_, jfr_refl _ _, h⟩
    have w : σ 41 4 = (N : Int) := by rw [← hN]; exact hO.1
    simp only [anp]
    rw [Board_answerAt_c18, Options_size, jbs]
    dsimp only
    rw [w, if_neg (show ¬ jw (i : Int) < jw (N : Int) by unfold jw; omega)]
    by_cases z : v = -1
    · rw [if_pos (show jw v = -1 by unfold jw; omega), if_pos z]
    · rw [if_neg (show ¬ jw v = -1 by unfold jw; omega), if_neg z]
  | cons o r ih =>
    intro fu i n σ h hO e1 e2 e3 e4
    obtain ⟨fu, rfl⟩ : ∃ k, fu = k + 1 := ⟨fu - 1, by omega⟩
    simp only [List.length_cons] at e2 e3
    obtain ⟨hm, hr⟩ := drop_o e1
    obtain ⟨t1, t2, _⟩ := ol_at (F := F) hM hO hm
    have w : σ 41 4 = (N : Int) := by rw [← hN]; exact hO.1
    have om := List.mem_of_getElem? hm
    rw [Board_answerAt_c18, Options_size, jbs]
    dsimp only
    rw [w, if_pos (by unfold jw; omega), t1, jbs]
    dsimp only
    refine vres_bind (ca_loses (F := F) hM h (op_rank hM hc hb om) hF) (fun σ1 f1 h1 => ?_)
    have hO1 := OL_VP hO f1
    obtain ⟨_, t2', _⟩ := ol_at (F := F) hM hO1 hm
    dsimp only
    rw [anp]
    have hx : los M (rank (tgt c o.1 o.2)) = lsf M c o := rfl
    rw [hx]
    cases hl : lsf M c o
    · simp only [Bool.false_eq_true, if_false]
      have i0 := ih fu (i + 1) n σ1 h1 hO1 hr (by omega) (by omega) (by omega)
      rw [Int.natCast_add, Int.natCast_one] at i0
      rw [if_pos (show jw 0 = 0 from rfl)]
      exact i0
    · simp only [if_true]
      rw [if_neg (show ¬ jw 1 = 0 by decide)]
      by_cases z : (n : Int) = v
      · rw [if_pos (by unfold jw; omega), if_pos z, t2', jbs]
        exact vres_ret h1
      · rw [if_neg (by unfold jw; omega), if_neg z]
        have i1 := ih fu (i + 1) (n + 1) σ1 h1 hO1 hr (by omega) (by omega) (by omega)
        rw [Int.natCast_add, Int.natCast_one, Int.natCast_add, Int.natCast_one] at i1
        exact i1
/-- the best so far: none, or which -/
def bri (l : List (Nat × Nat)) (a : Option (Nat × Nat)) (b : Int) : Prop := (a = none ∧ b = -1) ∨ ∃ (i : Nat) (o : Nat × Nat) (m : Nat), b = (i : Int) ∧ l[i]? = some o ∧ a = some (ocode o, m)
theorem cso_loop {F N : Nat} {M : Nat → List Nat} {c : Nat → Nat} (hM : MOK M) (hc : okc c) (hb : beans c ≤ 22) (hF : 5000 ≤ F) (hN : (ops M c).length = N) : ∀ (r : List (Nat × Nat)) (fu i : Nat) (a : Option (Nat × Nat)) (b : Int) (σ : jxS), CV σ M → OL σ M 41 c → (ops M c).drop i = r → r.length + i = N → r.length < fu → bri (ops M c) a b → obok a → ∃ b' : Int, bri (ops M c) (plf M c true a r) b' ∧ vres M σ (Board_soonest_c7 F fu b (match a with
      | none => 23
      | some x => (x.2 : Int)) i σ) b' := by
  intro r
  have ol : N ≤ 203 := hN ▸ ops_len hM c
  induction r with
  | nil =>
    intro fu i a b σ h hO e1 e2 e3 hbr hok
    obtain ⟨fu, rfl⟩ : ∃ k, fu = k + 1 := ⟨fu - 1, by omega⟩
    simp only [List.length_nil] at e2
    refine ⟨b, hbr, σ, ?_, jfr_refl _ _, h⟩
    have w : σ 41 4 = (N : Int) := by rw [← hN]; exact hO.1
    rw [Board_soonest_c7, Options_size, jbs]
    dsimp only
    rw [w, if_neg (by unfold jw; omega)]
  | cons o r ih =>
    intro fu i a b σ h hO e1 e2 e3 hbr hok
    obtain ⟨fu, rfl⟩ : ∃ k, fu = k + 1 := ⟨fu - 1, by omega⟩
    simp only [List.length_cons] at e2 e3
    obtain ⟨hm, hr⟩ := drop_o e1
    obtain ⟨t1, t2, _⟩ := ol_at (F := F) hM hO hm
    have w : σ 41 4 = (N : Int) := by rw [← hN]; exact hO.1
    have om := List.mem_of_getElem? hm
    have rk := op_rank hM hc hb om
    have oc := op_code hM om
    rw [plf, pls.eq_def]
    obtain ⟨σ1, a1, a2, a3⟩ := ca_loses (F := F) hM h rk hF
    have hO1 := OL_VP hO a2
    obtain ⟨σ2, b1, b2, b3⟩ := ca_remote (F := F) hM a3 rk hF
    have hO2 := OL_VP hO1 b2
    obtain ⟨σ3, c1, c2, c3⟩ := ca_remote (F := F) hM b3 rk hF
    have hO3 := OL_VP hO2 c2
    have hx : los M (rank (tgt c o.1 o.2)) = lsf M c o := rfl
    have hy : rem M (rank (tgt c o.1 o.2)) = rmf M c o := rfl
    have r22 : rmf M c o ≤ 22 := rem_22 hM _
    rw [hx] at a1
    rw [hy] at b1 c1
    cases hl : lsf M c o
    · rw [hl] at a1
      simp only [Bool.false_eq_true, if_false, Bool.not_false, Bool.and_true, if_true] at a1 ⊢
      obtain ⟨b', g1, σ4, g2, g3, g4⟩ := ih fu (i + 1) a b σ1 a3 hO1 hr (by omega) (by omega) hbr hok
      refine ⟨b', g1, σ4, ?_, jfr_trans a2 g3, g4⟩
      rw [Int.natCast_add, Int.natCast_one] at g2
      rw [← g2, Board_soonest_c7, Options_size, jbs]
      dsimp only
      rw [w, if_pos (by unfold jw; omega), t1, jbs]
      dsimp only
      rw [a1, jbs]
      dsimp only
      rw [if_pos (show jw 0 = 0 from rfl)]
    · rw [hl] at a1
      simp only [if_true, Bool.not_true, Bool.and_false, Bool.false_eq_true, if_false] at a1 ⊢
      have st : ∀ v2 : Int, 0 ≤ v2 → v2 ≤ 23 → Board_soonest_c7 F (fu + 1) b v2 i σ = if (rmf M c o : Int) < v2 then Board_soonest_c7 F fu i (rmf M c o) ((i : Int) + 1) σ3 else Board_soonest_c7 F fu b v2 ((i : Int) + 1) σ2 := fun v2 u1 u2 => by
        rw [Board_soonest_c7, Options_size, jbs]
        dsimp only
        rw [w, if_pos (by unfold jw; omega), t1, jbs]
        dsimp only
        rw [a1, jbs]
        dsimp only
        rw [if_neg (show ¬ jw 1 = 0 by decide), b1, jbs]
        dsimp only
        by_cases z : (rmf M c o : Int) < v2
        · rw [if_pos (by unfold jw; omega), if_pos z, c1, jbs]
        · rw [if_neg (by unfold jw; omega), if_neg z]
      have up : ∀ v2 : Int, 0 ≤ v2 → v2 ≤ 23 → (rmf M c o : Int) < v2 → ∃ b' : Int, bri (ops M c) (plf M c true (some (ocode o, rmf M c o)) r) b' ∧ vres M σ (Board_soonest_c7 F (fu + 1) b v2 i σ) b' := fun v2 u1 u2 u3 => by
        obtain ⟨b', g1, σ4, g2, g3, g4⟩ := ih fu (i + 1) (some (ocode o, rmf M c o)) i σ3 c3 hO3 hr (by omega) (by omega) (Or.inr ⟨i, o, _, rfl, hm, rfl⟩) (fun x hx => by injection hx with hx; subst hx; exact ⟨by show ocode o < 100000; omega, r22⟩)
        rw [Int.natCast_add, Int.natCast_one] at g2
        exact ⟨b', g1, σ4, by rw [st v2 u1 u2, if_pos u3]; exact g2, jfr_trans (jfr_trans (jfr_trans a2 b2) c2) g3, g4⟩
      cases a with
      | none => exact up 23 (by omega) (by omega) (by omega)
      | some x =>
        have hx2 := (hok x rfl).2
        by_cases z : rmf M c o < x.2
        · have z' : (if rmf M c o < x.2 then some (ocode o, rmf M c o) else some x) = some (ocode o, rmf M c o) := if_pos z
          simp only [z']
          exact up x.2 (by omega) (by omega) (by omega)
        · have z' : (if rmf M c o < x.2 then some (ocode o, rmf M c o) else some x) = some x := if_neg z
          simp only [z']
          obtain ⟨b', g1, σ4, g2, g3, g4⟩ := ih fu (i + 1) (some x) b σ2 b3 hO2 hr (by omega) (by omega) hbr hok
          rw [Int.natCast_add, Int.natCast_one] at g2
          exact ⟨b', g1, σ4, by rw [st x.2 (by omega) (by omega), if_neg (by omega)]; exact g2, jfr_trans (jfr_trans a2 b2) g3, g4⟩
theorem csl_loop {F N : Nat} {M : Nat → List Nat} {c : Nat → Nat} (hM : MOK M) (hc : okc c) (hb : beans c ≤ 22) (hF : 5000 ≤ F) (hN : (ops M c).length = N) : ∀ (r : List (Nat × Nat)) (fu i : Nat) (a : Option (Nat × Nat)) (b : Int) (σ : jxS), CV σ M → OL σ M 41 c → (ops M c).drop i = r → r.length + i = N → r.length < fu → bri (ops M c) a b → obok a → ∃ b' : Int, bri (ops M c) (plf M c false a r) b' ∧ vres M σ (Board_slowest_c6 F fu b (match a with
      | none => -1
      | some x => (x.2 : Int)) i σ) b' := by
  intro r
  have ol : N ≤ 203 := hN ▸ ops_len hM c
  induction r with
  | nil =>
    intro fu i a b σ h hO e1 e2 e3 hbr hok
    obtain ⟨fu, rfl⟩ : ∃ k, fu = k + 1 := ⟨fu - 1, by omega⟩
    simp only [List.length_nil] at e2
    refine ⟨b, hbr, σ, ?_, jfr_refl _ _, h⟩
    have w : σ 41 4 = (N : Int) := by rw [← hN]; exact hO.1
    rw [Board_slowest_c6, Options_size, jbs]
    dsimp only
    rw [w, if_neg (by unfold jw; omega)]
  | cons o r ih =>
    intro fu i a b σ h hO e1 e2 e3 hbr hok
    obtain ⟨fu, rfl⟩ : ∃ k, fu = k + 1 := ⟨fu - 1, by omega⟩
    simp only [List.length_cons] at e2 e3
    obtain ⟨hm, hr⟩ := drop_o e1
    obtain ⟨t1, t2, _⟩ := ol_at (F := F) hM hO hm
    have w : σ 41 4 = (N : Int) := by rw [← hN]; exact hO.1
    have om := List.mem_of_getElem? hm
    have rk := op_rank hM hc hb om
    have oc := op_code hM om
    rw [plf, pls.eq_def]
    obtain ⟨σ2, b1, b2, b3⟩ := ca_remote (F := F) hM h rk hF
    have hO2 := OL_VP hO b2
    obtain ⟨t1', _, _⟩ := ol_at (F := F) hM hO2 hm
    obtain ⟨σ3, c1, c2, c3⟩ := ca_remote (F := F) hM b3 rk hF
    have hO3 := OL_VP hO2 c2
    have hy : rem M (rank (tgt c o.1 o.2)) = rmf M c o := rfl
    have r22 : rmf M c o ≤ 22 := rem_22 hM _
    rw [hy] at b1 c1
    simp only [Bool.false_and, Bool.false_eq_true, if_false]
    have st : ∀ v2 : Int, -1 ≤ v2 → v2 ≤ 23 → Board_slowest_c6 F (fu + 1) b v2 i σ = if v2 < (rmf M c o : Int) then Board_slowest_c6 F fu i (rmf M c o) ((i : Int) + 1) σ3 else Board_slowest_c6 F fu b v2 ((i : Int) + 1) σ2 := fun v2 u1 u2 => by
        rw [Board_slowest_c6, Options_size, jbs]
        dsimp only
        rw [w, if_pos (by unfold jw; omega), t1, jbs]
        dsimp only
        rw [b1, jbs]
        dsimp only
        by_cases z : v2 < (rmf M c o : Int)
        · rw [if_pos (by unfold jw; omega), if_pos z, t1', jbs]
          dsimp only
          rw [c1, jbs]
        · rw [if_neg (by unfold jw; omega), if_neg z]
    have up : ∀ v2 : Int, -1 ≤ v2 → v2 ≤ 23 → v2 < (rmf M c o : Int) → ∃ b' : Int, bri (ops M c) (plf M c false (some (ocode o, rmf M c o)) r) b' ∧ vres M σ (Board_slowest_c6 F (fu + 1) b v2 i σ) b' := fun v2 u1 u2 u3 => by
        obtain ⟨b', g1, σ4, g2, g3, g4⟩ := ih fu (i + 1) (some (ocode o, rmf M c o)) i σ3 c3 hO3 hr (by omega) (by omega) (Or.inr ⟨i, o, _, rfl, hm, rfl⟩) (fun x hx => by injection hx with hx; subst hx; exact ⟨by show ocode o < 100000; omega, r22⟩)
        rw [Int.natCast_add, Int.natCast_one] at g2
        exact ⟨b', g1, σ4, by rw [st v2 u1 u2, if_pos u3]; exact g2, jfr_trans (jfr_trans b2 c2) g3, g4⟩
    cases a with
    | none => exact up (-1) (by omega) (by omega) (by omega)
    | some x =>
      have hx2 := (hok x rfl).2
      by_cases z : x.2 < rmf M c o
      · have z' : (if x.2 < rmf M c o then some (ocode o, rmf M c o) else some x) = some (ocode o, rmf M c o) := if_pos z
        simp only [z']
        exact up x.2 (by omega) (by omega) (by omega)
      · have z' : (if x.2 < rmf M c o then some (ocode o, rmf M c o) else some x) = some x := if_neg z
        simp only [z']
        obtain ⟨b', g1, σ4, g2, g3, g4⟩ := ih fu (i + 1) (some x) b σ2 b3 hO2 hr (by omega) (by omega) hbr hok
        rw [Int.natCast_add, Int.natCast_one] at g2
        exact ⟨b', g1, σ4, by rw [st x.2 (by omega) (by omega), if_neg (by omega)]; exact g2, jfr_trans b2 g3, g4⟩
/-- caches, and the board's own list -/
def VQ (a : Nat) (j : Int) : Prop := VP a j ∨ jLP 41 a j
def vqs (M : Nat → List Nat) (σ : jxS) (o : Option jxR) (x : Int) : Prop := ∃ σ', o = some (x, σ') ∧ jfr VQ σ σ' ∧ CV σ' M
theorem CV_41 {σ σ' : jxS} {M : Nat → List Nat} (h : CV σ M) (f : jfr (jLP 41) σ σ') : CV σ' M := by
  obtain ⟨h1, h2, ⟨o, o1, o2, o3⟩, ⟨g, g1, g2, g3⟩, h5⟩ := h
  refine ⟨PosOK_fr h1 f (fun a j _ _ => by simp only [jLP]; omega), RulC_fr h2 f (fun j => by simp only [jLP]; omega) (fun j => by simp only [jLP]; omega), ⟨o, ?_, o2, fun p hp => ?_⟩, ⟨g, ?_, g2, fun p hp => ?_⟩, fun p hp => ?_⟩
  · rw [f 33 7 (by simp only [jLP]; omega)]; exact o1
  · rw [f 34 _ (by simp only [jLP]; omega)]; exact o3 p hp
  · rw [f 33 8 (by simp only [jLP]; omega)]; exact g1
  · rw [f 35 _ (by simp only [jLP]; omega)]; exact g3 p hp
  · rw [f 37 _ (by simp only [jLP]; omega)]; exact h5 p hp
theorem ca_list41 {F : Nat} {σ : jxS} {M : Nat → List Nat} {c : Nat → Nat} (hM : MOK M) (h : CV σ M) (hc : okc c) (hb : beans c ≤ 22) (hF : 1000 ≤ F) : ∃ σ', Options_list F 41 σ (rank c) = some (0, σ') ∧ jfr (jLP 41) σ σ' ∧ CV σ' M ∧ OL σ' M 41 c := by
  obtain ⟨σ', a1, a2, a3, a4, a5⟩ := ca_list (F := F) (o := 41) (Or.inr rfl) h.1 h.2.1 hM hc hb hF
  exact ⟨σ', a1, a2, CV_41 h a2, a3, a4, a5⟩
theorem ck_answers {F : Nat} {σ : jxS} {M : Nat → List Nat} {c : Nat → Nat} {v : Int} (hM : MOK M) (h : CV σ M) (hh : σ 29 2 = (rank c : Int)) (hc : okc c) (hb : beans c ≤ 22) (hF : 5000 ≤ F) (hv : -2147483648 ≤ v) (hv2 : v ≤ 2147483647) : vqs M σ (LL1_answers F σ v) (if v < -1 then -1 else anp M c v 0 (ops M c)) := by
  have ol := ops_len hM c
  by_cases z : v < -1
  · rw [if_pos z]
    refine ⟨σ, ?_, jfr_refl _ _, h⟩
    simp (disch := omega) only [LL1_answers, ↓reduceIte, jw_id, jlt_T, jlt_F, jle_T, jle_F, jeq_T, jeq_F, and_self, and_true, true_and, and_false, false_and, or_true, true_or, or_false, false_or, not_true_eq_false, not_false_eq_true, jbs, jup_s, jup_k, jup_o]
  · rw [if_neg z]
    obtain ⟨σ1, a1, a2, a3, a4⟩ := ca_list41 (F := F) hM h hc hb (by omega)
    obtain ⟨σ2, b1, b2, b3⟩ := can_loop (F := F) (v := v) hM hc hb hF rfl (by omega) hv2 (ops M c) F 0 0 σ1 a3 a4 rfl (Nat.add_zero _) (Nat.lt_of_le_of_lt ol (by omega)) (Nat.le_refl _)
    refine ⟨σ2, ?_, jfr_trans (jfr_mono a2 (fun a j h => Or.inr h)) (jfr_mono b2 (fun a j h => Or.inl h)), b3⟩
    have b1' : Board_answerAt_c18 F F v 0 0 σ1 = some (anp M c v 0 (ops M c), σ2) := b1
    rw [LL1_answers, if_neg (by unfold jw; omega), Board_answerAt, Hand_position, jbs]
    dsimp only
    rw [hh, a1, jbs]
    dsimp only
    rw [b1', jbs]
