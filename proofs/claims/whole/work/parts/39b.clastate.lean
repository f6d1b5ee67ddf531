/-! The class: what a position's state is. -/
def RulL (σ : jxS) (M : Nat → List Nat) : Prop := ∀ h : Nat, 1 ≤ h → h ≤ 12 → σ 17 h = (hle M h : Int) ∧ σ 18 h = (hmo M h : Int)
noncomputable def smh (M : Nat → List Nat) (c : Nat → Nat) : Bool := (dh c).all (fun h => decide (nim M h < 2))
noncomputable def lkn (M : Nat → List Nat) (c : Nat → Nat) : Bool := los M (rank c) == decide (nimc M c = if smh M c then 1 else 0)
noncomputable def tam (M : Nat → List Nat) (c : Nat → Nat) : Bool := decide (bk M (rank c) 5 = nimc M c ∧ bk M (rank c) 3 = nimc M c ^^^ 2 ∧ (bk M (rank c) 0 = nimc M c ∨ (nimc M c < 2 ∧ bk M (rank c) 0 = 1 - nimc M c)))
theorem vres_bind {M : Nat → List Nat} {σ : jxS} {o : Option jxR} {x y : Int} {k : jxR → Option jxR} (h : vres M σ o x) (hk : ∀ σ', jfr VP σ σ' → CV σ' M → vres M σ' (k (x, σ')) y) : vres M σ (o.bind k) y := by
  obtain ⟨σ', h1, h2, h3⟩ := h
  obtain ⟨σ'', g1, g2, g3⟩ := hk σ' h2 h3
  exact ⟨σ'', by rw [h1, jbs]; exact g1, jfr_trans h2 g2, g3⟩
theorem vres_ret {M : Nat → List Nat} {σ : jxS} {x : Int} (h : CV σ M) : vres M σ (some (x, σ)) x := ⟨σ, rfl, jfr_refl _ _, h⟩
theorem RulN_VP {σ σ' : jxS} {M : Nat → List Nat} (h : RulN σ M) (f : jfr VP σ σ') : RulN σ' M := fun g g1 g2 => by rw [f 16 _ (by simp [VP])]; exact h g g1 g2
theorem RulL_VP {σ σ' : jxS} {M : Nat → List Nat} (h : RulL σ M) (f : jfr VP σ σ') : RulL σ' M := fun g g1 g2 => by rw [f 17 _ (by simp [VP]), f 18 _ (by simp [VP])]; exact h g g1 g2
theorem ct_fin {σ : jxS} {n a b d x : Nat} (hn : n < 2 ^ 4) (ha : a ≤ 27) (hb : b ≤ 27) (hd : d ≤ 27) (hx : x < 2 ^ 4) : (if jw (d : Int) = jw (n : Int) then if jw (b : Int) = jw (x : Int) then if jw (a : Int) = jw (n : Int) then some ((1 : Int), σ) else if jw (n : Int) < 2 then if jw (a : Int) = jw (1 - (n : Int)) then some (1, σ) else some (0, σ) else some (0, σ) else some (0, σ) else some (0, σ)) = some (if d = n ∧ b = x ∧ (a = n ∨ (n < 2 ∧ a = 1 - n)) then 1 else 0, σ) := by
  have e1 : (jw (d : Int) = jw (n : Int)) = (d = n) := propext (by unfold jw; omega)
  have e2 : (jw (b : Int) = jw (x : Int)) = (b = x) := propext (by unfold jw; omega)
  have e3 : (jw (a : Int) = jw (n : Int)) = (a = n) := propext (by unfold jw; omega)
  have e4 : (jw (n : Int) < 2) = (n < 2) := propext (by unfold jw; omega)
  by_cases h1 : d = n
  · by_cases h2 : b = x
    · by_cases h3 : a = n
      · simp only [e1, e2, e3, h1, h2, h3, if_true, true_and, true_or]
      · by_cases h4 : n < 2
        · have e5 : (jw (a : Int) = jw (1 - (n : Int))) = (a = 1 - n) := propext (by unfold jw; omega)
          by_cases h5 : a = 1 - n
          · simp only [e1, e2, e3, e4, e5, h1, h2, if_neg h3, if_pos h4, if_pos h5, if_true]
            rw [if_pos ⟨trivial, trivial, Or.inr ⟨h4, h5⟩⟩]
          · simp only [e1, e2, e3, e4, e5, h1, h2, if_neg h3, if_pos h4, if_neg h5, if_true]
            rw [if_neg (fun q => by rcases q.2.2 with w | w; exact h3 w; exact h5 w.2)]
        · simp only [e1, e2, e3, e4, h1, h2, if_neg h3, if_neg h4, if_true]
          rw [if_neg (fun q => by rcases q.2.2 with w | w; exact h3 w; exact h4 w.1)]
    · simp only [e1, e2, h1, if_neg h2, if_true]
      rw [if_neg (fun q => h2 q.2.1)]
  · simp only [e1, if_neg h1]
    rw [if_neg (fun q => h1 q.1)]
theorem ca_tame {F : Nat} {σ : jxS} {M : Nat → List Nat} {c : Nat → Nat} (hM : MOK M) (h : CV σ M) (hN : RulN σ M) (hc : okc c) (hb : beans c ≤ 22) (hF : 5000 ≤ F) : vres M σ (Values_isTame F σ (rank c)) (if tam M c then 1 else 0) := by
  have rt := rank_top hb
  unfold Values_isTame
  refine vres_bind (x := (nimc M c : Int)) ⟨σ, ca_nim hM h.1 hN hc hb (by omega), jfr_refl _ _, h⟩ (fun σ1 f1 h1 => ?_)
  refine vres_bind (ca_genus (F := F) (k := 0) hM h1 rt (by omega) hF) (fun σ2 f2 h2 => ?_)
  refine vres_bind (ca_genus (F := F) (k := 1) hM h2 rt (by omega) hF) (fun σ3 f3 h3 => ?_)
  refine vres_bind (ca_genus (F := F) (k := 2) hM h3 rt (by omega) hF) (fun σ4 f4 h4 => ?_)
  refine ⟨σ4, ?_, jfr_refl _ _, h4⟩
  have n4 := nimc_lt hM c
  have x4 : nimc M c ^^^ 2 < 2 ^ 4 := Nat.xor_lt_two_pow n4 (by decide)
  have x := bq_xor (a := nimc M c) (b := 2) (Nat.lt_of_lt_of_le x4 (by decide))
  have x' : jxor (nimc M c : Int) 2 = ((nimc M c ^^^ 2 : Nat) : Int) := x
  have fin := ct_fin (σ := σ4) n4 (bk_27 hM (rank c) (t := 0) (by decide)) (bk_27 hM (rank c) (t := 3) (by decide)) (bk_27 hM (rank c) (t := 5) (by decide)) x4
  dsimp only
  rw [x']
  refine Eq.trans fin ?_
  unfold tam
  simp only [decide_eq_true_eq]
theorem jand01 : jand 1 1 = 1 ∧ jand 1 0 = 0 ∧ jand 0 1 = 0 ∧ jand 0 0 = 0 := by decide +kernel
theorem ca_like_c {F b L : Nat} {p : Int} {σ : jxS} {M : Nat → List Nat} {l : List Nat} (hM : MOK M) (hN : RulN σ M) (hL : L = l.length) (hbL : b + L ≤ 14202) (hE : Positions_endPart F σ p = some (((b + L : Nat) : Int), σ)) (hH : ∀ j g : Nat, l[j]? = some g → (1 ≤ g ∧ g ≤ 12) ∧ Positions_heapOf F σ ((b + j : Nat) : Int) = some ((g : Int), σ)) : ∀ (n fu j : Nat) (w : Bool), n + j = L → n < fu → ∃ g, Values_isLikeNim_c11 F fu p (if w then 1 else 0) ((b + j : Nat) : Int) σ = Values_isLikeNim_c11 F (g + 1) p (if w && (l.drop j).all (fun h => decide (nim M h < 2)) then 1 else 0) ((b + L : Nat) : Int) σ := by
  intro n
  induction n with
  | zero =>
    intro fu j w h1 h2
    obtain ⟨fu, rfl⟩ : ∃ k, fu = k + 1 := ⟨fu - 1, by omega⟩
    refine ⟨fu, ?_⟩
    have hj : j = L := by omega
    rw [hj, hL, List.drop_length, List.all_nil, Bool.and_true]
  | succ n ih =>
    intro fu j w h1 h2
    obtain ⟨fu, rfl⟩ : ∃ k, fu = k + 1 := ⟨fu - 1, by omega⟩
    obtain ⟨g, hg⟩ : ∃ g, l[j]? = some g := ⟨_, List.getElem?_eq_getElem (by omega)⟩
    obtain ⟨⟨g1, g2⟩, p1⟩ := hH j g hg
    have nl := nim_le hM g g2
    have nh := ca_nimh (F := F) hN g1 g2
    have dr : l.drop j = g :: l.drop (j + 1) := by
      obtain ⟨q1, q2⟩ := List.getElem?_eq_some_iff.mp hg
      rw [← q2]
      exact List.drop_eq_getElem_cons q1
    obtain ⟨k, hk⟩ := ih fu (j + 1) (w && decide (nim M g < 2)) (by omega) (by omega)
    refine ⟨k, ?_⟩
    rw [dr, List.all_cons, ← Bool.and_assoc, ← hk]
    rw [show ((b + (j + 1) : Nat) : Int) = ((b + j : Nat) : Int) + 1 by omega]
    rw [Values_isLikeNim_c11, hE, jbs]
    dsimp only
    rw [if_pos (by unfold jw; omega), p1, jbs]
    dsimp only
    rw [nh, jbs]
    dsimp only
    by_cases q : nim M g < 2
    · rw [if_pos (by unfold jw; omega), decide_eq_true q, Bool.and_true]
      cases w <;> simp only [Bool.false_eq_true, if_false, if_true, jand01]
    · rw [if_neg (by unfold jw; omega), decide_eq_false q, Bool.and_false]
      cases w <;> simp only [Bool.false_eq_true, if_false, if_true, jand01]
theorem cl_fin {F : Nat} {σ : jxS} {n : Nat} {l s : Bool} (hn : n < 2 ^ 4) : (if jw (if s then 1 else 0) = 0 then Values_isLikeNim_c75 F 0 (n : Int) (if l then 1 else 0) σ else Values_isLikeNim_c75 F 1 (n : Int) (if l then 1 else 0) σ) = some (if (l == decide (n = if s then 1 else 0)) then 1 else 0, σ) := by
  have e0 : (jw (n : Int) = jw 0) = (n = 0) := propext (by unfold jw; omega)
  have e1 : (jw (n : Int) = jw 1) = (n = 1) := propext (by unfold jw; omega)
  have d0 : jw 0 = 0 := rfl
  have d1 : ¬ jw 1 = 0 := by decide
  cases s
  · simp only [Bool.false_eq_true, if_false]
    rw [if_pos d0, Values_isLikeNim_c75]
    by_cases h : n = 0
    · simp only [e0, if_pos h, decide_eq_true h, Values_isLikeNim_c83]
      cases l <;> simp <;> decide
    · simp only [e0, if_neg h, decide_eq_false h, Values_isLikeNim_c83]
      cases l <;> simp <;> decide
  · simp only [if_true]
    rw [if_neg d1, Values_isLikeNim_c75]
    by_cases h : n = 1
    · simp only [e1, if_pos h, decide_eq_true h, Values_isLikeNim_c83]
      cases l <;> simp <;> decide
    · simp only [e1, if_neg h, decide_eq_false h, Values_isLikeNim_c83]
      cases l <;> simp <;> decide
theorem ca_like {F : Nat} {σ : jxS} {M : Nat → List Nat} {c : Nat → Nat} (hM : MOK M) (h : CV σ M) (hN : RulN σ M) (hc : okc c) (hb : beans c ≤ 22) (hF : 5000 ≤ F) : vres M σ (Values_isLikeNim F σ (rank c)) (if lkn M c then 1 else 0) := by
  have rt := rank_top hb
  have hl := dh_len c
  have eE := po_end (F := F) h.1 hc hb
  obtain ⟨g, lo⟩ := ca_like_c (F := F) (p := rank c) (b := ps (rank c)) (L := (dh c).length) (l := dh c) hM hN rfl (ps_all h.1 hc hb) eE (fun j g hg => ⟨(dh_mem.mp (List.mem_of_getElem? hg)).1, (po_heap h.1 hc hb hg).1⟩) (dh c).length F 0 true (Nat.add_zero _) (Nat.lt_of_le_of_lt hl (by omega))
  have st : Values_isLikeNim F σ (rank c) = Values_isLikeNim_c11 F (g + 1) (rank c) (if smh M c then 1 else 0) ((ps (rank c) + (dh c).length : Nat) : Int) σ := by
    rw [Values_isLikeNim, po_first h.1 hb, jbs]
    rw [show ps (rank c) + 0 = ps (rank c) from Nat.add_zero _, Bool.true_and, List.drop_zero] at lo
    exact lo
  rw [st, Values_isLikeNim_c11, eE, jbs]
  dsimp only
  rw [if_neg (Int.lt_irrefl _)]
  refine vres_bind (ca_loses hM h rt hF) (fun σ1 f1 h1 => ?_)
  dsimp only
  rw [ca_nim hM h1.1 (RulN_VP hN f1) hc hb (by omega), jbs]
  dsimp only
  refine ⟨σ1, ?_, jfr_refl _ _, h1⟩
  have fin := cl_fin (F := F) (σ := σ1) (l := los M (rank c)) (s := smh M c) (nimc_lt hM c)
  exact fin
theorem cs_step {F fu : Nat} {σ : jxS} {v2 acc l i pf h n r : Int} (hi : i < 22) (hi0 : 0 ≤ i) (hl : 0 < l) (hl2 : l < 4224) (p1 : Positions_firstPart F σ l = some (pf, σ)) (p2 : Positions_heapOf F σ pf = some (h, σ)) (p3 : Positions_restOf F σ pf = some (r, σ)) (hv : v2 = 0 ∨ v2 = 1) (pn : v2 = 0 → Rules_mostOf F σ h = some (n, σ)) (pm : v2 = 1 → Rules_leastOf F σ h = some (n, σ)) : Values_lengthOf_c8 F (fu + 1) v2 acc l i σ = Values_lengthOf_c8 F fu v2 (acc + n) r (i + 1) σ := by
  rcases hv with e | e
  · have pn := pn e
    subst e
    simp (disch := omega) only [Values_lengthOf_c8, Values_lengthOf_c68, p1, p2, pn, p3, ↓reduceIte, jw_id, jlt_T, jlt_F, jle_T, jle_F, jeq_T, jeq_F, and_self, and_true, true_and, and_false, false_and, or_true, true_or, or_false, false_or, not_true_eq_false, not_false_eq_true, jbs, jup_s, jup_k, jup_o]
  · have pm := pm e
    subst e
    simp (disch := omega) only [Values_lengthOf_c8, Values_lengthOf_c68, p1, p2, pm, p3, ↓reduceIte, jw_id, jlt_T, jlt_F, jle_T, jle_F, jeq_T, jeq_F, and_self, and_true, true_and, and_false, false_and, or_true, true_or, or_false, false_or, not_true_eq_false, not_false_eq_true, jbs, jup_s, jup_k, jup_o]
theorem cs_stop {F fu : Nat} {σ : jxS} {v2 acc i : Int} (hi : i ≤ 22) (hi0 : 0 ≤ i) : Values_lengthOf_c8 F (fu + 1) v2 acc 0 i σ = some (acc, σ) := by
  by_cases q : i < 22
  · simp (disch := omega) only [Values_lengthOf_c8, ↓reduceIte, jw_id, jlt_T, jlt_F, jle_T, jle_F, jeq_T, jeq_F, and_self, and_true, true_and, and_false, false_and, or_true, true_or, or_false, false_or, not_true_eq_false, not_false_eq_true, jbs, jup_s, jup_k, jup_o]
  · simp (disch := omega) only [Values_lengthOf_c8, ↓reduceIte, jw_id, jlt_T, jlt_F, jle_T, jle_F, jeq_T, jeq_F, and_self, and_true, true_and, and_false, false_and, or_true, true_or, or_false, false_or, not_true_eq_false, not_false_eq_true, jbs, jup_s, jup_k, jup_o]
theorem lsc_00 (f : Nat → Nat) : lsc f (fun _ => 0) = 0 := by rw [lsc_eq]; exact lsm_zero (fun x _ _ q => absurd q (Nat.lt_irrefl 0)) 12 (Nat.le_refl _)
theorem ca_len_c {F : Nat} {σ : jxS} {M : Nat → List Nat} {v2 : Int} {f : Nat → Nat} (hP : PosOK σ) (hv : v2 = 0 ∨ v2 = 1) (pn : ∀ h : Nat, 1 ≤ h → h ≤ 12 → v2 = 0 → Rules_mostOf F σ h = some ((f h : Int), σ)) (pm : ∀ h : Nat, 1 ≤ h → h ≤ 12 → v2 = 1 → Rules_leastOf F σ h = some ((f h : Int), σ)) : ∀ (n fu : Nat) (c : Nat → Nat) (acc : Int) (i : Nat), okc c → beans c ≤ n → i + beans c ≤ 22 → n < fu → Values_lengthOf_c8 F fu v2 acc (rank c) i σ = some (acc + (lsc f c : Int), σ) := by
  intro n
  induction n with
  | zero =>
    intro fu c acc i hc hb hi hf
    obtain ⟨fu, rfl⟩ : ∃ k, fu = k + 1 := ⟨fu - 1, by omega⟩
    have i2 : (i : Int) ≤ 22 := by omega
    have hz : beans c = 0 := by omega
    rw [rank_0 hc hz, rank_00, lsc_00, Int.natCast_zero, Int.add_zero]
    exact cs_stop i2 (Int.natCast_nonneg i)
  | succ n ih =>
    intro fu c acc i hc hb hi hf
    obtain ⟨fu, rfl⟩ : ∃ k, fu = k + 1 := ⟨fu - 1, by omega⟩
    have i2 : (i : Int) ≤ 22 := by omega
    by_cases hz : beans c = 0
    · rw [rank_0 hc hz, rank_00, lsc_00, Int.natCast_zero, Int.add_zero]
      exact cs_stop i2 (Int.natCast_nonneg i)
    · obtain ⟨h, ⟨h1, h2⟩, h3, h4, p1, p2, p3⟩ := ca_peel (F := F) hP hc (by omega) (by omega)
      have b := beans_csb h1 h2 h3
      have rp := rank_pos.mpr (show 0 < beans c by omega)
      have rt := rank_top (c := c) (by omega)
      have st := cs_step (F := F) (fu := fu) (v2 := v2) (acc := acc) (i := i) (by omega) (by omega) (by omega) (by omega) p1 p2 p3 hv (pn h h1 h2) (pm h h1 h2)
      have i1 := ih fu (csb c h) (acc + f h) (i + 1) (okc_csb hc) (by omega) (by omega) (by omega)
      rw [Int.natCast_add, Int.natCast_one] at i1
      have s := lsc_csb (f := f) h1 h2 h3
      rw [st, i1, show acc + (f h : Int) + (lsc f (csb c h) : Int) = acc + (lsc f c : Int) by omega]
theorem ca_most {F h : Nat} {σ : jxS} {M : Nat → List Nat} (hL : RulL σ M) (h1 : 1 ≤ h) (h2 : h ≤ 12) : Rules_mostOf F σ h = some ((hmo M h : Int), σ) := by
  have w := (hL h h1 h2).2
  simp (disch := omega) only [Rules_mostOf, LL_isHeap, w, ↓reduceIte, jw_id, jlt_T, jlt_F, jle_T, jle_F, jeq_T, jeq_F, and_self, and_true, true_and, and_false, false_and, or_true, true_or, or_false, false_or, not_true_eq_false, not_false_eq_true, jbs, jup_s, jup_k, jup_o]
theorem ca_leasth {F h : Nat} {σ : jxS} {M : Nat → List Nat} (hL : RulL σ M) (h1 : 1 ≤ h) (h2 : h ≤ 12) : Rules_leastOf F σ h = some ((hle M h : Int), σ) := by
  have w := (hL h h1 h2).1
  simp (disch := omega) only [Rules_leastOf, LL_isHeap, w, ↓reduceIte, jw_id, jlt_T, jlt_F, jle_T, jle_F, jeq_T, jeq_F, and_self, and_true, true_and, and_false, false_and, or_true, true_or, or_false, false_or, not_true_eq_false, not_false_eq_true, jbs, jup_s, jup_k, jup_o]
theorem ca_len {F : Nat} {σ : jxS} {M : Nat → List Nat} {c : Nat → Nat} (hM : MOK M) (hP : PosOK σ) (hL : RulL σ M) (hc : okc c) (hb : beans c ≤ 22) (hF : 100 ≤ F) : Values_lengthOf F σ (rank c) 1 = some ((fw M (rank c) : Int), σ) ∧ Values_lengthOf F σ (rank c) 0 = some ((ms M (rank c) : Int), σ) := by
  obtain ⟨s1, s2⟩ := fwms_sum hM 22 c hc hb hb
  constructor
  · have := ca_len_c (F := F) (M := M) (v2 := 1) (f := hle M) hP (Or.inr rfl) (fun _ _ _ q => absurd q (by decide)) (fun h h1 h2 _ => ca_leasth hL h1 h2) 22 F c 0 0 hc hb (by omega) (by omega)
    rw [← s1, Int.zero_add] at this
    exact this
  · have := ca_len_c (F := F) (M := M) (v2 := 0) (f := hmo M) hP (Or.inl rfl) (fun h h1 h2 _ => ca_most hL h1 h2) (fun _ _ _ q => absurd q (by decide)) 22 F c 0 0 hc hb (by omega) (by omega)
    rw [← s2, Int.zero_add] at this
    exact this
