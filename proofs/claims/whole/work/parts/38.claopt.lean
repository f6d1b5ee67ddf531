/-! The class: the moves of a position listed. -/
noncomputable def mst0 (M : Nat → List Nat) (h : Nat) : Nat := match h with
  | 0 => 0
  | 1 => 0
  | h + 2 => mst0 M (h + 1) + (M (h + 1)).length
noncomputable def mst (M : Nat → List Nat) (h : Nat) : Nat := jseal (mst0 M h)
theorem mst_1 (M : Nat → List Nat) : mst M 1 = 0 := by rw [mst, jseal_eq]; rfl
theorem mst_s (M : Nat → List Nat) {h : Nat} (h1 : 1 ≤ h) : mst M (h + 1) = mst M h + (M h).length := by
  rw [mst, mst, jseal_eq, jseal_eq]
  match h, h1 with
  | h + 1, _ => rfl
theorem mst_mono (M : Nat → List Nat) {a b : Nat} (h1 : 1 ≤ a) (h : a ≤ b) : mst M a ≤ mst M b := by
  induction b with
  | zero => omega
  | succ b ih =>
    by_cases e : a = b + 1
    · rw [e]; exact Nat.le_refl _
    · rw [mst_s M (by omega)]
      exact Nat.le_trans (ih (by omega)) (Nat.le_add_right _ _)
theorem mst_203 {M : Nat → List Nat} (hM : MOK M) : mst M 13 ≤ 203 := by
  have key : ∀ h, 1 ≤ h → h ≤ 13 → mst M h ≤ 203 - mms (13 - h) := by
    intro h h1
    induction h with
    | zero => omega
    | succ h ih =>
      intro h2
      by_cases e : h = 0
      · subst e; rw [mst_1]; omega
      · have i := ih (by omega) (by omega)
        have a := (hM h (by omega) (by omega)).1
        rw [mst_s M (by omega)]
        have m : ∀ h, h ≤ 12 → 1 ≤ h → mms (13 - h) = mmx.getD h 0 + mms (13 - (h + 1)) ∧ mms (13 - h) ≤ 203 := by decide
        have := m h (by omega) (by omega)
        omega
  have := key 13 (by omega) (by omega)
  exact Nat.le_trans this (Nat.sub_le _ _)
def RulC (σ : jxS) (M : Nat → List Nat) : Prop := (∀ h : Nat, 1 ≤ h → h ≤ 13 → σ 14 h = (mst M h : Int)) ∧ ∀ h k m : Nat, 1 ≤ h → h ≤ 12 → (M h)[k]? = some m → σ 15 ((mst M h + k : Nat) : Int) = (m : Int)
theorem RulC_fr {σ σ' : jxS} {P : Nat → Int → Prop} {M : Nat → List Nat} (h : RulC σ M) (f : jfr P σ σ') (h1 : ∀ j, ¬ P 14 j) (h2 : ∀ j, ¬ P 15 j) : RulC σ' M := ⟨fun g g1 g2 => by rw [f 14 _ (h1 _)]; exact h.1 g g1 g2, fun g k m g1 g2 hm => by rw [f 15 _ (h2 _)]; exact h.2 g k m g1 g2 hm⟩
theorem PosOK_fr {σ σ' : jxS} {P : Nat → Int → Prop} (h : PosOK σ) (f : jfr P σ σ') (hp : ∀ a j, 24 ≤ a → a ≤ 28 → ¬ P a j) : PosOK σ' := by
  obtain ⟨h1, h2, h3, h4, h5, h6⟩ := h
  refine ⟨fun b hb => ?_, fun g g1 g2 => ?_, fun g c g1 g2 g3 g4 => ?_, fun p hp' => ?_, fun c c1 c2 j g hg => ?_, h6⟩
  · rw [f 24 _ (hp _ _ (by omega) (by omega))]; exact h1 b hb
  · rw [f 25 _ (hp _ _ (by omega) (by omega))]; exact h2 g g1 g2
  · rw [f 26 _ (hp _ _ (by omega) (by omega))]; exact h3 g c g1 g2 g3 g4
  · rw [f 27 _ (hp _ _ (by omega) (by omega))]; exact h4 p hp'
  · rw [f 28 _ (hp _ _ (by omega) (by omega))]; exact h5 c c1 c2 j g hg
theorem ca_first {F : Nat} {σ : jxS} {M : Nat → List Nat} (hR : RulC σ M) (hM : MOK M) {h : Nat} (h1 : 1 ≤ h) (h2 : h ≤ 13) : Rules_firstMove F σ h = some ((mst M h : Int), σ) := by
  have w := hR.1 h h1 h2
  simp (disch := omega) only [Rules_firstMove, w, ↓reduceIte, jw_id, jlt_T, jlt_F, jle_T, jle_F, jeq_T, jeq_F, and_self, and_true, true_and, and_false, false_and, or_true, true_or, or_false, false_or, not_true_eq_false, not_false_eq_true, jbs, jup_s, jup_k, jup_o]
theorem ca_packed {F : Nat} {σ : jxS} {i m : Int} (h1 : 0 ≤ i) (h2 : i < 203) (w : σ 15 i = m) : Rules_packedAt F σ i = some (m, σ) := by
  simp (disch := omega) only [Rules_packedAt, w, ↓reduceIte, jw_id, jlt_T, jlt_F, jle_T, jle_F, jeq_T, jeq_F, and_self, and_true, true_and, and_false, false_and, or_true, true_or, or_false, false_or, not_true_eq_false, not_false_eq_true, jbs, jup_s, jup_k, jup_o]
def jLP (o a : Nat) (j : Int) : Prop := (a = o ∧ j = 4) ∨ a = o + 1 ∨ a = o + 2
noncomputable def opsl (M : Nat → List Nat) (l : List Nat) : List (Nat × Nat) := l.flatMap (fun h => (M h).map (fun m => (h, m)))
theorem ops_opsl (M : Nat → List Nat) (c : Nat → Nat) : opsl M (dh c) = ops M c := (ops_eq M c).symm
theorem opsl_cons (M : Nat → List Nat) (h : Nat) (l : List Nat) : opsl M (h :: l) = (M h).map (fun m => (h, m)) ++ opsl M l := by rw [opsl, List.flatMap_cons]; rfl
def ocode (o : Nat × Nat) : Nat := 1000 * o.1 + o.2
/-- one move more -/
theorem cl_step {F o fu : Nat} {k23 : Int → Int → jxS → Option jxR} {σ : jxS} {v2 v3 h rs e i n m q : Int} (ho : o = 38 ∨ o = 41) (hi : i < e) (hi0 : 0 ≤ i) (he : e ≤ 203) (wn : σ o 4 = n) (hn : 0 ≤ n) (hn2 : n < 203) (hp : Rules_packedAt F σ i = some (m, σ)) (hj : Positions_joinMove F σ rs m = some (q, σ)) : Options_list_c72 F o k23 (fu + 1) v2 v3 h rs e i σ = Options_list_c72 F o k23 fu v2 v3 h rs e (i + 1) (jup (jup (jup σ (o + 1) n q) (o + 2) n (1000 * h + m)) o 4 (n + 1)) := by
  rcases ho with rfl | rfl
  · simp (disch := omega) only [Options_list_c72, wn, hp, hj, ↓reduceIte, jw_id, jlt_T, jlt_F, jle_T, jle_F, jeq_T, jeq_F, and_self, and_true, true_and, and_false, false_and, or_true, true_or, or_false, false_or, not_true_eq_false, not_false_eq_true, jbs, jup_s, jup_k, jup_o]
  · simp (disch := omega) only [Options_list_c72, wn, hp, hj, ↓reduceIte, jw_id, jlt_T, jlt_F, jle_T, jle_F, jeq_T, jeq_F, and_self, and_true, true_and, and_false, false_and, or_true, true_or, or_false, false_or, not_true_eq_false, not_false_eq_true, jbs, jup_s, jup_k, jup_o]
theorem cl_stop {F o fu : Nat} {k23 : Int → Int → jxS → Option jxR} {σ : jxS} {v2 v3 h rs e i : Int} (hi : ¬ i < e) (hi0 : 0 ≤ i) (hi2 : i ≤ 203) (he : e ≤ 203) (he0 : 0 ≤ e) : Options_list_c72 F o k23 (fu + 1) v2 v3 h rs e i σ = k23 v2 (v3 + 1) σ := by
  simp (disch := omega) only [Options_list_c72, ↓reduceIte, jw_id, jlt_T, jlt_F, jle_T, jle_F, jeq_T, jeq_F, and_self, and_true, true_and, and_false, false_and, or_true, true_or, or_false, false_or, not_true_eq_false, not_false_eq_true, jbs, jup_s, jup_k, jup_o]
theorem ca_mv {F : Nat} {σ : jxS} (hP : PosOK σ) {c : Nat → Nat} {h m : Nat} (hc : okc c) (hb : beans c ≤ 22) (h1 : 1 ≤ h) (h2 : h ≤ 12) (hp : 0 < c h) (hm : m / 13 + m % 13 < h) : Positions_joinMove F σ (rank (csb c h)) m = some ((rank (tgt c h m) : Int), σ) := by
  have b := beans_csb h1 h2 hp
  have := po_move (F := F) hP (c := csb c h) (a := m / 13) (b := m % 13) (okc_csb hc) (by omega) (by omega) (by omega)
  rw [show 13 * (m / 13) + m % 13 = m by omega] at this
  exact this
theorem cl_in {F o : Nat} {k23 : Int → Int → jxS → Option jxR} {σ0 : jxS} {M : Nat → List Nat} {c : Nat → Nat} {h : Nat} {v2 v3 : Int} (ho : o = 38 ∨ o = 41) (hP : PosOK σ0) (hR : RulC σ0 M) (hM : MOK M) (hc : okc c) (hb : beans c ≤ 22) (h1 : 1 ≤ h) (h2 : h ≤ 12) (hp : 0 < c h) : ∀ (r : List Nat) (fu k n : Nat) (σ : jxS), jfr (jLP o) σ0 σ → (M h).drop k = r → r.length + k = (M h).length → σ o 4 = (n : Int) → n + r.length ≤ 203 → r.length < fu → ∃ σ', Options_list_c72 F o k23 fu v2 v3 h (rank (csb c h)) (mst M (h + 1)) ((mst M h + k : Nat) : Int) σ = k23 v2 (v3 + 1) σ' ∧ jfr (jLP o) σ0 σ' ∧ σ' o 4 = ((n + r.length : Nat) : Int) ∧ (∀ i : Nat, i < n → σ' (o + 1) i = σ (o + 1) i ∧ σ' (o + 2) i = σ (o + 2) i) ∧ rowL σ' (o + 1) n (r.map (fun m => rank (tgt c h m))) ∧ rowL σ' (o + 2) n (r.map (fun m => ocode (h, m))) := by
  have q1 := mst_s M h1
  have q2 := mst_mono M (a := h + 1) (b := 13) (by omega) (by omega)
  have q3 := mst_203 hM
  intro r
  induction r with
  | nil =>
    intro fu k n σ f e1 e2 e3 e4 e5
    obtain ⟨fu, rfl⟩ : ∃ k, fu = k + 1 := ⟨fu - 1, by omega⟩
    simp only [List.length_nil] at e2
    refine ⟨σ, cl_stop (by omega) (by omega) (by omega) (by omega) (by omega), f, by rw [e3]; rfl, fun _ _ => ⟨rfl, rfl⟩, rowL_nil _ _ _, rowL_nil _ _ _⟩
  | cons m r ih =>
    intro fu k n σ f e1 e2 e3 e4 e5
    obtain ⟨fu, rfl⟩ : ∃ k, fu = k + 1 := ⟨fu - 1, by omega⟩
    simp only [List.length_cons] at e2 e4 e5
    have hm : (M h)[k]? = some m := by
      have : ((M h).drop k)[0]? = some m := by rw [e1]; rfl
      rwa [List.getElem?_drop, Nat.add_zero] at this
    have hmo := (hM h h1 h2).2 m (List.mem_of_getElem? hm)
    have hR' : RulC σ M := RulC_fr hR f (fun j => by simp only [jLP]; omega) (fun j => by simp only [jLP]; omega)
    have hP' : PosOK σ := PosOK_fr hP f (fun a j _ _ => by simp only [jLP]; omega)
    have w := hR'.2 h k m h1 h2 hm
    have p1 := ca_packed (F := F) (by omega) (by omega) w
    have p2 := ca_mv (F := F) hP' (m := m) hc hb h1 h2 hp (by omega)
    have e1' : (M h).drop (k + 1) = r := by
      have : ((M h).drop k).drop 1 = r := by rw [e1]; rfl
      rwa [List.drop_drop] at this
    have st := cl_step (F := F) (o := o) (fu := fu) (k23 := k23) (v2 := v2) (v3 := v3) (h := h) (e := mst M (h + 1)) ho (by omega) (by omega) (by omega) e3 (by omega) (by omega) p1 p2
    obtain ⟨σ', i1, i2, i3, i4, i5, i6⟩ := ih fu (k + 1) (n + 1) (jup (jup (jup σ (o + 1) n (rank (tgt c h m))) (o + 2) n (1000 * h + m)) o 4 (n + 1)) (jfr_up (jfr_up (jfr_up f (Or.inr (Or.inl rfl))) (Or.inr (Or.inr rfl))) (Or.inl ⟨rfl, rfl⟩)) e1' (by omega) (by rw [jup_s]; rfl) (by omega) (by omega)
    refine ⟨σ', ?_, i2, by rw [i3]; simp only [List.length_cons]; omega, fun i hi => ?_, ?_, ?_⟩
    · rw [st, show ((mst M h + k : Nat) : Int) + 1 = ((mst M h + (k + 1) : Nat) : Int) by omega]
      exact i1
    · obtain ⟨j1, j2⟩ := i4 i (by omega)
      rw [j1, j2, jup_o (by omega), jup_o (by omega), jup_k (by omega), jup_o (by omega), jup_k (by omega), jup_o (by omega)]
      exact ⟨rfl, rfl⟩
    · rw [List.map_cons]
      refine rowL_cons ?_ i5
      rw [(i4 n (by omega)).1, jup_o (by omega), jup_o (by omega), jup_s]
    · rw [List.map_cons]
      refine rowL_cons ?_ i6
      rw [(i4 n (by omega)).2, jup_o (by omega), jup_s]
      simp only [ocode]
      omega
theorem cl_out {F o : Nat} {σ0 : jxS} {M : Nat → List Nat} {c : Nat → Nat} {b L : Nat} (ho : o = 38 ∨ o = 41) (hP : PosOK σ0) (hR : RulC σ0 M) (hM : MOK M) (hc : okc c) (hb : beans c ≤ 22) (hbL : b + L ≤ 14202) (hF : 1000 ≤ F) (hH : ∀ (σ : jxS), PosOK σ → ∀ j g : Nat, (dh c)[j]? = some g → Positions_heapOf F σ ((b + j : Nat) : Int) = some ((g : Int), σ) ∧ Positions_restOf F σ ((b + j : Nat) : Int) = some ((rank (csb c g) : Int), σ)) : ∀ (r : List Nat) (fu j n : Nat) (σ : jxS), jfr (jLP o) σ0 σ → (∀ (i g : Nat), r[i]? = some g → (dh c)[j + i]? = some g) → r.length + j = L → σ o 4 = (n : Int) → n + (opsl M r).length ≤ 203 → r.length < fu → ∃ σ', Options_list_c23 F o fu ((b + L : Nat) : Int) ((b + j : Nat) : Int) σ = some (0, σ') ∧ jfr (jLP o) σ0 σ' ∧ σ' o 4 = ((n + (opsl M r).length : Nat) : Int) ∧ (∀ i : Nat, i < n → σ' (o + 1) i = σ (o + 1) i ∧ σ' (o + 2) i = σ (o + 2) i) ∧ rowL σ' (o + 1) n ((opsl M r).map (fun o => rank (tgt c o.1 o.2))) ∧ rowL σ' (o + 2) n ((opsl M r).map ocode) := by
  intro r
  induction r with
  | nil =>
    intro fu j n σ f e1 e2 e3 e4 e5
    obtain ⟨fu, rfl⟩ : ∃ k, fu = k + 1 := ⟨fu - 1, by omega⟩
    simp only [List.length_nil] at e2
    refine ⟨σ, ?_, f, by rw [e3]; rfl, fun _ _ => ⟨rfl, rfl⟩, rowL_nil _ _ _, rowL_nil _ _ _⟩
    rw [Options_list_c23, if_neg (by unfold jw; omega)]
  | cons h r ih =>
    intro fu j n σ f e1 e2 e3 e4 e5
    obtain ⟨fu, rfl⟩ : ∃ k, fu = k + 1 := ⟨fu - 1, by omega⟩
    simp only [List.length_cons] at e2 e5
    rw [opsl_cons, List.length_append, List.length_map] at e4
    have hj : (dh c)[j]? = some h := by have := e1 0 h rfl; rwa [Nat.add_zero] at this
    obtain ⟨⟨h1, h2⟩, h3⟩ := dh_mem.mp (List.mem_of_getElem? hj)
    have hR' : RulC σ M := RulC_fr hR f (fun j => by simp only [jLP]; omega) (fun j => by simp only [jLP]; omega)
    have hP' : PosOK σ := PosOK_fr hP f (fun a j _ _ => by simp only [jLP]; omega)
    obtain ⟨p1, p2⟩ := hH σ hP' j h hj
    have p3 := ca_first (F := F) hR' hM (h := h + 1) (by omega) (by omega)
    have p4 := ca_first (F := F) hR' hM (h := h) (by omega) (by omega)
    rw [Int.natCast_add, Int.natCast_one] at p3
    have ml := MOK_len hM h1 h2
    obtain ⟨σ1, i1, i2, i3, i4, i5, i6⟩ := cl_in (F := F) (k23 := Options_list_c23 F o fu) (v2 := ((b + L : Nat) : Int)) (v3 := ((b + j : Nat) : Int)) ho hP hR hM hc hb h1 h2 h3 (M h) F 0 n σ f rfl rfl e3 (by omega) (by omega)
    rw [show mst M h + 0 = mst M h from Nat.add_zero _] at i1
    obtain ⟨σ2, j1, j2, j3, j4, j5, j6⟩ := ih fu (j + 1) (n + (M h).length) σ1 i2 (fun i g hg => by have := e1 (i + 1) g (by simpa using hg); rwa [show j + (i + 1) = j + 1 + i by omega] at this) (by omega) i3 (by omega) (by omega)
    refine ⟨σ2, ?_, j2, ?_, fun i hi => ?_, ?_, ?_⟩
    · rw [Options_list_c23, if_pos (by unfold jw; omega), p1, jbs]
      dsimp only
      rw [p2, jbs]
      dsimp only
      rw [p3, jbs]
      dsimp only
      rw [p4, jbs]
      dsimp only
      rw [i1, show ((b + j : Nat) : Int) + 1 = ((b + (j + 1) : Nat) : Int) by omega, j1]
    · rw [j3, opsl_cons, List.length_append, List.length_map, Nat.add_assoc]
    · obtain ⟨a1, a2⟩ := j4 i (by omega)
      obtain ⟨b1, b2⟩ := i4 i hi
      rw [a1, a2, b1, b2]
      exact ⟨rfl, rfl⟩
    · rw [opsl_cons, List.map_append, List.map_map]
      refine rowL_app ?_ ?_
      · exact rowL_fr i5 (fun i q1 q2 => (j4 i (by simp only [List.length_map] at q2; omega)).1)
      · rw [List.length_map]
        exact j5
    · rw [opsl_cons, List.map_append, List.map_map]
      refine rowL_app ?_ ?_
      · exact rowL_fr i6 (fun i q1 q2 => (j4 i (by simp only [List.length_map] at q2; omega)).2)
      · rw [List.length_map]
        exact j6
theorem ca_list {F o : Nat} {σ : jxS} {M : Nat → List Nat} {c : Nat → Nat} (ho : o = 38 ∨ o = 41) (hP : PosOK σ) (hR : RulC σ M) (hM : MOK M) (hc : okc c) (hb : beans c ≤ 22) (hF : 1000 ≤ F) : ∃ σ', Options_list F o σ (rank c) = some (0, σ') ∧ jfr (jLP o) σ σ' ∧ σ' o 4 = ((ops M c).length : Int) ∧ rowL σ' (o + 1) 0 (tl M c) ∧ rowL σ' (o + 2) 0 ((ops M c).map ocode) := by
  have f0 : jfr (jLP o) σ (jup σ o 4 0) := jfr_up (jfr_refl _ _) (Or.inl ⟨rfl, rfl⟩)
  have hP' : PosOK (jup σ o 4 0) := PosOK_fr hP f0 (fun a j _ _ => by simp only [jLP]; omega)
  have e1 := po_end (F := F) hP' hc hb
  have e2 := po_first (F := F) hP' (c := c) hb
  have e3 := ps_all hP hc hb
  have hl := dh_len c
  obtain ⟨σ', i1, i2, i3, i4, i5, i6⟩ := cl_out (F := F) (o := o) (b := ps (rank c)) (L := (dh c).length) ho hP hR hM hc hb e3 hF (fun σ hp j g hg => po_heap hp hc hb hg) (dh c) F 0 0 (jup σ o 4 0) f0 (fun i g hg => by rw [Nat.zero_add]; exact hg) (Nat.add_zero _) (by rw [jup_s]; rfl) (by rw [Nat.zero_add, ops_opsl]; exact ops_len hM c) (Nat.lt_of_le_of_lt hl (Nat.lt_of_lt_of_le (by decide) hF))
  rw [Nat.add_zero] at i1
  rw [ops_opsl] at i3 i5 i6
  refine ⟨σ', ?_, i2, by rw [i3, Nat.zero_add], i5, i6⟩
  rw [Options_list, e1, jbs]
  dsimp only
  rw [e2, jbs]
  exact i1
