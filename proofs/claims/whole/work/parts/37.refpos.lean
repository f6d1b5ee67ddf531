/-! The reference: what follows a position, gathered; the tables of all positions. -/
def MvM (σ : jxS) (M : Nat → List Nat) : Prop := ∀ h : Nat, 1 ≤ h → h ≤ 12 → σ 10 h = ((M h).length : Int) ∧ ∀ k m : Nat, (M h)[k]? = some m → σ 9 (64 * (h : Int) + k) = (m : Int)
theorem WT_fr {σ σ' : jxS} {P : Nat → Int → Prop} (hW : WT σ) (h : jfr P σ σ') (h1 : ∀ j, ¬ P 13 j) (h2 : ∀ j, ¬ P 14 j) : WT σ' := ⟨fun k n k1 k2 k3 => by rw [h 13 _ (h1 _)]; exact hW.1 k n k1 k2 k3, fun b hb => by rw [h 14 _ (h2 _)]; exact hW.2 b hb⟩
theorem Hd_fr {σ σ' : jxS} {P : Nat → Int → Prop} {a : Nat} {c : Nat → Nat} (hW : Hd σ a c) (h : jfr P σ σ') (h1 : ∀ j, ¬ P a j) : Hd σ' a c := fun g g1 g2 => by rw [h a _ (h1 _)]; exact hW g g1 g2
theorem MvM_fr {σ σ' : jxS} {P : Nat → Int → Prop} {M : Nat → List Nat} (hW : MvM σ M) (h : jfr P σ σ') (h1 : ∀ j, ¬ P 10 j) (h2 : ∀ j, ¬ P 9 j) : MvM σ' M := fun g g1 g2 => ⟨by rw [h 10 _ (h1 _)]; exact (hW g g1 g2).1, fun k m hm => by rw [h 9 _ (h2 _)]; exact (hW g g1 g2).2 k m hm⟩
def GP (a : Nat) (j : Int) : Prop := a = 21 ∨ (a = 0 ∧ j = 32)
theorem MOK_len {M : Nat → List Nat} (hM : MOK M) {h : Nat} (h1 : 1 ≤ h) (h2 : h ≤ 12) : (M h).length ≤ 42 := by
  have a := (hM h h1 h2).1
  have : ∀ h, h ≤ 12 → mmx.getD h 0 ≤ 42 := by decide
  exact Nat.le_trans a (this h h2)
theorem mo_gath_in {F : Nat} {σ0 : jxS} {k7 : Int → jxS → Option jxR} {M : Nat → List Nat} {c : Nat → Nat} {h : Nat} (hW : WT σ0) (hH : Hd σ0 20 c) (hV : MvM σ0 M) (hM : MOK M) (ho : okc c) (hb : beans c ≤ 22) (h1 : 1 ≤ h) (h2 : h ≤ 12) (hp : 0 < c h) (hF : 100 ≤ F) : ∀ (r : List Nat) (fu k n : Nat) (σ : jxS), jfr GP σ0 σ → (M h).drop k = r → r.length + k = (M h).length → σ 0 32 = (n : Int) → n + r.length ≤ 512 → r.length < fu → ∃ σ', Model_gathersBehind_c15 F k7 fu h k σ = k7 (h + 1) σ' ∧ jfr GP σ0 σ' ∧ σ' 0 32 = ((n + r.length : Nat) : Int) ∧ (∀ i : Nat, i < n → σ' 21 i = σ 21 i) ∧ rowL σ' 21 n (r.map (fun m => rank (tgt c h m))) := by
  intro r
  have hl := MOK_len hM h1 h2
  induction r with
  | nil =>
    intro fu k n σ f e1 e2 e3 e4 e5
    obtain ⟨fu, rfl⟩ : ∃ k, fu = k + 1 := ⟨fu - 1, by omega⟩
    have w := (MvM_fr hV f (by simp [GP]) (by simp [GP]) h h1 h2).1
    simp only [List.length_nil] at e2
    refine ⟨σ, ?_, f, by rw [e3]; rfl, fun _ _ => rfl, rowL_nil _ _ _⟩
    simp (disch := omega) only [Model_gathersBehind_c15, w, ↓reduceIte, jw_id, jlt_T, jlt_F, jle_T, jle_F, jeq_T, jeq_F, and_self, and_true, true_and, and_false, false_and, or_true, true_or, or_false, false_or, not_true_eq_false, not_false_eq_true, jbs, jup_s, jup_k, jup_o]
  | cons m r ih =>
    intro fu k n σ f e1 e2 e3 e4 e5
    obtain ⟨fu, rfl⟩ : ∃ k, fu = k + 1 := ⟨fu - 1, by omega⟩
    simp only [List.length_cons] at e2 e4 e5
    have hV' := MvM_fr hV f (by simp [GP]) (by simp [GP])
    have w := (hV' h h1 h2).1
    have hm : (M h)[k]? = some m := by
      have : ((M h).drop k)[0]? = some m := by rw [e1]; rfl
      rwa [List.getElem?_drop, Nat.add_zero] at this
    have w2 := (hV' h h1 h2).2 k m hm
    have hmo := (hM h h1 h2).2 m (List.mem_of_getElem? hm)
    have hH' := Hd_fr hH f (by simp [GP])
    have w3 := hH' h h1 h2
    have cl := count_le (c := c) h1 h2
    have bh := mo_behind (F := F) (a := 20) (σ := σ) (m := m) (by omega) (by omega) (WT_fr hW f (by simp [GP]) (by simp [GP])) hH' ho hb h1 h2 hp (by omega) hF
    have e1' : (M h).drop (k + 1) = r := by
      have : ((M h).drop k).drop 1 = r := by rw [e1]; rfl
      rwa [List.drop_drop] at this
    obtain ⟨σ', i1, i2, i3, i4, i5⟩ := ih fu (k + 1) (n + 1) (jup (jup σ 21 n (rank (tgt c h m))) 0 32 ((n : Int) + 1)) (jfr_up (jfr_up f (Or.inl rfl)) (Or.inr ⟨rfl, rfl⟩)) e1' (by omega) (by rw [jup_s]; rfl) (by omega) (by omega)
    refine ⟨σ', ?_, i2, by rw [i3]; simp only [List.length_cons]; omega, fun i hi => by rw [i4 i (by omega), jup_o (by omega), jup_k (by omega)], ?_⟩
    · simp (disch := omega) only [Model_gathersBehind_c15, w, w2, w3, bh, e3, ↓reduceIte, jw_id, jlt_T, jlt_F, jle_T, jle_F, jeq_T, jeq_F, and_self, and_true, true_and, and_false, false_and, or_true, true_or, or_false, false_or, not_true_eq_false, not_false_eq_true, jbs, jup_s, jup_k, jup_o]
      rw [Int.natCast_add, Int.natCast_one] at i1
      exact i1
    · rw [List.map_cons]
      refine rowL_cons ?_ i5
      rw [i4 n (by omega), jup_o (by omega), jup_s]
def hsl (n : Nat) : List Nat := match n with
  | 0 => []
  | n + 1 => (12 - n) :: hsl n
def glo (M : Nat → List Nat) (c : Nat → Nat) (n : Nat) : List (Nat × Nat) := match n with
  | 0 => []
  | n + 1 => (if 0 < c (12 - n) then (M (12 - n)).map (fun m => (12 - n, m)) else []) ++ glo M c n
theorem glo_ops (M : Nat → List Nat) (c : Nat → Nat) : glo M c 12 = ops M c := by
  have key : ∀ n, glo M c n = ((hsl n).filter (fun h => decide (0 < c h))).flatMap (fun h => (M h).map (fun m => (h, m))) := by
    intro n
    induction n with
    | zero => rfl
    | succ n ih =>
      simp only [glo, hsl, List.filter_cons, ih, decide_eq_true_eq]
      by_cases q : 0 < c (12 - n)
      · rw [if_pos q, if_pos q, List.flatMap_cons]
      · rw [if_neg q, if_neg q, List.nil_append]
  rw [ops_eq, dh_eq]
  exact key 12
def mms (n : Nat) : Nat := match n with
  | 0 => 0
  | n + 1 => mmx.getD (12 - n) 0 + mms n
theorem glo_len {M : Nat → List Nat} (hM : MOK M) (c : Nat → Nat) : ∀ n, n ≤ 12 → (glo M c n).length ≤ mms n := by
  intro n
  induction n with
  | zero => intro _; exact Nat.le_refl _
  | succ n ih =>
    intro hn
    have i := ih (by omega)
    have a := (hM (12 - n) (by omega) (by omega)).1
    simp only [glo, mms, List.length_append]
    by_cases q : 0 < c (12 - n)
    · rw [if_pos q, List.length_map]; omega
    · rw [if_neg q, List.length_nil]; omega
theorem ops_len {M : Nat → List Nat} (hM : MOK M) (c : Nat → Nat) : (ops M c).length ≤ 203 := by
  rw [← glo_ops]
  exact glo_len hM c 12 (Nat.le_refl _)
theorem mo_gath_c {F : Nat} {σ0 : jxS} {M : Nat → List Nat} {c : Nat → Nat} (hW : WT σ0) (hH : Hd σ0 20 c) (hV : MvM σ0 M) (hM : MOK M) (ho : okc c) (hb : beans c ≤ 22) (hF : 100 ≤ F) : ∀ (n fu k : Nat) (h : Int) (σ : jxS), n + h = 13 → n ≤ 12 → jfr GP σ0 σ → σ 0 32 = (k : Int) → k + (glo M c n).length ≤ 512 → n < fu → ∃ σ', Model_gathersBehind_c7 F fu h σ = some (0, σ') ∧ jfr GP σ0 σ' ∧ σ' 0 32 = ((k + (glo M c n).length : Nat) : Int) ∧ (∀ i : Nat, i < k → σ' 21 i = σ 21 i) ∧ rowL σ' 21 k ((glo M c n).map (fun o => rank (tgt c o.1 o.2))) := by
  intro n
  induction n with
  | zero =>
    intro fu k h σ e1 e2 f e3 e4 e5
    obtain ⟨fu, rfl⟩ : ∃ k, fu = k + 1 := ⟨fu - 1, by omega⟩
    refine ⟨σ, ?_, f, by rw [e3]; rfl, fun _ _ => rfl, rowL_nil _ _ _⟩
    simp (disch := omega) only [Model_gathersBehind_c7, ↓reduceIte, jw_id, jlt_T, jlt_F, jle_T, jle_F, jeq_T, jeq_F, and_self, and_true, true_and, and_false, false_and, or_true, true_or, or_false, false_or, not_true_eq_false, not_false_eq_true, jbs, jup_s, jup_k, jup_o]
  | succ n ih =>
    intro fu k h σ e1 e2 f e3 e4 e5
    obtain ⟨fu, rfl⟩ : ∃ k, fu = k + 1 := ⟨fu - 1, by omega⟩
    have x1 : ((12 - n : Nat) : Int) = h := by omega
    have hl := MOK_len hM (h := 12 - n) (by omega) (by omega)
    simp only [glo, List.length_append] at e4
    have st : Model_gathersBehind_c7 F (fu + 1) h σ = Model_gathersBehind_c15 F (Model_gathersBehind_c7 F fu) F h 0 σ := by
      simp (disch := omega) only [Model_gathersBehind_c7, ↓reduceIte, jw_id, jlt_T, jlt_F, jle_T, jle_F, jeq_T, jeq_F, and_self, and_true, true_and, and_false, false_and, or_true, true_or, or_false, false_or, not_true_eq_false, not_false_eq_true, jbs, jup_s, jup_k, jup_o]
    rw [st]
    by_cases q : 0 < c (12 - n)
    · rw [if_pos q, List.length_map] at e4
      obtain ⟨σ1, i1, i2, i3, i4, i5⟩ := mo_gath_in (F := F) (k7 := Model_gathersBehind_c7 F fu) (h := 12 - n) hW hH hV hM ho hb (by omega) (by omega) q hF (M (12 - n)) F 0 k σ f rfl rfl e3 (by omega) (by omega)
      rw [x1] at i1
      obtain ⟨σ2, j1, j2, j3, j4, j5⟩ := ih fu (k + (M (12 - n)).length) (h + 1) σ1 (by omega) (by omega) i2 i3 (by omega) (by omega)
      have i1' : Model_gathersBehind_c15 F (Model_gathersBehind_c7 F fu) F h 0 σ = Model_gathersBehind_c7 F fu (h + 1) σ1 := i1
      refine ⟨σ2, by rw [i1', j1], j2, ?_, fun i hi => by rw [j4 i (by omega), i4 i hi], ?_⟩
      · rw [j3]
        simp only [glo, List.length_append, if_pos q, List.length_map]
        omega
      · simp only [glo, if_pos q, List.map_append, List.map_map]
        refine rowL_app ?_ ?_
        · exact rowL_fr i5 (fun i h1 h2 => j4 i (by simp only [List.length_map] at h2; omega))
        · rw [List.length_map]
          exact j5
    · rw [if_neg q, List.length_nil] at e4
      have w := (MvM_fr hV f (by simp [GP]) (by simp [GP]) (12 - n) (by omega) (by omega)).1
      have w3 := Hd_fr hH f (by simp [GP]) (12 - n) (by omega) (by omega)
      rw [x1] at w w3
      have z : c (12 - n) = 0 := by omega
      rw [z] at w3
      obtain ⟨σ2, j1, j2, j3, j4, j5⟩ := ih fu k (h + 1) σ (by omega) (by omega) f e3 (by omega) (by omega)
      have st2 : Model_gathersBehind_c15 F (Model_gathersBehind_c7 F fu) F h 0 σ = Model_gathersBehind_c7 F fu (h + 1) σ := by
        obtain ⟨F', rfl⟩ : ∃ k, F = k + 1 := ⟨F - 1, by omega⟩
        rw [Model_gathersBehind_c15]
        by_cases z2 : (0 : Int) < ((M (12 - n)).length : Int)
        · simp (disch := omega) only [w, w3, Int.natCast_zero, ↓reduceIte, jw_id, jlt_T, jlt_F, jle_T, jle_F, jeq_T, jeq_F, and_self, and_true, true_and, and_false, false_and, or_true, true_or, or_false, false_or, not_true_eq_false, not_false_eq_true, jbs, jup_s, jup_k, jup_o]
        · simp (disch := omega) only [w, w3, Int.natCast_zero, ↓reduceIte, jw_id, jlt_T, jlt_F, jle_T, jle_F, jeq_T, jeq_F, and_self, and_true, true_and, and_false, false_and, or_true, true_or, or_false, false_or, not_true_eq_false, not_false_eq_true, jbs, jup_s, jup_k, jup_o]
      refine ⟨σ2, by rw [st2, j1], j2, ?_, j4, ?_⟩
      · rw [j3]
        simp only [glo, List.length_append, if_neg q, List.length_nil]
        omega
      · simp only [glo, if_neg q, List.nil_append]
        exact j5
theorem mo_gath {F : Nat} {σ : jxS} {M : Nat → List Nat} {c : Nat → Nat} (hW : WT σ) (hH : Hd σ 20 c) (hV : MvM σ M) (hM : MOK M) (ho : okc c) (hb : beans c ≤ 22) (hF : 100 ≤ F) : ∃ σ', Model_gathersBehind F σ = some (0, σ') ∧ jfr GP σ σ' ∧ σ' 0 32 = ((tl M c).length : Int) ∧ rowL σ' 21 0 (tl M c) := by
  have hl := ops_len hM c
  have f0 : jfr GP σ (jup σ 0 32 0) := jfr_up (jfr_refl _ _) (Or.inr ⟨rfl, rfl⟩)
  obtain ⟨σ', i1, i2, i3, i4, i5⟩ := mo_gath_c (F := F) hW hH hV hM ho hb hF 12 F 0 1 (jup σ 0 32 0) (by omega) (by omega) f0 (by rw [jup_s]; rfl) (by rw [glo_ops]; omega) (by omega)
  rw [glo_ops] at i3 i5
  exact ⟨σ', i1, i2, by rw [i3, tl, List.length_map, Nat.zero_add], i5⟩
