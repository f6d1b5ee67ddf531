/-! The class: nimbers and lengths of heaps. -/
def JP (a : Nat) (_ : Int) : Prop := a = 16 ∨ a = 17 ∨ a = 18
theorem cjh_step {F fu : Nat} {σ : jxS} {h v2 v3 v4 v5 e m na nb la lb ma mb : Int} (h1 : 0 ≤ h) (h2 : h ≤ 12) (he : σ 14 (h + 1) = e) (h5 : 0 ≤ v5) (h52 : v5 < e) (he2 : e ≤ 203) (wm : σ 15 v5 = m) (m0 : 0 ≤ m) (m1 : m < 169) (xa : σ 16 (m / 13) = na) (xb : σ 16 (m % 13) = nb) (ya : σ 17 (m / 13) = la) (yb : σ 17 (m % 13) = lb) (za : σ 18 (m / 13) = ma) (zb : σ 18 (m % 13) = mb) : Rules_judgeHeap_c16 F (fu + 1) h v2 v3 v4 v5 σ = Rules_judgeHeap_c16 F fu h (jor v2 (jshl 1 (jxor na nb))) (jmin v3 (1 + la + lb)) (jmax v4 (1 + ma + mb)) (v5 + 1) σ := by
  have d := jd13 m0 (by omega)
  simp (disch := omega) only [Rules_judgeHeap_c16, he, wm, d.1, d.2, xa, xb, ya, yb, za, zb, ↓reduceIte, jw_id, jlt_T, jlt_F, jle_T, jle_F, jeq_T, jeq_F, and_self, and_true, true_and, and_false, false_and, or_true, true_or, or_false, false_or, not_true_eq_false, not_false_eq_true, jbs, jup_s, jup_k, jup_o]
theorem jmin_n {a b : Nat} (ha : a ≤ 1000) (hb : b ≤ 1000) : jmin (a : Int) (b : Int) = ((if b < a then b else a : Nat) : Int) := by
  unfold jmin jw
  split <;> split <;> omega
theorem jmax_n {a b : Nat} (ha : a ≤ 1000) (hb : b ≤ 1000) : jmax (a : Int) (b : Int) = ((if a < b then b else a : Nat) : Int) := by
  unfold jmax jw
  split <;> split <;> omega
theorem cjh_loop {F h e : Nat} {σ : jxS} {M : Nat → List Nat} (hM : MOK M) (h1 : 1 ≤ h) (h2 : h ≤ 12) (hR : RulC σ M) (he : e = mst M (h + 1)) (hJ : ∀ g : Nat, g < h → σ 16 g = (nim M g : Int) ∧ σ 17 g = (hle M g : Int) ∧ σ 18 g = (hmo M g : Int)) : ∀ (r : List Nat) (fu k s a b : Nat) (l : List Nat), (M h).drop k = r → r.length + k = (M h).length → r.length < fu → bset s l → a ≤ 22 → b ≤ 22 → ∃ (s' : Nat) (l' : List Nat) (g : Nat), Rules_judgeHeap_c16 F fu h s a b ((mst M h + k : Nat) : Int) σ = Rules_judgeHeap_c16 F (g + 1) h s' (mnf true a (r.map (fun m => 1 + hle M (m / 13) + hle M (m % 13))) : Nat) (mxf b (r.map (fun m => 1 + hmo M (m / 13) + hmo M (m % 13))) : Nat) e σ ∧ bset s' l' ∧ ∀ x, x ∈ l' ↔ x ∈ l ∨ x ∈ r.map (fun m => nim M (m / 13) ^^^ nim M (m % 13)) := by
  have q1 := mst_s M h1
  have q2 := mst_mono M (a := h + 1) (b := 13) (by omega) (by omega)
  have q3 := mst_203 hM
  rw [← he] at q1 q2
  intro r
  induction r with
  | nil =>
    intro fu k s a b l e1 e2 e3 hs ha hb
    obtain ⟨fu, rfl⟩ : ∃ k, fu = k + 1 := ⟨fu - 1, by omega⟩
    simp only [List.length_nil] at e2
    refine ⟨s, l, fu, ?_, hs, fun x => by simp⟩
    simp only [List.map_nil, mnf, mxf]
    rw [show mst M h + k = e by omega]
  | cons m r ih =>
    intro fu k s a b l e1 e2 e3 hs ha hb
    obtain ⟨fu, rfl⟩ : ∃ k, fu = k + 1 := ⟨fu - 1, by omega⟩
    simp only [List.length_cons] at e2 e3
    obtain ⟨hm, hr⟩ := drop_at e1
    have hmq := (hM h h1 h2).2 m (List.mem_of_getElem? hm)
    have wm := hR.2 h k m h1 h2 hm
    obtain ⟨a1, a2, a3⟩ := hJ (m / 13) (by omega)
    obtain ⟨b1, b2, b3⟩ := hJ (m % 13) (by omega)
    have c1 := hml_le hM (m / 13) (by omega)
    have c2 := hml_le hM (m % 13) (by omega)
    have he' : σ 14 ((h : Int) + 1) = (e : Int) := by
      have := hR.1 (h + 1) (by omega) (by omega)
      rw [Int.natCast_add, Int.natCast_one] at this
      rw [this, he]
    have d1 : (m : Int) / 13 = ((m / 13 : Nat) : Int) := by omega
    have d2 : (m : Int) % 13 = ((m % 13 : Nat) : Int) := by omega
    have st := cjh_step (F := F) (fu := fu) (σ := σ) (h := h) (v2 := s) (v3 := a) (v4 := b) (v5 := ((mst M h + k : Nat) : Int)) (e := e) (m := m) (na := nim M (m / 13)) (nb := nim M (m % 13)) (la := hle M (m / 13)) (lb := hle M (m % 13)) (ma := hmo M (m / 13)) (mb := hmo M (m % 13)) (by omega) (by omega) he' (by omega) (by omega) (by omega) wm (by omega) (by omega) (by rw [d1]; exact a1) (by rw [d2]; exact b1) (by rw [d1]; exact a2) (by rw [d2]; exact b2) (by rw [d1]; exact a3) (by rw [d2]; exact b3)
    have f1 : (1 : Int) + (hle M (m / 13) : Int) + (hle M (m % 13) : Int) = ((1 + hle M (m / 13) + hle M (m % 13) : Nat) : Int) := by omega
    have f2 : (1 : Int) + (hmo M (m / 13) : Int) + (hmo M (m % 13) : Int) = ((1 + hmo M (m / 13) + hmo M (m % 13) : Nat) : Int) := by omega
    have g1 := jmin_n (a := a) (b := 1 + hle M (m / 13) + hle M (m % 13)) (by omega) (by omega)
    have g2 := jmax_n (a := b) (b := 1 + hmo M (m / 13) + hmo M (m % 13)) (by omega) (by omega)
    have u1 : (if 1 + hle M (m / 13) + hle M (m % 13) < a then 1 + hle M (m / 13) + hle M (m % 13) else a) ≤ 22 := by split <;> omega
    have u2 : (if b < 1 + hmo M (m / 13) + hmo M (m % 13) then 1 + hmo M (m / 13) + hmo M (m % 13) else b) ≤ 22 := by split <;> omega
    have e2' : r.length + (k + 1) = (M h).length := by omega
    have e3' : r.length < fu := by omega
    have kk : ((mst M h + k : Nat) : Int) + 1 = ((mst M h + (k + 1) : Nat) : Int) := by omega
    have x4 : nim M (m / 13) ^^^ nim M (m % 13) < 2 ^ 4 := Nat.xor_lt_two_pow (nim_16 hM (by omega)) (nim_16 hM (by omega))
    have x5 : nim M (m / 13) ^^^ nim M (m % 13) < 31 := Nat.lt_of_lt_of_le x4 (by decide)
    obtain ⟨y1, y2⟩ := bset_add hs x5
    obtain ⟨s', l', g, i1, i2, i3⟩ := ih fu (k + 1) _ _ _ _ hr e2' e3' y2 u1 u2
    refine ⟨s', l', g, ?_, i2, fun x => by rw [i3 x]; simp only [List.mem_cons, List.map_cons]; grind⟩
    rw [st, f1, f2, g1, g2, bq_xor (Nat.lt_of_lt_of_le x4 (by decide)), y1, kk, i1]
    have v1 : mnf true a ((m :: r).map (fun m => 1 + hle M (m / 13) + hle M (m % 13))) = mnf true (if 1 + hle M (m / 13) + hle M (m % 13) < a then 1 + hle M (m / 13) + hle M (m % 13) else a) (r.map (fun m => 1 + hle M (m / 13) + hle M (m % 13))) := by
      rw [List.map_cons, mnf_mnf]
      simp
    have v2 : mxf b ((m :: r).map (fun m => 1 + hmo M (m / 13) + hmo M (m % 13))) = mxf (if b < 1 + hmo M (m / 13) + hmo M (m % 13) then 1 + hmo M (m / 13) + hmo M (m % 13) else b) (r.map (fun m => 1 + hmo M (m / 13) + hmo M (m % 13))) := rfl
    rw [v1, v2]
theorem cjh_fin {F g : Nat} {σ : jxS} {h s a b e n : Int} (h1 : 0 ≤ h) (h2 : h ≤ 12) (he : σ 14 (h + 1) = e) (he2 : 0 ≤ e) (he3 : e ≤ 203) (hb : 0 ≤ b) (hb2 : b ≤ 22) (hl : LL_leastMissing F σ s = some (n, σ)) : Rules_judgeHeap_c16 F (g + 1) h s a b e σ = some (0, jup (jup (jup σ 16 h n) 17 h (if b = 0 then 0 else a)) 18 h b) := by
  by_cases z : b = 0
  · subst z
    simp (disch := omega) only [Rules_judgeHeap_c16, Rules_judgeHeap_c150, he, hl, ↓reduceIte, jw_id, jlt_T, jlt_F, jle_T, jle_F, jeq_T, jeq_F, and_self, and_true, true_and, and_false, false_and, or_true, true_or, or_false, false_or, not_true_eq_false, not_false_eq_true, jbs, jup_s, jup_k, jup_o]
  · simp (disch := omega) only [Rules_judgeHeap_c16, Rules_judgeHeap_c150, he, hl, if_neg z, ↓reduceIte, jw_id, jlt_T, jlt_F, jle_T, jle_F, jeq_T, jeq_F, and_self, and_true, true_and, and_false, false_and, or_true, true_or, or_false, false_or, not_true_eq_false, not_false_eq_true, jbs, jup_s, jup_k, jup_o]
theorem ca_judgeHeap {F h : Nat} {σ : jxS} {M : Nat → List Nat} (hM : MOK M) (h1 : 1 ≤ h) (h2 : h ≤ 12) (hR : RulC σ M) (hJ : ∀ g : Nat, g < h → σ 16 g = (nim M g : Int) ∧ σ 17 g = (hle M g : Int) ∧ σ 18 g = (hmo M g : Int)) (hF : 1000 ≤ F) : Rules_judgeHeap F σ h = some (0, jup (jup (jup σ 16 h (nim M h)) 17 h (hle M h)) 18 h (hmo M h)) := by
  have ml := MOK_len hM h1 h2
  have w := hR.1 h h1 (by omega)
  have he' := hR.1 (h + 1) (by omega) (by omega)
  rw [Int.natCast_add, Int.natCast_one] at he'
  have q2 := mst_mono M (a := h + 1) (b := 13) (by omega) (by omega)
  have q3 := mst_203 hM
  have hb := (hml_le hM h h2).1
  obtain ⟨s', l', g, i1, i2, i3⟩ := cjh_loop (F := F) hM h1 h2 hR rfl hJ (M h) F 0 0 22 0 [] rfl rfl (by omega) bset_nil (by omega) (by omega)
  rw [← hmo_eq hM h1 h2, show mst M h + 0 = mst M h from Nat.add_zero _] at i1
  have nl := nim_le hM h h2
  have nm : mex l' = nim M h := by
    rw [nim_eq hM h1 h2]
    exact mex_congr (fun x => by rw [i3 x]; simp)
  have lm := ca_least (F := F) (σ := σ) i2 (by rw [nm]; omega) (by omega)
  rw [nm] at lm
  have fin := cjh_fin (F := F) (g := g) (σ := σ) (h := h) (s := s') (a := (mnf true 22 ((M h).map (fun m => 1 + hle M (m / 13) + hle M (m % 13))) : Nat)) (b := hmo M h) (e := mst M (h + 1)) (by omega) (by omega) he' (by omega) (by omega) (by omega) (by omega) lm
  have st : Rules_judgeHeap F σ h = Rules_judgeHeap_c16 F F h 0 22 0 (mst M h) σ := by
    rw [Rules_judgeHeap, if_pos (by omega), w]
  have i1' : Rules_judgeHeap_c16 F F h 0 22 0 (mst M h) σ = _ := i1
  rw [st, i1', fin]
  have z : (if (hmo M h : Int) = 0 then (0 : Int) else ((mnf true 22 ((M h).map (fun m => 1 + hle M (m / 13) + hle M (m % 13))) : Nat) : Int)) = (hle M h : Int) := by
    cases e : M h with
    | nil =>
      have z1 : hmo M h = 0 := by rw [hmo_eq hM h1 h2, e]; rfl
      have z2 : hle M h = 0 := by rw [hle_eq hM h1 h2, e]; rfl
      rw [z1, z2, if_pos (show ((0 : Nat) : Int) = 0 from rfl)]
      rfl
    | cons m r =>
      have z1 : 1 ≤ hmo M h := by
        rw [hmo_eq hM h1 h2, e]
        have := mxf_mem (a := 0) (l := (m :: r).map (fun m => 1 + hmo M (m / 13) + hmo M (m % 13))) (x := 1 + hmo M (m / 13) + hmo M (m % 13)) (List.mem_map.mpr ⟨m, List.mem_cons_self .., rfl⟩)
        omega
      obtain ⟨m1, m2⟩ := mnf_false (l := (m :: r).map (fun m => 1 + hle M (m / 13) + hle M (m % 13))) (by simp) 0
      have hh : hle M h = mnf false 0 ((m :: r).map (fun m => 1 + hle M (m / 13) + hle M (m % 13))) := by rw [hle_eq hM h1 h2, e]
      have hl := (hml_le hM h h2).2
      rw [if_neg (by omega), mnt_is m1 m2 (by rw [← hh]; omega), ← hh]
  rw [z]
theorem ca_judges {F : Nat} {σ0 : jxS} {M : Nat → List Nat} (hM : MOK M) (hR : RulC σ0 M) (z : σ0 16 0 = 0 ∧ σ0 17 0 = 0 ∧ σ0 18 0 = 0) (hF : 1000 ≤ F) : ∀ (n fu h : Nat) (σ : jxS), n + h = 13 → 1 ≤ h → n < fu → jfr JP σ0 σ → (∀ g : Nat, g < h → σ 16 g = (nim M g : Int) ∧ σ 17 g = (hle M g : Int) ∧ σ 18 g = (hmo M g : Int)) → ∃ σ', Rules_learn_c108 F fu h σ = some (0, σ') ∧ jfr JP σ0 σ' ∧ ∀ g : Nat, g < 13 → σ' 16 g = (nim M g : Int) ∧ σ' 17 g = (hle M g : Int) ∧ σ' 18 g = (hmo M g : Int) := by
  intro n
  induction n with
  | zero =>
    intro fu h σ e1 e2 e3 f hJ
    obtain ⟨fu, rfl⟩ : ∃ k, fu = k + 1 := ⟨fu - 1, by omega⟩
    refine ⟨σ, ?_, f, fun g hg => hJ g (by omega)⟩
    simp (disch := omega) only [Rules_learn_c108, ↓reduceIte, jw_id, jlt_T, jlt_F, jle_T, jle_F, jeq_T, jeq_F, and_self, and_true, true_and, and_false, false_and, or_true, true_or, or_false, false_or, not_true_eq_false, not_false_eq_true, jbs, jup_s, jup_k, jup_o]
  | succ n ih =>
    intro fu h σ e1 e2 e3 f hJ
    obtain ⟨fu, rfl⟩ : ∃ k, fu = k + 1 := ⟨fu - 1, by omega⟩
    have hR' : RulC σ M := RulC_fr hR f (fun j => by simp [JP]) (fun j => by simp [JP])
    have st := ca_judgeHeap (F := F) hM e2 (by omega) hR' hJ hF
    obtain ⟨σ', i1, i2, i3⟩ := ih fu (h + 1) _ (by omega) (by omega) (by omega) (jfr_up (jfr_up (jfr_up f (Or.inl rfl)) (Or.inr (Or.inl rfl))) (Or.inr (Or.inr rfl))) (fun g hg => by
      by_cases q : g = h
      · subst q
        refine ⟨?_, ?_, ?_⟩
        · rw [jup_o (by omega), jup_o (by omega), jup_s]
        · rw [jup_o (by omega), jup_s]
        · rw [jup_s]
      · obtain ⟨a, b, c⟩ := hJ g (by omega)
        refine ⟨?_, ?_, ?_⟩
        · rw [jup_o (by omega), jup_o (by omega), jup_k (by omega)]; exact a
        · rw [jup_o (by omega), jup_k (by omega), jup_o (by omega)]; exact b
        · rw [jup_k (by omega), jup_o (by omega), jup_o (by omega)]; exact c)
    refine ⟨σ', ?_, i2, i3⟩
    rw [Int.natCast_add, Int.natCast_one] at i1
    rw [Rules_learn_c108, if_neg (by unfold jw; omega), st, jbs]
    exact i1
/-- the rules: digits, what also, what never; the moves by them -/
def RulA (σ : jxS) (d : Nat) (dg : Nat → Nat) (al : Nat → Nat → Bool) (nv : Nat → Nat → Bool) : Prop := d ≤ 8 ∧ (∀ i, dg i < 8) ∧ σ 10 8 = (d : Int) ∧ (∀ i : Nat, i < d → σ 11 i = (dg i : Int)) ∧ (∀ h : Nat, 1 ≤ h → h ≤ 12 → ∃ s : Nat, s < 2 ^ 31 ∧ σ 12 h = (s : Int) ∧ ∀ k, 1 ≤ k → k ≤ 8 → s.testBit k = nv h k) ∧ (∀ h a : Nat, 1 ≤ h → h ≤ 12 → a ≤ 12 → ∃ s : Nat, s < 2 ^ 31 ∧ σ 13 (13 * (h : Int) + a) = (s : Int) ∧ ∀ b, a ≤ b → a + b < h → s.testBit b = al h (13 * a + b))
theorem jand_bit : ∀ x : Nat, x < 8 → (jand (x : Int) 1 = 0 ↔ x.testBit 0 = false) ∧ (jand (x : Int) 2 = 0 ↔ x.testBit 1 = false) ∧ (jand (x : Int) 4 = 0 ↔ x.testBit 2 = false) ∧ (0 ≤ jand (x : Int) 1 ∧ jand (x : Int) 1 < 8) ∧ (0 ≤ jand (x : Int) 2 ∧ jand (x : Int) 2 < 8) ∧ (0 ≤ jand (x : Int) 4 ∧ jand (x : Int) 4 < 8) := by decide +kernel
theorem cal_72 {F : Nat} {σ : jxS} {h k t : Int} {s x i : Nat} {n v : Bool} (h1 : 0 ≤ h) (h2 : h ≤ 12) (w : σ 12 h = (s : Int)) (wb : jand (jshr (s : Int) k) 1 = if n then 1 else 0) (k1 : 1 ≤ k) (k8 : k ≤ 8) (wd : σ 11 (k - 1) = (x : Int)) (hx : jand (x : Int) t = 0 ↔ v = false) (hr : 0 ≤ jand (x : Int) t) (hr2 : jand (x : Int) t < 8) : Rules_allows_c72 F h k t σ = some (if !n && v then 1 else 0, σ) := by
  cases n
  · simp only [Bool.false_eq_true, if_false, Bool.not_false, Bool.true_and] at wb ⊢
    cases v
    · have e := hx.mpr rfl
      simp (disch := omega) only [Rules_allows_c72, w, wb, wd, e, ↓reduceIte, jw_id, jlt_T, jlt_F, jle_T, jle_F, jeq_T, jeq_F, and_self, and_true, true_and, and_false, false_and, or_true, true_or, or_false, false_or, not_true_eq_false, not_false_eq_true, jbs, jup_s, jup_k, jup_o]
      all_goals simp
    · have e : ¬ jand (x : Int) t = 0 := fun q => by have := hx.mp q; cases this
      simp (disch := omega) only [Rules_allows_c72, w, wb, wd, ↓reduceIte, jw_id, jlt_T, jlt_F, jle_T, jle_F, jeq_T, jeq_F, and_self, and_true, true_and, and_false, false_and, or_true, true_or, or_false, false_or, not_true_eq_false, not_false_eq_true, jbs, jup_s, jup_k, jup_o]
      all_goals simp
  · simp only [if_true, Bool.not_true, Bool.false_and] at wb ⊢
    simp (disch := omega) only [Rules_allows_c72, w, wb, ↓reduceIte, jw_id, jlt_T, jlt_F, jle_T, jle_F, jeq_T, jeq_F, and_self, and_true, true_and, and_false, false_and, or_true, true_or, or_false, false_or, not_true_eq_false, not_false_eq_true, jbs, jup_s, jup_k, jup_o]
    all_goals simp
theorem ca_allows {F : Nat} {σ : jxS} {d : Nat} {dg : Nat → Nat} {al nv : Nat → Nat → Bool} (hA : RulA σ d dg al nv) {h a b : Nat} (h1 : 1 ≤ h) (h2 : h ≤ 12) (hab : a ≤ b) (hs : a + b < h) : Rules_allows F σ h a b = some (if isMv d dg al nv h (13 * a + b) then 1 else 0, σ) := by
  obtain ⟨d8, dl, w1, w2, w3, w4⟩ := hA
  obtain ⟨s, s1, s2, s3⟩ := w4 h a h1 h2 (by omega)
  have bt := bq_bit (a := s) (k := b) (by omega) s1
  rw [s3 b hab hs] at bt
  have m1 : (13 * a + b) / 13 = a := by omega
  have m2 : (13 * a + b) % 13 = b := by omega
  have x0 : (h : Int) * 13 + a = 13 * (h : Int) + a := by omega
  unfold isMv
  rw [m1, m2]
  cases hal : al h (13 * a + b)
  · rw [hal] at bt
    simp only [Bool.false_eq_true, if_false, Bool.false_or] at bt ⊢
    by_cases hd : h - a - b ≤ d
    · obtain ⟨z, z1, z2, z3⟩ := w3 h h1 h2
      have bz := bq_bit (a := z) (k := h - a - b) (by omega) z1
      rw [z3 _ (by omega) (by omega)] at bz
      have kk : (h : Int) - a - b = ((h - a - b : Nat) : Int) := by omega
      have wd := w2 (h - a - b - 1) (by omega)
      have kk2 : ((h - a - b : Nat) : Int) - 1 = ((h - a - b - 1 : Nat) : Int) := by omega
      rw [← kk2] at wd
      obtain ⟨j1, j2, j4, r1, r2, r4⟩ := jand_bit (dg (h - a - b - 1)) (dl _)
      rw [decide_eq_true hd, Bool.true_and]
      by_cases b0 : b = 0
      · have c := cal_72 (F := F) (σ := σ) (h := h) (k := ((h - a - b : Nat) : Int)) (t := 1) (i := 0) (by omega) (by omega) z2 bz (by omega) (by omega) wd j1 r1.1 r1.2
        rw [if_pos b0]
        simp (disch := omega) only [Rules_allows, x0, s2, bt, kk, w1, ↓reduceIte, jw_id, jlt_T, jlt_F, jle_T, jle_F, jeq_T, jeq_F, and_self, and_true, true_and, and_false, false_and, or_true, true_or, or_false, false_or, not_true_eq_false, not_false_eq_true, jbs, jup_s, jup_k, jup_o]
        exact c
      · by_cases a0 : a = 0
        · have c := cal_72 (F := F) (σ := σ) (h := h) (k := ((h - a - b : Nat) : Int)) (t := 2) (i := 0) (by omega) (by omega) z2 bz (by omega) (by omega) wd j2 r2.1 r2.2
          rw [if_neg b0, if_pos a0]
          simp (disch := omega) only [Rules_allows, x0, s2, bt, kk, w1, ↓reduceIte, jw_id, jlt_T, jlt_F, jle_T, jle_F, jeq_T, jeq_F, and_self, and_true, true_and, and_false, false_and, or_true, true_or, or_false, false_or, not_true_eq_false, not_false_eq_true, jbs, jup_s, jup_k, jup_o]
          exact c
        · have c := cal_72 (F := F) (σ := σ) (h := h) (k := ((h - a - b : Nat) : Int)) (t := 4) (i := 0) (by omega) (by omega) z2 bz (by omega) (by omega) wd j4 r4.1 r4.2
          rw [if_neg b0, if_neg a0]
          simp (disch := omega) only [Rules_allows, x0, s2, bt, kk, w1, ↓reduceIte, jw_id, jlt_T, jlt_F, jle_T, jle_F, jeq_T, jeq_F, and_self, and_true, true_and, and_false, false_and, or_true, true_or, or_false, false_or, not_true_eq_false, not_false_eq_true, jbs, jup_s, jup_k, jup_o]
          exact c
    · rw [decide_eq_false hd]
      simp only [Bool.false_and, Bool.false_eq_true, if_false]
      simp (disch := omega) only [Rules_allows, x0, s2, bt, w1, ↓reduceIte, jw_id, jlt_T, jlt_F, jle_T, jle_F, jeq_T, jeq_F, and_self, and_true, true_and, and_false, false_and, or_true, true_or, or_false, false_or, not_true_eq_false, not_false_eq_true, jbs, jup_s, jup_k, jup_o]
  · rw [hal] at bt
    simp only [if_true, Bool.true_or] at bt ⊢
    simp (disch := omega) only [Rules_allows, x0, s2, bt, ↓reduceIte, jw_id, jlt_T, jlt_F, jle_T, jle_F, jeq_T, jeq_F, and_self, and_true, true_and, and_false, false_and, or_true, true_or, or_false, false_or, not_true_eq_false, not_false_eq_true, jbs, jup_s, jup_k, jup_o]
theorem RulA_fr {σ σ' : jxS} {P : Nat → Int → Prop} {d : Nat} {dg : Nat → Nat} {al nv : Nat → Nat → Bool} (h : RulA σ d dg al nv) (f : jfr P σ σ') (h1 : ¬ P 10 8) (h2 : ∀ a j, 11 ≤ a → a ≤ 13 → ¬ P a j) : RulA σ' d dg al nv := by
  obtain ⟨d8, dl, w1, w2, w3, w4⟩ := h
  refine ⟨d8, dl, by rw [f 10 8 h1]; exact w1, fun i hi => by rw [f 11 _ (h2 _ _ (by omega) (by omega))]; exact w2 i hi, fun g g1 g2 => ?_, fun g a g1 g2 g3 => ?_⟩
  · obtain ⟨s, s1, s2, s3⟩ := w3 g g1 g2
    exact ⟨s, s1, by rw [f 12 _ (h2 _ _ (by omega) (by omega))]; exact s2, s3⟩
  · obtain ⟨s, s1, s2, s3⟩ := w4 g a g1 g2 g3
    exact ⟨s, s1, by rw [f 13 _ (h2 _ _ (by omega) (by omega))]; exact s2, s3⟩
theorem ca_rules {F : Nat} {σ : jxS} {d : Nat} {dg : Nat → Nat} {al nv : Nat → Nat → Bool} (hA : RulA σ d dg al nv) (z : σ 16 0 = 0 ∧ σ 17 0 = 0 ∧ σ 18 0 = 0) (hF : 1000 ≤ F) : ∃ σ', Rules_learn_c102 F σ = some (0, σ') ∧ jfr (fun a j => MP a j ∨ JP a j) σ σ' ∧ RulC σ' (Mof (isMv d dg al nv)) ∧ RulN σ' (Mof (isMv d dg al nv)) ∧ RulL σ' (Mof (isMv d dg al nv)) ∧ (σ' 16 0 = 0 ∧ σ' 17 0 = 0 ∧ σ' 18 0 = 0) := by
  have hM := Mof_ok (isMv d dg al nv)
  obtain ⟨σ1, a1, a2, a3⟩ := ca_listMoves (F := F) (σ := σ) (P := isMv d dg al nv) (fun σ' f h a b h1 h2 hab hs => ca_allows (RulA_fr hA f (by simp [MP]) (fun a j q1 q2 => by simp [MP]; omega)) h1 h2 hab hs) hF
  have z1 : σ1 16 0 = 0 ∧ σ1 17 0 = 0 ∧ σ1 18 0 = 0 := by rw [a2 16 _ (by simp [MP]), a2 17 _ (by simp [MP]), a2 18 _ (by simp [MP])]; exact z
  obtain ⟨σ2, b1, b2, b3⟩ := ca_judges (F := F) hM a3 z1 hF 12 F 1 σ1 (by omega) (by omega) (by omega) (jfr_refl _ _) (fun g hg => by
    have : g = 0 := by omega
    subst this
    rw [nim_0, hle_0, hmo_0]
    exact z1)
  refine ⟨σ2, ?_, jfr_trans (jfr_mono a2 (fun a j h => Or.inl h)) (jfr_mono b2 (fun a j h => Or.inr h)), RulC_fr a3 b2 (fun j => by simp [JP]) (fun j => by simp [JP]), fun h h1 h2 => (b3 h (by omega)).1, fun h h1 h2 => (b3 h (by omega)).2, ?_⟩
  · rw [Rules_learn_c102, a1, jbs]
    exact b1
  · have := b3 0 (by omega)
    rw [nim_0, hle_0, hmo_0] at this
    exact this
