/-! Quotients: sets, steadiness, powers: the reference's side, and the class's steadiness. -/
section RS
variable {F n L : Nat} {σ : jxS} {M : Nat → List Nat} {s : qsT}
theorem rs_comes (n1 : 1 ≤ n) (n6 : n ≤ 6) (hQ : RQ σ n s) (hL : s.1.length = L) {e : Nat} (he : e < L) (hF : 100 ≤ F) : ∀ (m fu g acc : Nat), m + g = L → m < fu → acc < 2 ^ 16 → Model_comesOf_c5 F fu n e acc g σ = some ((rcN s n e m g acc : Int), σ) := by
  have w1 : σ 31 n = (L : Int) := by rw [← hL]; exact hQ.1.1
  have l16 : L ≤ 16 := by rw [← hL]; exact hQ.2.1.1.2
  have c0 : 0 ≤ (n : Int) ∧ (n : Int) < 7 := by omega
  intro m
  induction m with
  | zero =>
    intro fu g acc e1 e2 e3
    obtain ⟨fu, rfl⟩ : ∃ k, fu = k + 1 := ⟨fu - 1, by omega⟩
    have c : ¬ jw (g : Int) < jw (σ 31 n) := by rw [w1]; unfold jw; omega
    rw [Model_comesOf_c5, if_pos c0, if_neg c]
    rfl
  | succ m ih =>
    intro fu g acc e1 e2 e3
    obtain ⟨fu, rfl⟩ : ∃ k, fu = k + 1 := ⟨fu - 1, by omega⟩
    have c : jw (g : Int) < jw (σ 31 n) := by rw [w1]; unfold jw; omega
    have gL : g < s.1.length := by omega
    have eL : e < s.1.length := by omega
    have tm := rq_times (F := F) n1 n6 hQ eL gL hF
    have tl := tms_lt (b := g) hQ.2.1 eL
    obtain ⟨o1, o2⟩ := orN e3 (Nat.lt_of_lt_of_le tl hQ.2.1.1.2)
    have i1 := ih fu (g + 1) (acc ||| 2 ^ tms s n e g) (by omega) (by omega) o2
    rw [Int.natCast_add, Int.natCast_one] at i1
    rw [Model_comesOf_c5, if_pos c0, if_pos c, tm, jbs]
    dsimp only
    rw [o1]
    exact i1
theorem rs_comesF (n1 : 1 ≤ n) (n6 : n ≤ 6) (hQ : RQ σ n s) {e : Nat} (he : e < s.1.length) (hF : 100 ≤ F) : Model_comesOf F σ n e = some ((rcF s n e : Int), σ) := by
  have l16 := hQ.2.1.1.2
  exact rs_comes n1 n6 hQ rfl he hF _ F 0 0 (Nat.add_zero _) (by omega) (by decide)
theorem rs_98 (n1 : 1 ≤ n) (n6 : n ≤ 6) (hQ : RQ σ n s) {e : Nat} (he : e < s.1.length) (hF : 100 ≤ F) {k53 : Int → Int → Int → Int → Int → Int → jxS → Option jxR} {v k t0 t1 : Int} {i : Nat} (hi : i < 2 ^ 16) : Model_sets_c98 F k53 n v k i e t0 t1 σ = k53 n v k (jor t1 t0) ((if tms s n e e = e then i ||| 2 ^ e else i : Nat) : Int) ((e : Int) + 1) σ := by
  have l16 := hQ.2.1.1.2
  have tm := rq_times (F := F) n1 n6 hQ he he hF
  have tl := tms_lt (b := e) hQ.2.1 he
  obtain ⟨o1, o2⟩ := orN hi (show e < 16 by omega)
  rw [Model_sets_c98, tm, jbs]
  dsimp only
  by_cases z : tms s n e e = e
  · rw [if_pos (show jw ((tms s n e e : Nat) : Int) = jw (e : Int) by rw [z]), if_pos z, o1]
  · rw [if_neg (show ¬ jw ((tms s n e e : Nat) : Int) = jw (e : Int) by unfold jw; omega), if_neg z, orZ hi]
theorem rs_loop (n1 : 1 ≤ n) (n6 : n ≤ 6) (hQ : RQ σ n s) (hL : s.1.length = L) (hF : 100 ≤ F) {v : Int} : ∀ (m fu e k u i : Nat), m + e = L → m < fu → k < 2 ^ 16 → u < 2 ^ 16 → i < 2 ^ 16 → ∃ g, Model_sets_c53 F fu n v k u i e σ = Model_sets_c53 F (g + 1) n v (krN s n m e k) (unN s n m e u) (idN s n m e i) L σ := by
  have w1 : σ 31 n = (L : Int) := by rw [← hL]; exact hQ.1.1
  have l16 : L ≤ 16 := by rw [← hL]; exact hQ.2.1.1.2
  have c0 : 0 ≤ (n : Int) ∧ (n : Int) < 7 := by omega
  intro m
  induction m with
  | zero =>
    intro fu e k u i e1 e2 _ _ _
    obtain ⟨fu, rfl⟩ : ∃ k, fu = k + 1 := ⟨fu - 1, by omega⟩
    exact ⟨fu, by rw [show e = L by omega]; rfl⟩
  | succ m ih =>
    intro fu e k u i e1 e2 hk hu hi
    obtain ⟨fu, rfl⟩ : ∃ k, fu = k + 1 := ⟨fu - 1, by omega⟩
    have c : jw (e : Int) < jw (σ 31 n) := by rw [w1]; unfold jw; omega
    have eL : e < s.1.length := by omega
    have cm := rs_comesF (F := F) n1 n6 hQ eL hF
    obtain ⟨a1, a2⟩ := adN (b := rcF s n e) hk
    obtain ⟨o1, o2⟩ := orN hu (show e < 16 by omega)
    obtain ⟨_, b2⟩ := bit0N (rcF_lt hQ.2.1 eL)
    have hi' : (if tms s n e e = e then i ||| 2 ^ e else i) < 2 ^ 16 := by
      split
      · exact (orN hi (show e < 16 by omega)).2
      · exact hi
    have e1' : m + (e + 1) = L := by omega
    have e2' : m < fu := by omega
    have ee : ((e + 1 : Nat) : Int) = (e : Int) + 1 := by omega
    simp only [krN, unN, idN]
    cases ht : (rcF s n e).testBit 0
    · rw [ht] at b2
      simp only [Bool.false_eq_true, if_false] at b2 ⊢
      obtain ⟨g, i1⟩ := ih fu (e + 1) (k &&& rcF s n e) u _ e1' e2' a2 hu hi'
      refine ⟨g, ?_⟩
      rw [← i1, ee]
      have hh : Model_has F σ (rcF s n e) 0 = some (0, σ) := by
        rw [Model_has, if_neg (show ¬ jw (jand (jshr (rcF s n e : Int) 0) 1) = 1 by rw [b2]; decide)]
      rw [Model_sets_c53, if_pos c0, if_pos c, cm, jbs]
      dsimp only
      rw [cm, jbs]
      dsimp only
      rw [hh, jbs]
      dsimp only
      rw [if_pos (show jw 0 = 0 from rfl), rs_98 n1 n6 hQ eL hF hi, a1, orZ hu]
    · rw [ht] at b2
      simp only [if_true] at b2 ⊢
      obtain ⟨g, i1⟩ := ih fu (e + 1) (k &&& rcF s n e) (u ||| 2 ^ e) _ e1' e2' a2 o2 hi'
      refine ⟨g, ?_⟩
      rw [← i1, ee]
      have hh : Model_has F σ (rcF s n e) 0 = some (1, σ) := by
        rw [Model_has, if_pos (show jw (jand (jshr (rcF s n e : Int) 0) 1) = 1 by rw [b2]; decide)]
      rw [Model_sets_c53, if_pos c0, if_pos c, cm, jbs]
      dsimp only
      rw [cm, jbs]
      dsimp only
      rw [hh, jbs]
      dsimp only
      rw [if_neg (show ¬ jw 1 = 0 by decide), rs_98 n1 n6 hQ eL hF hi, a1, o1]
end RS
theorem rk_sets {F n : Nat} {σ : jxS} {M : Nat → List Nat} {s : qsT} {v : Int} (n1 : 1 ≤ n) (n6 : n ≤ 6) (hQ : RQ σ n s) (wl : σ 34 n = (lsF M s : Int)) (hv : 0 ≤ v) (hv3 : v ≤ 3) (hF : 100 ≤ F) : Model_sets_c53 F F n v ((jshl 1 (σ 31 n)) - 1) 0 0 0 σ = some (setA M s n v, σ) := by
  have l16 := hQ.2.1.1.2
  have l1 := hQ.2.1.1.1
  have w1 := hQ.1.1
  have c0 : 0 ≤ (n : Int) ∧ (n : Int) < 7 := by omega
  obtain ⟨g, i1⟩ := rs_loop (F := F) (v := v) n1 n6 hQ rfl hF s.1.length F 0 (2 ^ s.1.length - 1) 0 0 (Nat.add_zero _) (by omega) (by
    have p : 2 ^ s.1.length ≤ 2 ^ 16 := Nat.pow_le_pow_right (by decide) l16
    have pp : 0 < 2 ^ s.1.length := Nat.two_pow_pos _
    generalize 2 ^ s.1.length = x at p pp
    omega) (by decide) (by decide)
  have i1' : Model_sets_c53 F F n v ((2 ^ s.1.length - 1 : Nat) : Int) 0 0 0 σ = _ := i1
  rw [w1, full_set l1 l16, i1']
  have c : ¬ jw (s.1.length : Int) < jw (σ 31 n) := by rw [w1]; exact Int.lt_irrefl _
  rw [Model_sets_c53, if_pos c0, if_neg c]
  unfold setA
  have hc : v = 0 ∨ v = 1 ∨ v = 2 ∨ v = 3 := by omega
  rcases hc with rfl | rfl | rfl | rfl
  · rw [if_pos (show jw 0 = 0 from rfl), if_pos c0, wl]; rfl
  · rw [if_neg (show ¬ jw 1 = 0 by decide), if_pos (show jw 1 = 1 by decide)]; rfl
  · rw [if_neg (show ¬ jw 2 = 0 by decide), if_neg (show ¬ jw 2 = 1 by decide), if_pos (show jw 2 = 2 by decide)]; rfl
  · rw [if_neg (show ¬ jw 3 = 0 by decide), if_neg (show ¬ jw 3 = 1 by decide), if_neg (show ¬ jw 3 = 2 by decide)]; rfl
/-- steady -/
def stdy (s : qsT) (n : Nat) : Prop := ∀ e g h, e < s.1.length → 1 ≤ g → g ≤ n → 1 ≤ h → h ≤ n → s.2 (s.2 e g) h = s.2 (s.2 e h) g
noncomputable def stb (s : qsT) (n : Nat) : Bool := @decide (stdy s n) (Classical.propDecidable _)
theorem stb_iff {s : qsT} {n : Nat} : stb s n = true ↔ stdy s n := @decide_eq_true_iff _ (Classical.propDecidable _)
section ST
variable {F q n L : Nat} {σ : jxS} {M : Nat → List Nat} {s : qsT}
theorem cst_in (n6 : n ≤ 6) (hQ : QK σ M q n s) {k2 : Int → jxS → Option jxR} {k12 : Int → Int → jxS → Option jxR} {e g : Nat} (he : e < s.1.length) (g1 : 1 ≤ g) (g2 : g ≤ n) : ∀ (m fu h : Nat), m + h = g → 1 ≤ h → m < fu → (Quotient_isSteady_c22 F q k2 k12 fu e g h σ = k12 e ((g : Int) + 1) σ ∧ ∀ x, h ≤ x → x < g → s.2 (s.2 e g) x = s.2 (s.2 e x) g) ∨ (Quotient_isSteady_c22 F q k2 k12 fu e g h σ = some (0, σ) ∧ ∃ x, h ≤ x ∧ x < g ∧ s.2 (s.2 e g) x ≠ s.2 (s.2 e x) g) := by
  have l16 := hQ.2.1.1.2
  have lt := hQ.2.1.2.2
  intro m
  induction m with
  | zero =>
    intro fu h e1 e2 e3
    obtain ⟨fu, rfl⟩ : ∃ k, fu = k + 1 := ⟨fu - 1, by omega⟩
    refine Or.inl ⟨?_, fun x x1 x2 => by omega⟩
    rw [Quotient_isSteady_c22, if_neg (show ¬ jw (h : Int) < jw (g : Int) by unfold jw; omega)]
  | succ m ih =>
    intro fu h e1 e2 e3
    obtain ⟨fu, rfl⟩ : ∃ k, fu = k + 1 := ⟨fu - 1, by omega⟩
    have a1 := cq_next (F := F) n6 hQ he g1 g2
    have lg := lt e g he g1 g2
    have lh := lt e h he e2 (by omega)
    have a2 := cq_next (F := F) n6 hQ lg e2 (show h ≤ n by omega)
    have a3 := cq_next (F := F) n6 hQ he e2 (show h ≤ n by omega)
    have a4 := cq_next (F := F) n6 hQ lh g1 g2
    have l3 := lt (s.2 e g) h lg e2 (by omega)
    have l4 := lt (s.2 e h) g lh g1 g2
    have hh : ((h + 1 : Nat) : Int) = (h : Int) + 1 := by omega
    have st : Quotient_isSteady_c22 F q k2 k12 (fu + 1) e g h σ = if jw (s.2 (s.2 e g) h : Int) = jw (s.2 (s.2 e h) g : Int) then Quotient_isSteady_c22 F q k2 k12 fu e g ((h : Int) + 1) σ else some (0, σ) := by
      rw [Quotient_isSteady_c22, if_pos (show jw (h : Int) < jw (g : Int) by unfold jw; omega), a1, jbs]
      dsimp only
      rw [a2, jbs]
      dsimp only
      rw [a3, jbs]
      dsimp only
      rw [a4, jbs]
    by_cases z : s.2 (s.2 e g) h = s.2 (s.2 e h) g
    · rw [st, if_pos (by rw [z]), ← hh]
      rcases ih fu (h + 1) (by omega) (by omega) (by omega) with ⟨i1, i2⟩ | ⟨i1, x, x1, x2, x3⟩
      · refine Or.inl ⟨i1, fun x x1 x2 => ?_⟩
        by_cases y : x = h
        · subst y; exact z
        · exact i2 x (by omega) x2
      · exact Or.inr ⟨i1, x, by omega, x2, x3⟩
    · rw [st, if_neg (by unfold jw; omega)]
      exact Or.inr ⟨rfl, h, Nat.le_refl _, by omega, z⟩
theorem cst_mid (n6 : n ≤ 6) (hQ : QK σ M q n s) (hF : 100 ≤ F) {k2 : Int → jxS → Option jxR} {e : Nat} (he : e < s.1.length) : ∀ (m fu g : Nat), m + g = n + 1 → 1 ≤ g → m < fu → (Quotient_isSteady_c12 F q k2 fu e g σ = k2 ((e : Int) + 1) σ ∧ ∀ y x, g ≤ y → y ≤ n → 1 ≤ x → x < y → s.2 (s.2 e y) x = s.2 (s.2 e x) y) ∨ (Quotient_isSteady_c12 F q k2 fu e g σ = some (0, σ) ∧ ¬ stdy s n) := by
  have w0 := hQ.1.1
  intro m
  induction m with
  | zero =>
    intro fu g e1 e2 e3
    obtain ⟨fu, rfl⟩ : ∃ k, fu = k + 1 := ⟨fu - 1, by omega⟩
    refine Or.inl ⟨?_, fun y x y1 y2 => by omega⟩
    rw [Quotient_isSteady_c12, if_pos (show jw (σ q 0) < jw (g : Int) by rw [w0]; unfold jw; omega)]
  | succ m ih =>
    intro fu g e1 e2 e3
    obtain ⟨fu, rfl⟩ : ∃ k, fu = k + 1 := ⟨fu - 1, by omega⟩
    have st : Quotient_isSteady_c12 F q k2 (fu + 1) e g σ = Quotient_isSteady_c22 F q k2 (Quotient_isSteady_c12 F q k2 fu) F e g 1 σ := by
      rw [Quotient_isSteady_c12, if_neg (show ¬ jw (σ q 0) < jw (g : Int) by rw [w0]; unfold jw; omega)]
    have gg : ((g + 1 : Nat) : Int) = (g : Int) + 1 := by omega
    rcases cst_in (F := F) (k2 := k2) (k12 := Quotient_isSteady_c12 F q k2 fu) n6 hQ he e2 (by omega) (g - 1) F 1 (by omega) (by omega) (by omega) with ⟨a1, a2⟩ | ⟨a1, x, x1, x2, x3⟩
    · have a1' : Quotient_isSteady_c22 F q k2 (Quotient_isSteady_c12 F q k2 fu) F e g 1 σ = _ := a1
      rw [st, a1', ← gg]
      rcases ih fu (g + 1) (by omega) (by omega) (by omega) with ⟨i1, i2⟩ | i
      · refine Or.inl ⟨i1, fun y x y1 y2 x1 x2 => ?_⟩
        by_cases z : y = g
        · subst z; exact a2 x x1 x2
        · exact i2 y x (by omega) y2 x1 x2
      · exact Or.inr i
    · have a1' : Quotient_isSteady_c22 F q k2 (Quotient_isSteady_c12 F q k2 fu) F e g 1 σ = _ := a1
      rw [st, a1']
      exact Or.inr ⟨rfl, fun hs => x3 (hs e g x he e2 (by omega) (by omega) (by omega))⟩
theorem cst_out (n6 : n ≤ 6) (hQ : QK σ M q n s) (hF : 100 ≤ F) (hL : s.1.length = L) : ∀ (m fu e : Nat), m + e = L → m < fu → (∀ a y x, a < e → 1 ≤ x → x < y → y ≤ n → s.2 (s.2 a y) x = s.2 (s.2 a x) y) → Quotient_isSteady_c2 F q fu e σ = some (if stb s n then 1 else 0, σ) := by
  have w4 : σ q 7 = (L : Int) := by rw [← hL]; exact hQ.1.2.2.2.2.1
  have l16 : L ≤ 16 := by rw [← hL]; exact hQ.2.1.1.2
  intro m
  induction m with
  | zero =>
    intro fu e e1 e2 h
    obtain ⟨fu, rfl⟩ : ∃ k, fu = k + 1 := ⟨fu - 1, by omega⟩
    have std : stdy s n := fun a g x ha g1 g2 x1 x2 => by
      rcases Nat.lt_trichotomy g x with q | q | q
      · exact (h a x g (by omega) g1 q x2).symm
      · subst q; rfl
      · exact h a g x (by omega) x1 q g2
    rw [stb_iff.mpr std, Quotient_isSteady_c2, if_neg (show ¬ jw (e : Int) < jw (σ q 7) by rw [w4]; unfold jw; omega)]
    rfl
  | succ m ih =>
    intro fu e e1 e2 h
    obtain ⟨fu, rfl⟩ : ∃ k, fu = k + 1 := ⟨fu - 1, by omega⟩
    have eL : e < s.1.length := by omega
    have st : Quotient_isSteady_c2 F q (fu + 1) e σ = Quotient_isSteady_c12 F q (Quotient_isSteady_c2 F q fu) F e 1 σ := by
      rw [Quotient_isSteady_c2, if_pos (show jw (e : Int) < jw (σ q 7) by rw [w4]; unfold jw; omega)]
    have ee : ((e + 1 : Nat) : Int) = (e : Int) + 1 := by omega
    rcases cst_mid (F := F) (k2 := Quotient_isSteady_c2 F q fu) n6 hQ hF eL n F 1 (by omega) (by omega) (by omega) with ⟨a1, a2⟩ | ⟨a1, a2⟩
    · have a1' : Quotient_isSteady_c12 F q (Quotient_isSteady_c2 F q fu) F e 1 σ = _ := a1
      rw [st, a1', ← ee]
      refine ih fu (e + 1) (by omega) (by omega) (fun a y x ha x1 xy yn => ?_)
      by_cases z : a = e
      · subst z; exact a2 y x (by omega) yn x1 xy
      · exact h a y x (by omega) x1 xy yn
    · have a1' : Quotient_isSteady_c12 F q (Quotient_isSteady_c2 F q fu) F e 1 σ = _ := a1
      have nb : stb s n = false := by
        cases hb : stb s n
        · rfl
        · exact absurd (stb_iff.mp hb) a2
      rw [st, a1', nb]
      rfl
theorem ck_steady (n6 : n ≤ 6) (hQ : QK σ M q n s) (hF : 100 ≤ F) : Quotient_isSteady F q σ = some (if stb s n then 1 else 0, σ) := by
  have l16 := hQ.2.1.1.2
  exact cst_out n6 hQ hF rfl _ F 0 (Nat.add_zero _) (by omega) (fun a y x ha => by omega)
end ST
