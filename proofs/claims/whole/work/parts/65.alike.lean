/-! Whether two quotients are alike, both sides. -/
def agr (n : Nat) (s s' : qsT) (e : Nat) : Prop := ∀ h, 1 ≤ h → h ≤ n → s.2 e h = s'.2 e h
def alk (M : Nat → List Nat) (n : Nat) (s s' : qsT) : Prop := s'.1.length = s.1.length ∧ lsF M s' = lsF M s ∧ ∀ e, e < s.1.length → agr n s s' e
noncomputable def alb (M : Nat → List Nat) (n : Nat) (s s' : qsT) : Bool := @decide (alk M n s s') (Classical.propDecidable _)
theorem alb_t {M : Nat → List Nat} {n : Nat} {s s' : qsT} (h : alk M n s s') : alb M n s s' = true := @decide_eq_true _ (Classical.propDecidable _) h
theorem alb_f {M : Nat → List Nat} {n : Nat} {s s' : qsT} (h : ¬ alk M n s s') : alb M n s s' = false := @decide_eq_false _ (Classical.propDecidable _) h
section AL
variable {F n m q q1 : Nat} {σ : jxS} {M : Nat → List Nat} {s s' : qsT}
theorem cal_in {k26 : Int → jxS → Option jxR} {e : Nat} (n6 : n ≤ 6) (m6 : m ≤ 6) (nm : n ≤ m) (hQ : QK σ M q n s) (hQ' : QK σ M q1 m s') (he : e < s.1.length) (he' : e < s'.1.length) : ∀ (k fu h : Nat), k + h = n + 1 → 1 ≤ h → k < fu → (∀ g, 1 ≤ g → g < h → s.2 e g = s'.2 e g) → (agr n s s' e ∧ Quotient_isAlike_c36 F q q1 k26 fu e h σ = k26 ((e : Int) + 1) σ) ∨ (¬ agr n s s' e ∧ Quotient_isAlike_c36 F q q1 k26 fu e h σ = some (0, σ)) := by
  have w0 := hQ.1.1
  intro k
  induction k with
  | zero =>
    intro fu h e1 e2 e3 hg
    obtain ⟨fu, rfl⟩ : ∃ k, fu = k + 1 := ⟨fu - 1, by omega⟩
    left
    refine ⟨fun g g1 g2 => hg g g1 (by omega), ?_⟩
    rw [Quotient_isAlike_c36, if_pos (show jw (σ q 0) < jw (h : Int) by rw [w0]; unfold jw; omega)]
  | succ k ih =>
    intro fu h e1 e2 e3 hg
    obtain ⟨fu, rfl⟩ : ∃ k, fu = k + 1 := ⟨fu - 1, by omega⟩
    have x1 := cq_next (F := F) n6 hQ he e2 (show h ≤ n by omega)
    have x2 := cq_next (F := F) m6 hQ' he' e2 (show h ≤ m by omega)
    have b1 := hQ.2.1.2.2 e h he e2 (by omega)
    have b2 := hQ'.2.1.2.2 e h he' e2 (by omega)
    have l1 := hQ.2.1.1.2
    have l2 := hQ'.2.1.1.2
    have j1 : jw (s.2 e h : Int) = (s.2 e h : Int) := jw_id (by omega) (by omega)
    have j2 : jw (s'.2 e h : Int) = (s'.2 e h : Int) := jw_id (by omega) (by omega)
    rw [Quotient_isAlike_c36, if_neg (show ¬ jw (σ q 0) < jw (h : Int) by rw [w0]; unfold jw; omega), x1, jbs]
    dsimp only
    rw [x2, jbs]
    dsimp only
    rw [j1, j2]
    by_cases z : s.2 e h = s'.2 e h
    · rw [if_pos (show (s.2 e h : Int) = (s'.2 e h : Int) by rw [z])]
      have i1 := ih fu (h + 1) (by omega) (by omega) (by omega) (fun g g1 g2 => by
        by_cases y : g = h
        · rw [y]; exact z
        · exact hg g g1 (by omega))
      rw [Int.natCast_add, Int.natCast_one] at i1
      exact i1
    · right
      rw [if_neg (show ¬ (s.2 e h : Int) = (s'.2 e h : Int) from fun c => z (by first | exact Int.ofNat_inj.mp c | exact Int.natCast_inj.mp c))]
      exact ⟨fun a => z (a h e2 (by omega)), rfl⟩
theorem cal_out (n6 : n ≤ 6) (m6 : m ≤ 6) (nm : n ≤ m) (hQ : QK σ M q n s) (hQ' : QK σ M q1 m s') (hl : s'.1.length = s.1.length) (hF : 100 ≤ F) : ∀ (k fu e : Nat), k + e = s.1.length → k < fu → (∀ g, g < e → agr n s s' g) → ((∀ g, g < s.1.length → agr n s s' g) ∧ Quotient_isAlike_c26 F q q1 fu e σ = some (1, σ)) ∨ (¬ (∀ g, g < s.1.length → agr n s s' g) ∧ Quotient_isAlike_c26 F q q1 fu e σ = some (0, σ)) := by
  have w7 := hQ.1.2.2.2.2.1
  have l1 := hQ.2.1.1.2
  intro k
  induction k with
  | zero =>
    intro fu e e1 e2 hg
    obtain ⟨fu, rfl⟩ : ∃ k, fu = k + 1 := ⟨fu - 1, by omega⟩
    left
    refine ⟨fun g g1 => hg g (by omega), ?_⟩
    rw [Quotient_isAlike_c26, if_neg (show ¬ jw (e : Int) < jw (σ q 7) by rw [w7]; unfold jw; omega)]
  | succ k ih =>
    intro fu e e1 e2 hg
    obtain ⟨fu, rfl⟩ : ∃ k, fu = k + 1 := ⟨fu - 1, by omega⟩
    have st : Quotient_isAlike_c26 F q q1 (fu + 1) e σ = Quotient_isAlike_c36 F q q1 (Quotient_isAlike_c26 F q q1 fu) F e ((1 : Nat) : Int) σ := by
      rw [Quotient_isAlike_c26, if_pos (show jw (e : Int) < jw (σ q 7) by rw [w7]; unfold jw; omega)]
      rfl
    rw [st]
    rcases cal_in (F := F) (k26 := Quotient_isAlike_c26 F q q1 fu) n6 m6 nm hQ hQ' (show e < s.1.length by omega) (show e < s'.1.length by omega) n F 1 (by omega) (by omega) (by omega) (fun g g1 g2 => by omega) with ⟨a, b⟩ | ⟨a, b⟩
    · rw [b]
      have i1 := ih fu (e + 1) (by omega) (by omega) (fun g g1 => by
        by_cases y : g = e
        · rw [y]; exact a
        · exact hg g (by omega))
      rw [Int.natCast_add, Int.natCast_one] at i1
      exact i1
    · right
      exact ⟨fun c => a (c e (by omega)), b⟩
theorem ck_alike (n6 : n ≤ 6) (m6 : m ≤ 6) (nm : n ≤ m) (hQ : QK σ M q n s) (hQ' : QK σ M q1 m s') (hF : 100 ≤ F) : Quotient_isAlike F q q1 σ = some (if alb M n s s' then 1 else 0, σ) := by
  have w7 := hQ.1.2.2.2.2.1
  have w7' := hQ'.1.2.2.2.2.1
  have l1 := hQ.2.1.1.2
  have l2 := hQ'.2.1.1.2
  have j1 : jw (σ q 7) = (s.1.length : Int) := by rw [w7, jw_id (by omega) (by omega)]
  have j2 : jw (σ q1 7) = (s'.1.length : Int) := by rw [w7', jw_id (by omega) (by omega)]
  have lo1 := cs_lostF (F := F) hQ (by omega)
  have lo2 := cs_lostF (F := F) hQ' (by omega)
  have b1 : lsF M s < 65536 := lsF_lt (M := M) hQ.2.1
  have b2 : lsF M s' < 65536 := lsF_lt (M := M) hQ'.2.1
  rw [Quotient_isAlike]
  by_cases y : s'.1.length = s.1.length
  · rw [if_pos (show jw (σ q1 7) = jw (σ q 7) by rw [j1, j2, y]), lo2, jbs]
    dsimp only
    rw [lo1, jbs]
    dsimp only
    by_cases z : lsF M s' = lsF M s
    · rw [if_pos (show jw (lsF M s' : Int) = jw (lsF M s : Int) by rw [z])]
      rcases cal_out (F := F) n6 m6 nm hQ hQ' y hF s.1.length F 0 (Nat.add_zero _) (by omega) (fun g g1 => by omega) with ⟨a, b⟩ | ⟨a, b⟩
      · rw [alb_t ⟨y, z, a⟩]; exact b
      · rw [alb_f (fun c => a c.2.2)]; exact b
    · have nz : ¬ jw (lsF M s' : Int) = jw (lsF M s : Int) := by rw [jw_id (by omega) (by omega), jw_id (by omega) (by omega)]; omega
      rw [if_neg nz, alb_f (fun c => z c.2.1)]
      rfl
  · rw [if_neg (show ¬ jw (σ q1 7) = jw (σ q 7) by rw [j1, j2]; omega), alb_f (fun c => y c.1)]
    rfl
theorem ck_alike0 (hQ : QK σ M q n s) (h : σ q1 7 = -3) : Quotient_isAlike F q q1 σ = some (0, σ) := by
  have w7 := hQ.1.2.2.2.2.1
  have l1 := hQ.2.1.1
  have j1 : jw (σ q 7) = (s.1.length : Int) := by rw [w7, jw_id (by omega) (by omega)]
  have j2 : jw (σ q1 7) = -3 := by rw [h]; decide
  rw [Quotient_isAlike, if_neg (show ¬ jw (σ q1 7) = jw (σ q 7) by rw [j1, j2]; omega)]
/-- the reference -/
theorem ral_in {k34 : Int → Int → Int → jxS → Option jxR} {e : Nat} (n6 : n ≤ 6) (m6 : m ≤ 6) (nm : n ≤ m) (hQ : RQ σ n s) (hQ' : RQ σ m s') (he : e < s.1.length) (he' : e < s'.1.length) : ∀ (k fu h : Nat), k + h = n + 1 → 1 ≤ h → k < fu → (∀ g, 1 ≤ g → g < h → s.2 e g = s'.2 e g) → (agr n s s' e ∧ Model_areAlike_c47 F k34 fu n m e h σ = k34 n m ((e : Int) + 1) σ) ∨ (¬ agr n s s' e ∧ Model_areAlike_c47 F k34 fu n m e h σ = some (0, σ)) := by
  intro k
  induction k with
  | zero =>
    intro fu h e1 e2 e3 hg
    obtain ⟨fu, rfl⟩ : ∃ k, fu = k + 1 := ⟨fu - 1, by omega⟩
    left
    refine ⟨fun g g1 g2 => hg g g1 (by omega), ?_⟩
    rw [Model_areAlike_c47, if_pos (show jw (n : Int) < jw (h : Int) by unfold jw; omega)]
  | succ k ih =>
    intro fu h e1 e2 e3 hg
    obtain ⟨fu, rfl⟩ : ∃ k, fu = k + 1 := ⟨fu - 1, by omega⟩
    have x1 := rq_next (F := F) n6 hQ he e2 (show h ≤ n by omega)
    have x2 := rq_next (F := F) m6 hQ' he' e2 (show h ≤ m by omega)
    have b1 := hQ.2.1.2.2 e h he e2 (by omega)
    have b2 := hQ'.2.1.2.2 e h he' e2 (by omega)
    have l1 := hQ.2.1.1.2
    have l2 := hQ'.2.1.1.2
    have j1 : jw (s.2 e h : Int) = (s.2 e h : Int) := jw_id (by omega) (by omega)
    have j2 : jw (s'.2 e h : Int) = (s'.2 e h : Int) := jw_id (by omega) (by omega)
    rw [Model_areAlike_c47, if_neg (show ¬ jw (n : Int) < jw (h : Int) by unfold jw; omega), x1, jbs]
    dsimp only
    rw [x2, jbs]
    dsimp only
    rw [j1, j2]
    by_cases z : s.2 e h = s'.2 e h
    · rw [if_pos (show (s.2 e h : Int) = (s'.2 e h : Int) by rw [z])]
      have i1 := ih fu (h + 1) (by omega) (by omega) (by omega) (fun g g1 g2 => by
        by_cases y : g = h
        · rw [y]; exact z
        · exact hg g g1 (by omega))
      rw [Int.natCast_add, Int.natCast_one] at i1
      exact i1
    · right
      rw [if_neg (show ¬ (s.2 e h : Int) = (s'.2 e h : Int) from fun c => z (by first | exact Int.ofNat_inj.mp c | exact Int.natCast_inj.mp c))]
      exact ⟨fun a => z (a h e2 (by omega)), rfl⟩
theorem ral_out (n6 : n ≤ 6) (m6 : m ≤ 6) (nm : n ≤ m) (hQ : RQ σ n s) (hQ' : RQ σ m s') (hl : s'.1.length = s.1.length) (hF : 100 ≤ F) : ∀ (k fu e : Nat), k + e = s.1.length → k < fu → (∀ g, g < e → agr n s s' g) → ((∀ g, g < s.1.length → agr n s s' g) ∧ Model_areAlike_c34 F fu n m e σ = some (1, σ)) ∨ (¬ (∀ g, g < s.1.length → agr n s s' g) ∧ Model_areAlike_c34 F fu n m e σ = some (0, σ)) := by
  have w7 := hQ.1.1
  have l1 := hQ.2.1.1.2
  have c0 : 0 ≤ (n : Int) ∧ (n : Int) < 7 := by omega
  intro k
  induction k with
  | zero =>
    intro fu e e1 e2 hg
    obtain ⟨fu, rfl⟩ : ∃ k, fu = k + 1 := ⟨fu - 1, by omega⟩
    left
    refine ⟨fun g g1 => hg g (by omega), ?_⟩
    rw [Model_areAlike_c34, if_pos c0, if_neg (show ¬ jw (e : Int) < jw (σ 31 n) by rw [w7]; unfold jw; omega)]
  | succ k ih =>
    intro fu e e1 e2 hg
    obtain ⟨fu, rfl⟩ : ∃ k, fu = k + 1 := ⟨fu - 1, by omega⟩
    have st : Model_areAlike_c34 F (fu + 1) n m e σ = Model_areAlike_c47 F (Model_areAlike_c34 F fu) F n m e ((1 : Nat) : Int) σ := by
      rw [Model_areAlike_c34, if_pos c0, if_pos (show jw (e : Int) < jw (σ 31 n) by rw [w7]; unfold jw; omega)]
      rfl
    rw [st]
    rcases ral_in (F := F) (k34 := Model_areAlike_c34 F fu) n6 m6 nm hQ hQ' (show e < s.1.length by omega) (show e < s'.1.length by omega) n F 1 (by omega) (by omega) (by omega) (fun g g1 g2 => by omega) with ⟨a, b⟩ | ⟨a, b⟩
    · rw [b]
      have i1 := ih fu (e + 1) (by omega) (by omega) (fun g g1 => by
        by_cases y : g = e
        · rw [y]; exact a
        · exact hg g (by omega))
      rw [Int.natCast_add, Int.natCast_one] at i1
      exact i1
    · right
      exact ⟨fun c => a (c e (by omega)), b⟩
theorem rk_alike (n6 : n ≤ 6) (m6 : m ≤ 6) (nm : n ≤ m) (hQ : RQ σ n s) (hQ' : RQ σ m s') (v1 : σ 34 n = (lsF M s : Int)) (v2 : σ 34 m = (lsF M s' : Int)) (hF : 100 ≤ F) : Model_areAlike F σ n m = some (if alb M n s s' then 1 else 0, σ) := by
  have w7 := hQ.1.1
  have w7' := hQ'.1.1
  have l1 := hQ.2.1.1.2
  have l2 := hQ'.2.1.1.2
  have c0 : 0 ≤ (n : Int) ∧ (n : Int) < 7 := by omega
  have c1 : 0 ≤ (m : Int) ∧ (m : Int) < 7 := by omega
  have j1 : jw (σ 31 n) = (s.1.length : Int) := by rw [w7, jw_id (by omega) (by omega)]
  have j2 : jw (σ 31 m) = (s'.1.length : Int) := by rw [w7', jw_id (by omega) (by omega)]
  have b1 : lsF M s < 65536 := lsF_lt (M := M) hQ.2.1
  have b2 : lsF M s' < 65536 := lsF_lt (M := M) hQ'.2.1
  rw [Model_areAlike, if_pos c1, if_pos c0]
  by_cases y : s'.1.length = s.1.length
  · rw [if_pos (show jw (σ 31 m) = jw (σ 31 n) by rw [j1, j2, y]), if_pos c1, if_pos c0]
    by_cases z : lsF M s' = lsF M s
    · rw [if_pos (show jw (σ 34 m) = jw (σ 34 n) by rw [v1, v2, z])]
      rcases ral_out (F := F) n6 m6 nm hQ hQ' y hF s.1.length F 0 (Nat.add_zero _) (by omega) (fun g g1 => by omega) with ⟨a, b⟩ | ⟨a, b⟩
      · rw [alb_t ⟨y, z, a⟩]; exact b
      · rw [alb_f (fun c => a c.2.2)]; exact b
    · have nz : ¬ jw (σ 34 m) = jw (σ 34 n) := by rw [v1, v2, jw_id (by omega) (by omega), jw_id (by omega) (by omega)]; omega
      rw [if_neg nz, alb_f (fun c => z c.2.1)]
      rfl
  · rw [if_neg (show ¬ jw (σ 31 m) = jw (σ 31 n) by rw [j1, j2]; omega), alb_f (fun c => y c.1)]
    rfl
end AL
