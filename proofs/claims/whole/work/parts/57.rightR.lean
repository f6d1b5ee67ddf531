/-! The reference: whether the pairs are right; powers. -/
theorem rar_58 {F lost S n : Nat} {σ : jxS} {k2 : Int → Int → jxS → Option jxR} {i : Int} {b : Bool} (hS : S < 2 ^ 16) : (if jw (S : Int) = 0 then Model_arePairsRight_c57 F k2 n i (if b then 1 else 0) σ else if jw (jand (S : Int) (lost : Int)) = 0 then Model_arePairsRight_c58 F k2 n i (if b then 1 else 0) 1 σ else Model_arePairsRight_c57 F k2 n i (if b then 1 else 0) σ) = if b = (decide (S ≠ 0) && decide (S &&& lost = 0)) then k2 n (i + 1) σ else some (0, σ) := by
  obtain ⟨a1, a2⟩ := adN (b := lost) hS
  have S2 : S < 65536 := hS
  have A2 : S &&& lost < 65536 := a2
  by_cases z : S = 0
  · subst z
    rw [if_pos (show jw ((0 : Nat) : Int) = 0 from rfl), Model_arePairsRight_c57, Model_arePairsRight_c58]
    cases b
    · rw [if_pos (show jw (if false = true then 1 else 0) = jw 0 from rfl)]; simp
    · rw [if_neg (by decide)]; simp
  · have c1 : ¬ jw (S : Int) = 0 := by rw [jw_id (by omega) (by omega)]; omega
    rw [if_neg c1, a1]
    generalize S &&& lost = A at A2
    by_cases y : A = 0
    · subst y
      rw [if_pos (show jw ((0 : Nat) : Int) = 0 from rfl), Model_arePairsRight_c58]
      cases b
      · rw [if_neg (by decide)]; simp [z]
      · rw [if_pos (by decide)]; simp [z]
    · have c2 : ¬ jw (A : Int) = 0 := by rw [jw_id (by omega) (by omega)]; omega
      rw [if_neg c2, Model_arePairsRight_c57, Model_arePairsRight_c58]
      cases b
      · rw [if_pos (show jw (if false = true then 1 else 0) = jw 0 from rfl)]; simp [y]
      · rw [if_neg (by decide)]; simp [y]
theorem rar_loop {F L lost N n : Nat} {σ : jxS} {l : List prT} (n6 : n ≤ 6) (L16 : L ≤ 16) (hl : okP L l) (hS : PL σ l) (hN : l.length = N) (hlo : lost < 2 ^ 16) (w4 : σ 35 n = (N : Int)) (w5 : σ 34 n = (lost : Int)) : ∀ (r : List prT) (fu i : Nat), l.drop i = r → r.length + i = N → r.length < fu → Model_arePairsRight_c2 F fu n i σ = some (if r.all (fitP lost) then 1 else 0, σ) := by
  have N2 : N ≤ 2000 := by rw [← hN]; exact hS.1
  have c0 : 0 ≤ (n : Int) ∧ (n : Int) < 7 := by omega
  intro r
  induction r with
  | nil =>
    intro fu i e1 e2 e3
    obtain ⟨fu, rfl⟩ : ∃ k, fu = k + 1 := ⟨fu - 1, by omega⟩
    simp only [List.length_nil] at e2
    rw [Model_arePairsRight_c2, if_pos c0, if_neg (show ¬ jw (i : Int) < jw (σ 35 n) by rw [w4]; unfold jw; omega)]
    rfl
  | cons x r ih =>
    intro fu i e1 e2 e3
    obtain ⟨fu, rfl⟩ : ∃ k, fu = k + 1 := ⟨fu - 1, by omega⟩
    simp only [List.length_cons] at e2 e3
    obtain ⟨hm, hr⟩ := drop_o e1
    have hx := hl x (List.mem_of_getElem? hm)
    have x2 : x.2 < 2 ^ 16 := Nat.lt_of_lt_of_le hx.2 (Nat.pow_le_pow_right (by decide) L16)
    have x1 : x.1 < 16 := by omega
    obtain ⟨u1, u2⟩ := hS.2 i x hm
    have bt := bq_bit (a := lost) (k := x.1) (by omega) (Nat.lt_of_lt_of_le hlo (by decide))
    have c1 : jw (i : Int) < jw (σ 35 n) := by rw [w4]; unfold jw; omega
    have c3 : 0 ≤ (i : Int) ∧ (i : Int) < 2000 := by omega
    have e2' : r.length + (i + 1) = N := by omega
    have e3' : r.length < fu := by omega
    have i1 := ih fu (i + 1) hr e2' e3'
    rw [Int.natCast_add, Int.natCast_one] at i1
    have hh : Model_has F σ lost x.1 = some (if lost.testBit x.1 then 1 else 0, σ) := by
      rw [Model_has]
      cases hb : lost.testBit x.1
      · rw [hb] at bt
        simp only [Bool.false_eq_true, if_false] at bt ⊢
        rw [if_neg (show ¬ jw (jand (jshr (lost : Int) (x.1 : Int)) 1) = 1 by rw [bt]; decide)]
      · rw [hb] at bt
        simp only [if_true] at bt ⊢
        rw [if_pos (show jw (jand (jshr (lost : Int) (x.1 : Int)) 1) = 1 by rw [bt]; decide)]
    have st : Model_arePairsRight_c2 F (fu + 1) n i σ = (if jw (x.2 : Int) = 0 then Model_arePairsRight_c57 F (Model_arePairsRight_c2 F fu) n i (if lost.testBit x.1 then 1 else 0) σ else if jw (jand (x.2 : Int) (lost : Int)) = 0 then Model_arePairsRight_c58 F (Model_arePairsRight_c2 F fu) n i (if lost.testBit x.1 then 1 else 0) 1 σ else Model_arePairsRight_c57 F (Model_arePairsRight_c2 F fu) n i (if lost.testBit x.1 then 1 else 0) σ) := by
      rw [Model_arePairsRight_c2, if_pos c0, if_pos c1, if_pos c0, if_pos c3, u1, w5, hh, jbs]
      dsimp only
      rw [if_pos c3, if_pos c3, if_pos c0]
      simp only [u2, w5]
    rw [st, rar_58 x2, List.all_cons]
    by_cases z : lost.testBit x.1 = (decide (x.2 ≠ 0) && decide (x.2 &&& lost = 0))
    · have fz : fitP lost x = true := by unfold fitP; rw [z]; simp
      rw [if_pos z, fz, Bool.true_and]
      exact i1
    · have fz : fitP lost x = false := by
        unfold fitP
        cases h : (lost.testBit x.1 == (decide (x.2 ≠ 0) && decide (x.2 &&& lost = 0)))
        · rfl
        · exact absurd (beq_iff_eq.mp h) z
      rw [if_neg z, fz, Bool.false_and]
      rfl
theorem rk_right {F L lost n : Nat} {σ : jxS} {l : List prT} (n6 : n ≤ 6) (L16 : L ≤ 16) (hl : okP L l) (hS : PL σ l) (hlo : lost < 2 ^ 16) (w4 : σ 35 n = (l.length : Int)) (w5 : σ 34 n = (lost : Int)) (hF : 5000 ≤ F) : Model_arePairsRight F σ n = some (if l.all (fitP lost) then 1 else 0, σ) := rar_loop n6 L16 hl hS rfl hlo w4 w5 l F 0 rfl (Nat.add_zero _) (by have := hS.1; omega)
/-- powers -/
theorem rpw_loop {F n e L : Nat} {s : qsT} {v : Int} {σ0 : jxS} (n1 : 1 ≤ n) (n6 : n ≤ 6) (hQ : RQ σ0 n s) (hL : s.1.length = L) (he : e < L) (hv : v = 0 ∨ v = 1) (hF : 100 ≤ F) : ∀ (f : Nat) (free : List Nat) (fu : Nat) (ca : Nat → Nat) (p i : Nat) (σ : jxS), jfr (fun a _ => a = 41) σ0 σ → (∀ x : Nat, x < 16 → σ 41 x = (ca x : Int)) → p < L → (∀ x, x < L → ca x = 0 → x ∈ free) → free.length + i ≤ 17 → free.length < f → free.length < fu → (∀ x, ca x < i) → ∃ σ', Model_power_c72 F fu n e v p i σ = some (if v = 0 then ((pwG s n e f ca p i).1 : Int) else ((pwG s n e f ca p i).2 : Int), σ') ∧ jfr (fun a _ => a = 41) σ0 σ' := by
  have l16 : L ≤ 16 := by rw [← hL]; exact hQ.2.1.1.2
  intro f
  induction f with
  | zero => intro free fu ca p i σ _ _ _ _ _ h; omega
  | succ f ih =>
    intro free fu ca p i σ fr hc hp hfree hi hf hfu hca
    obtain ⟨fu, rfl⟩ : ∃ k, fu = k + 1 := ⟨fu - 1, by omega⟩
    have wp := hc p (by omega)
    have cb := hca p
    have c16 : 0 ≤ (p : Int) ∧ (p : Int) < 16 := by omega
    rw [pwG_s]
    by_cases z : 0 < ca p
    · have cz : ¬ jw (σ 41 (p : Int)) = 0 := by rw [wp, jw_id (by omega) (by omega)]; omega
      refine ⟨σ, ?_, fr⟩
      rw [Model_power_c72, if_pos c16, if_neg cz, if_pos c16, if_pos c16, wp]
      simp only [if_pos z]
      rcases hv with rfl | rfl
      · rw [if_pos (show jw 0 = 0 from rfl), if_pos rfl]
      · rw [if_neg (show ¬ jw 1 = 0 by decide), if_neg (by decide), show (i : Int) - (ca p : Int) = ((i - ca p : Nat) : Int) by omega]
    · have cz : jw (σ 41 (p : Int)) = 0 := by rw [wp, jw_id (by omega) (by omega)]; omega
      have pf := hfree p hp (by omega)
      have fl : (free.erase p).length + 1 = free.length := by
        have := List.length_erase_of_mem pf
        have : 0 < free.length := List.length_pos_of_mem pf
        omega
      have fr2 : jfr (fun a _ => a = 41) σ0 (jup σ 41 p i) := jfr_up fr rfl
      have hQ2 : RQ (jup σ 41 p i) n s := RQ_fr hQ fr2 (fun j => by omega) (fun j => by omega) (fun j => by omega)
      have tm := rq_times (F := F) n1 n6 hQ2 (show p < s.1.length by omega) (show e < s.1.length by omega) hF
      have tl := tms_lt (b := e) hQ.2.1 (show p < s.1.length by omega)
      obtain ⟨σ', i1, i2⟩ := ih (free.erase p) fu (fun x => if x = p then i else ca x) (tms s n p e) (i + 1) (jup σ 41 p i) fr2 (fun x hx => by
        by_cases y : x = p
        · subst y; rw [jup_s, if_pos rfl]
        · rw [jup_k (by omega), if_neg y]; exact hc x hx) (by omega) (fun x hx hz => by
        by_cases y : x = p
        · subst y; simp only [if_true] at hz; omega
        · simp only [if_neg y] at hz
          exact (List.mem_erase_of_ne y).mpr (hfree x hx hz)) (by omega) (by omega) (by omega) (fun x => by
        by_cases y : x = p
        · simp only [if_pos y]; omega
        · simp only [if_neg y]; have := hca x; omega)
      rw [Int.natCast_add, Int.natCast_one] at i1
      refine ⟨σ', ?_, i2⟩
      simp only [if_neg z]
      rw [Model_power_c72, if_pos c16, if_pos cz, if_pos c16]
      dsimp only
      rw [tm, jbs]
      exact i1
theorem rpw_fill {F : Nat} {n e v : Int} {σ0 : jxS} : ∀ (m fu x : Nat) (σ : jxS), m + x = 16 → m < fu → jfr (fun a _ => a = 41) σ0 σ → (∀ y : Nat, y < x → σ 41 y = 0) → ∃ σ', Model_power_c45 F fu n e v x σ = Model_power_c72 F F n e v e 1 σ' ∧ jfr (fun a _ => a = 41) σ0 σ' ∧ ∀ y : Nat, y < 16 → σ' 41 y = 0 := by
  intro m
  induction m with
  | zero =>
    intro fu x σ e1 e2 f hy
    obtain ⟨fu, rfl⟩ : ∃ k, fu = k + 1 := ⟨fu - 1, by omega⟩
    refine ⟨σ, ?_, f, fun y h => hy y (by omega)⟩
    rw [Model_power_c45, if_neg (show ¬ jw (x : Int) < 16 by unfold jw; omega)]
  | succ m ih =>
    intro fu x σ e1 e2 f hy
    obtain ⟨fu, rfl⟩ : ∃ k, fu = k + 1 := ⟨fu - 1, by omega⟩
    obtain ⟨σ', a, b, c⟩ := ih fu (x + 1) (jup σ 41 x 0) (by omega) (by omega) (jfr_up f rfl) (fun y h => by
      by_cases z : y = x
      · subst z; exact jup_s _ _ _ _
      · rw [jup_k (by omega)]; exact hy y (by omega))
    refine ⟨σ', ?_, b, c⟩
    rw [Model_power_c45, if_pos (show jw (x : Int) < 16 by unfold jw; omega), if_pos (by omega)]
    rw [Int.natCast_add, Int.natCast_one] at a
    exact a
theorem rk_power {F n e : Nat} {σ : jxS} {s : qsT} {v : Int} (n1 : 1 ≤ n) (n6 : n ≤ 6) (hQ : RQ σ n s) (he : e < s.1.length) (hv : v = 0 ∨ v = 1) (hF : 5000 ≤ F) : ∃ σ', Model_power_c45 F F n e v 0 σ = some (pwA s n e v, σ') ∧ jfr (fun a _ => a = 41) σ σ' := by
  have l16 := hQ.2.1.1.2
  obtain ⟨σ1, a1, a2, a3⟩ := rpw_fill (F := F) (n := n) (e := e) (v := v) (σ0 := σ) 16 F 0 σ rfl (by omega) (jfr_refl _ _) (fun y h => by omega)
  obtain ⟨σ2, b1, b2⟩ := rpw_loop (F := F) (e := e) (v := v) (σ0 := σ) n1 n6 hQ rfl he hv (by omega) 20 (List.range s.1.length) F (fun _ => 0) e 1 σ1 a2 (fun x hx => a3 x hx) he (fun x hx _ => List.mem_range.mpr hx) (by rw [List.length_range]; omega) (by rw [List.length_range]; omega) (by rw [List.length_range]; omega) (fun x => by omega)
  have a1' : Model_power_c45 F F n e v 0 σ = _ := a1
  exact ⟨σ2, by rw [a1']; exact b1, b2⟩
