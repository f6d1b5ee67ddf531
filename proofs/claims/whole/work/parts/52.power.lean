/-! Quotients: the reference's steadiness; powers on both sides. -/
section SR
variable {F n L : Nat} {σ : jxS} {s : qsT}
theorem rst_in (n1 : 1 ≤ n) (n6 : n ≤ 6) (hQ : RQ σ n s) {k2 : Int → Int → jxS → Option jxR} {k14 : Int → Int → Int → jxS → Option jxR} {e g : Nat} (he : e < s.1.length) (g1 : 1 ≤ g) (g2 : g ≤ n) : ∀ (m fu h : Nat), m + h = n + 1 → 1 ≤ h → m < fu → (Model_isSteady_c22 F k2 k14 fu n e g h σ = k14 n e ((g : Int) + 1) σ ∧ ∀ x, h ≤ x → x ≤ n → s.2 (s.2 e g) x = s.2 (s.2 e x) g) ∨ (Model_isSteady_c22 F k2 k14 fu n e g h σ = some (0, σ) ∧ ¬ stdy s n) := by
  have l16 := hQ.2.1.1.2
  have lt := hQ.2.1.2.2
  intro m
  induction m with
  | zero =>
    intro fu h e1 e2 e3
    obtain ⟨fu, rfl⟩ : ∃ k, fu = k + 1 := ⟨fu - 1, by omega⟩
    refine Or.inl ⟨?_, fun x x1 x2 => by omega⟩
    rw [Model_isSteady_c22, if_pos (show jw (n : Int) < jw (h : Int) by unfold jw; omega)]
  | succ m ih =>
    intro fu h e1 e2 e3
    obtain ⟨fu, rfl⟩ : ∃ k, fu = k + 1 := ⟨fu - 1, by omega⟩
    have hn : h ≤ n := by omega
    have a1 := rq_next (F := F) n6 hQ he g1 g2
    have lg := lt e g he g1 g2
    have lh := lt e h he e2 hn
    have a2 := rq_next (F := F) n6 hQ lg e2 hn
    have a3 := rq_next (F := F) n6 hQ he e2 hn
    have a4 := rq_next (F := F) n6 hQ lh g1 g2
    have l3 := lt (s.2 e g) h lg e2 hn
    have l4 := lt (s.2 e h) g lh g1 g2
    have hh : ((h + 1 : Nat) : Int) = (h : Int) + 1 := by omega
    have st : Model_isSteady_c22 F k2 k14 (fu + 1) n e g h σ = if jw (s.2 (s.2 e g) h : Int) = jw (s.2 (s.2 e h) g : Int) then Model_isSteady_c22 F k2 k14 fu n e g ((h : Int) + 1) σ else some (0, σ) := by
      rw [Model_isSteady_c22, if_neg (show ¬ jw (n : Int) < jw (h : Int) by unfold jw; omega), a1, jbs]
      dsimp only
      rw [a2, jbs]
      dsimp only
      rw [a3, jbs]
      dsimp only
      rw [a4, jbs]
    by_cases z : s.2 (s.2 e g) h = s.2 (s.2 e h) g
    · rw [st, if_pos (by rw [z]), ← hh]
      rcases ih fu (h + 1) (by omega) (by omega) (by omega) with ⟨i1, i2⟩ | i
      · refine Or.inl ⟨i1, fun x x1 x2 => ?_⟩
        by_cases y : x = h
        · subst y; exact z
        · exact i2 x (by omega) x2
      · exact Or.inr i
    · rw [st, if_neg (by unfold jw; omega)]
      exact Or.inr ⟨rfl, fun hs => z (hs e g h he g1 g2 e2 hn)⟩
theorem rst_mid (n1 : 1 ≤ n) (n6 : n ≤ 6) (hQ : RQ σ n s) (hF : 100 ≤ F) {k2 : Int → Int → jxS → Option jxR} {e : Nat} (he : e < s.1.length) : ∀ (m fu g : Nat), m + g = n + 1 → 1 ≤ g → m < fu → (Model_isSteady_c14 F k2 fu n e g σ = k2 n ((e : Int) + 1) σ ∧ ∀ y x, g ≤ y → y ≤ n → 1 ≤ x → x ≤ n → s.2 (s.2 e y) x = s.2 (s.2 e x) y) ∨ (Model_isSteady_c14 F k2 fu n e g σ = some (0, σ) ∧ ¬ stdy s n) := by
  intro m
  induction m with
  | zero =>
    intro fu g e1 e2 e3
    obtain ⟨fu, rfl⟩ : ∃ k, fu = k + 1 := ⟨fu - 1, by omega⟩
    refine Or.inl ⟨?_, fun y x y1 y2 => by omega⟩
    rw [Model_isSteady_c14, if_pos (show jw (n : Int) < jw (g : Int) by unfold jw; omega)]
  | succ m ih =>
    intro fu g e1 e2 e3
    obtain ⟨fu, rfl⟩ : ∃ k, fu = k + 1 := ⟨fu - 1, by omega⟩
    have st : Model_isSteady_c14 F k2 (fu + 1) n e g σ = Model_isSteady_c22 F k2 (Model_isSteady_c14 F k2 fu) F n e g 1 σ := by
      rw [Model_isSteady_c14, if_neg (show ¬ jw (n : Int) < jw (g : Int) by unfold jw; omega)]
    have gg : ((g + 1 : Nat) : Int) = (g : Int) + 1 := by omega
    rcases rst_in (F := F) (k2 := k2) (k14 := Model_isSteady_c14 F k2 fu) n1 n6 hQ he e2 (by omega) n F 1 (by omega) (by omega) (by omega) with ⟨a1, a2⟩ | ⟨a1, a2⟩
    · have a1' : Model_isSteady_c22 F k2 (Model_isSteady_c14 F k2 fu) F n e g 1 σ = _ := a1
      rw [st, a1', ← gg]
      rcases ih fu (g + 1) (by omega) (by omega) (by omega) with ⟨i1, i2⟩ | i
      · refine Or.inl ⟨i1, fun y x y1 y2 x1 x2 => ?_⟩
        by_cases z : y = g
        · subst z; exact a2 x x1 x2
        · exact i2 y x (by omega) y2 x1 x2
      · exact Or.inr i
    · have a1' : Model_isSteady_c22 F k2 (Model_isSteady_c14 F k2 fu) F n e g 1 σ = _ := a1
      rw [st, a1']
      exact Or.inr ⟨rfl, a2⟩
theorem rst_out (n1 : 1 ≤ n) (n6 : n ≤ 6) (hQ : RQ σ n s) (hF : 100 ≤ F) (hL : s.1.length = L) : ∀ (m fu e : Nat), m + e = L → m < fu → (∀ a y x, a < e → 1 ≤ x → x ≤ n → 1 ≤ y → y ≤ n → s.2 (s.2 a y) x = s.2 (s.2 a x) y) → Model_isSteady_c2 F fu n e σ = some (if stb s n then 1 else 0, σ) := by
  have w1 : σ 31 n = (L : Int) := by rw [← hL]; exact hQ.1.1
  have l16 : L ≤ 16 := by rw [← hL]; exact hQ.2.1.1.2
  have c0 : 0 ≤ (n : Int) ∧ (n : Int) < 7 := by omega
  intro m
  induction m with
  | zero =>
    intro fu e e1 e2 h
    obtain ⟨fu, rfl⟩ : ∃ k, fu = k + 1 := ⟨fu - 1, by omega⟩
    have std : stdy s n := fun a g x ha g1 g2 x1 x2 => h a g x (by omega) x1 x2 g1 g2
    rw [stb_iff.mpr std, Model_isSteady_c2, if_pos c0, if_neg (show ¬ jw (e : Int) < jw (σ 31 n) by rw [w1]; unfold jw; omega)]
    rfl
  | succ m ih =>
    intro fu e e1 e2 h
    obtain ⟨fu, rfl⟩ : ∃ k, fu = k + 1 := ⟨fu - 1, by omega⟩
    have eL : e < s.1.length := by omega
    have st : Model_isSteady_c2 F (fu + 1) n e σ = Model_isSteady_c14 F (Model_isSteady_c2 F fu) F n e 1 σ := by
      rw [Model_isSteady_c2, if_pos c0, if_pos (show jw (e : Int) < jw (σ 31 n) by rw [w1]; unfold jw; omega)]
    have ee : ((e + 1 : Nat) : Int) = (e : Int) + 1 := by omega
    rcases rst_mid (F := F) (k2 := Model_isSteady_c2 F fu) n1 n6 hQ hF eL n F 1 (by omega) (by omega) (by omega) with ⟨a1, a2⟩ | ⟨a1, a2⟩
    · have a1' : Model_isSteady_c14 F (Model_isSteady_c2 F fu) F n e 1 σ = _ := a1
      rw [st, a1', ← ee]
      refine ih fu (e + 1) (by omega) (by omega) (fun a y x ha x1 x2 y1 y2 => ?_)
      by_cases z : a = e
      · subst z; exact a2 y x y1 y2 x1 x2
      · exact h a y x (by omega) x1 x2 y1 y2
    · have a1' : Model_isSteady_c14 F (Model_isSteady_c2 F fu) F n e 1 σ = _ := a1
      have nb : stb s n = false := by
        cases hb : stb s n
        · rfl
        · exact absurd (stb_iff.mp hb) a2
      rw [st, a1', nb]
      rfl
theorem rk_steady (n1 : 1 ≤ n) (n6 : n ≤ 6) (hQ : RQ σ n s) (hF : 100 ≤ F) : Model_isSteady F σ n = some (if stb s n then 1 else 0, σ) := by
  have l16 := hQ.2.1.1.2
  exact rst_out n1 n6 hQ hF rfl _ F 0 (Nat.add_zero _) (by omega) (fun a y x ha => by omega)
end SR
/-- powers -/
noncomputable def pwG (s : qsT) (n e : Nat) (f : Nat) (ca : Nat → Nat) (p i : Nat) : Nat × Nat := match f with
  | 0 => (0, 0)
  | f + 1 => if 0 < ca p then (ca p, i - ca p) else pwG s n e f (fun x => if x = p then i else ca x) (tms s n p e) (i + 1)
theorem pwG_s (s : qsT) (n e f : Nat) (ca : Nat → Nat) (p i : Nat) : pwG s n e (f + 1) ca p i = if 0 < ca p then (ca p, i - ca p) else pwG s n e f (fun x => if x = p then i else ca x) (tms s n p e) (i + 1) := rfl
noncomputable def pwA (s : qsT) (n e : Nat) (v : Int) : Int := if v = 0 then ((pwG s n e 20 (fun _ => 0) e 1).1 : Int) else ((pwG s n e 20 (fun _ => 0) e 1).2 : Int)
theorem cpw_loop {F q n e L : Nat} {M : Nat → List Nat} {s : qsT} {v : Int} {σ0 : jxS} (hq : isQ q) (hP : PosOK σ0) (n6 : n ≤ 6) (hQ : QK σ0 M q n s) (hL : s.1.length = L) (he : e < L) (hv : v = 0 ∨ v = 1) (hF : 100 ≤ F) : ∀ (f : Nat) (free : List Nat) (fu : Nat) (ca : Nat → Nat) (p i : Nat) (σ : jxS), jfr (fun a _ => a = q + 4) σ0 σ → (∀ x : Nat, x < 16 → σ (q + 4) x = (ca x : Int)) → p < L → (∀ x, x < L → ca x = 0 → x ∈ free) → free.length + i ≤ 17 → free.length < f → free.length < fu → (∀ x, ca x < i) → ∃ σ', Quotient_powerOf_c13 F q fu e v p i σ = some (if v = 0 then ((pwG s n e f ca p i).1 : Int) else ((pwG s n e f ca p i).2 : Int), σ') ∧ jfr (fun a _ => a = q + 4) σ0 σ' := by
  have q48 : 48 ≤ q := by rcases hq with h | h | h | h | h | h <;> omega
  have l16 : L ≤ 16 := by rw [← hL]; exact hQ.2.1.1.2
  intro f
  induction f with
  | zero => intro free fu ca p i σ _ _ _ _ _ h; omega
  | succ f ih =>
    intro free fu ca p i σ fr hc hp hfree hi hf hfu hca
    obtain ⟨fu, rfl⟩ : ∃ k, fu = k + 1 := ⟨fu - 1, by omega⟩
    have hQ' : QK σ M q n s := by
      obtain ⟨⟨w0, w1, w2, w3, w4, w5⟩, w6, w7⟩ := hQ
      refine ⟨⟨by rw [fr q 0 (by omega)]; exact w0, w1, w2, w3, by rw [fr q 7 (by omega)]; exact w4, fun i w hw => ?_⟩, w6, fun a b ha b1 b2 => ?_⟩
      · rw [fr (q + 1) _ (by omega), fr (q + 2) _ (by omega)]; exact w5 i w hw
      · rw [fr (q + 3) _ (by omega)]; exact w7 a b ha b1 b2
    have w4 : σ q 7 = (L : Int) := by rw [← hL]; exact hQ'.1.2.2.2.2.1
    have hh : Quotient_has F q σ p = some (1, σ) := by
      rw [Quotient_has, if_neg (show ¬ jw (p : Int) < 0 by unfold jw; omega), if_pos (show jw (p : Int) < jw (σ q 7) by rw [w4]; unfold jw; omega)]
    have wp := hc p (by omega)
    have cb := hca p
    have c17 : ¬ 17 < jw (i : Int) := by unfold jw; omega
    have c16 : 0 ≤ (p : Int) ∧ (p : Int) < 16 := by omega
    rw [pwG_s]
    by_cases z : 0 < ca p
    · have cz : 0 < jw (σ (q + 4) (p : Int)) := by rw [wp]; unfold jw; omega
      refine ⟨σ, ?_, fr⟩
      rw [Quotient_powerOf_c13, if_neg c17, hh, jbs]
      dsimp only
      rw [if_neg (show ¬ jw 1 = 0 by decide), if_pos c16, if_pos cz, if_pos c16, if_pos c16, wp]
      simp only [if_pos z]
      rcases hv with rfl | rfl
      · rw [if_pos (show jw 0 = 0 from rfl), if_pos rfl]
      · rw [if_neg (show ¬ jw 1 = 0 by decide), if_neg (by decide), show (i : Int) - (ca p : Int) = ((i - ca p : Nat) : Int) by omega]
    · have cz : ¬ 0 < jw (σ (q + 4) (p : Int)) := by rw [wp]; unfold jw; omega
      have pf := hfree p hp (by omega)
      have fl : (free.erase p).length + 1 = free.length := by
        have := List.length_erase_of_mem pf
        have : 0 < free.length := List.length_pos_of_mem pf
        omega
      have fr2 : jfr (fun a _ => a = q + 4) σ0 (jup σ (q + 4) p i) := jfr_up fr rfl
      have hP2 : PosOK (jup σ (q + 4) p i) := PosOK_fr hP fr2 (fun a j _ _ => by omega)
      have hQ2 : QK (jup σ (q + 4) p i) M q n s := by
        obtain ⟨⟨w0, w1, w2, w3, w4, w5⟩, w6, w7⟩ := hQ
        refine ⟨⟨by rw [fr2 q 0 (by omega)]; exact w0, w1, w2, w3, by rw [fr2 q 7 (by omega)]; exact w4, fun i w hw => ?_⟩, w6, fun a b ha b1 b2 => ?_⟩
        · rw [fr2 (q + 1) _ (by omega), fr2 (q + 2) _ (by omega)]; exact w5 i w hw
        · rw [fr2 (q + 3) _ (by omega)]; exact w7 a b ha b1 b2
      have tm := cq_times (F := F) hP2 n6 hQ2 (show p < s.1.length by omega) (show e < s.1.length by omega) hF
      have tl := tms_lt (b := e) hQ.2.1 (show p < s.1.length by omega)
      obtain ⟨σ', i1, i2⟩ := ih (free.erase p) fu (fun x => if x = p then i else ca x) (tms s n p e) (i + 1) (jup σ (q + 4) p i) fr2 (fun x hx => by
        by_cases y : x = p
        · subst y; rw [jup_s, if_pos rfl]
        · rw [jup_k (by omega), if_neg y]; exact hc x hx) (by omega) (fun x hx hz => by
        by_cases y : x = p
        · subst y; simp only [if_true] at hz; omega
        · simp only [if_neg y] at hz
          exact (List.mem_erase_of_ne y).mpr (hfree x hx hz)) (by omega) (by omega) (by omega) (fun x => by
        by_cases y : x = p
        · simp only [if_pos y]; omega
        · simp only [if_neg y]; have := hca x; omega)
      rw [Int.natCast_add, Int.natCast_one] at i1
      refine ⟨σ', ?_, i2⟩
      simp only [if_neg z]
      rw [Quotient_powerOf_c13, if_neg c17, hh, jbs]
      dsimp only
      rw [if_neg (show ¬ jw 1 = 0 by decide), if_pos c16, if_neg cz, if_pos c16, tm, jbs]
      exact i1
theorem ck_power {F q n e : Nat} {σ : jxS} {M : Nat → List Nat} {s : qsT} {v : Int} (hq : isQ q) (hP : PosOK σ) (n6 : n ≤ 6) (hQ : QK σ M q n s) (he : e < s.1.length) (hv : v = 0 ∨ v = 1) (hF : 5000 ≤ F) : ∃ σ', Quotient_powerOf F q σ e v = some (pwA s n e v, σ') ∧ jfr (fun a _ => a = q + 4) σ σ' := by
  have q48 : 48 ≤ q := by rcases hq with h | h | h | h | h | h <;> omega
  have l16 := hQ.2.1.1.2
  have al : jalen (q + 4) = ((16 : Nat) : Int) := by rcases hq with h | h | h | h | h | h <;> subst h <;> decide
  obtain ⟨σ1, a1, a2, a3⟩ := ca_fill (F := F) (a := q + 4) (v := 0) (N := 16) σ al (by omega) hF
  have f1 : jfr (fun a _ => a = q + 4) σ σ1 := jfr_ag a2 (fun a j h => List.mem_singleton.mp h)
  obtain ⟨σ2, b1, b2⟩ := cpw_loop (F := F) (q := q) (e := e) (v := v) (σ0 := σ) hq hP n6 hQ rfl he hv (by omega) 20 (List.range s.1.length) F (fun _ => 0) e 1 σ1 f1 (fun x hx => a3 x (by omega) (by omega)) he (fun x hx _ => List.mem_range.mpr hx) (by rw [List.length_range]; omega) (by rw [List.length_range]; omega) (by rw [List.length_range]; omega) (fun x => by omega)
  refine ⟨σ2, ?_, b2⟩
  rw [Quotient_powerOf, a1, jbs]
  exact b1
