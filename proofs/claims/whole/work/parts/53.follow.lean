/-! Pairs: what follows a pair, on both sides. -/
def nxz (s : qsT) (r h : Nat) : Nat := if h = 0 then r else s.2 r h
def mvf (s : qsT) (e : Nat) (l : List Nat) (acc : Nat) : Nat := match l with
  | [] => acc
  | m :: l => mvf s e l (acc ||| 2 ^ nxz s (nxz s e (m / 13)) (m % 13))
def nsf (s : qsT) (S h m f acc : Nat) : Nat := match m with
  | 0 => acc
  | m + 1 => nsf s S h m (f + 1) (if S.testBit f then acc ||| 2 ^ s.2 f h else acc)
theorem mvf_acc (s : qsT) (e : Nat) : ∀ (l : List Nat) (acc : Nat), mvf s e l acc = acc ||| mvf s e l 0 := by
  intro l
  induction l with
  | nil => intro acc; simp [mvf]
  | cons m l ih =>
    intro acc
    simp only [mvf]
    rw [ih, ih (0 ||| _), Nat.zero_or, Nat.or_assoc]
theorem nsf_acc (s : qsT) (S h : Nat) : ∀ (m f acc : Nat), nsf s S h m f acc = acc ||| nsf s S h m f 0 := by
  intro m
  induction m with
  | zero => intro f acc; simp [nsf]
  | succ m ih =>
    intro f acc
    simp only [nsf]
    split
    · rw [ih, ih (f + 1) (0 ||| _), Nat.zero_or, Nat.or_assoc]
    · exact ih (f + 1) acc
theorem nsf_far (s : qsT) (S h : Nat) : ∀ (m f acc : Nat), (∀ g, f ≤ g → S.testBit g = false) → nsf s S h m f acc = acc := by
  intro m
  induction m with
  | zero => intro f acc _; rfl
  | succ m ih =>
    intro f acc hg
    simp only [nsf]
    rw [hg f (Nat.le_refl _)]
    simp only [Bool.false_eq_true, if_false]
    exact ih (f + 1) acc (fun g h => hg g (by omega))
theorem nsf_split (s : qsT) (S h : Nat) : ∀ (m k f acc : Nat), nsf s S h (m + k) f acc = nsf s S h k (f + m) (nsf s S h m f acc) := by
  intro m
  induction m with
  | zero => intro k f acc; rw [Nat.zero_add]; rfl
  | succ m ih =>
    intro k f acc
    rw [show m + 1 + k = (m + k) + 1 by omega]
    simp only [nsf]
    rw [ih, show f + 1 + m = f + (m + 1) by omega]
noncomputable def folS (s : qsT) (M : Nat → List Nat) (e S h : Nat) : Nat := mvf s e (M h) 0 ||| nsf s S h s.1.length 0 0
theorem nxz_lt {s : qsT} {n r h : Nat} (hs : qOK s n) (hr : r < s.1.length) (hh : h ≤ n) : nxz s r h < s.1.length := by
  unfold nxz
  split
  · exact hr
  · exact hs.2.2 r h hr (by omega) hh
section CF
variable {F q n : Nat} {σ : jxS} {M : Nat → List Nat} {s : qsT}
theorem cq_nxz (n6 : n ≤ 6) (hQ : QK σ M q n s) {r h : Nat} (hr : r < s.1.length) (hh : h ≤ n) : Quotient_nextOf F q σ r h = some ((nxz s r h : Int), σ) := by
  unfold nxz
  by_cases z : h = 0
  · subst z; rw [if_pos rfl]; exact cq_next0 hQ hr
  · rw [if_neg z]; exact cq_next n6 hQ hr (by omega) hh
theorem ca_count (hR : RulC σ M) (hM : MOK M) {h : Nat} (h1 : 1 ≤ h) (h2 : h ≤ 12) : Rules_moveCount F σ h = some (((M h).length : Int), σ) := by
  have w1 := hR.1 (h + 1) (by omega) (by omega)
  have w2 := hR.1 h h1 (by omega)
  have s1 := mst_s M h1
  rw [Int.natCast_add, Int.natCast_one] at w1
  have ih : LL_isHeap F σ h = some (1, σ) := by
    rw [LL_isHeap, if_neg (show ¬ jw (h : Int) < 1 by unfold jw; omega), if_neg (show ¬ 12 < jw (h : Int) by unfold jw; omega)]
  rw [Rules_moveCount, ih, jbs]
  dsimp only
  rw [if_neg (show ¬ jw 1 = 0 by decide), if_pos (by omega), if_pos (by omega), w1, w2, s1]
  rw [show ((mst M h + (M h).length : Nat) : Int) - (mst M h : Int) = ((M h).length : Int) by omega]
theorem ca_at (hR : RulC σ M) (hM : MOK M) {h k m : Nat} (h1 : 1 ≤ h) (h2 : h ≤ 12) (hk : (M h)[k]? = some m) : Rules_moveAt F σ h k = some ((m : Int), σ) := by
  have w1 := hR.1 (h + 1) (by omega) (by omega)
  have w2 := hR.1 h h1 (by omega)
  have w3 := hR.2 h k m h1 h2 hk
  have s1 := mst_s M h1
  have s2 := mst_mono M (a := h + 1) (b := 13) (by omega) (by omega)
  have s3 := mst_203 hM
  have kl := (List.getElem?_eq_some_iff.mp hk).1
  rw [Int.natCast_add, Int.natCast_one] at w1
  have ih : LL_isHeap F σ h = some (1, σ) := by
    rw [LL_isHeap, if_neg (show ¬ jw (h : Int) < 1 by unfold jw; omega), if_neg (show ¬ 12 < jw (h : Int) by unfold jw; omega)]
  have c1 : jw (k : Int) < jw (σ 14 ((h : Int) + 1) - σ 14 (h : Int)) := by rw [w1, w2, s1]; unfold jw; omega
  have c2 : 0 ≤ σ 14 (h : Int) + k ∧ σ 14 (h : Int) + k < 203 := by rw [w2]; omega
  have e1 : σ 14 (h : Int) + k = ((mst M h + k : Nat) : Int) := by rw [w2]; omega
  rw [Rules_moveAt, ih, jbs]
  dsimp only
  rw [if_neg (show ¬ jw 1 = 0 by decide), if_neg (show ¬ jw (k : Int) < 0 by unfold jw; omega), if_pos (by omega), if_pos (by omega), if_pos c1, if_pos (by omega), if_pos c2, e1, w3]
theorem cf_moves (n6 : n ≤ 6) (hM : MOK M) (hR : RulC σ M) (hQ : QK σ M q n s) {e h : Nat} (he : e < s.1.length) (h1 : 1 ≤ h) (h2 : h ≤ n) : ∀ (r : List Nat) (fu k acc : Nat), (M h).drop k = r → r.length + k = (M h).length → r.length < fu → acc < 2 ^ 16 → Pairs_movesOf_c6 F q fu e h acc k σ = some ((mvf s e r acc : Int), σ) ∧ mvf s e r acc < 2 ^ 16 := by
  have ml := MOK_len hM h1 (show h ≤ 12 by omega)
  have cn := ca_count (F := F) hR hM h1 (show h ≤ 12 by omega)
  have l16 := hQ.2.1.1.2
  intro r
  induction r with
  | nil =>
    intro fu k acc e1 e2 e3 e4
    obtain ⟨fu, rfl⟩ : ∃ k, fu = k + 1 := ⟨fu - 1, by omega⟩
    simp only [List.length_nil] at e2
    refine ⟨?_, e4⟩
    rw [Pairs_movesOf_c6, cn, jbs]
    dsimp only
    rw [if_neg (show ¬ jw (k : Int) < jw ((M h).length : Int) by unfold jw; omega)]
    rfl
  | cons m r ih =>
    intro fu k acc e1 e2 e3 e4
    obtain ⟨fu, rfl⟩ : ∃ k, fu = k + 1 := ⟨fu - 1, by omega⟩
    simp only [List.length_cons] at e2 e3
    obtain ⟨hm, hr⟩ := drop_at e1
    have hmq := (hM h h1 (by omega)).2 m (List.mem_of_getElem? hm)
    have p1 : m / 13 ≤ n := by omega
    have p2 : m % 13 ≤ n := by omega
    have e2' : r.length + (k + 1) = (M h).length := by omega
    have e3' : r.length < fu := by omega
    have c1 : jw (k : Int) < jw ((M h).length : Int) := by unfold jw; omega
    have at' := ca_at (F := F) hR hM h1 (show h ≤ 12 by omega) hm
    have d := jd13 (x := (m : Int)) (by omega) (by omega)
    have d1 : jdiv (m : Int) 13 = ((m / 13 : Nat) : Int) := by rw [d.1]; omega
    have d2 : jrem (m : Int) 13 = ((m % 13 : Nat) : Int) := by rw [d.2]; omega
    have n1 := cq_nxz (F := F) n6 hQ he p1
    have l1 := nxz_lt hQ.2.1 he p1
    have n2 := cq_nxz (F := F) n6 hQ l1 p2
    have l2 := nxz_lt hQ.2.1 l1 p2
    obtain ⟨o1, o2⟩ := orN e4 (Nat.lt_of_lt_of_le l2 l16)
    obtain ⟨i1, i2⟩ := ih fu (k + 1) _ hr e2' e3' o2
    rw [Int.natCast_add, Int.natCast_one] at i1
    refine ⟨?_, i2⟩
    rw [Pairs_movesOf_c6, cn, jbs]
    dsimp only
    rw [if_pos c1, at', jbs]
    dsimp only
    rw [d1, n1, jbs]
    dsimp only
    rw [d2, n2, jbs]
    dsimp only
    rw [o1]
    exact i1
theorem cf_follow (n6 : n ≤ 6) (hQ : QK σ M q n s) {e S h : Nat} (he : e < s.1.length) (hS : S < 2 ^ s.1.length) (h1 : 1 ≤ h) (h2 : h ≤ n) : ∀ (m fu f acc : Nat), m + f = 16 → m < fu → acc < 2 ^ 16 → Pairs_follow_c54 F q fu h e S acc f σ = some (((65536 * s.2 e h + nsf s S h m f acc : Nat) : Int), σ) ∧ nsf s S h m f acc < 2 ^ 16 := by
  have l16 := hQ.2.1.1.2
  have sb : S < 2 ^ 31 := Nat.lt_of_lt_of_le hS (Nat.pow_le_pow_right (by decide) (by omega))
  intro m
  induction m with
  | zero =>
    intro fu f acc e1 e2 e3
    obtain ⟨fu, rfl⟩ : ∃ k, fu = k + 1 := ⟨fu - 1, by omega⟩
    have nx := cq_next (F := F) n6 hQ he h1 h2
    have nl := hQ.2.1.2.2 e h he h1 h2
    refine ⟨?_, e3⟩
    have sh := bq_shl (a := s.2 e h) (k := 16) (by omega) (by
      have : s.2 e h * 2 ^ 16 < 16 * 2 ^ 16 := Nat.mul_lt_mul_of_pos_right (Nat.lt_of_lt_of_le nl l16) (by decide)
      exact Nat.lt_of_lt_of_le this (by decide))
    have sh' : jshl (s.2 e h : Int) 16 = ((s.2 e h * 2 ^ 16 : Nat) : Int) := sh
    have oo : s.2 e h * 2 ^ 16 ||| acc = 65536 * s.2 e h + acc := by
      rw [Nat.mul_comm, ← Nat.two_pow_add_eq_or_of_lt e3]
    have ol : s.2 e h * 2 ^ 16 ||| acc < 2 ^ 31 := by
      rw [oo]
      have : acc < 65536 := e3
      omega
    rw [Pairs_follow_c54, if_neg (show ¬ jw (f : Int) < 16 by unfold jw; omega), nx, jbs]
    dsimp only
    rw [sh', bq_or ol, oo]
    rfl
  | succ m ih =>
    intro fu f acc e1 e2 e3
    obtain ⟨fu, rfl⟩ : ∃ k, fu = k + 1 := ⟨fu - 1, by omega⟩
    have bt := bq_bit (a := S) (k := f) (by omega) sb
    have c1 : jw (f : Int) < 16 := by unfold jw; omega
    have e1' : m + (f + 1) = 16 := by omega
    have e2' : m < fu := by omega
    rw [Pairs_follow_c54, if_pos c1]
    simp only [nsf]
    cases hb : S.testBit f
    · rw [hb] at bt
      simp only [Bool.false_eq_true, if_false] at bt ⊢
      obtain ⟨i1, i2⟩ := ih fu (f + 1) acc e1' e2' e3
      rw [Int.natCast_add, Int.natCast_one] at i1
      refine ⟨?_, i2⟩
      rw [if_neg (show ¬ jw (jand (jshr (S : Int) (f : Int)) 1) = 1 by rw [bt]; decide)]
      exact i1
    · rw [hb] at bt
      simp only [if_true] at bt ⊢
      have fl : f < s.1.length := Classical.byContradiction fun q => by
        have : S < 2 ^ f := Nat.lt_of_lt_of_le hS (Nat.pow_le_pow_right (by decide) (by omega))
        rw [Nat.testBit_lt_two_pow this] at hb
        cases hb
      have nx := cq_next (F := F) n6 hQ fl h1 h2
      have nl := hQ.2.1.2.2 f h fl h1 h2
      obtain ⟨o1, o2⟩ := orN e3 (Nat.lt_of_lt_of_le nl l16)
      obtain ⟨i1, i2⟩ := ih fu (f + 1) _ e1' e2' o2
      rw [Int.natCast_add, Int.natCast_one] at i1
      refine ⟨?_, i2⟩
      rw [if_pos (show jw (jand (jshr (S : Int) (f : Int)) 1) = 1 by rw [bt]; decide), nx, jbs]
      dsimp only
      rw [o1]
      exact i1
end CF
/-- the sets keep below 2 to the elements -/
theorem or_lt {a e L : Nat} (ha : a < 2 ^ L) (he : e < L) : a ||| 2 ^ e < 2 ^ L := Nat.or_lt_two_pow ha (Nat.pow_lt_pow_right (by decide) he)
theorem mvf_lt {s : qsT} {n e : Nat} {M : Nat → List Nat} (hs : qOK s n) (he : e < s.1.length) : ∀ (l : List Nat) (acc : Nat), (∀ m, m ∈ l → m / 13 ≤ n ∧ m % 13 ≤ n) → acc < 2 ^ s.1.length → mvf s e l acc < 2 ^ s.1.length := by
  intro l
  induction l with
  | nil => intro acc _ h; exact h
  | cons m l ih =>
    intro acc hm h
    obtain ⟨a, b⟩ := hm m (List.mem_cons_self ..)
    exact ih _ (fun x hx => hm x (List.mem_cons_of_mem _ hx)) (or_lt h (nxz_lt hs (nxz_lt hs he a) b))
theorem nsf_lt {s : qsT} {n S h : Nat} (hs : qOK s n) (h1 : 1 ≤ h) (h2 : h ≤ n) : ∀ (m f acc : Nat), m + f ≤ s.1.length → acc < 2 ^ s.1.length → nsf s S h m f acc < 2 ^ s.1.length := by
  intro m
  induction m with
  | zero => intro f acc _ h; exact h
  | succ m ih =>
    intro f acc hf ha
    simp only [nsf]
    refine ih (f + 1) _ (by omega) ?_
    split
    · exact or_lt ha (hs.2.2 f h (by omega) h1 h2)
    · exact ha
theorem folS_lt {s : qsT} {n e S h : Nat} {M : Nat → List Nat} (hM : MOK M) (hs : qOK s n) (n6 : n ≤ 12) (he : e < s.1.length) (h1 : 1 ≤ h) (h2 : h ≤ n) : folS s M e S h < 2 ^ s.1.length := by
  refine Nat.or_lt_two_pow (mvf_lt (M := M) hs he _ _ (fun m hm => ?_) (Nat.two_pow_pos _)) (nsf_lt hs h1 h2 _ _ _ (by omega) (Nat.two_pow_pos _))
  have := (hM h h1 (by omega)).2 m hm
  omega
/-! the reference's -/
section RF
variable {F n : Nat} {σ : jxS} {M : Nat → List Nat} {s : qsT}
theorem rq_nxz (n6 : n ≤ 6) (hQ : RQ σ n s) {r h : Nat} (hr : r < s.1.length) (hh : h ≤ n) : Model_nextBy F σ n r h = some ((nxz s r h : Int), σ) := by
  unfold nxz
  by_cases z : h = 0
  · subst z; rw [if_pos rfl]; exact rq_next0
  · rw [if_neg z]; exact rq_next n6 hQ hr (by omega) hh
theorem rf_moves (n1 : 1 ≤ n) (n6 : n ≤ 6) (hM : MOK M) (hV : MvM σ M) (hQ : RQ σ n s) {e h : Nat} (he : e < s.1.length) (h1 : 1 ≤ h) (h2 : h ≤ n) : ∀ (r : List Nat) (fu k acc : Nat), (M h).drop k = r → r.length + k = (M h).length → r.length < fu → acc < 2 ^ 16 → Model_setBy_c55 F fu n e h acc k σ = some ((mvf s e r acc : Int), σ) := by
  have ml := MOK_len hM h1 (show h ≤ 12 by omega)
  have w0 := (hV h h1 (by omega)).1
  have l16 := hQ.2.1.1.2
  have c0 : 0 ≤ (h : Int) ∧ (h : Int) < 13 := by omega
  intro r
  induction r with
  | nil =>
    intro fu k acc e1 e2 e3 e4
    obtain ⟨fu, rfl⟩ : ∃ k, fu = k + 1 := ⟨fu - 1, by omega⟩
    simp only [List.length_nil] at e2
    rw [Model_setBy_c55, if_pos c0, if_neg (show ¬ jw (k : Int) < jw (σ 10 (h : Int)) by rw [w0]; unfold jw; omega)]
    rfl
  | cons m r ih =>
    intro fu k acc e1 e2 e3 e4
    obtain ⟨fu, rfl⟩ : ∃ k, fu = k + 1 := ⟨fu - 1, by omega⟩
    simp only [List.length_cons] at e2 e3
    obtain ⟨hm, hr⟩ := drop_at e1
    have hmq := (hM h h1 (by omega)).2 m (List.mem_of_getElem? hm)
    have p1 : m / 13 ≤ n := by omega
    have p2 : m % 13 ≤ n := by omega
    have e2' : r.length + (k + 1) = (M h).length := by omega
    have e3' : r.length < fu := by omega
    have c1 : jw (k : Int) < jw (σ 10 (h : Int)) := by rw [w0]; unfold jw; omega
    have c2 : 0 ≤ 64 * (h : Int) + k ∧ 64 * (h : Int) + k < 832 := by omega
    have w2 := (hV h h1 (by omega)).2 k m hm
    have d := jd13 (x := (m : Int)) (by omega) (by omega)
    have d1 : jdiv (m : Int) 13 = ((m / 13 : Nat) : Int) := by rw [d.1]; omega
    have d2 : jrem (m : Int) 13 = ((m % 13 : Nat) : Int) := by rw [d.2]; omega
    have nx1 := rq_nxz (F := F) n6 hQ he p1
    have l1 := nxz_lt hQ.2.1 he p1
    have nx2 := rq_nxz (F := F) n6 hQ l1 p2
    have l2 := nxz_lt hQ.2.1 l1 p2
    obtain ⟨o1, o2⟩ := orN e4 (Nat.lt_of_lt_of_le l2 l16)
    have i1 := ih fu (k + 1) _ hr e2' e3' o2
    rw [Int.natCast_add, Int.natCast_one] at i1
    rw [Model_setBy_c55, if_pos c0, if_pos c1, if_pos c2, w2, d1, nx1, jbs]
    dsimp only
    rw [if_pos c2, w2, d2, nx2, jbs]
    dsimp only
    rw [o1]
    exact i1
theorem rf_set (n1 : 1 ≤ n) (n6 : n ≤ 6) (hM : MOK M) (hV : MvM σ M) (hQ : RQ σ n s) {L e S h : Nat} (hL : s.1.length = L) (he : e < L) (hS : S < 2 ^ 16) (h1 : 1 ≤ h) (h2 : h ≤ n) (hF : 100 ≤ F) : ∀ (m fu f acc : Nat), m + f = L → m < fu → acc < 2 ^ 16 → Model_setBy_c6 F fu n e S h acc f σ = some ((mvf s e (M h) (nsf s S h m f acc) : Int), σ) := by
  have ml := MOK_len hM h1 (show h ≤ 12 by omega)
  have w1 : σ 31 n = (L : Int) := by rw [← hL]; exact hQ.1.1
  have l16 : L ≤ 16 := by rw [← hL]; exact hQ.2.1.1.2
  have c0 : 0 ≤ (n : Int) ∧ (n : Int) < 7 := by omega
  have sb : S < 2 ^ 31 := Nat.lt_of_lt_of_le hS (by decide)
  intro m
  induction m with
  | zero =>
    intro fu f acc e1 e2 e3
    obtain ⟨fu, rfl⟩ : ∃ k, fu = k + 1 := ⟨fu - 1, by omega⟩
    rw [Model_setBy_c6, if_pos c0, if_neg (show ¬ jw (f : Int) < jw (σ 31 (n : Int)) by rw [w1]; unfold jw; omega)]
    exact rf_moves (F := F) n1 n6 hM hV hQ (by omega) h1 h2 (M h) F 0 acc rfl rfl (by omega) e3
  | succ m ih =>
    intro fu f acc e1 e2 e3
    obtain ⟨fu, rfl⟩ : ∃ k, fu = k + 1 := ⟨fu - 1, by omega⟩
    have bt := bq_bit (a := S) (k := f) (by omega) sb
    have c1 : jw (f : Int) < jw (σ 31 (n : Int)) := by rw [w1]; unfold jw; omega
    have e1' : m + (f + 1) = L := by omega
    have e2' : m < fu := by omega
    have fl : f < s.1.length := by omega
    simp only [nsf]
    rw [Model_setBy_c6, if_pos c0, if_pos c1]
    cases hb : S.testBit f
    · rw [hb] at bt
      simp only [Bool.false_eq_true, if_false] at bt ⊢
      have hh : Model_has F σ S f = some (0, σ) := by
        rw [Model_has, if_neg (show ¬ jw (jand (jshr (S : Int) (f : Int)) 1) = 1 by rw [bt]; decide)]
      have i1 := ih fu (f + 1) acc e1' e2' e3
      rw [Int.natCast_add, Int.natCast_one] at i1
      rw [hh, jbs]
      dsimp only
      rw [if_pos (show jw 0 = 0 from rfl), orZ e3]
      exact i1
    · rw [hb] at bt
      simp only [if_true] at bt ⊢
      have hh : Model_has F σ S f = some (1, σ) := by
        rw [Model_has, if_pos (show jw (jand (jshr (S : Int) (f : Int)) 1) = 1 by rw [bt]; decide)]
      have nx := rq_next (F := F) n6 hQ fl h1 h2
      have nl := hQ.2.1.2.2 f h fl h1 h2
      obtain ⟨o1, o2⟩ := orN e3 (show s.2 f h < 16 by omega)
      have i1 := ih fu (f + 1) _ e1' e2' o2
      rw [Int.natCast_add, Int.natCast_one] at i1
      rw [hh, jbs]
      dsimp only
      rw [if_neg (show ¬ jw 1 = 0 by decide), nx, jbs]
      dsimp only
      rw [o1]
      exact i1
theorem rf_setBy (n1 : 1 ≤ n) (n6 : n ≤ 6) (hM : MOK M) (hV : MvM σ M) (hQ : RQ σ n s) {e S h : Nat} (he : e < s.1.length) (hS : S < 2 ^ 16) (h1 : 1 ≤ h) (h2 : h ≤ n) (hF : 100 ≤ F) : Model_setBy F σ n e S h = some ((folS s M e S h : Int), σ) := by
  have l16 := hQ.2.1.1.2
  have := rf_set (F := F) n1 n6 hM hV hQ rfl he hS h1 h2 hF s.1.length F 0 0 (Nat.add_zero _) (by omega) (by decide)
  rw [mvf_acc, Nat.or_comm] at this
  exact this
end RF
