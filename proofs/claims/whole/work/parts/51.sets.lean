/-! Quotients: sets of elements on both sides. -/
theorem orN {a e : Nat} (ha : a < 2 ^ 16) (he : e < 16) : jor (a : Int) (jshl 1 (e : Int)) = ((a ||| 2 ^ e : Nat) : Int) ∧ a ||| 2 ^ e < 2 ^ 16 := by
  have p : 2 ^ e < 2 ^ 16 := Nat.pow_lt_pow_right (by decide) he
  have o : a ||| 2 ^ e < 2 ^ 16 := Nat.or_lt_two_pow ha p
  have s := bq_shl (a := 1) (k := e) (by omega) (by rw [Nat.one_mul]; exact Nat.lt_of_lt_of_le p (by decide))
  rw [Nat.one_mul] at s
  have s' : jshl 1 (e : Int) = ((2 ^ e : Nat) : Int) := s
  exact ⟨by rw [s', bq_or (Nat.lt_of_lt_of_le o (by decide))], o⟩
theorem orZ {a : Nat} (ha : a < 2 ^ 16) : jor (a : Int) 0 = (a : Int) := by
  have := bq_or (a := a) (b := 0) (by rw [Nat.or_zero]; exact Nat.lt_of_lt_of_le ha (by decide))
  rw [Nat.or_zero] at this
  exact this
theorem adN {a b : Nat} (ha : a < 2 ^ 16) : jand (a : Int) (b : Int) = ((a &&& b : Nat) : Int) ∧ a &&& b < 2 ^ 16 := by
  have l : a &&& b < 2 ^ 16 := Nat.lt_of_le_of_lt Nat.and_le_left ha
  exact ⟨bq_and (Nat.lt_of_lt_of_le l (by decide)), l⟩
theorem bit0N {a : Nat} (ha : a < 2 ^ 16) : jand (a : Int) 1 = (if a.testBit 0 then 1 else 0) ∧ jand (jshr (a : Int) 0) 1 = (if a.testBit 0 then 1 else 0) := by
  have b := bq_bit (a := a) (k := 0) (by omega) (Nat.lt_of_lt_of_le ha (by decide))
  have b' : jand (jshr (a : Int) 0) 1 = (if a.testBit 0 then 1 else 0) := b
  have sh := bq_shr (a := a) (k := 0) (by omega) (Nat.lt_of_lt_of_le ha (by decide))
  rw [Nat.pow_zero, Nat.div_one] at sh
  have sh' : jshr (a : Int) 0 = (a : Int) := sh
  refine ⟨?_, b'⟩
  rw [sh'] at b'
  exact b'
noncomputable def rcN (s : qsT) (n e m g acc : Nat) : Nat := match m with
  | 0 => acc
  | m + 1 => rcN s n e m (g + 1) (acc ||| 2 ^ tms s n e g)
noncomputable def rcF (s : qsT) (n e : Nat) : Nat := rcN s n e s.1.length 0 0
noncomputable def lsN (M : Nat → List Nat) (s : qsT) (m e acc : Nat) : Nat := match m with
  | 0 => acc
  | m + 1 => lsN M s m (e + 1) (if los M (rank (s.1.getD e (fun _ => 0))) then acc ||| 2 ^ e else acc)
noncomputable def lsF (M : Nat → List Nat) (s : qsT) : Nat := lsN M s s.1.length 0 0
noncomputable def krN (s : qsT) (n m e acc : Nat) : Nat := match m with
  | 0 => acc
  | m + 1 => krN s n m (e + 1) (acc &&& rcF s n e)
noncomputable def unN (s : qsT) (n m e acc : Nat) : Nat := match m with
  | 0 => acc
  | m + 1 => unN s n m (e + 1) (if (rcF s n e).testBit 0 then acc ||| 2 ^ e else acc)
noncomputable def idN (s : qsT) (n m e acc : Nat) : Nat := match m with
  | 0 => acc
  | m + 1 => idN s n m (e + 1) (if tms s n e e = e then acc ||| 2 ^ e else acc)
theorem rcN_lt {s : qsT} {n e : Nat} (hs : qOK s n) (he : e < s.1.length) : ∀ m g acc, acc < 2 ^ 16 → rcN s n e m g acc < 2 ^ 16 := by
  intro m
  induction m with
  | zero => intro g acc h; exact h
  | succ m ih =>
    intro g acc h
    have t := tms_lt (b := g) hs he
    exact ih _ _ (orN h (Nat.lt_of_lt_of_le t hs.1.2)).2
theorem rcF_lt {s : qsT} {n e : Nat} (hs : qOK s n) (he : e < s.1.length) : rcF s n e < 2 ^ 16 := rcN_lt hs he _ _ _ (by decide)
section CS
variable {F q n L : Nat} {σ : jxS} {M : Nat → List Nat} {s : qsT}
theorem cs_reach (hP : PosOK σ) (n6 : n ≤ 6) (hQ : QK σ M q n s) (hL : s.1.length = L) {e : Nat} (he : e < L) (hF : 100 ≤ F) : ∀ (m fu g acc : Nat), m + g = L → m < fu → acc < 2 ^ 16 → Quotient_reachOf_c4 F q fu e acc g σ = some ((rcN s n e m g acc : Int), σ) := by
  have w4 : σ q 7 = (L : Int) := by rw [← hL]; exact hQ.1.2.2.2.2.1
  have l16 : L ≤ 16 := by rw [← hL]; exact hQ.2.1.1.2
  intro m
  induction m with
  | zero =>
    intro fu g acc e1 e2 e3
    obtain ⟨fu, rfl⟩ : ∃ k, fu = k + 1 := ⟨fu - 1, by omega⟩
    have c : ¬ jw (g : Int) < jw (σ q 7) := by rw [w4]; unfold jw; omega
    rw [Quotient_reachOf_c4, if_neg c]
    rfl
  | succ m ih =>
    intro fu g acc e1 e2 e3
    obtain ⟨fu, rfl⟩ : ∃ k, fu = k + 1 := ⟨fu - 1, by omega⟩
    have c : jw (g : Int) < jw (σ q 7) := by rw [w4]; unfold jw; omega
    have gL : g < s.1.length := by omega
    have eL : e < s.1.length := by omega
    have tm := cq_times (F := F) hP n6 hQ eL gL hF
    have tl := tms_lt (b := g) hQ.2.1 eL
    obtain ⟨o1, o2⟩ := orN e3 (Nat.lt_of_lt_of_le tl hQ.2.1.1.2)
    have i1 := ih fu (g + 1) (acc ||| 2 ^ tms s n e g) (by omega) (by omega) o2
    rw [Int.natCast_add, Int.natCast_one] at i1
    rw [Quotient_reachOf_c4, if_pos c, tm, jbs]
    dsimp only
    rw [o1]
    exact i1
theorem cs_reachF (hP : PosOK σ) (n6 : n ≤ 6) (hQ : QK σ M q n s) {e : Nat} (he : e < s.1.length) (hF : 100 ≤ F) : Quotient_reachOf F q σ e = some ((rcF s n e : Int), σ) := by
  have l16 := hQ.2.1.1.2
  exact cs_reach hP n6 hQ rfl he hF _ F 0 0 (Nat.add_zero _) (by omega) (by decide)
theorem cs_kern (hP : PosOK σ) (n6 : n ≤ 6) (hQ : QK σ M q n s) (hL : s.1.length = L) (hF : 100 ≤ F) : ∀ (m fu e acc : Nat), m + e = L → m < fu → acc < 2 ^ 16 → Quotient_kernel_c11 F q fu acc e σ = some ((krN s n m e acc : Int), σ) := by
  have w4 : σ q 7 = (L : Int) := by rw [← hL]; exact hQ.1.2.2.2.2.1
  have l16 : L ≤ 16 := by rw [← hL]; exact hQ.2.1.1.2
  intro m
  induction m with
  | zero =>
    intro fu e acc e1 e2 e3
    obtain ⟨fu, rfl⟩ : ∃ k, fu = k + 1 := ⟨fu - 1, by omega⟩
    have c : ¬ jw (e : Int) < jw (σ q 7) := by rw [w4]; unfold jw; omega
    rw [Quotient_kernel_c11, if_neg c]
    rfl
  | succ m ih =>
    intro fu e acc e1 e2 e3
    obtain ⟨fu, rfl⟩ : ∃ k, fu = k + 1 := ⟨fu - 1, by omega⟩
    have c : jw (e : Int) < jw (σ q 7) := by rw [w4]; unfold jw; omega
    obtain ⟨o1, o2⟩ := adN (b := rcF s n e) e3
    have i1 := ih fu (e + 1) (acc &&& rcF s n e) (by omega) (by omega) o2
    rw [Int.natCast_add, Int.natCast_one] at i1
    rw [Quotient_kernel_c11, if_pos c, cs_reachF hP n6 hQ (by omega) hF, jbs]
    dsimp only
    rw [o1]
    exact i1
theorem cs_unit (hP : PosOK σ) (n6 : n ≤ 6) (hQ : QK σ M q n s) (hL : s.1.length = L) (hF : 100 ≤ F) : ∀ (m fu e acc : Nat), m + e = L → m < fu → acc < 2 ^ 16 → Quotient_units_c4 F q fu acc e σ = some ((unN s n m e acc : Int), σ) := by
  have w4 : σ q 7 = (L : Int) := by rw [← hL]; exact hQ.1.2.2.2.2.1
  have l16 : L ≤ 16 := by rw [← hL]; exact hQ.2.1.1.2
  intro m
  induction m with
  | zero =>
    intro fu e acc e1 e2 e3
    obtain ⟨fu, rfl⟩ : ∃ k, fu = k + 1 := ⟨fu - 1, by omega⟩
    have c : ¬ jw (e : Int) < jw (σ q 7) := by rw [w4]; unfold jw; omega
    rw [Quotient_units_c4, if_neg c]
    rfl
  | succ m ih =>
    intro fu e acc e1 e2 e3
    obtain ⟨fu, rfl⟩ : ∃ k, fu = k + 1 := ⟨fu - 1, by omega⟩
    have c : jw (e : Int) < jw (σ q 7) := by rw [w4]; unfold jw; omega
    have eL : e < s.1.length := by omega
    obtain ⟨b1, _⟩ := bit0N (rcF_lt hQ.2.1 eL)
    obtain ⟨o1, o2⟩ := orN e3 (show e < 16 by omega)
    have e1' : m + (e + 1) = L := by omega
    have e2' : m < fu := by omega
    rw [Quotient_units_c4, if_pos c, cs_reachF hP n6 hQ eL hF, jbs]
    dsimp only
    simp only [unN]
    cases ht : (rcF s n e).testBit 0
    · rw [ht] at b1
      simp only [Bool.false_eq_true, if_false] at b1 ⊢
      have i1 := ih fu (e + 1) acc e1' e2' e3
      rw [Int.natCast_add, Int.natCast_one] at i1
      rw [b1, if_neg (show ¬ jw 0 = 1 by decide)]
      exact i1
    · rw [ht] at b1
      simp only [if_true] at b1 ⊢
      have i1 := ih fu (e + 1) (acc ||| 2 ^ e) e1' e2' o2
      rw [Int.natCast_add, Int.natCast_one] at i1
      rw [b1, if_pos (show jw 1 = 1 by decide), o1]
      exact i1
theorem cs_idle (hP : PosOK σ) (n6 : n ≤ 6) (hQ : QK σ M q n s) (hL : s.1.length = L) (hF : 100 ≤ F) : ∀ (m fu e acc : Nat), m + e = L → m < fu → acc < 2 ^ 16 → Quotient_idle_c4 F q fu acc e σ = some ((idN s n m e acc : Int), σ) := by
  have w4 : σ q 7 = (L : Int) := by rw [← hL]; exact hQ.1.2.2.2.2.1
  have l16 : L ≤ 16 := by rw [← hL]; exact hQ.2.1.1.2
  intro m
  induction m with
  | zero =>
    intro fu e acc e1 e2 e3
    obtain ⟨fu, rfl⟩ : ∃ k, fu = k + 1 := ⟨fu - 1, by omega⟩
    have c : ¬ jw (e : Int) < jw (σ q 7) := by rw [w4]; unfold jw; omega
    rw [Quotient_idle_c4, if_neg c]
    rfl
  | succ m ih =>
    intro fu e acc e1 e2 e3
    obtain ⟨fu, rfl⟩ : ∃ k, fu = k + 1 := ⟨fu - 1, by omega⟩
    have c : jw (e : Int) < jw (σ q 7) := by rw [w4]; unfold jw; omega
    have eL : e < s.1.length := by omega
    have tm := cq_times (F := F) hP n6 hQ eL eL hF
    have tl := tms_lt (b := e) hQ.2.1 eL
    obtain ⟨o1, o2⟩ := orN e3 (show e < 16 by omega)
    have e1' : m + (e + 1) = L := by omega
    have e2' : m < fu := by omega
    rw [Quotient_idle_c4, if_pos c, tm, jbs]
    dsimp only
    simp only [idN]
    by_cases z : tms s n e e = e
    · have i1 := ih fu (e + 1) (acc ||| 2 ^ e) e1' e2' o2
      rw [Int.natCast_add, Int.natCast_one] at i1
      rw [if_pos (show jw ((tms s n e e : Nat) : Int) = jw (e : Int) by rw [z]), if_pos z, o1]
      exact i1
    · have i1 := ih fu (e + 1) acc e1' e2' e3
      rw [Int.natCast_add, Int.natCast_one] at i1
      rw [if_neg (show ¬ jw ((tms s n e e : Nat) : Int) = jw (e : Int) by unfold jw; omega), if_neg z]
      exact i1
theorem cs_lost (hQ : QK σ M q n s) (hL : s.1.length = L) : ∀ (m fu e acc : Nat), m + e = L → m < fu → acc < 2 ^ 16 → Quotient_lostSet_c4 F q fu acc e σ = some ((lsN M s m e acc : Int), σ) := by
  have w4 : σ q 7 = (L : Int) := by rw [← hL]; exact hQ.1.2.2.2.2.1
  have l16 : L ≤ 16 := by rw [← hL]; exact hQ.2.1.1.2
  have u0 : un 0 = fun _ => 0 := by
    have h0 : un (rank (fun _ => 0)) = fun _ => 0 := un_rank (fun _ _ => rfl) (by rw [beans_eq]; decide)
    rw [rank_00] at h0
    exact h0
  have t0 : tno n 0 = true := by
    unfold tno
    rw [u0, List.all_eq_true]
    intro x hx
    have := (dh_mem.mp hx).2
    omega
  intro m
  induction m with
  | zero =>
    intro fu e acc e1 e2 e3
    obtain ⟨fu, rfl⟩ : ∃ k, fu = k + 1 := ⟨fu - 1, by omega⟩
    have c : ¬ jw (e : Int) < jw (σ q 7) := by rw [w4]; unfold jw; omega
    rw [Quotient_lostSet_c4, if_neg c]
    rfl
  | succ m ih =>
    intro fu e acc e1 e2 e3
    obtain ⟨fu, rfl⟩ : ∃ k, fu = k + 1 := ⟨fu - 1, by omega⟩
    have c : jw (e : Int) < jw (σ q 7) := by rw [w4]; unfold jw; omega
    have eL : e < s.1.length := by omega
    have ge := getD_at eL
    obtain ⟨⟨ow, bw⟩, _⟩ := hQ.2.1.2.1 _ (List.mem_of_getElem? ge)
    have wm := (hQ.1.2.2.2.2.2 e _ ge).2
    have hh : Quotient_has F q σ e = some (1, σ) := by
      rw [Quotient_has, if_neg (show ¬ jw (e : Int) < 0 by unfold jw; omega), if_pos c]
    obtain ⟨o1, o2⟩ := orN e3 (show e < 16 by omega)
    have e1' : m + (e + 1) = L := by omega
    have e2' : m < fu := by omega
    have c3 : 0 ≤ (e : Int) ∧ (e : Int) < 16 := by omega
    have b1 : jland (((mrk M (rank (s.1.getD e (fun _ => 0))) &&& tst n : Nat)) : Int) 1 = if los M (rank (s.1.getD e (fun _ => 0))) then 1 else 0 := by
      have bb := bl_bit (a := mrk M (rank (s.1.getD e (fun _ => 0))) &&& tst n) (k := 0) (by omega) (Nat.lt_of_lt_of_le (mt_lt M _ n) (by decide))
      have sh := bl_shr (a := mrk M (rank (s.1.getD e (fun _ => 0))) &&& tst n) (k := 0) (by omega) (Nat.lt_of_lt_of_le (mt_lt M _ n) (by decide))
      rw [sh, Nat.pow_zero, Nat.div_one, Nat.testBit_and, mrk_bit, tst_bit, t0, u0, cpl_0, un_rank ow (by omega)] at bb
      rw [bb]
      simp
    rw [Quotient_lostSet_c4, if_pos c, hh, jbs]
    dsimp only
    rw [← wm] at b1
    rw [if_neg (show ¬ jw 1 = 0 by decide), if_pos c3]
    simp only [lsN]
    cases hl : los M (rank (s.1.getD e (fun _ => 0)))
    · rw [hl] at b1
      simp only [Bool.false_eq_true, if_false] at b1 ⊢
      have i1 := ih fu (e + 1) acc e1' e2' e3
      rw [Int.natCast_add, Int.natCast_one] at i1
      rw [if_neg (show ¬ jw (jlcmp (jland (σ (q + 2) (e : Int)) 1) 1) = 0 by rw [b1]; decide)]
      exact i1
    · rw [hl] at b1
      simp only [if_true] at b1 ⊢
      have i1 := ih fu (e + 1) (acc ||| 2 ^ e) e1' e2' o2
      rw [Int.natCast_add, Int.natCast_one] at i1
      rw [if_pos (show jw (jlcmp (jland (σ (q + 2) (e : Int)) 1) 1) = 0 by rw [b1]; decide), o1]
      exact i1
theorem cs_lostF (hQ : QK σ M q n s) (hF : 100 ≤ F) : Quotient_lostSet F q σ = some ((lsF M s : Int), σ) := by
  have l16 := hQ.2.1.1.2
  exact cs_lost hQ rfl _ F 0 0 (Nat.add_zero _) (by omega) (by decide)
end CS
theorem full_set {L : Nat} (h1 : 1 ≤ L) (h : L ≤ 16) : jshl 1 (L : Int) - 1 = ((2 ^ L - 1 : Nat) : Int) := by
  have p : 2 ^ L ≤ 2 ^ 16 := Nat.pow_le_pow_right (by decide) h
  have s := bq_shl (a := 1) (k := L) (by omega) (by rw [Nat.one_mul]; exact Nat.lt_of_le_of_lt p (by decide))
  rw [Nat.one_mul] at s
  have s' : jshl 1 (L : Int) = ((2 ^ L : Nat) : Int) := s
  have pp : 0 < 2 ^ L := Nat.two_pow_pos L
  rw [s']
  generalize 2 ^ L = x at pp
  omega
/-- the answers of sets -/
noncomputable def setA (M : Nat → List Nat) (s : qsT) (n : Nat) (v : Int) : Int := if v = 0 then (lsF M s : Int) else if v = 1 then (krN s n s.1.length 0 (2 ^ s.1.length - 1) : Int) else if v = 2 then (unN s n s.1.length 0 0 : Int) else (idN s n s.1.length 0 0 : Int)
theorem ck_setOf {F q n : Nat} {σ : jxS} {M : Nat → List Nat} {s : qsT} {v : Int} (hP : PosOK σ) (n6 : n ≤ 6) (hQ : QK σ M q n s) (hv : 0 ≤ v) (hv3 : v ≤ 3) (hF : 100 ≤ F) : Quotient_setOf F q σ v = some (setA M s n v, σ) := by
  have l16 := hQ.2.1.1.2
  have l1 := hQ.2.1.1.1
  have w4 := hQ.1.2.2.2.2.1
  have k := cs_kern (F := F) hP n6 hQ rfl hF s.1.length F 0 (2 ^ s.1.length - 1) (Nat.add_zero _) (by omega) (by
    have p : 2 ^ s.1.length ≤ 2 ^ 16 := Nat.pow_le_pow_right (by decide) l16
    have pp : 0 < 2 ^ s.1.length := Nat.two_pow_pos _
    generalize 2 ^ s.1.length = x at p pp
    omega)
  have u := cs_unit (F := F) hP n6 hQ rfl hF s.1.length F 0 0 (Nat.add_zero _) (by omega) (by decide)
  have i := cs_idle (F := F) hP n6 hQ rfl hF s.1.length F 0 0 (Nat.add_zero _) (by omega) (by decide)
  have k' : Quotient_kernel F q σ = some ((krN s n s.1.length 0 (2 ^ s.1.length - 1) : Int), σ) := by
    rw [Quotient_kernel, w4, full_set l1 l16]
    exact k
  have u' : Quotient_units F q σ = some ((unN s n s.1.length 0 0 : Int), σ) := u
  have i' : Quotient_idle F q σ = some ((idN s n s.1.length 0 0 : Int), σ) := i
  unfold setA
  have hc : v = 0 ∨ v = 1 ∨ v = 2 ∨ v = 3 := by omega
  rcases hc with rfl | rfl | rfl | rfl
  · rw [Quotient_setOf, if_pos (by decide), cs_lostF hQ hF, jbs]; rfl
  · rw [Quotient_setOf, if_neg (by decide), if_pos (by decide), k', jbs]; rfl
  · rw [Quotient_setOf, if_neg (by decide), if_neg (by decide), if_pos (by decide), u', jbs]; rfl
  · rw [Quotient_setOf, if_neg (by decide), if_neg (by decide), if_neg (by decide), i', jbs]; rfl
