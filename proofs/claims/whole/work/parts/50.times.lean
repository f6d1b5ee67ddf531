/-! Quotients: next and times on both sides. -/
def itn (s : qsT) (h k r : Nat) : Nat := match k with
  | 0 => r
  | k + 1 => itn s h k (s.2 r h)
def tmk (s : qsT) (w : Nat → Nat) (n m r : Nat) : Nat := match m with
  | 0 => r
  | m + 1 => tmk s w n m (itn s (n - m) (w (n - m)) r)
def tms (s : qsT) (n a b : Nat) : Nat := tmk s (s.1.getD b (fun _ => 0)) n n a
/-- words without heaps above n; nexts are elements -/
def qOK (s : qsT) (n : Nat) : Prop := (1 ≤ s.1.length ∧ s.1.length ≤ 16) ∧ (∀ w, w ∈ s.1 → (okc w ∧ beans w ≤ 15) ∧ ∀ h, n < h → w h = 0) ∧ ∀ a b, a < s.1.length → 1 ≤ b → b ≤ n → s.2 a b < s.1.length
theorem itn_lt {s : qsT} {n h : Nat} (hs : qOK s n) (h1 : 1 ≤ h) (h2 : h ≤ n) : ∀ k r, r < s.1.length → itn s h k r < s.1.length := by
  intro k
  induction k with
  | zero => intro r hr; exact hr
  | succ k ih => intro r hr; exact ih _ (hs.2.2 r h hr h1 h2)
theorem tmk_lt {s : qsT} {w : Nat → Nat} {n : Nat} (hs : qOK s n) : ∀ m r, m ≤ n → r < s.1.length → tmk s w n m r < s.1.length := by
  intro m
  induction m with
  | zero => intro r _ hr; exact hr
  | succ m ih => intro r hm hr; exact ih _ (by omega) (itn_lt hs (by omega) (by omega) _ _ hr)
theorem tms_lt {s : qsT} {n a b : Nat} (hs : qOK s n) (ha : a < s.1.length) : tms s n a b < s.1.length := tmk_lt hs n a (Nat.le_refl _) ha
theorem tmk_congr {s : qsT} {w w' : Nat → Nat} {n : Nat} : ∀ m r, (∀ h, n - m < h → h ≤ n → w h = w' h) → m ≤ n → tmk s w n m r = tmk s w' n m r := by
  intro m
  induction m with
  | zero => intro r _ _; rfl
  | succ m ih =>
    intro r h hm
    simp only [tmk]
    rw [h (n - m) (by omega) (by omega)]
    exact ih _ (fun x x1 x2 => h x (by omega) x2) (by omega)
theorem tmk_peel {s : qsT} {w : Nat → Nat} {n g : Nat} (g2 : g ≤ n) (hg : 0 < w g) (hl : ∀ x, 1 ≤ x → x < g → w x = 0) : ∀ m r, m ≤ n → n - m < g → tmk s w n m r = tmk s (csb w g) n m (s.2 r g) := by
  intro m
  induction m with
  | zero => intro r _ h; omega
  | succ m ih =>
    intro r hm h
    simp only [tmk]
    by_cases e : n - m = g
    · rw [e]
      obtain ⟨k, hk⟩ : ∃ k, w g = k + 1 := ⟨w g - 1, by omega⟩
      have e1 : csb w g g = k := by unfold csb; rw [if_pos rfl, hk]; rfl
      rw [hk, e1]
      show tmk s w n m (itn s g k (s.2 r g)) = _
      refine tmk_congr m _ (fun x x1 x2 => ?_) (by omega)
      unfold csb
      rw [if_neg (by omega)]
    · have e1 : w (n - m) = 0 := hl _ (by omega) (by omega)
      have e2 : csb w g (n - m) = 0 := by unfold csb; rw [if_neg e]; exact e1
      rw [e1, e2]
      exact ih r (by omega) (by omega)
theorem tmk_0 {s : qsT} {n : Nat} : ∀ m r, tmk s (fun _ => 0) n m r = r := by
  intro m
  induction m with
  | zero => intro r; rfl
  | succ m ih => intro r; exact ih r
def QK (σ : jxS) (M : Nat → List Nat) (q n : Nat) (s : qsT) : Prop := QW σ M q n s.1 ∧ qOK s n ∧ ∀ a b : Nat, a < s.1.length → 1 ≤ b → b ≤ n → σ (q + 3) (6 * (a : Int) + b - 1) = (s.2 a b : Int)
def RQ (σ : jxS) (n : Nat) (s : qsT) : Prop := RW σ n s.1 ∧ qOK s n ∧ ∀ a b : Nat, a < s.1.length → 1 ≤ b → b ≤ n → σ 33 (112 * (n : Int) + 7 * a + b) = (s.2 a b : Int)
theorem cq_next {F q n a h : Nat} {σ : jxS} {M : Nat → List Nat} {s : qsT} (n6 : n ≤ 6) (hQ : QK σ M q n s) (ha : a < s.1.length) (h1 : 1 ≤ h) (h2 : h ≤ n) : Quotient_nextOf F q σ a h = some ((s.2 a h : Int), σ) := by
  obtain ⟨⟨w0, _, w2, _, w4, _⟩, ⟨_, _⟩, w5⟩ := hQ
  have w := w5 a h ha h1 h2
  have hh : Quotient_has F q σ a = some (1, σ) := by
    rw [Quotient_has, if_neg (by unfold jw; omega), w4, if_pos (by unfold jw; omega)]
  rw [Quotient_nextOf, hh, jbs]
  dsimp only
  have c1 : ¬ jw (h : Int) < 1 := by unfold jw; omega
  have c2 : ¬ jw (σ q 0) < jw (h : Int) := by rw [w0]; unfold jw; omega
  have c3 : 0 ≤ (a : Int) * 6 + h - 1 ∧ (a : Int) * 6 + h - 1 < 96 := by omega
  have c4 : (a : Int) * 6 + h - 1 = 6 * (a : Int) + h - 1 := by omega
  rw [if_neg (show ¬ jw 1 = 0 by decide), if_neg c1, if_neg c2, Quotient_nextOf_c26, if_neg (show ¬ jw 1 = 0 by decide), if_pos c3, c4, w]
theorem cq_next0 {F q n a : Nat} {σ : jxS} {M : Nat → List Nat} {s : qsT} (hQ : QK σ M q n s) (ha : a < s.1.length) : Quotient_nextOf F q σ a 0 = some ((a : Int), σ) := by
  obtain ⟨⟨w0, _, w2, _, w4, _⟩, ⟨_, _⟩, w5⟩ := hQ
  have hh : Quotient_has F q σ a = some (1, σ) := by
    rw [Quotient_has, if_neg (by unfold jw; omega), w4, if_pos (by unfold jw; omega)]
  rw [Quotient_nextOf, hh, jbs]
  dsimp only
  rw [if_neg (show ¬ jw 1 = 0 by decide), if_pos (by decide), Quotient_nextOf_c25, Quotient_nextOf_c26, if_pos (show jw 0 = 0 from rfl)]
theorem cpr_step {F q fu : Nat} {σ : jxS} {r l i pf h t x : Int} (hi : i < 15) (hi0 : 0 ≤ i) (hl : 0 < l) (hl2 : l < 4224) (p1 : Positions_firstPart F σ l = some (pf, σ)) (p2 : Positions_heapOf F σ pf = some (h, σ)) (pn : Quotient_nextOf F q σ r h = some (x, σ)) (p3 : Positions_restOf F σ pf = some (t, σ)) : Quotient_product_c12 F q (fu + 1) r l i σ = Quotient_product_c12 F q fu x t (i + 1) σ := by
  rw [Quotient_product_c12, if_pos (by unfold jw; omega), if_pos (by unfold jw; omega), p1, jbs]
  dsimp only
  rw [p2, jbs]
  dsimp only
  rw [pn, jbs]
  dsimp only
  rw [p3, jbs]
theorem cpr_stop {F q fu : Nat} {σ : jxS} {r i : Int} (hi : i ≤ 15) (hi0 : 0 ≤ i) : Quotient_product_c12 F q (fu + 1) r 0 i σ = some (r, σ) := by
  by_cases z : i < 15
  · rw [Quotient_product_c12, if_pos (by unfold jw; omega), if_neg (by decide)]
  · rw [Quotient_product_c12, if_neg (by unfold jw; omega)]
theorem cq_prod_c {F q n : Nat} {σ : jxS} {M : Nat → List Nat} {s : qsT} (hP : PosOK σ) (n6 : n ≤ 6) (hQ : QK σ M q n s) : ∀ (m fu : Nat) (w : Nat → Nat) (r i : Nat), okc w → (∀ h, n < h → w h = 0) → beans w ≤ m → i + beans w ≤ 15 → r < s.1.length → m < fu → Quotient_product_c12 F q fu r (rank w) i σ = some ((tmk s w n n r : Int), σ) := by
  intro m
  induction m with
  | zero =>
    intro fu w r i hw hz hb hi hr hf
    obtain ⟨fu, rfl⟩ : ∃ k, fu = k + 1 := ⟨fu - 1, by omega⟩
    have i2 : (i : Int) ≤ 15 := by omega
    have h0 : beans w = 0 := by omega
    rw [rank_0 hw h0, rank_00, tmk_0]
    exact cpr_stop i2 (Int.natCast_nonneg i)
  | succ m ih =>
    intro fu w r i hw hz hb hi hr hf
    obtain ⟨fu, rfl⟩ : ∃ k, fu = k + 1 := ⟨fu - 1, by omega⟩
    have i2 : (i : Int) ≤ 15 := by omega
    by_cases h0 : beans w = 0
    · rw [rank_0 hw h0, rank_00, tmk_0]
      exact cpr_stop i2 (Int.natCast_nonneg i)
    · obtain ⟨h, ⟨h1, h2⟩, h3, h4, p1, p2, p3⟩ := ca_peel (F := F) hP hw (by omega) (by omega)
      have hn : h ≤ n := Classical.byContradiction fun q => by have := hz h (by omega); omega
      have b := beans_csb h1 h2 h3
      have rp := rank_pos.mpr (show 0 < beans w by omega)
      have rt := rank_top (c := w) (by omega)
      have nx := cq_next (F := F) n6 hQ hr h1 hn
      have st := cpr_step (F := F) (q := q) (fu := fu) (i := i) (by omega) (by omega) (by omega) (by omega) p1 p2 nx p3
      have i1 := ih fu (csb w h) (s.2 r h) (i + 1) (okc_csb hw) (fun x hx => by unfold csb; rw [if_neg (by omega)]; exact hz x hx) (by omega) (by omega) (hQ.2.1.2.2 r h hr h1 hn) (by omega)
      rw [Int.natCast_add, Int.natCast_one] at i1
      rw [st, tmk_peel hn h3 h4 n r (Nat.le_refl _) (by omega)]
      exact i1
theorem cq_times {F q n a b : Nat} {σ : jxS} {M : Nat → List Nat} {s : qsT} (hP : PosOK σ) (n6 : n ≤ 6) (hQ : QK σ M q n s) (ha : a < s.1.length) (hb : b < s.1.length) (hF : 100 ≤ F) : Quotient_product F q σ a b = some ((tms s n a b : Int), σ) := by
  have hQ' := hQ
  obtain ⟨⟨w0, _, w2, _, w4, w6⟩, ⟨_, w7, _⟩, w5⟩ := hQ'
  have ge := getD_at hb
  have wb := (w6 b _ ge).1
  obtain ⟨⟨o1, o2⟩, o3⟩ := w7 _ (List.mem_of_getElem? ge)
  have hh : Quotient_has F q σ b = some (1, σ) := by
    rw [Quotient_has, if_neg (by unfold jw; omega), w4, if_pos (by unfold jw; omega)]
  have wo : Quotient_wordOf F q σ b = some ((rank (s.1.getD b (fun _ => 0)) : Int), σ) := by
    rw [Quotient_wordOf, hh, jbs]
    dsimp only
    rw [if_neg (show ¬ jw 1 = 0 by decide), if_pos (by omega), wb]
  rw [Quotient_product, wo, jbs]
  exact cq_prod_c hP n6 hQ 15 F _ a 0 o1 o3 (by omega) (by omega) ha (by omega)
/-- the reference's -/
theorem rq_next {F n a h : Nat} {σ : jxS} {s : qsT} (n6 : n ≤ 6) (hQ : RQ σ n s) (ha : a < s.1.length) (h1 : 1 ≤ h) (h2 : h ≤ n) : Model_nextBy F σ n a h = some ((s.2 a h : Int), σ) := by
  obtain ⟨⟨_, w2, _, _⟩, _, w5⟩ := hQ
  have w := w5 a h ha h1 h2
  rw [Model_nextBy, if_neg (by unfold jw; omega), Model_placeOf, jbs]
  dsimp only
  rw [if_pos (by omega), w]
theorem rq_next0 {F n a : Nat} {σ : jxS} : Model_nextBy F σ n a 0 = some ((a : Int), σ) := by
  rw [Model_nextBy, if_pos (show jw 0 = 0 from rfl)]
theorem rt_in {F n b h : Nat} {σ : jxS} {s : qsT} {k6 : Int → Int → Int → Int → jxS → Option jxR} (n6 : n ≤ 6) (hQ : RQ σ n s) (hb : b < s.1.length) (h1 : 1 ≤ h) (h2 : h ≤ n) : ∀ (k fu c r : Nat), k + c = (s.1.getD b (fun _ => 0)) h → r < s.1.length → k < fu → Model_timesOf_c15 F k6 fu n b r h c σ = k6 n b (itn s h k r) ((h : Int) + 1) σ := by
  have hQ' := hQ
  obtain ⟨⟨_, w2, w3, w4⟩, q0, w5⟩ := hQ'
  have ge := getD_at hb
  have ww := (w4 b _ ge).1 h h1 h2
  have bw := (w3 _ (List.mem_of_getElem? ge)).2
  have cl := count_le (c := s.1.getD b (fun _ => 0)) (h := h) h1 (by omega)
  intro k
  induction k with
  | zero =>
    intro fu c r e1 hr hf
    obtain ⟨fu, rfl⟩ : ∃ k, fu = k + 1 := ⟨fu - 1, by omega⟩
    rw [Model_timesOf_c15, Model_placeOf, jbs]
    dsimp only
    rw [if_pos (by omega), if_neg (show ¬ jw (c : Int) < jw (σ 32 (112 * (n : Int) + 7 * b + h)) by rw [ww]; unfold jw; omega)]
    rfl
  | succ k ih =>
    intro fu c r e1 hr hf
    obtain ⟨fu, rfl⟩ : ∃ k, fu = k + 1 := ⟨fu - 1, by omega⟩
    have nx := rq_next (F := F) n6 hQ hr h1 h2
    have i1 := ih fu (c + 1) (s.2 r h) (by omega) (q0.2.2 r h hr h1 h2) (by omega)
    rw [Int.natCast_add, Int.natCast_one] at i1
    rw [Model_timesOf_c15, Model_placeOf, jbs]
    dsimp only
    rw [if_pos (by omega), if_pos (show jw (c : Int) < jw (σ 32 (112 * (n : Int) + 7 * b + h)) by rw [ww]; unfold jw; omega), nx, jbs]
    exact i1
theorem rt_out {F n b : Nat} {σ : jxS} {s : qsT} (n6 : n ≤ 6) (hQ : RQ σ n s) (hb : b < s.1.length) (hF : 100 ≤ F) : ∀ (m fu h r : Nat), m + h = n + 1 → 1 ≤ h → r < s.1.length → m < fu → Model_timesOf_c6 F fu n b r h σ = some ((tmk s (s.1.getD b (fun _ => 0)) n m r : Int), σ) := by
  have ge := getD_at hb
  intro m
  induction m with
  | zero =>
    intro fu h r e1 e2 hr hf
    obtain ⟨fu, rfl⟩ : ∃ k, fu = k + 1 := ⟨fu - 1, by omega⟩
    rw [Model_timesOf_c6, if_pos (by unfold jw; omega)]
    rfl
  | succ m ih =>
    intro fu h r e1 e2 hr hf
    obtain ⟨fu, rfl⟩ : ∃ k, fu = k + 1 := ⟨fu - 1, by omega⟩
    have bw := (hQ.1.2.2.1 _ (List.mem_of_getElem? ge)).2
    have cl := count_le (c := s.1.getD b (fun _ => 0)) (h := h) e2 (by omega)
    have i0 := rt_in (F := F) (k6 := Model_timesOf_c6 F fu) n6 hQ hb e2 (by omega) ((s.1.getD b (fun _ => 0)) h) F 0 r (by omega) hr (by omega)
    have i1 := ih fu (h + 1) (itn s h ((s.1.getD b (fun _ => 0)) h) r) (by omega) (by omega) (itn_lt hQ.2.1 e2 (by omega) _ _ hr) (by omega)
    rw [show ((h + 1 : Nat) : Int) = (h : Int) + 1 by omega] at i1
    have i0' : Model_timesOf_c15 F (Model_timesOf_c6 F fu) F n b r h 0 σ = _ := i0
    rw [Model_timesOf_c6, if_neg (by unfold jw; omega), i0', i1]
    simp only [tmk]
    rw [show n - m = h by omega]
theorem rq_times {F n a b : Nat} {σ : jxS} {s : qsT} (n1 : 1 ≤ n) (n6 : n ≤ 6) (hQ : RQ σ n s) (ha : a < s.1.length) (hb : b < s.1.length) (hF : 100 ≤ F) : Model_timesOf F σ n a b = some ((tms s n a b : Int), σ) := rt_out n6 hQ hb hF n F 1 a (by omega) (by omega) ha (by omega)
/-- what is built is right -/
theorem qst_ok {M : Nat → List Nat} {n e h : Nat} {s s' : qsT} (n6 : n ≤ 12) (h1 : 1 ≤ h) (h2 : h ≤ n) (he : e < s.1.length) (hs : (1 ≤ s.1.length ∧ s.1.length ≤ 16) ∧ ∀ w, w ∈ s.1 → (okc w ∧ beans w ≤ 15) ∧ ∀ x, n < x → w x = 0) (hq : qst M n s e h = some s') : (1 ≤ s'.1.length ∧ s'.1.length ≤ 16) ∧ (∀ w, w ∈ s'.1 → (okc w ∧ beans w ≤ 15) ∧ ∀ x, n < x → w x = 0) ∧ s.1.length ≤ s'.1.length := by
  obtain ⟨⟨l1, l2⟩, hw⟩ := hs
  have ge := getD_at he
  obtain ⟨⟨o1, o2⟩, o3⟩ := hw _ (List.mem_of_getElem? ge)
  unfold qst at hq
  split at hq
  · cases hq
  · rename_i nb
    split at hq
    · injection hq with hq; rw [← hq]; exact ⟨⟨l1, l2⟩, hw, Nat.le_refl _⟩
    · split at hq
      · cases hq
      · rename_i n16
        injection hq with hq
        rw [← hq]
        have ll : (s.1 ++ [cad (s.1.getD e (fun _ => 0)) h]).length = s.1.length + 1 := by rw [List.length_append, List.length_singleton]
        refine ⟨⟨by show 1 ≤ (s.1 ++ [_]).length; rw [ll]; omega, by show (s.1 ++ [_]).length ≤ 16; rw [ll]; omega⟩, fun w hw' => ?_, by show s.1.length ≤ (s.1 ++ [_]).length; rw [ll]; omega⟩
        rcases List.mem_append.mp hw' with y | y
        · exact hw w y
        · rw [List.mem_singleton.mp y]
          refine ⟨⟨okc_cad o1 h1 (by omega), by omega⟩, fun x hx => ?_⟩
          unfold cad
          rw [if_neg (by omega)]
          exact o3 x hx
theorem qin_ok {M : Nat → List Nat} {n e : Nat} (n6 : n ≤ 12) : ∀ (m h : Nat) (s s' : qsT), m + h = n + 1 → 1 ≤ h → e < s.1.length → ((1 ≤ s.1.length ∧ s.1.length ≤ 16) ∧ ∀ w, w ∈ s.1 → (okc w ∧ beans w ≤ 15) ∧ ∀ x, n < x → w x = 0) → qin M n s e m h = some s' → (1 ≤ s'.1.length ∧ s'.1.length ≤ 16) ∧ ∀ w, w ∈ s'.1 → (okc w ∧ beans w ≤ 15) ∧ ∀ x, n < x → w x = 0 := by
  intro m
  induction m with
  | zero => intro h s s' _ _ _ hs hq; simp only [qin, Option.some.injEq] at hq; rw [← hq]; exact hs
  | succ m ih =>
    intro h s s' e1 e2 he hs hq
    rw [qin] at hq
    cases hst : qst M n s e h with
    | none => rw [hst] at hq; cases hq
    | some s1 =>
      rw [hst] at hq
      obtain ⟨a1, a2, a3⟩ := qst_ok n6 e2 (by omega) he hs hst
      exact ih (h + 1) s1 s' (by omega) (by omega) (by omega) ⟨a1, a2⟩ hq
theorem qout_ok {M : Nat → List Nat} {n : Nat} (n6 : n ≤ 12) : ∀ (m e : Nat) (s s' : qsT), ((1 ≤ s.1.length ∧ s.1.length ≤ 16) ∧ ∀ w, w ∈ s.1 → (okc w ∧ beans w ≤ 15) ∧ ∀ x, n < x → w x = 0) → qout M n s m e = some s' → (1 ≤ s'.1.length ∧ s'.1.length ≤ 16) ∧ ∀ w, w ∈ s'.1 → (okc w ∧ beans w ≤ 15) ∧ ∀ x, n < x → w x = 0 := by
  intro m
  induction m with
  | zero => intro e s s' hs hq; simp only [qout, Option.some.injEq] at hq; rw [← hq]; exact hs
  | succ m ih =>
    intro e s s' hs hq
    rw [qout] at hq
    by_cases z : e < s.1.length
    · rw [if_pos z] at hq
      cases hi : qin M n s e n 1 with
      | none => rw [hi] at hq; cases hq
      | some s1 =>
        rw [hi] at hq
        exact ih (e + 1) s1 s' (qin_ok n6 n 1 s s1 (by omega) (Nat.le_refl _) z hs hi) hq
    · rw [if_neg z] at hq
      injection hq with hq
      rw [← hq]
      exact hs
theorem qbd_ok {M : Nat → List Nat} {n : Nat} {s : qsT} (n6 : n ≤ 12) (h : qbd M n = some s) : (1 ≤ s.1.length ∧ s.1.length ≤ 16) ∧ ∀ w, w ∈ s.1 → (okc w ∧ beans w ≤ 15) ∧ ∀ x, n < x → w x = 0 := by
  refine qout_ok n6 17 0 _ s ⟨⟨by decide, by decide⟩, fun w hw => ?_⟩ h
  rw [List.mem_singleton.mp hw]
  exact ⟨⟨fun _ _ => rfl, by rw [beans_eq]; decide⟩, fun _ _ => rfl⟩
