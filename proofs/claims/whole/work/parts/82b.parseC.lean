/-! The class's reader: blanks, numbers, words. -/
section PC
variable {F : Nat} {σ : jxS} {l : List Nat}
def At8 (a : Nat) (j : Int) : Prop := a = 3 ∧ j = 8
/-- the class reads the tape l, and stands at k -/
def RdC (σ : jxS) (l : List Nat) (k : Nat) : Prop := TpC σ (tpN l) ∧ (∀ b, b ∈ l → b < 256) ∧ σ 3 8 = (k : Int)
theorem TpC_fr {σ' : jxS} {P : Nat → Int → Prop} {m : List Int} (h : TpC σ m) (f : jfr P σ σ') (h1 : ¬ P 1 1) (h2 : ∀ j, ¬ P 2 j) : TpC σ' m :=
  ⟨by rw [f 1 1 h1]; exact h.1, h.2.1, fun i x hx => by rw [f 2 _ (h2 _)]; exact h.2.2 i x hx⟩
theorem RdC_len {k : Nat} (h : RdC σ l k) : σ 1 1 = (l.length : Int) ∧ l.length ≤ 200 := by
  have e : (tpN l).length = l.length := List.length_map ..
  have a := h.1.1
  have b := h.1.2.1
  rw [e] at a b
  exact ⟨a, b⟩
theorem RdC_fr {σ' : jxS} {P : Nat → Int → Prop} {k : Nat} (h : RdC σ l k) (f : jfr P σ σ') (h1 : ¬ P 1 1) (h2 : ∀ j, ¬ P 2 j) (h3 : ¬ P 3 8) : RdC σ' l k :=
  ⟨TpC_fr h.1 f h1 h2, h.2.1, by rw [f 3 8 h3]; exact h.2.2⟩
theorem RdC_up {k k' : Nat} (h : RdC σ l k) : RdC (jup σ 3 8 (k' : Int)) l k' :=
  ⟨TpC_fr h.1 (P := At8) (jfr_up (jfr_refl _ _) ⟨rfl, rfl⟩) (by simp [At8]) (fun j => by simp [At8]), h.2.1, jup_s _ _ _ _⟩
theorem rc_at {k j : Nat} (h : RdC σ l k) (hj : j ≤ 1000) : Tape_at F σ (j : Int) = some (bt l j, σ) := by
  obtain ⟨w, l2⟩ := RdC_len h
  unfold bt
  cases e : l[j]? with
  | some b => exact tp_at (F := F) h.1 (by rw [tpN, List.getElem?_map, e]; rfl)
  | none =>
    have := List.getElem?_eq_none_iff.mp e
    rw [Tape_at, if_neg (show ¬ jw (j : Int) < 0 by rw [jw_id (by omega) (by omega)]; omega), w, if_neg (show ¬ jw (j : Int) < jw (l.length : Int) by rw [jw_id (by omega) (by omega), jw_id (by omega) (by omega)]; omega)]
theorem rc_isD {x : Int} (hx : iR x) : Reader_isDigit F σ x = some (if isD x then 1 else 0, σ) := by
  rw [Reader_isDigit, jw_id hx.1 hx.2]
  unfold isD
  by_cases y : x < 48
  · rw [if_pos y, if_neg (by omega)]
  · by_cases z : 57 < x
    · rw [if_neg y, if_pos z, if_neg (by omega)]
    · rw [if_neg y, if_neg z, if_pos (by omega)]
theorem rc_isL {x : Int} (hx : iR x) : Reader_isLetter F σ x = some (if isL x then 1 else 0, σ) := by
  rw [Reader_isLetter, jw_id hx.1 hx.2]
  unfold isL
  by_cases y : x < 97
  · rw [if_pos y, if_neg (by omega)]
  · by_cases z : 122 < x
    · rw [if_neg y, if_pos z, if_neg (by omega)]
    · rw [if_neg y, if_neg z, if_pos (by omega)]
theorem bt_iR {j : Nat} (hl : ∀ b, b ∈ l → b < 256) : iR (bt l j) := by
  have := bt_b (k := j) hl
  exact ⟨by omega, by omega⟩
theorem rc_skip_c : ∀ (f fu k : Nat) (σ : jxS), RdC σ l k → k ≤ l.length → f ≤ 200 → f < fu → ∃ σ', Reader_skipBlanks_c8 F fu f σ = some (0, σ') ∧ jfr At8 σ σ' ∧ RdC σ' l (skn l f k) := by
  intro f
  induction f with
  | zero =>
    intro fu k σ h hk hf h1
    obtain ⟨fu, rfl⟩ : ∃ k, fu = k + 1 := ⟨fu - 1, by omega⟩
    exact ⟨σ, by rw [Reader_skipBlanks_c8, if_neg (show ¬ 0 < jw ((0 : Nat) : Int) by decide)], jfr_refl _ _, h⟩
  | succ f ih =>
    intro fu k σ h hk hf h1
    obtain ⟨fu, rfl⟩ : ∃ k, fu = k + 1 := ⟨fu - 1, by omega⟩
    have l2 := (RdC_len h).2
    have b := bt_b (k := k) h.2.1
    rw [Reader_skipBlanks_c8, if_pos (show 0 < jw ((f + 1 : Nat) : Int) by rw [jw_id (by omega) (by omega)]; omega), h.2.2, rc_at h (by omega), jbs]
    dsimp only
    rw [jw_id (x := bt l k) (by omega) (by omega), skn]
    by_cases q : bt l k = 32
    · have kl := bt_in (l := l) (k := k) (by rw [q]; decide)
      obtain ⟨σ', i1, i2, i3⟩ := ih fu (k + 1) (jup σ 3 8 ((k + 1 : Nat) : Int)) (RdC_up h) (by omega) (by omega) (by omega)
      rw [if_pos q, if_pos q, h.2.2]
      refine ⟨σ', ?_, jfr_trans (jfr_up (jfr_refl _ _) ⟨rfl, rfl⟩) i2, i3⟩
      rw [show ((f + 1 : Nat) : Int) + (-1) = (f : Int) by omega, show (k : Int) + 1 = ((k + 1 : Nat) : Int) by omega]
      exact i1
    · rw [if_neg q, if_neg q]
      exact ⟨σ, rfl, jfr_refl _ _, h⟩
theorem rc_skip {k : Nat} (h : RdC σ l k) (hk : k ≤ l.length) (hF : 1000 ≤ F) : ∃ σ', Reader_skipBlanks F σ = some (0, σ') ∧ jfr At8 σ σ' ∧ RdC σ' l (skp l k) := by
  obtain ⟨w, l2⟩ := RdC_len h
  obtain ⟨σ', i1, i2, i3⟩ := rc_skip_c (F := F) l.length F k σ h hk l2 (by omega)
  refine ⟨σ', ?_, i2, i3⟩
  rw [Reader_skipBlanks, Tape_size, jbs]
  dsimp only
  rw [w]
  exact i1
def FtP (a : Nat) (j : Int) : Prop := a = 3 ∧ (j = 8 ∨ j = 9)
theorem rc_fail {p : Nat} {m : Int} (hf : σ 3 9 = 0) : Reader_fail F σ (p : Int) m = some (0, jup σ 3 9 (8 * (p : Int) + m)) := by
  rw [Reader_fail, hf, if_pos (show jw 0 = 0 from rfl)]
theorem dvl_b (hl : ∀ b, b ∈ l → b < 256) {p : Nat} : ∀ n, (∀ i, i < n → isD (bt l (p + i))) → 0 ≤ dvl l p n ∧ dvl l p n ≤ 999 ∧ (n ≤ 2 → dvl l p n ≤ 99) ∧ (n ≤ 1 → dvl l p n ≤ 9) ∧ (n = 0 → dvl l p n = 0) := by
  intro n
  induction n with
  | zero => intro _; rw [dvl]; omega
  | succ n ih =>
    intro h
    have i := ih (fun j hj => h j (by omega))
    have d := h n (by omega)
    unfold isD at d
    rw [dvl]
    by_cases q : n < 3
    · rw [if_pos q]
      have i0 := i.2.2.2.2
      have i1 := i.2.2.2.1
      have i2 := i.2.2.1
      rcases (show n = 0 ∨ n = 1 ∨ n = 2 by omega) with rfl | rfl | rfl
      · have := i0 rfl; omega
      · have := i1 (by omega); omega
      · have := i2 (by omega); omega
    · rw [if_neg q]
      omega
theorem rc_num_c {lo hi : Int} {p : Nat} : ∀ (f fu k : Nat) (σ : jxS), RdC σ l k → p ≤ k → k ≤ l.length → (∀ i, i < k - p → isD (bt l (p + i))) → l.length ≤ k + f → f ≤ 200 → f < fu → ∃ σ', Reader_readNumber_c21 F fu lo hi p (dvl l p (k - p)) f σ = Reader_readNumber_c91 F lo hi p (dvl l p (dge l f k - p)) σ' ∧ jfr At8 σ σ' ∧ RdC σ' l (dge l f k) ∧ ∀ i, i < dge l f k - p → isD (bt l (p + i)) := by
  intro f
  induction f with
  | zero =>
    intro fu k σ h hp hk hd hL hf h1
    obtain ⟨fu, rfl⟩ : ∃ k, fu = k + 1 := ⟨fu - 1, by omega⟩
    exact ⟨σ, by rw [Reader_readNumber_c21, if_neg (show ¬ 0 < jw ((0 : Nat) : Int) by decide), dge], jfr_refl _ _, h, hd⟩
  | succ f ih =>
    intro fu k σ h hp hk hd hL hf h1
    obtain ⟨fu, rfl⟩ : ∃ k, fu = k + 1 := ⟨fu - 1, by omega⟩
    have l2 := (RdC_len h).2
    have b := bt_iR (j := k) h.2.1
    rw [Reader_readNumber_c21, if_pos (show 0 < jw ((f + 1 : Nat) : Int) by rw [jw_id (by omega) (by omega)]; omega), h.2.2, rc_at h (by omega), jbs]
    dsimp only
    rw [rc_isD b, jbs, dge]
    dsimp only
    by_cases q : isD (bt l k)
    · have kl := isD_in q
      have hd' : ∀ i, i < k + 1 - p → isD (bt l (p + i)) := fun i hi => by
        by_cases e : i < k - p
        · exact hd i e
        · rw [show p + i = k by omega]; exact q
      obtain ⟨σ', i1, i2, i3, i4⟩ := ih fu (k + 1) (jup σ 3 8 ((k + 1 : Nat) : Int)) (RdC_up h) (by omega) (by omega) hd' (by omega) (by omega) (by omega)
      rw [if_pos q, if_pos q, if_neg (show ¬ jw 1 = 0 by decide)]
      refine ⟨σ', ?_, jfr_trans (jfr_up (jfr_refl _ _) ⟨rfl, rfl⟩) i2, i3, i4⟩
      rw [show k + 1 - p = (k - p) + 1 by omega, dvl] at i1
      rw [show p + (k - p) = k by omega] at i1
      by_cases z : k - p < 3
      · rw [if_pos z] at i1
        rw [if_pos (show jw (σ 3 8 - p) < 3 by rw [h.2.2, jw_id (by omega) (by omega)]; omega), h.2.2, rc_at h (by omega), jbs]
        dsimp only
        rw [Reader_readNumber_c75, h.2.2, show ((f + 1 : Nat) : Int) + (-1) = (f : Int) by omega, show (k : Int) + 1 = ((k + 1 : Nat) : Int) by omega]
        exact i1
      · rw [if_neg z] at i1
        rw [if_neg (show ¬ jw (σ 3 8 - p) < 3 by rw [h.2.2, jw_id (by omega) (by omega)]; omega), Reader_readNumber_c75, h.2.2, show ((f + 1 : Nat) : Int) + (-1) = (f : Int) by omega, show (k : Int) + 1 = ((k + 1 : Nat) : Int) by omega]
        exact i1
    · rw [if_neg q, if_neg q, if_pos (show jw 0 = 0 from rfl)]
      exact ⟨σ, rfl, jfr_refl _ _, h, hd⟩
/-- what a number's reading leaves -/
def numC (σ σ' : jxS) (l : List Nat) (x : Int) (r : Nat ⊕ (Int × Nat)) : Prop := match r with
  | .inl e => jfr FtP σ σ' ∧ σ' 3 9 = (e : Int) ∧ ∃ k', k' ≤ l.length ∧ RdC σ' l k'
  | .inr (v, k') => x = v ∧ jfr At8 σ σ' ∧ RdC σ' l k'
theorem rc_num {lo hi : Int} {k : Nat} (h : RdC σ l k) (hk : k ≤ l.length) (h9 : σ 3 9 = 0) (hlo : iR lo) (hhi : iR hi) (hF : 1000 ≤ F) : ∃ x σ', Reader_readNumber F σ lo hi = some (x, σ') ∧ numC σ σ' l x (numS l lo hi k) ∧ (-1 ≤ x ∧ x ≤ 1000) := by
  obtain ⟨σ1, a1, a2, a3⟩ := rc_skip (F := F) h hk hF
  obtain ⟨w, l2⟩ := RdC_len a3
  have sb := skp_b (l := l) hk
  generalize hp : skp l k = p at a3 sb
  obtain ⟨σ2, b1, b2, b3, b4⟩ := rc_num_c (F := F) (lo := lo) (hi := hi) (p := p) l.length F p σ1 a3 (Nat.le_refl _) sb.2 (fun i hi => by omega) (by omega) l2 (by omega)
  rw [Nat.sub_self, dvl] at b1
  have db := dge_b (l := l) l.length p sb.2
  have vb := dvl_b (l := l) h.2.1 (p := p) _ b4
  have n9 : σ2 3 9 = 0 := by rw [b2 3 9 (by simp [At8]), a2 3 9 (by simp [At8])]; exact h9
  have f2 : jfr At8 σ σ2 := jfr_trans a2 b2
  have ff : ∀ x, jfr FtP σ (jup σ2 3 9 x) := fun x => jfr_up (jfr_mono f2 (fun a j q => ⟨q.1, Or.inl q.2⟩)) ⟨rfl, Or.inr rfl⟩
  have rf : ∀ x, RdC (jup σ2 3 9 x) l (dge l l.length p) := fun x => RdC_fr (P := fun a j => a = 3 ∧ j = 9) b3 (jfr_up (jfr_refl _ _) ⟨rfl, rfl⟩) (by omega) (fun j => by omega) (by omega)
  rw [Reader_readNumber, a1, jbs]
  dsimp only
  rw [Tape_size, jbs]
  dsimp only
  rw [w, a3.2.2, b1, Reader_readNumber_c91, b3.2.2, numS, hp]
  have dd : isD (bt l p) ↔ p < dge l l.length p := by
    constructor
    · intro q
      have pl := isD_in q
      obtain ⟨f, hf⟩ : ∃ f, l.length = f + 1 := ⟨l.length - 1, by omega⟩
      have e : dge l l.length p = dge l f (p + 1) := by
        rw [hf, dge, if_pos q]
      have := dge_b (l := l) f (p + 1) (by omega)
      omega
    · intro q
      have := b4 0 (by omega)
      rw [Nat.add_zero] at this
      exact this
  generalize dge l l.length p = e at db dd vb rf b3 ⊢
  generalize dvl l p (e - p) = v at vb ⊢
  by_cases y : isD (bt l p)
  · have pe := dd.mp y
    rw [if_pos y, if_neg (show ¬ jw (e : Int) = jw (p : Int) by rw [jw_id (by omega) (by omega), jw_id (by omega) (by omega)]; omega), jw_id (x := (e : Int) - p) (by omega) (by omega), jw_id (x := v) (by omega) (by omega), jw_id hlo.1 hlo.2, jw_id hhi.1 hhi.2]
    have c130 : Reader_readNumber_c130 F p v σ2 = some (v, jup σ2 3 9 (8 * (p : Int) + 2)) := by
      rw [Reader_readNumber_c130, rc_fail n9, jbs]
    by_cases z1 : 3 < (e : Int) - p
    · rw [if_pos z1, c130, if_neg (by omega)]
      exact ⟨v, _, rfl, ⟨ff _, by rw [jup_s]; omega, e, by omega, rf _⟩, by omega, by omega⟩
    by_cases z2 : v < lo
    · rw [if_neg z1, if_pos z2, c130, if_neg (by omega)]
      exact ⟨v, _, rfl, ⟨ff _, by rw [jup_s]; omega, e, by omega, rf _⟩, by omega, by omega⟩
    by_cases z3 : hi < v
    · rw [if_neg z1, if_neg z2, if_pos z3, c130, if_neg (by omega)]
      exact ⟨v, _, rfl, ⟨ff _, by rw [jup_s]; omega, e, by omega, rf _⟩, by omega, by omega⟩
    · rw [if_neg z1, if_neg z2, if_neg z3, if_pos (by omega)]
      exact ⟨v, _, rfl, ⟨rfl, f2, b3⟩, by omega, by omega⟩
  · have pe : e = p := by
      have := dd
      have q : ¬ p < e := fun q => y (dd.mpr q)
      omega
    rw [if_neg y, if_pos (show jw (e : Int) = jw (p : Int) by rw [pe]), rc_fail n9, jbs]
    dsimp only
    exact ⟨v, _, rfl, ⟨ff _, by rw [jup_s]; omega, e, by omega, rf _⟩, by omega, by omega⟩
/-- words -/
theorem rc_word_c {w : Nat} {ws : List Int} {k : Nat} (h : RdC σ l k) (hk : k ≤ l.length) (hw : jstl w = (ws.length : Int)) (wl : ws.length ≤ 5) (ha : ∀ (i : Nat) (x : Int), ws[i]? = some x → jsta w i = x ∧ iR x) : ∀ (r : List Int) (fu i : Nat), ws.drop i = r → r.length + i = ws.length → r.length < fu → Reader_passWord_c2 F w fu i σ = if wml l (k + i) r then some (1, jup σ 3 8 ((k + ws.length : Nat) : Int)) else some (0, σ) := by
  intro r
  have l2 := (RdC_len h).2
  have w1 : jw (jstl w) = (ws.length : Int) := by rw [hw, jw_id (by omega) (by omega)]
  induction r with
  | nil =>
    intro fu i e1 e2 e3
    obtain ⟨fu, rfl⟩ : ∃ k, fu = k + 1 := ⟨fu - 1, by omega⟩
    simp only [List.length_nil] at e2
    have b := bt_iR (j := k + ws.length) h.2.1
    rw [Reader_passWord_c2, w1, if_neg (show ¬ jw (i : Int) < (ws.length : Int) by rw [jw_id (by omega) (by omega)]; omega), h.2.2, hw, show (k : Int) + (ws.length : Int) = ((k + ws.length : Nat) : Int) by omega, rc_at h (by omega), jbs]
    dsimp only
    rw [rc_isL b, jbs, wml, show k + i = k + ws.length by omega]
    dsimp only
    by_cases q : isL (bt l (k + ws.length))
    · rw [if_pos q, if_neg (show ¬ jw 1 = 0 by decide), decide_eq_true q, if_neg (by decide)]
    · rw [if_neg q, if_pos (show jw 0 = 0 from rfl), decide_eq_false q, if_pos (by decide), h.2.2, show (k : Int) + (ws.length : Int) = ((k + ws.length : Nat) : Int) by omega]
  | cons x r ih =>
    intro fu i e1 e2 e3
    obtain ⟨fu, rfl⟩ : ∃ k, fu = k + 1 := ⟨fu - 1, by omega⟩
    simp only [List.length_cons] at e2 e3
    obtain ⟨hx, hr⟩ := drop_o e1
    obtain ⟨a1, a2⟩ := ha i x hx
    have b := bt_iR (j := k + i) h.2.1
    have nx := ih fu (i + 1) hr (by omega) (by omega)
    have nx' : Reader_passWord_c2 F w fu ((i : Int) + 1) σ = _ := nx
    rw [Reader_passWord_c2, w1, if_pos (show jw (i : Int) < (ws.length : Int) by rw [jw_id (by omega) (by omega)]; omega), h.2.2, show (k : Int) + (i : Int) = ((k + i : Nat) : Int) by omega, rc_at h (by omega), jbs, if_pos (show 0 ≤ (i : Int) ∧ (i : Int) < jstl w by rw [hw]; omega)]
    dsimp only
    rw [a1, jw_id b.1 b.2, jw_id a2.1 a2.2, wml]
    by_cases q : bt l (k + i) = x
    · rw [if_pos q, decide_eq_true q, Bool.true_and, nx', show k + (i + 1) = k + i + 1 by omega]
    · rw [if_neg q, decide_eq_false q, Bool.false_and, if_neg (by decide)]
theorem rc_word {w : Nat} {ws : List Int} {k : Nat} (h : RdC σ l k) (hk : k ≤ l.length) (hw : jstl w = (ws.length : Int)) (wl : ws.length ≤ 5) (ha : ∀ (i : Nat) (x : Int), ws[i]? = some x → jsta w i = x ∧ iR x) (hF : 10 ≤ F) : Reader_passWord F w σ = if wml l k ws then some (1, jup σ 3 8 ((k + ws.length : Nat) : Int)) else some (0, σ) := by
  have := rc_word_c (F := F) h hk hw wl ha ws F 0 rfl (Nat.add_zero _) (by omega)
  exact this
end PC
