/-! The reference's reader: blanks, numbers, words. -/
section QC
variable {F : Nat} {σ : jxS} {l : List Nat}
def At2 (a : Nat) (j : Int) : Prop := a = 0 ∧ j = 2
def wdb : List Int := [111, 99, 116, 97, 108, 0, 97, 108, 115, 111, 0, 0, 110, 101, 118, 101, 114, 0, 116, 111, 0, 0, 0, 0]
def WdT (σ : jxS) : Prop := ∀ (i : Nat) (x : Int), wdb[i]? = some x → σ 2 i = x
def RdR (σ : jxS) (l : List Nat) (k : Nat) : Prop := TpQ σ l ∧ WdT σ ∧ σ 0 2 = (k : Int)
theorem TpQ_fr {σ' : jxS} {P : Nat → Int → Prop} (h : TpQ σ l) (f : jfr P σ σ') (h0 : ¬ P 0 1) (h1 : ∀ j, ¬ P 1 j) : TpQ σ' l :=
  ⟨⟨h.1.1, fun i x hx => by rw [f 1 _ (h1 _)]; exact h.1.2 i x hx⟩, by rw [f 0 1 h0]; exact h.2.1, h.2.2⟩
theorem WdT_fr {σ' : jxS} {P : Nat → Int → Prop} (h : WdT σ) (f : jfr P σ σ') (h1 : ∀ j, ¬ P 2 j) : WdT σ' := fun i x hx => by rw [f 2 _ (h1 _)]; exact h i x hx
theorem RdR_fr {σ' : jxS} {P : Nat → Int → Prop} {k : Nat} (h : RdR σ l k) (f : jfr P σ σ') (h0 : ¬ P 0 1) (h1 : ∀ j, ¬ P 1 j) (h2 : ∀ j, ¬ P 2 j) (h3 : ¬ P 0 2) : RdR σ' l k :=
  ⟨TpQ_fr h.1 f h0 h1, WdT_fr h.2.1 f h2, by rw [f 0 2 h3]; exact h.2.2⟩
theorem RdR_up {k k' : Nat} (h : RdR σ l k) : RdR (jup σ 0 2 (k' : Int)) l k' :=
  ⟨TpQ_fr (P := At2) h.1 (jfr_up (jfr_refl _ _) ⟨rfl, rfl⟩) (by simp [At2]) (fun j => by simp [At2]), WdT_fr (P := At2) h.2.1 (jfr_up (jfr_refl _ _) ⟨rfl, rfl⟩) (fun j => by simp [At2]), jup_s _ _ _ _⟩
theorem RdR_len {k : Nat} (h : RdR σ l k) : σ 0 1 = (l.length : Int) ∧ l.length ≤ 200 ∧ ∀ b, b ∈ l → b < 256 := h.1.2
theorem rr_byte {k j : Nat} (h : RdR σ l k) (hj : j ≤ 1000) : Model_byteAt F σ (j : Int) = some (bt l j, σ) := by
  obtain ⟨w, l2, l3⟩ := RdR_len h
  unfold bt
  cases e : l[j]? with
  | some b =>
    have jl := (List.getElem?_eq_some_iff.mp e).1
    have bl := l3 b (List.mem_of_getElem? e)
    have wb := (h.1.1.2 j (sgb b) (by rw [tpS, List.getElem?_map, e]; rfl)).1
    rw [Model_byteAt, w, if_pos (show jw (j : Int) < jw (l.length : Int) by rw [jw_id (by omega) (by omega), jw_id (by omega) (by omega)]; omega), if_pos (show 0 ≤ (j : Int) ∧ (j : Int) < 200 by omega), wb, bq_and255]
    have : sgb b % 256 = (b : Int) := by unfold sgb; split <;> omega
    rw [this]
  | none =>
    have := List.getElem?_eq_none_iff.mp e
    rw [Model_byteAt, w, if_neg (show ¬ jw (j : Int) < jw (l.length : Int) by rw [jw_id (by omega) (by omega), jw_id (by omega) (by omega)]; omega)]
theorem rr_isD {x : Int} (hx : iR x) : Model_isDigit F σ x = some (if isD x then 1 else 0, σ) := by
  rw [Model_isDigit, jw_id hx.1 hx.2]
  unfold isD
  by_cases y : x < 48
  · rw [if_pos y, if_neg (by omega)]
  · by_cases z : 57 < x
    · rw [if_neg y, if_pos z, if_neg (by omega)]
    · rw [if_neg y, if_neg z, if_pos (by omega)]
theorem rr_isL {x : Int} (hx : iR x) : Model_isLetter F σ x = some (if isL x then 1 else 0, σ) := by
  rw [Model_isLetter, jw_id hx.1 hx.2]
  unfold isL
  by_cases y : x < 97
  · rw [if_pos y, if_neg (by omega)]
  · by_cases z : 122 < x
    · rw [if_neg y, if_pos z, if_neg (by omega)]
    · rw [if_neg y, if_neg z, if_pos (by omega)]
theorem rr_next_c : ∀ (f fu k : Nat) (σ : jxS), RdR σ l k → k ≤ l.length → l.length ≤ k + f → f < fu → ∃ σ', Model_next_I_c0 F fu σ = some (bt l (skn l f k), σ') ∧ jfr At2 σ σ' ∧ RdR σ' l (skn l f k) := by
  intro f
  induction f with
  | zero =>
    intro fu k σ h hk hL hf
    obtain ⟨fu, rfl⟩ : ∃ k, fu = k + 1 := ⟨fu - 1, by omega⟩
    have l2 := (RdR_len h).2.1
    have o := bt_out (l := l) (k := k) (by omega)
    rw [Model_next_I_c0, h.2.2, rr_byte h (by omega), jbs, skn]
    dsimp only
    rw [if_neg (show ¬ jw (bt l k) = 32 by rw [o]; decide), h.2.2, rr_byte h (by omega), jbs]
    exact ⟨σ, rfl, jfr_refl _ _, h⟩
  | succ f ih =>
    intro fu k σ h hk hL hf
    obtain ⟨fu, rfl⟩ : ∃ k, fu = k + 1 := ⟨fu - 1, by omega⟩
    have l2 := (RdR_len h).2.1
    have b := bt_iR (j := k) (RdR_len h).2.2
    rw [Model_next_I_c0, h.2.2, rr_byte h (by omega), jbs, skn]
    dsimp only
    by_cases q : bt l k = 32
    · have kl := bt_in (l := l) (k := k) (by rw [q]; decide)
      obtain ⟨σ', i1, i2, i3⟩ := ih fu (k + 1) (jup σ 0 2 ((k + 1 : Nat) : Int)) (RdR_up h) (by omega) (by omega) (by omega)
      rw [if_pos (show jw (bt l k) = 32 by rw [jw_id b.1 b.2]; exact q), if_pos q, h.2.2, show (k : Int) + 1 = ((k + 1 : Nat) : Int) by omega]
      exact ⟨σ', i1, jfr_trans (jfr_up (jfr_refl _ _) ⟨rfl, rfl⟩) i2, i3⟩
    · rw [if_neg (show ¬ jw (bt l k) = 32 by rw [jw_id b.1 b.2]; exact q), if_neg q, h.2.2, rr_byte h (by omega), jbs]
      exact ⟨σ, rfl, jfr_refl _ _, h⟩
theorem rr_next {k : Nat} (h : RdR σ l k) (hk : k ≤ l.length) (hF : 1000 ≤ F) : ∃ σ', Model_next_I F σ = some (bt l (skp l k), σ') ∧ jfr At2 σ σ' ∧ RdR σ' l (skp l k) := by
  have l2 := (RdR_len h).2.1
  obtain ⟨σ', i1, i2, i3⟩ := rr_next_c (F := F) l.length F k σ h hk (by omega) (by omega)
  exact ⟨σ', i1, i2, i3⟩
def NuP (a : Nat) (j : Int) : Prop := a = 0 ∧ (j = 2 ∨ j = 3 ∨ j = 4)
theorem At2_NuP {a : Nat} {j : Int} (h : At2 a j) : NuP a j := ⟨h.1, Or.inl h.2⟩
theorem rr_num_c {lo hi : Int} {p : Nat} (hlo : iR lo) (hhi : iR hi) (hp0 : isD (bt l p)) : ∀ (f fu k : Nat) (σ : jxS), RdR σ l k → p ≤ k → k ≤ l.length → (∀ i, i < k - p → isD (bt l (p + i))) → l.length ≤ k + f → f < fu → σ 0 4 = dvl l p (k - p) → ∃ x σ', Model_reads_c30 F fu lo hi p σ = some (x, σ') ∧ jfr NuP σ σ' ∧ RdR σ' l (dge l f k) ∧ ((dge l f k - p ≤ 3 ∧ lo ≤ dvl l p (dge l f k - p) ∧ dvl l p (dge l f k - p) ≤ hi) → x = 1 ∧ σ' 0 4 = dvl l p (dge l f k - p)) ∧ (¬ (dge l f k - p ≤ 3 ∧ lo ≤ dvl l p (dge l f k - p) ∧ dvl l p (dge l f k - p) ≤ hi) → x = 0 ∧ σ' 0 3 = ((8 * p + 2 : Nat) : Int)) := by
  intro f
  have stop : ∀ (fu k : Nat) (σ : jxS), RdR σ l k → p ≤ k → k ≤ l.length → ¬ isD (bt l k) → (∀ i, i < k - p → isD (bt l (p + i))) → σ 0 4 = dvl l p (k - p) → ∃ x σ', Model_reads_c30 F (fu + 1) lo hi p σ = some (x, σ') ∧ jfr NuP σ σ' ∧ RdR σ' l k ∧ ((k - p ≤ 3 ∧ lo ≤ dvl l p (k - p) ∧ dvl l p (k - p) ≤ hi) → x = 1 ∧ σ' 0 4 = dvl l p (k - p)) ∧ (¬ (k - p ≤ 3 ∧ lo ≤ dvl l p (k - p) ∧ dvl l p (k - p) ≤ hi) → x = 0 ∧ σ' 0 3 = ((8 * p + 2 : Nat) : Int)) := by
    intro fu k σ h hp hk q hd w4
    have l2 := (RdR_len h).2.1
    have b := bt_iR (j := k) (RdR_len h).2.2
    have vb := dvl_b (l := l) (RdR_len h).2.2 (p := p) _ hd
    have c115 : Model_reads_c115 F p σ = some (0, jup σ 0 3 ((8 * p + 2 : Nat) : Int)) := by
      rw [Model_reads_c115, Model_fails, jbs]
      dsimp only
      rw [if_pos (show jw 0 = 0 from rfl), show 8 * (p : Int) + 2 = ((8 * p + 2 : Nat) : Int) by omega]
    have ff : jfr NuP σ (jup σ 0 3 ((8 * p + 2 : Nat) : Int)) := jfr_up (jfr_refl _ _) ⟨rfl, Or.inr (Or.inl rfl)⟩
    have rf : RdR (jup σ 0 3 ((8 * p + 2 : Nat) : Int)) l k := RdR_fr (P := fun a j => a = 0 ∧ j = 3) h (jfr_up (jfr_refl _ _) ⟨rfl, rfl⟩) (by omega) (fun j => by omega) (fun j => by omega) (by omega)
    rw [Model_reads_c30, h.2.2, rr_byte h (by omega), jbs]
    dsimp only
    rw [rr_isD b, jbs, if_neg q]
    dsimp only
    rw [if_pos (show jw 0 = 0 from rfl)]
    by_cases z : 3 < k - p
    · rw [if_pos (show 3 < jw (σ 0 2 - p) by rw [h.2.2, jw_id (by omega) (by omega)]; omega), c115]
      exact ⟨0, _, rfl, ff, rf, fun y => by omega, fun _ => ⟨rfl, jup_s _ _ _ _⟩⟩
    · rw [if_neg (show ¬ 3 < jw (σ 0 2 - p) by rw [h.2.2, jw_id (by omega) (by omega)]; omega), w4]
      generalize dvl l p (k - p) = v at vb w4
      rw [jw_id (x := v) (by omega) (by omega), jw_id hlo.1 hlo.2, jw_id hhi.1 hhi.2, mo_isIn ⟨by omega, by omega⟩ hlo hhi, jbs]
      dsimp only
      by_cases y : lo ≤ v ∧ v ≤ hi
      · rw [if_pos y, if_neg (show ¬ jw 1 = 0 by decide)]
        exact ⟨1, σ, rfl, jfr_refl _ _, h, fun _ => ⟨rfl, w4⟩, fun q => absurd ⟨by omega, y⟩ q⟩
      · rw [if_neg y, if_pos (show jw 0 = 0 from rfl), c115]
        exact ⟨0, _, rfl, ff, rf, fun q => absurd q.2 y, fun _ => ⟨rfl, jup_s _ _ _ _⟩⟩
  induction f with
  | zero =>
    intro fu k σ h hp hk hd hL hf w4
    obtain ⟨fu, rfl⟩ : ∃ k, fu = k + 1 := ⟨fu - 1, by omega⟩
    have o := bt_out (l := l) (k := k) (by omega)
    rw [dge]
    exact stop fu k σ h hp hk (by rw [o]; decide) hd w4
  | succ f ih =>
    intro fu k σ h hp hk hd hL hf w4
    obtain ⟨fu, rfl⟩ : ∃ k, fu = k + 1 := ⟨fu - 1, by omega⟩
    have l2 := (RdR_len h).2.1
    have b := bt_iR (j := k) (RdR_len h).2.2
    rw [dge]
    by_cases q : isD (bt l k)
    · have kl := isD_in q
      have hd' : ∀ i, i < k + 1 - p → isD (bt l (p + i)) := fun i hi => by
        by_cases e : i < k - p
        · exact hd i e
        · rw [show p + i = k by omega]; exact q
      rw [if_pos q, Model_reads_c30, h.2.2, rr_byte h (by omega), jbs]
      dsimp only
      rw [rr_isD b, jbs, if_pos q]
      dsimp only
      rw [if_neg (show ¬ jw 1 = 0 by decide)]
      by_cases z : k - p < 3
      · have r4 : RdR (jup σ 0 4 (dvl l p (k + 1 - p))) l k := RdR_fr (P := fun a j => a = 0 ∧ j = 4) h (jfr_up (jfr_refl _ _) ⟨rfl, rfl⟩) (by omega) (fun j => by omega) (fun j => by omega) (by omega)
        have dv : dvl l p (k + 1 - p) = 10 * dvl l p (k - p) + bt l k - 48 := by
          rw [show k + 1 - p = (k - p) + 1 by omega, dvl, if_pos z, show p + (k - p) = k by omega]
          omega
        obtain ⟨x, σ', i1, i2, i3, i4, i5⟩ := ih fu (k + 1) (jup (jup σ 0 4 (dvl l p (k + 1 - p))) 0 2 ((k + 1 : Nat) : Int)) (RdR_up r4) (by omega) (by omega) hd' (by omega) (by omega) (by rw [jup_k (by omega), jup_s])
        rw [if_pos (show jw (σ 0 2 - p) < 3 by rw [h.2.2, jw_id (by omega) (by omega)]; omega), h.2.2, rr_byte h (by omega), jbs]
        dsimp only
        rw [w4, ← dv, Model_reads_c77, r4.2.2, show (k : Int) + 1 = ((k + 1 : Nat) : Int) by omega]
        exact ⟨x, σ', i1, jfr_trans (jfr_up (jfr_up (jfr_refl _ _) ⟨rfl, Or.inr (Or.inr rfl)⟩) ⟨rfl, Or.inl rfl⟩) i2, i3, i4, i5⟩
      · have dv : dvl l p (k + 1 - p) = dvl l p (k - p) := by
          rw [show k + 1 - p = (k - p) + 1 by omega, dvl, if_neg z]
        obtain ⟨x, σ', i1, i2, i3, i4, i5⟩ := ih fu (k + 1) (jup σ 0 2 ((k + 1 : Nat) : Int)) (RdR_up h) (by omega) (by omega) hd' (by omega) (by omega) (by rw [jup_k (by omega), dv]; exact w4)
        rw [if_neg (show ¬ jw (σ 0 2 - p) < 3 by rw [h.2.2, jw_id (by omega) (by omega)]; omega), Model_reads_c77, h.2.2, show (k : Int) + 1 = ((k + 1 : Nat) : Int) by omega]
        exact ⟨x, σ', i1, jfr_trans (jfr_up (jfr_refl _ _) ⟨rfl, Or.inl rfl⟩) i2, i3, i4, i5⟩
    · rw [if_neg q]
      exact stop fu k σ h hp hk q hd w4
def numR (σ : jxS) (l : List Nat) (x : Int) (r : Nat ⊕ (Int × Nat)) : Prop := match r with
  | .inl e => x = 0 ∧ σ 0 3 = (e : Int)
  | .inr (v, k') => x = 1 ∧ σ 0 4 = v ∧ RdR σ l k'
theorem rr_num {lo hi : Int} {k : Nat} (h : RdR σ l k) (hk : k ≤ l.length) (hlo : iR lo) (hhi : iR hi) (hF : 1000 ≤ F) : ∃ x σ', Model_reads F σ lo hi = some (x, σ') ∧ jfr NuP σ σ' ∧ numR σ' l x (numS l lo hi k) := by
  obtain ⟨σ1, a1, a2, a3⟩ := rr_next (F := F) h hk hF
  have sb := skp_b (l := l) hk
  have l2 := (RdR_len h).2.1
  rw [Model_reads, a1, jbs, numS]
  dsimp only
  generalize skp l k = p at a3 sb
  have b := bt_iR (j := p) (RdR_len h).2.2
  rw [rr_isD b, jbs]
  dsimp only
  by_cases y : isD (bt l p)
  · have r4 : RdR (jup σ1 0 4 0) l p := RdR_fr (P := fun a j => a = 0 ∧ j = 4) a3 (jfr_up (jfr_refl _ _) ⟨rfl, rfl⟩) (by omega) (fun j => by omega) (fun j => by omega) (by omega)
    obtain ⟨x, σ', i1, i2, i3, i4, i5⟩ := rr_num_c (F := F) hlo hhi y l.length F p (jup σ1 0 4 0) r4 (Nat.le_refl _) sb.2 (fun i hi => by omega) (by omega) (by omega) (by rw [jup_s, Nat.sub_self, dvl])
    rw [if_pos y, if_pos y, if_neg (show ¬ jw 1 = 0 by decide), a3.2.2]
    refine ⟨x, σ', i1, jfr_trans (jfr_mono a2 (fun a j => At2_NuP)) (jfr_trans (jfr_up (jfr_refl _ _) ⟨rfl, Or.inr (Or.inr rfl)⟩) i2), ?_⟩
    by_cases z : dge l l.length p - p ≤ 3 ∧ lo ≤ dvl l p (dge l l.length p - p) ∧ dvl l p (dge l l.length p - p) ≤ hi
    · rw [if_pos z]
      exact ⟨(i4 z).1, (i4 z).2, i3⟩
    · rw [if_neg z]
      exact i5 z
  · rw [if_neg y, if_neg y, if_pos (show jw 0 = 0 from rfl), a3.2.2, Model_fails, jbs]
    dsimp only
    rw [if_pos (Or.inl rfl)]
    exact ⟨0, _, rfl, jfr_up (jfr_mono a2 (fun a j => At2_NuP)) ⟨rfl, Or.inr (Or.inl rfl)⟩, rfl, by rw [jup_s]; omega⟩
/-! words -/
theorem rr_word_c {k7 : Int → jxS → Option jxR} {w k : Nat} (h : RdR σ l k) (hk : k ≤ l.length) (hw : w < 4) : ∀ (r : List Int) (fu i : Nat), i + r.length ≤ 5 → r.length < fu → (∀ (j : Nat) (x : Int), r[j]? = some x → σ 2 ((6 * w + i + j : Nat) : Int) = x ∧ x ≠ 0 ∧ iR x) → σ 2 ((6 * w + i + r.length : Nat) : Int) = 0 → Model_wordHere_c14 F k7 fu w i σ = if wml l (k + i) r then some ((w : Int), σ) else k7 ((w : Int) + 1) σ := by
  intro r
  have l2 := (RdR_len h).2.1
  induction r with
  | nil =>
    intro fu i e1 e2 ha hz
    obtain ⟨fu, rfl⟩ : ∃ k, fu = k + 1 := ⟨fu - 1, by omega⟩
    simp only [List.length_nil, Nat.add_zero] at e1 hz
    have b := bt_iR (j := k + i) (RdR_len h).2.2
    have c0 : 0 ≤ ((6 * (w : Int)) + i) ∧ ((6 * (w : Int)) + i) < 24 := by omega
    rw [show ((6 * w + i : Nat) : Int) = 6 * (w : Int) + i by omega] at hz
    rw [Model_wordHere_c14, if_pos c0, if_pos (show jw (σ 2 (6 * (w : Int) + i)) = 0 by rw [hz]; rfl), Model_wordHere_c58, if_pos c0, if_pos (show jw (σ 2 (6 * (w : Int) + i)) = 0 by rw [hz]; rfl), h.2.2, show (k : Int) + (i : Int) = ((k + i : Nat) : Int) by omega, rr_byte h (by omega), jbs]
    dsimp only
    rw [rr_isL b, jbs, wml]
    dsimp only
    by_cases q : isL (bt l (k + i))
    · rw [if_pos q, if_neg (show ¬ jw 1 = 0 by decide), decide_eq_true q, if_neg (by decide)]
    · rw [if_neg q, if_pos (show jw 0 = 0 from rfl), decide_eq_false q, if_pos (by decide)]
  | cons x r ih =>
    intro fu i e1 e2 ha hz
    obtain ⟨fu, rfl⟩ : ∃ k, fu = k + 1 := ⟨fu - 1, by omega⟩
    simp only [List.length_cons] at e1 e2 hz
    obtain ⟨a1, a2, a3⟩ := ha 0 x rfl
    rw [Nat.add_zero, show ((6 * w + i : Nat) : Int) = 6 * (w : Int) + i by omega] at a1
    have b := bt_iR (j := k + i) (RdR_len h).2.2
    have c0 : 0 ≤ ((6 * (w : Int)) + i) ∧ ((6 * (w : Int)) + i) < 24 := by omega
    have nx := ih fu (i + 1) (by omega) (by omega) (fun j y hy => by
      have := ha (j + 1) y hy
      rw [show 6 * w + (i + 1) + j = 6 * w + i + (j + 1) by omega]
      exact this) (by rw [show 6 * w + (i + 1) + r.length = 6 * w + i + (r.length + 1) by omega]; exact hz)
    have nx' : Model_wordHere_c14 F k7 fu w ((i : Int) + 1) σ = _ := nx
    have x0 : ¬ jw (σ 2 (6 * (w : Int) + i)) = 0 := by rw [a1, jw_id a3.1 a3.2]; exact a2
    rw [Model_wordHere_c14, if_pos c0, if_neg x0, h.2.2, show (k : Int) + (i : Int) = ((k + i : Nat) : Int) by omega, rr_byte h (by omega), jbs, if_pos c0]
    dsimp only
    rw [wml]
    by_cases q : bt l (k + i) = x
    · rw [if_pos (show jw (bt l (k + i)) = jw (σ 2 (6 * (w : Int) + i)) by rw [q, a1]), decide_eq_true q, Bool.true_and, nx', show k + (i + 1) = k + i + 1 by omega]
    · rw [if_neg (show ¬ jw (bt l (k + i)) = jw (σ 2 (6 * (w : Int) + i)) by rw [a1, jw_id b.1 b.2, jw_id a3.1 a3.2]; exact q), decide_eq_false q, Bool.false_and, if_neg (by decide), Model_wordHere_c58, if_pos c0, if_neg x0]
/-- which word: 0 octal, 1 also, 2 never, 3 to; -1 none -/
def wdS (l : List Nat) (p : Nat) : Int := if wml l p wOct then 0 else if wml l p wAls then 1 else if wml l p wNev then 2 else if wml l p wTo then 3 else -1
theorem rr_word {k : Nat} (h : RdR σ l k) (hk : k ≤ l.length) (hF : 1000 ≤ F) : ∃ σ', Model_wordHere F σ = some (wdS l (skp l k), σ') ∧ jfr At2 σ σ' ∧ RdR σ' l (skp l k) := by
  obtain ⟨σ1, a1, a2, a3⟩ := rr_next (F := F) h hk hF
  have sb := skp_b (l := l) hk
  refine ⟨σ1, ?_, a2, a3⟩
  rw [Model_wordHere, a1, jbs]
  dsimp only
  generalize skp l k = p at a3 sb
  have wt := a3.2.1
  have iw : ∀ x : Int, 97 ≤ x → x ≤ 122 → x ≠ 0 ∧ iR x := fun x q1 q2 => ⟨by omega, by unfold iR; omega⟩
  obtain ⟨F', rfl⟩ : ∃ k, F = k + 6 := ⟨F - 6, by omega⟩
  have s0 := fun K => rr_word_c (F := F' + 6) (k7 := K) (w := 0) a3 sb.2 (by omega) wOct (F' + 6) 0 (by decide) (by show 5 < F' + 6; omega) (fun j x hx => by
    have jl : j < 5 := (List.getElem?_eq_some_iff.mp hx).1
    rcases (show j = 0 ∨ j = 1 ∨ j = 2 ∨ j = 3 ∨ j = 4 by omega) with rfl | rfl | rfl | rfl | rfl <;> (rw [← Option.some.inj hx]; exact ⟨wt _ _ rfl, iw _ (by decide) (by decide)⟩)) (wt 5 0 rfl)
  have s1 := fun K => rr_word_c (F := F' + 6) (k7 := K) (w := 1) a3 sb.2 (by omega) wAls (F' + 6) 0 (by decide) (by show 4 < F' + 6; omega) (fun j x hx => by
    have jl : j < 4 := (List.getElem?_eq_some_iff.mp hx).1
    rcases (show j = 0 ∨ j = 1 ∨ j = 2 ∨ j = 3 by omega) with rfl | rfl | rfl | rfl <;> (rw [← Option.some.inj hx]; exact ⟨wt _ _ rfl, iw _ (by decide) (by decide)⟩)) (wt 10 0 rfl)
  have s2 := fun K => rr_word_c (F := F' + 6) (k7 := K) (w := 2) a3 sb.2 (by omega) wNev (F' + 6) 0 (by decide) (by show 5 < F' + 6; omega) (fun j x hx => by
    have jl : j < 5 := (List.getElem?_eq_some_iff.mp hx).1
    rcases (show j = 0 ∨ j = 1 ∨ j = 2 ∨ j = 3 ∨ j = 4 by omega) with rfl | rfl | rfl | rfl | rfl <;> (rw [← Option.some.inj hx]; exact ⟨wt _ _ rfl, iw _ (by decide) (by decide)⟩)) (wt 17 0 rfl)
  have s3 := fun K => rr_word_c (F := F' + 6) (k7 := K) (w := 3) a3 sb.2 (by omega) wTo (F' + 6) 0 (by decide) (by show 2 < F' + 6; omega) (fun j x hx => by
    have jl : j < 2 := (List.getElem?_eq_some_iff.mp hx).1
    rcases (show j = 0 ∨ j = 1 by omega) with rfl | rfl <;> (rw [← Option.some.inj hx]; exact ⟨wt _ _ rfl, iw _ (by decide) (by decide)⟩)) (wt 20 0 rfl)
  have s0' : ∀ K, Model_wordHere_c14 (F' + 6) K (F' + 6) 0 0 σ1 = if wml l p wOct then some (0, σ1) else K 1 σ1 := s0
  have s1' : ∀ K, Model_wordHere_c14 (F' + 6) K (F' + 6) 1 0 σ1 = if wml l p wAls then some (1, σ1) else K 2 σ1 := s1
  have s2' : ∀ K, Model_wordHere_c14 (F' + 6) K (F' + 6) 2 0 σ1 = if wml l p wNev then some (2, σ1) else K 3 σ1 := s2
  have s3' : ∀ K, Model_wordHere_c14 (F' + 6) K (F' + 6) 3 0 σ1 = if wml l p wTo then some (3, σ1) else K 4 σ1 := s3
  unfold wdS
  rw [Model_wordHere_c7, if_pos (show jw 0 < 4 by decide), s0']
  by_cases y0 : wml l p wOct = true
  · rw [if_pos y0, if_pos y0]
  rw [if_neg y0, if_neg y0, Model_wordHere_c7, if_pos (show jw 1 < 4 by decide), s1']
  by_cases y1 : wml l p wAls = true
  · rw [if_pos y1, if_pos y1]
  rw [if_neg y1, if_neg y1, Model_wordHere_c7, if_pos (show jw 2 < 4 by decide), s2']
  by_cases y2 : wml l p wNev = true
  · rw [if_pos y2, if_pos y2]
  rw [if_neg y2, if_neg y2, Model_wordHere_c7, if_pos (show jw 3 < 4 by decide), s3']
  by_cases y3 : wml l p wTo = true
  · rw [if_pos y3, if_pos y3]
  rw [if_neg y3, if_neg y3, Model_wordHere_c7, if_neg (show ¬ jw 4 < 4 by decide)]
theorem rr_pass_c : ∀ (w : List Int) (fu k : Nat) (σ : jxS), RdR σ l k → k ≤ l.length → (∀ x, x ∈ w → isL x) → wml l k w = true → w.length < fu → ∃ σ', Model_passWord_c0 F fu σ = some (0, σ') ∧ jfr At2 σ σ' ∧ RdR σ' l (k + w.length) := by
  intro w
  induction w with
  | nil =>
    intro fu k σ h hk hw hm hf
    obtain ⟨fu, rfl⟩ : ∃ k, fu = k + 1 := ⟨fu - 1, by omega⟩
    have l2 := (RdR_len h).2.1
    have b := bt_iR (j := k) (RdR_len h).2.2
    rw [wml, Bool.not_eq_true', decide_eq_false_iff_not] at hm
    rw [Model_passWord_c0, h.2.2, rr_byte h (by omega), jbs]
    dsimp only
    rw [rr_isL b, jbs, if_neg hm]
    exact ⟨σ, rfl, jfr_refl _ _, h⟩
  | cons x t ih =>
    intro fu k σ h hk hw hm hf
    obtain ⟨fu, rfl⟩ : ∃ k, fu = k + 1 := ⟨fu - 1, by omega⟩
    simp only [List.length_cons] at hf
    have l2 := (RdR_len h).2.1
    have b := bt_iR (j := k) (RdR_len h).2.2
    rw [wml, Bool.and_eq_true, decide_eq_true_iff] at hm
    have xl := hw x (List.mem_cons_self ..)
    have kl := bt_in (l := l) (k := k) (by rw [hm.1]; unfold isL at xl; omega)
    obtain ⟨σ', i1, i2, i3⟩ := ih fu (k + 1) (jup σ 0 2 ((k + 1 : Nat) : Int)) (RdR_up h) (by omega) (fun y hy => hw y (List.mem_cons_of_mem _ hy)) hm.2 (by omega)
    rw [Model_passWord_c0, h.2.2, rr_byte h (by omega), jbs]
    dsimp only
    rw [rr_isL b, jbs, if_pos (show isL (bt l k) by rw [hm.1]; exact xl)]
    dsimp only
    rw [if_neg (show ¬ jw 1 = 0 by decide), h.2.2, show (k : Int) + 1 = ((k + 1 : Nat) : Int) by omega]
    exact ⟨σ', i1, jfr_trans (jfr_up (jfr_refl _ _) ⟨rfl, rfl⟩) i2, by rw [List.length_cons, show k + (t.length + 1) = k + 1 + t.length by omega]; exact i3⟩
end QC
