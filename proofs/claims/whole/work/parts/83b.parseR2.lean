/-! The reference's reader: lines, the text. -/
section QL
variable {F : Nat} {σ : jxS} {l : List Nat}
theorem rr_sign {k s : Nat} (h : RdR σ l k) (hk : k ≤ l.length) (hs : s < 256) (hF : 1000 ≤ F) : ∃ σ', Model_takesSign F σ (s : Int) = some (if bt l (skp l k) = (s : Int) then 1 else 0, σ') ∧ jfr At2 σ σ' ∧ (bt l (skp l k) = (s : Int) → RdR σ' l (skp l k + 1)) ∧ (¬ bt l (skp l k) = (s : Int) → RdR σ' l (skp l k)) := by
  obtain ⟨σ1, a1, a2, a3⟩ := rr_next (F := F) h hk hF
  rw [Model_takesSign, a1, jbs]
  dsimp only
  generalize skp l k = p at a3
  have b := bt_iR (j := p) (RdR_len h).2.2
  by_cases y : bt l p = (s : Int)
  · rw [if_pos (show jw (bt l p) = jw (s : Int) by rw [y]), if_pos y, a3.2.2, show (p : Int) + 1 = ((p + 1 : Nat) : Int) by omega]
    exact ⟨_, rfl, jfr_up a2 ⟨rfl, rfl⟩, fun _ => RdR_up a3, fun q => absurd y q⟩
  · rw [if_neg (show ¬ jw (bt l p) = jw (s : Int) by rw [jw_id b.1 b.2, jw_id (by omega) (by omega)]; exact y), if_neg y]
    exact ⟨σ1, rfl, a2, fun q => absurd q y, fun _ => a3⟩
theorem rr_fails {p : Nat} {m : Nat} : Model_fails F σ (m : Int) (p : Int) = some (0, jup σ 0 3 ((8 * p + m : Nat) : Int)) := by
  rw [Model_fails, show 8 * (p : Int) + (m : Int) = ((8 * p + m : Nat) : Int) by omega]
def OcP (a : Nat) (j : Int) : Prop := (a = 0 ∧ (j = 2 ∨ j = 3 ∨ j = 6)) ∨ a = 3
def octR (σ : jxS) (l : List Nat) (x : Int) (r : Nat ⊕ (List Nat × Nat)) : Prop := match r with
  | .inl e => x = 0 ∧ σ 0 3 = (e : Int)
  | .inr (ds, k') => x = 1 ∧ RdR σ l k' ∧ σ 0 6 = (ds.length : Int) ∧ rowL σ 3 0 ds
theorem rr_ods : ∀ (f fu q : Nat) (ds : List Nat) (σ : jxS), RdR σ l q → σ 0 6 = (ds.length : Int) → rowL σ 3 0 ds → ds.length ≤ 8 → q ≤ l.length → l.length ≤ q + f → f < fu → ∃ x σ', Model_readsOctal_c39 F fu σ = some (x, σ') ∧ jfr OcP σ σ' ∧ octR σ' l x (ods l f q ds) := by
  intro f
  induction f with
  | zero =>
    intro fu q ds σ h h6 hr h8 hq hL hu
    obtain ⟨fu, rfl⟩ : ∃ k, fu = k + 1 := ⟨fu - 1, by omega⟩
    have l2 := (RdR_len h).2.1
    have o := bt_out (l := l) (k := q) (by omega)
    have b := bt_iR (j := q) (RdR_len h).2.2
    rw [Model_readsOctal_c39, h.2.2, rr_byte h (by omega), jbs]
    dsimp only
    rw [rr_isD b, jbs, if_neg (show ¬ isD (bt l q) by rw [o]; decide)]
    exact ⟨1, σ, rfl, jfr_refl _ _, rfl, h, h6, hr⟩
  | succ f ih =>
    intro fu q ds σ h h6 hr h8 hq hL hu
    obtain ⟨fu, rfl⟩ : ∃ k, fu = k + 1 := ⟨fu - 1, by omega⟩
    have l2 := (RdR_len h).2.1
    have b := bt_iR (j := q) (RdR_len h).2.2
    have bb := bt_b (k := q) (RdR_len h).2.2
    rw [Model_readsOctal_c39, h.2.2, rr_byte h (by omega), jbs, ods]
    dsimp only
    rw [rr_isD b, jbs]
    dsimp only
    by_cases y : isD (bt l q)
    · have ql := isD_in y
      have y' : 48 ≤ bt l q ∧ bt l q ≤ 57 := y
      have fl : Model_readsOctal_c75 F σ = some (0, jup σ 0 3 ((8 * q + 3 : Nat) : Int)) := by
        rw [Model_readsOctal_c75, h.2.2]
        have := rr_fails (F := F) (σ := σ) (p := q) (m := 3)
        have this' : Model_fails F σ 3 (q : Int) = _ := this
        rw [this', jbs]
        dsimp only
        rw [if_pos (Or.inl rfl)]
      have ff : jfr OcP σ (jup σ 0 3 ((8 * q + 3 : Nat) : Int)) := jfr_up (jfr_refl _ _) (Or.inl ⟨rfl, Or.inr (Or.inl rfl)⟩)
      rw [if_pos y, if_pos y, if_neg (show ¬ jw 1 = 0 by decide), h.2.2, rr_byte h (by omega), jbs]
      dsimp only
      by_cases z : 55 < bt l q
      · rw [if_pos (show 55 < jw (bt l q) by rw [jw_id b.1 b.2]; exact z), fl, if_pos (Or.inl z)]
        exact ⟨0, _, rfl, ff, rfl, jup_s _ _ _ _⟩
      · rw [if_neg (show ¬ 55 < jw (bt l q) by rw [jw_id b.1 b.2]; exact z)]
        by_cases z2 : ds.length = 8
        · rw [if_pos (show jw (σ 0 6) = 8 by rw [h6, z2]; rfl), fl, if_pos (Or.inr z2)]
          exact ⟨0, _, rfl, ff, rfl, jup_s _ _ _ _⟩
        · rw [if_neg (show ¬ jw (σ 0 6) = 8 by rw [h6, jw_id (by omega) (by omega)]; omega), h.2.2, rr_byte h (by omega), jbs, if_pos (show 0 ≤ σ 0 6 ∧ σ 0 6 < 8 by rw [h6]; omega), if_neg (show ¬ (55 < bt l q ∨ ds.length = 8) by omega)]
          dsimp only
          rw [h6, jup_o (by omega), h6, jup_k (by omega), jup_o (by omega), h.2.2]
          have fr : jfr OcP σ (jup (jup (jup σ 3 (ds.length : Int) (bt l q - 48)) 0 6 ((ds.length : Int) + 1)) 0 2 ((q : Int) + 1)) := jfr_up (jfr_up (jfr_up (jfr_refl _ _) (Or.inr rfl)) (Or.inl ⟨rfl, Or.inr (Or.inr rfl)⟩)) (Or.inl ⟨rfl, Or.inl rfl⟩)
          obtain ⟨x, σ', i1, i2, i3⟩ := ih fu (q + 1) (ds ++ [(bt l q - 48).toNat]) (jup (jup (jup σ 3 (ds.length : Int) (bt l q - 48)) 0 6 ((ds.length : Int) + 1)) 0 2 ((q : Int) + 1)) ⟨TpQ_fr h.1 fr (by simp [OcP]) (fun j => by simp [OcP]), WdT_fr h.2.1 fr (fun j => by simp [OcP]), by rw [jup_s]; omega⟩ (by rw [jup_k (by omega), jup_s, List.length_append, Int.natCast_add]; rfl) (fun i x hx => by
            rw [jup_o (by omega), jup_o (by omega), Nat.zero_add]
            by_cases e : i = ds.length
            · subst e
              rw [List.getElem?_append_right (Nat.le_refl _), Nat.sub_self] at hx
              rw [jup_s, ← Option.some.inj hx]
              omega
            · have il := (List.getElem?_eq_some_iff.mp hx).1
              rw [List.length_append, List.length_singleton] at il
              rw [List.getElem?_append_left (by omega)] at hx
              rw [jup_k (by omega)]
              have := hr i x hx
              rw [Nat.zero_add] at this
              exact this) (by rw [List.length_append, List.length_singleton]; omega) (by omega) (by omega) (by omega)
          exact ⟨x, σ', i1, jfr_trans fr i2, i3⟩
    · rw [if_neg y, if_neg y, if_pos (show jw 0 = 0 from rfl)]
      exact ⟨1, σ, rfl, jfr_refl _ _, rfl, h, h6, hr⟩
theorem At2_OcP {a : Nat} {j : Int} (h : At2 a j) : OcP a j := Or.inl ⟨h.1, Or.inl h.2⟩
theorem rr_fail1 {p m : Nat} {m' : Int} {o : Option jxR} (em : m' = (m : Int)) (w : σ 0 2 = (p : Int)) (ho : o = (Model_fails F σ m' (σ 0 2)).bind fun r => if r.1 = 0 ∨ r.1 = 1 then some (r.1, r.2) else none) : o = some (0, jup σ 0 3 ((8 * p + m : Nat) : Int)) := by
  rw [ho, w, em, rr_fails, jbs]
  dsimp only
  rw [if_pos (Or.inl rfl)]
theorem rr_octal {k : Nat} (h : RdR σ l k) (hk : k ≤ l.length) (h6 : σ 0 6 = 0) (hF : 1000 ≤ F) : ∃ x σ', Model_readsOctal F σ = some (x, σ') ∧ jfr OcP σ σ' ∧ octR σ' l x (octS l k) := by
  have l2 := (RdR_len h).2.1
  obtain ⟨σ1, a1, a2, a3, a4⟩ := rr_sign (F := F) (s := 46) h hk (by omega) hF
  have a1' : Model_takesSign F σ 46 = _ := a1
  have s := skp_b (l := l) hk
  have f1 : jfr OcP σ σ1 := jfr_mono a2 (fun a j => At2_OcP)
  rw [Model_readsOctal, a1', jbs]
  dsimp only
  unfold octS
  generalize skp l k = p at a3 a4 s
  by_cases y : bt l p = ((46 : Nat) : Int)
  · have pl := bt_in (l := l) (k := p) (by rw [y]; decide)
    have r1 := a3 y
    obtain ⟨σ2, b1, b2, b3⟩ := rr_next (F := F) r1 (by omega) hF
    have s2 := skp_b (l := l) (k := p + 1) (by omega)
    have f2 : jfr OcP σ σ2 := jfr_trans f1 (jfr_mono b2 (fun a j => At2_OcP))
    rw [if_pos y, if_pos (show bt l p = 46 from y), if_neg (show ¬ jw 1 = 0 by decide), b1, jbs]
    dsimp only
    generalize skp l (p + 1) = q at b3 s2
    have bq := bt_iR (j := q) (RdR_len h).2.2
    rw [rr_isD bq, jbs]
    dsimp only
    by_cases z : isD (bt l q)
    · obtain ⟨x, σ3, d1, d2, d3⟩ := rr_ods (F := F) l.length F q [] σ2 b3 (by rw [b2 0 6 (by simp [At2]), a2 0 6 (by simp [At2])]; exact h6) (rowL_nil _ _ _) (Nat.zero_le _) s2.2 (by omega) (by omega)
      rw [if_pos z, if_pos z, if_neg (show ¬ jw 1 = 0 by decide)]
      exact ⟨x, σ3, d1, jfr_trans f2 d2, d3⟩
    · rw [if_neg z, if_neg z, if_pos (show jw 0 = 0 from rfl), rr_fail1 (F := F) (m := 1) (m' := 1) rfl b3.2.2 rfl]
      exact ⟨0, _, rfl, jfr_up f2 (Or.inl ⟨rfl, Or.inr (Or.inl rfl)⟩), rfl, jup_s _ _ _ _⟩
  · rw [if_neg y, if_neg (show ¬ bt l p = 46 from y), if_pos (show jw 0 = 0 from rfl), rr_fail1 (F := F) (m := 1) (m' := 1) rfl (a4 y).2.2 rfl]
    exact ⟨0, _, rfl, jfr_up f1 (Or.inl ⟨rfl, Or.inr (Or.inl rfl)⟩), rfl, jup_s _ _ _ _⟩
def aixI (h a b : Int) : Int := 169 * h + (if a < b then 13 * a + b else 13 * b + a)
def AnP (a : Nat) (j : Int) : Prop := (a = 0 ∧ (j = 2 ∨ j = 3 ∨ j = 4 ∨ j = 7)) ∨ a = 4 ∨ a = 5
def alsR (σ σ' : jxS) (l : List Nat) (x : Int) (r : Nat ⊕ ((Int × Int × Int) × Nat)) : Prop := match r with
  | .inl e => x = 0 ∧ σ' 0 3 = (e : Int)
  | .inr ((h, a, b), k') => x = 1 ∧ RdR σ' l k' ∧ σ' 0 7 = σ 0 7 + 1 ∧ σ' 4 (aixI h a b) = 1 ∧ (∀ j, j ≠ aixI h a b → σ' 4 j = σ 4 j) ∧ ∀ j, σ' 5 j = σ 5 j
def nevR (σ σ' : jxS) (l : List Nat) (x : Int) (r : Nat ⊕ ((Int × Int × Int) × Nat)) : Prop := match r with
  | .inl e => x = 0 ∧ σ' 0 3 = (e : Int)
  | .inr ((h, a, _), k') => x = 1 ∧ RdR σ' l k' ∧ σ' 0 7 = σ 0 7 + 1 ∧ σ' 5 (9 * h + a) = 1 ∧ (∀ j, j ≠ 9 * h + a → σ' 5 j = σ 5 j) ∧ ∀ j, σ' 4 j = σ 4 j
theorem NuP_AnP {a : Nat} {j : Int} (h : NuP a j) : AnP a j := by
  simp only [NuP] at h
  simp only [AnP]
  omega
theorem At2_AnP {a : Nat} {j : Int} (h : At2 a j) : AnP a j := Or.inl ⟨h.1, Or.inl h.2⟩
theorem rr_never {k : Nat} (h : RdR σ l k) (hk : k ≤ l.length) (hF : 1000 ≤ F) : ∃ x σ', Model_readsNever F σ = some (x, σ') ∧ jfr AnP σ σ' ∧ nevR σ σ' l x (nevS l k) := by
  obtain ⟨x1, σ1, a1, a2, a3⟩ := rr_num (F := F) (lo := 1) (hi := 12) h hk ⟨by omega, by omega⟩ ⟨by omega, by omega⟩ hF
  rw [Model_readsNever, a1, jbs]
  dsimp only
  unfold nevS
  cases e : numS l 1 12 k with
  | inl c =>
    rw [e] at a3
    obtain ⟨q1, q2⟩ := a3
    subst q1
    rw [if_pos (show jw 0 = 0 from rfl)]
    exact ⟨0, σ1, rfl, jfr_mono a2 (fun a j => NuP_AnP), rfl, q2⟩
  | inr r =>
    obtain ⟨v, k1⟩ := r
    have nb := numS_b hk e
    rw [e] at a3
    obtain ⟨q1, q2, q3⟩ := a3
    subst q1
    obtain ⟨x2, σ2, b1, b2, b3⟩ := rr_num (F := F) (lo := 1) (hi := 8) q3 nb.1 ⟨by omega, by omega⟩ ⟨by omega, by omega⟩ hF
    rw [if_neg (show ¬ jw 1 = 0 by decide), b1, jbs]
    dsimp only
    have f2 : jfr NuP σ σ2 := jfr_trans a2 b2
    cases e2 : numS l 1 8 k1 with
    | inl c =>
      rw [e2] at b3
      obtain ⟨r1, r2⟩ := b3
      subst r1
      rw [if_pos (show jw 0 = 0 from rfl)]
      exact ⟨0, σ2, rfl, jfr_mono f2 (fun a j => NuP_AnP), rfl, r2⟩
    | inr r =>
      obtain ⟨v2, k2⟩ := r
      have nb2 := numS_b nb.1 e2
      rw [e2] at b3
      obtain ⟨r1, r2, r3⟩ := b3
      subst r1
      rw [if_neg (show ¬ jw 1 = 0 by decide), if_pos (show 0 ≤ ((9 * σ1 0 4) + σ2 0 4) ∧ ((9 * σ1 0 4) + σ2 0 4) < 117 by rw [q2, r2]; omega)]
      dsimp only
      rw [q2, r2, jup_o (by omega), f2 0 7 (by simp [NuP])]
      refine ⟨1, _, rfl, jfr_up (jfr_up (jfr_mono f2 (fun a j => NuP_AnP)) (Or.inr (Or.inr rfl))) (Or.inl ⟨rfl, Or.inr (Or.inr (Or.inr rfl))⟩), rfl, RdR_fr (P := fun a j => a = 5 ∨ (a = 0 ∧ j = 7)) r3 (jfr_up (jfr_up (jfr_refl _ _) (Or.inl rfl)) (Or.inr ⟨rfl, rfl⟩)) (by omega) (fun j => by omega) (fun j => by omega) (by omega), jup_s _ _ _ _, ?_, fun j hj => ?_, fun j => ?_⟩
      · rw [jup_o (by omega), jup_s]
      · rw [jup_o (by omega), jup_k hj, f2 5 _ (by simp [NuP])]
      · rw [jup_o (by omega), jup_o (by omega), f2 4 _ (by simp [NuP])]
theorem wdS_to {p : Nat} : wml l p wTo = true ↔ wdS l p = 3 := by
  have ex : ∀ (x y : Int) (t u : List Int), x ≠ y → wml l p (x :: t) = true → ¬ wml l p (y :: u) = true := by
    intro x y t u hxy h1 h2
    rw [wml, Bool.and_eq_true, decide_eq_true_iff] at h1 h2
    exact hxy (h1.1.symm.trans h2.1)
  unfold wdS
  by_cases y0 : wml l p wOct = true
  · rw [if_pos y0]
    exact ⟨fun q => absurd y0 (ex 116 111 _ _ (by decide) q), fun q => absurd q (by decide)⟩
  rw [if_neg y0]
  by_cases y1 : wml l p wAls = true
  · rw [if_pos y1]
    exact ⟨fun q => absurd y1 (ex 116 97 _ _ (by decide) q), fun q => absurd q (by decide)⟩
  rw [if_neg y1]
  by_cases y2 : wml l p wNev = true
  · rw [if_pos y2]
    exact ⟨fun q => absurd y2 (ex 116 110 _ _ (by decide) q), fun q => absurd q (by decide)⟩
  rw [if_neg y2]
  by_cases y3 : wml l p wTo = true
  · rw [if_pos y3]; exact ⟨fun _ => rfl, fun _ => y3⟩
  · rw [if_neg y3]; exact ⟨fun q => absurd q y3, fun q => absurd q (by decide)⟩
theorem wdS_b {p : Nat} : -1 ≤ wdS l p ∧ wdS l p ≤ 3 := by
  unfold wdS
  split
  · omega
  · split
    · omega
    · split
      · omega
      · split <;> omega
theorem rr_also {k : Nat} (h : RdR σ l k) (hk : k ≤ l.length) (hF : 1000 ≤ F) : ∃ x σ', Model_readsAlso F σ = some (x, σ') ∧ jfr AnP σ σ' ∧ alsR σ σ' l x (alsS l k) := by
  obtain ⟨x1, σ1, a1, a2, a3⟩ := rr_num (F := F) (lo := 1) (hi := 12) h hk ⟨by omega, by omega⟩ ⟨by omega, by omega⟩ hF
  rw [Model_readsAlso, a1, jbs]
  dsimp only
  unfold alsS
  cases e : numS l 1 12 k with
  | inl c =>
    rw [e] at a3
    obtain ⟨q1, q2⟩ := a3
    subst q1
    rw [if_pos (show jw 0 = 0 from rfl)]
    exact ⟨0, σ1, rfl, jfr_mono a2 (fun a j => NuP_AnP), rfl, q2⟩
  | inr r =>
    obtain ⟨v, k1⟩ := r
    have nb := numS_b hk e
    rw [e] at a3
    obtain ⟨q1, q2, q3⟩ := a3
    subst q1
    obtain ⟨σ2, b1, b2, b3⟩ := rr_word (F := F) q3 nb.1 hF
    have s := skp_b (l := l) nb.1
    rw [if_neg (show ¬ jw 1 = 0 by decide), b1, jbs]
    dsimp only
    generalize skp l k1 = p at b3 s
    have wb := wdS_b (l := l) (p := p)
    have f2 : jfr NuP σ σ2 := jfr_trans a2 (jfr_mono b2 (fun a j => At2_NuP))
    by_cases y : wml l p wTo = true
    · have wl : p + 2 ≤ l.length := wml_len wTo p s.2 (by decide) y
      obtain ⟨σ3, d1, d2, d3⟩ := rr_pass_c (F := F) wTo F p σ2 b3 s.2 (by decide) y (by show 2 < F; omega)
      have d3' : RdR σ3 l (p + 2) := d3
      have d1' : Model_passWord F σ2 = some (0, σ3) := d1
      have f3 : jfr NuP σ σ3 := jfr_trans f2 (jfr_mono d2 (fun a j => At2_NuP))
      obtain ⟨x4, σ4, g1, g2, g3⟩ := rr_num (F := F) (lo := 0) (hi := v - 1) d3' wl ⟨by omega, by omega⟩ ⟨by omega, by omega⟩ hF
      rw [if_pos (show jw (wdS l p) = 3 by rw [wdS_to.mp y]; rfl), if_pos y, d1', jbs]
      dsimp only
      rw [q2, g1, jbs]
      dsimp only
      have f4 : jfr NuP σ σ4 := jfr_trans f3 g2
      cases e2 : numS l 0 (v - 1) (p + 2) with
      | inl c =>
        rw [e2] at g3
        obtain ⟨r1, r2⟩ := g3
        subst r1
        rw [if_pos (show jw 0 = 0 from rfl)]
        exact ⟨0, σ4, rfl, jfr_mono f4 (fun a j => NuP_AnP), rfl, r2⟩
      | inr r =>
        obtain ⟨v2, k2⟩ := r
        have nb2 := numS_b wl e2
        rw [e2] at g3
        obtain ⟨r1, r2, r3⟩ := g3
        subst r1
        obtain ⟨σ5, m1, m2, m3⟩ := rr_next (F := F) r3 nb2.1 hF
        have s2 := skp_b (l := l) nb2.1
        have f5 : jfr NuP σ σ5 := jfr_trans f4 (jfr_mono m2 (fun a j => At2_NuP))
        rw [if_neg (show ¬ jw 1 = 0 by decide), m1, jbs]
        dsimp only
        generalize skp l k2 = q at m3 s2
        have bq := bt_iR (j := q) (RdR_len h).2.2
        have fin : ∀ (σ6 : jxS) (b : Int) (k3 : Nat), jfr NuP σ σ6 → RdR σ6 l k3 → 0 ≤ b → v2 + b < v → ∃ x σ', Model_readsAlso_c89 F v v2 b σ6 = some (x, σ') ∧ jfr AnP σ σ' ∧ alsR σ σ' l x (.inr ((v, v2, b), k3)) := by
          intro σ6 b k3 f6 r6 b0 b1
          have w2 : jw v2 = v2 := jw_id (by omega) (by omega)
          have w3 : jw b = b := jw_id (by omega) (by omega)
          have st : Model_readsAlso_c89 F v v2 b σ6 = some (1, jup (jup σ6 4 (aixI v v2 b) 1) 0 7 (σ6 0 7 + 1)) := by
            rw [Model_readsAlso_c89, w2, w3]
            unfold aixI
            by_cases z : v2 < b
            · rw [if_pos z, if_pos z, Model_readsAlso_c118, if_pos (by omega)]
              dsimp only
              rw [jup_o (by omega)]
            · rw [if_neg z, if_neg z, Model_readsAlso_c118, if_pos (by omega)]
              dsimp only
              rw [jup_o (by omega)]
          refine ⟨1, _, st, jfr_up (jfr_up (jfr_mono f6 (fun a j => NuP_AnP)) (Or.inr (Or.inl rfl))) (Or.inl ⟨rfl, Or.inr (Or.inr (Or.inr rfl))⟩), rfl, RdR_fr (P := fun a j => a = 4 ∨ (a = 0 ∧ j = 7)) r6 (jfr_up (jfr_up (jfr_refl _ _) (Or.inl rfl)) (Or.inr ⟨rfl, rfl⟩)) (by omega) (fun j => by omega) (fun j => by omega) (by omega), by rw [jup_s, f6 0 7 (by simp [NuP])], ?_, fun j hj => ?_, fun j => ?_⟩
          · rw [jup_o (by omega), jup_s]
          · rw [jup_o (by omega), jup_k hj, f6 4 _ (by simp [NuP])]
          · rw [jup_o (by omega), jup_o (by omega), f6 5 _ (by simp [NuP])]
        rw [rr_isD bq, jbs]
        dsimp only
        by_cases z : isD (bt l q)
        · obtain ⟨x6, σ6, t1, t2, t3⟩ := rr_num (F := F) (lo := 0) (hi := v - 1 - v2) m3 s2.2 ⟨by omega, by omega⟩ ⟨by omega, by omega⟩ hF
          rw [if_pos z, if_pos z, if_neg (show ¬ jw 1 = 0 by decide), r2, t1, jbs]
          dsimp only
          have f6 : jfr NuP σ σ6 := jfr_trans f5 t2
          cases e3 : numS l 0 (v - 1 - v2) q with
          | inl c =>
            rw [e3] at t3
            obtain ⟨u1, u2⟩ := t3
            subst u1
            rw [if_pos (show jw 0 = 0 from rfl)]
            exact ⟨0, σ6, rfl, jfr_mono f6 (fun a j => NuP_AnP), rfl, u2⟩
          | inr r =>
            obtain ⟨v3, k3⟩ := r
            have nb3 := numS_b s2.2 e3
            rw [e3] at t3
            obtain ⟨u1, u2, u3⟩ := t3
            subst u1
            rw [if_neg (show ¬ jw 1 = 0 by decide), u2]
            exact fin σ6 v3 k3 f6 u3 nb3.2.1 (by omega)
        · rw [if_neg z, if_neg z, if_pos (show jw 0 = 0 from rfl), r2]
          exact fin σ5 0 q f5 m3 (by omega) (by omega)
    · have wn : ¬ wdS l p = 3 := fun q => y (wdS_to.mpr q)
      rw [if_neg (show ¬ jw (wdS l p) = 3 by rw [jw_id (by omega) (by omega)]; exact wn), if_neg y, rr_fail1 (F := F) (m := 1) (m' := 1) rfl b3.2.2 rfl]
      exact ⟨0, _, rfl, jfr_up (jfr_mono f2 (fun a j => NuP_AnP)) (Or.inl ⟨rfl, Or.inr (Or.inl rfl)⟩), rfl, jup_s _ _ _ _⟩
end QL
