/-! The class's reader: lines, the text. -/
section PT
variable {F : Nat} {σ : jxS} {l : List Nat}
theorem alsS_b {k : Nat} (hk : k ≤ l.length) (hL : l.length ≤ 200) : match alsS l k with
    | .inl e => 1 ≤ e ∧ e ≤ 1700
    | .inr ((h, a, b), k') => k' ≤ l.length ∧ (1 ≤ h ∧ h ≤ 12) ∧ 0 ≤ a ∧ 0 ≤ b ∧ a + b < h := by
  unfold alsS
  cases e : numS l 1 12 k with
  | inl c => exact numS_e hk hL e
  | inr r =>
    obtain ⟨v, k1⟩ := r
    have nb := numS_b hk e
    have s := skp_b (l := l) nb.1
    dsimp only
    generalize skp l k1 = p at s
    by_cases y : wml l p wTo = true
    · have wl : p + 2 ≤ l.length := wml_len wTo p s.2 (by decide) y
      rw [if_pos y]
      cases e2 : numS l 0 (v - 1) (p + 2) with
      | inl c => exact numS_e wl hL e2
      | inr r =>
        obtain ⟨v2, k2⟩ := r
        have nb2 := numS_b wl e2
        have s2 := skp_b (l := l) nb2.1
        dsimp only
        generalize skp l k2 = q at s2
        by_cases z : isD (bt l q)
        · rw [if_pos z]
          cases e3 : numS l 0 (v - 1 - v2) q with
          | inl c => exact numS_e s2.2 hL e3
          | inr r =>
            obtain ⟨v3, k3⟩ := r
            have nb3 := numS_b s2.2 e3
            dsimp only
            omega
        · rw [if_neg z]
          dsimp only
          omega
    · rw [if_neg y]
      dsimp only
      omega
theorem nevS_b {k : Nat} (hk : k ≤ l.length) (hL : l.length ≤ 200) : match nevS l k with
    | .inl e => 1 ≤ e ∧ e ≤ 1700
    | .inr ((h, a, _), k') => k' ≤ l.length ∧ (1 ≤ h ∧ h ≤ 12) ∧ 1 ≤ a ∧ a ≤ 8 := by
  unfold nevS
  cases e : numS l 1 12 k with
  | inl c => exact numS_e hk hL e
  | inr r =>
    obtain ⟨v, k1⟩ := r
    have nb := numS_b hk e
    dsimp only
    cases e2 : numS l 1 8 k1 with
    | inl c => exact numS_e nb.1 hL e2
    | inr r =>
      obtain ⟨v2, k2⟩ := r
      have nb2 := numS_b nb.1 e2
      dsimp only
      omega
def lnOK (x : lnT) : Prop := (x.1 = 1 ∧ x.2.1.length ≤ 8 ∧ ∀ y, y ∈ x.2.1 → y < 8) ∨ (x.1 = 2 ∧ (1 ≤ x.2.2.1 ∧ x.2.2.1 ≤ 12) ∧ 0 ≤ x.2.2.2.1 ∧ 0 ≤ x.2.2.2.2 ∧ x.2.2.2.1 + x.2.2.2.2 < x.2.2.1) ∨ (x.1 = 3 ∧ (1 ≤ x.2.2.1 ∧ x.2.2.1 ≤ 12) ∧ 1 ≤ x.2.2.2.1 ∧ x.2.2.2.1 ≤ 8)
theorem kdS_len {p : Nat} (hp : p ≤ l.length) : (kdS l p = 1 → p + 5 ≤ l.length) ∧ (kdS l p = 2 → p + 4 ≤ l.length) ∧ (kdS l p = 3 → p + 5 ≤ l.length) ∧ kdS l p ≤ 3 := by
  unfold kdS
  by_cases y1 : wml l p wOct = true
  · have a : p + 5 ≤ l.length := wml_len wOct p hp (by decide) y1
    rw [if_pos y1]; omega
  · rw [if_neg y1]
    by_cases y2 : wml l p wAls = true
    · have a : p + 4 ≤ l.length := wml_len wAls p hp (by decide) y2
      rw [if_pos y2]; omega
    · rw [if_neg y2]
      by_cases y3 : wml l p wNev = true
      · have a : p + 5 ≤ l.length := wml_len wNev p hp (by decide) y3
        rw [if_pos y3]; omega
      · rw [if_neg y3]; omega
theorem linS_b (hl : ∀ b, b ∈ l → b < 256) (hL : l.length ≤ 200) {n k : Nat} (hk : k ≤ l.length) : match linS l n k with
    | .inl e => 1 ≤ e ∧ e ≤ 1700
    | .inr (x, k') => k' ≤ l.length ∧ lnOK x ∧ n ≠ 16 ∧ (x.1 = 1 ↔ n = 0) := by
  have s := skp_b (l := l) hk
  unfold linS
  generalize skp l k = p at s
  obtain ⟨k1, k2, k3, k4⟩ := kdS_len (l := l) s.2
  by_cases y0 : kdS l p = 0
  · rw [if_pos y0]; dsimp only; omega
  rw [if_neg y0]
  by_cases y1 : n = 16 ∨ ¬ (kdS l p = 1 ↔ n = 0)
  · rw [if_pos y1]; dsimp only; omega
  rw [if_neg y1]
  have n16 : n ≠ 16 := fun q => y1 (Or.inl q)
  have nn : kdS l p = 1 ↔ n = 0 := Classical.not_not.mp (fun q => y1 (Or.inr q))
  by_cases y2 : kdS l p = 1
  · rw [if_pos y2]
    have ob := octS_b hl hL (k1 y2)
    cases e : octS l (p + 5) with
    | inl c => rw [e] at ob; exact ob
    | inr r =>
      obtain ⟨ds, k'⟩ := r
      rw [e] at ob
      exact ⟨ob.1, Or.inl ⟨rfl, ob.2⟩, n16, ⟨fun _ => nn.mp y2, fun _ => rfl⟩⟩
  rw [if_neg y2]
  by_cases y3 : kdS l p = 2
  · rw [if_pos y3]
    have ob := alsS_b (k2 y3) hL
    cases e : alsS l (p + 4) with
    | inl c => rw [e] at ob; exact ob
    | inr r =>
      obtain ⟨⟨h, a, b⟩, k'⟩ := r
      rw [e] at ob
      exact ⟨ob.1, Or.inr (Or.inl ⟨rfl, ob.2⟩), n16, ⟨fun q => absurd q (by show ¬ (2 : Nat) = 1; decide), fun q => absurd (nn.mpr q) y2⟩⟩
  · rw [if_neg y3]
    have ob := nevS_b (k3 (by omega)) hL
    cases e : nevS l (p + 5) with
    | inl c => rw [e] at ob; exact ob
    | inr r =>
      obtain ⟨⟨h, a, b⟩, k'⟩ := r
      rw [e] at ob
      exact ⟨ob.1, Or.inr (Or.inr ⟨rfl, ob.2⟩), n16, ⟨fun q => absurd q (by show ¬ (3 : Nat) = 1; decide), fun q => absurd (nn.mpr q) y2⟩⟩
theorem w_str : (jstl 1002 = (wOct.length : Int) ∧ jstl 1003 = (wAls.length : Int) ∧ jstl 1004 = (wNev.length : Int)) ∧ (∀ (i : Nat) (x : Int), wOct[i]? = some x → jsta 1002 i = x ∧ iR x) ∧ (∀ (i : Nat) (x : Int), wAls[i]? = some x → jsta 1003 i = x ∧ iR x) ∧ ∀ (i : Nat) (x : Int), wNev[i]? = some x → jsta 1004 i = x ∧ iR x := by
  refine ⟨⟨rfl, rfl, rfl⟩, fun i x hx => ?_, fun i x hx => ?_, fun i x hx => ?_⟩
  · have il : i < 5 := (List.getElem?_eq_some_iff.mp hx).1
    rcases (show i = 0 ∨ i = 1 ∨ i = 2 ∨ i = 3 ∨ i = 4 by omega) with rfl | rfl | rfl | rfl | rfl <;> (rw [← Option.some.inj hx]; exact ⟨rfl, by unfold iR; omega⟩)
  · have il : i < 4 := (List.getElem?_eq_some_iff.mp hx).1
    rcases (show i = 0 ∨ i = 1 ∨ i = 2 ∨ i = 3 by omega) with rfl | rfl | rfl | rfl <;> (rw [← Option.some.inj hx]; exact ⟨rfl, by unfold iR; omega⟩)
  · have il : i < 5 := (List.getElem?_eq_some_iff.mp hx).1
    rcases (show i = 0 ∨ i = 1 ∨ i = 2 ∨ i = 3 ∨ i = 4 by omega) with rfl | rfl | rfl | rfl | rfl <;> (rw [← Option.some.inj hx]; exact ⟨rfl, by unfold iR; omega⟩)
theorem rc_kind {p : Nat} (h : RdC σ l p) (hp : p ≤ l.length) (hF : 10 ≤ F) : ∃ σ', Reader_readKind F σ = some ((kdS l p : Int), σ') ∧ jfr At8 σ σ' ∧ (kdS l p = 1 → RdC σ' l (p + 5)) ∧ (kdS l p = 2 → RdC σ' l (p + 4)) ∧ (kdS l p = 3 → RdC σ' l (p + 5)) := by
  obtain ⟨⟨s1, s2, s3⟩, t1, t2, t3⟩ := w_str
  have u1 := rc_word (F := F) (w := 1002) (ws := wOct) h hp s1 (by decide) t1 hF
  have u2 := rc_word (F := F) (w := 1003) (ws := wAls) h hp s2 (by decide) t2 hF
  have u3 := rc_word (F := F) (w := 1004) (ws := wNev) h hp s3 (by decide) t3 hF
  have f : ∀ x, jfr At8 σ (jup σ 3 8 x) := fun x => jfr_up (jfr_refl _ _) ⟨rfl, rfl⟩
  rw [Reader_readKind, u1]
  unfold kdS
  by_cases y1 : wml l p wOct = true
  · rw [if_pos y1, if_pos y1, jbs]
    exact ⟨_, rfl, f _, fun _ => RdC_up (k' := p + 5) h, fun q => absurd q (by decide), fun q => absurd q (by decide)⟩
  rw [if_neg y1, if_neg y1, jbs]
  dsimp only
  rw [if_pos (show jw 0 = 0 from rfl), u2]
  by_cases y2 : wml l p wAls = true
  · rw [if_pos y2, if_pos y2, jbs]
    exact ⟨_, rfl, f _, fun q => absurd q (by decide), fun _ => RdC_up (k' := p + 4) h, fun q => absurd q (by decide)⟩
  rw [if_neg y2, if_neg y2, jbs]
  dsimp only
  rw [if_pos (show jw 0 = 0 from rfl), u3]
  by_cases y3 : wml l p wNev = true
  · rw [if_pos y3, if_pos y3, jbs]
    exact ⟨_, rfl, f _, fun q => absurd q (by decide), fun q => absurd q (by decide), fun _ => RdC_up (k' := p + 5) h⟩
  rw [if_neg y3, if_neg y3, jbs]
  exact ⟨σ, rfl, jfr_refl _ _, fun q => absurd q (by decide), fun q => absurd q (by decide), fun q => absurd q (by decide)⟩
/-- a line as the class holds it -/
def entL (σ : jxS) (n : Nat) (x : lnT) : Prop := σ 5 n = (x.1 : Int) ∧ (x.1 ≠ 1 → σ 6 n = x.2.2.1 ∧ σ 7 n = x.2.2.2.1 ∧ σ 8 n = x.2.2.2.2) ∧ (x.1 = 1 → σ 3 6 = (x.2.1.length : Int) ∧ rowL σ 4 0 x.2.1)
def LnP (n : Nat) (a : Nat) (j : Int) : Prop := (a = 3 ∧ (j = 7 ∨ j = 8 ∨ j = 9)) ∨ (5 ≤ a ∧ a ≤ 8 ∧ j = (n : Int)) ∨ (n = 0 ∧ ((a = 3 ∧ j = 6) ∨ a = 4))
def linC (σ : jxS) (l : List Nat) (n : Nat) (r : Nat ⊕ (lnT × Nat)) : Prop := match r with
  | .inl e => σ 3 9 = (e : Int)
  | .inr (x, k') => σ 3 9 = 0 ∧ RdC σ l k' ∧ σ 3 7 = (n : Int) + 1 ∧ entL σ n x
theorem At8_LnP {n a : Nat} {j : Int} (h : At8 a j) : LnP n a j := Or.inl ⟨h.1, Or.inr (Or.inl h.2)⟩
theorem AlP_LnP {n a : Nat} {j : Int} (h : AlP n a j) : LnP n a j := by
  simp only [AlP] at h
  simp only [LnP]
  omega
theorem CoP_LnP {a : Nat} {j : Int} (h : CoP a j) : LnP 0 a j := by
  rcases h with ⟨h1, h2 | h2 | h2⟩ | h
  · exact Or.inr (Or.inr ⟨rfl, Or.inl ⟨h1, h2⟩⟩)
  · exact Or.inl ⟨h1, Or.inr (Or.inl h2)⟩
  · exact Or.inl ⟨h1, Or.inr (Or.inr h2)⟩
  · exact Or.inr (Or.inr ⟨rfl, Or.inr h⟩)
theorem rc_line {k n : Nat} (h : RdC σ l k) (hk : k ≤ l.length) (h9 : σ 3 9 = 0) (w : σ 3 7 = (n : Int)) (hn : n ≤ 16) (h6 : n = 0 → σ 3 6 = 0) (hF : 1000 ≤ F) : ∃ σ', Reader_readLine F σ = some (0, σ') ∧ jfr (LnP n) σ σ' ∧ linC σ' l n (linS l n k) := by
  obtain ⟨σ1, a1, a2, a3⟩ := rc_skip (F := F) h hk hF
  have s := skp_b (l := l) hk
  rw [Reader_readLine, a1, jbs]
  dsimp only
  unfold linS
  generalize skp l k = p at a3 s
  obtain ⟨z1, z2, z3, z4⟩ := kdS_len (l := l) s.2
  obtain ⟨σ2, b1, b2, b3, b4, b5⟩ := rc_kind (F := F) a3 s.2 (by omega)
  have l2 := (RdC_len h).2
  have f2 : jfr At8 σ σ2 := jfr_trans a2 b2
  have n9 : σ2 3 9 = 0 := by rw [f2 3 9 (by simp [At8])]; exact h9
  have w2 : σ2 3 7 = (n : Int) := by rw [f2 3 7 (by simp [At8])]; exact w
  have g2 : jfr (LnP n) σ σ2 := jfr_mono f2 (fun a j => At8_LnP)
  have ff : ∀ x, jfr (LnP n) σ (jup σ2 3 9 x) := fun x => jfr_up g2 (Or.inl ⟨rfl, Or.inr (Or.inr rfl)⟩)
  rw [b1, jbs]
  dsimp only
  rw [a3.2.2]
  generalize kdS l p = kd at z1 z2 z3 z4 b3 b4 b5
  by_cases y0 : kd = 0
  · rw [if_pos (show jw (kd : Int) = 0 by rw [y0]; rfl), if_pos y0, rc_fail n9, jbs]
    dsimp only
    exact ⟨_, rfl, ff _, by show (jup σ2 3 9 _) 3 9 = _; rw [jup_s]; omega⟩
  have c59 : Reader_readLine_c59 F p σ2 = some (0, jup σ2 3 9 (8 * (p : Int) + 4)) := by
    rw [Reader_readLine_c59, rc_fail n9, jbs]
  have jk : ∀ m : Int, 0 ≤ m → m ≤ 3 → (jw (kd : Int) = m ↔ (kd : Int) = m) := fun m _ _ => by rw [jw_id (by omega) (by omega)]
  rw [if_neg (show ¬ jw (kd : Int) = 0 from fun q => y0 (Int.ofNat_inj.mp ((jk 0 (by decide) (by decide)).mp q))), if_neg y0]
  by_cases y16 : n = 16
  · rw [if_neg (show ¬ jw (σ2 3 7) < 16 by rw [w2, y16]; decide), c59, if_pos (Or.inl y16)]
    exact ⟨_, rfl, ff _, by show (jup σ2 3 9 _) 3 9 = _; rw [jup_s]; omega⟩
  rw [if_pos (show jw (σ2 3 7) < 16 by rw [w2, jw_id (by omega) (by omega)]; omega)]
  have bad : ¬ (kd = 1 ↔ n = 0) → ∃ σ', Reader_readLine_c59 F p σ2 = some (0, σ') ∧ jfr (LnP n) σ σ' ∧ linC σ' l n (.inl (8 * p + 4)) := fun _ => ⟨_, c59, ff _, by show (jup σ2 3 9 _) 3 9 = _; rw [jup_s]; omega⟩
  have g5 : jfr (LnP n) σ (jup σ2 5 n (kd : Int)) := jfr_up g2 (Or.inr (Or.inl ⟨by omega, by omega, rfl⟩))
  have rd5 : ∀ k', RdC σ2 l k' → RdC (jup σ2 5 n (kd : Int)) l k' := fun k' q => RdC_fr (P := fun a _ => a = 5) q (jfr_up (jfr_refl _ _) rfl) (by omega) (fun j => by omega) (by omega)
  have n95 : (jup σ2 5 n (kd : Int)) 3 9 = 0 := by rw [jup_o (by omega)]; exact n9
  have w5 : (jup σ2 5 n (kd : Int)) 3 7 = (n : Int) := by rw [jup_o (by omega)]; exact w2
  have c0 : 0 ≤ (n : Int) ∧ (n : Int) < 16 := by omega
  by_cases y1 : kd = 1
  · rw [if_pos (show jw (kd : Int) = 1 from (jk 1 (by decide) (by decide)).mpr (by omega)), Reader_readLine_c44]
    by_cases yn : n = 0
    · subst yn
      rw [if_pos (show jw (σ2 3 7) = 0 by rw [w2]; rfl), Reader_readLine_c56, if_pos (show jw 1 = jw 1 from rfl), w2, if_pos c0]
      dsimp only
      obtain ⟨σ3, d1, d2, d3⟩ := rc_code (F := F) (rd5 _ (b3 y1)) (z1 y1) n95 (by rw [jup_o (by omega), f2 3 6 (by simp [At8])]; exact h6 rfl) hF
      rw [if_pos (show jw (kd : Int) = 1 from (jk 1 (by decide) (by decide)).mpr (by omega)), d1, jbs, Reader_readLine_c104, if_neg (show ¬ ((0 : Nat) = 16 ∨ ¬ (kd = 1 ↔ (0 : Nat) = 0)) by omega), if_pos y1]
      dsimp only
      have g3 : jfr (LnP 0) σ σ3 := jfr_trans g5 (jfr_mono d2 (fun a j => CoP_LnP))
      have w3 : σ3 3 7 = 0 := by rw [d2 3 7 (by simp [CoP])]; exact w5
      refine ⟨_, rfl, jfr_up g3 (Or.inl ⟨rfl, Or.inl rfl⟩), ?_⟩
      cases e : octS l (p + 5) with
      | inl c =>
        rw [e] at d3
        show (jup σ3 3 7 _) 3 9 = _
        rw [jup_k (by omega)]
        exact d3
      | inr r =>
        obtain ⟨ds, k'⟩ := r
        rw [e] at d3
        obtain ⟨q1, q2, q3, q4⟩ := d3
        refine ⟨by rw [jup_k (by omega)]; exact q1, RdC_fr (P := fun a j => a = 3 ∧ j = 7) q2 (jfr_up (jfr_refl _ _) ⟨rfl, rfl⟩) (by omega) (fun j => by omega) (by omega), by rw [jup_s, w3]; rfl, ?_, fun q => absurd rfl q, fun _ => ⟨by rw [jup_k (by omega)]; exact q3, fun i x hx => by rw [jup_o (by omega)]; exact q4 i x hx⟩⟩
        rw [jup_o (by omega), d2 5 _ (by simp [CoP]), jup_s, y1]
    · rw [if_neg (show ¬ jw (σ2 3 7) = 0 by rw [w2, jw_id (by omega) (by omega)]; omega), Reader_readLine_c56, if_neg (show ¬ jw 1 = jw 0 by decide), if_pos (Or.inr (by omega))]
      exact bad (by omega)
  rw [if_neg (show ¬ jw (kd : Int) = 1 from fun q => y1 (Int.ofNat_inj.mp ((jk 1 (by decide) (by decide)).mp q))), Reader_readLine_c44]
  by_cases yn : n = 0
  · rw [if_pos (show jw (σ2 3 7) = 0 by rw [w2, yn]; rfl), Reader_readLine_c56, if_neg (show ¬ jw 0 = jw 1 by decide), if_pos (Or.inr (by omega))]
    exact bad (by omega)
  rw [if_neg (show ¬ jw (σ2 3 7) = 0 by rw [w2, jw_id (by omega) (by omega)]; omega), Reader_readLine_c56, if_pos (show jw 0 = jw 0 from rfl), w2, if_pos c0, if_neg (show ¬ jw (kd : Int) = 1 from fun q => y1 (Int.ofNat_inj.mp ((jk 1 (by decide) (by decide)).mp q))), if_neg (show ¬ (n = 16 ∨ ¬ (kd = 1 ↔ n = 0)) by omega), if_neg y1]
  have fin : ∀ (σ3 : jxS) (r : Nat ⊕ ((Int × Int × Int) × Nat)), jfr (AlP n) (jup σ2 5 n (kd : Int)) σ3 → entC σ3 l n r → ∃ σ', Reader_readLine_c104 F σ3 = some (0, σ') ∧ jfr (LnP n) σ σ' ∧ linC σ' l n (match r with
      | .inl e => .inl e
      | .inr ((h, a, b), k1) => .inr ((kd, [], h, a, b), k1)) := by
    intro σ3 r d2 d3
    have g3 : jfr (LnP n) σ σ3 := jfr_trans g5 (jfr_mono d2 (fun a j => AlP_LnP))
    have w3 : σ3 3 7 = (n : Int) := by rw [d2 3 7 (by simp [AlP])]; exact w5
    refine ⟨_, rfl, jfr_up g3 (Or.inl ⟨rfl, Or.inl rfl⟩), ?_⟩
    cases r with
    | inl c =>
      show (jup σ3 3 7 _) 3 9 = _
      rw [jup_k (by omega)]
      exact d3
    | inr r =>
      obtain ⟨⟨hh, a, b⟩, k'⟩ := r
      obtain ⟨q1, q2, q3, q4, q5⟩ := d3
      refine ⟨by rw [jup_k (by omega)]; exact q1, RdC_fr (P := fun a j => a = 3 ∧ j = 7) q2 (jfr_up (jfr_refl _ _) ⟨rfl, rfl⟩) (by omega) (fun j => by omega) (by omega), by rw [jup_s, w3], ?_, fun _ => ⟨by rw [jup_o (by omega)]; exact q3, by rw [jup_o (by omega)]; exact q4, by rw [jup_o (by omega)]; exact q5⟩, fun q => absurd q y1⟩
      rw [jup_o (by omega), d2 5 _ (by simp only [AlP]; omega), jup_s]
  by_cases y2 : kd = 2
  · obtain ⟨σ3, d1, d2, d3⟩ := rc_also (F := F) (n := n) (rd5 _ (b4 y2)) (z2 y2) n95 (by omega) w5 hF
    rw [if_pos (show jw (kd : Int) = 2 from (jk 2 (by decide) (by decide)).mpr (by omega)), d1, jbs, if_pos y2]
    have := fin σ3 _ d2 d3
    rw [y2] at this
    exact this
  · have y3 : kd = 3 := by omega
    obtain ⟨σ3, d1, d2, d3⟩ := rc_never (F := F) (n := n) (rd5 _ (b5 y3)) (z3 y3) n95 (by omega) w5 hF
    rw [if_neg (show ¬ jw (kd : Int) = 2 from fun q => y2 (Int.ofNat_inj.mp ((jk 2 (by decide) (by decide)).mp q))), d1, jbs, if_neg y2]
    have := fin σ3 _ d2 d3
    rw [y3] at this
    exact this
end PT
