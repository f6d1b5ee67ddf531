/-! The class's reader: digits, lines. -/
section PL
variable {F : Nat} {σ : jxS} {l : List Nat}
theorem numS_e {lo hi : Int} {k e : Nat} (hk : k ≤ l.length) (hL : l.length ≤ 200) (h : numS l lo hi k = .inl e) : 1 ≤ e ∧ e ≤ 1700 := by
  have s := skp_b (l := l) hk
  unfold numS at h
  split at h
  · split at h
    · cases h
    · have := Sum.inl.inj h; omega
  · have := Sum.inl.inj h; omega
theorem ods_b (hl : ∀ b, b ∈ l → b < 256) (hL : l.length ≤ 200) : ∀ (f q : Nat) (ds : List Nat), q ≤ l.length → ds.length ≤ 8 → (∀ x, x ∈ ds → x < 8) → match ods l f q ds with
    | .inl e => 1 ≤ e ∧ e ≤ 1700
    | .inr (ds', k') => k' ≤ l.length ∧ ds'.length ≤ 8 ∧ ∀ x, x ∈ ds' → x < 8 := by
  intro f
  induction f with
  | zero => intro q ds h1 h2 h3; exact ⟨h1, h2, h3⟩
  | succ f ih =>
    intro q ds h1 h2 h3
    rw [ods]
    by_cases y : isD (bt l q)
    · have ql := isD_in y
      rw [if_pos y]
      by_cases z : 55 < bt l q ∨ ds.length = 8
      · rw [if_pos z]
        dsimp only
        omega
      · rw [if_neg z]
        exact ih (q + 1) _ (by omega) (by rw [List.length_append, List.length_singleton]; omega) (fun x hx => by
          rcases List.mem_append.mp hx with m | m
          · exact h3 x m
          · rw [List.mem_singleton.mp m]; unfold isD at y; omega)
    · rw [if_neg y]
      exact ⟨h1, h2, h3⟩
theorem octS_b (hl : ∀ b, b ∈ l → b < 256) (hL : l.length ≤ 200) {k : Nat} (hk : k ≤ l.length) : match octS l k with
    | .inl e => 1 ≤ e ∧ e ≤ 1700
    | .inr (ds', k') => k' ≤ l.length ∧ ds'.length ≤ 8 ∧ ∀ x, x ∈ ds' → x < 8 := by
  have s := skp_b (l := l) hk
  unfold octS
  by_cases y : bt l (skp l k) = 46
  · have pl := bt_in (l := l) (k := skp l k) (by rw [y]; decide)
    have s2 := skp_b (l := l) (k := skp l k + 1) (by omega)
    rw [if_pos y]
    by_cases z : isD (bt l (skp l (skp l k + 1)))
    · rw [if_pos z]
      exact ods_b hl hL _ _ [] s2.2 (Nat.zero_le _) (fun x hx => absurd hx List.not_mem_nil)
    · rw [if_neg z]
      dsimp only
      omega
  · rw [if_neg y]
    dsimp only
    omega
def CoP (a : Nat) (j : Int) : Prop := (a = 3 ∧ (j = 6 ∨ j = 8 ∨ j = 9)) ∨ a = 4
/-- what the digits' reading leaves -/
def octC (σ : jxS) (l : List Nat) (r : Nat ⊕ (List Nat × Nat)) : Prop := match r with
  | .inl e => σ 3 9 = (e : Int)
  | .inr (ds, k') => σ 3 9 = 0 ∧ RdC σ l k' ∧ σ 3 6 = (ds.length : Int) ∧ rowL σ 4 0 ds
theorem rc_ods : ∀ (f fu q : Nat) (ds : List Nat) (σ : jxS), RdC σ l q → σ 3 9 = 0 → σ 3 6 = (ds.length : Int) → rowL σ 4 0 ds → ds.length ≤ 8 → q ≤ l.length → f ≤ 200 → l.length ≤ q + f → f + 1 < fu → ∃ σ', Reader_readCode_c79 F fu f σ = some (0, σ') ∧ jfr CoP σ σ' ∧ octC σ' l (ods l f q ds) := by
  intro f
  induction f with
  | zero =>
    intro fu q ds σ h h9 h6 hr h8 hq hf hL hu
    obtain ⟨fu, rfl⟩ : ∃ k, fu = k + 1 := ⟨fu - 1, by omega⟩
    exact ⟨σ, by rw [Reader_readCode_c79, if_neg (show ¬ 0 < jw ((0 : Nat) : Int) by decide)], jfr_refl _ _, h9, h, h6, hr⟩
  | succ f ih =>
    intro fu q ds σ h h9 h6 hr h8 hq hf hL hu
    obtain ⟨fu, rfl⟩ : ∃ k, fu = k + 1 := ⟨fu - 1, by omega⟩
    have l2 := (RdC_len h).2
    have b := bt_iR (j := q) h.2.1
    have bb := bt_b (k := q) h.2.1
    rw [Reader_readCode_c79, if_pos (show 0 < jw ((f + 1 : Nat) : Int) by rw [jw_id (by omega) (by omega)]; omega), if_pos (show jw (σ 3 9) = 0 by rw [h9]; rfl), h.2.2, rc_at h (by omega), jbs]
    dsimp only
    rw [rc_isD b, jbs, ods]
    dsimp only
    by_cases y : isD (bt l q)
    · have ql := isD_in y
      have y' : 48 ≤ bt l q ∧ bt l q ≤ 57 := y
      rw [if_pos y, if_pos y, if_neg (show ¬ jw 1 = 0 by decide), h.2.2, rc_at h (by omega), jbs]
      dsimp only
      have fl : Reader_readDigit_c15 F σ = some (0, jup σ 3 9 (8 * (q : Int) + 3)) := by
        rw [Reader_readDigit_c15, h.2.2, rc_fail h9, jbs]
      have fin : ∀ (g : Nat) (x : Int), Reader_readCode_c79 F (g + 1) x (jup σ 3 9 (8 * (q : Int) + 3)) = some (0, jup σ 3 9 (8 * (q : Int) + 3)) := by
        intro g x
        rw [Reader_readCode_c79]
        by_cases z : 0 < jw x
        · rw [if_pos z, jup_s, if_neg (show ¬ jw (8 * (q : Int) + 3) = 0 by rw [jw_id (by omega) (by omega)]; omega)]
        · rw [if_neg z]
      have ff : jfr CoP σ (jup σ 3 9 (8 * (q : Int) + 3)) := jfr_up (jfr_refl _ _) (Or.inl ⟨rfl, Or.inr (Or.inr rfl)⟩)
      rw [Reader_readDigit, jw_id (x := bt l q - 48) (by omega) (by omega)]
      by_cases z : 55 < bt l q
      · rw [if_pos (show 7 < bt l q - 48 by omega), fl, jbs, if_pos (Or.inl z)]
        obtain ⟨fu, rfl⟩ : ∃ k, fu = k + 1 := ⟨fu - 1, by omega⟩
        exact ⟨_, fin _ _, ff, by show (jup σ 3 9 (8 * (q : Int) + 3)) 3 9 = _; rw [jup_s]; omega⟩
      · rw [if_neg (show ¬ 7 < bt l q - 48 by omega), h6]
        by_cases z2 : ds.length = 8
        · rw [if_neg (show ¬ jw (ds.length : Int) < 8 by rw [z2]; decide), fl, jbs, if_pos (Or.inr z2)]
          obtain ⟨fu, rfl⟩ : ∃ k, fu = k + 1 := ⟨fu - 1, by omega⟩
          exact ⟨_, fin _ _, ff, by show (jup σ 3 9 (8 * (q : Int) + 3)) 3 9 = _; rw [jup_s]; omega⟩
        · rw [if_pos (show jw (ds.length : Int) < 8 by rw [jw_id (by omega) (by omega)]; omega), if_pos (show 0 ≤ (ds.length : Int) ∧ (ds.length : Int) < 8 by omega), jbs, if_neg (show ¬ (55 < bt l q ∨ ds.length = 8) by omega)]
          dsimp only
          rw [jup_o (by omega), h6, jup_k (by omega), jup_o (by omega), h.2.2]
          have fr : jfr CoP σ (jup (jup (jup σ 4 (ds.length : Int) (bt l q - 48)) 3 6 ((ds.length : Int) + 1)) 3 8 ((q : Int) + 1)) := jfr_up (jfr_up (jfr_up (jfr_refl _ _) (Or.inr rfl)) (Or.inl ⟨rfl, Or.inl rfl⟩)) (Or.inl ⟨rfl, Or.inr (Or.inl rfl)⟩)
          obtain ⟨σ', i1, i2, i3⟩ := ih fu (q + 1) (ds ++ [(bt l q - 48).toNat]) (jup (jup (jup σ 4 (ds.length : Int) (bt l q - 48)) 3 6 ((ds.length : Int) + 1)) 3 8 ((q : Int) + 1)) ⟨TpC_fr h.1 fr (by simp [CoP]) (fun j => by simp [CoP]), h.2.1, by rw [jup_s]; omega⟩ (by rw [jup_k (by omega), jup_k (by omega), jup_o (by omega)]; exact h9) (by rw [jup_k (by omega), jup_s, List.length_append, Int.natCast_add]; rfl) (fun i x hx => by
            rw [jup_o (by omega), jup_o (by omega), Nat.zero_add]
            by_cases e : i = ds.length
            · subst e
              rw [List.getElem?_append_right (Nat.le_refl _), Nat.sub_self] at hx
              rw [jup_s, ← Option.some.inj hx]
              omega
            · have il := (List.getElem?_eq_some_iff.mp hx).1
              rw [List.length_append, List.length_singleton] at il
              rw [List.getElem?_append_left (by omega)] at hx
              rw [jup_k (by omega)]
              have := hr i x hx
              rw [Nat.zero_add] at this
              exact this) (by rw [List.length_append, List.length_singleton]; omega) (by omega) (by omega) (by omega) (by omega)
          refine ⟨σ', ?_, jfr_trans fr i2, i3⟩
          rw [show ((f + 1 : Nat) : Int) + (-1) = (f : Int) by omega]
          exact i1
    · rw [if_neg y, if_neg y, if_pos (show jw 0 = 0 from rfl)]
      exact ⟨σ, rfl, jfr_refl _ _, h9, h, h6, hr⟩
theorem rc_code {k : Nat} (h : RdC σ l k) (hk : k ≤ l.length) (h9 : σ 3 9 = 0) (h6 : σ 3 6 = 0) (hF : 1000 ≤ F) : ∃ σ', Reader_readCode F σ = some (0, σ') ∧ jfr CoP σ σ' ∧ octC σ' l (octS l k) := by
  obtain ⟨σ1, a1, a2, a3⟩ := rc_skip (F := F) h hk hF
  have l2 := (RdC_len h).2
  have s := skp_b (l := l) hk
  have n9 : σ1 3 9 = 0 := by rw [a2 3 9 (by simp [At8])]; exact h9
  have f1 : jfr CoP σ σ1 := jfr_mono a2 (fun a j q => Or.inl ⟨q.1, Or.inr (Or.inl q.2)⟩)
  rw [Reader_readCode, a1, jbs]
  dsimp only
  unfold octS
  generalize skp l k = p at a3 s
  have b := bt_iR (j := p) h.2.1
  rw [a3.2.2, rc_at a3 (by omega), jbs]
  dsimp only
  rw [jw_id b.1 b.2]
  by_cases y : bt l p = 46
  · have pl := bt_in (l := l) (k := p) (by rw [y]; decide)
    rw [if_pos y, if_pos y, a3.2.2, show (p : Int) + 1 = ((p + 1 : Nat) : Int) by omega]
    have u := RdC_up (k' := p + 1) a3
    obtain ⟨σ2, b1, b2, b3⟩ := rc_skip (F := F) u (by omega) hF
    have s2 := skp_b (l := l) (k := p + 1) (by omega)
    have f2 : jfr CoP σ σ2 := jfr_trans f1 (jfr_trans (jfr_up (jfr_refl _ _) (Or.inl ⟨rfl, Or.inr (Or.inl rfl)⟩)) (jfr_mono b2 (fun a j q => Or.inl ⟨q.1, Or.inr (Or.inl q.2)⟩)))
    have n92 : σ2 3 9 = 0 := by rw [b2 3 9 (by simp [At8]), jup_k (by omega)]; exact n9
    have n62 : σ2 3 6 = 0 := by rw [b2 3 6 (by simp [At8]), jup_k (by omega), a2 3 6 (by simp [At8])]; exact h6
    rw [b1, jbs]
    dsimp only
    generalize skp l (p + 1) = q at b3 s2
    have bq := bt_iR (j := q) h.2.1
    rw [b3.2.2, rc_at b3 (by omega), jbs]
    dsimp only
    rw [rc_isD bq, jbs]
    dsimp only
    by_cases z : isD (bt l q)
    · rw [if_pos z, if_pos z, if_neg (show ¬ jw 1 = 0 by decide), Tape_size, jbs]
      dsimp only
      rw [(RdC_len b3).1]
      obtain ⟨σ3, d1, d2, d3⟩ := rc_ods (F := F) l.length F q [] σ2 b3 n92 n62 (rowL_nil _ _ _) (Nat.zero_le _) s2.2 l2 (by omega) (by omega)
      exact ⟨σ3, d1, jfr_trans f2 d2, d3⟩
    · rw [if_neg z, if_neg z, if_pos (show jw 0 = 0 from rfl), b3.2.2, rc_fail n92, jbs]
      dsimp only
      exact ⟨_, rfl, jfr_up f2 (Or.inl ⟨rfl, Or.inr (Or.inr rfl)⟩), by show (jup σ2 3 9 _) 3 9 = _; rw [jup_s]; omega⟩
  · rw [if_neg y, if_neg y, a3.2.2, rc_fail n9, jbs]
    dsimp only
    exact ⟨_, rfl, jfr_up f1 (Or.inl ⟨rfl, Or.inr (Or.inr rfl)⟩), by show (jup σ1 3 9 _) 3 9 = _; rw [jup_s]; omega⟩
/-! lines of numbers -/
def AlP (n : Nat) (a : Nat) (j : Int) : Prop := (a = 3 ∧ (j = 8 ∨ j = 9)) ∨ (6 ≤ a ∧ a ≤ 8 ∧ j = (n : Int))
def entC (σ : jxS) (l : List Nat) (n : Nat) (r : Nat ⊕ ((Int × Int × Int) × Nat)) : Prop := match r with
  | .inl e => σ 3 9 = (e : Int)
  | .inr ((h, a, b), k') => σ 3 9 = 0 ∧ RdC σ l k' ∧ σ 6 n = h ∧ σ 7 n = a ∧ σ 8 n = b
theorem rc_store {n : Nat} {v1 v2 v3 : Int} (hn : n < 16) (w : σ 3 7 = (n : Int)) : Reader_store F σ v1 v2 v3 = some (0, jup (jup (jup σ 6 n v1) 7 n v2) 8 n v3) := by
  have c0 : 0 ≤ (n : Int) ∧ (n : Int) < 16 := by omega
  rw [Reader_store, w, if_pos (show jw (n : Int) < 16 by rw [jw_id (by omega) (by omega)]; omega), if_pos c0]
  dsimp only
  rw [jup_o (by omega), w, if_pos c0, jup_o (by omega), jup_o (by omega), w, if_pos c0]
theorem FtP_AlP {n a : Nat} {j : Int} (h : FtP a j) : AlP n a j := Or.inl h
theorem At8_AlP {n a : Nat} {j : Int} (h : At8 a j) : AlP n a j := Or.inl ⟨h.1, Or.inl h.2⟩
theorem st_frame {n : Nat} {σ' : jxS} {v1 v2 v3 : Int} (f : jfr (AlP n) σ σ') : jfr (AlP n) σ (jup (jup (jup σ' 6 n v1) 7 n v2) 8 n v3) :=
  jfr_up (jfr_up (jfr_up f (Or.inr ⟨by omega, by omega, rfl⟩)) (Or.inr ⟨by omega, by omega, rfl⟩)) (Or.inr ⟨by omega, by omega, rfl⟩)
theorem st_9 {n : Nat} {σ' : jxS} {v1 v2 v3 : Int} : (jup (jup (jup σ' 6 n v1) 7 n v2) 8 n v3) 3 9 = σ' 3 9 := by
  rw [jup_o (by omega), jup_o (by omega), jup_o (by omega)]
theorem st_ok {n k : Nat} {v1 v2 v3 : Int} (h : RdC σ l k) (h9 : σ 3 9 = 0) : entC (jup (jup (jup σ 6 n v1) 7 n v2) 8 n v3) l n (.inr ((v1, v2, v3), k)) := by
  refine ⟨by rw [st_9]; exact h9, RdC_fr (P := fun a _ => 6 ≤ a) h (jfr_up (jfr_up (jfr_up (jfr_refl _ _) (by omega)) (by omega)) (by omega)) (by omega) (fun j => by omega) (by omega), ?_, ?_, ?_⟩
  · rw [jup_o (by omega), jup_o (by omega), jup_s]
  · rw [jup_o (by omega), jup_s]
  · rw [jup_s]
theorem rc_never {k n : Nat} (h : RdC σ l k) (hk : k ≤ l.length) (h9 : σ 3 9 = 0) (hn : n < 16) (w : σ 3 7 = (n : Int)) (hF : 1000 ≤ F) : ∃ σ', Reader_readNever F σ = some (0, σ') ∧ jfr (AlP n) σ σ' ∧ entC σ' l n (nevS l k) := by
  have l2 := (RdC_len h).2
  obtain ⟨x, σ1, a1, a2, a3⟩ := rc_num (F := F) (lo := 1) (hi := 12) h hk h9 ⟨by omega, by omega⟩ ⟨by omega, by omega⟩ hF
  rw [Reader_readNever, a1, jbs]
  dsimp only
  unfold nevS
  cases e : numS l 1 12 k with
  | inl c =>
    have ce := numS_e hk l2 e
    rw [e] at a2
    obtain ⟨q1, q2, k', q3, q4⟩ := a2
    have w1 : σ1 3 7 = (n : Int) := by rw [q1 3 7 (by simp [FtP])]; exact w
    rw [if_neg (show ¬ jw (σ1 3 9) = 0 by rw [q2, jw_id (by omega) (by omega)]; omega), Reader_readNever_c26, rc_store hn w1, jbs]
    exact ⟨_, rfl, st_frame (jfr_mono q1 (fun a j => FtP_AlP)), by show (jup (jup (jup σ1 6 n x) 7 n 0) 8 n 0) 3 9 = _; rw [st_9]; exact q2⟩
  | inr r =>
    obtain ⟨v, k1⟩ := r
    have nb := numS_b hk e
    rw [e] at a2
    obtain ⟨q0, q1, q2⟩ := a2
    subst q0
    have n9 : σ1 3 9 = 0 := by rw [q1 3 9 (by simp [At8])]; exact h9
    have w1 : σ1 3 7 = (n : Int) := by rw [q1 3 7 (by simp [At8])]; exact w
    obtain ⟨y, σ2, b1, b2, b3⟩ := rc_num (F := F) (lo := 1) (hi := 8) q2 nb.1 n9 ⟨by omega, by omega⟩ ⟨by omega, by omega⟩ hF
    rw [if_pos (show jw (σ1 3 9) = 0 by rw [n9]; rfl), b1, jbs]
    dsimp only
    cases e2 : numS l 1 8 k1 with
    | inl c =>
      rw [e2] at b2
      obtain ⟨r1, r2, k', r3, r4⟩ := b2
      have w2 : σ2 3 7 = (n : Int) := by rw [r1 3 7 (by simp [FtP])]; exact w1
      rw [Reader_readNever_c26, rc_store hn w2, jbs]
      exact ⟨_, rfl, st_frame (jfr_trans (jfr_mono q1 (fun a j => At8_AlP)) (jfr_mono r1 (fun a j => FtP_AlP))), by show (jup (jup (jup σ2 6 n x) 7 n y) 8 n 0) 3 9 = _; rw [st_9]; exact r2⟩
    | inr r =>
      obtain ⟨v2, k2⟩ := r
      rw [e2] at b2
      obtain ⟨r0, r1, r2⟩ := b2
      subst r0
      have w2 : σ2 3 7 = (n : Int) := by rw [r1 3 7 (by simp [At8])]; exact w1
      have n92 : σ2 3 9 = 0 := by rw [r1 3 9 (by simp [At8])]; exact n9
      rw [Reader_readNever_c26, rc_store hn w2, jbs]
      exact ⟨_, rfl, st_frame (jfr_trans (jfr_mono q1 (fun a j => At8_AlP)) (jfr_mono r1 (fun a j => At8_AlP))), st_ok r2 n92⟩
theorem wTo_str : jstl 1005 = (wTo.length : Int) ∧ ∀ (i : Nat) (x : Int), wTo[i]? = some x → jsta 1005 i = x ∧ iR x := by
  refine ⟨rfl, fun i x hx => ?_⟩
  have il := (List.getElem?_eq_some_iff.mp hx).1
  have il' : i < 2 := il
  rcases (show i = 0 ∨ i = 1 by omega) with rfl | rfl
  · rw [← Option.some.inj hx]; exact ⟨rfl, by unfold iR; omega⟩
  · rw [← Option.some.inj hx]; exact ⟨rfl, by unfold iR; omega⟩
theorem rc_also {k n : Nat} (h : RdC σ l k) (hk : k ≤ l.length) (h9 : σ 3 9 = 0) (hn : n < 16) (w : σ 3 7 = (n : Int)) (hF : 1000 ≤ F) : ∃ σ', Reader_readAlso F σ = some (0, σ') ∧ jfr (AlP n) σ σ' ∧ entC σ' l n (alsS l k) := by
  have l2 := (RdC_len h).2
  obtain ⟨x, σ1, a1, a2, a3⟩ := rc_num (F := F) (lo := 1) (hi := 12) h hk h9 ⟨by omega, by omega⟩ ⟨by omega, by omega⟩ hF
  rw [Reader_readAlso, a1, jbs]
  dsimp only
  unfold alsS
  cases e : numS l 1 12 k with
  | inl c =>
    have ce := numS_e hk l2 e
    rw [e] at a2
    obtain ⟨q1, q2, k', q3, q4⟩ := a2
    rw [if_neg (show ¬ jw (σ1 3 9) = 0 by rw [q2, jw_id (by omega) (by omega)]; omega)]
    exact ⟨σ1, rfl, jfr_mono q1 (fun a j => FtP_AlP), q2⟩
  | inr r =>
    obtain ⟨v, k1⟩ := r
    have nb := numS_b hk e
    rw [e] at a2
    obtain ⟨q0, q1, q2⟩ := a2
    subst q0
    have n9 : σ1 3 9 = 0 := by rw [q1 3 9 (by simp [At8])]; exact h9
    have w1 : σ1 3 7 = (n : Int) := by rw [q1 3 7 (by simp [At8])]; exact w
    obtain ⟨σ2, b1, b2, b3⟩ := rc_skip (F := F) q2 nb.1 hF
    have s := skp_b (l := l) nb.1
    have n92 : σ2 3 9 = 0 := by rw [b2 3 9 (by simp [At8])]; exact n9
    have w2 : σ2 3 7 = (n : Int) := by rw [b2 3 7 (by simp [At8])]; exact w1
    have f2 : jfr (AlP n) σ σ2 := jfr_trans (jfr_mono q1 (fun a j => At8_AlP)) (jfr_mono b2 (fun a j => At8_AlP))
    dsimp only
    generalize skp l k1 = p at b3 s
    have wd := rc_word (F := F) (w := 1005) (ws := wTo) b3 s.2 wTo_str.1 (by decide) wTo_str.2 (by omega)
    rw [if_pos (show jw (σ1 3 9) = 0 by rw [n9]; rfl), b1, jbs]
    dsimp only
    rw [wd]
    by_cases y : wml l p wTo = true
    · have wl := wml_len wTo p s.2 (by decide) y
      have wl' : p + 2 ≤ l.length := wl
      have u : RdC (jup σ2 3 8 ((p + 2 : Nat) : Int)) l (p + 2) := RdC_up b3
      have n93 : (jup σ2 3 8 ((p + 2 : Nat) : Int)) 3 9 = 0 := by rw [jup_k (by omega)]; exact n92
      have w3 : (jup σ2 3 8 ((p + 2 : Nat) : Int)) 3 7 = (n : Int) := by rw [jup_k (by omega)]; exact w2
      have f3 : jfr (AlP n) σ (jup σ2 3 8 ((p + 2 : Nat) : Int)) := jfr_up f2 (Or.inl ⟨rfl, Or.inl rfl⟩)
      rw [if_pos y, if_pos y, jbs]
      dsimp only
      rw [if_neg (show ¬ jw 1 = 0 by decide), show p + wTo.length = p + 2 from rfl]
      obtain ⟨x2, σ4, d1, d2, d3⟩ := rc_num (F := F) (lo := 0) (hi := x - 1) u wl' n93 ⟨by omega, by omega⟩ ⟨by omega, by omega⟩ hF
      rw [d1, jbs]
      dsimp only
      cases e2 : numS l 0 (x - 1) (p + 2) with
      | inl c =>
        have ce := numS_e wl' l2 e2
        rw [e2] at d2
        obtain ⟨r1, r2, k', r3, r4⟩ := d2
        obtain ⟨σ5, g1, g2, g3⟩ := rc_skip (F := F) r4 r3 hF
        have n95 : σ5 3 9 = (c : Int) := by rw [g2 3 9 (by simp [At8])]; exact r2
        have w5 : σ5 3 7 = (n : Int) := by rw [g2 3 7 (by simp [At8]), r1 3 7 (by simp [FtP])]; exact w3
        rw [g1, jbs]
        dsimp only
        rw [if_neg (show ¬ jw (σ5 3 9) = 0 by rw [n95, jw_id (by omega) (by omega)]; omega), Reader_readAlso_c89, rc_store hn w5, jbs]
        exact ⟨_, rfl, st_frame (jfr_trans f3 (jfr_trans (jfr_mono r1 (fun a j => FtP_AlP)) (jfr_mono g2 (fun a j => At8_AlP)))), by show (jup (jup (jup σ5 6 n x) 7 n x2) 8 n 0) 3 9 = _; rw [st_9]; exact n95⟩
      | inr r =>
        obtain ⟨v2, k2⟩ := r
        have nb2 := numS_b wl' e2
        rw [e2] at d2
        obtain ⟨r0, r1, r2⟩ := d2
        subst r0
        obtain ⟨σ5, g1, g2, g3⟩ := rc_skip (F := F) r2 nb2.1 hF
        have s2 := skp_b (l := l) nb2.1
        have n95 : σ5 3 9 = 0 := by rw [g2 3 9 (by simp [At8]), r1 3 9 (by simp [At8])]; exact n93
        have w5 : σ5 3 7 = (n : Int) := by rw [g2 3 7 (by simp [At8]), r1 3 7 (by simp [At8])]; exact w3
        have f5 : jfr (AlP n) σ σ5 := jfr_trans f3 (jfr_trans (jfr_mono r1 (fun a j => At8_AlP)) (jfr_mono g2 (fun a j => At8_AlP)))
        rw [g1, jbs]
        dsimp only
        generalize skp l k2 = q at g3 s2
        have bq := bt_iR (j := q) h.2.1
        rw [if_pos (show jw (σ5 3 9) = 0 by rw [n95]; rfl), g3.2.2, rc_at g3 (by omega), jbs]
        dsimp only
        rw [rc_isD bq, jbs]
        dsimp only
        by_cases z : isD (bt l q)
        · obtain ⟨x3, σ6, m1, m2, m3⟩ := rc_num (F := F) (lo := 0) (hi := x - 1 - x2) g3 s2.2 n95 ⟨by omega, by omega⟩ ⟨by omega, by omega⟩ hF
          rw [if_pos z, if_pos z, if_neg (show ¬ jw 1 = 0 by decide), m1, jbs]
          dsimp only
          cases e3 : numS l 0 (x - 1 - x2) q with
          | inl c =>
            rw [e3] at m2
            obtain ⟨t1, t2, k', t3, t4⟩ := m2
            have w6 : σ6 3 7 = (n : Int) := by rw [t1 3 7 (by simp [FtP])]; exact w5
            rw [Reader_readAlso_c89, rc_store hn w6, jbs]
            exact ⟨_, rfl, st_frame (jfr_trans f5 (jfr_mono t1 (fun a j => FtP_AlP))), by show (jup (jup (jup σ6 6 n x) 7 n x2) 8 n x3) 3 9 = _; rw [st_9]; exact t2⟩
          | inr r =>
            obtain ⟨v3, k3⟩ := r
            rw [e3] at m2
            obtain ⟨t0, t1, t2⟩ := m2
            subst t0
            have w6 : σ6 3 7 = (n : Int) := by rw [t1 3 7 (by simp [At8])]; exact w5
            have n96 : σ6 3 9 = 0 := by rw [t1 3 9 (by simp [At8])]; exact n95
            rw [Reader_readAlso_c89, rc_store hn w6, jbs]
            exact ⟨_, rfl, st_frame (jfr_trans f5 (jfr_mono t1 (fun a j => At8_AlP))), st_ok t2 n96⟩
        · rw [if_neg z, if_neg z, if_pos (show jw 0 = 0 from rfl), Reader_readAlso_c89, rc_store hn w5, jbs]
          exact ⟨_, rfl, st_frame f5, st_ok g3 n95⟩
    · rw [if_neg y, if_neg y, jbs]
      dsimp only
      rw [if_pos (show jw 0 = 0 from rfl), b3.2.2, rc_fail n92, jbs]
      dsimp only
      exact ⟨_, rfl, jfr_up f2 (Or.inl ⟨rfl, Or.inr rfl⟩), by show (jup σ2 3 9 _) 3 9 = _; rw [jup_s]; omega⟩
end PL
