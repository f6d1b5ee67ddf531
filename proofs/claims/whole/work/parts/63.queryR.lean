/-! The reference's questions about a quotient. -/
theorem jw64_id {x : Int} (h : iR x) : jw64 x = x := by
  obtain ⟨h1, h2⟩ := h
  unfold jw64
  omega
theorem mo_isIn {F : Nat} {σ : jxS} {v a b : Int} (hv : iR v) (ha : iR a) (hb : iR b) : Model_isIn F σ v a b = some (if a ≤ v ∧ v ≤ b then 1 else 0, σ) := by
  have j1 : jlcmp v a = if a < v then 1 else if v = a then 0 else -1 := by unfold jlcmp; rw [jw64_id hv, jw64_id ha]
  have j2 : jlcmp v b = if b < v then 1 else if v = b then 0 else -1 := by unfold jlcmp; rw [jw64_id hv, jw64_id hb]
  rw [Model_isIn]
  by_cases y : v < a
  · have e : jlcmp v a = -1 := by rw [j1, if_neg (by omega), if_neg (by omega)]
    rw [if_pos (show jw (jlcmp v a) < 0 by rw [e]; decide), if_neg (show ¬ (a ≤ v ∧ v ≤ b) by omega)]
  · have e : jlcmp v a = 1 ∨ jlcmp v a = 0 := by
      rw [j1]
      by_cases q : a < v
      · left; rw [if_pos q]
      · right; rw [if_neg q, if_pos (by omega)]
    have n1 : ¬ jw (jlcmp v a) < 0 := by rcases e with e | e <;> rw [e] <;> decide
    rw [if_neg n1]
    by_cases z : b < v
    · have e2 : jlcmp v b = 1 := by rw [j2, if_pos z]
      rw [if_pos (show 0 < jw (jlcmp v b) by rw [e2]; decide), if_neg (show ¬ (a ≤ v ∧ v ≤ b) by omega)]
    · have e2 : jlcmp v b = 0 ∨ jlcmp v b = -1 := by
        rw [j2, if_neg z]
        by_cases q : v = b
        · left; rw [if_pos q]
        · right; rw [if_neg q]
      have n2 : ¬ 0 < jw (jlcmp v b) := by rcases e2 with e | e <;> rw [e] <;> decide
      rw [if_neg n2, if_pos (show a ≤ v ∧ v ≤ b by omega)]
def RI (σ : jxS) (M : Nat → List Nat) : Prop := WT σ ∧ VT σ M 4224 ∧ MvM σ M ∧ RB σ M ∧ ¬ jw (σ 0 13) = 0
theorem RLd_fr {σ σ' : jxS} {M : Nat → List Nat} {m : Nat} {P : Nat → Int → Prop} (h : RLd σ M m) (f : jfr P σ σ') (hp : ∀ a j, 31 ≤ a → a ≤ 36 → ¬ P a j) : RLd σ' M m := by
  unfold RLd at h ⊢
  cases hb : qbd M m with
  | none => rw [hb] at h; show σ' 31 m = -3; rw [f 31 _ (hp _ _ (by omega) (by omega))]; exact h
  | some s =>
    rw [hb] at h
    obtain ⟨a, b, c, d⟩ := h
    exact ⟨RQ_fr a f (fun j => hp _ _ (by omega) (by omega)) (fun j => hp _ _ (by omega) (by omega)) (fun j => hp _ _ (by omega) (by omega)), by rw [f 34 _ (hp _ _ (by omega) (by omega))]; exact b, by rw [f 35 _ (hp _ _ (by omega) (by omega))]; exact c, by rw [f 36 _ (hp _ _ (by omega) (by omega))]; exact d⟩
theorem RI_fr {σ σ' : jxS} {M : Nat → List Nat} {P : Nat → Int → Prop} (h : RI σ M) (f : jfr P σ σ') (h0 : ¬ P 0 13) (hp : ∀ a j, 9 ≤ a → a ≤ 18 → ¬ P a j) (hq : ∀ a j, 30 ≤ a → a ≤ 36 → ¬ P a j) : RI σ' M := by
  obtain ⟨a, b, c, d, e⟩ := h
  refine ⟨WT_fr a f (fun j => hp _ _ (by omega) (by omega)) (fun j => hp _ _ (by omega) (by omega)), VT_fr b f (fun a j q1 q2 => hp _ _ (by omega) (by omega)), MvM_fr c f (fun j => hp _ _ (by omega) (by omega)) (fun j => hp _ _ (by omega) (by omega)), fun n n1 n6 => ?_, by rw [f 0 13 h0]; exact e⟩
  rw [f 30 _ (hq _ _ (by omega) (by omega))]
  rcases d n n1 n6 with h | ⟨h, h'⟩
  · exact Or.inl h
  · exact Or.inr ⟨h, RLd_fr h' f (fun a j q1 q2 => hq _ _ (by omega) (by omega))⟩
section RQQ
variable {F n : Nat} {σ : jxS} {M : Nat → List Nat}
theorem iR_n (n6 : n ≤ 6) : iR (n : Int) := ⟨by omega, by omega⟩
theorem rb_quot (n1 : 1 ≤ n) (n6 : n ≤ 6) (hM : MOK M) (hI : RI σ M) (hF : 5000 ≤ F) : ∃ σ', Model_isQuotient F σ n = some (1, σ') ∧ jfr (RLP n) σ σ' ∧ RI σ' M ∧ RLd σ' M n := by
  obtain ⟨a, b, c, d, e⟩ := hI
  obtain ⟨σ', a1, a2, a3, a4⟩ := rb_lays (F := F) n1 n6 hM a b c d hF
  have p1 : ∀ a j, a ≤ 18 → ¬ RLP n a j := fun a j q2 => by simp only [RLP, RQP]; omega
  have wn : jw (n : Int) = (n : Int) := jw_id (by omega) (by omega)
  refine ⟨σ', ?_, a2, ⟨WT_fr a a2 (fun j => p1 _ _ (by omega)) (fun j => p1 _ _ (by omega)), VT_fr b a2 (fun a j q1 q2 => p1 _ _ (by omega)), MvM_fr c a2 (fun j => p1 _ _ (by omega)) (fun j => p1 _ _ (by omega)), a3, by rw [a2 0 13 (p1 _ _ (by omega))]; exact e⟩, a4⟩
  rw [Model_isQuotient, if_neg e, wn, mo_isIn (iR_n n6) ⟨by decide, by decide⟩ ⟨by decide, by decide⟩, jbs, if_pos (show 1 ≤ (n : Int) ∧ (n : Int) ≤ 6 by omega)]
  dsimp only
  rw [if_neg (show ¬ jw 1 = 0 by decide), a1, jbs]
theorem rb_noq {v : Int} (hv : iR v) (h : v < 1 ∨ 6 < v) : Model_isQuotient F σ v = some (0, σ) := by
  have wn : jw v = v := jw_id hv.1 hv.2
  rw [Model_isQuotient]
  by_cases y : jw (σ 0 13) = 0
  · rw [if_pos y]
  · rw [if_neg y, wn, mo_isIn hv ⟨by decide, by decide⟩ ⟨by decide, by decide⟩, jbs, if_neg (show ¬ (1 ≤ v ∧ v ≤ 6) by omega)]
    rfl
theorem rb_none (h : qbd M n = none) (hL : RLd σ M n) (n6 : n ≤ 6) : Model_isKnown F σ n = some (0, σ) := by
  unfold RLd at hL
  rw [h] at hL
  have w : σ 31 n = -3 := hL
  rw [Model_isKnown, if_pos (by omega), if_neg (show ¬ 0 < jw (σ 31 n) by rw [w]; decide)]
theorem rb_some {s : qsT} (h : qbd M n = some s) (hL : RLd σ M n) : RQ σ n s ∧ σ 34 n = (lsF M s : Int) ∧ σ 35 n = prsA s M n ∧ σ 36 n = prfA s M n := by
  unfold RLd at hL
  rw [h] at hL
  exact hL
theorem rb_known {s : qsT} (hQ : RQ σ n s) (n6 : n ≤ 6) : Model_isKnown F σ n = some (1, σ) := by
  have w := hQ.1.1
  have l := hQ.2.1.1
  rw [Model_isKnown, if_pos (by omega), if_pos (show 0 < jw (σ 31 n) by rw [w, jw_id (by omega) (by omega)]; omega)]
theorem rb_has {s : qsT} {v : Int} (hQ : RQ σ n s) (n6 : n ≤ 6) (hv : iR v) : Model_isElement F σ n v = some (if 0 ≤ v ∧ v < (s.1.length : Int) then 1 else 0, σ) := by
  have w := hQ.1.1
  have l := hQ.2.1.1
  have wv : jw v = v := jw_id hv.1 hv.2
  have wl : jw (σ 31 n - 1) = (s.1.length : Int) - 1 := by rw [w, jw_id (by omega) (by omega)]
  rw [Model_isElement, if_pos (by omega), wv, wl, mo_isIn hv ⟨by decide, by decide⟩ ⟨by omega, by omega⟩, jbs]
  dsimp only
  by_cases y : 0 ≤ v ∧ v < (s.1.length : Int)
  · rw [if_pos y, if_pos (show 0 ≤ v ∧ v ≤ (s.1.length : Int) - 1 by omega), if_pos (Or.inr rfl)]
  · rw [if_neg y, if_neg (show ¬ (0 ≤ v ∧ v ≤ (s.1.length : Int) - 1) by omega), if_pos (Or.inl rfl)]
theorem rq_elements (n1 : 1 ≤ n) (n6 : n ≤ 6) (hM : MOK M) (hI : RI σ M) (hF : 5000 ≤ F) : ∃ σ', Model_elements F σ n = some (kA M n (fun s => (s.1.length : Int)), σ') ∧ jfr (RLP n) σ σ' ∧ RI σ' M := by
  obtain ⟨σ', a1, a2, a3, a4⟩ := rb_quot (F := F) n1 n6 hM hI hF
  refine ⟨σ', ?_, a2, a3⟩
  rw [Model_elements, a1, jbs]
  dsimp only
  rw [if_neg (show ¬ jw 1 = 0 by decide), if_pos (by omega)]
  unfold kA
  cases hb : qbd M n with
  | none =>
    unfold RLd at a4
    rw [hb] at a4
    have w : σ' 31 n = -3 := a4
    rw [w]
  | some s => rw [(rb_some hb a4).1.1.1]
theorem rq_pairs (n1 : 1 ≤ n) (n6 : n ≤ 6) (hM : MOK M) (hI : RI σ M) (hF : 5000 ≤ F) : ∃ σ', Model_pairs F σ n = some (kA M n (fun s => prsA s M n), σ') ∧ jfr (RLP n) σ σ' ∧ RI σ' M := by
  obtain ⟨σ', a1, a2, a3, a4⟩ := rb_quot (F := F) n1 n6 hM hI hF
  refine ⟨σ', ?_, a2, a3⟩
  rw [Model_pairs, a1, jbs]
  dsimp only
  rw [if_neg (show ¬ jw 1 = 0 by decide)]
  unfold kA
  cases hb : qbd M n with
  | none => rw [rb_none hb a4 n6, jbs]; rfl
  | some s =>
    obtain ⟨b1, b2, b3, b4⟩ := rb_some hb a4
    rw [rb_known b1 n6, jbs]
    dsimp only
    rw [if_neg (show ¬ jw 1 = 0 by decide), if_pos (by omega), b3]
theorem rq_proved (n1 : 1 ≤ n) (n6 : n ≤ 6) (hM : MOK M) (hI : RI σ M) (hF : 5000 ≤ F) : ∃ σ', Model_proved F σ n = some (kA M n (fun s => prfA s M n), σ') ∧ jfr (RLP n) σ σ' ∧ RI σ' M := by
  obtain ⟨σ', a1, a2, a3, a4⟩ := rb_quot (F := F) n1 n6 hM hI hF
  refine ⟨σ', ?_, a2, a3⟩
  rw [Model_proved, a1, jbs]
  dsimp only
  rw [if_neg (show ¬ jw 1 = 0 by decide)]
  unfold kA
  cases hb : qbd M n with
  | none => rw [rb_none hb a4 n6, jbs]; rfl
  | some s =>
    obtain ⟨b1, b2, b3, b4⟩ := rb_some hb a4
    rw [rb_known b1 n6, jbs]
    dsimp only
    rw [if_neg (show ¬ jw 1 = 0 by decide), if_pos (by omega), b4]
theorem rq_timesQ {v2 v3 : Int} (h2 : iR v2) (h3 : iR v3) (n1 : 1 ≤ n) (n6 : n ≤ 6) (hM : MOK M) (hI : RI σ M) (hF : 5000 ≤ F) : ∃ σ', Model_times F σ n v2 v3 = some (kA M n (tmA n v2 v3), σ') ∧ jfr (RLP n) σ σ' ∧ RI σ' M := by
  obtain ⟨σ', a1, a2, a3, a4⟩ := rb_quot (F := F) n1 n6 hM hI hF
  refine ⟨σ', ?_, a2, a3⟩
  rw [Model_times, a1, jbs]
  dsimp only
  rw [if_neg (show ¬ jw 1 = 0 by decide)]
  unfold kA
  cases hb : qbd M n with
  | none => rw [rb_none hb a4 n6, jbs]; rfl
  | some s =>
    obtain ⟨hQ, b2, b3, b4⟩ := rb_some hb a4
    rw [rb_known hQ n6, jbs]
    dsimp only
    rw [if_neg (show ¬ jw 1 = 0 by decide), rb_has hQ n6 h2, jbs]
    dsimp only
    unfold tmA
    by_cases y : 0 ≤ v2 ∧ v2 < (s.1.length : Int)
    · rw [if_pos y, if_neg (show ¬ jw 1 = 0 by decide), rb_has hQ n6 h3, jbs]
      dsimp only
      by_cases z : 0 ≤ v3 ∧ v3 < (s.1.length : Int)
      · obtain ⟨x2, rfl⟩ : ∃ k : Nat, v2 = k := ⟨v2.toNat, by omega⟩
        obtain ⟨x3, rfl⟩ : ∃ k : Nat, v3 = k := ⟨v3.toNat, by omega⟩
        rw [if_pos z, if_neg (show ¬ jw 1 = 0 by decide), rq_times n1 n6 hQ (by omega) (by omega) (by omega), jbs, if_pos ⟨y, z⟩]
        rfl
      · rw [if_neg z, if_pos (show jw 0 = 0 from rfl), if_neg (fun h => z h.2)]
    · rw [if_neg y, if_pos (show jw 0 = 0 from rfl), if_neg (fun h => y h.1)]
theorem rq_sets {v2 : Int} (h2 : iR v2) (n1 : 1 ≤ n) (n6 : n ≤ 6) (hM : MOK M) (hI : RI σ M) (hF : 5000 ≤ F) : ∃ σ', Model_sets F σ n v2 = some (if 0 ≤ v2 ∧ v2 ≤ 3 then kA M n (fun s => setA M s n v2) else -1, σ') ∧ jfr (RLP n) σ σ' ∧ RI σ' M := by
  obtain ⟨σ', a1, a2, a3, a4⟩ := rb_quot (F := F) n1 n6 hM hI hF
  have w2 : jw v2 = v2 := jw_id h2.1 h2.2
  refine ⟨σ', ?_, a2, a3⟩
  rw [Model_sets, a1, jbs]
  dsimp only
  rw [if_neg (show ¬ jw 1 = 0 by decide), w2, mo_isIn h2 ⟨by decide, by decide⟩ ⟨by decide, by decide⟩, jbs]
  dsimp only
  by_cases y : 0 ≤ v2 ∧ v2 ≤ 3
  · rw [if_pos y, if_pos y, if_neg (show ¬ jw 1 = 0 by decide)]
    unfold kA
    cases hb : qbd M n with
    | none => rw [rb_none hb a4 n6, jbs]; rfl
    | some s =>
      obtain ⟨hQ, b2, b3, b4⟩ := rb_some hb a4
      rw [rb_known hQ n6, jbs]
      dsimp only
      rw [if_neg (show ¬ jw 1 = 0 by decide), if_pos (by omega)]
      exact rk_sets n1 n6 hQ b2 y.1 y.2 (by omega)
  · rw [if_neg y, if_neg y, if_pos (show jw 0 = 0 from rfl)]
end RQQ
