/-! The reference lays out a quotient. -/
theorem fel_lt2 {M : Nat → List Nat} {n : Nat} {w : Nat → Nat} : ∀ (l : List (Nat → Nat)) (i f : Nat), fel M n w i l = some f → f < i + l.length := by
  intro l
  induction l with
  | nil => intro i f h; cases h
  | cons u l ih =>
    intro i f h
    rw [fel] at h
    simp only [List.length_cons]
    split at h
    · injection h with h; omega
    · have := ih (i + 1) f h; omega
def BD (n : Nat) (s : qsT) (e h : Nat) : Prop := ∀ a b, (a < e ∨ (a = e ∧ b < h)) → 1 ≤ b → b ≤ n → s.2 a b < s.1.length
theorem qst_lt {M : Nat → List Nat} {n e h : Nat} {s s' : qsT} (hB : BD n s e h) (hq : qst M n s e h = some s') : BD n s' e (h + 1) := by
  unfold qst at hq
  split at hq
  · cases hq
  · split at hq
    · rename_i f hf
      injection hq with hq
      have fl := fel_lt2 _ _ _ hf
      subst hq
      intro a b hab b1 b2
      show (if a = e ∧ b = h then f else s.2 a b) < s.1.length
      by_cases y : a = e ∧ b = h
      · rw [if_pos y]; omega
      · rw [if_neg y]; exact hB a b (by omega) b1 b2
    · split at hq
      · cases hq
      · injection hq with hq
        subst hq
        intro a b hab b1 b2
        show (if a = e ∧ b = h then s.1.length else s.2 a b) < (s.1 ++ [cad (s.1.getD e (fun _ => 0)) h]).length
        rw [List.length_append, List.length_singleton]
        by_cases y : a = e ∧ b = h
        · rw [if_pos y]; omega
        · rw [if_neg y]; have := hB a b (by omega) b1 b2; omega
theorem qin_lt {M : Nat → List Nat} {n e : Nat} : ∀ (m h : Nat) (s s' : qsT), m + h = n + 1 → BD n s e h → qin M n s e m h = some s' → BD n s' (e + 1) 1 := by
  intro m
  induction m with
  | zero =>
    intro h s s' e1 hB hq
    simp only [qin, Option.some.injEq] at hq
    subst hq
    intro a b hab b1 b2
    exact hB a b (by omega) b1 b2
  | succ m ih =>
    intro h s s' e1 hB hq
    rw [qin] at hq
    cases hst : qst M n s e h with
    | none => rw [hst] at hq; cases hq
    | some s1 =>
      rw [hst] at hq
      exact ih (h + 1) s1 s' (by omega) (qst_lt hB hst) hq
theorem qout_lt {M : Nat → List Nat} {n : Nat} : ∀ (m e : Nat) (s s' : qsT), m + e = 17 → BD n s e 1 → qout M n s m e = some s' → s'.1.length ≤ 16 → ∀ a b, a < s'.1.length → 1 ≤ b → b ≤ n → s'.2 a b < s'.1.length := by
  intro m
  induction m with
  | zero =>
    intro e s s' e1 hB hq l a b ha b1 b2
    simp only [qout, Option.some.injEq] at hq
    subst hq
    exact hB a b (by omega) b1 b2
  | succ m ih =>
    intro e s s' e1 hB hq l
    rw [qout] at hq
    by_cases z : e < s.1.length
    · rw [if_pos z] at hq
      cases hi : qin M n s e n 1 with
      | none => rw [hi] at hq; cases hq
      | some s1 =>
        rw [hi] at hq
        exact ih (e + 1) s1 s' (by omega) (qin_lt n 1 s s1 (by omega) hB hi) hq l
    · rw [if_neg z] at hq
      injection hq with hq
      subst hq
      intro a b ha b1 b2
      exact hB a b (by omega) b1 b2
theorem qbd_qOK {M : Nat → List Nat} {n : Nat} {s : qsT} (n6 : n ≤ 12) (h : qbd M n = some s) : qOK s n := by
  obtain ⟨a, b⟩ := qbd_ok n6 h
  exact ⟨a, b, qout_lt 17 0 _ s (by omega) (fun a b hab b1 b2 => by omega) h a.2⟩
/-- the answer of proved -/
noncomputable def prfA (s : qsT) (M : Nat → List Nat) (n : Nat) : Int := if stb s n then (if 0 < prsA s M n then (if prsB s M n then 2 else 1) else 1) else 0
def LOP (n a : Nat) (j : Int) : Prop := a = 38 ∨ (a = 34 ∧ j = (n : Int))
theorem rlq_loop {F L n : Nat} {σ0 : jxS} {M : Nat → List Nat} {s : qsT} (n1 : 1 ≤ n) (n6 : n ≤ 6) (hW : WT σ0) (hV : VT σ0 M 4224) (hQ : RQ σ0 n s) (hL : s.1.length = L) (hF : 100 ≤ F) : ∀ (m fu e acc : Nat) (σ : jxS), m + e = L → m < fu → jfr (LOP n) σ0 σ → σ 34 n = (acc : Int) → acc < 2 ^ 16 → ∃ σ' g, Model_laysQuotient_c43 F fu n e σ = Model_laysQuotient_c43 F (g + 1) n L σ' ∧ jfr (LOP n) σ0 σ' ∧ σ' 34 n = (lsN M s m e acc : Int) := by
  have l16 : L ≤ 16 := by rw [← hL]; exact hQ.2.1.1.2
  have c0 : 0 ≤ (n : Int) ∧ (n : Int) < 7 := by omega
  intro m
  induction m with
  | zero =>
    intro fu e acc σ e1 e2 f wa ha
    obtain ⟨fu, rfl⟩ : ∃ k, fu = k + 1 := ⟨fu - 1, by omega⟩
    have el : e = L := by omega
    subst el
    exact ⟨σ, fu, rfl, f, wa⟩
  | succ m ih =>
    intro fu e acc σ e1 e2 f wa ha
    obtain ⟨fu, rfl⟩ : ∃ k, fu = k + 1 := ⟨fu - 1, by omega⟩
    have hQ' : RQ σ n s := RQ_fr hQ f (fun j => by simp [LOP]) (fun j => by simp [LOP]) (fun j => by simp [LOP])
    have w1 : σ 31 n = (L : Int) := by rw [← hL]; exact hQ'.1.1
    have el : e < s.1.length := by omega
    have ge := getD_at el
    obtain ⟨u1, u2⟩ := hQ'.1.2.2.2 e _ ge
    obtain ⟨⟨o1, o2⟩, _⟩ := hQ.2.1.2.1 _ (List.mem_of_getElem? ge)
    obtain ⟨σ1, t1, t2, t3⟩ := rk_takes (F := F) n1 n6 (show e < 16 by omega) u1 u2 hF
    have f1 : jfr (LOP n) σ0 σ1 := jfr_trans f (jfr_mono t2 (fun a j h => Or.inl h))
    have hW1 := WT_fr hW f1 (fun j => by simp [LOP]) (fun j => by simp [LOP])
    have nu := mo_num (F := F) hW1 t3 (by omega) hF
    have rt := rank_top (c := s.1.getD e (fun _ => 0)) (by omega)
    have vt := (VT_fr hV f1 (fun a j q1 q2 => by simp only [LOP]; omega) _ rt).1
    have wa1 : σ1 34 n = (acc : Int) := by rw [t2 34 _ (by omega)]; exact wa
    have c1 : jw (e : Int) < jw (σ 31 n) := by rw [w1]; unfold jw; omega
    have e1' : m + (e + 1) = L := by omega
    have e2' : m < fu := by omega
    have e16 : e < 16 := by omega
    obtain ⟨q1, q2⟩ := orN ha e16
    have q3 := orZ ha
    have c2 : 0 ≤ (rank (s.1.getD e (fun _ => 0)) : Int) ∧ (rank (s.1.getD e (fun _ => 0)) : Int) < 4600 := by omega
    simp only [lsN]
    rw [Model_laysQuotient_c43, if_pos c0, if_pos c1, t1, jbs]
    dsimp only
    rw [if_pos c0, nu, jbs]
    dsimp only
    rw [if_pos c2]
    cases hb : los M (rank (s.1.getD e (fun _ => 0)))
    · rw [hb] at vt
      simp only [Bool.false_eq_true, if_false] at vt ⊢
      rw [if_pos (show jw (σ1 15 (rank (s.1.getD e (fun _ => 0)) : Int)) = 0 by rw [vt]; rfl), if_pos c0, wa1, q3]
      obtain ⟨σ', g, i1, i2, i3⟩ := ih fu (e + 1) acc (jup σ1 34 n acc) e1' e2' (jfr_up f1 (Or.inr ⟨rfl, rfl⟩)) (jup_s _ _ _ _) ha
      rw [Int.natCast_add, Int.natCast_one] at i1
      exact ⟨σ', g, i1, i2, i3⟩
    · rw [hb] at vt
      simp only [if_true] at vt ⊢
      rw [if_neg (show ¬ jw (σ1 15 (rank (s.1.getD e (fun _ => 0)) : Int)) = 0 by rw [vt]; decide), if_pos c0, wa1, q1]
      obtain ⟨σ', g, i1, i2, i3⟩ := ih fu (e + 1) _ (jup σ1 34 n ((acc ||| 2 ^ e : Nat) : Int)) e1' e2' (jfr_up f1 (Or.inr ⟨rfl, rfl⟩)) (jup_s _ _ _ _) q2
      rw [Int.natCast_add, Int.natCast_one] at i1
      exact ⟨σ', g, i1, i2, i3⟩
