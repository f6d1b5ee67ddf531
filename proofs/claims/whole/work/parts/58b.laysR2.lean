/-! The reference lays out a quotient: all of it. -/
def RLP (n a : Nat) (j : Int) : Prop := RQP n a j ∨ a = 39 ∨ a = 40 ∨ ((a = 30 ∨ a = 34 ∨ a = 35 ∨ a = 36) ∧ j = (n : Int))
/-- what the reference holds of a laid quotient -/
def RLd (σ : jxS) (M : Nat → List Nat) (n : Nat) : Prop := match qbd M n with
  | none => σ 31 n = -3
  | some s => RQ σ n s ∧ σ 34 n = (lsF M s : Int) ∧ σ 35 n = prsA s M n ∧ σ 36 n = prfA s M n
theorem rlq_end {F n L g : Nat} {σ : jxS} {M : Nat → List Nat} {s : qsT} (n1 : 1 ≤ n) (n6 : n ≤ 6) (hM : MOK M) (hV : MvM σ M) (hQ : RQ σ n s) (hL : s.1.length = L) (w34 : σ 34 n = (lsF M s : Int)) (hF : 5000 ≤ F) : ∃ σ', Model_laysQuotient_c43 F (g + 1) n L σ = some (0, σ') ∧ jfr (fun a j => PLP a j ∨ ((a = 35 ∨ a = 36) ∧ j = (n : Int))) σ σ' ∧ σ' 35 n = prsA s M n ∧ σ' 36 n = prfA s M n := by
  have l16 : L ≤ 16 := by rw [← hL]; exact hQ.2.1.1.2
  have c0 : 0 ≤ (n : Int) ∧ (n : Int) < 7 := by omega
  have w1 : σ 31 n = (L : Int) := by rw [← hL]; exact hQ.1.1
  have c1 : ¬ jw (L : Int) < jw (σ 31 n) := by rw [w1]; omega
  obtain ⟨σ1, a1, a2, a3⟩ := rk_pairs (F := F) n1 n6 hM hV hQ hF
  have f1 : jfr (fun a j => PLP a j ∨ ((a = 35 ∨ a = 36) ∧ j = (n : Int))) σ (jup σ1 35 n (prsA s M n)) := jfr_up (jfr_mono a2 (fun a j h => Or.inl h)) (Or.inr ⟨Or.inl rfl, rfl⟩)
  have hQ1 : RQ (jup σ1 35 n (prsA s M n)) n s := RQ_fr hQ f1 (fun j => by simp [PLP]) (fun j => by simp [PLP]) (fun j => by simp [PLP])
  have st := rk_steady (F := F) n1 n6 hQ1 (by omega)
  have u34 : (jup σ1 35 n (prsA s M n)) 34 n = (lsF M s : Int) := by rw [jup_o (by omega), a2 34 _ (by simp [PLP])]; exact w34
  have u35 : (jup σ1 35 n (prsA s M n)) 35 n = prsA s M n := jup_s _ _ _ _
  have lo := lsF_lt (M := M) hQ.2.1
  have hup : ∀ v : Int, jfr (fun a j => PLP a j ∨ ((a = 35 ∨ a = 36) ∧ j = (n : Int))) σ (jup (jup σ1 35 n (prsA s M n)) 36 n v) := fun v => jfr_up f1 (Or.inr ⟨Or.inr rfl, rfl⟩)
  have h35 : ∀ v : Int, (jup (jup σ1 35 n (prsA s M n)) 36 n v) 35 n = prsA s M n := fun v => by rw [jup_o (by omega)]; exact u35
  rw [Model_laysQuotient_c43, if_pos c0, if_neg c1, a1, jbs]
  dsimp only
  rw [if_pos c0, st, jbs]
  dsimp only
  unfold prfA
  cases hs : stb s n
  · refine ⟨_, ?_, hup 0, h35 0, ?_⟩
    · rw [if_pos (show jw (if false = true then 1 else 0) = 0 from rfl), if_pos c0]
    · rw [jup_s]; rfl
  · rw [if_neg (show ¬ jw (if true = true then 1 else 0) = 0 by decide), if_pos c0]
    simp only [if_true]
    cases hp : prs s M n with
    | none =>
      have pa : prsA s M n = -2 := by unfold prsA; rw [hp]
      refine ⟨_, ?_, hup 1, h35 1, ?_⟩
      · rw [if_neg (show ¬ 0 < jw ((jup σ1 35 n (prsA s M n)) 35 n) by rw [u35, pa]; decide), if_pos c0]
      · rw [jup_s, pa]; rfl
    | some l =>
      have pa : prsA s M n = (l.length : Int) := by unfold prsA; rw [hp]
      have pb : prsB s M n = l.all (fitP (lsF M s)) := by unfold prsB; rw [hp]
      obtain ⟨b1, b2⟩ := a3 l hp
      have l2 := b1.1
      by_cases z : 0 < l.length
      · have hPL : PL (jup σ1 35 n (prsA s M n)) l := ⟨b1.1, fun i x hx => by rw [jup_o (by omega), jup_o (by omega)]; exact b1.2 i x hx⟩
        have ri := rk_right (F := F) (n := n) n6 (show s.1.length ≤ 16 by omega) b2 hPL lo (by rw [u35, pa]) u34 hF
        have z2 : 0 < prsA s M n := by rw [pa]; omega
        rw [if_pos (show 0 < jw ((jup σ1 35 n (prsA s M n)) 35 n) by rw [u35, pa]; unfold jw; omega), ri, jbs, pb]
        dsimp only
        rw [if_pos z2]
        cases l.all (fitP (lsF M s))
        · refine ⟨_, ?_, hup 1, h35 1, ?_⟩
          · rw [if_pos (show jw (if false = true then 1 else 0) = 0 from rfl), if_pos c0]
          · rw [jup_s]; rfl
        · refine ⟨_, ?_, hup 2, h35 2, ?_⟩
          · rw [if_neg (show ¬ jw (if true = true then 1 else 0) = 0 by decide), if_pos c0]
          · rw [jup_s]; rfl
      · have z2 : ¬ 0 < prsA s M n := by rw [pa]; omega
        refine ⟨_, ?_, hup 1, h35 1, ?_⟩
        · rw [if_neg (show ¬ 0 < jw ((jup σ1 35 n (prsA s M n)) 35 n) by rw [u35, pa]; unfold jw; omega), if_pos c0]
        · rw [jup_s, if_neg z2]
theorem rk_lays {F n : Nat} {σ : jxS} {M : Nat → List Nat} (n1 : 1 ≤ n) (n6 : n ≤ 6) (hM : MOK M) (hW : WT σ) (hV : VT σ M 4224) (hm : MvM σ M) (h : σ 30 n = 0 ∨ (σ 30 n = 1 ∧ RLd σ M n)) (hF : 5000 ≤ F) : ∃ σ', Model_laysQuotient F σ n = some (0, σ') ∧ jfr (RLP n) σ σ' ∧ σ' 30 n = 1 ∧ RLd σ' M n := by
  have c0 : 0 ≤ (n : Int) ∧ (n : Int) < 7 := by omega
  rcases h with h | ⟨h, h'⟩
  · have f0 : jfr (RLP n) σ (jup σ 30 n 1) := jfr_up (jfr_refl _ _) (Or.inr (Or.inr (Or.inr ⟨Or.inl rfl, rfl⟩)))
    have p1 : ∀ a j, 9 ≤ a → a ≤ 18 → ¬ RLP n a j := fun a j q1 q2 => by simp only [RLP, RQP]; omega
    have o := rk_finds (F := F) n1 n6 (WT_fr hW f0 (fun j => p1 _ j (by omega) (by omega)) (fun j => p1 _ j (by omega) (by omega))) (VT_fr hV f0 (fun a j q1 q2 => p1 a j (by omega) q2)) (by omega)
    have st : Model_laysQuotient F σ n = (Model_findsElements F (jup σ 30 n 1) n).bind fun r19 => if jw r19.1 = 0 then (if 0 ≤ (n : Int) ∧ (n : Int) < 7 then some (0, jup r19.2 31 n (-3)) else none) else (if 0 ≤ (n : Int) ∧ (n : Int) < 7 then Model_laysQuotient_c43 F F n 0 (jup r19.2 34 n 0) else none) := by
      rw [Model_laysQuotient, if_pos c0, if_pos (show jw (σ 30 n) = 0 by rw [h]; rfl), if_pos c0]
    rw [st]
    unfold RLd
    cases hb : qbd M n with
    | none =>
      rw [hb] at o
      obtain ⟨σ1, a1, a2⟩ := o
      refine ⟨jup σ1 31 n (-3), ?_, jfr_up (jfr_trans f0 (jfr_mono a2 (fun a j h => Or.inl h))) (Or.inl (Or.inr (Or.inr (Or.inr (Or.inl ⟨rfl, rfl⟩))))), ?_, jup_s _ _ _ _⟩
      · rw [a1, jbs]
        dsimp only
        rw [if_pos (show jw 0 = 0 from rfl), if_pos c0]
      · rw [jup_o (by omega), a2 30 _ (by simp only [RQP]; omega), jup_s]
    | some s =>
      rw [hb] at o
      obtain ⟨σ1, a1, a2, a3, a4⟩ := o
      have l16 := (qbd_ok (show n ≤ 12 by omega) hb).1.2
      have f1 : jfr (RLP n) σ (jup σ1 34 n 0) := jfr_up (jfr_trans f0 (jfr_mono a2 (fun a j h => Or.inl h))) (Or.inr (Or.inr (Or.inr ⟨Or.inr (Or.inl rfl), rfl⟩)))
      have hQ0 : RQ σ1 n s := ⟨a3, qbd_qOK (by omega) hb, a4⟩
      have f01 : jfr (fun a _ => a = 34) σ1 (jup σ1 34 n 0) := jfr_up (jfr_refl _ _) rfl
      have hQ1 : RQ (jup σ1 34 n 0) n s := RQ_fr hQ0 f01 (fun j => by omega) (fun j => by omega) (fun j => by omega)
      obtain ⟨σ2, g, b1, b2, b3⟩ := rlq_loop (F := F) n1 n6 (WT_fr hW f1 (fun j => p1 _ j (by omega) (by omega)) (fun j => p1 _ j (by omega) (by omega))) (VT_fr hV f1 (fun a j q1 q2 => p1 a j (by omega) q2)) hQ1 rfl (by omega) s.1.length F 0 0 (jup σ1 34 n 0) (Nat.add_zero _) (by omega) (jfr_refl _ _) (jup_s _ _ _ _) (by decide)
      have f2 : jfr (RLP n) σ σ2 := jfr_trans f1 (jfr_mono b2 (fun a j h => by
        rcases h with h | h
        · exact Or.inl (Or.inr (Or.inr (Or.inl h)))
        · exact Or.inr (Or.inr (Or.inr ⟨Or.inr (Or.inl h.1), h.2⟩))))
      have hQ2 : RQ σ2 n s := RQ_fr hQ1 b2 (fun j => by simp [LOP]) (fun j => by simp [LOP]) (fun j => by simp [LOP])
      obtain ⟨σ3, d1, d2, d3, d4⟩ := rlq_end (F := F) (g := g) n1 n6 hM (MvM_fr hm f2 (fun j => p1 _ j (by omega) (by omega)) (fun j => p1 _ j (by omega) (by omega))) hQ2 rfl b3 hF
      have f3 : jfr (RLP n) σ σ3 := jfr_trans f2 (jfr_mono d2 (fun a j h => by
        rcases h with (h | h) | h
        · exact Or.inr (Or.inl h)
        · exact Or.inr (Or.inr (Or.inl h))
        · exact Or.inr (Or.inr (Or.inr ⟨Or.inr (Or.inr h.1), h.2⟩))))
      refine ⟨σ3, ?_, f3, ?_, RQ_fr hQ2 d2 (fun j => by simp [PLP]) (fun j => by simp [PLP]) (fun j => by simp [PLP]), ?_, d3, d4⟩
      · rw [a1, jbs]
        dsimp only
        rw [if_neg (show ¬ jw 1 = 0 by decide), if_pos c0]
        exact Eq.trans b1 d1
      · rw [d2 30 _ (by simp [PLP]), b2 30 _ (by simp [LOP]), jup_o (by omega), a2 30 _ (by simp only [RQP]; omega), jup_s]
      · rw [d2 34 _ (by simp [PLP])]; exact b3
  · refine ⟨σ, ?_, jfr_refl _ _, h, h'⟩
    rw [Model_laysQuotient, if_pos c0, if_neg (show ¬ jw (σ 30 n) = 0 by rw [h]; decide)]
