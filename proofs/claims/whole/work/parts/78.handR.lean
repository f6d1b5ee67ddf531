/-! The reference: option, put, move, reply, clear, undo, hand. -/
section HR
variable {F : Nat} {σ : jxS} {M : Nat → List Nat} {c : Nat → Nat} {us : List (Nat → Nat)}
theorem rq_option {v1 v2 v3 : Int} (h1 : iR v1) (h2 : iR v2) (h3 : iR v3) (h13 : ¬ jw (σ 0 13) = 0) (hm : MvM σ M) (hM : MOK M) : Model_option F σ v1 v2 v3 = some (optA M v1 v2 v3, σ) := by
  have w2 : jw v2 = v2 := jw_id h2.1 h2.2
  have w3 : jw v3 = v3 := jw_id h3.1 h3.2
  rw [Model_option, rb_heap h1 h13, jbs, w3, w2, optA]
  dsimp only
  by_cases y : 1 ≤ v1 ∧ v1 ≤ 12
  · obtain ⟨h, rfl⟩ : ∃ k : Nat, v1 = k := ⟨v1.toNat, by omega⟩
    obtain ⟨wl, wm⟩ := hm h (by omega) (by omega)
    have ml := MOK_len hM (h := h) (by omega) (by omega)
    have wl' : jw (σ 10 (h : Int) - 1) = ((M h).length : Int) - 1 := by rw [wl, jw_id (by omega) (by omega)]
    rw [if_pos y, if_neg (show ¬ jw 1 = 0 by decide), if_pos (show 0 ≤ (h : Int) ∧ (h : Int) < 13 by omega), wl', mo_isIn h2 ⟨by omega, by omega⟩ ⟨by omega, by omega⟩, jbs, Int.toNat_natCast]
    dsimp only
    by_cases q : 0 ≤ v2 ∧ v2 < ((M h).length : Int)
    · rw [if_pos (show 0 ≤ v2 ∧ v2 ≤ ((M h).length : Int) - 1 by omega), if_neg (show ¬ jw 1 = 0 by decide), mo_isIn h3 ⟨by omega, by omega⟩ ⟨by omega, by omega⟩, jbs]
      dsimp only
      by_cases z : 0 ≤ v3 ∧ v3 ≤ 1
      · obtain ⟨k, rfl⟩ : ∃ k : Nat, v2 = k := ⟨v2.toNat, by omega⟩
        have kl : k < (M h).length := by omega
        have ge : (M h)[k]? = some ((M h).getD k 0) := by
          rw [List.getD_eq_getElem?_getD, List.getElem?_eq_getElem kl]; rfl
        have wk := wm k _ ge
        have mo := (hM h (by omega) (by omega)).2 _ (List.mem_of_getElem? ge)
        have ri : 0 ≤ ((64 * (h : Int)) + (k : Int)) ∧ ((64 * (h : Int)) + (k : Int)) < 832 := by omega
        rw [if_pos z, if_neg (show ¬ jw 1 = 0 by decide), if_pos (show (1 ≤ (h : Int) ∧ (h : Int) ≤ 12) ∧ (0 ≤ v3 ∧ v3 ≤ 1) ∧ (0 ≤ (k : Int) ∧ (k : Int) < ((M h).length : Int)) from ⟨y, z, q⟩), Int.toNat_natCast, if_pos ri, wk]
        generalize (M h).getD k 0 = m at mo ge wk
        have m0 : (0 : Int) ≤ (m : Int) ∧ (m : Int) ≤ 2147483647 := by omega
        rw [(jd13 m0.1 m0.2).1, (jd13 m0.1 m0.2).2]
        by_cases e : v3 = 0
        · rw [if_pos e, if_pos e]; rfl
        · rw [if_neg e, if_neg e, if_pos ri]; rfl
      · rw [if_neg z, if_pos (show jw 0 = 0 from rfl), if_neg (fun r => z r.2.1)]
    · rw [if_neg (show ¬ (0 ≤ v2 ∧ v2 ≤ ((M h).length : Int) - 1) by omega), if_pos (show jw 0 = 0 from rfl), if_neg (fun r => q r.2.2)]
  · rw [if_neg y, if_pos (show jw 0 = 0 from rfl), if_neg (fun q => y q.1)]
end HR
