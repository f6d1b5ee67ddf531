/-! The reference's questions about heaps: moves, options, nimbers. -/
section RH
variable {F : Nat} {σ : jxS} {M : Nat → List Nat}
theorem rb_heap {v : Int} (hv : iR v) (h13 : ¬ jw (σ 0 13) = 0) : Model_isHeap F σ v = some (if 1 ≤ v ∧ v ≤ 12 then 1 else 0, σ) := by
  have wv : jw v = v := jw_id hv.1 hv.2
  rw [Model_isHeap, if_neg h13, wv, mo_isIn hv ⟨by decide, by decide⟩ ⟨by decide, by decide⟩, jbs]
  dsimp only
  by_cases y : 1 ≤ v ∧ v ≤ 12
  · rw [if_pos y, if_neg (show ¬ jw 1 = 0 by decide)]
  · rw [if_neg y, if_pos (show jw 0 = 0 from rfl)]
theorem rq_moves {v : Int} (hv : iR v) (h13 : ¬ jw (σ 0 13) = 0) (hm : MvM σ M) : Model_moves F σ v = some (if 1 ≤ v ∧ v ≤ 12 then ((M v.toNat).length : Int) else -1, σ) := by
  rw [Model_moves, rb_heap hv h13, jbs]
  dsimp only
  by_cases y : 1 ≤ v ∧ v ≤ 12
  · obtain ⟨h, rfl⟩ : ∃ k : Nat, v = k := ⟨v.toNat, by omega⟩
    rw [if_pos y, if_neg (show ¬ jw 1 = 0 by decide), if_pos (by omega), (hm h (by omega) (by omega)).1, if_pos y]
    rfl
  · rw [if_neg y, if_pos (show jw 0 = 0 from rfl), if_neg y]
theorem rq_nimber {v : Int} (hv : iR v) (h13 : ¬ jw (σ 0 13) = 0) (hN : ∀ g : Nat, g < 13 → σ 11 g = (nim M g : Int)) : Model_nimber F σ v = some (if 1 ≤ v ∧ v ≤ 12 then (nim M v.toNat : Int) else -1, σ) := by
  rw [Model_nimber, rb_heap hv h13, jbs]
  dsimp only
  by_cases y : 1 ≤ v ∧ v ≤ 12
  · obtain ⟨h, rfl⟩ : ∃ k : Nat, v = k := ⟨v.toNat, by omega⟩
    rw [if_pos y, if_neg (show ¬ jw 1 = 0 by decide), if_pos (by omega), hN h (by omega), if_pos y]
    rfl
  · rw [if_neg y, if_pos (show jw 0 = 0 from rfl), if_neg y]
end RH
