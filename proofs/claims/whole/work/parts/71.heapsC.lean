/-! The class's questions about heaps: moves, nimbers. -/
section LH
variable {F : Nat} {σ : jxS} {M : Nat → List Nat}
theorem lb_heap {v : Int} (hv : iR v) : LL_isHeap F σ v = some (if 1 ≤ v ∧ v ≤ 12 then 1 else 0, σ) := by
  have wv : jw v = v := jw_id hv.1 hv.2
  rw [LL_isHeap]
  by_cases y : v < 1
  · rw [if_pos (show jw v < 1 by rw [wv]; exact y), if_neg (show ¬ (1 ≤ v ∧ v ≤ 12) by omega)]
  · by_cases z : 12 < v
    · rw [if_neg (show ¬ jw v < 1 by rw [wv]; exact y), if_pos (show 12 < jw v by rw [wv]; exact z), if_neg (show ¬ (1 ≤ v ∧ v ≤ 12) by omega)]
    · rw [if_neg (show ¬ jw v < 1 by rw [wv]; exact y), if_neg (show ¬ 12 < jw v by rw [wv]; exact z), if_pos (show 1 ≤ v ∧ v ≤ 12 by omega)]
theorem lq_nimber {v : Int} (hv : iR v) (hN : RulN σ M) : LL1_nimber F σ v = some (if 1 ≤ v ∧ v ≤ 12 then (nim M v.toNat : Int) else -1, σ) := by
  rw [LL1_nimber, lb_heap hv, jbs]
  dsimp only
  by_cases y : 1 ≤ v ∧ v ≤ 12
  · obtain ⟨h, rfl⟩ : ∃ k : Nat, v = k := ⟨v.toNat, by omega⟩
    rw [if_pos y, if_neg (show ¬ jw 1 = 0 by decide), ca_nimh hN (by omega) (by omega), jbs, if_pos y]
    rfl
  · rw [if_neg y, if_pos (show jw 0 = 0 from rfl), if_neg y]
theorem lq_moves {v : Int} (hv : iR v) (hR : RulC σ M) (hM : MOK M) : LL1_moves F σ v = some (if 1 ≤ v ∧ v ≤ 12 then ((M v.toNat).length : Int) else -1, σ) := by
  rw [LL1_moves, lb_heap hv, jbs]
  dsimp only
  by_cases y : 1 ≤ v ∧ v ≤ 12
  · obtain ⟨h, rfl⟩ : ∃ k : Nat, v = k := ⟨v.toNat, by omega⟩
    have c := ca_count (F := F) hR hM (h := h) (by omega) (by omega)
    rw [if_pos y, if_neg (show ¬ jw 1 = 0 by decide), c, jbs, if_pos y]
    rfl
  · rw [if_neg y, if_pos (show jw 0 = 0 from rfl), if_neg y]
end LH
