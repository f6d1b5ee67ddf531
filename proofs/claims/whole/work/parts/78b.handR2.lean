/-! acts -/
section HR
variable {F : Nat} {σ : jxS} {M : Nat → List Nat} {c : Nat → Nat} {us : List (Nat → Nat)}
def HRP (a : Nat) (j : Int) : Prop := a = 24 ∨ a = 25 ∨ (a = 0 ∧ j = 37)
def actR (σ : jxS) (o : Option jxR) (s : haT) : Prop := ∃ σ', o = some (s.1, σ') ∧ jfr HRP σ σ' ∧ HaR σ' s.2.1 s.2.2
theorem ract_no {x : Int} (hH : HaR σ c us) : actR σ (some (x, σ)) (x, c, us) := ⟨σ, rfl, jfr_refl _ _, hH⟩
theorem KP_HRP {a : Nat} {j : Int} (h : KP a j) : HRP a j := by
  simp only [KP] at h
  simp only [HRP]
  omega
theorem HaR_24 {σ' : jxS} {c' : Nat → Nat} (h : HaR σ c us) (f : jfr (fun a _ => a = 24) σ σ') (h' : Hd σ' 24 c') : HaR σ' c' us := by
  obtain ⟨_, h2, h3, h4⟩ := h
  exact ⟨h', h2, by rw [f 0 37 (by omega)]; exact h3, fun i u g hu g1 g2 => by rw [f 25 _ (by omega)]; exact h4 i u g hu g1 g2⟩
theorem HaR_fr {σ' : jxS} {P : Nat → Int → Prop} (h : HaR σ c us) (f : jfr P σ σ') (hp : ∀ a j, P a j → a ≠ 24 ∧ a ≠ 25 ∧ ¬ (a = 0 ∧ j = 37)) : HaR σ' c us := by
  obtain ⟨h1, h2, h3, h4⟩ := h
  refine ⟨fun g g1 g2 => ?_, h2, ?_, fun i u g hu g1 g2 => ?_⟩
  · rw [f 24 _ (fun q => (hp _ _ q).1 rfl)]; exact h1 g g1 g2
  · rw [f 0 37 (fun q => (hp _ _ q).2.2 ⟨rfl, rfl⟩)]; exact h3
  · rw [f 25 _ (fun q => (hp _ _ q).2.1 rfl)]; exact h4 i u g hu g1 g2
theorem rq_put {v : Int} (hv : iR v) (h13 : ¬ jw (σ 0 13) = 0) (hH : HaR σ c us) (hb : beans c ≤ 22) (hF : 1000 ≤ F) : actR σ (Model_put F σ v) (putS c us v) := by
  rw [Model_put, rb_heap hv h13, jbs, putS]
  dsimp only
  by_cases y : 1 ≤ v ∧ v ≤ 12
  · obtain ⟨g, rfl⟩ : ∃ k : Nat, v = k := ⟨v.toNat, by omega⟩
    have wj : jw ((beans c : Int) + g) = (beans c : Int) + g := jw_id (by omega) (by omega)
    rw [if_pos y, if_neg (show ¬ jw 1 = 0 by decide), mo_beans hH.1 (by omega), jbs]
    dsimp only
    rw [wj]
    by_cases z : (beans c : Int) + g ≤ 22
    · obtain ⟨σ1, a1, a2, a3⟩ := ra_keeps (F := F) hH hF
      have wc := a3.1 g (by omega) (by omega)
      have bc := beans_cad c (h := g) (by omega) (by omega)
      have f2 : jfr (fun a _ => a = 24) σ1 (jup σ1 24 g ((c g : Int) + 1)) := jfr_up (jfr_refl _ _) rfl
      have hd : Hd (jup σ1 24 g ((c g : Int) + 1)) 24 (cad c g) := fun x x1 x2 => by
        by_cases e : x = g
        · rw [e, jup_s]
          show (c g : Int) + 1 = ((cad c g g : Nat) : Int)
          simp only [cad, if_pos]
          omega
        · rw [jup_k (by omega)]
          rw [show cad c g x = c x by simp only [cad]; rw [if_neg e]]
          exact a3.1 x x1 x2
      have bo := mo_beans (F := F) hd (by omega)
      rw [if_neg (show ¬ 22 < (beans c : Int) + g by omega), a1, jbs, if_pos (show 0 ≤ (g : Int) ∧ (g : Int) < 13 by omega), if_pos (show 0 ≤ (g : Int) ∧ (g : Int) < 13 by omega), if_pos (show (1 ≤ (g : Int) ∧ (g : Int) ≤ 12) ∧ (beans c : Int) + g ≤ 22 from ⟨y, z⟩)]
      dsimp only
      rw [wc, bo, jbs, bc, Int.toNat_natCast]
      exact ⟨_, by rw [Int.natCast_add], jfr_trans (jfr_mono a2 (fun a j => KP_HRP)) (jfr_mono f2 (fun a j h => Or.inl h)), HaR_24 a3 f2 hd⟩
    · rw [if_pos (show 22 < (beans c : Int) + g by omega), if_neg (fun q => z q.2)]
      exact ract_no hH
  · rw [if_neg y, if_pos (show jw 0 = 0 from rfl), if_neg (fun q => y q.1)]
    exact ract_no hH
end HR
