/-! is a move -/
section HR
variable {F : Nat} {σ : jxS} {M : Nat → List Nat} {c : Nat → Nat} {us : List (Nat → Nat)}
theorem rim_loop {g n : Nat} {v2 v3 : Int} (hm : MvM σ M) (hM : MOK M) (g1 : 1 ≤ g) (g2 : g ≤ 12) (hn : jw ((13 * v2) + v3) = (n : Int)) : ∀ (r : List Nat) (fu k : Nat), (M g).drop k = r → r.length + k = (M g).length → r.length < fu → (n ∈ r → Model_isMove_c38 F fu g v2 v3 k σ = some (1, σ)) ∧ (¬ n ∈ r → Model_isMove_c38 F fu g v2 v3 k σ = some (0, σ)) := by
  intro r
  obtain ⟨wl, wm⟩ := hm g g1 g2
  have ml := MOK_len hM (h := g) g1 g2
  have g13 : 0 ≤ (g : Int) ∧ (g : Int) < 13 := by omega
  induction r with
  | nil =>
    intro fu k e1 e2 e3
    obtain ⟨fu, rfl⟩ : ∃ k, fu = k + 1 := ⟨fu - 1, by omega⟩
    simp only [List.length_nil] at e2
    refine ⟨fun q => absurd q (List.not_mem_nil), fun _ => ?_⟩
    rw [Model_isMove_c38, if_pos g13, wl, if_neg (show ¬ jw (k : Int) < jw ((M g).length : Int) by rw [jw_id (by omega) (by omega), jw_id (by omega) (by omega)]; omega)]
  | cons m r ih =>
    intro fu k e1 e2 e3
    obtain ⟨fu, rfl⟩ : ∃ k, fu = k + 1 := ⟨fu - 1, by omega⟩
    simp only [List.length_cons] at e2 e3
    obtain ⟨hk, hr⟩ := drop_o e1
    have wk := wm k m hk
    have mo := (hM g g1 g2).2 m (List.mem_of_getElem? hk)
    have m0 : jw (m : Int) = (m : Int) := jw_id (by omega) (by omega)
    have st : Model_isMove_c38 F (fu + 1) g v2 v3 k σ = if (m : Int) = (n : Int) then some (1, σ) else Model_isMove_c38 F fu g v2 v3 ((k : Int) + 1) σ := by
      rw [Model_isMove_c38, if_pos g13, wl, if_pos (show jw (k : Int) < jw ((M g).length : Int) by rw [jw_id (by omega) (by omega), jw_id (by omega) (by omega)]; omega), if_pos (show 0 ≤ ((64 * (g : Int)) + (k : Int)) ∧ ((64 * (g : Int)) + (k : Int)) < 832 by omega), wk, m0, hn]
    have nx := ih fu (k + 1) hr (by omega) (by omega)
    have nx1 : n ∈ r → Model_isMove_c38 F fu g v2 v3 ((k : Int) + 1) σ = some (1, σ) := nx.1
    have nx2 : ¬ n ∈ r → Model_isMove_c38 F fu g v2 v3 ((k : Int) + 1) σ = some (0, σ) := nx.2
    rw [st]
    by_cases e : m = n
    · rw [if_pos (by rw [e])]
      exact ⟨fun _ => rfl, fun q => absurd (by rw [e]; exact List.mem_cons_self ..) q⟩
    · rw [if_neg (fun z => e (Int.ofNat_inj.mp z))]
      refine ⟨fun q => nx1 ?_, fun q => nx2 (fun z => q (List.mem_cons_of_mem _ z))⟩
      rcases List.mem_cons.mp q with z | z
      · exact absurd z.symm e
      · exact z
theorem rb_isMove {v1 v2 v3 : Int} (h1 : iR v1) (h2 : iR v2) (h3 : iR v3) (h13 : ¬ jw (σ 0 13) = 0) (hm : MvM σ M) (hM : MOK M) (hF : 100 ≤ F) : Model_isMove F σ v1 v2 v3 = some (if ((1 ≤ v1 ∧ v1 ≤ 12) ∧ (0 ≤ v2 ∧ v2 ≤ v3 ∧ v3 ≤ 12) ∧ v2 + v3 < v1) ∧ 13 * v2.toNat + v3.toNat ∈ M v1.toNat then 1 else 0, σ) := by
  have w2 : jw v2 = v2 := jw_id h2.1 h2.2
  have w3 : jw v3 = v3 := jw_id h3.1 h3.2
  rw [Model_isMove, rb_heap h1 h13, jbs, w2, w3]
  dsimp only
  by_cases y : 1 ≤ v1 ∧ v1 ≤ 12
  · rw [if_pos y, if_neg (show ¬ jw 1 = 0 by decide), mo_isIn h2 ⟨by omega, by omega⟩ ⟨by omega, by omega⟩, jbs]
    dsimp only
    by_cases z : 0 ≤ v2 ∧ v2 ≤ 12
    · rw [if_pos z, if_neg (show ¬ jw 1 = 0 by decide), mo_isIn h3 h2 ⟨by omega, by omega⟩, jbs]
      dsimp only
      by_cases q : v2 ≤ v3 ∧ v3 ≤ 12
      · rw [if_pos q, if_neg (show ¬ jw 1 = 0 by decide)]
        obtain ⟨g, rfl⟩ : ∃ k : Nat, v1 = k := ⟨v1.toNat, by omega⟩
        obtain ⟨a, rfl⟩ : ∃ k : Nat, v2 = k := ⟨v2.toNat, by omega⟩
        obtain ⟨b, rfl⟩ : ∃ k : Nat, v3 = k := ⟨v3.toNat, by omega⟩
        have ml := MOK_len hM (h := g) (by omega) (by omega)
        have lo := rim_loop (F := F) (v2 := a) (v3 := b) (n := 13 * a + b) hm hM (g := g) (by omega) (by omega) (by rw [jw_id (by omega) (by omega)]; omega) (M g) F 0 rfl (Nat.add_zero _) (by omega)
        rw [Int.toNat_natCast, Int.toNat_natCast, Int.toNat_natCast]
        by_cases e : 13 * a + b ∈ M g
        · have mo := (hM g (by omega) (by omega)).2 _ e
          have lo1 : Model_isMove_c38 F F g a b 0 σ = some (1, σ) := lo.1 e
          rw [lo1, if_pos ⟨⟨y, ⟨by omega, by omega, by omega⟩, by omega⟩, e⟩]
        · have lo1 : Model_isMove_c38 F F g a b 0 σ = some (0, σ) := lo.2 e
          rw [lo1, if_neg (fun r => e r.2)]
      · rw [if_neg q, if_pos (show jw 0 = 0 from rfl), if_neg (fun r => q ⟨r.1.2.1.2.1, r.1.2.1.2.2⟩)]
    · rw [if_neg z, if_pos (show jw 0 = 0 from rfl), if_neg (fun r => z ⟨r.1.2.1.1, by have := r.1.2.1; omega⟩)]
  · rw [if_neg y, if_pos (show jw 0 = 0 from rfl), if_neg (fun r => y r.1.1)]
end HR
