/-! The reference's reader: the text. -/
section QA
variable {F : Nat} {σ : jxS} {l : List Nat}
theorem skn_no : ∀ f k, l.length ≤ k + f → bt l (skn l f k) ≠ 32 := by
  intro f
  induction f with
  | zero => intro k h; rw [skn, bt_out (by omega)]; decide
  | succ f ih =>
    intro k h
    rw [skn]
    by_cases q : bt l k = 32
    · rw [if_pos q]; exact ih (k + 1) (by omega)
    · rw [if_neg q]; exact q
theorem skp_id (k : Nat) : skp l (skp l k) = skp l k := by
  have n := skn_no (l := l) l.length k (by omega)
  have n' : bt l (skp l k) ≠ 32 := n
  generalize skp l k = p at n'
  unfold skp
  cases e : l.length with
  | zero => rfl
  | succ m => rw [skn, if_neg n']
def RAP (a : Nat) (j : Int) : Prop := LRP a j ∨ (a = 0 ∧ j = 17)
def txtR (σ : jxS) (x : Int) (r : Nat ⊕ List lnT) : Prop := match r with
  | .inl e => x = 0 ∧ σ 0 3 = (e : Int)
  | .inr ls => x = 1 ∧ LsR σ ls ∧ σ 0 17 = (ls.length : Int)
theorem LsR_fr {σ' : jxS} {P : Nat → Int → Prop} {ls : List lnT} (h : LsR σ ls) (f : jfr P σ σ') (h6 : ¬ P 0 6) (h7 : ¬ P 0 7) (hp : ∀ a j, 3 ≤ a → a ≤ 5 → ¬ P a j) : LsR σ' ls := by
  obtain ⟨a, b, c, d⟩ := h
  refine ⟨by rw [f 0 7 h7]; exact a, fun j j0 j1 => by rw [f 4 _ (hp _ _ (by omega) (by omega))]; exact b j j0 j1, fun j j0 j1 => by rw [f 5 _ (hp _ _ (by omega) (by omega))]; exact c j j0 j1, fun x hx => ?_⟩
  obtain ⟨u, v⟩ := d x hx
  exact ⟨by rw [f 0 6 h6]; exact u, fun i y hy => by rw [f 3 _ (hp _ _ (by omega) (by omega))]; exact v i y hy⟩
theorem rr_text_c : ∀ (f fu n k : Nat) (ls : List lnT) (σ : jxS), RdR σ l k → k ≤ l.length → σ 0 17 = (n : Int) → ls.length = n → n + f = 16 → LsR σ ls → (n = 0 → σ 0 6 = 0) → f < fu → 1000 ≤ F → ∃ x σ', Model_readsAll_c63 F fu σ = some (x, σ') ∧ jfr RAP σ σ' ∧ txtR σ' x (txtS l (f + 1) n k ls) := by
  intro f
  induction f with
  | zero =>
    intro fu n k ls σ h hk w ln hn hls h6 hfu hF
    obtain ⟨fu, rfl⟩ : ∃ k, fu = k + 1 := ⟨fu - 1, by omega⟩
    obtain ⟨x, σ1, a1, a2, a3⟩ := rr_line (F := F) (n := n) h hk (by omega) ln hls h6 hF
    have lb := linS_b (RdR_len h).2.2 (RdR_len h).2.1 (n := n) hk
    rw [Model_readsAll_c63, w, a1, jbs, txtS]
    dsimp only
    cases e : linS l n k with
    | inl c =>
      rw [e] at a3
      obtain ⟨q1, q2⟩ := a3
      subst q1
      rw [if_pos (show jw 0 = 0 from rfl)]
      exact ⟨0, σ1, rfl, jfr_mono a2 (fun a j q => Or.inl q), rfl, q2⟩
    | inr r =>
      obtain ⟨y, k1⟩ := r
      rw [e] at lb
      exact absurd (show n = 16 by omega) lb.2.2.1
  | succ f ih =>
    intro fu n k ls σ h hk w ln hn hls h6 hfu hF
    obtain ⟨fu, rfl⟩ : ∃ k, fu = k + 1 := ⟨fu - 1, by omega⟩
    obtain ⟨x, σ1, a1, a2, a3⟩ := rr_line (F := F) (n := n) h hk (by omega) ln hls h6 hF
    have lb := linS_b (RdR_len h).2.2 (RdR_len h).2.1 (n := n) hk
    have l2 := (RdR_len h).2.1
    rw [Model_readsAll_c63, w, a1, jbs, txtS]
    dsimp only
    cases e : linS l n k with
    | inl c =>
      rw [e] at a3
      obtain ⟨q1, q2⟩ := a3
      subst q1
      rw [if_pos (show jw 0 = 0 from rfl)]
      exact ⟨0, σ1, rfl, jfr_mono a2 (fun a j q => Or.inl q), rfl, q2⟩
    | inr r =>
      obtain ⟨y, k1⟩ := r
      rw [e] at a3 lb
      obtain ⟨q1, q2, q3⟩ := a3
      subst q1
      have k1l : k1 ≤ l.length := lb.1
      have w1 : σ1 0 17 = (n : Int) := by rw [a2 0 17 (by simp [LRP])]; exact w
      have f17 : jfr (fun a j => a = 0 ∧ j = 17) σ1 (jup σ1 0 17 ((n : Int) + 1)) := jfr_up (jfr_refl _ _) ⟨rfl, rfl⟩
      have r17 : RdR (jup σ1 0 17 ((n : Int) + 1)) l k1 := RdR_fr q2 f17 (by omega) (fun j => by omega) (fun j => by omega) (by omega)
      have ls17 := LsR_fr q3 f17 (by omega) (by omega) (fun a j _ _ => by omega)
      obtain ⟨σ2, b1, b2, b3, b4⟩ := rr_sign (F := F) (s := 59) r17 k1l (by omega) hF
      have b1' : Model_takesSign F (jup σ1 0 17 ((n : Int) + 1)) 59 = _ := b1
      have s := skp_b (l := l) k1l
      have g2 : jfr RAP σ σ2 := jfr_trans (jfr_mono a2 (fun a j q => Or.inl q)) (jfr_trans (jfr_mono f17 (fun a j q => Or.inr q)) (jfr_mono b2 (fun a j q => Or.inl (At2_LRP q))))
      have ls2 : LsR σ2 (ls ++ [y]) := LsR_fr ls17 b2 (by simp [At2]) (by simp [At2]) (fun a j _ _ => by simp only [At2]; omega)
      have w2 : σ2 0 17 = (n : Int) + 1 := by rw [b2 0 17 (by simp [At2]), jup_s]
      have ll2 : (ls ++ [y]).length = n + 1 := by rw [List.length_append, List.length_singleton, ln]
      rw [if_neg (show ¬ jw 1 = 0 by decide), w1, b1', jbs]
      dsimp only
      have si := skp_id (l := l) k1
      generalize skp l k1 = p at b3 b4 s si
      have bp := bt_iR (j := p) (RdR_len h).2.2
      by_cases y2 : bt l p = ((59 : Nat) : Int)
      · have y2' : bt l p = 59 := y2
        have y1 : ¬ bt l p = -1 := by rw [y2']; decide
        have pl := bt_in (l := l) (k := p) y1
        rw [if_pos y2, if_neg (show ¬ jw 1 = 0 by decide), if_neg y1, if_pos y2']
        obtain ⟨z, σ3, d1, d2, d3⟩ := ih fu (n + 1) (p + 1) (ls ++ [y]) σ2 (b3 y2) (by omega) (by rw [w2]; omega) ll2 (by omega) ls2 (fun q => by omega) (by omega) hF
        exact ⟨z, σ3, d1, jfr_trans g2 d2, d3⟩
      · have r2 := b4 y2
        obtain ⟨σ3, d1, d2, d3⟩ := rr_next (F := F) r2 s.2 hF
        rw [si] at d1 d3
        rw [if_neg y2, if_pos (show jw 0 = 0 from rfl), d1, jbs]
        dsimp only
        have g3 : jfr RAP σ σ3 := jfr_trans g2 (jfr_mono d2 (fun a j q => Or.inl (At2_LRP q)))
        by_cases y1 : bt l p = -1
        · rw [if_pos (show jw (bt l p) = -1 by rw [y1]; rfl), if_pos y1]
          exact ⟨1, σ3, rfl, g3, rfl, LsR_fr ls2 d2 (by simp [At2]) (by simp [At2]) (fun a j _ _ => by simp only [At2]; omega), by rw [d2 0 17 (by simp [At2]), w2, ll2]; omega⟩
        · have y2' : ¬ bt l p = 59 := y2
          have fl : Model_fails F σ3 1 (σ3 0 2) = some (0, jup σ3 0 3 ((8 * p + 1 : Nat) : Int)) := by
            rw [d3.2.2]
            exact rr_fails (m := 1)
          rw [if_neg (show ¬ jw (bt l p) = -1 by rw [jw_id bp.1 bp.2]; exact y1), if_neg y1, if_neg y2', fl, jbs]
          dsimp only
          rw [if_pos (show jw 0 = 0 from rfl)]
          exact ⟨0, _, rfl, jfr_up g3 (Or.inl (Or.inl ⟨rfl, Or.inr (Or.inl rfl)⟩)), rfl, jup_s _ _ _ _⟩
theorem rz4 : ∀ (n fu : Nat) (j : Int) (σ : jxS), n + j = 2197 → 0 ≤ j → n < fu → (∀ i : Int, 0 ≤ i → i < j → σ 4 i = 0) → ∃ σ', Model_readsAll_c22 F fu j σ = Model_readsAll_c44 F F 0 σ' ∧ jfr (fun a _ => a = 4) σ σ' ∧ ∀ i : Int, 0 ≤ i → i < 2197 → σ' 4 i = 0 := by
  intro n
  induction n with
  | zero =>
    intro fu j σ e1 e2 e3 h
    obtain ⟨fu, rfl⟩ : ∃ k, fu = k + 1 := ⟨fu - 1, by omega⟩
    refine ⟨σ, ?_, jfr_refl _ _, fun i a b => h i a (by omega)⟩
    rw [Model_readsAll_c22, if_neg (show ¬ jw j < 2197 by rw [jw_id (by omega) (by omega)]; omega)]
  | succ n ih =>
    intro fu j σ e1 e2 e3 h
    obtain ⟨fu, rfl⟩ : ∃ k, fu = k + 1 := ⟨fu - 1, by omega⟩
    obtain ⟨σ', i1, i2, i3⟩ := ih fu (j + 1) (jup σ 4 j 0) (by omega) (by omega) (by omega) (fun i a b => by
      by_cases e : i = j
      · rw [e, jup_s]
      · rw [jup_k e]; exact h i a (by omega))
    refine ⟨σ', ?_, jfr_trans (jfr_up (jfr_refl _ _) rfl) i2, i3⟩
    rw [Model_readsAll_c22, if_pos (show jw j < 2197 by rw [jw_id (by omega) (by omega)]; omega), if_pos (show 0 ≤ j ∧ j < 2197 by omega)]
    exact i1
theorem rz5 : ∀ (n fu : Nat) (j : Int) (σ : jxS), n + j = 117 → 0 ≤ j → n < fu → (∀ i : Int, 0 ≤ i → i < j → σ 5 i = 0) → ∃ σ', Model_readsAll_c44 F fu j σ = Model_readsAll_c63 F F σ' ∧ jfr (fun a _ => a = 5) σ σ' ∧ ∀ i : Int, 0 ≤ i → i < 117 → σ' 5 i = 0 := by
  intro n
  induction n with
  | zero =>
    intro fu j σ e1 e2 e3 h
    obtain ⟨fu, rfl⟩ : ∃ k, fu = k + 1 := ⟨fu - 1, by omega⟩
    refine ⟨σ, ?_, jfr_refl _ _, fun i a b => h i a (by omega)⟩
    rw [Model_readsAll_c44, if_neg (show ¬ jw j < 117 by rw [jw_id (by omega) (by omega)]; omega)]
  | succ n ih =>
    intro fu j σ e1 e2 e3 h
    obtain ⟨fu, rfl⟩ : ∃ k, fu = k + 1 := ⟨fu - 1, by omega⟩
    obtain ⟨σ', i1, i2, i3⟩ := ih fu (j + 1) (jup σ 5 j 0) (by omega) (by omega) (by omega) (fun i a b => by
      by_cases e : i = j
      · rw [e, jup_s]
      · rw [jup_k e]; exact h i a (by omega))
    refine ⟨σ', ?_, jfr_trans (jfr_up (jfr_refl _ _) rfl) i2, i3⟩
    rw [Model_readsAll_c44, if_pos (show jw j < 117 by rw [jw_id (by omega) (by omega)]; omega), if_pos (show 0 ≤ j ∧ j < 117 by omega)]
    exact i1
theorem rr_all (h : TpQ σ l) (hw : WdT σ) (hF : 5000 ≤ F) : ∃ x σ', Model_readsAll F σ = some (x, σ') ∧ jfr RAP σ σ' ∧ txtR σ' x (txt l) := by
  have f0 : jfr RAP σ (jup (jup (jup (jup σ 0 2 0) 0 6 0) 0 7 0) 0 17 0) := jfr_up (jfr_up (jfr_up (jfr_up (jfr_refl _ _) (Or.inl (Or.inl ⟨rfl, Or.inl rfl⟩))) (Or.inl (Or.inl ⟨rfl, by omega⟩))) (Or.inl (Or.inl ⟨rfl, by omega⟩))) (Or.inr ⟨rfl, rfl⟩)
  obtain ⟨σ1, a1, a2, a3⟩ := rz4 (F := F) 2197 F 0 (jup (jup (jup (jup σ 0 2 0) 0 6 0) 0 7 0) 0 17 0) (by omega) (by omega) (by omega) (fun i a b => by omega)
  obtain ⟨σ2, b1, b2, b3⟩ := rz5 (F := F) 117 F 0 σ1 (by omega) (by omega) (by omega) (fun i a b => by omega)
  have f2 : jfr RAP σ σ2 := jfr_trans f0 (jfr_trans (jfr_mono a2 (fun a j q => Or.inl (Or.inr (by omega)))) (jfr_mono b2 (fun a j q => Or.inl (Or.inr (by omega)))))
  have c : ∀ j, σ2 0 j = (jup (jup (jup (jup σ 0 2 0) 0 6 0) 0 7 0) 0 17 0) 0 j := fun j => by rw [b2 0 j (by omega), a2 0 j (by omega)]
  have r0 : RdR σ2 l 0 := ⟨TpQ_fr h f2 (by simp [RAP, LRP]) (fun j => by simp only [RAP, LRP]; omega), WdT_fr hw f2 (fun j => by simp only [RAP, LRP]; omega), by rw [c, jup_k (by omega), jup_k (by omega), jup_k (by omega), jup_s]; rfl⟩
  have l0 : LsR σ2 [] := ⟨by rw [c, jup_k (by omega), jup_s]; rfl, fun j j0 j1 => by rw [b2 4 _ (by omega), a3 j j0 j1]; rfl, fun j j0 j1 => by rw [b3 j j0 j1]; rfl, fun x hx => by simp at hx⟩
  obtain ⟨x, σ3, d1, d2, d3⟩ := rr_text_c (F := F) (l := l) 16 F 0 0 [] σ2 r0 (Nat.zero_le _) (by rw [c, jup_s]; rfl) rfl (by omega) l0 (fun _ => by rw [c, jup_k (by omega), jup_k (by omega), jup_s]) (by omega) (by omega)
  exact ⟨x, σ3, a1.trans (b1.trans d1), jfr_trans f2 d2, d3⟩
end QA
