/-! The reference's game. -/
section GR
variable {F : Nat} {σ : jxS} {l : List Nat}
def gDs (ls : List lnT) : List Nat := match ls with
  | [] => []
  | x :: _ => x.2.1
def gD (ls : List lnT) : Nat := (gDs ls).length
def gG (ls : List lnT) (i : Nat) : Nat := (gDs ls).getD i 0
def gA (ls : List lnT) (h m : Nat) : Bool := alB ls (169 * (h : Int) + m)
def gN (ls : List lnT) (h k : Nat) : Bool := nvB ls (9 * (h : Int) + k)
/-- the moves of a text -/
def gM (ls : List lnT) : Nat → List Nat := Mof (isMv (gD ls) (gG ls) (gA ls) (gN ls))
def lsOK (ls : List lnT) : Prop := 1 ≤ ls.length ∧ ls.length ≤ 16 ∧ (∀ x, x ∈ ls → lnOK x) ∧ ∀ (i : Nat) (x : lnT), ls[i]? = some x → (x.1 = 1 ↔ i = 0)
theorem txt_ok_c (hl : ∀ b, b ∈ l → b < 256) (hL : l.length ≤ 200) : ∀ (f n k : Nat) (acc ls : List lnT), k ≤ l.length → acc.length = n → n ≤ 16 → (∀ x, x ∈ acc → lnOK x) → (∀ (i : Nat) (x : lnT), acc[i]? = some x → (x.1 = 1 ↔ i = 0)) → txtS l f n k acc = .inr ls → lsOK ls := by
  intro f
  induction f with
  | zero => intro n k acc ls _ _ _ _ _ h; cases h
  | succ f ih =>
    intro n k acc ls hk ha hn h1 h2 h
    rw [txtS] at h
    have lb := linS_b hl hL (n := n) hk
    cases e : linS l n k with
    | inl c => rw [e] at h; cases h
    | inr r =>
      obtain ⟨x, k1⟩ := r
      rw [e] at h lb
      obtain ⟨b1, b2, b3, b4⟩ := lb
      dsimp only at h
      have s := skp_b (l := l) b1
      have ok : ∀ y, y ∈ acc ++ [x] → lnOK y := fun y hy => by
        rcases List.mem_append.mp hy with q | q
        · exact h1 y q
        · rw [List.mem_singleton.mp q]; exact b2
      have ii : ∀ (i : Nat) (y : lnT), (acc ++ [x])[i]? = some y → (y.1 = 1 ↔ i = 0) := fun i y hy => by
        by_cases ei : i = n
        · subst ei
          rw [List.getElem?_append_right (by omega), ha, Nat.sub_self] at hy
          rw [← Option.some.inj hy]
          exact b4
        · have il := (List.getElem?_eq_some_iff.mp hy).1
          rw [List.length_append, List.length_singleton] at il
          rw [List.getElem?_append_left (by omega)] at hy
          exact h2 i y hy
      have ll : (acc ++ [x]).length = n + 1 := by rw [List.length_append, List.length_singleton, ha]
      split at h
      · have e2 := Sum.inr.inj h
        subst e2
        exact ⟨by omega, by omega, ok, ii⟩
      · split at h
        · rename_i q1 q2
          have pl := bt_in (l := l) (k := skp l k1) q1
          exact ih (n + 1) (skp l k1 + 1) (acc ++ [x]) ls (by omega) ll (by omega) ok ii h
        · cases h
theorem txt_ok {ls : List lnT} (hl : ∀ b, b ∈ l → b < 256) (hL : l.length ≤ 200) (h : txt l = .inr ls) : lsOK ls :=
  txt_ok_c hl hL 17 0 0 [] ls (Nat.zero_le _) rfl (by omega) (fun x hx => absurd hx List.not_mem_nil) (fun i x hx => by simp at hx) h
theorem txt_e (hl : ∀ b, b ∈ l → b < 256) (hL : l.length ≤ 200) : ∀ (f n k : Nat) (acc : List lnT) (e : Nat), k ≤ l.length → n + f = 17 → txtS l f n k acc = .inl e → e ≤ 1700 := by
  intro f
  induction f with
  | zero => intro n k acc e _ _ h; have := Sum.inl.inj h; omega
  | succ f ih =>
    intro n k acc e hk hn h
    rw [txtS] at h
    have lb := linS_b hl hL (n := n) hk
    cases e1 : linS l n k with
    | inl c =>
      rw [e1] at h lb
      have := Sum.inl.inj h
      have lb' : 1 ≤ c ∧ c ≤ 1700 := lb
      omega
    | inr r =>
      obtain ⟨x, k1⟩ := r
      rw [e1] at h lb
      obtain ⟨b1, b2, b3, b4⟩ := lb
      have s := skp_b (l := l) b1
      dsimp only at h
      split at h
      · cases h
      · split at h
        · rename_i q1 q2
          have pl := bt_in (l := l) (k := skp l k1) q1
          exact ih (n + 1) (skp l k1 + 1) _ e (by omega) (by omega) h
        · have := Sum.inl.inj h; omega
theorem gD_ok {ls : List lnT} (h : lsOK ls) : gD ls ≤ 8 ∧ ∀ i, gG ls i < 8 := by
  obtain ⟨h1, h2, h3, h4⟩ := h
  cases ls with
  | nil => simp at h1
  | cons x t =>
    have x1 := (h4 0 x rfl).mpr rfl
    rcases h3 x (List.mem_cons_self ..) with q | q | q
    · refine ⟨q.2.1, fun i => ?_⟩
      show (x.2.1).getD i 0 < 8
      rw [List.getD_eq_getElem?_getD]
      cases e : x.2.1[i]? with
      | none => decide
      | some y => exact q.2.2 y (List.mem_of_getElem? e)
    · omega
    · omega
theorem g_none {ls : List lnT} (h : lsOK ls) (e : ls.length - 1 = 0) : (∀ a m, gA ls a m = false) ∧ ∀ a k, gN ls a k = false := by
  obtain ⟨h1, h2, h3, h4⟩ := h
  cases ls with
  | nil => simp at h1
  | cons x t =>
    rw [List.length_cons] at e
    have tn : t = [] := List.eq_nil_of_length_eq_zero (by omega)
    subst tn
    have x1 := (h4 0 x rfl).mpr rfl
    refine ⟨fun a m => ?_, fun a k => ?_⟩
    · rw [gA, alB, List.any_cons, List.any_nil, Bool.or_false]
      exact decide_eq_false (fun q => by have := q.1; omega)
    · rw [gN, nvB, List.any_cons, List.any_nil, Bool.or_false]
      exact decide_eq_false (fun q => by have := q.1; omega)
theorem rgc6 : ∀ (n fu : Nat) (j : Int) (σ σ0 : jxS), n + j = 8 → 0 ≤ j → n < fu → jfr (fun a _ => a = 6) σ0 σ → (∀ i : Int, 0 ≤ i → i < j → σ 6 i = σ0 3 i) → ∃ σ', Model_game_c45 F fu j σ = Model_game_c71 F F 0 σ' ∧ jfr (fun a _ => a = 6) σ0 σ' ∧ ∀ i : Int, 0 ≤ i → i < 8 → σ' 6 i = σ0 3 i := by
  intro n
  induction n with
  | zero =>
    intro fu j σ σ0 e1 e2 e3 f h
    obtain ⟨fu, rfl⟩ : ∃ k, fu = k + 1 := ⟨fu - 1, by omega⟩
    refine ⟨σ, ?_, f, fun i a b => h i a (by omega)⟩
    rw [Model_game_c45, if_neg (show ¬ jw j < 8 by rw [jw_id (by omega) (by omega)]; omega)]
  | succ n ih =>
    intro fu j σ σ0 e1 e2 e3 f h
    obtain ⟨fu, rfl⟩ : ∃ k, fu = k + 1 := ⟨fu - 1, by omega⟩
    obtain ⟨σ', i1, i2, i3⟩ := ih fu (j + 1) (jup σ 6 j (σ 3 j)) σ0 (by omega) (by omega) (by omega) (jfr_up f rfl) (fun i a b => by
      by_cases e : i = j
      · rw [e, jup_s, f 3 _ (by omega)]
      · rw [jup_k e]; exact h i a (by omega))
    refine ⟨σ', ?_, i2, i3⟩
    rw [Model_game_c45, if_pos (show jw j < 8 by rw [jw_id (by omega) (by omega)]; omega), if_pos (show 0 ≤ j ∧ j < 8 by omega), if_pos (show 0 ≤ j ∧ j < 8 by omega)]
    exact i1
theorem rgc7 : ∀ (n fu : Nat) (j : Int) (σ σ0 : jxS), n + j = 2197 → 0 ≤ j → n < fu → jfr (fun a _ => a = 7) σ0 σ → (∀ i : Int, 0 ≤ i → i < j → σ 7 i = σ0 4 i % 2) → ∃ σ', Model_game_c71 F fu j σ = Model_game_c98 F F 0 σ' ∧ jfr (fun a _ => a = 7) σ0 σ' ∧ ∀ i : Int, 0 ≤ i → i < 2197 → σ' 7 i = σ0 4 i % 2 := by
  intro n
  induction n with
  | zero =>
    intro fu j σ σ0 e1 e2 e3 f h
    obtain ⟨fu, rfl⟩ : ∃ k, fu = k + 1 := ⟨fu - 1, by omega⟩
    refine ⟨σ, ?_, f, fun i a b => h i a (by omega)⟩
    rw [Model_game_c71, if_neg (show ¬ jw j < 2197 by rw [jw_id (by omega) (by omega)]; omega)]
  | succ n ih =>
    intro fu j σ σ0 e1 e2 e3 f h
    obtain ⟨fu, rfl⟩ : ∃ k, fu = k + 1 := ⟨fu - 1, by omega⟩
    obtain ⟨σ', i1, i2, i3⟩ := ih fu (j + 1) (jup σ 7 j (σ 4 j % 2)) σ0 (by omega) (by omega) (by omega) (jfr_up f rfl) (fun i a b => by
      by_cases e : i = j
      · rw [e, jup_s, f 4 _ (by omega)]
      · rw [jup_k e]; exact h i a (by omega))
    refine ⟨σ', ?_, i2, i3⟩
    rw [Model_game_c71, if_pos (show jw j < 2197 by rw [jw_id (by omega) (by omega)]; omega), if_pos (show 0 ≤ j ∧ j < 2197 by omega), if_pos (show 0 ≤ j ∧ j < 2197 by omega)]
    exact i1
theorem rgc8 : ∀ (n fu : Nat) (j : Int) (σ σ0 : jxS), n + j = 117 → 0 ≤ j → n < fu → jfr (fun a _ => a = 8) σ0 σ → (∀ i : Int, 0 ≤ i → i < j → σ 8 i = σ0 5 i % 2) → ∃ σ', Model_game_c98 F fu j σ = Model_game_c124 F F 0 σ' ∧ jfr (fun a _ => a = 8) σ0 σ' ∧ ∀ i : Int, 0 ≤ i → i < 117 → σ' 8 i = σ0 5 i % 2 := by
  intro n
  induction n with
  | zero =>
    intro fu j σ σ0 e1 e2 e3 f h
    obtain ⟨fu, rfl⟩ : ∃ k, fu = k + 1 := ⟨fu - 1, by omega⟩
    refine ⟨σ, ?_, f, fun i a b => h i a (by omega)⟩
    rw [Model_game_c98, if_neg (show ¬ jw j < 117 by rw [jw_id (by omega) (by omega)]; omega)]
  | succ n ih =>
    intro fu j σ σ0 e1 e2 e3 f h
    obtain ⟨fu, rfl⟩ : ∃ k, fu = k + 1 := ⟨fu - 1, by omega⟩
    obtain ⟨σ', i1, i2, i3⟩ := ih fu (j + 1) (jup σ 8 j (σ 5 j % 2)) σ0 (by omega) (by omega) (by omega) (jfr_up f rfl) (fun i a b => by
      by_cases e : i = j
      · rw [e, jup_s, f 5 _ (by omega)]
      · rw [jup_k e]; exact h i a (by omega))
    refine ⟨σ', ?_, i2, i3⟩
    rw [Model_game_c98, if_pos (show jw j < 117 by rw [jw_id (by omega) (by omega)]; omega), if_pos (show 0 ≤ j ∧ j < 117 by omega), if_pos (show 0 ≤ j ∧ j < 117 by omega)]
    exact i1
theorem rgz24 : ∀ (n fu : Nat) (j : Int) (σ : jxS), n + j = 13 → 0 ≤ j → n < fu → (∀ i : Int, 0 ≤ i → i < j → σ 24 i = 0) → ∃ σ', Model_game_c124 F fu j σ = (Model_laysMoves F (jup (jup σ' 0 40 0) 0 37 0)).bind (fun r154 => (Model_laysPositions F r154.2).bind fun r158 => Model_game_c163 F F 1 r158.2) ∧ jfr (fun a _ => a = 24) σ σ' ∧ ∀ i : Int, 0 ≤ i → i < 13 → σ' 24 i = 0 := by
  intro n
  induction n with
  | zero =>
    intro fu j σ e1 e2 e3 h
    obtain ⟨fu, rfl⟩ : ∃ k, fu = k + 1 := ⟨fu - 1, by omega⟩
    refine ⟨σ, ?_, jfr_refl _ _, fun i a b => h i a (by omega)⟩
    rw [Model_game_c124, if_neg (show ¬ jw j < 13 by rw [jw_id (by omega) (by omega)]; omega)]
  | succ n ih =>
    intro fu j σ e1 e2 e3 h
    obtain ⟨fu, rfl⟩ : ∃ k, fu = k + 1 := ⟨fu - 1, by omega⟩
    obtain ⟨σ', i1, i2, i3⟩ := ih fu (j + 1) (jup σ 24 j 0) (by omega) (by omega) (by omega) (fun i a b => by
      by_cases e : i = j
      · rw [e, jup_s]
      · rw [jup_k e]; exact h i a (by omega))
    refine ⟨σ', ?_, jfr_trans (jfr_up (jfr_refl _ _) rfl) i2, i3⟩
    rw [Model_game_c124, if_pos (show jw j < 13 by rw [jw_id (by omega) (by omega)]; omega), if_pos (show 0 ≤ j ∧ j < 13 by omega)]
    exact i1
theorem rgz30 : ∀ (n fu : Nat) (j : Int) (σ : jxS), n + j = 7 → 1 ≤ j → n < fu → (∀ i : Int, 1 ≤ i → i < j → σ 30 i = 0) → ∃ σ', Model_game_c163 F fu j σ = some (σ 0 17, σ') ∧ jfr (fun a _ => a = 30) σ σ' ∧ ∀ i : Int, 1 ≤ i → i < 7 → σ' 30 i = 0 := by
  intro n
  induction n with
  | zero =>
    intro fu j σ e1 e2 e3 h
    obtain ⟨fu, rfl⟩ : ∃ k, fu = k + 1 := ⟨fu - 1, by omega⟩
    refine ⟨σ, ?_, jfr_refl _ _, fun i a b => h i a (by omega)⟩
    rw [Model_game_c163, if_pos (show 6 < jw j by rw [jw_id (by omega) (by omega)]; omega)]
  | succ n ih =>
    intro fu j σ e1 e2 e3 h
    obtain ⟨fu, rfl⟩ : ∃ k, fu = k + 1 := ⟨fu - 1, by omega⟩
    obtain ⟨σ', i1, i2, i3⟩ := ih fu (j + 1) (jup σ 30 j 0) (by omega) (by omega) (by omega) (fun i a b => by
      by_cases e : i = j
      · rw [e, jup_s]
      · rw [jup_k e]; exact h i a (by omega))
    rw [jup_o (by omega)] at i1
    refine ⟨σ', ?_, jfr_trans (jfr_up (jfr_refl _ _) rfl) i2, i3⟩
    rw [Model_game_c163, if_neg (show ¬ 6 < jw j by rw [jw_id (by omega) (by omega)]; omega), if_pos (show 0 ≤ j ∧ j < 7 by omega)]
    exact i1
/-- what a game leaves in the reference as it was -/
def GMP (a : Nat) (j : Int) : Prop := a ≠ 2 ∧ a ≠ 13 ∧ a ≠ 14 ∧ a ≠ 22 ∧ a ≠ 23 ∧ ¬ (a = 0 ∧ (j = 24 ∨ j = 43))
theorem RAP_GMP {a : Nat} {j : Int} (h : RAP a j) : GMP a j := by
  simp only [RAP, LRP] at h
  simp only [GMP]
  omega
def gamR (σ : jxS) (ls : List lnT) : Prop := RI σ (gM ls) ∧ HaR σ (fun _ => 0) [] ∧ KeR σ (fun _ => none) ∧ NmR σ (gM ls) (gD ls) (gG ls) ∧ BT σ (gM ls) (6 * 4224) ∧ σ 0 11 = (gD ls : Int) ∧ σ 0 12 = ((ls.length - 1 : Nat) : Int)
theorem TpQ_0 {σ' : jxS} (w : σ' 0 1 = 0) : TpQ σ' [] :=
  ⟨⟨Nat.zero_le _, fun i x hx => by simp [tpS] at hx⟩, w, Nat.zero_le _, fun b hb => absurd hb List.not_mem_nil⟩
theorem rq_gameE {e : Nat} (h : TpQ σ l) (hw : WdT σ) (ht : txt l = .inl e) (hF : 5000 ≤ F) : ∃ σ', Model_game F σ = some (-2 - (e : Int), σ') ∧ jfr (fun a j => RAP a j ∨ (a = 0 ∧ j = 1)) σ σ' ∧ TpQ σ' [] := by
  obtain ⟨x, σ1, a1, a2, a3⟩ := rr_all (F := F) h hw hF
  rw [ht] at a3
  obtain ⟨q1, q2⟩ := a3
  subst q1
  rw [Model_game, a1, jbs]
  dsimp only
  rw [if_pos (show jw 0 = 0 from rfl), jup_k (by omega), q2]
  exact ⟨_, rfl, jfr_up (jfr_mono a2 (fun a j q => Or.inl q)) (Or.inr ⟨rfl, rfl⟩), TpQ_0 (jup_s _ _ _ _)⟩
theorem if01 {b : Bool} : (if b = true then (1 : Int) else 0) % 2 = if b = true then 1 else 0 := by
  cases b <;> rfl
theorem rq_gameS {ls : List lnT} (h : TpQ σ l) (hw : WdT σ) (hW : WT σ) (hT : TW σ) (hA : σ 0 24 = 4224) (ht : txt l = .inr ls) (hF : 5000 ≤ F) : ∃ σ', Model_game F σ = some ((ls.length : Int), σ') ∧ jfr GMP σ σ' ∧ TpQ σ' [] ∧ gamR σ' ls := by
  have ok := txt_ok h.2.2.2 h.2.2.1 ht
  obtain ⟨d8, g8⟩ := gD_ok ok
  obtain ⟨x, σ1, a1, a2, a3⟩ := rr_all (F := F) h hw hF
  rw [ht] at a3
  obtain ⟨q1, ⟨q2, q3, q4, q5⟩, q6⟩ := a3
  subst q1
  obtain ⟨x0, hx0⟩ : ∃ x0, ls[0]? = some x0 := ⟨ls[0]'(by have := ok.1; omega), List.getElem?_eq_getElem _⟩
  have gd : gDs ls = x0.2.1 := by
    cases ls with
    | nil => simp at hx0
    | cons y t => rw [← Option.some.inj hx0]; rfl
  obtain ⟨u1, u2⟩ := q5 x0 hx0
  rw [← gd] at u1 u2
  rw [Model_game, a1, jbs]
  dsimp only
  rw [if_neg (show ¬ jw 1 = 0 by decide)]
  rw [jup_k (show (6 : Int) ≠ 13 by omega), jup_k (show (6 : Int) ≠ 1 by omega), u1, jup_k (show (7 : Int) ≠ 11 by omega), jup_k (show (7 : Int) ≠ 13 by omega), jup_k (show (7 : Int) ≠ 1 by omega), q2]
  generalize hs4 : jup (jup (jup (jup σ1 0 1 0) 0 13 1) 0 11 ((gDs ls).length : Int)) 0 12 ((ls.length - 1 : Nat) : Int) = σ4
  have f4 : jfr (fun a j => a = 0 ∧ (j = 1 ∨ j = 13 ∨ j = 11 ∨ j = 12)) σ1 σ4 := by
    rw [← hs4]
    exact jfr_up (jfr_up (jfr_up (jfr_up (jfr_refl _ _) ⟨rfl, by omega⟩) ⟨rfl, by omega⟩) ⟨rfl, by omega⟩) ⟨rfl, by omega⟩
  have v1 : σ4 0 1 = 0 := by rw [← hs4, jup_k (by omega), jup_k (by omega), jup_k (by omega), jup_s]
  have v13 : σ4 0 13 = 1 := by rw [← hs4, jup_k (by omega), jup_k (by omega), jup_s]
  have v11 : σ4 0 11 = (gD ls : Int) := by rw [← hs4, jup_k (by omega), jup_s]; rfl
  have v12 : σ4 0 12 = ((ls.length - 1 : Nat) : Int) := by rw [← hs4, jup_s]
  have v17 : σ4 0 17 = (ls.length : Int) := by rw [f4 0 17 (by omega)]; exact q6
  obtain ⟨σ5, b1, b2, b3⟩ := rgc6 (F := F) 8 F 0 σ4 σ4 (by omega) (by omega) (by omega) (jfr_refl _ _) (fun i a b => by omega)
  obtain ⟨σ6, c1, c2, c3⟩ := rgc7 (F := F) 2197 F 0 σ5 σ5 (by omega) (by omega) (by omega) (jfr_refl _ _) (fun i a b => by omega)
  obtain ⟨σ7, d1, d2, d3⟩ := rgc8 (F := F) 117 F 0 σ6 σ6 (by omega) (by omega) (by omega) (jfr_refl _ _) (fun i a b => by omega)
  obtain ⟨σ8, e1, e2, e3⟩ := rgz24 (F := F) 13 F 0 σ7 (by omega) (by omega) (by omega) (fun i a b => by omega)
  generalize hs9 : jup (jup σ8 0 40 0) 0 37 0 = σ9 at e1
  have f9 : jfr (fun a j => a = 0 ∧ (j = 40 ∨ j = 37)) σ8 σ9 := by
    rw [← hs9]
    exact jfr_up (jfr_up (jfr_refl _ _) ⟨rfl, by omega⟩) ⟨rfl, by omega⟩
  have z : ∀ j, ¬ (j = 40 ∨ j = 37) → σ9 0 j = σ4 0 j := fun j hj => by rw [f9 0 j (by omega), e2 0 j (by omega), d2 0 j (by omega), c2 0 j (by omega), b2 0 j (by omega)]
  have hA9 : RulR σ9 (gD ls) (gG ls) (gA ls) (gN ls) := by
    refine ⟨d8, g8, by rw [z 11 (by omega)]; exact v11, fun i hi => ?_, fun a k a1 a2 k1 k2 => ?_, fun a p q p1 p2 p3 p4 => ?_⟩
    · have ge : (gDs ls)[i]? = some (gG ls i) := by
        have il : i < (gDs ls).length := hi
        rw [gG, List.getD_eq_getElem?_getD, List.getElem?_eq_getElem il]; rfl
      have := u2 i _ ge
      rw [Nat.zero_add] at this
      rw [f9 6 _ (by omega), e2 6 _ (by omega), d2 6 _ (by omega), c2 6 _ (by omega), b3 i (by omega) (by omega), f4 3 _ (by omega)]
      exact this
    · rw [f9 8 _ (by omega), e2 8 _ (by omega), d3 _ (by omega) (by omega), c2 5 _ (by omega), b2 5 _ (by omega), f4 5 _ (by omega), q4 _ (by omega) (by omega), if01]
      rfl
    · rw [f9 7 _ (by omega), e2 7 _ (by omega), d2 7 _ (by omega), c3 _ (by omega) (by omega), b2 4 _ (by omega), f4 4 _ (by omega), q3 _ (by omega) (by omega), if01, gA, show (169 * (a : Int) + ((13 * p + q : Nat) : Int)) = 169 * (a : Int) + 13 * p + q by omega]
  obtain ⟨σ10, m1, m2, m3, m4⟩ := rk_moves (F := F) hA9 (by rw [z 12 (by omega)]; exact v12) (by have := ok.2.1; omega) (fun q => g_none ok q) (by omega)
  have keep : ∀ a j, ¬ GMP a j → σ10 a j = σ a j := fun a j hg => by
    simp only [GMP] at hg
    rw [m2 a j (by simp only [NP]; omega), f9 a j (by omega), e2 a j (by omega), d2 a j (by omega), c2 a j (by omega), b2 a j (by omega), f4 a j (by omega), a2 a j (by simp only [RAP, LRP]; omega)]
  have fk : jfr GMP σ σ10 := fun a j hg => keep a j hg
  have hW10 : WT σ10 := WT_fr hW fk (fun j => by simp [GMP]) (fun j => by simp [GMP])
  have hT10 : TW σ10 := TW_F hT fk (fun j => by simp [GMP]) (fun j => by simp [GMP])
  obtain ⟨σ11, n1, n2, n3, n4⟩ := mo_positions (F := F) (Mof_ok _) hW10 m3 hT10 (by rw [keep 0 24 (by simp [GMP])]; exact hA) hF
  obtain ⟨σ12, o1, o2, o3⟩ := rgz30 (F := F) 6 F 1 σ11 (by omega) (by omega) (by omega) (fun i a b => by omega)
  have w0 : ∀ j, ¬ (j = 40 ∨ j = 37 ∨ j = 32) → σ12 0 j = σ4 0 j := fun j hj => by rw [o2 0 j (by omega), n2 0 j (by simp only [PP]; omega), m2 0 j (by simp only [NP]; omega), z j (by omega)]
  have n17 : σ11 0 17 = (ls.length : Int) := by rw [n2 0 17 (by simp [PP]), m2 0 17 (by simp [NP]), z 17 (by omega)]; exact v17
  have f12 : jfr GMP σ σ12 := jfr_trans fk (jfr_trans (jfr_mono n2 (fun a j q => by simp only [PP] at q; simp only [GMP]; omega)) (jfr_mono o2 (fun a j q => by simp only [GMP]; omega)))
  have mv12 : MvM σ12 (gM ls) := MvM_fr (MvM_fr m3 n2 (fun j => by simp [PP]) (fun j => by simp [PP])) o2 (fun j => by omega) (fun j => by omega)
  refine ⟨σ12, ?_, f12, TpQ_0 (by rw [w0 1 (by omega)]; exact v1), ⟨WT_fr hW f12 (fun j => by simp [GMP]) (fun j => by simp [GMP]), VT_fr n3 o2 (fun a j _ _ => by omega), mv12, fun n n1 n6 => Or.inl (o3 n (by omega) (by omega)), by rw [w0 13 (by omega), v13]; decide⟩, ⟨fun g g1 g2 => ?_, Nat.zero_le _, ?_, fun i u g hu => by simp at hu⟩, ⟨?_, fun k u g _ hu => by cases hu⟩, ⟨fun g hg => ?_, fun q g hg => ?_⟩, fun i hi => ?_, by rw [w0 11 (by omega)]; exact v11, by rw [w0 12 (by omega)]; exact v12⟩
  · rw [b1, c1, d1, e1, m1, jbs]
    dsimp only
    rw [n1, jbs]
    dsimp only
    rw [o1, n17]
  · rw [o2 24 _ (by omega), n2 24 _ (by simp [PP]), m2 24 _ (by simp [NP]), f9 24 _ (by omega), e3 g (by omega) (by omega)]; rfl
  · rw [o2 0 37 (by omega), n2 0 37 (by simp [PP]), m2 0 37 (by simp [NP]), ← hs9, jup_s]; rfl
  · rw [o2 0 40 (by omega), n2 0 40 (by simp [PP]), m2 0 40 (by simp [NP]), ← hs9, jup_k (by omega), jup_s]; rfl
  · rw [o2 11 _ (by omega), n2 11 _ (by simp [PP])]; exact m4.1 g hg
  · rw [o2 11 _ (by omega), n2 11 _ (by simp [PP])]
    refine m4.2 ?_ g hg
    rw [m2 0 12 (by simp [NP]), z 12 (by omega), ← w0 12 (by omega)]
    exact q
  · rw [o2 19 _ (by omega)]; exact n4 i hi
end GR
