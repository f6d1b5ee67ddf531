/-! Quotients: the reference's words and elements. -/
def RQP (n a : Nat) (j : Int) : Prop := a = 29 ∨ a = 37 ∨ a = 38 ∨ (a = 31 ∧ j = (n : Int)) ∨ ((a = 32 ∨ a = 33) ∧ 112 * (n : Int) ≤ j ∧ j < 112 * (n : Int) + 112)
/-- the words as the reference has them -/
def RW (σ : jxS) (n : Nat) (l : List (Nat → Nat)) : Prop := σ 31 n = (l.length : Int) ∧ l.length ≤ 16 ∧ okW l ∧ ∀ (i : Nat) (w : Nat → Nat), l[i]? = some w → (∀ h : Nat, 1 ≤ h → h ≤ n → σ 32 (112 * (n : Int) + 7 * i + h) = (w h : Int)) ∧ ∀ h, n < h → w h = 0
def RK (σ : jxS) (M : Nat → List Nat) (n : Nat) (l : List (Nat → Nat)) : Prop := ∀ (i : Nat) (w : Nat → Nat), l[i]? = some w → σ 37 i = (rmkF M n w : Int)
theorem rtw_c {F n e : Nat} {w : Nat → Nat} {σ0 : jxS} (n1 : 1 ≤ n) (n6 : n ≤ 6) (he : e < 16) (hw : ∀ h : Nat, 1 ≤ h → h ≤ n → σ0 32 (112 * (n : Int) + 7 * e + h) = (w h : Int)) (hz : ∀ h, n < h → w h = 0) : ∀ (m fu h : Nat) (σ : jxS), m + h = 13 → m < fu → jfr (fun a _ => a = 38) σ0 σ → (∀ g : Nat, 1 ≤ g → g < h → σ 38 g = (w g : Int)) → ∃ σ', Model_takesWord_c2 F fu n e h σ = some (0, σ') ∧ jfr (fun a _ => a = 38) σ0 σ' ∧ Hd σ' 38 w := by
  intro m
  induction m with
  | zero =>
    intro fu h σ e1 e2 f hg
    obtain ⟨fu, rfl⟩ : ∃ k, fu = k + 1 := ⟨fu - 1, by omega⟩
    refine ⟨σ, ?_, f, fun g g1 g2 => hg g g1 (by omega)⟩
    rw [Model_takesWord_c2, if_neg (by unfold jw; omega)]
  | succ m ih =>
    intro fu h σ e1 e2 f hg
    obtain ⟨fu, rfl⟩ : ∃ k, fu = k + 1 := ⟨fu - 1, by omega⟩
    have c1 : jw (h : Int) < 13 := by unfold jw; omega
    have c2 : 0 ≤ (h : Int) ∧ (h : Int) < 13 := by omega
    have go : ∀ v : Int, (1 ≤ h → v = (w h : Int)) → ∃ σ', Model_takesWord_c2 F fu n e ((h : Int) + 1) (jup σ 38 h v) = some (0, σ') ∧ jfr (fun a _ => a = 38) σ0 σ' ∧ Hd σ' 38 w := fun v hv => by
      obtain ⟨σ', i1, i2, i3⟩ := ih fu (h + 1) (jup σ 38 h v) (by omega) (by omega) (jfr_up f rfl) (fun g g1 g2 => by
        by_cases q : g = h
        · subst q; rw [jup_s]; exact hv g1
        · rw [jup_k (by omega)]; exact hg g g1 (by omega))
      rw [Int.natCast_add, Int.natCast_one] at i1
      exact ⟨σ', i1, i2, i3⟩
    by_cases z : h = 0
    · obtain ⟨σ', i1, i2, i3⟩ := go 0 (fun q => by omega)
      refine ⟨σ', ?_, i2, i3⟩
      rw [Model_takesWord_c2, if_pos c1, if_neg (by unfold jw; omega), if_pos c2]
      exact i1
    · by_cases y : h ≤ n
      · have ww := hw h (by omega) y
        have ww' : σ 32 (112 * (n : Int) + 7 * e + h) = (w h : Int) := by rw [f 32 _ (by omega)]; exact ww
        obtain ⟨σ', i1, i2, i3⟩ := go (w h) (fun _ => rfl)
        refine ⟨σ', ?_, i2, i3⟩
        rw [Model_takesWord_c2, if_pos c1, if_pos (by unfold jw; omega), if_neg (by unfold jw; omega), Model_placeOf, jbs]
        dsimp only
        rw [if_pos (by omega), if_pos c2, ww']
        exact i1
      · obtain ⟨σ', i1, i2, i3⟩ := go 0 (fun _ => by rw [hz h (by omega)]; rfl)
        refine ⟨σ', ?_, i2, i3⟩
        rw [Model_takesWord_c2, if_pos c1, if_pos (by unfold jw; omega), if_pos (by unfold jw; omega), if_pos c2]
        exact i1
theorem rk_takes {F n e : Nat} {w : Nat → Nat} {σ : jxS} (n1 : 1 ≤ n) (n6 : n ≤ 6) (he : e < 16) (hw : ∀ h : Nat, 1 ≤ h → h ≤ n → σ 32 (112 * (n : Int) + 7 * e + h) = (w h : Int)) (hz : ∀ h, n < h → w h = 0) (hF : 100 ≤ F) : ∃ σ', Model_takesWord F σ n e = some (0, σ') ∧ jfr (fun a _ => a = 38) σ σ' ∧ Hd σ' 38 w := rtw_c (F := F) n1 n6 he hw hz 13 F 0 σ (by omega) (by omega) (jfr_refl _ _) (fun g g1 g2 => by omega)
theorem rad_c {F n N : Nat} {w : Nat → Nat} {mk : Int} {σ0 : jxS} (n1 : 1 ≤ n) (n6 : n ≤ 6) (hN : N < 16) (wN : σ0 31 n = (N : Int)) (hw : Hd σ0 38 w) : ∀ (m fu h : Nat) (σ : jxS), m + h = n + 1 → 1 ≤ h → m < fu → jfr (fun a j => a = 32 ∧ 112 * (n : Int) + 7 * N + 1 ≤ j ∧ j ≤ 112 * (n : Int) + 7 * N + n) σ0 σ → (∀ g : Nat, 1 ≤ g → g < h → σ 32 (112 * (n : Int) + 7 * N + g) = (w g : Int)) → ∃ σ', Model_addsElement_c11 F fu n mk N h σ = some (0, jup (jup σ' 37 N mk) 31 n ((N : Int) + 1)) ∧ jfr (fun a j => a = 32 ∧ 112 * (n : Int) + 7 * N + 1 ≤ j ∧ j ≤ 112 * (n : Int) + 7 * N + n) σ0 σ' ∧ ∀ g : Nat, 1 ≤ g → g ≤ n → σ' 32 (112 * (n : Int) + 7 * N + g) = (w g : Int) := by
  intro m
  induction m with
  | zero =>
    intro fu h σ e1 e2 e3 f hg
    obtain ⟨fu, rfl⟩ : ∃ k, fu = k + 1 := ⟨fu - 1, by omega⟩
    have w31 : (jup σ 37 N mk) 31 n = (N : Int) := by rw [jup_o (by omega), f 31 _ (by omega)]; exact wN
    refine ⟨σ, ?_, f, fun g g1 g2 => hg g g1 (by omega)⟩
    rw [Model_addsElement_c11, if_pos (by unfold jw; omega), if_pos (by omega)]
    dsimp only
    rw [if_pos (by omega), if_pos (by omega), w31]
  | succ m ih =>
    intro fu h σ e1 e2 e3 f hg
    obtain ⟨fu, rfl⟩ : ∃ k, fu = k + 1 := ⟨fu - 1, by omega⟩
    have wh : σ 38 h = (w h : Int) := by rw [f 38 _ (by omega)]; exact hw h e2 (by omega)
    obtain ⟨σ', i1, i2, i3⟩ := ih fu (h + 1) (jup σ 32 (112 * (n : Int) + 7 * N + h) (w h)) (by omega) (by omega) (by omega) (jfr_up f ⟨rfl, by omega, by omega⟩) (fun g g1 g2 => by
      by_cases q : g = h
      · subst q; rw [jup_s]
      · rw [jup_k (by omega)]; exact hg g g1 (by omega))
    refine ⟨σ', ?_, i2, i3⟩
    rw [Int.natCast_add, Int.natCast_one] at i1
    rw [Model_addsElement_c11, if_neg (by unfold jw; omega), Model_placeOf, jbs]
    dsimp only
    rw [if_pos (by omega), if_pos (by omega), wh]
    exact i1
theorem rk_adds {F n : Nat} {w : Nat → Nat} {l : List (Nat → Nat)} {M : Nat → List Nat} {σ : jxS} (n1 : 1 ≤ n) (n6 : n ≤ 6) (hl : l.length < 16) (hR : RW σ n l) (hK : RK σ M n l) (hw : Hd σ 38 w) (ow : okc w) (bw : beans w ≤ 15) (hz : ∀ h, n < h → w h = 0) (hF : 100 ≤ F) : ∃ σ', Model_addsElement F σ n (rmkF M n w) = some (0, σ') ∧ jfr (RQP n) σ σ' ∧ RW σ' n (l ++ [w]) ∧ RK σ' M n (l ++ [w]) ∧ (∀ j, σ' 33 j = σ 33 j) ∧ σ' 31 n = ((l.length + 1 : Nat) : Int) := by
  obtain ⟨r1, r2, r3, r4⟩ := hR
  generalize hN : l.length = N at hl r1 r2
  obtain ⟨σ1, a1, a2, a3⟩ := rad_c (F := F) (mk := rmkF M n w) n1 n6 hl r1 hw n F 1 σ (by omega) (by omega) (by omega) (jfr_refl _ _) (fun g g1 g2 => by omega)
  have fq : jfr (RQP n) σ (jup (jup σ1 37 N (rmkF M n w)) 31 n ((N : Int) + 1)) := jfr_up (jfr_up (jfr_mono a2 (fun a j h => Or.inr (Or.inr (Or.inr (Or.inr ⟨Or.inl h.1, by omega, by omega⟩))))) (Or.inr (Or.inl rfl))) (Or.inr (Or.inr (Or.inr (Or.inl ⟨rfl, rfl⟩))))
  have ll : (l ++ [w]).length = N + 1 := by rw [List.length_append, hN, List.length_singleton]
  refine ⟨_, ?_, fq, ⟨by rw [jup_s, ll]; rfl, by rw [ll]; omega, ?_, ?_⟩, ?_, fun j => by rw [jup_o (by omega), jup_o (by omega), a2 33 _ (by omega)], by rw [jup_s]; rfl⟩
  · rw [Model_addsElement, if_pos (by omega), r1]
    exact a1
  · intro x hx
    rcases List.mem_append.mp hx with y | y
    · exact r3 x y
    · rw [List.mem_singleton.mp y]; exact ⟨ow, bw⟩
  · intro i x hx
    by_cases iN : i < N
    · rw [List.getElem?_append_left (by rw [hN]; exact iN)] at hx
      obtain ⟨b1, b2⟩ := r4 i x hx
      refine ⟨fun h h1 h2 => ?_, b2⟩
      rw [jup_o (by omega), jup_o (by omega), a2 32 _ (by omega)]
      exact b1 h h1 h2
    · have iE : i = N := by
        have := (List.getElem?_eq_some_iff.mp hx).1
        rw [ll] at this
        omega
      subst iE
      rw [List.getElem?_append_right (by omega), hN, Nat.sub_self] at hx
      simp only [List.getElem?_cons_zero, Option.some.injEq] at hx
      subst hx
      refine ⟨fun h h1 h2 => ?_, hz⟩
      rw [jup_o (by omega), jup_o (by omega)]
      exact a3 h h1 h2
  · intro i x hx
    by_cases iN : i < N
    · rw [List.getElem?_append_left (by rw [hN]; exact iN)] at hx
      rw [jup_o (by omega), jup_k (by omega), a2 37 _ (by omega)]
      exact hK i x hx
    · have iE : i = N := by
        have := (List.getElem?_eq_some_iff.mp hx).1
        rw [ll] at this
        omega
      subst iE
      rw [List.getElem?_append_right (by omega), hN, Nat.sub_self] at hx
      simp only [List.getElem?_cons_zero, Option.some.injEq] at hx
      subst hx
      rw [jup_o (by omega), jup_s]
theorem rmk_cmp (M : Nat → List Nat) (n : Nat) (c d : Nat → Nat) : ∃ x : Int, jlcmp (rmkF M n c : Int) (rmkF M n d : Int) = x ∧ -1 ≤ x ∧ x ≤ 1 ∧ (x = 0 ↔ smk M n c d) := by
  have b : ∀ c, (-9223372036854775808 ≤ (rmkF M n c : Int) ∧ (rmkF M n c : Int) ≤ 9223372036854775807) := fun c => by
    have : rmkF M n c < 35184372088832 := rmkF_lt M n c
    omega
  refine ⟨_, bl_cmp (b c) (b d), ?_⟩
  rw [← rmkF_iff]
  generalize rmkF M n c = x
  generalize rmkF M n d = y
  by_cases h1 : (y : Int) < (x : Int)
  · rw [if_pos h1]
    exact ⟨by omega, by omega, ⟨fun q => by omega, fun q => by subst q; omega⟩⟩
  · rw [if_neg h1]
    by_cases h2 : (x : Int) = (y : Int)
    · rw [if_pos h2]
      exact ⟨by omega, by omega, ⟨fun _ => by omega, fun _ => rfl⟩⟩
    · rw [if_neg h2]
      exact ⟨by omega, by omega, ⟨fun q => by omega, fun q => by subst q; exact absurd rfl h2⟩⟩
theorem reb_loop {F n N : Nat} {M : Nat → List Nat} {l : List (Nat → Nat)} {w : Nat → Nat} {σ : jxS} (n1 : 1 ≤ n) (n6 : n ≤ 6) (hN : l.length = N) (hR : RW σ n l) (hK : RK σ M n l) : ∀ (r : List (Nat → Nat)) (fu i : Nat), l.drop i = r → r.length + i = N → r.length < fu → ∃ g, Model_elementBy_c3 F fu n (rmkF M n w) i σ = (match fel M n w i r with
      | some f => some ((f : Int), σ)
      | none => Model_elementBy_c3 F (g + 1) n (rmkF M n w) N σ) := by
  obtain ⟨r1, r2, r3, r4⟩ := hR
  rw [hN] at r1 r2
  intro r
  induction r with
  | nil =>
    intro fu i e1 e2 e3
    obtain ⟨fu, rfl⟩ : ∃ k, fu = k + 1 := ⟨fu - 1, by omega⟩
    simp only [List.length_nil] at e2
    exact ⟨fu, by simp only [fel]; rw [show i = N by omega]⟩
  | cons u r ih =>
    intro fu i e1 e2 e3
    obtain ⟨fu, rfl⟩ : ∃ k, fu = k + 1 := ⟨fu - 1, by omega⟩
    simp only [List.length_cons] at e2 e3
    have c1 : 0 ≤ (n : Int) ∧ (n : Int) < 7 := by omega
    have c2 : jw (i : Int) < jw (N : Int) := by unfold jw; omega
    have c3 : 0 ≤ (i : Int) ∧ (i : Int) < 16 := by omega
    have e2' : r.length + (i + 1) = N := by omega
    have e3' : r.length < fu := by omega
    obtain ⟨hm, hr⟩ := drop_o e1
    have w2 := hK i u hm
    obtain ⟨x, x1, x2, x3, x4⟩ := rmk_cmp M n u w
    rw [← w2] at x1
    rw [fel]
    by_cases z : smk M n u w
    · have zb := smb_iff.mpr z
      have hx := x4.mpr z
      refine ⟨0, ?_⟩
      simp only [if_pos zb]
      rw [Model_elementBy_c3, if_pos c1, r1, if_pos c2, if_pos c3, x1, if_pos (by unfold jw; omega)]
    · have zb : ¬ smb M n u w = true := fun q => z (smb_iff.mp q)
      have hx : ¬ x = 0 := fun q => z (x4.mp q)
      obtain ⟨g, i1⟩ := ih fu (i + 1) hr e2' e3'
      rw [Int.natCast_add, Int.natCast_one] at i1
      refine ⟨g, ?_⟩
      simp only [if_neg zb]
      rw [Model_elementBy_c3, if_pos c1, r1, if_pos c2, if_pos c3, x1, if_neg (by unfold jw; omega)]
      exact i1
theorem rk_elem {F n : Nat} {M : Nat → List Nat} {l : List (Nat → Nat)} {w : Nat → Nat} {σ : jxS} (n1 : 1 ≤ n) (n6 : n ≤ 6) (hR : RW σ n l) (hK : RK σ M n l) (hw : Hd σ 38 w) (ow : okc w) (bw : beans w ≤ 15) (hz : ∀ h, n < h → w h = 0) (hF : 100 ≤ F) : match fel M n w 0 l with
    | some f => Model_elementBy F σ n (rmkF M n w) = some ((f : Int), σ)
    | none => if l.length = 16 then Model_elementBy F σ n (rmkF M n w) = some (-1, σ) else ∃ σ', Model_elementBy F σ n (rmkF M n w) = some ((l.length : Int), σ') ∧ jfr (RQP n) σ σ' ∧ RW σ' n (l ++ [w]) ∧ RK σ' M n (l ++ [w]) ∧ ∀ j, σ' 33 j = σ 33 j := by
  have r1 := hR.1
  have r2 := hR.2.1
  obtain ⟨g, i1⟩ := reb_loop (F := F) (w := w) n1 n6 rfl hR hK l F 0 rfl (Nat.add_zero _) (by omega)
  have i1' : Model_elementBy F σ n (rmkF M n w) = _ := i1
  cases hf : fel M n w 0 l with
  | some f =>
    rw [hf] at i1'
    exact i1'
  | none =>
    rw [hf] at i1'
    simp only at i1' ⊢
    have ad := fun h => rk_adds (F := F) n1 n6 h hR hK hw ow bw hz hF
    generalize hN : l.length = N at *
    have c1 : 0 ≤ (n : Int) ∧ (n : Int) < 7 := by omega
    have c2 : ¬ jw (N : Int) < jw (N : Int) := Int.lt_irrefl _
    rw [Model_elementBy_c3, if_pos c1, r1, if_neg c2, if_pos c1] at i1'
    by_cases z : N = 16
    · rw [if_pos z]
      rw [if_pos (by unfold jw; omega)] at i1'
      exact i1'
    · rw [if_neg z]
      rw [if_neg (by unfold jw; omega)] at i1'
      obtain ⟨σ', b1, b2, b3, b4, b5, b6⟩ := ad (by omega)
      rw [b1, jbs] at i1'
      dsimp only at i1'
      rw [if_pos c1, b6, show ((N + 1 : Nat) : Int) - 1 = (N : Int) by omega] at i1'
      exact ⟨σ', i1', b2, b3, b4, b5⟩
