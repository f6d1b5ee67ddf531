/-! Pairs: the class's slots. -/
theorem ushr20 (x : Int) : ∃ v : Nat, v < 4096 ∧ jushr x 20 = (v : Int) := by
  have e := pk_ushr (jI x) (jI 20) 20 (by decide)
  have l : (jI x).toBitVec.toNat / 2 ^ 20 < 4096 := by
    have := (jI x).toBitVec.isLt
    omega
  refine ⟨(jI x).toBitVec.toNat / 2 ^ 20, l, ?_⟩
  unfold jushr
  rw [← e] at l ⊢
  generalize ((jI x).toUInt32 >>> ((jI 20).toUInt32 &&& Int32.toUInt32 31)).toInt32 = y at l ⊢
  show y.toBitVec.toInt = _
  rw [BitVec.toInt_eq_toNat_of_lt (by omega)]
theorem pigeon : ∀ (n : Nat) (l : List Nat), (∀ j, j < n → j ∈ l) → n ≤ l.length := by
  intro n
  induction n with
  | zero => intro l _; exact Nat.zero_le _
  | succ n ih =>
    intro l h
    have hn := h n (Nat.lt_succ_self n)
    have i := ih (l.erase n) (fun j hj => (List.mem_erase_of_ne (by omega)).mpr (h j (by omega)))
    have e := List.length_erase_of_mem hn
    have p := List.length_pos_of_mem hn
    omega
abbrev prT : Type := Nat × Nat
def pkP (x : prT) : Nat := 65536 * x.1 + x.2
def okP (L : Nat) (l : List prT) : Prop := ∀ x, x ∈ l → x.1 < L ∧ x.2 < 2 ^ L
/-- what the slots tell: each found pair has one, all its probes ahead of it are taken; whatever is taken is one of them -/
def HS (σ : jxS) (hv : prT → Nat) (l : List prT) : Prop := σ 44 4 = (l.length : Int) ∧ l.length ≤ 2000 ∧ (∀ (i : Nat) (x : prT), l[i]? = some x → σ 45 i = (pkP x : Int)) ∧ (∃ js : List Nat, js.length = l.length ∧ ∀ j : Nat, j < 4096 → (σ 46 j = 0 ∨ (j ∈ js ∧ ∃ x, x ∈ l ∧ σ 46 j = (pkP x : Int) + 1))) ∧ ∀ x, x ∈ l → ∃ k, k < 4096 ∧ σ 46 (((hv x + k) % 4096 : Nat) : Int) = (pkP x : Int) + 1 ∧ ∀ i, i < k → σ 46 (((hv x + i) % 4096 : Nat) : Int) ≠ 0
theorem pkP_inj {x y : prT} (hx : x.2 < 65536) (hy : y.2 < 65536) (h : pkP x = pkP y) : x = y := by
  unfold pkP at h
  have h1 : x.1 = y.1 := by omega
  have h2 : x.2 = y.2 := by omega
  exact Prod.ext h1 h2
theorem cin_step {F fu : Nat} {σ : jxS} {y hv i sl : Int} {a : Nat} (i0 : 0 ≤ i) (i1 : i < 4096) (ha : jand (hv + i) 4095 = (a : Int)) (a1 : a < 4096) (ws : σ 46 (a : Int) = sl) : Pairs_insert_c10 F (fu + 1) y hv i σ = if jw sl = jw (y + 1) then some (0, σ) else if jw sl = 0 then (Pairs_append F σ y (a : Int)).bind (fun r54 => some (0, r54.2)) else Pairs_insert_c10 F fu y hv (i + 1) σ := by
  subst ws
  have c : 0 ≤ (a : Int) ∧ (a : Int) < 4096 := by omega
  rw [Pairs_insert_c10, if_pos (show jw i < 4096 by unfold jw; omega), ha, if_pos c, if_pos c]
theorem at_mod {hv i : Nat} : jand ((hv : Int) + (i : Int)) 4095 = (((hv + i) % 4096 : Nat) : Int) := by
  rw [bq_and4095]
  omega
theorem cin_found {F L hv k : Nat} {σ : jxS} {y : prT} (L16 : L ≤ 16) (hy : y.1 < L ∧ y.2 < 2 ^ L) (hh : hv < 4096) (hk : k < 4096) (w : σ 46 (((hv + k) % 4096 : Nat) : Int) = (pkP y : Int) + 1) (hb : ∀ i, i < k → σ 46 (((hv + i) % 4096 : Nat) : Int) ≠ 0) (hr : ∀ j : Nat, j < 4096 → 0 ≤ σ 46 j ∧ σ 46 j ≤ 1048576) : ∀ (m fu i : Nat), m + i = k → m < fu → Pairs_insert_c10 F fu (pkP y) hv i σ = some (0, σ) := by
  have y2 : y.2 < 65536 := Nat.lt_of_lt_of_le hy.2 (Nat.le_trans (Nat.pow_le_pow_right (by decide) L16) (by decide))
  have y1 : y.1 < 16 := by omega
  have pb : pkP y < 1048576 := by unfold pkP; omega
  intro m
  induction m with
  | zero =>
    intro fu i e1 e2
    obtain ⟨fu, rfl⟩ : ∃ k, fu = k + 1 := ⟨fu - 1, by omega⟩
    have ik : i = k := by omega
    subst ik
    rw [cin_step (F := F) (fu := fu) (by omega) (by omega) at_mod (Nat.mod_lt _ (by decide)) w, if_pos rfl]
  | succ m ih =>
    intro fu i e1 e2
    obtain ⟨fu, rfl⟩ : ∃ k, fu = k + 1 := ⟨fu - 1, by omega⟩
    have nz := hb i (by omega)
    obtain ⟨r1, r2⟩ := hr ((hv + i) % 4096) (Nat.mod_lt _ (by decide))
    have i1 := ih fu (i + 1) (by omega) (by omega)
    rw [Int.natCast_add, Int.natCast_one] at i1
    rw [cin_step (F := F) (fu := fu) (by omega) (by omega) at_mod (Nat.mod_lt _ (by decide)) rfl]
    by_cases z : σ 46 (((hv + i) % 4096 : Nat) : Int) = (pkP y : Int) + 1
    · rw [if_pos (by rw [z])]
    · rw [if_neg (by unfold jw; omega), if_neg (by unfold jw; omega)]
      exact i1
theorem cin_free {F L hv k : Nat} {σ : jxS} {y : prT} (L16 : L ≤ 16) (hy : y.1 < L ∧ y.2 < 2 ^ L) (hh : hv < 4096) (hk : k < 4096) (w : σ 46 (((hv + k) % 4096 : Nat) : Int) = 0) (hb : ∀ i, i < k → σ 46 (((hv + i) % 4096 : Nat) : Int) ≠ 0) (hr : ∀ j : Nat, j < 4096 → 0 ≤ σ 46 j ∧ σ 46 j ≤ 1048576) (hn : ∀ j : Nat, j < 4096 → σ 46 j ≠ (pkP y : Int) + 1) : ∀ (m fu i : Nat), m + i = k → m < fu → Pairs_insert_c10 F fu (pkP y) hv i σ = (Pairs_append F σ (pkP y) (((hv + k) % 4096 : Nat) : Int)).bind (fun r54 => some (0, r54.2)) := by
  have y2 : y.2 < 65536 := Nat.lt_of_lt_of_le hy.2 (Nat.le_trans (Nat.pow_le_pow_right (by decide) L16) (by decide))
  have y1 : y.1 < 16 := by omega
  have pb : pkP y < 1048576 := by unfold pkP; omega
  intro m
  induction m with
  | zero =>
    intro fu i e1 e2
    obtain ⟨fu, rfl⟩ : ∃ k, fu = k + 1 := ⟨fu - 1, by omega⟩
    have ik : i = k := by omega
    subst ik
    rw [cin_step (F := F) (fu := fu) (by omega) (by omega) at_mod (Nat.mod_lt _ (by decide)) w, if_neg (by unfold jw; omega), if_pos (show jw 0 = 0 from rfl)]
  | succ m ih =>
    intro fu i e1 e2
    obtain ⟨fu, rfl⟩ : ∃ k, fu = k + 1 := ⟨fu - 1, by omega⟩
    have nz := hb i (by omega)
    have ne := hn ((hv + i) % 4096) (Nat.mod_lt _ (by decide))
    obtain ⟨r1, r2⟩ := hr ((hv + i) % 4096) (Nat.mod_lt _ (by decide))
    have i1 := ih fu (i + 1) (by omega) (by omega)
    rw [Int.natCast_add, Int.natCast_one] at i1
    rw [cin_step (F := F) (fu := fu) (by omega) (by omega) at_mod (Nat.mod_lt _ (by decide)) rfl, if_neg (by unfold jw; omega), if_neg (by unfold jw; omega)]
    exact i1
def HSP (a : Nat) (j : Int) : Prop := a = 45 ∨ a = 46 ∨ (a = 44 ∧ (j = 4 ∨ j = 5))
noncomputable def hvP (x : prT) : Nat := Classical.choose (ushr20 ((pkP x : Int) * (-1640531535)))
theorem hvP_ok (x : prT) : hvP x < 4096 ∧ jushr ((pkP x : Int) * (-1640531535)) 20 = (hvP x : Int) := Classical.choose_spec (ushr20 ((pkP x : Int) * (-1640531535)))
/-- a pair put in: known, new, or one too many -/
theorem ca_insert {F L : Nat} {σ : jxS} {l : List prT} {y : prT} (L16 : L ≤ 16) (hl : okP L l) (hy : y.1 < L ∧ y.2 < 2 ^ L) (h : HS σ hvP l) (hF : 5000 ≤ F) : (y ∈ l ∧ Pairs_insert F σ (pkP y) = some (0, σ)) ∨ (y ∉ l ∧ l.length = 2000 ∧ Pairs_insert F σ (pkP y) = some (0, jup σ 44 5 1)) ∨ (y ∉ l ∧ l.length < 2000 ∧ ∃ σ', Pairs_insert F σ (pkP y) = some (0, σ') ∧ jfr (fun a j => a = 45 ∨ a = 46 ∨ (a = 44 ∧ j = 4)) σ σ' ∧ HS σ' hvP (l ++ [y])) := by
  obtain ⟨h1, h2, h3, ⟨js, h4, h5⟩, h6⟩ := h
  obtain ⟨v1, v2⟩ := hvP_ok y
  have p2 : ∀ x : prT, x.1 < L ∧ x.2 < 2 ^ L → x.2 < 65536 ∧ pkP x < 1048576 := fun x hx => by
    have x2 : x.2 < 65536 := Nat.lt_of_lt_of_le hx.2 (Nat.le_trans (Nat.pow_le_pow_right (by decide) L16) (by decide))
    refine ⟨x2, ?_⟩
    have : x.1 < 16 := by omega
    unfold pkP
    omega
  have hr : ∀ j : Nat, j < 4096 → 0 ≤ σ 46 j ∧ σ 46 j ≤ 1048576 := fun j hj => by
    rcases h5 j hj with q | ⟨_, x, hx, q⟩
    · rw [q]; omega
    · have := (p2 x (hl x hx)).2
      rw [q]; omega
  have st : Pairs_insert F σ (pkP y) = Pairs_insert_c10 F F (pkP y) (hvP y) ((0 : Nat) : Int) σ := by
    rw [Pairs_insert, v2]
    rfl
  rw [st]
  by_cases hm : y ∈ l
  · obtain ⟨k, k1, k2, k3⟩ := h6 y hm
    exact Or.inl ⟨hm, cin_found L16 hy v1 k1 k2 k3 hr k F 0 (by omega) (by omega)⟩
  · have hn : ∀ j : Nat, j < 4096 → σ 46 j ≠ (pkP y : Int) + 1 := fun j hj q => by
      rcases h5 j hj with w | ⟨_, x, hx, w⟩
      · rw [w] at q; omega
      · rw [w] at q
        have e : pkP x = pkP y := by omega
        exact hm (pkP_inj (p2 x (hl x hx)).1 (p2 y hy).1 e ▸ hx)
    obtain ⟨k, ⟨k1, k2⟩, k3⟩ : ∃ k, (k < 4096 ∧ σ 46 (((hvP y + k) % 4096 : Nat) : Int) = 0) ∧ ∀ i, i < k → ¬ (i < 4096 ∧ σ 46 (((hvP y + i) % 4096 : Nat) : Int) = 0) := by
      refine lst_ex (Classical.byContradiction fun q => ?_)
      have all : ∀ j, j < 4096 → j ∈ js := fun j hj => by
        rcases h5 j hj with w | ⟨w, _⟩
        · exfalso
          refine q ⟨(j + 4096 - hvP y) % 4096, Nat.mod_lt _ (by decide), ?_⟩
          rw [show (hvP y + (j + 4096 - hvP y) % 4096) % 4096 = j by omega]
          exact w
        · exact w
      have := pigeon 4096 js all
      omega
    have k3' : ∀ i, i < k → σ 46 (((hvP y + i) % 4096 : Nat) : Int) ≠ 0 := fun i hi q => k3 i hi ⟨by omega, q⟩
    have fr := cin_free (F := F) L16 hy v1 k1 k2 k3' hr hn k F 0 (by omega) (by omega)
    have al : (hvP y + k) % 4096 < 4096 := Nat.mod_lt _ (by decide)
    rw [fr]
    generalize hA : (hvP y + k) % 4096 = A at *
    generalize hN : l.length = N at *
    by_cases z : N = 2000
    · refine Or.inr (Or.inl ⟨hm, z, ?_⟩)
      rw [Pairs_append, h1, if_neg (show ¬ jw (N : Int) < 2000 by unfold jw; omega)]
      rfl
    · have w4 : (jup σ 46 (A : Int) ((pkP y : Int) + 1)) 44 4 = (N : Int) := by rw [jup_o (by omega)]; exact h1
      have w4' : (jup (jup σ 46 (A : Int) ((pkP y : Int) + 1)) 45 (N : Int) (pkP y)) 44 4 = (N : Int) := by rw [jup_o (by omega)]; exact w4
      refine Or.inr (Or.inr ⟨hm, by omega, jup (jup (jup σ 46 (A : Int) ((pkP y : Int) + 1)) 45 (N : Int) (pkP y)) 44 4 ((N : Int) + 1), ?_, jfr_up (jfr_up (jfr_up (jfr_refl _ _) (Or.inr (Or.inl rfl))) (Or.inl rfl)) (Or.inr (Or.inr ⟨rfl, rfl⟩)), ?_⟩)
      · rw [Pairs_append, h1, if_pos (show jw (N : Int) < 2000 by unfold jw; omega), if_pos (by omega)]
        dsimp only
        rw [w4, if_pos (by omega), w4', jbs]
      · have s46 : ∀ j : Int, (jup (jup (jup σ 46 (A : Int) ((pkP y : Int) + 1)) 45 (N : Int) (pkP y)) 44 4 ((N : Int) + 1)) 46 j = (jup σ 46 (A : Int) ((pkP y : Int) + 1)) 46 j := fun j => by rw [jup_o (by omega), jup_o (by omega)]
        have ll : (l ++ [y]).length = N + 1 := by rw [List.length_append, hN, List.length_singleton]
        refine ⟨by rw [jup_s, ll]; rfl, by rw [ll]; omega, fun i x hx => ?_, ⟨js ++ [A], by rw [List.length_append, List.length_singleton, h4, ll], fun j hj => ?_⟩, fun x hx => ?_⟩
        · rw [jup_o (by omega)]
          by_cases iN : i < N
          · rw [List.getElem?_append_left (by rw [hN]; exact iN)] at hx
            rw [jup_k (by omega), jup_o (by omega)]
            exact h3 i x hx
          · have iE : i = N := by
              have := (List.getElem?_eq_some_iff.mp hx).1
              rw [ll] at this
              omega
            subst iE
            rw [List.getElem?_append_right (by omega), hN, Nat.sub_self] at hx
            simp only [List.getElem?_cons_zero, Option.some.injEq] at hx
            subst hx
            rw [jup_s]
        · rw [s46]
          by_cases e : j = A
          · subst e
            rw [jup_s]
            exact Or.inr ⟨List.mem_append.mpr (Or.inr (List.mem_singleton.mpr rfl)), y, List.mem_append.mpr (Or.inr (List.mem_singleton.mpr rfl)), rfl⟩
          · rw [jup_k (by omega)]
            rcases h5 j hj with w | ⟨w1, x, w2, w3⟩
            · exact Or.inl w
            · exact Or.inr ⟨List.mem_append.mpr (Or.inl w1), x, List.mem_append.mpr (Or.inl w2), w3⟩
        · have nz : ∀ j : Nat, σ 46 (j : Int) ≠ 0 → (jup σ 46 (A : Int) ((pkP y : Int) + 1)) 46 (j : Int) ≠ 0 := fun j q => by
            by_cases e : j = A
            · subst e; rw [jup_s]; omega
            · rw [jup_k (by omega)]; exact q
          rcases List.mem_append.mp hx with w | w
          · obtain ⟨k', q1, q2, q3⟩ := h6 x w
            refine ⟨k', q1, ?_, fun i hi => by rw [s46]; exact nz _ (q3 i hi)⟩
            rw [s46]
            have ne : (hvP x + k') % 4096 ≠ A := fun q => by
              rw [q, k2] at q2
              omega
            rw [jup_k (by omega)]
            exact q2
          · rw [List.mem_singleton.mp w]
            refine ⟨k, k1, by rw [s46, hA, jup_s], fun i hi => by rw [s46]; exact nz _ (k3' i hi)⟩
