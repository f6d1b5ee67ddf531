/-! The law's start: what stands outside; calls with two worlds. -/
theorem jBG.narrow {ad : Nat → Nat} {A B : Nat → Prop} {s : State} (h : jBG ad A s) (hAB : ∀ q, B q → A q) : jBG ad B s := by
  obtain ⟨h1, h2, h3, h4, h5, h6, h7, h8, h9⟩ := h
  exact ⟨h1, h2.narrow hAB, h3.narrow hAB, h4.narrow hAB, h5.narrow hAB, h6.narrow hAB, h7, h8.narrow hAB, h9.imp (fun z => z.narrow hAB) (fun z => z.narrow hAB)⟩
def jtmS (i : Nat) : Term := .string jsown (jsidx i)
set_option maxRecDepth 100000 in
set_option maxHeartbeats 4000000 in
theorem jBG_start {s : State} {b : Nat} (hts : ∀ w ∈ lw_tbl, w.before #[Value.ref b] s = true) (hgv : (Jvm.Cond.and given_1 narrow_1).before #[Value.ref b] s = true) : ∃ ad : Nat → Nat, jBG ad (fun q => s.heap.size ≤ q) s := by
  have hs := flat_of_before _ hgv
  have hA : ∀ a : Nat, a < s.heap.size → ¬ (fun q => s.heap.size ≤ q) a := fun a h => Nat.not_le.mpr h
  obtain ⟨t0, e0, T0⟩ := va_Tof (args := #[Value.ref b]) (s := s) (tm := .static "LastLoses$Values" "BESIDE_MOVES" "[I") (ty := .int) (N := 6) (f := fun j => .int (jI (jtab0.getD j 0))) (A := fun q => s.heap.size ≤ q) (by decide) (hs _ (by decide +kernel)) (va_eqt (hs _ (by decide +kernel))) (fun j hj => by
    match j, hj with
    | 0, _ => exact va_eqt (hs _ (by decide +kernel))
    | 1, _ => exact va_eqt (hs _ (by decide +kernel))
    | 2, _ => exact va_eqt (hs _ (by decide +kernel))
    | 3, _ => exact va_eqt (hs _ (by decide +kernel))
    | 4, _ => exact va_eqt (hs _ (by decide +kernel))
    | 5, _ => exact va_eqt (hs _ (by decide +kernel))
    | k + 6, h => exact absurd h (by omega)) hA
  obtain ⟨t1, e1, T1⟩ := va_Tof (args := #[Value.ref b]) (s := s) (tm := .static "LastLoses$Values" "BESIDE_OF_GENUS" "[I") (ty := .int) (N := 3) (f := fun j => .int (jI (jtab1.getD j 0))) (A := fun q => s.heap.size ≤ q) (by decide) (hs _ (by decide +kernel)) (va_eqt (hs _ (by decide +kernel))) (fun j hj => by
    match j, hj with
    | 0, _ => exact va_eqt (hs _ (by decide +kernel))
    | 1, _ => exact va_eqt (hs _ (by decide +kernel))
    | 2, _ => exact va_eqt (hs _ (by decide +kernel))
    | k + 3, h => exact absurd h (by omega)) hA
  have Z0 := va_Zof (A := fun q => s.heap.size ≤ q) (hts (.laysStatic "LastLoses$Values" "BESIDE_MOVES" "[I") (by decide +kernel)) (hts (.initialized "LastLoses$Values") (by decide +kernel)) e0 hA
  have Z1 := va_Zof (A := fun q => s.heap.size ≤ q) (hts (.laysStatic "LastLoses$Values" "BESIDE_OF_GENUS" "[I") (by decide +kernel)) (hts (.initialized "LastLoses$Values") (by decide +kernel)) e1 hA
  have Z2 := va_Zof (A := fun q => s.heap.size ≤ q) (hts (.laysStatic "java/lang/String" "COMPACT_STRINGS" "Z") (by decide +kernel)) (hts (.initialized "java/lang/String") (by decide +kernel)) (va_eqt (hs (.eq (.static "java/lang/String" "COMPACT_STRINGS" "Z") (.int 1)) (by decide +kernel))) hA
  have Z3 := va_Zqof (A := fun q => s.heap.size ≤ q) (hts (.laysStatic "jdk/internal/util/Preconditions" "SIOOBE_FORMATTER" "Ljava/util/function/BiFunction;") (by decide +kernel)) (hts (.initialized "jdk/internal/util/Preconditions") (by decide +kernel)) (hs _ (by decide +kernel)) hA
  obtain ⟨adK, adV, S0, eS⟩ := vk_Sof (args := #[Value.ref b]) (s := s) (N := 4) (tm := jtmS) (len := jslen) (byt := jsbyt) (A := fun q => s.heap.size ≤ q) (fun i hi => by revert i hi; decide)
    (fun i hi => by
      match i, hi with
      | 0, _ => exact hs _ (by decide +kernel)
      | 1, _ => exact hs _ (by decide +kernel)
      | 2, _ => exact hs _ (by decide +kernel)
      | 3, _ => exact hs _ (by decide +kernel)
      | k + 4, h => exact absurd h (by omega))
    (fun i hi => by
      match i, hi with
      | 0, _ => exact hs _ (by decide +kernel)
      | 1, _ => exact hs _ (by decide +kernel)
      | 2, _ => exact hs _ (by decide +kernel)
      | 3, _ => exact hs _ (by decide +kernel)
      | k + 4, h => exact absurd h (by omega))
    (fun i hi => by
      match i, hi with
      | 0, _ => exact hs _ (by decide +kernel)
      | 1, _ => exact hs _ (by decide +kernel)
      | 2, _ => exact hs _ (by decide +kernel)
      | 3, _ => exact hs _ (by decide +kernel)
      | k + 4, h => exact absurd h (by omega))
    (fun i hi => by
      match i, hi with
      | 0, _ => exact hs _ (by decide +kernel)
      | 1, _ => exact hs _ (by decide +kernel)
      | 2, _ => exact hs _ (by decide +kernel)
      | 3, _ => exact hs _ (by decide +kernel)
      | k + 4, h => exact absurd h (by omega))
    (fun i hi j hj => by
      match i, hi with
      | 0, _ =>
        have hj : j < 5 := hj
        match j, hj with
        | 0, _ => exact hs _ (by decide +kernel)
        | 1, _ => exact hs _ (by decide +kernel)
        | 2, _ => exact hs _ (by decide +kernel)
        | 3, _ => exact hs _ (by decide +kernel)
        | 4, _ => exact hs _ (by decide +kernel)
        | k + 5, h => exact absurd h (by omega)
      | 1, _ =>
        have hj : j < 4 := hj
        match j, hj with
        | 0, _ => exact hs _ (by decide +kernel)
        | 1, _ => exact hs _ (by decide +kernel)
        | 2, _ => exact hs _ (by decide +kernel)
        | 3, _ => exact hs _ (by decide +kernel)
        | k + 4, h => exact absurd h (by omega)
      | 2, _ =>
        have hj : j < 5 := hj
        match j, hj with
        | 0, _ => exact hs _ (by decide +kernel)
        | 1, _ => exact hs _ (by decide +kernel)
        | 2, _ => exact hs _ (by decide +kernel)
        | 3, _ => exact hs _ (by decide +kernel)
        | 4, _ => exact hs _ (by decide +kernel)
        | k + 5, h => exact absurd h (by omega)
      | 3, _ =>
        have hj : j < 2 := hj
        match j, hj with
        | 0, _ => exact hs _ (by decide +kernel)
        | 1, _ => exact hs _ (by decide +kernel)
        | k + 2, h => exact absurd h (by omega)
      | k + 4, h => exact absurd h (by omega))
    (fun i j hi hj hij => by
      match i, hi, j, hj with
      | 0, _, 0, _ => exact absurd rfl hij
      | 0, _, 1, _ => first | exact Or.inl (hs _ (by decide +kernel)) | exact Or.inr (hs _ (by decide +kernel))
      | 0, _, 2, _ => first | exact Or.inl (hs _ (by decide +kernel)) | exact Or.inr (hs _ (by decide +kernel))
      | 0, _, 3, _ => first | exact Or.inl (hs _ (by decide +kernel)) | exact Or.inr (hs _ (by decide +kernel))
      | 1, _, 0, _ => first | exact Or.inl (hs _ (by decide +kernel)) | exact Or.inr (hs _ (by decide +kernel))
      | 1, _, 1, _ => exact absurd rfl hij
      | 1, _, 2, _ => first | exact Or.inl (hs _ (by decide +kernel)) | exact Or.inr (hs _ (by decide +kernel))
      | 1, _, 3, _ => first | exact Or.inl (hs _ (by decide +kernel)) | exact Or.inr (hs _ (by decide +kernel))
      | 2, _, 0, _ => first | exact Or.inl (hs _ (by decide +kernel)) | exact Or.inr (hs _ (by decide +kernel))
      | 2, _, 1, _ => first | exact Or.inl (hs _ (by decide +kernel)) | exact Or.inr (hs _ (by decide +kernel))
      | 2, _, 2, _ => exact absurd rfl hij
      | 2, _, 3, _ => first | exact Or.inl (hs _ (by decide +kernel)) | exact Or.inr (hs _ (by decide +kernel))
      | 3, _, 0, _ => first | exact Or.inl (hs _ (by decide +kernel)) | exact Or.inr (hs _ (by decide +kernel))
      | 3, _, 1, _ => first | exact Or.inl (hs _ (by decide +kernel)) | exact Or.inr (hs _ (by decide +kernel))
      | 3, _, 2, _ => first | exact Or.inl (hs _ (by decide +kernel)) | exact Or.inr (hs _ (by decide +kernel))
      | 3, _, 3, _ => exact absurd rfl hij
      | k + 4, h, _, _ => exact absurd h (by omega)
      | _, _, k + 4, h => exact absurd h (by omega)) hA
  have hNS : ∀ w ∈ jNS, va_Nw w s := fun w hw => va_Nw.of (jNS_tab hw) (hts w (List.mem_filter.mp hw).1)
  obtain ⟨t9, Z9⟩ : ∃ t9, va_Z "jdk/internal/util/Preconditions" "SIOOBE_FORMATTER" "Ljava/util/function/BiFunction;" .null (fun q => s.heap.size ≤ q) s s.heap ∨ va_Z "jdk/internal/util/Preconditions" "SIOOBE_FORMATTER" "Ljava/util/function/BiFunction;" (.ref t9) (fun q => s.heap.size ≤ q) s s.heap := by
    rcases Z3 with h | ⟨t, h⟩
    · exact ⟨0, Or.inl h⟩
    · exact ⟨t, Or.inr h⟩
  obtain ⟨ad, a0, a1, aK, aV, a9⟩ : ∃ ad : Nat → Nat, ad 1000 = t0 ∧ ad 1001 = t1 ∧ (∀ i, i < 4 → ad (1002 + i) = adK i) ∧ (∀ i, i < 4 → ad (1006 + i) = adV i) ∧ ad 1010 = t9 := by
    refine ⟨fun i => if i = 1000 then t0 else if i = 1001 then t1 else if i < 1006 then adK (i - 1002) else if i < 1010 then adV (i - 1006) else t9, by simp, by simp, fun i hi => ?_, fun i hi => ?_, by simp⟩
    · show (if 1002 + i = 1000 then t0 else if 1002 + i = 1001 then t1 else if 1002 + i < 1006 then adK (1002 + i - 1002) else if 1002 + i < 1010 then adV (1002 + i - 1006) else t9) = adK i
      rw [if_neg (by omega), if_neg (by omega), if_pos (by omega), show 1002 + i - 1002 = i by omega]
    · show (if 1006 + i = 1000 then t0 else if 1006 + i = 1001 then t1 else if 1006 + i < 1006 then adK (1006 + i - 1002) else if 1006 + i < 1010 then adV (1006 + i - 1006) else t9) = adV i
      rw [if_neg (by omega), if_neg (by omega), if_neg (by omega), if_pos (by omega), show 1006 + i - 1006 = i by omega]
  refine ⟨ad, hNS, by rw [a0]; exact Z0, by rw [a0]; exact T0, by rw [a1]; exact Z1, by rw [a1]; exact T1, ⟨fun i hi => ?_, fun i j hi hj q => ?_⟩, fun i hi => ?_, Z2, by rw [a9]; exact Z9⟩
  · show va_O "java/lang/String" (ad (1002 + i)) _ _ _ ∧ va_OF "java/lang/String" "coder" "B" (.int 0) (ad (1002 + i)) _ _ _ ∧ va_OF "java/lang/String" "value" "[B" (.ref (ad (1006 + i))) (ad (1002 + i)) _ _ _ ∧ va_T .byte (ad (1006 + i)) _ _ _ _ _
    rw [aK i hi, aV i hi]
    exact S0.1 i hi
  · have q : ad (1002 + i) = ad (1002 + j) := q
    rw [aK i hi, aK j hj] at q
    exact S0.2 i j hi hj q
  · rw [aK i hi]
    refine vk_R.of (A := #[Value.ref b]) ?_ (eS i hi)
    match i, hi with
    | 0, _ => exact hts _ (by decide +kernel)
    | 1, _ => exact hts _ (by decide +kernel)
    | 2, _ => exact hts _ (by decide +kernel)
    | 3, _ => exact hts _ (by decide +kernel)
    | k + 4, h => exact absurd h (by omega)
