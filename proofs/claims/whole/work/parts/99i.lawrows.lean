/-! The law's stretches: arguments pushed, two calls, their answers compared. -/
def lawD (pc : Nat) (i : Instr) (n : Nat) : Bool := match decode code pc with
  | .ok (i', n') => decide (i' = i) && Nat.beq n' n
  | .error _ => false
theorem lawD_ok {pc : Nat} {i : Instr} {n : Nat} (h : lawD pc i n = true) : decode code pc = .ok (i, n) := by
  unfold lawD at h
  split at h
  · rename_i i' n' hd
    simp only [Bool.and_eq_true, decide_eq_true_eq] at h
    rw [hd, h.1, jbeq h.2]
  · cases h
/-- argument j pushed -/
def lawA (pc j : Nat) : Bool := lawD pc (.aload_n 0) 1 && (lawD (pc + 1) (.iload_n 3) 1 && (lawD (pc + 1 + 1) (.iconst (j : Int)) 1 && (lawD (pc + 1 + 1 + 1) .iadd 1 && lawD (pc + 1 + 1 + 1 + 1) .iaload 1)))
def lawP (k j pc : Nat) : Bool := match k with
  | 0 => true
  | k + 1 => lawA pc j && lawP k (j + 1) (pc + 5)
def lawVs (xs : Nat → Int32) (i k j : Nat) : List Int := match k with
  | 0 => []
  | k + 1 => (xs (i + j)).toInt :: lawVs xs i k (j + 1)
def lawC (k pc i1 i2 : Nat) : Bool := lawD pc (.aload_n 1) 1 && (lawP k 1 (pc + 1) && (lawD (pc + 1 + 5 * k) (.invokevirtual i1) 3 && (lawD (pc + 1 + 5 * k + 3) (.aload_n 2) 1 && (lawP k 1 (pc + 1 + 5 * k + 3 + 1) && (lawD (pc + 1 + 5 * k + 3 + 1 + 5 * k) (.invokevirtual i2) 3 && lawD (pc + 1 + 5 * k + 3 + 1 + 5 * k + 3) (.if_icmp .eq (1180 - ((pc + 1 + 5 * k + 3 + 1 + 5 * k + 3 : Nat) : Int))) 3)))))
/-- both worlds -/
def jTwo (s : State) (D : va_G) (cy : Nat → ClassId) (adC : Nat → Nat) (shC : List jxC) (σC : jxS) (adM : Nat → Nat) (σM : jxS) (H : Heap) (locs : List Loc) : Prop := va_P D vwCl (jW adC cy shC σC) H ∧ va_P D vwCl (jW adM cy jshM σM) H ∧ va_D (fun q => s.heap.size ≤ q) (jW adC cy shC σC) ∧ va_D (fun q => s.heap.size ≤ q) (jW adM cy jshM σM) ∧ (∀ i j, i < shC.length → j < jshM.length → adC i ≠ adM j) ∧ va_S (fun q => s.heap.size ≤ q) s.heap H locs
section LRW
variable {p : Program} {l : Launch} {e : Env} {s : State} {m : MethodId} {below : List Frame} {meth : Method} {c : Code} {H : Heap} {locs : List Loc} {Q : State → Prop} {pc : Nat} {ls : Array Slot} {st : List Value} {D : va_G} {cy : Nat → ClassId} {adC adM : Nat → Nat} {shC : List jxC} {σC σM σC' σM' : jxS} {ca sl b L i q1 q2 : Nat} {xs : Nat → Int32}
theorem law_push1 {j : Nat} (C0 : lw_At p s m meth c b L xs) (hL : L ≤ 3072) (hi : i + 6 ≤ L) (hj : j ≤ 5) (hd : lawA pc j = true) (hS : va_S (fun q => s.heap.size ≤ q) s.heap H locs) (hl : lv_has ls 4 [(0, .ref b), (1, .ref q1), (2, .ref q2), (3, .int (jI (i : Int)))]) (k : W p l e room_1 s m #[Value.ref b] below meth c H locs ca sl Q (F0 m (pc + 5) ls (.int (jI (xs (i + j)).toInt) :: st))) : W p l e room_1 s m #[Value.ref b] below meth c H locs ca sl Q (F0 m pc ls st) := by
  obtain ⟨hx, hb, hr, hml, hown, hts, hX, hbl, hlocks, hgv⟩ := C0
  have hbA : ¬ (fun q => s.heap.size ≤ q) b := Nat.not_le.mpr hbl
  unfold lawA at hd
  simp only [Bool.and_eq_true] at hd
  obtain ⟨d0, d1, d2, d3, d4⟩ := hd
  refine lv_aload_n hx hb (lawD_ok d0) rfl (lv_at hl 0 rfl) ?_
  refine lv_iload_n hx hb (lawD_ok d1) rfl (lv_at hl 3 rfl) ?_
  refine lv_iconst (v := jI (j : Int)) hx hb (lawD_ok d2) rfl ?_
  refine lv_iadd hx hb (lawD_ok d3) ?_
  obtain ⟨h1, h2⟩ := j_in (x := (i : Int) + j) (n := L) (by omega) ⟨by omega, by omega⟩
  rw [← jI_add]
  refine va_sld hx hb hX hbl hbA hS h1 (lawD_ok d4) ?_
  rw [h2, show ((i : Int) + j).toNat = i + j by omega]
  rw [jI_toInt] at k
  exact k
theorem law_pushes {ad : Nat → Nat} (C0 : lw_At p s m meth c b L xs) (hL : L ≤ 3072) (hi : i + 6 ≤ L) (hS : va_S (fun q => s.heap.size ≤ q) s.heap H locs) (hl : lv_has ls 4 [(0, .ref b), (1, .ref q1), (2, .ref q2), (3, .int (jI (i : Int)))]) : ∀ (k j pc : Nat) (st : List Value), j + k ≤ 6 → lawP k j pc = true → W p l e room_1 s m #[Value.ref b] below meth c H locs ca sl Q (F0 m (pc + 5 * k) ls ((((lawVs xs i k j).map jmi).map (jtoV ad)).reverse ++ st)) → W p l e room_1 s m #[Value.ref b] below meth c H locs ca sl Q (F0 m pc ls st) := by
  intro k
  induction k with
  | zero => intro j pc st _ _ h; exact h
  | succ k ih =>
    intro j pc st hjk hp h
    simp only [lawP, Bool.and_eq_true] at hp
    refine law_push1 C0 hL hi (by omega) hp.1 hS hl (ih (j + 1) (pc + 5) _ (by omega) hp.2 ?_)
    have e1 : pc + 5 + 5 * k = pc + 5 * (k + 1) := by omega
    have e2 : (((lawVs xs i k (j + 1)).map jmi).map (jtoV ad)).reverse ++ (Value.int (jI (xs (i + j)).toInt) :: st) = (((lawVs xs i (k + 1) j).map jmi).map (jtoV ad)).reverse ++ st := by
      simp [lawVs, jtoV]
    rw [e1, e2]
    exact h
theorem law_case {k i1 i2 : Nat} {y1 y2 : MethodName} {b1 b2 : ByteArray} {mL1 mL2 N1 N2 : Nat} {T1 T2 : u_T} {f1 f2 : List jxF} {r : Int} (C0 : lw_At p s m meth c b L xs) (hL : L ≤ 3072) (hi : i + 6 ≤ L) (hk5 : k ≤ 5) (hd : lawC k pc i1 i2 = true) (l1 : jLkV RL i1 y1 b1 mL1 1 k) (l2 : jLkV RL i2 y2 b2 mL2 1 k) (c1 : vwCl[11]? = some (y1.cls, T1, N1)) (c2 : vwCl[12]? = some (y2.cls, T2, N2)) (hs1 : shC[0]? = some (.inl (11, f1))) (hs2 : jshM[0]? = some (.inl (12, f2)))
    (m1 : jMX y1 b1 mL1 shC σC ((lawVs xs i k 1).map jmi) r σC') (m2 : jMX y2 b2 mL2 jshM σM ((lawVs xs i k 1).map jmi) r σM') (hw : jLw p s m c b D cy) (hBC : jBG adC (fun q => s.heap.size ≤ q) s) (hBM : jBG adM (fun q => s.heap.size ≤ q) s) (tw : jTwo s D cy adC shC σC adM σM H locs) (hf : ca ≤ 600000 ∧ sl ≤ 7302250) (hl : lv_has ls 4 [(0, .ref b), (1, .ref (adC 0)), (2, .ref (adM 0)), (3, .int (jI (i : Int)))])
    (next : ∀ (H1 : Heap) (locs1 : List Loc), jTwo s D cy adC shC σC' adM σM' H1 locs1 → W p l e room_1 s m #[Value.ref b] below meth c H1 locs1 ca sl Q (F0 m 1180 ls [])) : W p l e room_1 s m #[Value.ref b] below meth c H locs ca sl Q (F0 m pc ls []) := by
  obtain ⟨hx, hb, hr, hml, hown, hts, hX, hbl, hlocks, hgv⟩ := id C0
  unfold lawC at hd
  simp only [Bool.and_eq_true] at hd
  obtain ⟨d0, d1, d2, d3, d4, d5, d6⟩ := hd
  obtain ⟨fr1, lo1, hr1, m1⟩ := m1
  obtain ⟨fr2, lo2, hr2, m2⟩ := m2
  obtain ⟨hP, hPM, hD, hDM, hap, hS⟩ := tw
  have hlen : ∀ (k j : Nat), (lawVs xs i k j).length = k := by
    intro k
    induction k with
    | zero => intro j; rfl
    | succ k ih => intro j; simp [lawVs, ih]
  refine lv_aload_n hx hb (lawD_ok d0) rfl (lv_at hl 1 rfl) ?_
  refine law_pushes (ad := adC) C0 hL hi hS hl k 1 (pc + 1) _ (by omega) d1 ?_
  refine law_callV m1 l1 hr1 hs1 c1 (by rw [List.length_map, hlen]) hw hBC hP hPM hD hap hS hl.1 (by simp) hf (lawD_ok d2) (fun H1 locs1 hP1 hPM1 hS1 => ?_)
  refine lv_aload_n hx hb (lawD_ok d3) rfl (lv_at hl 2 rfl) ?_
  refine law_pushes (ad := adM) C0 hL hi hS1 hl k 1 _ _ (by omega) d4 ?_
  refine law_callV m2 l2 hr2 hs2 c2 (by rw [List.length_map, hlen]) hw hBM hPM1 hP1 hDM (fun a j ha hj q => hap j a hj ha q.symm) hS1 hl.1 (by simp [jtoV, Value.category]) hf (lawD_ok d5) (fun H2 locs2 hPM2 hP2 hS2 => ?_)
  refine lv_icmp_eq (tgt := 1180) hx hb (lawD_ok d6) (by omega) (fun _ => ?_) (fun q => absurd rfl q)
  exact next H2 locs2 ⟨hP2, hPM2, jW_D hD, jW_D hDM, hap, hS2⟩
/-- the first game -/
theorem law_game0 {i1 i2 : Nat} {y1 y2 : MethodName} {b1 b2 : ByteArray} {mL1 mL2 N1 N2 fr lo mc ms : Nat} {T1 T2 : u_T} {f1 f2 : List jxF} {r : Int} {sh' : List jxC} (C0 : lw_At p s m meth c b L xs) (hd : lawC 0 pc i1 i2 = true) (l1 : jLkV RL i1 y1 b1 mL1 1 0) (l2 : jLkV RL i2 y2 b2 mL2 1 0) (c1 : vwCl[11]? = some (y1.cls, T1, N1)) (c2 : vwCl[12]? = some (y2.cls, T2, N2)) (hs1 : shC[0]? = some (.inl (11, f1))) (hs2 : jshM[0]? = some (.inl (12, f2)))
    (m1 : jMG y1 b1 mL1 1 fr lo mc ms shC σC [jmr 0] (some (jmi r)) sh' σC') (hr1 : fr + 1 ≤ 12 ∧ 8 + (mL1 + 11) + lo ≤ 434) (m2 : jMX y2 b2 mL2 jshM σM [] r σM') (hw : jLw p s m c b D cy) (hBC : jBG adC (fun q => s.heap.size ≤ q) s) (hBM : jBG adM (fun q => s.heap.size ≤ q) s) (tw : jTwo s D cy adC shC σC adM σM H locs) (hf : ca + mc ≤ 600000 ∧ sl + ms ≤ 7302250) (hl : lv_has ls 4 [(0, .ref b), (1, .ref (adC 0)), (2, .ref (adM 0)), (3, .int (jI (i : Int)))])
    (next : ∀ (H1 : Heap) (locs1 : List Loc) (ad' : Nat → Nat), (∀ i, i < shC.length ∨ 1000 ≤ i → ad' i = adC i) → jTwo s D cy ad' sh' σC' adM σM' H1 locs1 → W p l e room_1 s m #[Value.ref b] below meth c H1 locs1 (ca + mc) (sl + ms) Q (F0 m 1180 ls [])) : W p l e room_1 s m #[Value.ref b] below meth c H locs ca sl Q (F0 m pc ls []) := by
  obtain ⟨hx, hb, hr, hml, hown, hts, hX, hbl, hlocks, hgv⟩ := id C0
  unfold lawC at hd
  simp only [Bool.and_eq_true] at hd
  obtain ⟨d0, d1, d2, d3, d4, d5, d6⟩ := hd
  obtain ⟨fr2, lo2, hr2, m2⟩ := m2
  obtain ⟨hP, hPM, hD, hDM, hap, hS⟩ := tw
  refine lv_aload_n hx hb (lawD_ok d0) rfl (lv_at hl 1 rfl) ?_
  refine law_callG (as := []) m1 l1 hr1 hs1 c1 rfl hw hBC hP hPM hD hap hS hl.1 (by simp) hf (lawD_ok d2) (fun H1 locs1 ad' ha hP1 hD1 hPM1 hap1 hS1 => ?_)
  refine lv_aload_n hx hb (lawD_ok d3) rfl (lv_at hl 2 rfl) ?_
  refine law_callV (as := []) m2 l2 hr2 hs2 c2 rfl hw hBM hPM1 hP1 hDM (fun a j ha hj q => hap1 j a hj ha q.symm) hS1 hl.1 (by simp [jtoV, Value.category]) hf (lawD_ok d5) (fun H2 locs2 hPM2 hP2 hS2 => ?_)
  refine lv_icmp_eq (tgt := 1180) hx hb (lawD_ok d6) (by omega) (fun _ => ?_) (fun q => absurd rfl q)
  exact next H2 locs2 ad' ha ⟨hP2, hPM2, hD1, jW_D hDM, hap1, hS2⟩
end LRW
