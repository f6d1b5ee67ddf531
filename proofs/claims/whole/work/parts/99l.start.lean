/-! The law from its entry; the claim. -/
set_option maxRecDepth 100000 in
set_option maxHeartbeats 4000000 in
theorem law_K {s : State} {b : Nat} (hts : ∀ w ∈ lw_tbl, w.before #[Value.ref b] s = true) : ∃ (D : va_G) (cy : Nat → ClassId), va_K D vwCl (jtys cy) s := by
  have htJ : ∀ w ∈ jTB, w.before #[Value.ref b] s = true := fun w hw => hts w (List.mem_filter.mp hw).1
  obtain ⟨c0, i0, hKn0⟩ := u_known (C := RX0) (T := TX0) (N := 10) (n := 10) htJ jin_X0 (htJ _ (jTB_at 355 rfl rfl))
  obtain ⟨c1, i1, hKn1⟩ := u_known (C := RX1) (T := TX1) (N := 5) (n := 5) htJ jin_X1 (htJ _ (jTB_at 399 rfl rfl))
  obtain ⟨c2, i2, hKn2⟩ := u_known (C := RX2) (T := TX2) (N := 5) (n := 5) htJ jin_X2 (htJ _ (jTB_at 489 rfl rfl))
  obtain ⟨c3, i3, hKn3⟩ := u_known (C := RX3) (T := TX3) (N := 5) (n := 5) htJ jin_X3 (htJ _ (jTB_at 519 rfl rfl))
  obtain ⟨c4, i4, hKn4⟩ := u_known (C := RX4) (T := TX4) (N := 6) (n := 6) htJ jin_X4 (htJ _ (jTB_at 574 rfl rfl))
  obtain ⟨c5, i5, hKn5⟩ := u_known (C := RX5) (T := TX5) (N := 6) (n := 6) htJ jin_X5 (htJ _ (jTB_at 421 rfl rfl))
  obtain ⟨c6, i6, hKn6⟩ := u_known (C := RX6) (T := TX6) (N := 10) (n := 10) htJ jin_X6 (htJ _ (jTB_at 598 rfl rfl))
  obtain ⟨c7, i7, hKn7⟩ := u_known (C := RX7) (T := TX7) (N := 10) (n := 10) htJ jin_X7 (htJ _ (jTB_at 155 rfl rfl))
  obtain ⟨c8, i8, hKn8⟩ := u_known (C := RX8) (T := TX8) (N := 10) (n := 10) htJ jin_X8 (htJ _ (jTB_at 361 rfl rfl))
  obtain ⟨c9, i9, hKn9⟩ := u_known (C := RX9) (T := TX9) (N := 2) (n := 2) htJ jin_X9 (htJ _ (jTB_at 141 rfl rfl))
  obtain ⟨c10, i10, hKn10⟩ := u_known (C := RX10) (T := TX10) (N := 9) (n := 9) htJ jin_X10 (htJ _ (jTB_at 513 rfl rfl))
  obtain ⟨c11, i11, hKn11⟩ := u_known (C := RX11) (T := TX11) (N := 4) (n := 4) htJ jin_X11 (htJ _ (jTB_at 133 rfl rfl))
  obtain ⟨c12, i12, hKn12⟩ := u_known (C := RX12) (T := TX12) (N := 57) (n := 57) htJ jin_X12 (htJ _ (jTB_at 1332 rfl rfl))
  obtain ⟨dC, dI, hKc⟩ : ∃ (dC : Nat → ClassId) (dI : Nat → Nat → Nat), ∀ (k : Nat) (q : vw_C), vwCl[k]? = some q → u_Kn s q.1 q.2.1 q.2.2 (dC k) (dI k) := by
    refine ⟨fun k => match k with | 0 => c0 | 1 => c1 | 2 => c2 | 3 => c3 | 4 => c4 | 5 => c5 | 6 => c6 | 7 => c7 | 8 => c8 | 9 => c9 | 10 => c10 | 11 => c11 | _ => c12, fun k => match k with | 0 => i0 | 1 => i1 | 2 => i2 | 3 => i3 | 4 => i4 | 5 => i5 | 6 => i6 | 7 => i7 | 8 => i8 | 9 => i9 | 10 => i10 | 11 => i11 | _ => i12, ?_⟩
    intro k q hq
    match k, hq with
    | 0, hq => cases hq; exact hKn0
    | 1, hq => cases hq; exact hKn1
    | 2, hq => cases hq; exact hKn2
    | 3, hq => cases hq; exact hKn3
    | 4, hq => cases hq; exact hKn4
    | 5, hq => cases hq; exact hKn5
    | 6, hq => cases hq; exact hKn6
    | 7, hq => cases hq; exact hKn7
    | 8, hq => cases hq; exact hKn8
    | 9, hq => cases hq; exact hKn9
    | 10, hq => cases hq; exact hKn10
    | 11, hq => cases hq; exact hKn11
    | 12, hq => cases hq; exact hKn12
    | k + 13, hq => simp [vwCl] at hq
  obtain ⟨y0, k0, m0, a0, b0, d0⟩ := Cond.arrayClass_spec (htJ _ (jAr4 0 (by decide)))
  obtain ⟨y1, k1, m1, a1, b1, d1⟩ := Cond.arrayClass_spec (htJ _ (jAr4 1 (by decide)))
  obtain ⟨y2, k2, m2, a2, b2, d2⟩ := Cond.arrayClass_spec (htJ _ (jAr4 2 (by decide)))
  obtain ⟨y3, k3, m3, a3, b3, d3⟩ := Cond.arrayClass_spec (htJ _ (jAr4 3 (by decide)))
  obtain ⟨m4, y4, k4, e4, _, b4, d4, a4⟩ := Cond.arrayOver_spec (hts (.arrayOver (.object "LastLoses$Quotient")) (by decide +kernel))
  refine ⟨(dC, dI), fun k => match k with | 0 => y0 | 1 => y1 | 2 => y2 | 3 => y3 | _ => y4, hKc, fun k q hq => ?_⟩
  match k, hq with
  | 0, hq => cases hq; exact ⟨fun n z => ⟨fun k h => (by cases h), k0, b0, m0, d0⟩, a0⟩
  | 1, hq => cases hq; exact ⟨fun n z => ⟨fun k h => (by cases h), k1, b1, m1, d1⟩, a1⟩
  | 2, hq => cases hq; exact ⟨fun n z => ⟨fun k h => (by cases h), k2, b2, m2, d2⟩, a2⟩
  | 3, hq => cases hq; exact ⟨fun n z => ⟨fun k h => (by cases h), k3, b3, m3, d3⟩, a3⟩
  | 4, hq => cases hq; exact ⟨fun n z => ⟨fun k h => (by cases h), k4, b4, m4, d4⟩, k4, m4, b4, d4, e4, a4⟩
  | k + 5, hq => simp [jtys] at hq
theorem jW1 {ad : Nat → Nat} {cy : Nat → ClassId} {ci q : Nat} {fks : List jxF} (h : jgnu fks = true) (hq : ad 0 = q) : jW ad cy [.inl (ci, fks)] jz = [(q, .inr (ci, fks.map jgdv))] := by
  have e : fks.mapIdx (fun k fk => jfv ad (jz 0) k fk) = fks.map jgdv := jgnu_v (fun _ => rfl) h
  show [(ad 0, Sum.inr (ci, fks.mapIdx (fun k fk => jfv ad (jz 0) k fk)))] = _
  rw [e, hq]
set_option maxRecDepth 100000 in
set_option maxHeartbeats 4000000 in
theorem whole_start {p : Program} {e : Env} {s : State} {m : MethodId} {below : List Frame} {meth : Method} {c : Code} (l : Launch) (hflags : l.flags = flags0) {b L : Nat} {xs : Nat → Int32} (hL : L ≤ 3072) (C0 : lw_At p s m meth c b L xs) : W p l e room_1 s m #[Value.ref b] below meth c s.heap [] 0 0 (lw_Z below #[Value.ref b] s) (entryFrame m ([Value.ref b] : List Value).toArray 4) := by
  obtain ⟨hx, hb, hr, hml, hown, hts, hX, hbl, hlocks, hgv⟩ := id C0
  have htJ : ∀ w ∈ jTB, w.before #[Value.ref b] s = true := fun w hw => hts w (List.mem_filter.mp hw).1
  have hAO : va_AO "LastLoses$Quotient" s := va_AO.of (hts (.arrayOver (.object "LastLoses$Quotient")) (by decide +kernel))
  obtain ⟨D, cy, hK⟩ := law_K hts
  obtain ⟨ad0, hBG0⟩ := jBG_start hts hgv
  have hw : jLw p s m c b D cy := ⟨hx, hb, hml, hown, htJ, hK, hAO⟩
  obtain ⟨σm, i1, i2⟩ := fresh_R0 (F := 6000) (by decide)
  have hA : ∀ q : Nat, s.heap.size ≤ q → (fun q : Nat => s.heap.size ≤ q) q := fun _ h => h
  have hS : va_S (fun q : Nat => s.heap.size ≤ q) s.heap s.heap [] := va_S.rf
  have hP : va_P D vwCl [] s.heap := fun k q h => by simp at h
  have hD : va_D (fun q : Nat => s.heap.size ≤ q) [] := ⟨fun i j p q h => by simp at h, fun k q h => by simp at h⟩
  have hl := lv_entry ([.ref b]) (n := 4) (Nat.le_of_ble_eq_true rfl)
  rw [lg_entry_eq]
  generalize (lg_sl ([.ref b]) ++ List.replicate (4 - (lg_sl ([.ref b])).length) Slot.unset).toArray = ls at hl ⊢
  have hl : lv_has ls 4 [(0, .ref b)] := hl
  obtain ⟨C1, U1, ty1, n1, n2, n3, n4, n5, n6, n7, n8⟩ := jnw_L_7
  refine va_new (ci := 11) (fs := ([.inr none, .inr none, .inr none, .inl 0] : List jxF).map jgdv) (C := C1) (T := U1) hx hb htJ n2 ty1 n3 hown (htJ _ n4) (htJ _ n5) (htJ _ n6) hK hP hD hS hA n1 n7 (Nat.le_of_ble_eq_true rfl) (Nat.le_of_ble_eq_true rfl) dl_0 (fun q0 H0 hP0 hD0 hS0 => ?_)
  refine lv_dup hx hb dl_3 rfl ?_
  have ea : jgad ad0 0 q0 0 = q0 := if_pos rfl
  have eW : jW (jgad ad0 0 q0) cy jshL jz = [(q0, .inr (11, ([.inr none, .inr none, .inr none, .inl 0] : List jxF).map jgdv))] := jW1 rfl ea
  have hBC : jBG (jgad ad0 0 q0) (fun q => s.heap.size ≤ q) s := jBG_ad (fun i hi => if_neg (by omega)) hBG0
  rw [show (Value.ref q0 :: Value.ref q0 :: ([] : List Value)) = .ref (jgad ad0 0 q0 0) :: [.ref q0] by rw [ea]]
  refine law_callI (sh2 := []) (ad2 := ad0) (σ2 := jz) met_L jli_L_9 ⟨jble rfl, jble rfl⟩ hw hBC (by rw [eW]; exact hP0) (fun k q h => by simp [jW] at h) (by rw [eW]; exact hD0) (fun i j _ hj => absurd hj (by simp)) hS0 hl.1 (by simp [Value.category]) ⟨jble rfl, jble rfl⟩ dl_4 (fun H1 locs1 adC ha1 hP1 hD1 _ _ hS1 => ?_)
  have hBC1 : jBG adC (fun q => s.heap.size ≤ q) s := jBG_ad (fun i hi => ha1 i (Or.inr hi)) hBC
  have e0 : adC 0 = q0 := (ha1 0 (Or.inl (by decide))).trans ea
  refine lv_astore_n (lv' := [(1, .ref q0), (0, .ref b)]) hx hb dl_7 rfl hl (by decide) rfl (fun ls hl => ?_)
  obtain ⟨C2, U2, ty2, g1, g2, g3, g4, g5, g6, g7, g8⟩ := jnw_L_10
  refine va_new (ci := 12) (fs := ([.inr none, .inl 0, .inl 0, .inl 0, .inl 0, .inr none, .inl 0, .inl 0, .inr none, .inr none, .inr none, .inl 0, .inl 0, .inl 2, .inr none, .inr none, .inr none, .inl 0, .inr none, .inr none, .inr none, .inr none, .inr none, .inr none, .inl 0, .inr none, .inr none, .inr none, .inr none, .inr none, .inr none, .inr none, .inl 0, .inr none, .inr none, .inr none, .inr none, .inl 0, .inr none, .inr none, .inl 0, .inr none, .inr none, .inl 0, .inl 1, .inr none, .inr none, .inr none, .inr none, .inr none, .inr none, .inr none, .inr none, .inr none, .inr none, .inr none, .inr none] : List jxF).map jgdv) (C := C2) (T := U2) hx hb htJ g2 ty2 g3 hown (htJ _ g4) (htJ _ g5) (htJ _ g6) hK hP1 hD1 hS1 hA g1 g7 (Nat.le_of_ble_eq_true rfl) (Nat.le_of_ble_eq_true rfl) dl_8 (fun q1 H2 hP2 hD2 hS2 => ?_)
  refine lv_dup hx hb dl_11 rfl ?_
  have ea1 : jgad ad0 0 q1 0 = q1 := if_pos rfl
  have eW1 : jW (jgad ad0 0 q1) cy jshN jz = [(q1, .inr (12, ([.inr none, .inl 0, .inl 0, .inl 0, .inl 0, .inr none, .inl 0, .inl 0, .inr none, .inr none, .inr none, .inl 0, .inl 0, .inl 2, .inr none, .inr none, .inr none, .inl 0, .inr none, .inr none, .inr none, .inr none, .inr none, .inr none, .inl 0, .inr none, .inr none, .inr none, .inr none, .inr none, .inr none, .inr none, .inl 0, .inr none, .inr none, .inr none, .inr none, .inl 0, .inr none, .inr none, .inl 0, .inr none, .inr none, .inl 0, .inl 1, .inr none, .inr none, .inr none, .inr none, .inr none, .inr none, .inr none, .inr none, .inr none, .inr none, .inr none, .inr none] : List jxF).map jgdv))] := jW1 rfl ea1
  have hBM : jBG (jgad ad0 0 q1) (fun q => s.heap.size ≤ q) s := jBG_ad (fun i hi => if_neg (by omega)) hBG0
  generalize hev : (Sum.inr (12, ([.inr none, .inl 0, .inl 0, .inl 0, .inl 0, .inr none, .inl 0, .inl 0, .inr none, .inr none, .inr none, .inl 0, .inl 0, .inl 2, .inr none, .inr none, .inr none, .inl 0, .inr none, .inr none, .inr none, .inr none, .inr none, .inr none, .inl 0, .inr none, .inr none, .inr none, .inr none, .inr none, .inr none, .inr none, .inl 0, .inr none, .inr none, .inr none, .inr none, .inl 0, .inr none, .inr none, .inl 0, .inr none, .inr none, .inl 0, .inl 1, .inr none, .inr none, .inr none, .inr none, .inr none, .inr none, .inr none, .inr none, .inr none, .inr none, .inr none, .inr none] : List jxF).map jgdv) : va_E) = ev at hP2 hD2 eW1
  have hPC : va_P D vwCl (jW adC cy jshL0 (jup jz 0 3 0)) H2 := fun k x hk => hP2 k x (by rw [List.getElem?_append_left (List.getElem?_eq_some_iff.mp hk).1]; exact hk)
  have hlen : (jW adC cy jshL0 (jup jz 0 3 0)).length = 9 := by rw [jW, List.length_mapIdx]; rfl
  have hlast : (jW adC cy jshL0 (jup jz 0 3 0) ++ [(q1, ev)])[9]? = some (q1, ev) := by rw [List.getElem?_append_right (by omega), hlen]; rfl
  have hPN : va_P D vwCl [(q1, ev)] H2 := fun k x hk => by
    match k, hk with
    | 0, hk => cases hk; exact hP2 9 _ hlast
    | k + 1, hk => simp at hk
  have hDN : va_D (fun q : Nat => s.heap.size ≤ q) [(q1, ev)] := ⟨fun i j x y hi hj _ => by
    match i, j, hi, hj with
    | 0, 0, _, _ => rfl
    | k + 1, _, hi, _ => simp at hi
    | _, k + 1, _, hj => simp at hj, fun k x hk => by
    match k, hk with
    | 0, hk => cases hk; exact hD2.2 9 _ hlast
    | k + 1, hk => simp at hk⟩
  have hapN : ∀ i j, i < jshN.length → j < jshL0.length → jgad ad0 0 q1 i ≠ adC j := fun i j hi hj q => by
    have hi0 : i = 0 := by have : i < 1 := hi; omega
    subst hi0
    rw [ea1] at q
    obtain ⟨ev2, hev2⟩ := jW_ad_at (ad := adC) (cy := cy) (σ := jup jz 0 3 0) hj
    have h9 := hD2.1 9 j _ _ hlast (by rw [List.getElem?_append_left (List.getElem?_eq_some_iff.mp hev2).1]; exact hev2) q
    have : j < 9 := hj
    omega
  rw [show (Value.ref q1 :: Value.ref q1 :: ([] : List Value)) = .ref (jgad ad0 0 q1 0) :: [.ref q1] by rw [ea1]]
  refine law_callI (sh2 := jshL0) (ad2 := adC) (σ2 := jup jz 0 3 0) (met_M i1) jli_L_12 ⟨jble rfl, jble rfl⟩ hw hBM (by rw [eW1]; exact hPN) hPC (by rw [eW1]; exact hDN) hapN hS2 hl.1 (by simp [Value.category]) ⟨jble rfl, jble rfl⟩ dl_12 (fun H3 locs3 adM ha3 hP3 hD3 hPC3 hap3 hS3 => ?_)
  have hBM1 : jBG adM (fun q => s.heap.size ≤ q) s := jBG_ad (fun i hi => ha3 i (Or.inr hi)) hBM
  have e1 : adM 0 = q1 := (ha3 0 (Or.inl (by decide))).trans ea1
  refine lv_astore_n (lv' := [(2, .ref q1), (1, .ref q0), (0, .ref b)]) hx hb dl_15 rfl hl (by decide) rfl (fun ls hl => ?_)
  refine lv_iconst (v := jI ((0 : Nat) : Int)) hx hb dl_16 (by decide) ?_
  refine lv_istore_n (lv' := [(3, .int (jI ((0 : Nat) : Int))), (2, .ref q1), (1, .ref q0), (0, .ref b)]) hx hb dl_17 rfl hl (by decide) rfl (fun ls hl => ?_)
  exact law_loop (F := 6000) (Nat.le_refl _) hL C0 hw (L + 1) 0 (Nat.zero_le L) (by omega) jshL0 (jup jz 0 3 0) σm adC adM _ _ H3 locs3 ls (Or.inl ⟨rfl, i2⟩) (Or.inl ⟨rfl, rfl, rfl⟩) hBC1 hBM1 ⟨hPC3, hP3, hD1, hD3, fun i j hi hj q => hap3 j i hj hi q.symm, hS3⟩ (by rw [e0, e1]; exact lv_sub hl [3, 2, 1, 0] rfl)
