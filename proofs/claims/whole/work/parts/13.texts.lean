/-! Texts: length and charAt of the constants. -/
theorem jdd {X : jxX} {bytes : ByteArray} {pc n : Nat} {i : Instr} (h : jcc X = bytes) (e : decode bytes pc = .ok (i, n)) : decode (jcc X) pc = .ok (i, n) := by rw [h]; exact e
theorem jCallT {X : jxX} {y : MethodName} {bytes : ByteArray} {maxL fr lo kd n idx i : Nat} {σ σ1 : jxS} {v : Option jxV} {as : List jxV} (hi : i < 4) (hX : jOK X) (hl : jLkV (jown X) idx y bytes maxL kd n) (hr : fr + 1 ≤ (jroom X).frames ∧ 8 + (maxL + 11) + lo ≤ (jroom X).locals) (hc : y.cls = "java/lang/String") (hn : as.length = n)
    (hM : jMC y bytes maxL (jrt kd) fr lo (jsh X) σ (jmr (1002 + i) :: as) v σ1) : jCall X (.invokevirtual idx) (jmr (1002 + i) :: as) v σ σ1 := by
  intro Q pc loc rest hd hcat hk
  obtain ⟨p, l, e, R, s, m, args, below, meth, c, cc, nL, own, D, cy, A, ad, sh, kd', ca, sl⟩ := X
  obtain ⟨hx, hb, hml, hown, hts, hlk, hK, hA, hBG, hrt, hca, hsl⟩ := hX
  intro H locs ls hP hD hS hL
  have hg := jGoodV hl
  obtain ⟨h1, h2, h3, h4, h5, h6⟩ := hl
  have hrc : ∃ cell : Cell, H[ad (1002 + i)]? = some cell ∧ cell.vm.isStatics = false ∧ s.vm.findClass y.cls = some cell.cls := by rw [hc]; exact vk_recv (adK := fun i => ad (1002 + i)) (i := i) hBG.2.2.2.2.2.1 hi hS
  have hrun : va_Run p l e R s m args below meth c H locs ca sl 0 0 (F0 m pc ls (((jmr (1002 + i) :: as).reverse ++ rest).map (jtoV ad))) (rest.map (jtoV ad)) (jQc D cy A ad sh v σ1 ((jmr (1002 + i) :: as).map (jtoV ad)).toArray) A := va_runV (g := F0 m pc ls (((jmr (1002 + i) :: as).reverse ++ rest).map (jtoV ad))) (rest := rest.map (jtoV ad)) (locs := locs) (cells := ca) (slots := sl) (nL := nL) (As := as.map (jtoV ad)) (b := ad (1002 + i)) ⟨hx, hb, hml, hown, hts⟩ (hM l D cy A ad) (cwV n hts hg rfl rfl rfl ⟨rfl, h6⟩ hr) ⟨jPc_blind, hrc, fun U hU hW => jpre (as := jmr (1002 + i) :: as) hP hD hS hK hA hBG U hU hW⟩ rfl (by simpa using hn) hL.1
    (by simp [List.map_append, List.map_reverse, jtoV]) (lv_room (by rw [jcat_sum]; exact hcat)) hd ⟨hca, hsl⟩
  refine jcall_on hrun hS (fun H1 locs1 hP1 hS1 => ?_)
  have k := hk H1 locs1 ls hP1 (jW_D hD) hS1 hL
  cases v with
  | none => exact k
  | some w => exact k
set_option maxRecDepth 100000 in
theorem jt_coder {i : Nat} (hi : i < 4) (sh : List jxC) (σ0 : jxS) : jMC yJ0_coder_7d493 cJ0_coder_7d493 1 (jrt 6) 0 0 sh σ0 [jmr (1002 + i)] (jrv 6 0) σ0 := by
  refine jMC_of (kd := 6) (f := some (0, σ0)) (by decide) rfl rfl ?_
  intro X hX x σ' h
  cases h
  rw [hX.2.2.2.2.2]
  refine jt_cmp hX.1 (by rw [hX.2.2.1]; exact (jTB_at 273 rfl rfl)) (jdd hX.2.1 (by decide +kernel : decode cJ0_coder_7d493 0 = .ok (.getstatic 38, 3))) ?_
  refine jn_if_eq hX.1 (by decide) (jdd hX.2.1 (by decide +kernel : decode cJ0_coder_7d493 3 = .ok (.ifCond .eq 10, 3))) (by decide) ?_
  refine jw_lda_n (n := 0) (x := 1002 + i) rfl hX.1 (jdd hX.2.1 (by decide +kernel : decode cJ0_coder_7d493 6 = .ok (.aload_n 0, 1))) ?_
  refine jt_cod hi hX.1 (by rw [hX.2.2.1]; exact (jTB_at 1942 rfl rfl)) (jdd hX.2.1 (by decide +kernel : decode cJ0_coder_7d493 7 = .ok (.getfield 15, 3))) ?_
  refine jw_goto (t := 14) (x := 0) hX.1 rfl (jdd hX.2.1 (by decide +kernel : decode cJ0_coder_7d493 10 = .ok (.goto 4, 3))) ?_
  exact jt_bret hX.1 hX.2.2.2.2.2 (jdd hX.2.1 (by decide +kernel : decode cJ0_coder_7d493 14 = .ok (.ireturn, 1)))
set_option maxRecDepth 100000 in
theorem jt_isLatin1 {i : Nat} (hi : i < 4) (sh : List jxC) (σ0 : jxS) : jMC yJ0_isLatin1_aae02 cJ0_isLatin1_aae02 1 (jrt 4) 0 0 sh σ0 [jmr (1002 + i)] (jrv 4 1) σ0 := by
  refine jMC_of (kd := 4) (f := some (1, σ0)) (by decide) rfl rfl ?_
  intro X hX x σ' h
  cases h
  rw [hX.2.2.2.2.2]
  refine jt_cmp hX.1 (by rw [hX.2.2.1]; exact (jTB_at 273 rfl rfl)) (jdd hX.2.1 (by decide +kernel : decode cJ0_isLatin1_aae02 0 = .ok (.getstatic 38, 3))) ?_
  refine jn_if_eq hX.1 (by decide) (jdd hX.2.1 (by decide +kernel : decode cJ0_isLatin1_aae02 3 = .ok (.ifCond .eq 14, 3))) (by decide) ?_
  refine jw_lda_n (n := 0) (x := 1002 + i) rfl hX.1 (jdd hX.2.1 (by decide +kernel : decode cJ0_isLatin1_aae02 6 = .ok (.aload_n 0, 1))) ?_
  refine jt_cod hi hX.1 (by rw [hX.2.2.1]; exact (jTB_at 1942 rfl rfl)) (jdd hX.2.1 (by decide +kernel : decode cJ0_isLatin1_aae02 7 = .ok (.getfield 15, 3))) ?_
  refine jn_if_ne hX.1 (by decide) (jdd hX.2.1 (by decide +kernel : decode cJ0_isLatin1_aae02 10 = .ok (.ifCond .ne 7, 3))) (by decide) ?_
  refine jw_iconst hX.1 (jdd hX.2.1 (by decide +kernel : decode cJ0_isLatin1_aae02 13 = .ok (.iconst 1, 1))) ?_
  refine jw_goto (t := 18) (x := 0) hX.1 rfl (jdd hX.2.1 (by decide +kernel : decode cJ0_isLatin1_aae02 14 = .ok (.goto 4, 3))) ?_
  exact jw_zret hX.1 hX.2.2.2.2.2 (Or.inr rfl) (jdd hX.2.1 (by decide +kernel : decode cJ0_isLatin1_aae02 18 = .ok (.ireturn, 1)))
set_option maxRecDepth 100000 in
theorem jt_length {i : Nat} (hi : i < 4) (sh : List jxC) (σ0 : jxS) : jMC yJ0_length_8abf5 cJ0_length_8abf5 1 (jrt 1) 1 20 sh σ0 [jmr (1002 + i)] (jrv 1 (jshr (jslen.getD i 0 : Nat) 0)) σ0 := by
  refine jMC_of (kd := 1) (f := some ((jshr (jslen.getD i 0 : Nat) 0), σ0)) (by decide) rfl rfl ?_
  intro X hX x σ' h
  cases h
  rw [hX.2.2.2.2.2]
  refine jw_lda_n (n := 0) (x := 1002 + i) rfl hX.1 (jdd hX.2.1 (by decide +kernel : decode cJ0_length_8abf5 0 = .ok (.aload_n 0, 1))) ?_
  refine jt_val hi hX.1 (by rw [hX.2.2.1]; exact (jTB_at 1941 rfl rfl)) (jdd hX.2.1 (by decide +kernel : decode cJ0_length_8abf5 1 = .ok (.getfield 9, 3))) ?_
  refine jt_len hi hX.1 (jdd hX.2.1 (by decide +kernel : decode cJ0_length_8abf5 4 = .ok (.arraylength, 1))) ?_
  refine jw_lda_n (n := 0) (x := 1002 + i) rfl hX.1 (jdd hX.2.1 (by decide +kernel : decode cJ0_length_8abf5 5 = .ok (.aload_n 0, 1))) ?_
  refine jCallT (n := 0) (as := []) hi hX.1 (fr := 0) (lo := 0) (by rw [hX.2.2.1]; exact ⟨(jTB_at 269 rfl rfl), (jTB_at 270 rfl rfl), (jTB_at 271 rfl rfl), (jTB_at 116 rfl rfl), jTB_at 272 rfl rfl, ⟨by decide, by decide, by decide +kernel⟩⟩) ⟨by rw [hX.2.2.2.1.1]; decide, by rw [hX.2.2.2.1.2]; decide⟩ rfl rfl (jt_coder hi (jsh X) σ0) _ 6 _ [jmi _] (jdd hX.2.1 (by decide +kernel : decode cJ0_length_8abf5 6 = .ok (.invokevirtual 335, 3))) (Nat.le_of_ble_eq_true rfl) ?_
  refine jw_ishr hX.1 (jdd hX.2.1 (by decide +kernel : decode cJ0_length_8abf5 9 = .ok (.ishr, 1))) ?_
  exact jw_iret hX.1 hX.2.2.2.2.2 (jdd hX.2.1 (by decide +kernel : decode cJ0_length_8abf5 10 = .ok (.ireturn, 1)))
set_option maxRecDepth 100000 in
theorem jt_pre {v : jxV} (hv : v = jmn ∨ v = jmr 1010) {z n : Int} (hz : 0 ≤ z ∧ z < n ∧ n < 1000) (sh : List jxC) (σ0 : jxS) : jMC yJ3_checkIndex_8e157 cJ3_checkIndex_8e157 3 (jrt 1) 0 0 sh σ0 [jmi z, jmi n, v] (jrv 1 z) σ0 := by
  refine jMC_of (kd := 1) (f := some (z, σ0)) (by decide) (by rcases hv with rfl | rfl <;> rfl) rfl ?_
  intro X hX x σ' h
  cases h
  rw [hX.2.2.2.2.2]
  have e1 : jw z = z := jw_id (by omega) (by omega)
  have e2 : jw n = n := jw_id (by omega) (by omega)
  have hp : jpad 3 [jmi z, jmi n, v] = [some (jmi z), some (jmi n), some v] := by rcases hv with rfl | rfl <;> rfl
  rw [hp]
  refine jw_ldi_n (n := 0) (x := z) rfl hX.1 (jdd hX.2.1 (by decide +kernel : decode cJ3_checkIndex_8e157 0 = .ok (.iload_n 0, 1))) ?_
  refine jn_if_lt hX.1 (by omega) (jdd hX.2.1 (by decide +kernel : decode cJ3_checkIndex_8e157 1 = .ok (.ifCond .lt 8, 3))) (by decide) ?_
  refine jw_ldi_n (n := 0) (x := z) rfl hX.1 (jdd hX.2.1 (by decide +kernel : decode cJ3_checkIndex_8e157 4 = .ok (.iload_n 0, 1))) ?_
  refine jw_ldi_n (n := 1) (x := n) rfl hX.1 (jdd hX.2.1 (by decide +kernel : decode cJ3_checkIndex_8e157 5 = .ok (.iload_n 1, 1))) ?_
  refine jw_icmp_lt (t := 16) hX.1 rfl (jdd hX.2.1 (by decide +kernel : decode cJ3_checkIndex_8e157 6 = .ok (.if_icmp .lt 10, 3))) (fun _ => ?_) (fun q => absurd (by omega) q)
  refine jw_ldi_n (n := 0) (x := z) rfl hX.1 (jdd hX.2.1 (by decide +kernel : decode cJ3_checkIndex_8e157 16 = .ok (.iload_n 0, 1))) ?_
  exact jw_iret hX.1 hX.2.2.2.2.2 (jdd hX.2.1 (by decide +kernel : decode cJ3_checkIndex_8e157 17 = .ok (.ireturn, 1)))
set_option maxRecDepth 100000 in
theorem jt_chk {z n : Int} (hz : 0 ≤ z ∧ z < n ∧ n < 1000) (sh : List jxC) (σ0 : jxS) : jMC yJ0_checkIndex_df160 cJ0_checkIndex_df160 2 (jrt 0) 1 22 sh σ0 [jmi z, jmi n] (jrv 0 0) σ0 := by
  refine jMC_of (kd := 0) (f := some (0, σ0)) (by decide) rfl rfl ?_
  intro X hX x σ' h
  cases h
  rw [hX.2.2.2.2.2]
  refine jw_ldi_n (n := 0) (x := z) rfl hX.1 (jdd hX.2.1 (by decide +kernel : decode cJ0_checkIndex_df160 0 = .ok (.iload_n 0, 1))) ?_
  refine jw_ldi_n (n := 1) (x := n) rfl hX.1 (jdd hX.2.1 (by decide +kernel : decode cJ0_checkIndex_df160 1 = .ok (.iload_n 1, 1))) ?_
  refine jt_fmt hX.1 (by rw [hX.2.2.1]; exact (jTB_at 289 rfl rfl)) (jdd hX.2.1 (by decide +kernel : decode cJ0_checkIndex_df160 2 = .ok (.getstatic 1053, 3))) (fun v hv => ?_)
  refine jCallS (n := 3) (as := [jmi z, jmi n, v]) hX.1 (fr := 0) (lo := 0) (by rw [hX.2.2.1]; exact ⟨Or.inl (jTB_at 291 rfl rfl), (jTB_at 292 rfl rfl), (jTB_at 118 rfl rfl), jTB_at 293 rfl rfl, ⟨by decide, by decide, by decide +kernel⟩⟩) ⟨by rw [hX.2.2.2.1.1]; decide, by rw [hX.2.2.2.1.2]; decide⟩ rfl (jt_pre hv hz (jsh X) σ0) _ 5 _ [] (jdd hX.2.1 (by decide +kernel : decode cJ0_checkIndex_df160 5 = .ok (.invokestatic 1059, 3))) (by decide) ?_
  refine jw_popi hX.1 (jdd hX.2.1 (by decide +kernel : decode cJ0_checkIndex_df160 8 = .ok (.pop, 1))) ?_
  exact jw_vret hX.1 hX.2.2.2.2.2 (jdd hX.2.1 (by decide +kernel : decode cJ0_checkIndex_df160 9 = .ok (.return_, 1)))
theorem jt_byte {i : Nat} (hi : i < 4) {z : Int} (hz : 0 ≤ z ∧ z < (jslen.getD i 0 : Nat)) : (0 ≤ jand ((jsbyt.getD i []).getD z.toNat 0).toInt 255 ∧ jand ((jsbyt.getD i []).getD z.toNat 0).toInt 255 < 65536) ∧ ((jslen.getD i 0 : Nat) : Int) < 1000 := by
  have h : ∀ i, i < 4 → ∀ k, k < 5 → (0 ≤ jand ((jsbyt.getD i []).getD k 0).toInt 255 ∧ jand ((jsbyt.getD i []).getD k 0).toInt 255 < 65536) := by decide
  have h2 : ∀ i, i < 4 → jslen.getD i 0 ≤ 5 := by decide
  have h3 := h2 i hi
  refine ⟨h i hi z.toNat (by omega), by omega⟩
set_option maxRecDepth 100000 in
theorem jt_lat {i : Nat} (hi : i < 4) {z : Int} (hz : 0 ≤ z ∧ z < (jslen.getD i 0 : Nat)) (sh : List jxC) (σ0 : jxS) : jMC yJ1_charAt_3b067 cJ1_charAt_3b067 2 (jrt 5) 2 43 sh σ0 [jmr (1006 + i), jmi z] (jrv 5 (jand ((jsbyt.getD i []).getD z.toNat 0).toInt 255)) σ0 := by
  refine jMC_of (kd := 5) (f := some ((jand ((jsbyt.getD i []).getD z.toNat 0).toInt 255), σ0)) (by decide) rfl rfl ?_
  intro X hX x σ' h
  cases h
  rw [hX.2.2.2.2.2]
  obtain ⟨g1, g2⟩ := jt_byte hi hz
  refine jw_ldi_n (n := 1) (x := z) rfl hX.1 (jdd hX.2.1 (by decide +kernel : decode cJ1_charAt_3b067 0 = .ok (.iload_n 1, 1))) ?_
  refine jw_lda_n (n := 0) (x := 1006 + i) rfl hX.1 (jdd hX.2.1 (by decide +kernel : decode cJ1_charAt_3b067 1 = .ok (.aload_n 0, 1))) ?_
  refine jt_len hi hX.1 (jdd hX.2.1 (by decide +kernel : decode cJ1_charAt_3b067 2 = .ok (.arraylength, 1))) ?_
  refine jCallS (n := 2) (as := [jmi z, jmi _]) hX.1 (fr := 1) (lo := 22) (by rw [hX.2.2.1]; exact ⟨Or.inl (jTB_at 286 rfl rfl), (jTB_at 287 rfl rfl), (jTB_at 116 rfl rfl), jTB_at 288 rfl rfl, ⟨by decide, by decide, by decide +kernel⟩⟩) ⟨by rw [hX.2.2.2.1.1]; decide, by rw [hX.2.2.2.1.2]; decide⟩ rfl (jt_chk ⟨hz.1, hz.2, g2⟩ (jsh X) σ0) _ 3 _ [] (jdd hX.2.1 (by decide +kernel : decode cJ1_charAt_3b067 3 = .ok (.invokestatic 9, 3))) (by decide) ?_
  refine jw_lda_n (n := 0) (x := 1006 + i) rfl hX.1 (jdd hX.2.1 (by decide +kernel : decode cJ1_charAt_3b067 6 = .ok (.aload_n 0, 1))) ?_
  refine jw_ldi_n (n := 1) (x := z) rfl hX.1 (jdd hX.2.1 (by decide +kernel : decode cJ1_charAt_3b067 7 = .ok (.iload_n 1, 1))) ?_
  refine jt_at hi hz hX.1 (jdd hX.2.1 (by decide +kernel : decode cJ1_charAt_3b067 8 = .ok (.baload, 1))) ?_
  refine jw_sipush (by decide) hX.1 (jdd hX.2.1 (by decide +kernel : decode cJ1_charAt_3b067 9 = .ok (.sipush 255, 3))) ?_
  refine jw_iand hX.1 (jdd hX.2.1 (by decide +kernel : decode cJ1_charAt_3b067 12 = .ok (.iand, 1))) ?_
  refine jt_i2c g1 hX.1 (jdd hX.2.1 (by decide +kernel : decode cJ1_charAt_3b067 13 = .ok (.i2c, 1))) ?_
  exact jt_cret g1 hX.1 hX.2.2.2.2.2 (jdd hX.2.1 (by decide +kernel : decode cJ1_charAt_3b067 14 = .ok (.ireturn, 1)))
set_option maxRecDepth 100000 in
theorem jt_charAt {i : Nat} (hi : i < 4) {z : Int} (hz : 0 ≤ z ∧ z < (jslen.getD i 0 : Nat)) (sh : List jxC) (σ0 : jxS) : jMC yJ0_charAt_5068e cJ0_charAt_5068e 2 (jrt 5) 3 64 sh σ0 [jmr (1002 + i), jmi z] (jrv 5 (jand ((jsbyt.getD i []).getD z.toNat 0).toInt 255)) σ0 := by
  refine jMC_of (kd := 5) (f := some ((jand ((jsbyt.getD i []).getD z.toNat 0).toInt 255), σ0)) (by decide) rfl rfl ?_
  intro X hX x σ' h
  cases h
  rw [hX.2.2.2.2.2]
  obtain ⟨g1, g2⟩ := jt_byte hi hz
  refine jw_lda_n (n := 0) (x := 1002 + i) rfl hX.1 (jdd hX.2.1 (by decide +kernel : decode cJ0_charAt_5068e 0 = .ok (.aload_n 0, 1))) ?_
  refine jCallT (n := 0) (as := []) hi hX.1 (fr := 0) (lo := 0) (by rw [hX.2.2.1]; exact ⟨(jTB_at 279 rfl rfl), (jTB_at 280 rfl rfl), (jTB_at 281 rfl rfl), (jTB_at 116 rfl rfl), jTB_at 282 rfl rfl, ⟨by decide, by decide, by decide +kernel⟩⟩) ⟨by rw [hX.2.2.2.1.1]; decide, by rw [hX.2.2.2.1.2]; decide⟩ rfl rfl (jt_isLatin1 hi (jsh X) σ0) _ 1 _ [] (jdd hX.2.1 (by decide +kernel : decode cJ0_charAt_5068e 1 = .ok (.invokevirtual 492, 3))) (by decide) ?_
  refine jn_if_eq hX.1 (by decide) (jdd hX.2.1 (by decide +kernel : decode cJ0_charAt_5068e 4 = .ok (.ifCond .eq 12, 3))) (by decide) ?_
  refine jw_lda_n (n := 0) (x := 1002 + i) rfl hX.1 (jdd hX.2.1 (by decide +kernel : decode cJ0_charAt_5068e 7 = .ok (.aload_n 0, 1))) ?_
  refine jt_val hi hX.1 (by rw [hX.2.2.1]; exact (jTB_at 1941 rfl rfl)) (jdd hX.2.1 (by decide +kernel : decode cJ0_charAt_5068e 8 = .ok (.getfield 9, 3))) ?_
  refine jw_ldi_n (n := 1) (x := z) rfl hX.1 (jdd hX.2.1 (by decide +kernel : decode cJ0_charAt_5068e 11 = .ok (.iload_n 1, 1))) ?_
  refine jCallS (n := 2) (as := [jmr (1006 + i), jmi z]) hX.1 (fr := 2) (lo := 43) (by rw [hX.2.2.1]; exact ⟨Or.inl (jTB_at 283 rfl rfl), (jTB_at 284 rfl rfl), (jTB_at 117 rfl rfl), jTB_at 285 rfl rfl, ⟨by decide, by decide, by decide +kernel⟩⟩) ⟨by rw [hX.2.2.2.1.1]; decide, by rw [hX.2.2.2.1.2]; decide⟩ rfl (jt_lat hi hz (jsh X) σ0) _ 12 _ [] (jdd hX.2.1 (by decide +kernel : decode cJ0_charAt_5068e 12 = .ok (.invokestatic 495, 3))) (by decide) ?_
  exact jt_cret g1 hX.1 hX.2.2.2.2.2 (jdd hX.2.1 (by decide +kernel : decode cJ0_charAt_5068e 15 = .ok (.ireturn, 1)))
def jca_stlength : jxA := fun as σ k => match as with
  | [.inr (.inr (.inl w))] => bif (Nat.ble 1002 w && Nat.ble w 1005) then k (some (jmi (jstl w))) σ else none
  | _ => none
def jca_stcharAt : jxA := fun as σ k => match as with
  | [.inr (.inr (.inl w)), .inl x] => bif (Nat.ble 1002 w && Nat.ble w 1005) then (if 0 ≤ x ∧ x < jstl w then k (some (jmi (jsta w x))) σ else none) else none
  | _ => none
theorem jstw {w : Nat} (h : (Nat.ble 1002 w && Nat.ble w 1005) = true) : ∃ i, i < 4 ∧ w = 1002 + i := by
  simp only [Bool.and_eq_true] at h
  have h1 := jble h.1
  have h2 := jble h.2
  exact ⟨w - 1002, by omega, by omega⟩
set_option maxRecDepth 100000 in
theorem js_stlength {fr lo : Nat} {sh : List jxC} (hf : 2 ≤ fr) (ho : 60 ≤ lo) : jSite RX7 fr lo sh (107, (1, false), jca_stlength) := by
  intro X hX ho' hR hs as σ k x σ' h
  simp only [jca_stlength] at h
  split at h
  · rename_i w
    obtain ⟨g1, h1⟩ := jcond h
    obtain ⟨i, hi, rfl⟩ := jstw g1
    refine ⟨_, _, h1, ?_⟩
    have e : jstl (1002 + i) = jshr (jslen.getD i 0 : Nat) 0 := by
      have : ∀ i, i < 4 → jstl (1002 + i) = jshr (jslen.getD i 0 : Nat) 0 := by decide
      exact this i hi
    rw [e]
    exact jCallT (n := 0) (as := []) hi hX (fr := 1) (lo := 20) (by rw [ho']; exact ⟨(jTB_at 265 rfl rfl), (jTB_at 266 rfl rfl), (jTB_at 267 rfl rfl), (jTB_at 116 rfl rfl), jTB_at 268 rfl rfl, ⟨by decide, by decide, by decide +kernel⟩⟩) ⟨by rw [hR.1]; exact hf, by rw [hR.2]; omega⟩ rfl rfl (jt_length hi (jsh X) σ)
  · cases h
set_option maxRecDepth 100000 in
theorem js_stcharAt {fr lo : Nat} {sh : List jxC} (hf : 4 ≤ fr) (ho : 100 ≤ lo) : jSite RX7 fr lo sh (112, (2, false), jca_stcharAt) := by
  intro X hX ho' hR hs as σ k x σ' h
  simp only [jca_stcharAt] at h
  split at h
  · rename_i w z
    obtain ⟨g1, h1⟩ := jcond h
    obtain ⟨i, hi, rfl⟩ := jstw g1
    obtain ⟨h2, h3⟩ := jite h1
    refine ⟨_, _, h3, ?_⟩
    have e0 : jstl (1002 + i) = ((jslen.getD i 0 : Nat) : Int) := by
      unfold jstl
      rw [Nat.add_sub_cancel_left]
    have hz : 0 ≤ z ∧ z < ((jslen.getD i 0 : Nat) : Int) := by rw [← e0]; exact h2
    have e : jsta (1002 + i) z = jand ((jsbyt.getD i []).getD z.toNat 0).toInt 255 := by
      have h4 : ∀ i, i < 4 → ∀ k, k < 5 → ((jsbyt.getD i []).getD k 0).toInt = jand ((jsbyt.getD i []).getD k 0).toInt 255 := by decide
      have h5 : ∀ i, i < 4 → jslen.getD i 0 ≤ 5 := by decide
      have h6 := h5 i hi
      unfold jsta
      rw [Nat.add_sub_cancel_left]
      exact h4 i hi z.toNat (by omega)
    rw [e]
    exact jCallT (n := 1) (as := [jmi z]) hi hX (fr := 3) (lo := 64) (by rw [ho']; exact ⟨(jTB_at 275 rfl rfl), (jTB_at 276 rfl rfl), (jTB_at 277 rfl rfl), (jTB_at 116 rfl rfl), jTB_at 278 rfl rfl, ⟨by decide, by decide, by decide +kernel⟩⟩) ⟨by rw [hR.1]; exact hf, by rw [hR.2]; omega⟩ rfl rfl (jt_charAt hi hz (jsh X) σ)
  · cases h
