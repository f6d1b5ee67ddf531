/-! The law's loop. -/
theorem iR_x (z : Int32) : iR z.toInt := by
  have h1 := Int32.toInt_lt z
  have h2 := Int32.le_toInt z
  exact ⟨by omega, by omega⟩
section LLP
variable {p : Program} {l : Launch} {e : Env} {s : State} {m : MethodId} {below : List Frame} {meth : Method} {c : Code} {D : va_G} {cy : Nat → ClassId} {b L : Nat} {xs : Nat → Int32} {F : Nat}
set_option maxRecDepth 100000 in
set_option maxHeartbeats 4000000 in
theorem law_loop (hF : 6000 ≤ F) (hL : L ≤ 3072) (C0 : lw_At p s m meth c b L xs) (hw : jLw p s m c b D cy) : ∀ (n i : Nat), i ≤ L → L + 1 ≤ i + n → ∀ (shC : List jxC) (σC σM : jxS) (adC adM : Nat → Nat) (ca sl : Nat) (H : Heap) (locs : List Loc) (ls : Array Slot), PhR shC σC σM → ((shC = jshL0 ∧ ca = 51 ∧ sl = 60267) ∨ (shC = jshL1 ∧ ca = 120 ∧ sl = 111278)) → jBG adC (fun q => s.heap.size ≤ q) s → jBG adM (fun q => s.heap.size ≤ q) s → jTwo s D cy adC shC σC adM σM H locs → lv_has ls 4 [(0, .ref b), (1, .ref (adC 0)), (2, .ref (adM 0)), (3, .int (jI (i : Int)))] → W p l e room_1 s m #[Value.ref b] below meth c H locs ca sl (lw_Z below #[Value.ref b] s) (F0 m 18 ls []) := by
  obtain ⟨hx, hb, hr, hml, hown, hts, hX, hbl, hlocks, hgv⟩ := id C0
  have hbA : ¬ (fun q => s.heap.size ≤ q) b := Nat.not_le.mpr hbl
  intro n
  induction n with
  | zero => intro i h1 h2; exact absurd h2 (by omega)
  | succ n ih =>
    intro i hiL hin shC σC σM adC adM ca sl H locs ls hph hcnt hBC hBM tw hl
    have hS := tw.2.2.2.2.2
    have hf : ca ≤ 600000 ∧ sl ≤ 7302250 := by
      rcases hcnt with ⟨_, h1, h2⟩ | ⟨_, h1, h2⟩
      · omega
      · omega
    obtain ⟨f1, hs1⟩ : ∃ f1, shC[0]? = some (.inl (11, f1)) := by
      rcases hph with ⟨q, _⟩ | ⟨q, _⟩
      · rw [q]; exact ⟨_, rfl⟩
      · rw [q]; exact ⟨_, rfl⟩
    refine lv_iload_n hx hb dl_18 rfl (lv_at hl 3 rfl) ?_
    refine lv_aload_n hx hb dl_19 rfl (lv_at hl 0 rfl) ?_
    refine va_slen hx hb hX hbl hbA hS dl_20 ?_
    refine lv_bipush (v := jI 6) hx hb dl_21 (by decide) ?_
    refine lv_isub hx hb dl_23 ?_
    have eL : Int32.ofNat L - jI 6 = jI ((L : Int) - 6) := by
      rw [jI_sub]
      congr 1
    rw [eL]
    refine lv_icmp_gt (tgt := 1186) hx hb dl_24 (by decide) (fun _ => ?_) (fun hc => ?_)
    · refine lv_iconst (v := 1) hx hb dl_1186 (by decide) ?_
      refine va_forget (fun q hq => hS.2.2 q hq) ?_
      refine W.widen (k := 600000) (n := 7302250) hf.1 hf.2 ?_
      exact lw_ret hx hb hr hlocks dl_1187
    · have hi : i + 6 ≤ L := by
        have h1 : ¬ jw ((L : Int) - 6) < jw (i : Int) := fun q => hc ((jI_lt _ _).mpr q)
        rw [jw_id (by omega) (by omega), jw_id (by omega) (by omega)] at h1
        omega
      have next : ∀ (shC' : List jxC) (σC' σM' : jxS) (adC' : Nat → Nat) (ca' sl' : Nat) (H1 : Heap) (locs1 : List Loc), PhR shC' σC' σM' → ((shC' = jshL0 ∧ ca' = 51 ∧ sl' = 60267) ∨ (shC' = jshL1 ∧ ca' = 120 ∧ sl' = 111278)) → jBG adC' (fun q => s.heap.size ≤ q) s → adC' 0 = adC 0 → jTwo s D cy adC' shC' σC' adM σM' H1 locs1 → W p l e room_1 s m #[Value.ref b] below meth c H1 locs1 ca' sl' (lw_Z below #[Value.ref b] s) (F0 m 1180 ls []) := by
        intro shC' σC' σM' adC' ca' sl' H1 locs1 g1 g2 g3 g4 g5
        refine lv_iinc (v := jI ((i + 6 : Nat) : Int)) (lv' := [(3, .int (jI ((i + 6 : Nat) : Int))), (0, .ref b), (1, .ref (adC 0)), (2, .ref (adM 0))]) hx hb dl_1180 hl (k := 3) rfl (by rw [show ((i + 6 : Nat) : Int) = (i : Int) + 6 by omega, jI_add]; rfl) (by decide) rfl (fun ls hl => ?_)
        refine lv_goto (tgt := 18) hx hb dl_1183 (by decide) ?_
        exact ih (i + 6) hi (by omega) shC' σC' σM' adC' adM ca' sl' H1 locs1 ls g1 g2 g3 hBM g5 (by rw [g4]; exact lv_sub hl [1, 2, 3, 0] rfl)
      have go : ∀ (σC' σM' : jxS), PhR shC σC' σM' → ∀ (H1 : Heap) (locs1 : List Loc), jTwo s D cy adC shC σC' adM σM' H1 locs1 → W p l e room_1 s m #[Value.ref b] below meth c H1 locs1 ca sl (lw_Z below #[Value.ref b] s) (F0 m 1180 ls []) := fun σC' σM' g1 H1 locs1 g2 => next shC σC' σM' adC ca sl H1 locs1 g1 hcnt hBC rfl g2
      obtain ⟨h1, h2⟩ := j_in (x := (i : Int)) (n := L) (by omega) ⟨by omega, by omega⟩
      refine lv_aload_n hx hb dl_27 rfl (lv_at hl 0 rfl) ?_
      refine lv_iload_n hx hb dl_28 rfl (lv_at hl 3 rfl) ?_
      refine va_sld hx hb hX hbl hbA hS h1 dl_29 ?_
      refine lv_bipush (v := jI 63) hx hb dl_30 (by decide) ?_
      refine lv_iand hx hb dl_32 ?_
      generalize xs (jI (i : Int)).toNatClampNeg &&& jI 63 = z
      by_cases hc : z.toInt < 0 ∨ 35 < z.toInt
      · exact lv_tableOut (tgt := 1180) hx hb dl_33 hc (by decide) (go σC σM hph H locs tw)
      · obtain ⟨a, ha⟩ : ∃ a : Nat, z.toInt = (a : Int) := ⟨z.toInt.toNat, by omega⟩
        have ha35 : a ≤ 35 := by omega
        match a, ha, ha35 with
        | 0, ha, _ =>
          refine lv_tableIn (off := 159) (tgt := 192) hx hb dl_33 (by omega) (by omega) (by rw [ha]; rfl) (by decide) ?_
          obtain ⟨r, σC', σM', m1, m2, ph⟩ := lc_feed (F := F) hF (iR_x (xs (i + 1))) (iR_x (xs (i + 2))) (iR_x (xs (i + 3))) (iR_x (xs (i + 4))) (iR_x (xs (i + 5))) hph
          exact law_case (k := 5) C0 hL hi (by decide) ld_0 jlw_13 jlw_17 rfl rfl hs1 rfl m1 m2 hw hBC hBM tw hf hl (go σC' σM' ph)
        | 1, ha, _ =>
          refine lv_tableIn (off := 222) (tgt := 255) hx hb dl_33 (by omega) (by omega) (by rw [ha]; rfl) (by decide) ?_
          obtain ⟨r, σC', σM', m1, m2, ph⟩ := lc_end (F := F) hF (iR_x (xs (i + 1))) hph
          exact law_case (k := 1) C0 hL hi (by decide) ld_1 jlw_18 jlw_22 rfl rfl hs1 rfl m1 m2 hw hBC hBM tw hf hl (go σC' σM' ph)
        | 2, ha, _ =>
          refine lv_tableIn (off := 245) (tgt := 278) hx hb dl_33 (by omega) (by omega) (by rw [ha]; rfl) (by decide) ?_
          rcases lc_game (F := F) hF hph with ⟨r, σC', σM', m1, m2, ph⟩ | ⟨hsh, r, σz, σC', σM', ez, m1, m2, r1⟩
          · exact law_case (k := 0) C0 hL hi (by decide) ld_2 jlw_23 jlw_27 rfl rfl hs1 rfl m1 m2 hw hBC hBM tw hf hl (go σC' σM' ph)
          · subst hsh
            have hcc : ca = 51 ∧ sl = 60267 := by
              rcases hcnt with ⟨_, q1, q2⟩ | ⟨q0, _, _⟩
              · exact ⟨q1, q2⟩
              · exact absurd (congrArg List.length q0) (by decide)
            obtain ⟨rfl, rfl⟩ := hcc
            have tz : jTwo s D cy adC jshL0 σz adM σM H locs := by
              unfold jTwo at tw ⊢
              rw [← ez adC cy]
              exact tw
            refine law_game0 C0 ld_2 jlw_23 jlw_27 rfl rfl hs1 rfl m1 ⟨jble rfl, jble rfl⟩ m2 hw hBC hBM tz ⟨jble rfl, jble rfl⟩ hl (fun H1 locs1 ad' ha' tw' => ?_)
            exact next jshL1 σC' σM' ad' _ _ H1 locs1 (Or.inr ⟨rfl, r1⟩) (Or.inr ⟨rfl, rfl, rfl⟩) (jBG_ad (fun i hi => ha' i (Or.inr hi)) hBC) (ha' 0 (Or.inl (by decide))) tw'
        | 3, ha, _ =>
          refine lv_tableIn (off := 258) (tgt := 291) hx hb dl_33 (by omega) (by omega) (by rw [ha]; rfl) (by decide) ?_
          obtain ⟨r, σC', σM', m1, m2, ph⟩ := lc_moves (F := F) hF (iR_x (xs (i + 1))) hph
          exact law_case (k := 1) C0 hL hi (by decide) ld_3 jlw_28 jlw_31 rfl rfl hs1 rfl m1 m2 hw hBC hBM tw hf hl (go σC' σM' ph)
        | 4, ha, _ =>
          refine lv_tableIn (off := 281) (tgt := 314) hx hb dl_33 (by omega) (by omega) (by rw [ha]; rfl) (by decide) ?_
          obtain ⟨r, σC', σM', m1, m2, ph⟩ := lc_option (F := F) hF (iR_x (xs (i + 1))) (iR_x (xs (i + 2))) (iR_x (xs (i + 3))) hph
          exact law_case (k := 3) C0 hL hi (by decide) ld_4 jlw_32 jlw_36 rfl rfl hs1 rfl m1 m2 hw hBC hBM tw hf hl (go σC' σM' ph)
        | 5, ha, _ =>
          refine lv_tableIn (off := 324) (tgt := 357) hx hb dl_33 (by omega) (by omega) (by rw [ha]; rfl) (by decide) ?_
          obtain ⟨r, σC', σM', m1, m2, ph⟩ := lc_nimber (F := F) hF (iR_x (xs (i + 1))) hph
          exact law_case (k := 1) C0 hL hi (by decide) ld_5 jlw_37 jlw_40 rfl rfl hs1 rfl m1 m2 hw hBC hBM tw hf hl (go σC' σM' ph)
        | 6, ha, _ =>
          refine lv_tableIn (off := 347) (tgt := 380) hx hb dl_33 (by omega) (by omega) (by rw [ha]; rfl) (by decide) ?_
          obtain ⟨r, σC', σM', m1, m2, ph⟩ := lc_period (F := F) hF (iR_x (xs (i + 1))) hph
          exact law_case (k := 1) C0 hL hi (by decide) ld_6 jlw_41 jlw_44 rfl rfl hs1 rfl m1 m2 hw hBC hBM tw hf hl (go σC' σM' ph)
        | 7, ha, _ =>
          refine lv_tableIn (off := 370) (tgt := 403) hx hb dl_33 (by omega) (by omega) (by rw [ha]; rfl) (by decide) ?_
          obtain ⟨r, σC', σM', m1, m2, ph⟩ := lc_odd (F := F) hF (iR_x (xs (i + 1))) hph
          exact law_case (k := 1) C0 hL hi (by decide) ld_7 jlw_45 jlw_48 rfl rfl hs1 rfl m1 m2 hw hBC hBM tw hf hl (go σC' σM' ph)
        | 8, ha, _ =>
          refine lv_tableIn (off := 393) (tgt := 426) hx hb dl_33 (by omega) (by omega) (by rw [ha]; rfl) (by decide) ?_
          obtain ⟨r, σC', σM', m1, m2, ph⟩ := lc_wild (F := F) hF (iR_x (xs (i + 1))) hph
          exact law_case (k := 1) C0 hL hi (by decide) ld_8 jlw_49 jlw_52 rfl rfl hs1 rfl m1 m2 hw hBC hBM tw hf hl (go σC' σM' ph)
        | 9, ha, _ =>
          refine lv_tableIn (off := 416) (tgt := 449) hx hb dl_33 (by omega) (by omega) (by rw [ha]; rfl) (by decide) ?_
          obtain ⟨r, σC', σM', m1, m2, ph⟩ := lc_put (F := F) hF (iR_x (xs (i + 1))) hph
          exact law_case (k := 1) C0 hL hi (by decide) ld_9 jlw_53 jlw_56 rfl rfl hs1 rfl m1 m2 hw hBC hBM tw hf hl (go σC' σM' ph)
        | 10, ha, _ =>
          refine lv_tableIn (off := 439) (tgt := 472) hx hb dl_33 (by omega) (by omega) (by rw [ha]; rfl) (by decide) ?_
          obtain ⟨r, σC', σM', m1, m2, ph⟩ := lc_move (F := F) hF (iR_x (xs (i + 1))) (iR_x (xs (i + 2))) (iR_x (xs (i + 3))) hph
          exact law_case (k := 3) C0 hL hi (by decide) ld_10 jlw_57 jlw_60 rfl rfl hs1 rfl m1 m2 hw hBC hBM tw hf hl (go σC' σM' ph)
        | 11, ha, _ =>
          refine lv_tableIn (off := 482) (tgt := 515) hx hb dl_33 (by omega) (by omega) (by rw [ha]; rfl) (by decide) ?_
          obtain ⟨r, σC', σM', m1, m2, ph⟩ := lc_reply (F := F) hF  hph
          exact law_case (k := 0) C0 hL hi (by decide) ld_11 jlw_61 jlw_64 rfl rfl hs1 rfl m1 m2 hw hBC hBM tw hf hl (go σC' σM' ph)
        | 12, ha, _ =>
          refine lv_tableIn (off := 495) (tgt := 528) hx hb dl_33 (by omega) (by omega) (by rw [ha]; rfl) (by decide) ?_
          obtain ⟨r, σC', σM', m1, m2, ph⟩ := lc_clear (F := F) hF  hph
          exact law_case (k := 0) C0 hL hi (by decide) ld_12 jlw_65 jlw_68 rfl rfl hs1 rfl m1 m2 hw hBC hBM tw hf hl (go σC' σM' ph)
        | 13, ha, _ =>
          refine lv_tableIn (off := 508) (tgt := 541) hx hb dl_33 (by omega) (by omega) (by rw [ha]; rfl) (by decide) ?_
          obtain ⟨r, σC', σM', m1, m2, ph⟩ := lc_undo (F := F) hF  hph
          exact law_case (k := 0) C0 hL hi (by decide) ld_13 jlw_69 jlw_72 rfl rfl hs1 rfl m1 m2 hw hBC hBM tw hf hl (go σC' σM' ph)
        | 14, ha, _ =>
          refine lv_tableIn (off := 521) (tgt := 554) hx hb dl_33 (by omega) (by omega) (by rw [ha]; rfl) (by decide) ?_
          obtain ⟨r, σC', σM', m1, m2, ph⟩ := lc_hand (F := F) hF (iR_x (xs (i + 1))) hph
          exact law_case (k := 1) C0 hL hi (by decide) ld_14 jlw_73 jlw_76 rfl rfl hs1 rfl m1 m2 hw hBC hBM tw hf hl (go σC' σM' ph)
        | 15, ha, _ =>
          refine lv_tableIn (off := 544) (tgt := 577) hx hb dl_33 (by omega) (by omega) (by rw [ha]; rfl) (by decide) ?_
          obtain ⟨r, σC', σM', m1, m2, ph⟩ := lc_state (F := F) hF (iR_x (xs (i + 1))) hph
          exact law_case (k := 1) C0 hL hi (by decide) ld_15 jlw_77 jlw_80 rfl rfl hs1 rfl m1 m2 hw hBC hBM tw hf hl (go σC' σM' ph)
        | 16, ha, _ =>
          refine lv_tableIn (off := 567) (tgt := 600) hx hb dl_33 (by omega) (by omega) (by rw [ha]; rfl) (by decide) ?_
          obtain ⟨r, σC', σM', m1, m2, ph⟩ := lc_genus (F := F) hF (iR_x (xs (i + 1))) hph
          exact law_case (k := 1) C0 hL hi (by decide) ld_16 jlw_81 jlw_84 rfl rfl hs1 rfl m1 m2 hw hBC hBM tw hf hl (go σC' σM' ph)
        | 17, ha, _ =>
          refine lv_tableIn (off := 590) (tgt := 623) hx hb dl_33 (by omega) (by omega) (by rw [ha]; rfl) (by decide) ?_
          obtain ⟨r, σC', σM', m1, m2, ph⟩ := lc_line (F := F) hF (iR_x (xs (i + 1))) hph
          exact law_case (k := 1) C0 hL hi (by decide) ld_17 jlw_85 jlw_88 rfl rfl hs1 rfl m1 m2 hw hBC hBM tw hf hl (go σC' σM' ph)
        | 18, ha, _ =>
          refine lv_tableIn (off := 613) (tgt := 646) hx hb dl_33 (by omega) (by omega) (by rw [ha]; rfl) (by decide) ?_
          obtain ⟨r, σC', σM', m1, m2, ph⟩ := lc_losers (F := F) hF (iR_x (xs (i + 1))) (iR_x (xs (i + 2))) hph
          exact law_case (k := 2) C0 hL hi (by decide) ld_18 jlw_89 jlw_93 rfl rfl hs1 rfl m1 m2 hw hBC hBM tw hf hl (go σC' σM' ph)
        | 19, ha, _ =>
          refine lv_tableIn (off := 646) (tgt := 679) hx hb dl_33 (by omega) (by omega) (by rw [ha]; rfl) (by decide) ?_
          obtain ⟨r, σC', σM', m1, m2, ph⟩ := lc_keep (F := F) hF (iR_x (xs (i + 1))) hph
          exact law_case (k := 1) C0 hL hi (by decide) ld_19 jlw_94 jlw_97 rfl rfl hs1 rfl m1 m2 hw hBC hBM tw hf hl (go σC' σM' ph)
        | 20, ha, _ =>
          refine lv_tableIn (off := 669) (tgt := 702) hx hb dl_33 (by omega) (by omega) (by rw [ha]; rfl) (by decide) ?_
          obtain ⟨r, σC', σM', m1, m2, ph⟩ := lc_apart (F := F) hF (iR_x (xs (i + 1))) (iR_x (xs (i + 2))) hph
          exact law_case (k := 2) C0 hL hi (by decide) ld_20 jlw_98 jlw_101 rfl rfl hs1 rfl m1 m2 hw hBC hBM tw hf hl (go σC' σM' ph)
        | 21, ha, _ =>
          refine lv_tableIn (off := 702) (tgt := 735) hx hb dl_33 (by omega) (by omega) (by rw [ha]; rfl) (by decide) ?_
          obtain ⟨r, σC', σM', m1, m2, ph⟩ := lc_simplest (F := F) hF (iR_x (xs (i + 1))) hph
          exact law_case (k := 1) C0 hL hi (by decide) ld_21 jlw_102 jlw_105 rfl rfl hs1 rfl m1 m2 hw hBC hBM tw hf hl (go σC' σM' ph)
        | 22, ha, _ =>
          refine lv_tableIn (off := 725) (tgt := 758) hx hb dl_33 (by omega) (by omega) (by rw [ha]; rfl) (by decide) ?_
          obtain ⟨r, σC', σM', m1, m2, ph⟩ := lc_answers (F := F) hF (iR_x (xs (i + 1))) hph
          exact law_case (k := 1) C0 hL hi (by decide) ld_22 jlw_106 jlw_109 rfl rfl hs1 rfl m1 m2 hw hBC hBM tw hf hl (go σC' σM' ph)
        | 23, ha, _ =>
          refine lv_tableIn (off := 748) (tgt := 781) hx hb dl_33 (by omega) (by omega) (by rw [ha]; rfl) (by decide) ?_
          obtain ⟨r, σC', σM', m1, m2, ph⟩ := lc_draws (F := F) hF (iR_x (xs (i + 1))) hph
          exact law_case (k := 1) C0 hL hi (by decide) ld_23 jlw_110 jlw_113 rfl rfl hs1 rfl m1 m2 hw hBC hBM tw hf hl (go σC' σM' ph)
        | 24, ha, _ =>
          refine lv_tableIn (off := 771) (tgt := 804) hx hb dl_33 (by omega) (by omega) (by rw [ha]; rfl) (by decide) ?_
          obtain ⟨r, σC', σM', m1, m2, ph⟩ := lc_games (F := F) hF (iR_x (xs (i + 1))) (iR_x (xs (i + 2))) hph
          exact law_case (k := 2) C0 hL hi (by decide) ld_24 jlw_114 jlw_117 rfl rfl hs1 rfl m1 m2 hw hBC hBM tw hf hl (go σC' σM' ph)
        | 25, ha, _ =>
          refine lv_tableIn (off := 804) (tgt := 837) hx hb dl_33 (by omega) (by omega) (by rw [ha]; rfl) (by decide) ?_
          obtain ⟨r, σC', σM', m1, m2, ph⟩ := lc_elements (F := F) hF (iR_x (xs (i + 1))) hph
          exact law_case (k := 1) C0 hL hi (by decide) ld_25 jlw_118 jlw_121 rfl rfl hs1 rfl m1 m2 hw hBC hBM tw hf hl (go σC' σM' ph)
        | 26, ha, _ =>
          refine lv_tableIn (off := 827) (tgt := 860) hx hb dl_33 (by omega) (by omega) (by rw [ha]; rfl) (by decide) ?_
          obtain ⟨r, σC', σM', m1, m2, ph⟩ := lc_word (F := F) hF (iR_x (xs (i + 1))) (iR_x (xs (i + 2))) (iR_x (xs (i + 3))) hph
          exact law_case (k := 3) C0 hL hi (by decide) ld_26 jlw_122 jlw_125 rfl rfl hs1 rfl m1 m2 hw hBC hBM tw hf hl (go σC' σM' ph)
        | 27, ha, _ =>
          refine lv_tableIn (off := 870) (tgt := 903) hx hb dl_33 (by omega) (by omega) (by rw [ha]; rfl) (by decide) ?_
          obtain ⟨r, σC', σM', m1, m2, ph⟩ := lc_next (F := F) hF (iR_x (xs (i + 1))) (iR_x (xs (i + 2))) (iR_x (xs (i + 3))) hph
          exact law_case (k := 3) C0 hL hi (by decide) ld_27 jlw_126 jlw_129 rfl rfl hs1 rfl m1 m2 hw hBC hBM tw hf hl (go σC' σM' ph)
        | 28, ha, _ =>
          refine lv_tableIn (off := 913) (tgt := 946) hx hb dl_33 (by omega) (by omega) (by rw [ha]; rfl) (by decide) ?_
          obtain ⟨r, σC', σM', m1, m2, ph⟩ := lc_times (F := F) hF (iR_x (xs (i + 1))) (iR_x (xs (i + 2))) (iR_x (xs (i + 3))) hph
          exact law_case (k := 3) C0 hL hi (by decide) ld_28 jlw_130 jlw_133 rfl rfl hs1 rfl m1 m2 hw hBC hBM tw hf hl (go σC' σM' ph)
        | 29, ha, _ =>
          refine lv_tableIn (off := 956) (tgt := 989) hx hb dl_33 (by omega) (by omega) (by rw [ha]; rfl) (by decide) ?_
          obtain ⟨r, σC', σM', m1, m2, ph⟩ := lc_sets (F := F) hF (iR_x (xs (i + 1))) (iR_x (xs (i + 2))) hph
          exact law_case (k := 2) C0 hL hi (by decide) ld_29 jlw_134 jlw_137 rfl rfl hs1 rfl m1 m2 hw hBC hBM tw hf hl (go σC' σM' ph)
        | 30, ha, _ =>
          refine lv_tableIn (off := 989) (tgt := 1022) hx hb dl_33 (by omega) (by omega) (by rw [ha]; rfl) (by decide) ?_
          obtain ⟨r, σC', σM', m1, m2, ph⟩ := lc_pairs (F := F) hF (iR_x (xs (i + 1))) hph
          exact law_case (k := 1) C0 hL hi (by decide) ld_30 jlw_138 jlw_141 rfl rfl hs1 rfl m1 m2 hw hBC hBM tw hf hl (go σC' σM' ph)
        | 31, ha, _ =>
          refine lv_tableIn (off := 1012) (tgt := 1045) hx hb dl_33 (by omega) (by omega) (by rw [ha]; rfl) (by decide) ?_
          obtain ⟨r, σC', σM', m1, m2, ph⟩ := lc_proved (F := F) hF (iR_x (xs (i + 1))) hph
          exact law_case (k := 1) C0 hL hi (by decide) ld_31 jlw_142 jlw_145 rfl rfl hs1 rfl m1 m2 hw hBC hBM tw hf hl (go σC' σM' ph)
        | 32, ha, _ =>
          refine lv_tableIn (off := 1035) (tgt := 1068) hx hb dl_33 (by omega) (by omega) (by rw [ha]; rfl) (by decide) ?_
          obtain ⟨r, σC', σM', m1, m2, ph⟩ := lc_stays (F := F) hF (iR_x (xs (i + 1))) hph
          exact law_case (k := 1) C0 hL hi (by decide) ld_32 jlw_146 jlw_149 rfl rfl hs1 rfl m1 m2 hw hBC hBM tw hf hl (go σC' σM' ph)
        | 33, ha, _ =>
          refine lv_tableIn (off := 1058) (tgt := 1091) hx hb dl_33 (by omega) (by omega) (by rw [ha]; rfl) (by decide) ?_
          obtain ⟨r, σC', σM', m1, m2, ph⟩ := lc_power (F := F) hF (iR_x (xs (i + 1))) (iR_x (xs (i + 2))) (iR_x (xs (i + 3))) hph
          exact law_case (k := 3) C0 hL hi (by decide) ld_33 jlw_150 jlw_153 rfl rfl hs1 rfl m1 m2 hw hBC hBM tw hf hl (go σC' σM' ph)
        | 34, ha, _ =>
          refine lv_tableIn (off := 1101) (tgt := 1134) hx hb dl_33 (by omega) (by omega) (by rw [ha]; rfl) (by decide) ?_
          obtain ⟨r, σC', σM', m1, m2, ph⟩ := lc_place (F := F) hF (iR_x (xs (i + 1))) hph
          exact law_case (k := 1) C0 hL hi (by decide) ld_34 jlw_154 jlw_157 rfl rfl hs1 rfl m1 m2 hw hBC hBM tw hf hl (go σC' σM' ph)
        | 35, ha, _ =>
          refine lv_tableIn (off := 1124) (tgt := 1157) hx hb dl_33 (by omega) (by omega) (by rw [ha]; rfl) (by decide) ?_
          obtain ⟨r, σC', σM', m1, m2, ph⟩ := lc_count (F := F) hF (iR_x (xs (i + 1))) hph
          exact law_case (k := 1) C0 hL hi (by decide) ld_35 jlw_158 jlw_161 rfl rfl hs1 rfl m1 m2 hw hBC hBM tw hf hl (go σC' σM' ph)
        | k + 36, _, h => exact absurd h (by omega)
end LLP
