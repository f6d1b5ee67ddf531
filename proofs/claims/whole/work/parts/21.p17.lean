/-! Contracts: Model_line Model_losers Model_keep Model_losesBeside Model_apartBy Model_apart Model_simplest Model_answers Model_draws Model_movesOfWalk Model_draw Model_goesBy Model_games Model_markOf Model_placeOf Model_addsElement Model_takesWord Model_elementBy -/
def jtb_Model_line : List (Nat × Instr) := [(0, .aload_n 0), (1, .getfield 212), (4, .ifCond .eq 7), (7, .iload_n 1), (8, .ifCond .ge 5), (11, .iconst (-1)), (12, .ireturn), (13, .iconst 0), (14, .istore_n 2), (15, .iload_n 2), (16, .bipush 13), (18, .if_icmp .ge 21), (21, .aload_n 0), (22, .getfield 87), (25, .iload_n 2), (26, .aload_n 0), (27, .getfield 81), (30, .iload_n 2), (31, .iaload), (32, .iastore), (33, .iinc 2 1), (36, .goto (-21)), (39, .aload_n 0), (40, .invokevirtual 341), (43, .istore_n 2), (44, .iconst 0), (45, .istore_n 3), (46, .iload_n 3), (47, .iload_n 1), (48, .if_icmp .ge 36), (51, .iload_n 2), (52, .ifCond .lt 32), (55, .aload_n 0), (56, .getfield 87), (59, .iload_n 2), (60, .sipush 1000), (63, .idiv), (64, .iload_n 2), (65, .sipush 1000), (68, .irem), (69, .iconst 1), (70, .invokestatic 262), (73, .aload_n 0), (74, .invokevirtual 341), (77, .istore_n 2), (78, .iinc 3 1), (81, .goto (-35)), (84, .iload_n 2), (85, .ifCond .ge 8), (88, .bipush (-2)), (90, .goto 4), (93, .iload_n 2), (94, .ireturn)]
theorem jtk_Model_line : jtok cX12_line jtb_Model_line = true := by decide +kernel
set_option maxRecDepth 100000 in
theorem jlk_X12_341 : jLkV RX12 341 yX12_playedOn cX12_playedOn 7 1 0 := ⟨(jTB_at 1762 rfl rfl), (jTB_at 1764 rfl rfl), (jTB_at 87 rfl rfl), (jTB_at 115 rfl rfl), jTB_at 1765 rfl rfl, ⟨by decide, by decide, by decide +kernel⟩⟩
def jE_Model_line (F : Nat) : jxE := jmk [(81, 12, 35), (87, 12, 38), (212, 12, 13)] [] [] [(262, (4, true), jca_Model_changes F), (341, (1, false), jca_Model_playedOn F)] 1 jc_M
set_option maxRecDepth 100000 in
set_option maxHeartbeats 4000000 in
theorem jmet_Model_line (F : Nat) (sh : List jxC) (hs : jHas sh jc_M) (σ0 : jxS) (v1 : Int) (x : Int) (σ' : jxS) (h : Model_line F σ0 v1 = some (x, σ')) : jMC yX12_line cX12_line 4 (jrt 1) 4 97 sh σ0 [(jmr 0), (jmi v1)] (jrv 1 x) σ' := by
  refine jMC_of (kd := 1) (by decide) rfl h ?_
  intro X hX
  have hG : jGd X (jE_Model_line F) jtb_Model_line := jGd_of hX jtk_Model_line (jcon jfl_X12_81 (jcon jfl_X12_87 (jcon jfl_X12_212 jnil))) jnil jnil (jcon (jsS jlk_X12_262 ⟨rfl, rfl⟩ (jad_Model_changes F sh hs)) (jcon (jsV jlk_X12_341 ⟨rfl, rfl⟩ (jad_Model_playedOn F sh hs)) jnil)) hs
  have rr84 : ∀ (v2 : Int) (σ : jxS), jRf X (Model_line_c84 F v2 σ) 84 [none, none, some (jmi v2), none] [] σ := by
    intro  v2 σ
    exact jRf_by (jex_ok hG (cs := []) jnil 56 84 [none, none, some (jmi v2), none] [] σ) rfl
  have rr46 : ∀ (fu : Nat) (v1 v2 v3 : Int) (σ : jxS), jRf X (Model_line_c46 F fu v1 v2 v3 σ) 46 [some (jmr 0), some (jmi v1), some (jmi v2), some (jmi v3)] [] σ := by
    intro  fu
    induction fu with
    | zero => intros; exact jRf_none
    | succ fu ih =>
      intro v1 v2 v3 σ
      exact jRf_by (jex_ok hG (cs := [(46, [some (.inr (some 0)), some (.inl 0), some (.inl 0), some (.inl 0)], [], fun xs σ => match xs with
      | [v1, v2, v3] => (Model_line_c46 F fu) v1 v2 v3 σ
      | _ => none), (84, [none, none, some (.inl 0), none], [], fun xs σ => match xs with
      | [v2] => Model_line_c84 F v2 σ
      | _ => none)]) (jcon (jl3 (fun y0 y1 y2 => jl0 (fun σ => ih y0 y1 y2 σ))) (jcon (jl1 (fun y0 => jl0 (fun σ => rr84 y0 σ))) jnil)) 56 46 [some (jmr 0), some (jmi v1), some (jmi v2), some (jmi v3)] [] σ) rfl
  have rr15 : ∀ (fu : Nat) (v1 v2 : Int) (σ : jxS), jRf X (Model_line_c15 F fu v1 v2 σ) 15 [some (jmr 0), some (jmi v1), some (jmi v2), none] [] σ := by
    intro  fu
    induction fu with
    | zero => intros; exact jRf_none
    | succ fu ih =>
      intro v1 v2 σ
      exact jRf_by (jex_ok hG (cs := [(15, [some (.inr (some 0)), some (.inl 0), some (.inl 0), none], [], fun xs σ => match xs with
      | [v1, v2] => (Model_line_c15 F fu) v1 v2 σ
      | _ => none), (46, [some (.inr (some 0)), some (.inl 0), some (.inl 0), some (.inl 0)], [], fun xs σ => match xs with
      | [v1, v2, v3] => Model_line_c46 F F v1 v2 v3 σ
      | _ => none)]) (jcon (jl2 (fun y0 y1 => jl0 (fun σ => ih y0 y1 σ))) (jcon (jl3 (fun y0 y1 y2 => jl0 (fun σ => rr46 F y0 y1 y2 σ))) jnil)) 56 15 [some (jmr 0), some (jmi v1), some (jmi v2), none] [] σ) rfl
  exact jRf_by (jex_ok hG (cs := [(15, [some (.inr (some 0)), some (.inl 0), some (.inl 0), none], [], fun xs σ => match xs with
      | [v1, v2] => Model_line_c15 F F v1 v2 σ
      | _ => none)]) (jcon (jl2 (fun y0 y1 => jl0 (fun σ => rr15 F y0 y1 σ))) jnil) 56 0 [some (jmr 0), some (jmi v1), none, none] [] σ0) rfl
theorem jad_Model_line (F : Nat) (sh : List jxC) (hs : jHas sh jc_M) : jAdV (jca_Model_line F) yX12_line cX12_line 4 1 4 97 1 sh := by
  intro as σ k x σ' h
  unfold jca_Model_line at h
  split at h
  · rename_i t0 v1
    obtain ⟨g0, hh1⟩ := jcond h
    obtain rfl := jbeq g0
    obtain ⟨r, h1, h2⟩ := Option.bind_eq_some_iff.mp hh1
    exact ⟨_, _, h2, ⟨_, _, _, _, _, _, rfl, rfl, (hs _ (jkf_in (l := jc_M) (idx := 0) rfl)).1, rfl⟩, jmet_Model_line F  sh hs σ v1 r.1 r.2 h1⟩
  · cases h
def jtb_Model_losers : List (Nat × Instr) := [(0, .aload_n 0), (1, .getfield 212), (4, .ifCond .eq 32), (7, .iload_n 1), (8, .i2l), (9, .lconst 0), (10, .ldc2_w 344), (13, .invokestatic 143), (16, .ifCond .eq 20), (19, .iload_n 2), (20, .iconst (-1)), (21, .if_icmp .eq 17), (24, .iload_n 2), (25, .i2l), (26, .lconst 1), (27, .ldc2_w 304), (30, .invokestatic 143), (33, .ifCond .ne 5), (36, .iconst (-1)), (37, .ireturn), (38, .iconst 0), (39, .istore_n 3), (40, .iconst (-1)), (41, .istore 4), (43, .aload_n 0), (44, .getfield 51), (47, .iload_n 1), (48, .iaload), (49, .istore 5), (51, .iload 5), (53, .aload_n 0), (54, .getfield 51), (57, .iload_n 1), (58, .iconst 1), (59, .iadd), (60, .iaload), (61, .if_icmp .ge 39), (64, .aload_n 0), (65, .getfield 54), (68, .iload 5), (70, .baload), (71, .ifCond .ne 6), (74, .goto 20), (77, .iload 4), (79, .ifCond .ge 8), (82, .iload 5), (84, .goto 5), (87, .iload 4), (89, .istore 4), (91, .iinc 3 1), (94, .iinc 5 1), (97, .goto (-46)), (100, .iload_n 2), (101, .iconst (-1)), (102, .if_icmp .ne 7), (105, .iload_n 3), (106, .goto 10), (109, .aload_n 0), (110, .iload 4), (112, .iload_n 2), (113, .invokevirtual 319), (116, .ireturn)]
theorem jtk_Model_losers : jtok cX12_losers jtb_Model_losers = true := by decide +kernel
def jE_Model_losers (F : Nat) : jxE := jmk [(51, 12, 23), (54, 12, 25), (212, 12, 13)] [(304, jml 12), (344, jml 22)] [] [(143, (3, true), jca_Model_isIn F), (319, (3, false), jca_Model_told F)] 1 jc_M
set_option maxRecDepth 100000 in
set_option maxHeartbeats 4000000 in
theorem jmet_Model_losers (F : Nat) (sh : List jxC) (hs : jHas sh jc_M) (σ0 : jxS) (v1 : Int) (v2 : Int) (x : Int) (σ' : jxS) (h : Model_losers F σ0 v1 v2 = some (x, σ')) : jMC yX12_losers cX12_losers 6 (jrt 1) 3 70 sh σ0 [(jmr 0), (jmi v1), (jmi v2)] (jrv 1 x) σ' := by
  refine jMC_of (kd := 1) (by decide) rfl h ?_
  intro X hX
  have hG : jGd X (jE_Model_losers F) jtb_Model_losers := jGd_of hX jtk_Model_losers (jcon jfl_X12_51 (jcon jfl_X12_54 (jcon jfl_X12_212 jnil))) (jcon (jTB_at 1651 rfl rfl) (jcon (jTB_at 1770 rfl rfl) jnil)) jnil (jcon (jsS jlk_X12_143 ⟨rfl, rfl⟩ (jad_Model_isIn F sh hs)) (jcon (jsV jlk_X12_319 ⟨rfl, rfl⟩ (jad_Model_told F sh hs)) jnil)) hs
  have rr51 : ∀ (fu : Nat) (v1 v2 v3 v4 v5 : Int) (σ : jxS), jRf X (Model_losers_c51 F fu v1 v2 v3 v4 v5 σ) 51 [some (jmr 0), some (jmi v1), some (jmi v2), some (jmi v3), some (jmi v4), some (jmi v5)] [] σ := by
    intro  fu
    induction fu with
    | zero => intros; exact jRf_none
    | succ fu ih =>
      intro v1 v2 v3 v4 v5 σ
      exact jRf_by (jex_ok hG (cs := [(51, [some (.inr (some 0)), some (.inl 0), some (.inl 0), some (.inl 0), some (.inl 0), some (.inl 0)], [], fun xs σ => match xs with
      | [v1, v2, v3, v4, v5] => (Model_losers_c51 F fu) v1 v2 v3 v4 v5 σ
      | _ => none)]) (jcon (jl5 (fun y0 y1 y2 y3 y4 => jl0 (fun σ => ih y0 y1 y2 y3 y4 σ))) jnil) 65 51 [some (jmr 0), some (jmi v1), some (jmi v2), some (jmi v3), some (jmi v4), some (jmi v5)] [] σ) rfl
  have rr38 : ∀ (v1 v2 : Int) (σ : jxS), jRf X (Model_losers_c38 F v1 v2 σ) 38 [some (jmr 0), some (jmi v1), some (jmi v2), none, none, none] [] σ := by
    intro  v1 v2 σ
    exact jRf_by (jex_ok hG (cs := [(51, [some (.inr (some 0)), some (.inl 0), some (.inl 0), some (.inl 0), some (.inl 0), some (.inl 0)], [], fun xs σ => match xs with
      | [v1, v2, v3, v4, v5] => Model_losers_c51 F F v1 v2 v3 v4 v5 σ
      | _ => none)]) (jcon (jl5 (fun y0 y1 y2 y3 y4 => jl0 (fun σ => rr51 F y0 y1 y2 y3 y4 σ))) jnil) 65 38 [some (jmr 0), some (jmi v1), some (jmi v2), none, none, none] [] σ) rfl
  exact jRf_by (jex_ok hG (cs := [(38, [some (.inr (some 0)), some (.inl 0), some (.inl 0), none, none, none], [], fun xs σ => match xs with
      | [v1, v2] => Model_losers_c38 F v1 v2 σ
      | _ => none)]) (jcon (jl2 (fun y0 y1 => jl0 (fun σ => rr38 y0 y1 σ))) jnil) 65 0 [some (jmr 0), some (jmi v1), some (jmi v2), none, none, none] [] σ0) rfl
theorem jad_Model_losers (F : Nat) (sh : List jxC) (hs : jHas sh jc_M) : jAdV (jca_Model_losers F) yX12_losers cX12_losers 6 1 3 70 2 sh := by
  intro as σ k x σ' h
  unfold jca_Model_losers at h
  split at h
  · rename_i t0 v1 v2
    obtain ⟨g0, hh1⟩ := jcond h
    obtain rfl := jbeq g0
    obtain ⟨r, h1, h2⟩ := Option.bind_eq_some_iff.mp hh1
    exact ⟨_, _, h2, ⟨_, _, _, _, _, _, rfl, rfl, (hs _ (jkf_in (l := jc_M) (idx := 0) rfl)).1, rfl⟩, jmet_Model_losers F  sh hs σ v1 v2 r.1 r.2 h1⟩
  · cases h
def jtb_Model_keep : List (Nat × Instr) := [(0, .aload_n 0), (1, .getfield 212), (4, .ifCond .eq 15), (7, .iload_n 1), (8, .i2l), (9, .lconst 0), (10, .ldc2_w 339), (13, .invokestatic 143), (16, .ifCond .ne 5), (19, .iconst (-1)), (20, .ireturn), (21, .iconst 0), (22, .istore_n 2), (23, .iload_n 2), (24, .bipush 13), (26, .if_icmp .ge 26), (29, .aload_n 0), (30, .getfield 90), (33, .bipush 13), (35, .iload_n 1), (36, .imul), (37, .iload_n 2), (38, .iadd), (39, .aload_n 0), (40, .getfield 81), (43, .iload_n 2), (44, .iaload), (45, .iastore), (46, .iinc 2 1), (49, .goto (-26)), (52, .aload_n 0), (53, .dup), (54, .getfield 222), (57, .iconst 1), (58, .iload_n 1), (59, .ishl), (60, .ior), (61, .putfield 222), (64, .aload_n 0), (65, .getfield 81), (68, .invokestatic 254), (71, .ireturn)]
theorem jtk_Model_keep : jtok cX12_keep jtb_Model_keep = true := by decide +kernel
set_option maxRecDepth 100000 in
theorem jfl_X12_90 : jFl RX12 90 12 39 := ⟨RX12, TX12, 57, tyX12, rfl, by decide, jin_X12, tyX12_ok, nmX12, jow_X12, (Or.inl (jTB_at 1380 rfl rfl))⟩
def jE_Model_keep (F : Nat) : jxE := jmk [(81, 12, 35), (90, 12, 39), (212, 12, 13), (222, 12, 40)] [(339, jml 2)] [] [(143, (3, true), jca_Model_isIn F), (254, (1, true), jca_Model_beansOf F)] 1 jc_M
set_option maxRecDepth 100000 in
set_option maxHeartbeats 4000000 in
theorem jmet_Model_keep (F : Nat) (sh : List jxC) (hs : jHas sh jc_M) (σ0 : jxS) (v1 : Int) (x : Int) (σ' : jxS) (h : Model_keep F σ0 v1 = some (x, σ')) : jMC yX12_keep cX12_keep 3 (jrt 1) 1 25 sh σ0 [(jmr 0), (jmi v1)] (jrv 1 x) σ' := by
  refine jMC_of (kd := 1) (by decide) rfl h ?_
  intro X hX
  have hG : jGd X (jE_Model_keep F) jtb_Model_keep := jGd_of hX jtk_Model_keep (jcon jfl_X12_81 (jcon jfl_X12_90 (jcon jfl_X12_212 (jcon jfl_X12_222 jnil)))) (jcon (jTB_at 1757 rfl rfl) jnil) jnil (jcon (jsS jlk_X12_143 ⟨rfl, rfl⟩ (jad_Model_isIn F sh hs)) (jcon (jsS jlk_X12_254 ⟨rfl, rfl⟩ (jad_Model_beansOf F sh hs)) jnil)) hs
  have rr23 : ∀ (fu : Nat) (v1 v2 : Int) (σ : jxS), jRf X (Model_keep_c23 F fu v1 v2 σ) 23 [some (jmr 0), some (jmi v1), some (jmi v2)] [] σ := by
    intro  fu
    induction fu with
    | zero => intros; exact jRf_none
    | succ fu ih =>
      intro v1 v2 σ
      exact jRf_by (jex_ok hG (cs := [(23, [some (.inr (some 0)), some (.inl 0), some (.inl 0)], [], fun xs σ => match xs with
      | [v1, v2] => (Model_keep_c23 F fu) v1 v2 σ
      | _ => none)]) (jcon (jl2 (fun y0 y1 => jl0 (fun σ => ih y0 y1 σ))) jnil) 45 23 [some (jmr 0), some (jmi v1), some (jmi v2)] [] σ) rfl
  exact jRf_by (jex_ok hG (cs := [(23, [some (.inr (some 0)), some (.inl 0), some (.inl 0)], [], fun xs σ => match xs with
      | [v1, v2] => Model_keep_c23 F F v1 v2 σ
      | _ => none)]) (jcon (jl2 (fun y0 y1 => jl0 (fun σ => rr23 F y0 y1 σ))) jnil) 45 0 [some (jmr 0), some (jmi v1), none] [] σ0) rfl
theorem jad_Model_keep (F : Nat) (sh : List jxC) (hs : jHas sh jc_M) : jAdV (jca_Model_keep F) yX12_keep cX12_keep 3 1 1 25 1 sh := by
  intro as σ k x σ' h
  unfold jca_Model_keep at h
  split at h
  · rename_i t0 v1
    obtain ⟨g0, hh1⟩ := jcond h
    obtain rfl := jbeq g0
    obtain ⟨r, h1, h2⟩ := Option.bind_eq_some_iff.mp hh1
    exact ⟨_, _, h2, ⟨_, _, _, _, _, _, rfl, rfl, (hs _ (jkf_in (l := jc_M) (idx := 0) rfl)).1, rfl⟩, jmet_Model_keep F  sh hs σ v1 r.1 r.2 h1⟩
  · cases h
def jtb_Model_losesBeside : List (Nat × Instr) := [(0, .iconst 1), (1, .istore_n 2), (2, .iload_n 2), (3, .bipush 12), (5, .if_icmp .gt 21), (8, .aload_n 1), (9, .iload_n 2), (10, .dup2), (11, .iaload), (12, .aload_n 0), (13, .getfield 96), (16, .iload_n 2), (17, .iaload), (18, .iadd), (19, .iastore), (20, .iinc 2 1), (23, .goto (-21)), (26, .aload_n 0), (27, .getfield 54), (30, .aload_n 0), (31, .aload_n 1), (32, .invokevirtual 266), (35, .baload), (36, .istore_n 2), (37, .iconst 1), (38, .istore_n 3), (39, .iload_n 3), (40, .bipush 12), (42, .if_icmp .gt 21), (45, .aload_n 1), (46, .iload_n 3), (47, .dup2), (48, .iaload), (49, .aload_n 0), (50, .getfield 96), (53, .iload_n 3), (54, .iaload), (55, .isub), (56, .iastore), (57, .iinc 3 1), (60, .goto (-21)), (63, .iload_n 2), (64, .ireturn)]
theorem jtk_Model_losesBeside : jtok cX12_losesBeside jtb_Model_losesBeside = true := by decide +kernel
set_option maxRecDepth 100000 in
theorem jfl_X12_96 : jFl RX12 96 12 42 := ⟨RX12, TX12, 57, tyX12, rfl, by decide, jin_X12, tyX12_ok, nmX12, jow_X12, (Or.inl (jTB_at 1383 rfl rfl))⟩
def jE_Model_losesBeside (F : Nat) : jxE := jmk [(54, 12, 25), (96, 12, 42)] [] [] [(266, (2, false), jca_Model_numberOf F)] 4 jc_M
set_option maxRecDepth 100000 in
set_option maxHeartbeats 4000000 in
theorem jmet_Model_losesBeside_24 (F : Nat) (sh : List jxC) (hs : jHas sh jc_M) (σ0 : jxS) (x : Int) (σ' : jxS) (h : Model_losesBeside F 24 σ0 = some (x, σ')) : jMC yX12_losesBeside cX12_losesBeside 4 (jrt 4) 2 47 sh σ0 [(jmr 0), (jmr 24)] (jrv 4 x) σ' := by
  refine jMC_of (kd := 4) (by decide) rfl h ?_
  intro X hX
  have hG : jGd X (jE_Model_losesBeside F) jtb_Model_losesBeside := jGd_of hX jtk_Model_losesBeside (jcon jfl_X12_54 (jcon jfl_X12_96 jnil)) jnil jnil (jcon (jsV jlk_X12_266 ⟨rfl, rfl⟩ (jad_Model_numberOf F sh hs)) jnil) hs
  have rr39 : ∀ (fu : Nat) (v2 v3 : Int) (σ : jxS), jRf X (Model_losesBeside_c39 F 24 fu v2 v3 σ) 39 [some (jmr 0), some (jmr 24), some (jmi v2), some (jmi v3)] [] σ := by
    intro  fu
    induction fu with
    | zero => intros; exact jRf_none
    | succ fu ih =>
      intro v2 v3 σ
      exact jRf_by (jex_ok hG (cs := [(39, [some (.inr (some 0)), some (.inr (some 24)), some (.inl 0), some (.inl 0)], [], fun xs σ => match xs with
      | [v2, v3] => (Model_losesBeside_c39 F 24 fu) v2 v3 σ
      | _ => none)]) (jcon (jl2 (fun y0 y1 => jl0 (fun σ => ih y0 y1 σ))) jnil) 46 39 [some (jmr 0), some (jmr 24), some (jmi v2), some (jmi v3)] [] σ) rfl
  have rr2 : ∀ (fu : Nat) (v2 : Int) (σ : jxS), jRf X (Model_losesBeside_c2 F 24 fu v2 σ) 2 [some (jmr 0), some (jmr 24), some (jmi v2), none] [] σ := by
    intro  fu
    induction fu with
    | zero => intros; exact jRf_none
    | succ fu ih =>
      intro v2 σ
      exact jRf_by (jex_ok hG (cs := [(2, [some (.inr (some 0)), some (.inr (some 24)), some (.inl 0), none], [], fun xs σ => match xs with
      | [v2] => (Model_losesBeside_c2 F 24 fu) v2 σ
      | _ => none), (39, [some (.inr (some 0)), some (.inr (some 24)), some (.inl 0), some (.inl 0)], [], fun xs σ => match xs with
      | [v2, v3] => Model_losesBeside_c39 F 24 F v2 v3 σ
      | _ => none)]) (jcon (jl1 (fun y0 => jl0 (fun σ => ih y0 σ))) (jcon (jl2 (fun y0 y1 => jl0 (fun σ => rr39 F y0 y1 σ))) jnil)) 46 2 [some (jmr 0), some (jmr 24), some (jmi v2), none] [] σ) rfl
  exact jRf_by (jex_ok hG (cs := [(2, [some (.inr (some 0)), some (.inr (some 24)), some (.inl 0), none], [], fun xs σ => match xs with
      | [v2] => Model_losesBeside_c2 F 24 F v2 σ
      | _ => none)]) (jcon (jl1 (fun y0 => jl0 (fun σ => rr2 F y0 σ))) jnil) 46 0 [some (jmr 0), some (jmr 24), none, none] [] σ0) rfl
set_option maxRecDepth 100000 in
set_option maxHeartbeats 4000000 in
theorem jmet_Model_losesBeside_28 (F : Nat) (sh : List jxC) (hs : jHas sh jc_M) (σ0 : jxS) (x : Int) (σ' : jxS) (h : Model_losesBeside F 28 σ0 = some (x, σ')) : jMC yX12_losesBeside cX12_losesBeside 4 (jrt 4) 2 47 sh σ0 [(jmr 0), (jmr 28)] (jrv 4 x) σ' := by
  refine jMC_of (kd := 4) (by decide) rfl h ?_
  intro X hX
  have hG : jGd X (jE_Model_losesBeside F) jtb_Model_losesBeside := jGd_of hX jtk_Model_losesBeside (jcon jfl_X12_54 (jcon jfl_X12_96 jnil)) jnil jnil (jcon (jsV jlk_X12_266 ⟨rfl, rfl⟩ (jad_Model_numberOf F sh hs)) jnil) hs
  have rr39 : ∀ (fu : Nat) (v2 v3 : Int) (σ : jxS), jRf X (Model_losesBeside_c39 F 28 fu v2 v3 σ) 39 [some (jmr 0), some (jmr 28), some (jmi v2), some (jmi v3)] [] σ := by
    intro  fu
    induction fu with
    | zero => intros; exact jRf_none
    | succ fu ih =>
      intro v2 v3 σ
      exact jRf_by (jex_ok hG (cs := [(39, [some (.inr (some 0)), some (.inr (some 28)), some (.inl 0), some (.inl 0)], [], fun xs σ => match xs with
      | [v2, v3] => (Model_losesBeside_c39 F 28 fu) v2 v3 σ
      | _ => none)]) (jcon (jl2 (fun y0 y1 => jl0 (fun σ => ih y0 y1 σ))) jnil) 46 39 [some (jmr 0), some (jmr 28), some (jmi v2), some (jmi v3)] [] σ) rfl
  have rr2 : ∀ (fu : Nat) (v2 : Int) (σ : jxS), jRf X (Model_losesBeside_c2 F 28 fu v2 σ) 2 [some (jmr 0), some (jmr 28), some (jmi v2), none] [] σ := by
    intro  fu
    induction fu with
    | zero => intros; exact jRf_none
    | succ fu ih =>
      intro v2 σ
      exact jRf_by (jex_ok hG (cs := [(2, [some (.inr (some 0)), some (.inr (some 28)), some (.inl 0), none], [], fun xs σ => match xs with
      | [v2] => (Model_losesBeside_c2 F 28 fu) v2 σ
      | _ => none), (39, [some (.inr (some 0)), some (.inr (some 28)), some (.inl 0), some (.inl 0)], [], fun xs σ => match xs with
      | [v2, v3] => Model_losesBeside_c39 F 28 F v2 v3 σ
      | _ => none)]) (jcon (jl1 (fun y0 => jl0 (fun σ => ih y0 σ))) (jcon (jl2 (fun y0 y1 => jl0 (fun σ => rr39 F y0 y1 σ))) jnil)) 46 2 [some (jmr 0), some (jmr 28), some (jmi v2), none] [] σ) rfl
  exact jRf_by (jex_ok hG (cs := [(2, [some (.inr (some 0)), some (.inr (some 28)), some (.inl 0), none], [], fun xs σ => match xs with
      | [v2] => Model_losesBeside_c2 F 28 F v2 σ
      | _ => none)]) (jcon (jl1 (fun y0 => jl0 (fun σ => rr2 F y0 σ))) jnil) 46 0 [some (jmr 0), some (jmr 28), none, none] [] σ0) rfl
set_option maxRecDepth 100000 in
set_option maxHeartbeats 4000000 in
theorem jmet_Model_losesBeside_38 (F : Nat) (sh : List jxC) (hs : jHas sh jc_M) (σ0 : jxS) (x : Int) (σ' : jxS) (h : Model_losesBeside F 38 σ0 = some (x, σ')) : jMC yX12_losesBeside cX12_losesBeside 4 (jrt 4) 2 47 sh σ0 [(jmr 0), (jmr 38)] (jrv 4 x) σ' := by
  refine jMC_of (kd := 4) (by decide) rfl h ?_
  intro X hX
  have hG : jGd X (jE_Model_losesBeside F) jtb_Model_losesBeside := jGd_of hX jtk_Model_losesBeside (jcon jfl_X12_54 (jcon jfl_X12_96 jnil)) jnil jnil (jcon (jsV jlk_X12_266 ⟨rfl, rfl⟩ (jad_Model_numberOf F sh hs)) jnil) hs
  have rr39 : ∀ (fu : Nat) (v2 v3 : Int) (σ : jxS), jRf X (Model_losesBeside_c39 F 38 fu v2 v3 σ) 39 [some (jmr 0), some (jmr 38), some (jmi v2), some (jmi v3)] [] σ := by
    intro  fu
    induction fu with
    | zero => intros; exact jRf_none
    | succ fu ih =>
      intro v2 v3 σ
      exact jRf_by (jex_ok hG (cs := [(39, [some (.inr (some 0)), some (.inr (some 38)), some (.inl 0), some (.inl 0)], [], fun xs σ => match xs with
      | [v2, v3] => (Model_losesBeside_c39 F 38 fu) v2 v3 σ
      | _ => none)]) (jcon (jl2 (fun y0 y1 => jl0 (fun σ => ih y0 y1 σ))) jnil) 46 39 [some (jmr 0), some (jmr 38), some (jmi v2), some (jmi v3)] [] σ) rfl
  have rr2 : ∀ (fu : Nat) (v2 : Int) (σ : jxS), jRf X (Model_losesBeside_c2 F 38 fu v2 σ) 2 [some (jmr 0), some (jmr 38), some (jmi v2), none] [] σ := by
    intro  fu
    induction fu with
    | zero => intros; exact jRf_none
    | succ fu ih =>
      intro v2 σ
      exact jRf_by (jex_ok hG (cs := [(2, [some (.inr (some 0)), some (.inr (some 38)), some (.inl 0), none], [], fun xs σ => match xs with
      | [v2] => (Model_losesBeside_c2 F 38 fu) v2 σ
      | _ => none), (39, [some (.inr (some 0)), some (.inr (some 38)), some (.inl 0), some (.inl 0)], [], fun xs σ => match xs with
      | [v2, v3] => Model_losesBeside_c39 F 38 F v2 v3 σ
      | _ => none)]) (jcon (jl1 (fun y0 => jl0 (fun σ => ih y0 σ))) (jcon (jl2 (fun y0 y1 => jl0 (fun σ => rr39 F y0 y1 σ))) jnil)) 46 2 [some (jmr 0), some (jmr 38), some (jmi v2), none] [] σ) rfl
  exact jRf_by (jex_ok hG (cs := [(2, [some (.inr (some 0)), some (.inr (some 38)), some (.inl 0), none], [], fun xs σ => match xs with
      | [v2] => Model_losesBeside_c2 F 38 F v2 σ
      | _ => none)]) (jcon (jl1 (fun y0 => jl0 (fun σ => rr2 F y0 σ))) jnil) 46 0 [some (jmr 0), some (jmr 38), none, none] [] σ0) rfl
theorem jmet_Model_losesBeside (F : Nat) (a1 : Nat) (ha1 : a1 ∈ jids_Model_losesBeside_a1) (sh : List jxC) (hs : jHas sh jc_M) (σ0 : jxS) (x : Int) (σ' : jxS) (h : Model_losesBeside F a1 σ0 = some (x, σ')) : jMC yX12_losesBeside cX12_losesBeside 4 (jrt 4) 2 47 sh σ0 [(jmr 0), (jmr a1)] (jrv 4 x) σ' := by
  simp only [jids_Model_losesBeside_a1, List.mem_cons, List.not_mem_nil, or_false] at ha1
  rcases ha1 with rfl | rfl | rfl
  · exact jmet_Model_losesBeside_24 F sh hs σ0  x σ' h
  · exact jmet_Model_losesBeside_28 F sh hs σ0  x σ' h
  · exact jmet_Model_losesBeside_38 F sh hs σ0  x σ' h
theorem jad_Model_losesBeside (F : Nat) (sh : List jxC) (hs : jHas sh jc_M) : jAdV (jca_Model_losesBeside F) yX12_losesBeside cX12_losesBeside 4 4 2 47 1 sh := by
  intro as σ k x σ' h
  unfold jca_Model_losesBeside at h
  split at h
  · rename_i t0 t1
    obtain ⟨g0, hh1⟩ := jcond h
    obtain rfl := jbeq g0
    obtain ⟨g1, hh2⟩ := jcond hh1
    have g1 := jin_of g1
    obtain ⟨r, h1, h2⟩ := Option.bind_eq_some_iff.mp hh2
    exact ⟨_, _, h2, ⟨_, _, _, _, _, _, rfl, rfl, (hs _ (jkf_in (l := jc_M) (idx := 0) rfl)).1, rfl⟩, jmet_Model_losesBeside F t1 g1 sh hs σ  r.1 r.2 h1⟩
  · cases h
def jtb_Model_apartBy : List (Nat × Instr) := [(0, .iconst 0), (1, .istore_n 3), (2, .iload_n 3), (3, .aload_n 0), (4, .getfield 51), (7, .bipush 8), (9, .iaload), (10, .if_icmp .ge 33), (13, .aload_n 0), (14, .iload_n 3), (15, .aload_n 0), (16, .getfield 96), (19, .invokevirtual 276), (22, .aload_n 0), (23, .aload_n 1), (24, .invokevirtual 346), (27, .aload_n 0), (28, .aload_n 2), (29, .invokevirtual 346), (32, .if_icmp .eq 5), (35, .iload_n 3), (36, .ireturn), (37, .iinc 3 1), (40, .goto (-38)), (43, .iconst (-1)), (44, .ireturn)]
theorem jtk_Model_apartBy : jtok cX12_apartBy jtb_Model_apartBy = true := by decide +kernel
set_option maxRecDepth 100000 in
theorem jlk_X12_346 : jLkV RX12 346 yX12_losesBeside cX12_losesBeside 4 4 1 := ⟨(jTB_at 1783 rfl rfl), (jTB_at 1785 rfl rfl), (jTB_at 89 rfl rfl), (jTB_at 115 rfl rfl), jTB_at 1786 rfl rfl, ⟨by decide, by decide, by decide +kernel⟩⟩
def jE_Model_apartBy (F : Nat) : jxE := jmk [(51, 12, 23), (96, 12, 42)] [] [] [(276, (3, false), jca_Model_laysHeaps F), (346, (2, false), jca_Model_losesBeside F)] 1 jc_M
set_option maxRecDepth 100000 in
set_option maxHeartbeats 4000000 in
theorem jmet_Model_apartBy_24_28 (F : Nat) (sh : List jxC) (hs : jHas sh jc_M) (σ0 : jxS) (x : Int) (σ' : jxS) (h : Model_apartBy F 24 28 σ0 = some (x, σ')) : jMC yX12_apartBy cX12_apartBy 4 (jrt 1) 3 70 sh σ0 [(jmr 0), (jmr 24), (jmr 28)] (jrv 1 x) σ' := by
  refine jMC_of (kd := 1) (by decide) rfl h ?_
  intro X hX
  have hG : jGd X (jE_Model_apartBy F) jtb_Model_apartBy := jGd_of hX jtk_Model_apartBy (jcon jfl_X12_51 (jcon jfl_X12_96 jnil)) jnil jnil (jcon (jsV jlk_X12_276 ⟨rfl, rfl⟩ (jad_Model_laysHeaps F sh hs)) (jcon (jsV jlk_X12_346 ⟨rfl, rfl⟩ (jad_Model_losesBeside F sh hs)) jnil)) hs
  have rr2 : ∀ (fu : Nat) (v3 : Int) (σ : jxS), jRf X (Model_apartBy_c2 F 24 28 fu v3 σ) 2 [some (jmr 0), some (jmr 24), some (jmr 28), some (jmi v3)] [] σ := by
    intro  fu
    induction fu with
    | zero => intros; exact jRf_none
    | succ fu ih =>
      intro v3 σ
      exact jRf_by (jex_ok hG (cs := [(2, [some (.inr (some 0)), some (.inr (some 24)), some (.inr (some 28)), some (.inl 0)], [], fun xs σ => match xs with
      | [v3] => (Model_apartBy_c2 F 24 28 fu) v3 σ
      | _ => none)]) (jcon (jl1 (fun y0 => jl0 (fun σ => ih y0 σ))) jnil) 29 2 [some (jmr 0), some (jmr 24), some (jmr 28), some (jmi v3)] [] σ) rfl
  exact jRf_by (jex_ok hG (cs := [(2, [some (.inr (some 0)), some (.inr (some 24)), some (.inr (some 28)), some (.inl 0)], [], fun xs σ => match xs with
      | [v3] => Model_apartBy_c2 F 24 28 F v3 σ
      | _ => none)]) (jcon (jl1 (fun y0 => jl0 (fun σ => rr2 F y0 σ))) jnil) 29 0 [some (jmr 0), some (jmr 24), some (jmr 28), none] [] σ0) rfl
theorem jmet_Model_apartBy (F : Nat) (a1 : Nat) (ha1 : a1 ∈ jids_Model_apartBy_a1) (a2 : Nat) (ha2 : a2 ∈ jids_Model_apartBy_a2) (sh : List jxC) (hs : jHas sh jc_M) (σ0 : jxS) (x : Int) (σ' : jxS) (h : Model_apartBy F a1 a2 σ0 = some (x, σ')) : jMC yX12_apartBy cX12_apartBy 4 (jrt 1) 3 70 sh σ0 [(jmr 0), (jmr a1), (jmr a2)] (jrv 1 x) σ' := by
  simp only [jids_Model_apartBy_a1, List.mem_cons, List.not_mem_nil, or_false] at ha1
  simp only [jids_Model_apartBy_a2, List.mem_cons, List.not_mem_nil, or_false] at ha2
  rcases ha1 with rfl <;> rcases ha2 with rfl
  · exact jmet_Model_apartBy_24_28 F sh hs σ0  x σ' h
theorem jad_Model_apartBy (F : Nat) (sh : List jxC) (hs : jHas sh jc_M) : jAdV (jca_Model_apartBy F) yX12_apartBy cX12_apartBy 4 1 3 70 2 sh := by
  intro as σ k x σ' h
  unfold jca_Model_apartBy at h
  split at h
  · rename_i t0 t1 t2
    obtain ⟨g0, hh1⟩ := jcond h
    obtain rfl := jbeq g0
    obtain ⟨g1, hh2⟩ := jcond hh1
    have g1 := jin_of g1
    obtain ⟨g2, hh3⟩ := jcond hh2
    have g2 := jin_of g2
    obtain ⟨r, h1, h2⟩ := Option.bind_eq_some_iff.mp hh3
    exact ⟨_, _, h2, ⟨_, _, _, _, _, _, rfl, rfl, (hs _ (jkf_in (l := jc_M) (idx := 0) rfl)).1, rfl⟩, jmet_Model_apartBy F t1 g1 t2 g2 sh hs σ  r.1 r.2 h1⟩
  · cases h
def jtb_Model_apart : List (Nat × Instr) := [(0, .aload_n 0), (1, .getfield 212), (4, .ifCond .eq 38), (7, .iload_n 1), (8, .i2l), (9, .lconst 0), (10, .ldc2_w 339), (13, .invokestatic 143), (16, .ifCond .eq 26), (19, .aload_n 0), (20, .getfield 222), (23, .iload_n 1), (24, .invokestatic 248), (27, .ifCond .eq 15), (30, .iload_n 2), (31, .i2l), (32, .lconst 0), (33, .ldc2_w 304), (36, .invokestatic 143), (39, .ifCond .ne 5), (42, .iconst (-1)), (43, .ireturn), (44, .iconst 0), (45, .istore_n 3), (46, .iload_n 3), (47, .bipush 13), (49, .if_icmp .ge 26), (52, .aload_n 0), (53, .getfield 93), (56, .iload_n 3), (57, .aload_n 0), (58, .getfield 90), (61, .bipush 13), (63, .iload_n 1), (64, .imul), (65, .iload_n 3), (66, .iadd), (67, .iaload), (68, .iastore), (69, .iinc 3 1), (72, .goto (-26)), (75, .aload_n 0), (76, .getfield 81), (79, .invokestatic 254), (82, .bipush 15), (84, .if_icmp .gt 15), (87, .aload_n 0), (88, .getfield 93), (91, .invokestatic 254), (94, .bipush 15), (96, .if_icmp .le 6), (99, .bipush (-3)), (101, .ireturn), (102, .aload_n 0), (103, .aload_n 0), (104, .aload_n 0), (105, .getfield 81), (108, .aload_n 0), (109, .getfield 93), (112, .invokevirtual 350), (115, .iload_n 2), (116, .invokevirtual 319), (119, .ireturn)]
theorem jtk_Model_apart : jtok cX12_apart jtb_Model_apart = true := by decide +kernel
set_option maxRecDepth 100000 in
theorem jfl_X12_93 : jFl RX12 93 12 41 := ⟨RX12, TX12, 57, tyX12, rfl, by decide, jin_X12, tyX12_ok, nmX12, jow_X12, (Or.inl (jTB_at 1382 rfl rfl))⟩
set_option maxRecDepth 100000 in
theorem jlk_X12_350 : jLkV RX12 350 yX12_apartBy cX12_apartBy 4 1 2 := ⟨(jTB_at 1779 rfl rfl), (jTB_at 1781 rfl rfl), (jTB_at 88 rfl rfl), (jTB_at 115 rfl rfl), jTB_at 1782 rfl rfl, ⟨by decide, by decide, by decide +kernel⟩⟩
def jE_Model_apart (F : Nat) : jxE := jmk [(81, 12, 35), (90, 12, 39), (93, 12, 41), (212, 12, 13), (222, 12, 40)] [(304, jml 12), (339, jml 2)] [] [(143, (3, true), jca_Model_isIn F), (248, (2, true), jca_Model_has F), (254, (1, true), jca_Model_beansOf F), (319, (3, false), jca_Model_told F), (350, (3, false), jca_Model_apartBy F)] 1 jc_M
set_option maxRecDepth 100000 in
set_option maxHeartbeats 4000000 in
theorem jmet_Model_apart (F : Nat) (sh : List jxC) (hs : jHas sh jc_M) (σ0 : jxS) (v1 : Int) (v2 : Int) (x : Int) (σ' : jxS) (h : Model_apart F σ0 v1 v2 = some (x, σ')) : jMC yX12_apart cX12_apart 4 (jrt 1) 4 93 sh σ0 [(jmr 0), (jmi v1), (jmi v2)] (jrv 1 x) σ' := by
  refine jMC_of (kd := 1) (by decide) rfl h ?_
  intro X hX
  have hG : jGd X (jE_Model_apart F) jtb_Model_apart := jGd_of hX jtk_Model_apart (jcon jfl_X12_81 (jcon jfl_X12_90 (jcon jfl_X12_93 (jcon jfl_X12_212 (jcon jfl_X12_222 jnil))))) (jcon (jTB_at 1651 rfl rfl) (jcon (jTB_at 1757 rfl rfl) jnil)) jnil (jcon (jsS jlk_X12_143 ⟨rfl, rfl⟩ (jad_Model_isIn F sh hs)) (jcon (jsS jlk_X12_248 ⟨rfl, rfl⟩ (jad_Model_has F sh hs)) (jcon (jsS jlk_X12_254 ⟨rfl, rfl⟩ (jad_Model_beansOf F sh hs)) (jcon (jsV jlk_X12_319 ⟨rfl, rfl⟩ (jad_Model_told F sh hs)) (jcon (jsV jlk_X12_350 ⟨rfl, rfl⟩ (jad_Model_apartBy F sh hs)) jnil))))) hs
  have rr46 : ∀ (fu : Nat) (v1 v2 v3 : Int) (σ : jxS), jRf X (Model_apart_c46 F fu v1 v2 v3 σ) 46 [some (jmr 0), some (jmi v1), some (jmi v2), some (jmi v3)] [] σ := by
    intro  fu
    induction fu with
    | zero => intros; exact jRf_none
    | succ fu ih =>
      intro v1 v2 v3 σ
      exact jRf_by (jex_ok hG (cs := [(46, [some (.inr (some 0)), some (.inl 0), some (.inl 0), some (.inl 0)], [], fun xs σ => match xs with
      | [v1, v2, v3] => (Model_apart_c46 F fu) v1 v2 v3 σ
      | _ => none)]) (jcon (jl3 (fun y0 y1 y2 => jl0 (fun σ => ih y0 y1 y2 σ))) jnil) 66 46 [some (jmr 0), some (jmi v1), some (jmi v2), some (jmi v3)] [] σ) rfl
  exact jRf_by (jex_ok hG (cs := [(46, [some (.inr (some 0)), some (.inl 0), some (.inl 0), some (.inl 0)], [], fun xs σ => match xs with
      | [v1, v2, v3] => Model_apart_c46 F F v1 v2 v3 σ
      | _ => none)]) (jcon (jl3 (fun y0 y1 y2 => jl0 (fun σ => rr46 F y0 y1 y2 σ))) jnil) 66 0 [some (jmr 0), some (jmi v1), some (jmi v2), none] [] σ0) rfl
theorem jad_Model_apart (F : Nat) (sh : List jxC) (hs : jHas sh jc_M) : jAdV (jca_Model_apart F) yX12_apart cX12_apart 4 1 4 93 2 sh := by
  intro as σ k x σ' h
  unfold jca_Model_apart at h
  split at h
  · rename_i t0 v1 v2
    obtain ⟨g0, hh1⟩ := jcond h
    obtain rfl := jbeq g0
    obtain ⟨r, h1, h2⟩ := Option.bind_eq_some_iff.mp hh1
    exact ⟨_, _, h2, ⟨_, _, _, _, _, _, rfl, rfl, (hs _ (jkf_in (l := jc_M) (idx := 0) rfl)).1, rfl⟩, jmet_Model_apart F  sh hs σ v1 v2 r.1 r.2 h1⟩
  · cases h
def jtb_Model_simplest : List (Nat × Instr) := [(0, .aload_n 0), (1, .getfield 212), (4, .ifCond .eq 15), (7, .iload_n 1), (8, .i2l), (9, .lconst 0), (10, .ldc2_w 304), (13, .invokestatic 143), (16, .ifCond .ne 5), (19, .iconst (-1)), (20, .ireturn), (21, .aload_n 0), (22, .getfield 81), (25, .invokestatic 254), (28, .bipush 15), (30, .if_icmp .le 6), (33, .bipush (-3)), (35, .ireturn), (36, .iconst 0), (37, .istore_n 2), (38, .iload_n 2), (39, .aload_n 0), (40, .getfield 51), (43, .bipush 8), (45, .iaload), (46, .if_icmp .ge 40), (49, .aload_n 0), (50, .iload_n 2), (51, .aload_n 0), (52, .getfield 93), (55, .invokevirtual 276), (58, .aload_n 0), (59, .aload_n 0), (60, .getfield 81), (63, .aload_n 0), (64, .getfield 93), (67, .invokevirtual 350), (70, .ifCond .ge 10), (73, .aload_n 0), (74, .iload_n 2), (75, .iload_n 1), (76, .invokevirtual 312), (79, .ireturn), (80, .iinc 2 1), (83, .goto (-45)), (86, .bipush (-2)), (88, .ireturn)]
theorem jtk_Model_simplest : jtok cX12_simplest jtb_Model_simplest = true := by decide +kernel
def jE_Model_simplest (F : Nat) : jxE := jmk [(51, 12, 23), (81, 12, 35), (93, 12, 41), (212, 12, 13)] [(304, jml 12)] [] [(143, (3, true), jca_Model_isIn F), (254, (1, true), jca_Model_beansOf F), (276, (3, false), jca_Model_laysHeaps F), (312, (3, false), jca_Model_partOf F), (350, (3, false), jca_Model_apartBy F)] 1 jc_M
set_option maxRecDepth 100000 in
set_option maxHeartbeats 4000000 in
theorem jmet_Model_simplest (F : Nat) (sh : List jxC) (hs : jHas sh jc_M) (σ0 : jxS) (v1 : Int) (x : Int) (σ' : jxS) (h : Model_simplest F σ0 v1 = some (x, σ')) : jMC yX12_simplest cX12_simplest 3 (jrt 1) 4 93 sh σ0 [(jmr 0), (jmi v1)] (jrv 1 x) σ' := by
  refine jMC_of (kd := 1) (by decide) rfl h ?_
  intro X hX
  have hG : jGd X (jE_Model_simplest F) jtb_Model_simplest := jGd_of hX jtk_Model_simplest (jcon jfl_X12_51 (jcon jfl_X12_81 (jcon jfl_X12_93 (jcon jfl_X12_212 jnil)))) (jcon (jTB_at 1651 rfl rfl) jnil) jnil (jcon (jsS jlk_X12_143 ⟨rfl, rfl⟩ (jad_Model_isIn F sh hs)) (jcon (jsS jlk_X12_254 ⟨rfl, rfl⟩ (jad_Model_beansOf F sh hs)) (jcon (jsV jlk_X12_276 ⟨rfl, rfl⟩ (jad_Model_laysHeaps F sh hs)) (jcon (jsV jlk_X12_312 ⟨rfl, rfl⟩ (jad_Model_partOf F sh hs)) (jcon (jsV jlk_X12_350 ⟨rfl, rfl⟩ (jad_Model_apartBy F sh hs)) jnil))))) hs
  have rr38 : ∀ (fu : Nat) (v1 v2 : Int) (σ : jxS), jRf X (Model_simplest_c38 F fu v1 v2 σ) 38 [some (jmr 0), some (jmi v1), some (jmi v2)] [] σ := by
    intro  fu
    induction fu with
    | zero => intros; exact jRf_none
    | succ fu ih =>
      intro v1 v2 σ
      exact jRf_by (jex_ok hG (cs := [(38, [some (.inr (some 0)), some (.inl 0), some (.inl 0)], [], fun xs σ => match xs with
      | [v1, v2] => (Model_simplest_c38 F fu) v1 v2 σ
      | _ => none)]) (jcon (jl2 (fun y0 y1 => jl0 (fun σ => ih y0 y1 σ))) jnil) 50 38 [some (jmr 0), some (jmi v1), some (jmi v2)] [] σ) rfl
  exact jRf_by (jex_ok hG (cs := [(38, [some (.inr (some 0)), some (.inl 0), some (.inl 0)], [], fun xs σ => match xs with
      | [v1, v2] => Model_simplest_c38 F F v1 v2 σ
      | _ => none)]) (jcon (jl2 (fun y0 y1 => jl0 (fun σ => rr38 F y0 y1 σ))) jnil) 50 0 [some (jmr 0), some (jmi v1), none] [] σ0) rfl
theorem jad_Model_simplest (F : Nat) (sh : List jxC) (hs : jHas sh jc_M) : jAdV (jca_Model_simplest F) yX12_simplest cX12_simplest 3 1 4 93 1 sh := by
  intro as σ k x σ' h
  unfold jca_Model_simplest at h
  split at h
  · rename_i t0 v1
    obtain ⟨g0, hh1⟩ := jcond h
    obtain rfl := jbeq g0
    obtain ⟨r, h1, h2⟩ := Option.bind_eq_some_iff.mp hh1
    exact ⟨_, _, h2, ⟨_, _, _, _, _, _, rfl, rfl, (hs _ (jkf_in (l := jc_M) (idx := 0) rfl)).1, rfl⟩, jmet_Model_simplest F  sh hs σ v1 r.1 r.2 h1⟩
  · cases h
def jtb_Model_answers : List (Nat × Instr) := [(0, .aload_n 0), (1, .getfield 212), (4, .ifCond .eq 8), (7, .iload_n 1), (8, .iconst (-1)), (9, .if_icmp .ge 5), (12, .iconst (-1)), (13, .ireturn), (14, .iconst 0), (15, .istore_n 2), (16, .iconst 1), (17, .istore_n 3), (18, .iload_n 3), (19, .bipush 12), (21, .if_icmp .gt 97), (24, .iconst 0), (25, .istore 4), (27, .iload 4), (29, .aload_n 0), (30, .getfield 39), (33, .iload_n 3), (34, .iaload), (35, .if_icmp .ge 77), (38, .aload_n 0), (39, .getfield 81), (42, .iload_n 3), (43, .iaload), (44, .ifCond .le 68), (47, .aload_n 0), (48, .getfield 54), (51, .aload_n 0), (52, .aload_n 0), (53, .getfield 81), (56, .iload_n 3), (57, .aload_n 0), (58, .getfield 36), (61, .bipush 64), (63, .iload_n 3), (64, .imul), (65, .iload 4), (67, .iadd), (68, .iaload), (69, .invokevirtual 272), (72, .baload), (73, .ifCond .ne 6), (76, .goto 30), (79, .iload_n 2), (80, .iload_n 1), (81, .if_icmp .ne 22), (84, .sipush 1000), (87, .iload_n 3), (88, .imul), (89, .aload_n 0), (90, .getfield 36), (93, .bipush 64), (95, .iload_n 3), (96, .imul), (97, .iload 4), (99, .iadd), (100, .iaload), (101, .iadd), (102, .ireturn), (103, .iinc 2 1), (106, .iinc 4 1), (109, .goto (-82)), (112, .iinc 3 1), (115, .goto (-97)), (118, .iload_n 1), (119, .iconst (-1)), (120, .if_icmp .ne 7), (123, .iload_n 2), (124, .goto 5), (127, .bipush (-2)), (129, .ireturn)]
theorem jtk_Model_answers : jtok cX12_answers jtb_Model_answers = true := by decide +kernel
def jE_Model_answers (F : Nat) : jxE := jmk [(36, 12, 18), (39, 12, 19), (54, 12, 25), (81, 12, 35), (212, 12, 13)] [] [] [(272, (4, false), jca_Model_behind F)] 1 jc_M
set_option maxRecDepth 100000 in
set_option maxHeartbeats 4000000 in
theorem jmet_Model_answers (F : Nat) (sh : List jxC) (hs : jHas sh jc_M) (σ0 : jxS) (v1 : Int) (x : Int) (σ' : jxS) (h : Model_answers F σ0 v1 = some (x, σ')) : jMC yX12_answers cX12_answers 5 (jrt 1) 3 71 sh σ0 [(jmr 0), (jmi v1)] (jrv 1 x) σ' := by
  refine jMC_of (kd := 1) (by decide) rfl h ?_
  intro X hX
  have hG : jGd X (jE_Model_answers F) jtb_Model_answers := jGd_of hX jtk_Model_answers (jcon jfl_X12_36 (jcon jfl_X12_39 (jcon jfl_X12_54 (jcon jfl_X12_81 (jcon jfl_X12_212 jnil))))) jnil jnil (jcon (jsV jlk_X12_272 ⟨rfl, rfl⟩ (jad_Model_behind F sh hs)) jnil) hs
  have rr27 : ∀ (k18 : Int → Int → Int → jxS → Option jxR) (h18 : ∀ v1 v2 v3 σ, jRf X (k18 v1 v2 v3 σ) 18 [some (jmr 0), some (jmi v1), some (jmi v2), some (jmi v3), none] [] σ) (fu : Nat) (v1 v2 v3 v4 : Int) (σ : jxS), jRf X (Model_answers_c27 F k18 fu v1 v2 v3 v4 σ) 27 [some (jmr 0), some (jmi v1), some (jmi v2), some (jmi v3), some (jmi v4)] [] σ := by
    intro k18 h18 fu
    induction fu with
    | zero => intros; exact jRf_none
    | succ fu ih =>
      intro v1 v2 v3 v4 σ
      exact jRf_by (jex_ok hG (cs := [(18, [some (.inr (some 0)), some (.inl 0), some (.inl 0), some (.inl 0), none], [], fun xs σ => match xs with
      | [v1, v2, v3] => k18 v1 v2 v3 σ
      | _ => none), (27, [some (.inr (some 0)), some (.inl 0), some (.inl 0), some (.inl 0), some (.inl 0)], [], fun xs σ => match xs with
      | [v1, v2, v3, v4] => (Model_answers_c27 F k18 fu) v1 v2 v3 v4 σ
      | _ => none)]) (jcon (jl3 (fun y0 y1 y2 => jl0 (fun σ => h18 y0 y1 y2 σ))) (jcon (jl4 (fun y0 y1 y2 y3 => jl0 (fun σ => ih y0 y1 y2 y3 σ))) jnil)) 77 27 [some (jmr 0), some (jmi v1), some (jmi v2), some (jmi v3), some (jmi v4)] [] σ) rfl
  have rr18 : ∀ (fu : Nat) (v1 v2 v3 : Int) (σ : jxS), jRf X (Model_answers_c18 F fu v1 v2 v3 σ) 18 [some (jmr 0), some (jmi v1), some (jmi v2), some (jmi v3), none] [] σ := by
    intro  fu
    induction fu with
    | zero => intros; exact jRf_none
    | succ fu ih =>
      intro v1 v2 v3 σ
      exact jRf_by (jex_ok hG (cs := [(27, [some (.inr (some 0)), some (.inl 0), some (.inl 0), some (.inl 0), some (.inl 0)], [], fun xs σ => match xs with
      | [v1, v2, v3, v4] => Model_answers_c27 F (Model_answers_c18 F fu) F v1 v2 v3 v4 σ
      | _ => none)]) (jcon (jl4 (fun y0 y1 y2 y3 => jl0 (fun σ => rr27 _ ih F y0 y1 y2 y3 σ))) jnil) 77 18 [some (jmr 0), some (jmi v1), some (jmi v2), some (jmi v3), none] [] σ) rfl
  exact jRf_by (jex_ok hG (cs := [(18, [some (.inr (some 0)), some (.inl 0), some (.inl 0), some (.inl 0), none], [], fun xs σ => match xs with
      | [v1, v2, v3] => Model_answers_c18 F F v1 v2 v3 σ
      | _ => none)]) (jcon (jl3 (fun y0 y1 y2 => jl0 (fun σ => rr18 F y0 y1 y2 σ))) jnil) 77 0 [some (jmr 0), some (jmi v1), none, none, none] [] σ0) rfl
theorem jad_Model_answers (F : Nat) (sh : List jxC) (hs : jHas sh jc_M) : jAdV (jca_Model_answers F) yX12_answers cX12_answers 5 1 3 71 1 sh := by
  intro as σ k x σ' h
  unfold jca_Model_answers at h
  split at h
  · rename_i t0 v1
    obtain ⟨g0, hh1⟩ := jcond h
    obtain rfl := jbeq g0
    obtain ⟨r, h1, h2⟩ := Option.bind_eq_some_iff.mp hh1
    exact ⟨_, _, h2, ⟨_, _, _, _, _, _, rfl, rfl, (hs _ (jkf_in (l := jc_M) (idx := 0) rfl)).1, rfl⟩, jmet_Model_answers F  sh hs σ v1 r.1 r.2 h1⟩
  · cases h
def jtb_Model_draws : List (Nat × Instr) := [(0, .iload_n 1), (1, .ifCond .ge 5), (4, .iconst (-1)), (5, .ireturn), (6, .aload_n 0), (7, .getfield 354), (10, .istore_n 2), (11, .aload_n 0), (12, .iload_n 1), (13, .putfield 354), (16, .iload_n 2), (17, .ireturn)]
theorem jtk_Model_draws : jtok cX12_draws jtb_Model_draws = true := by decide +kernel
set_option maxRecDepth 100000 in
theorem jfl_X12_354 : jFl RX12 354 12 43 := ⟨RX12, TX12, 57, tyX12, rfl, by decide, jin_X12, tyX12_ok, nmX12, jow_X12, (Or.inl (jTB_at 1384 rfl rfl))⟩
def jE_Model_draws (F : Nat) : jxE := jmk [(354, 12, 43)] [] [] [] 1 jc_M
set_option maxRecDepth 100000 in
set_option maxHeartbeats 4000000 in
theorem jmet_Model_draws (F : Nat) (sh : List jxC) (hs : jHas sh jc_M) (σ0 : jxS) (v1 : Int) (x : Int) (σ' : jxS) (h : Model_draws F σ0 v1 = some (x, σ')) : jMC yX12_draws cX12_draws 3 (jrt 1) 0 0 sh σ0 [(jmr 0), (jmi v1)] (jrv 1 x) σ' := by
  refine jMC_of (kd := 1) (by decide) rfl h ?_
  intro X hX
  have hG : jGd X (jE_Model_draws F) jtb_Model_draws := jGd_of hX jtk_Model_draws (jcon jfl_X12_354 jnil) jnil jnil jnil hs
  exact jRf_by (jex_ok hG (cs := []) jnil 15 0 [some (jmr 0), some (jmi v1), none] [] σ0) rfl
theorem jad_Model_draws (F : Nat) (sh : List jxC) (hs : jHas sh jc_M) : jAdV (jca_Model_draws F) yX12_draws cX12_draws 3 1 0 0 1 sh := by
  intro as σ k x σ' h
  unfold jca_Model_draws at h
  split at h
  · rename_i t0 v1
    obtain ⟨g0, hh1⟩ := jcond h
    obtain rfl := jbeq g0
    obtain ⟨r, h1, h2⟩ := Option.bind_eq_some_iff.mp hh1
    exact ⟨_, _, h2, ⟨_, _, _, _, _, _, rfl, rfl, (hs _ (jkf_in (l := jc_M) (idx := 0) rfl)).1, rfl⟩, jmet_Model_draws F  sh hs σ v1 r.1 r.2 h1⟩
  · cases h
def jtb_Model_movesOfWalk : List (Nat × Instr) := [(0, .iconst 0), (1, .istore_n 1), (2, .iconst 1), (3, .istore_n 2), (4, .iload_n 2), (5, .bipush 12), (7, .if_icmp .gt 25), (10, .iload_n 1), (11, .aload_n 0), (12, .getfield 87), (15, .iload_n 2), (16, .iaload), (17, .aload_n 0), (18, .getfield 39), (21, .iload_n 2), (22, .iaload), (23, .imul), (24, .iadd), (25, .istore_n 1), (26, .iinc 2 1), (29, .goto (-25)), (32, .iload_n 1), (33, .ireturn)]
theorem jtk_Model_movesOfWalk : jtok cX12_movesOfWalk jtb_Model_movesOfWalk = true := by decide +kernel
def jE_Model_movesOfWalk (F : Nat) : jxE := jmk [(39, 12, 19), (87, 12, 38)] [] [] [] 1 jc_M
set_option maxRecDepth 100000 in
set_option maxHeartbeats 4000000 in
theorem jmet_Model_movesOfWalk (F : Nat) (sh : List jxC) (hs : jHas sh jc_M) (σ0 : jxS) (x : Int) (σ' : jxS) (h : Model_movesOfWalk F σ0 = some (x, σ')) : jMC yX12_movesOfWalk cX12_movesOfWalk 3 (jrt 1) 0 0 sh σ0 [(jmr 0)] (jrv 1 x) σ' := by
  refine jMC_of (kd := 1) (by decide) rfl h ?_
  intro X hX
  have hG : jGd X (jE_Model_movesOfWalk F) jtb_Model_movesOfWalk := jGd_of hX jtk_Model_movesOfWalk (jcon jfl_X12_39 (jcon jfl_X12_87 jnil)) jnil jnil jnil hs
  have rr4 : ∀ (fu : Nat) (v1 v2 : Int) (σ : jxS), jRf X (Model_movesOfWalk_c4 F fu v1 v2 σ) 4 [some (jmr 0), some (jmi v1), some (jmi v2)] [] σ := by
    intro  fu
    induction fu with
    | zero => intros; exact jRf_none
    | succ fu ih =>
      intro v1 v2 σ
      exact jRf_by (jex_ok hG (cs := [(4, [some (.inr (some 0)), some (.inl 0), some (.inl 0)], [], fun xs σ => match xs with
      | [v1, v2] => (Model_movesOfWalk_c4 F fu) v1 v2 σ
      | _ => none)]) (jcon (jl2 (fun y0 y1 => jl0 (fun σ => ih y0 y1 σ))) jnil) 26 4 [some (jmr 0), some (jmi v1), some (jmi v2)] [] σ) rfl
  exact jRf_by (jex_ok hG (cs := [(4, [some (.inr (some 0)), some (.inl 0), some (.inl 0)], [], fun xs σ => match xs with
      | [v1, v2] => Model_movesOfWalk_c4 F F v1 v2 σ
      | _ => none)]) (jcon (jl2 (fun y0 y1 => jl0 (fun σ => rr4 F y0 y1 σ))) jnil) 26 0 [some (jmr 0), none, none] [] σ0) rfl
theorem jad_Model_movesOfWalk (F : Nat) (sh : List jxC) (hs : jHas sh jc_M) : jAdV (jca_Model_movesOfWalk F) yX12_movesOfWalk cX12_movesOfWalk 3 1 0 0 0 sh := by
  intro as σ k x σ' h
  unfold jca_Model_movesOfWalk at h
  split at h
  · rename_i t0
    obtain ⟨g0, hh1⟩ := jcond h
    obtain rfl := jbeq g0
    obtain ⟨r, h1, h2⟩ := Option.bind_eq_some_iff.mp hh1
    exact ⟨_, _, h2, ⟨_, _, _, _, _, _, rfl, rfl, (hs _ (jkf_in (l := jc_M) (idx := 0) rfl)).1, rfl⟩, jmet_Model_movesOfWalk F  sh hs σ  r.1 r.2 h1⟩
  · cases h
def jtb_Model_draw : List (Nat × Instr) := [(0, .aload_n 0), (1, .aload_n 0), (2, .getfield 357), (5, .ldc2_w 361), (8, .lmul), (9, .ldc2_w 363), (12, .ladd), (13, .ldc2_w 365), (16, .lrem), (17, .putfield 357), (20, .aload_n 0), (21, .getfield 357), (24, .ldc2_w 367), (27, .ldiv), (28, .iload_n 1), (29, .i2l), (30, .lrem), (31, .l2i), (32, .ireturn)]
theorem jtk_Model_draw : jtok cX12_draw jtb_Model_draw = true := by decide +kernel
set_option maxRecDepth 100000 in
theorem jfl_X12_357 : jFl RX12 357 12 44 := ⟨RX12, TX12, 57, tyX12, rfl, by decide, jin_X12, tyX12_ok, nmX12, jow_X12, (Or.inl (jTB_at 1385 rfl rfl))⟩
def jE_Model_draw (F : Nat) : jxE := jmk [(357, 12, 44)] [(361, jml 1103515245), (363, jml 12345), (365, jml 2147483648), (367, jml 65536)] [] [] 1 jc_M
set_option maxRecDepth 100000 in
set_option maxHeartbeats 4000000 in
theorem jmet_Model_draw (F : Nat) (sh : List jxC) (hs : jHas sh jc_M) (σ0 : jxS) (v1 : Int) (x : Int) (σ' : jxS) (h : Model_draw F σ0 v1 = some (x, σ')) : jMC yX12_draw cX12_draw 2 (jrt 1) 0 0 sh σ0 [(jmr 0), (jmi v1)] (jrv 1 x) σ' := by
  refine jMC_of (kd := 1) (by decide) rfl h ?_
  intro X hX
  have hG : jGd X (jE_Model_draw F) jtb_Model_draw := jGd_of hX jtk_Model_draw (jcon jfl_X12_357 jnil) (jcon (jTB_at 1812 rfl rfl) (jcon (jTB_at 1813 rfl rfl) (jcon (jTB_at 1814 rfl rfl) (jcon (jTB_at 1815 rfl rfl) jnil)))) jnil jnil hs
  exact jRf_by (jex_ok hG (cs := []) jnil 22 0 [some (jmr 0), some (jmi v1)] [] σ0) rfl
theorem jad_Model_draw (F : Nat) (sh : List jxC) (hs : jHas sh jc_M) : jAdV (jca_Model_draw F) yX12_draw cX12_draw 2 1 0 0 1 sh := by
  intro as σ k x σ' h
  unfold jca_Model_draw at h
  split at h
  · rename_i t0 v1
    obtain ⟨g0, hh1⟩ := jcond h
    obtain rfl := jbeq g0
    obtain ⟨r, h1, h2⟩ := Option.bind_eq_some_iff.mp hh1
    exact ⟨_, _, h2, ⟨_, _, _, _, _, _, rfl, rfl, (hs _ (jkf_in (l := jc_M) (idx := 0) rfl)).1, rfl⟩, jmet_Model_draw F  sh hs σ v1 r.1 r.2 h1⟩
  · cases h
def jtb_Model_goesBy : List (Nat × Instr) := [(0, .iload_n 1), (1, .istore_n 2), (2, .iconst 1), (3, .istore_n 3), (4, .iload_n 2), (5, .aload_n 0), (6, .getfield 87), (9, .iload_n 3), (10, .iaload), (11, .aload_n 0), (12, .getfield 39), (15, .iload_n 3), (16, .iaload), (17, .imul), (18, .if_icmp .lt 25), (21, .iload_n 2), (22, .aload_n 0), (23, .getfield 87), (26, .iload_n 3), (27, .iaload), (28, .aload_n 0), (29, .getfield 39), (32, .iload_n 3), (33, .iaload), (34, .imul), (35, .isub), (36, .istore_n 2), (37, .iinc 3 1), (40, .goto (-36)), (43, .aload_n 0), (44, .getfield 87), (47, .iload_n 3), (48, .aload_n 0), (49, .getfield 36), (52, .bipush 64), (54, .iload_n 3), (55, .imul), (56, .iload_n 2), (57, .aload_n 0), (58, .getfield 39), (61, .iload_n 3), (62, .iaload), (63, .irem), (64, .iadd), (65, .iaload), (66, .iconst 1), (67, .invokestatic 262), (70, .return_)]
theorem jtk_Model_goesBy : jtok cX12_goesBy jtb_Model_goesBy = true := by decide +kernel
def jE_Model_goesBy (F : Nat) : jxE := jmk [(36, 12, 18), (39, 12, 19), (87, 12, 38)] [] [] [(262, (4, true), jca_Model_changes F)] 0 jc_M
set_option maxRecDepth 100000 in
set_option maxHeartbeats 4000000 in
theorem jmet_Model_goesBy (F : Nat) (sh : List jxC) (hs : jHas sh jc_M) (σ0 : jxS) (v1 : Int) (x : Int) (σ' : jxS) (h : Model_goesBy F σ0 v1 = some (x, σ')) : jMC yX12_goesBy cX12_goesBy 4 (jrt 0) 2 45 sh σ0 [(jmr 0), (jmi v1)] (jrv 0 x) σ' := by
  refine jMC_of (kd := 0) (by decide) rfl h ?_
  intro X hX
  have hG : jGd X (jE_Model_goesBy F) jtb_Model_goesBy := jGd_of hX jtk_Model_goesBy (jcon jfl_X12_36 (jcon jfl_X12_39 (jcon jfl_X12_87 jnil))) jnil jnil (jcon (jsS jlk_X12_262 ⟨rfl, rfl⟩ (jad_Model_changes F sh hs)) jnil) hs
  have rr4 : ∀ (fu : Nat) (v2 v3 : Int) (σ : jxS), jRf X (Model_goesBy_c4 F fu v2 v3 σ) 4 [some (jmr 0), none, some (jmi v2), some (jmi v3)] [] σ := by
    intro  fu
    induction fu with
    | zero => intros; exact jRf_none
    | succ fu ih =>
      intro v2 v3 σ
      exact jRf_by (jex_ok hG (cs := [(4, [some (.inr (some 0)), none, some (.inl 0), some (.inl 0)], [], fun xs σ => match xs with
      | [v2, v3] => (Model_goesBy_c4 F fu) v2 v3 σ
      | _ => none)]) (jcon (jl2 (fun y0 y1 => jl0 (fun σ => ih y0 y1 σ))) jnil) 51 4 [some (jmr 0), none, some (jmi v2), some (jmi v3)] [] σ) rfl
  exact jRf_by (jex_ok hG (cs := [(4, [some (.inr (some 0)), none, some (.inl 0), some (.inl 0)], [], fun xs σ => match xs with
      | [v2, v3] => Model_goesBy_c4 F F v2 v3 σ
      | _ => none)]) (jcon (jl2 (fun y0 y1 => jl0 (fun σ => rr4 F y0 y1 σ))) jnil) 51 0 [some (jmr 0), some (jmi v1), none, none] [] σ0) rfl
theorem jad_Model_goesBy (F : Nat) (sh : List jxC) (hs : jHas sh jc_M) : jAdV (jca_Model_goesBy F) yX12_goesBy cX12_goesBy 4 0 2 45 1 sh := by
  intro as σ k x σ' h
  unfold jca_Model_goesBy at h
  split at h
  · rename_i t0 v1
    obtain ⟨g0, hh1⟩ := jcond h
    obtain rfl := jbeq g0
    obtain ⟨r, h1, h2⟩ := Option.bind_eq_some_iff.mp hh1
    exact ⟨_, _, h2, ⟨_, _, _, _, _, _, rfl, rfl, (hs _ (jkf_in (l := jc_M) (idx := 0) rfl)).1, rfl⟩, jmet_Model_goesBy F  sh hs σ v1 r.1 r.2 h1⟩
  · cases h
def jtb_Model_games : List (Nat × Instr) := [(0, .aload_n 0), (1, .getfield 212), (4, .ifCond .eq 25), (7, .iload_n 1), (8, .i2l), (9, .lconst 1), (10, .ldc2_w 369), (13, .invokestatic 143), (16, .ifCond .eq 13), (19, .iload_n 2), (20, .i2l), (21, .lconst 0), (22, .lconst 1), (23, .invokestatic 143), (26, .ifCond .ne 5), (29, .iconst (-1)), (30, .ireturn), (31, .aload_n 0), (32, .aload_n 0), (33, .getfield 354), (36, .i2l), (37, .putfield 357), (40, .iconst 0), (41, .istore_n 3), (42, .iconst 0), (43, .istore 4), (45, .iconst 0), (46, .istore 5), (48, .iload 5), (50, .iload_n 1), (51, .if_icmp .ge 97), (54, .iconst 0), (55, .istore 6), (57, .iload 6), (59, .bipush 13), (61, .if_icmp .ge 23), (64, .aload_n 0), (65, .getfield 87), (68, .iload 6), (70, .aload_n 0), (71, .getfield 81), (74, .iload 6), (76, .iaload), (77, .iastore), (78, .iinc 6 1), (81, .goto (-24)), (84, .iconst 0), (85, .istore 6), (87, .aload_n 0), (88, .invokevirtual 371), (91, .istore 7), (93, .iload 7), (95, .ifCond .le 25), (98, .aload_n 0), (99, .aload_n 0), (100, .iload 7), (102, .invokevirtual 374), (105, .invokevirtual 377), (108, .iinc 6 1), (111, .aload_n 0), (112, .invokevirtual 371), (115, .istore 7), (117, .goto (-24)), (120, .iload_n 3), (121, .iload 6), (123, .iconst 2), (124, .irem), (125, .ifCond .ne 7), (128, .iconst 1), (129, .goto 4), (132, .iconst 0), (133, .iadd), (134, .istore_n 3), (135, .iload 4), (137, .iload 6), (139, .iadd), (140, .istore 4), (142, .iinc 5 1), (145, .goto (-97)), (148, .iload_n 2), (149, .ifCond .ne 7), (152, .iload_n 3), (153, .goto 5), (156, .iload 4), (158, .ireturn)]
theorem jtk_Model_games : jtok cX12_games jtb_Model_games = true := by decide +kernel
set_option maxRecDepth 100000 in
theorem jlk_X12_371 : jLkV RX12 371 yX12_movesOfWalk cX12_movesOfWalk 3 1 0 := ⟨(jTB_at 1804 rfl rfl), (jTB_at 1806 rfl rfl), (jTB_at 90 rfl rfl), (jTB_at 115 rfl rfl), jTB_at 1807 rfl rfl, ⟨by decide, by decide, by decide +kernel⟩⟩
set_option maxRecDepth 100000 in
theorem jlk_X12_374 : jLkV RX12 374 yX12_draw cX12_draw 2 1 1 := ⟨(jTB_at 1808 rfl rfl), (jTB_at 1810 rfl rfl), (jTB_at 91 rfl rfl), (jTB_at 115 rfl rfl), jTB_at 1811 rfl rfl, ⟨by decide, by decide, by decide +kernel⟩⟩
set_option maxRecDepth 100000 in
theorem jlk_X12_377 : jLkV RX12 377 yX12_goesBy cX12_goesBy 4 0 1 := ⟨(jTB_at 1816 rfl rfl), (jTB_at 1818 rfl rfl), (jTB_at 92 rfl rfl), (jTB_at 115 rfl rfl), jTB_at 1819 rfl rfl, ⟨by decide, by decide, by decide +kernel⟩⟩
def jE_Model_games (F : Nat) : jxE := jmk [(81, 12, 35), (87, 12, 38), (212, 12, 13), (354, 12, 43), (357, 12, 44)] [(369, jml 20)] [] [(143, (3, true), jca_Model_isIn F), (371, (1, false), jca_Model_movesOfWalk F), (374, (2, false), jca_Model_draw F), (377, (2, false), jca_Model_goesBy F)] 1 jc_M
set_option maxRecDepth 100000 in
set_option maxHeartbeats 4000000 in
theorem jmet_Model_games (F : Nat) (sh : List jxC) (hs : jHas sh jc_M) (σ0 : jxS) (v1 : Int) (v2 : Int) (x : Int) (σ' : jxS) (h : Model_games F σ0 v1 v2 = some (x, σ')) : jMC yX12_games cX12_games 8 (jrt 1) 3 68 sh σ0 [(jmr 0), (jmi v1), (jmi v2)] (jrv 1 x) σ' := by
  refine jMC_of (kd := 1) (by decide) rfl h ?_
  intro X hX
  have hG : jGd X (jE_Model_games F) jtb_Model_games := jGd_of hX jtk_Model_games (jcon jfl_X12_81 (jcon jfl_X12_87 (jcon jfl_X12_212 (jcon jfl_X12_354 (jcon jfl_X12_357 jnil))))) (jcon (jTB_at 1803 rfl rfl) jnil) jnil (jcon (jsS jlk_X12_143 ⟨rfl, rfl⟩ (jad_Model_isIn F sh hs)) (jcon (jsV jlk_X12_371 ⟨rfl, rfl⟩ (jad_Model_movesOfWalk F sh hs)) (jcon (jsV jlk_X12_374 ⟨rfl, rfl⟩ (jad_Model_draw F sh hs)) (jcon (jsV jlk_X12_377 ⟨rfl, rfl⟩ (jad_Model_goesBy F sh hs)) jnil)))) hs
  have rr133 : ∀ (k48 : Int → Int → Int → Int → Int → jxS → Option jxR) (h48 : ∀ v1 v2 v3 v4 v5 σ, jRf X (k48 v1 v2 v3 v4 v5 σ) 48 [some (jmr 0), some (jmi v1), some (jmi v2), some (jmi v3), some (jmi v4), some (jmi v5), none, none] [] σ) (v1 v2 v4 v5 v6 t0 t1 : Int) (σ : jxS), jRf X (Model_games_c133 F k48 v1 v2 v4 v5 v6 t0 t1 σ) 133 [some (jmr 0), some (jmi v1), some (jmi v2), none, some (jmi v4), some (jmi v5), some (jmi v6), none] [(jmi t0), (jmi t1)] σ := by
    intro k48 h48 v1 v2 v4 v5 v6 t0 t1 σ
    exact jRf_by (jex_ok hG (cs := [(48, [some (.inr (some 0)), some (.inl 0), some (.inl 0), some (.inl 0), some (.inl 0), some (.inl 0), none, none], [], fun xs σ => match xs with
      | [v1, v2, v3, v4, v5] => k48 v1 v2 v3 v4 v5 σ
      | _ => none)]) (jcon (jl5 (fun y0 y1 y2 y3 y4 => jl0 (fun σ => h48 y0 y1 y2 y3 y4 σ))) jnil) 88 133 [some (jmr 0), some (jmi v1), some (jmi v2), none, some (jmi v4), some (jmi v5), some (jmi v6), none] [(jmi t0), (jmi t1)] σ) rfl
  have rr93 : ∀ (k48 : Int → Int → Int → Int → Int → jxS → Option jxR) (h48 : ∀ v1 v2 v3 v4 v5 σ, jRf X (k48 v1 v2 v3 v4 v5 σ) 48 [some (jmr 0), some (jmi v1), some (jmi v2), some (jmi v3), some (jmi v4), some (jmi v5), none, none] [] σ) (fu : Nat) (v1 v2 v3 v4 v5 v6 v7 : Int) (σ : jxS), jRf X (Model_games_c93 F k48 fu v1 v2 v3 v4 v5 v6 v7 σ) 93 [some (jmr 0), some (jmi v1), some (jmi v2), some (jmi v3), some (jmi v4), some (jmi v5), some (jmi v6), some (jmi v7)] [] σ := by
    intro k48 h48 fu
    induction fu with
    | zero => intros; exact jRf_none
    | succ fu ih =>
      intro v1 v2 v3 v4 v5 v6 v7 σ
      exact jRf_by (jex_ok hG (cs := [(93, [some (.inr (some 0)), some (.inl 0), some (.inl 0), some (.inl 0), some (.inl 0), some (.inl 0), some (.inl 0), some (.inl 0)], [], fun xs σ => match xs with
      | [v1, v2, v3, v4, v5, v6, v7] => (Model_games_c93 F k48 fu) v1 v2 v3 v4 v5 v6 v7 σ
      | _ => none), (133, [some (.inr (some 0)), some (.inl 0), some (.inl 0), none, some (.inl 0), some (.inl 0), some (.inl 0), none], [(.inl 0), (.inl 0)], fun xs σ => match xs with
      | [v1, v2, v4, v5, v6, t0, t1] => Model_games_c133 F k48 v1 v2 v4 v5 v6 t0 t1 σ
      | _ => none)]) (jcon (jl7 (fun y0 y1 y2 y3 y4 y5 y6 => jl0 (fun σ => ih y0 y1 y2 y3 y4 y5 y6 σ))) (jcon (jl5 (fun y0 y1 y2 y3 y4 => jl2 (fun y5 y6 => (fun σ => rr133 _ h48 y0 y1 y2 y3 y4 y5 y6 σ)))) jnil)) 88 93 [some (jmr 0), some (jmi v1), some (jmi v2), some (jmi v3), some (jmi v4), some (jmi v5), some (jmi v6), some (jmi v7)] [] σ) rfl
  have rr57 : ∀ (k48 : Int → Int → Int → Int → Int → jxS → Option jxR) (h48 : ∀ v1 v2 v3 v4 v5 σ, jRf X (k48 v1 v2 v3 v4 v5 σ) 48 [some (jmr 0), some (jmi v1), some (jmi v2), some (jmi v3), some (jmi v4), some (jmi v5), none, none] [] σ) (fu : Nat) (v1 v2 v3 v4 v5 v6 : Int) (σ : jxS), jRf X (Model_games_c57 F k48 fu v1 v2 v3 v4 v5 v6 σ) 57 [some (jmr 0), some (jmi v1), some (jmi v2), some (jmi v3), some (jmi v4), some (jmi v5), some (jmi v6), none] [] σ := by
    intro k48 h48 fu
    induction fu with
    | zero => intros; exact jRf_none
    | succ fu ih =>
      intro v1 v2 v3 v4 v5 v6 σ
      exact jRf_by (jex_ok hG (cs := [(57, [some (.inr (some 0)), some (.inl 0), some (.inl 0), some (.inl 0), some (.inl 0), some (.inl 0), some (.inl 0), none], [], fun xs σ => match xs with
      | [v1, v2, v3, v4, v5, v6] => (Model_games_c57 F k48 fu) v1 v2 v3 v4 v5 v6 σ
      | _ => none), (93, [some (.inr (some 0)), some (.inl 0), some (.inl 0), some (.inl 0), some (.inl 0), some (.inl 0), some (.inl 0), some (.inl 0)], [], fun xs σ => match xs with
      | [v1, v2, v3, v4, v5, v6, v7] => Model_games_c93 F k48 F v1 v2 v3 v4 v5 v6 v7 σ
      | _ => none)]) (jcon (jl6 (fun y0 y1 y2 y3 y4 y5 => jl0 (fun σ => ih y0 y1 y2 y3 y4 y5 σ))) (jcon (jl7 (fun y0 y1 y2 y3 y4 y5 y6 => jl0 (fun σ => rr93 _ h48 F y0 y1 y2 y3 y4 y5 y6 σ))) jnil)) 88 57 [some (jmr 0), some (jmi v1), some (jmi v2), some (jmi v3), some (jmi v4), some (jmi v5), some (jmi v6), none] [] σ) rfl
  have rr48 : ∀ (fu : Nat) (v1 v2 v3 v4 v5 : Int) (σ : jxS), jRf X (Model_games_c48 F fu v1 v2 v3 v4 v5 σ) 48 [some (jmr 0), some (jmi v1), some (jmi v2), some (jmi v3), some (jmi v4), some (jmi v5), none, none] [] σ := by
    intro  fu
    induction fu with
    | zero => intros; exact jRf_none
    | succ fu ih =>
      intro v1 v2 v3 v4 v5 σ
      exact jRf_by (jex_ok hG (cs := [(57, [some (.inr (some 0)), some (.inl 0), some (.inl 0), some (.inl 0), some (.inl 0), some (.inl 0), some (.inl 0), none], [], fun xs σ => match xs with
      | [v1, v2, v3, v4, v5, v6] => Model_games_c57 F (Model_games_c48 F fu) F v1 v2 v3 v4 v5 v6 σ
      | _ => none)]) (jcon (jl6 (fun y0 y1 y2 y3 y4 y5 => jl0 (fun σ => rr57 _ ih F y0 y1 y2 y3 y4 y5 σ))) jnil) 88 48 [some (jmr 0), some (jmi v1), some (jmi v2), some (jmi v3), some (jmi v4), some (jmi v5), none, none] [] σ) rfl
  exact jRf_by (jex_ok hG (cs := [(48, [some (.inr (some 0)), some (.inl 0), some (.inl 0), some (.inl 0), some (.inl 0), some (.inl 0), none, none], [], fun xs σ => match xs with
      | [v1, v2, v3, v4, v5] => Model_games_c48 F F v1 v2 v3 v4 v5 σ
      | _ => none)]) (jcon (jl5 (fun y0 y1 y2 y3 y4 => jl0 (fun σ => rr48 F y0 y1 y2 y3 y4 σ))) jnil) 88 0 [some (jmr 0), some (jmi v1), some (jmi v2), none, none, none, none, none] [] σ0) rfl
theorem jad_Model_games (F : Nat) (sh : List jxC) (hs : jHas sh jc_M) : jAdV (jca_Model_games F) yX12_games cX12_games 8 1 3 68 2 sh := by
  intro as σ k x σ' h
  unfold jca_Model_games at h
  split at h
  · rename_i t0 v1 v2
    obtain ⟨g0, hh1⟩ := jcond h
    obtain rfl := jbeq g0
    obtain ⟨r, h1, h2⟩ := Option.bind_eq_some_iff.mp hh1
    exact ⟨_, _, h2, ⟨_, _, _, _, _, _, rfl, rfl, (hs _ (jkf_in (l := jc_M) (idx := 0) rfl)).1, rfl⟩, jmet_Model_games F  sh hs σ v1 v2 r.1 r.2 h1⟩
  · cases h
def jtb_Model_markOf : List (Nat × Instr) := [(0, .lconst 0), (1, .lstore_n 2), (2, .iconst 0), (3, .istore 4), (5, .iconst 0), (6, .istore 5), (8, .iload 5), (10, .aload_n 0), (11, .getfield 51), (14, .bipush 8), (16, .iaload), (17, .if_icmp .ge 95), (20, .aload_n 0), (21, .iload 5), (23, .aload_n 0), (24, .getfield 96), (27, .invokevirtual 276), (30, .iconst 1), (31, .istore 6), (33, .iload_n 1), (34, .iconst 1), (35, .iadd), (36, .istore 7), (38, .iload 7), (40, .bipush 12), (42, .if_icmp .gt 31), (45, .iload 6), (47, .ifCond .eq 17), (50, .aload_n 0), (51, .getfield 96), (54, .iload 7), (56, .iaload), (57, .ifCond .ne 7), (60, .iconst 1), (61, .goto 4), (64, .iconst 0), (65, .istore 6), (67, .iinc 7 1), (70, .goto (-32)), (73, .iload 6), (75, .ifCond .ne 6), (78, .goto 28), (81, .lload_n 2), (82, .aload_n 0), (83, .aload_n 0), (84, .getfield 124), (87, .invokevirtual 346), (90, .ifCond .eq 10), (93, .lconst 1), (94, .iload 4), (96, .lshl), (97, .goto 4), (100, .lconst 0), (101, .lor), (102, .lstore_n 2), (103, .iinc 4 1), (106, .iinc 5 1), (109, .goto (-101)), (112, .lload_n 2), (113, .lreturn)]
theorem jtk_Model_markOf : jtok cX12_markOf jtb_Model_markOf = true := by decide +kernel
set_option maxRecDepth 100000 in
theorem jfl_X12_124 : jFl RX12 124 12 53 := ⟨RX12, TX12, 57, tyX12, rfl, by decide, jin_X12, tyX12_ok, nmX12, jow_X12, (Or.inl (jTB_at 1394 rfl rfl))⟩
def jE_Model_markOf (F : Nat) : jxE := jmk [(51, 12, 23), (96, 12, 42), (124, 12, 53)] [] [] [(276, (3, false), jca_Model_laysHeaps F), (346, (2, false), jca_Model_losesBeside F)] 2 jc_M
set_option maxRecDepth 100000 in
set_option maxHeartbeats 4000000 in
theorem jmet_Model_markOf (F : Nat) (sh : List jxC) (hs : jHas sh jc_M) (σ0 : jxS) (v1 : Int) (x : Int) (σ' : jxS) (h : Model_markOf F σ0 v1 = some (x, σ')) : jMC yX12_markOf cX12_markOf 8 (jrt 2) 3 70 sh σ0 [(jmr 0), (jmi v1)] (jrv 2 x) σ' := by
  refine jMC_of (kd := 2) (by decide) rfl h ?_
  intro X hX
  have hG : jGd X (jE_Model_markOf F) jtb_Model_markOf := jGd_of hX jtk_Model_markOf (jcon jfl_X12_51 (jcon jfl_X12_96 (jcon jfl_X12_124 jnil))) jnil jnil (jcon (jsV jlk_X12_276 ⟨rfl, rfl⟩ (jad_Model_laysHeaps F sh hs)) (jcon (jsV jlk_X12_346 ⟨rfl, rfl⟩ (jad_Model_losesBeside F sh hs)) jnil)) hs
  have rr38 : ∀ (k8 : Int → Int → Int → Int → jxS → Option jxR) (h8 : ∀ v1 v2 v4 v5 σ, jRf X (k8 v1 v2 v4 v5 σ) 8 [some (jmr 0), some (jmi v1), some (jml v2), none, some (jmi v4), some (jmi v5), none, none] [] σ) (fu : Nat) (v1 v2 v4 v5 v6 v7 : Int) (σ : jxS), jRf X (Model_markOf_c38 F k8 fu v1 v2 v4 v5 v6 v7 σ) 38 [some (jmr 0), some (jmi v1), some (jml v2), none, some (jmi v4), some (jmi v5), some (jmi v6), some (jmi v7)] [] σ := by
    intro k8 h8 fu
    induction fu with
    | zero => intros; exact jRf_none
    | succ fu ih =>
      intro v1 v2 v4 v5 v6 v7 σ
      exact jRf_by (jex_ok hG (cs := [(8, [some (.inr (some 0)), some (.inl 0), some (.inl 1), none, some (.inl 0), some (.inl 0), none, none], [], fun xs σ => match xs with
      | [v1, v2, v4, v5] => k8 v1 v2 v4 v5 σ
      | _ => none), (38, [some (.inr (some 0)), some (.inl 0), some (.inl 1), none, some (.inl 0), some (.inl 0), some (.inl 0), some (.inl 0)], [], fun xs σ => match xs with
      | [v1, v2, v4, v5, v6, v7] => (Model_markOf_c38 F k8 fu) v1 v2 v4 v5 v6 v7 σ
      | _ => none)]) (jcon (jl4 (fun y0 y1 y2 y3 => jl0 (fun σ => h8 y0 y1 y2 y3 σ))) (jcon (jl6 (fun y0 y1 y2 y3 y4 y5 => jl0 (fun σ => ih y0 y1 y2 y3 y4 y5 σ))) jnil)) 63 38 [some (jmr 0), some (jmi v1), some (jml v2), none, some (jmi v4), some (jmi v5), some (jmi v6), some (jmi v7)] [] σ) rfl
  have rr8 : ∀ (fu : Nat) (v1 v2 v4 v5 : Int) (σ : jxS), jRf X (Model_markOf_c8 F fu v1 v2 v4 v5 σ) 8 [some (jmr 0), some (jmi v1), some (jml v2), none, some (jmi v4), some (jmi v5), none, none] [] σ := by
    intro  fu
    induction fu with
    | zero => intros; exact jRf_none
    | succ fu ih =>
      intro v1 v2 v4 v5 σ
      exact jRf_by (jex_ok hG (cs := [(38, [some (.inr (some 0)), some (.inl 0), some (.inl 1), none, some (.inl 0), some (.inl 0), some (.inl 0), some (.inl 0)], [], fun xs σ => match xs with
      | [v1, v2, v4, v5, v6, v7] => Model_markOf_c38 F (Model_markOf_c8 F fu) F v1 v2 v4 v5 v6 v7 σ
      | _ => none)]) (jcon (jl6 (fun y0 y1 y2 y3 y4 y5 => jl0 (fun σ => rr38 _ ih F y0 y1 y2 y3 y4 y5 σ))) jnil) 63 8 [some (jmr 0), some (jmi v1), some (jml v2), none, some (jmi v4), some (jmi v5), none, none] [] σ) rfl
  exact jRf_by (jex_ok hG (cs := [(8, [some (.inr (some 0)), some (.inl 0), some (.inl 1), none, some (.inl 0), some (.inl 0), none, none], [], fun xs σ => match xs with
      | [v1, v2, v4, v5] => Model_markOf_c8 F F v1 v2 v4 v5 σ
      | _ => none)]) (jcon (jl4 (fun y0 y1 y2 y3 => jl0 (fun σ => rr8 F y0 y1 y2 y3 σ))) jnil) 63 0 [some (jmr 0), some (jmi v1), none, none, none, none, none, none] [] σ0) rfl
theorem jad_Model_markOf (F : Nat) (sh : List jxC) (hs : jHas sh jc_M) : jAdV (jca_Model_markOf F) yX12_markOf cX12_markOf 8 2 3 70 1 sh := by
  intro as σ k x σ' h
  unfold jca_Model_markOf at h
  split at h
  · rename_i t0 v1
    obtain ⟨g0, hh1⟩ := jcond h
    obtain rfl := jbeq g0
    obtain ⟨r, h1, h2⟩ := Option.bind_eq_some_iff.mp hh1
    exact ⟨_, _, h2, ⟨_, _, _, _, _, _, rfl, rfl, (hs _ (jkf_in (l := jc_M) (idx := 0) rfl)).1, rfl⟩, jmet_Model_markOf F  sh hs σ v1 r.1 r.2 h1⟩
  · cases h
def jtb_Model_placeOf : List (Nat × Instr) := [(0, .bipush 112), (2, .iload_n 0), (3, .imul), (4, .bipush 7), (6, .iload_n 1), (7, .imul), (8, .iadd), (9, .iload_n 2), (10, .iadd), (11, .ireturn)]
theorem jtk_Model_placeOf : jtok cX12_placeOf jtb_Model_placeOf = true := by decide +kernel
def jE_Model_placeOf (F : Nat) : jxE := jmk [] [] [] [] 1 jc_M
set_option maxRecDepth 100000 in
set_option maxHeartbeats 4000000 in
theorem jmet_Model_placeOf (F : Nat) (sh : List jxC) (hs : jHas sh jc_M) (σ0 : jxS) (v0 : Int) (v1 : Int) (v2 : Int) (x : Int) (σ' : jxS) (h : Model_placeOf F σ0 v0 v1 v2 = some (x, σ')) : jMC yX12_placeOf cX12_placeOf 3 (jrt 1) 0 0 sh σ0 [(jmi v0), (jmi v1), (jmi v2)] (jrv 1 x) σ' := by
  refine jMC_of (kd := 1) (by decide) rfl h ?_
  intro X hX
  have hG : jGd X (jE_Model_placeOf F) jtb_Model_placeOf := jGd_of hX jtk_Model_placeOf jnil jnil jnil jnil hs
  exact jRf_by (jex_ok hG (cs := []) jnil 13 0 [some (jmi v0), some (jmi v1), some (jmi v2)] [] σ0) rfl
theorem jad_Model_placeOf (F : Nat) (sh : List jxC) (hs : jHas sh jc_M) : jAdS (jca_Model_placeOf F) yX12_placeOf cX12_placeOf 3 1 0 0 3 sh := by
  intro as σ k x σ' h
  unfold jca_Model_placeOf at h
  split at h
  · rename_i v0 v1 v2
    obtain ⟨r, h1, h2⟩ := Option.bind_eq_some_iff.mp h
    exact ⟨_, _, h2, rfl, jmet_Model_placeOf F  sh hs σ v0 v1 v2 r.1 r.2 h1⟩
  · cases h
def jtb_Model_addsElement : List (Nat × Instr) := [(0, .aload_n 0), (1, .getfield 102), (4, .iload_n 1), (5, .iaload), (6, .istore 4), (8, .iconst 1), (9, .istore 5), (11, .iload 5), (13, .iload_n 1), (14, .if_icmp .gt 29), (17, .aload_n 0), (18, .getfield 105), (21, .iload_n 1), (22, .iload 4), (24, .iload 5), (26, .invokestatic 380), (29, .aload_n 0), (30, .getfield 124), (33, .iload 5), (35, .iaload), (36, .iastore), (37, .iinc 5 1), (40, .goto (-29)), (43, .aload_n 0), (44, .getfield 120), (47, .iload 4), (49, .lload_n 2), (50, .lastore), (51, .aload_n 0), (52, .getfield 102), (55, .iload_n 1), (56, .dup2), (57, .iaload), (58, .iconst 1), (59, .iadd), (60, .iastore), (61, .return_)]
theorem jtk_Model_addsElement : jtok cX12_addsElement jtb_Model_addsElement = true := by decide +kernel
set_option maxRecDepth 100000 in
theorem jfl_X12_102 : jFl RX12 102 12 46 := ⟨RX12, TX12, 57, tyX12, rfl, by decide, jin_X12, tyX12_ok, nmX12, jow_X12, (Or.inl (jTB_at 1387 rfl rfl))⟩
set_option maxRecDepth 100000 in
theorem jfl_X12_105 : jFl RX12 105 12 47 := ⟨RX12, TX12, 57, tyX12, rfl, by decide, jin_X12, tyX12_ok, nmX12, jow_X12, (Or.inl (jTB_at 1388 rfl rfl))⟩
set_option maxRecDepth 100000 in
theorem jfl_X12_120 : jFl RX12 120 12 52 := ⟨RX12, TX12, 57, tyX12, rfl, by decide, jin_X12, tyX12_ok, nmX12, jow_X12, (Or.inl (jTB_at 1393 rfl rfl))⟩
set_option maxRecDepth 100000 in
theorem jlk_X12_380 : jLkS RX12 380 yX12_placeOf cX12_placeOf 3 1 3 := ⟨Or.inl (jTB_at 1845 rfl rfl), (jTB_at 1846 rfl rfl), (jTB_at 115 rfl rfl), jTB_at 1847 rfl rfl, ⟨by decide, by decide, by decide +kernel⟩⟩
def jE_Model_addsElement (F : Nat) : jxE := jmk [(102, 12, 46), (105, 12, 47), (120, 12, 52), (124, 12, 53)] [] [] [(380, (3, true), jca_Model_placeOf F)] 0 jc_M
set_option maxRecDepth 100000 in
set_option maxHeartbeats 4000000 in
theorem jmet_Model_addsElement (F : Nat) (sh : List jxC) (hs : jHas sh jc_M) (σ0 : jxS) (v1 : Int) (v2 : Int) (x : Int) (σ' : jxS) (h : Model_addsElement F σ0 v1 v2 = some (x, σ')) : jMC yX12_addsElement cX12_addsElement 6 (jrt 0) 1 22 sh σ0 [(jmr 0), (jmi v1), (jml v2)] (jrv 0 x) σ' := by
  refine jMC_of (kd := 0) (by decide) rfl h ?_
  intro X hX
  have hG : jGd X (jE_Model_addsElement F) jtb_Model_addsElement := jGd_of hX jtk_Model_addsElement (jcon jfl_X12_102 (jcon jfl_X12_105 (jcon jfl_X12_120 (jcon jfl_X12_124 jnil)))) jnil jnil (jcon (jsS jlk_X12_380 ⟨rfl, rfl⟩ (jad_Model_placeOf F sh hs)) jnil) hs
  have rr11 : ∀ (fu : Nat) (v1 v2 v4 v5 : Int) (σ : jxS), jRf X (Model_addsElement_c11 F fu v1 v2 v4 v5 σ) 11 [some (jmr 0), some (jmi v1), some (jml v2), none, some (jmi v4), some (jmi v5)] [] σ := by
    intro  fu
    induction fu with
    | zero => intros; exact jRf_none
    | succ fu ih =>
      intro v1 v2 v4 v5 σ
      exact jRf_by (jex_ok hG (cs := [(11, [some (.inr (some 0)), some (.inl 0), some (.inl 1), none, some (.inl 0), some (.inl 0)], [], fun xs σ => match xs with
      | [v1, v2, v4, v5] => (Model_addsElement_c11 F fu) v1 v2 v4 v5 σ
      | _ => none)]) (jcon (jl4 (fun y0 y1 y2 y3 => jl0 (fun σ => ih y0 y1 y2 y3 σ))) jnil) 40 11 [some (jmr 0), some (jmi v1), some (jml v2), none, some (jmi v4), some (jmi v5)] [] σ) rfl
  exact jRf_by (jex_ok hG (cs := [(11, [some (.inr (some 0)), some (.inl 0), some (.inl 1), none, some (.inl 0), some (.inl 0)], [], fun xs σ => match xs with
      | [v1, v2, v4, v5] => Model_addsElement_c11 F F v1 v2 v4 v5 σ
      | _ => none)]) (jcon (jl4 (fun y0 y1 y2 y3 => jl0 (fun σ => rr11 F y0 y1 y2 y3 σ))) jnil) 40 0 [some (jmr 0), some (jmi v1), some (jml v2), none, none, none] [] σ0) rfl
theorem jad_Model_addsElement (F : Nat) (sh : List jxC) (hs : jHas sh jc_M) : jAdV (jca_Model_addsElement F) yX12_addsElement cX12_addsElement 6 0 1 22 2 sh := by
  intro as σ k x σ' h
  unfold jca_Model_addsElement at h
  split at h
  · rename_i t0 v1 v2
    obtain ⟨g0, hh1⟩ := jcond h
    obtain rfl := jbeq g0
    obtain ⟨r, h1, h2⟩ := Option.bind_eq_some_iff.mp hh1
    exact ⟨_, _, h2, ⟨_, _, _, _, _, _, rfl, rfl, (hs _ (jkf_in (l := jc_M) (idx := 0) rfl)).1, rfl⟩, jmet_Model_addsElement F  sh hs σ v1 v2 r.1 r.2 h1⟩
  · cases h
def jtb_Model_takesWord : List (Nat × Instr) := [(0, .iconst 0), (1, .istore_n 3), (2, .iload_n 3), (3, .bipush 13), (5, .if_icmp .ge 39), (8, .aload_n 0), (9, .getfield 124), (12, .iload_n 3), (13, .iload_n 3), (14, .ifCond .le 22), (17, .iload_n 3), (18, .iload_n 1), (19, .if_icmp .gt 17), (22, .aload_n 0), (23, .getfield 105), (26, .iload_n 1), (27, .iload_n 2), (28, .iload_n 3), (29, .invokestatic 380), (32, .iaload), (33, .goto 4), (36, .iconst 0), (37, .iastore), (38, .iinc 3 1), (41, .goto (-39)), (44, .return_)]
theorem jtk_Model_takesWord : jtok cX12_takesWord jtb_Model_takesWord = true := by decide +kernel
def jE_Model_takesWord (F : Nat) : jxE := jmk [(105, 12, 47), (124, 12, 53)] [] [] [(380, (3, true), jca_Model_placeOf F)] 0 jc_M
set_option maxRecDepth 100000 in
set_option maxHeartbeats 4000000 in
theorem jmet_Model_takesWord (F : Nat) (sh : List jxC) (hs : jHas sh jc_M) (σ0 : jxS) (v1 : Int) (v2 : Int) (x : Int) (σ' : jxS) (h : Model_takesWord F σ0 v1 v2 = some (x, σ')) : jMC yX12_takesWord cX12_takesWord 4 (jrt 0) 1 22 sh σ0 [(jmr 0), (jmi v1), (jmi v2)] (jrv 0 x) σ' := by
  refine jMC_of (kd := 0) (by decide) rfl h ?_
  intro X hX
  have hG : jGd X (jE_Model_takesWord F) jtb_Model_takesWord := jGd_of hX jtk_Model_takesWord (jcon jfl_X12_105 (jcon jfl_X12_124 jnil)) jnil jnil (jcon (jsS jlk_X12_380 ⟨rfl, rfl⟩ (jad_Model_placeOf F sh hs)) jnil) hs
  have rr2 : ∀ (fu : Nat) (v1 v2 v3 : Int) (σ : jxS), jRf X (Model_takesWord_c2 F fu v1 v2 v3 σ) 2 [some (jmr 0), some (jmi v1), some (jmi v2), some (jmi v3)] [] σ := by
    intro  fu
    induction fu with
    | zero => intros; exact jRf_none
    | succ fu ih =>
      intro v1 v2 v3 σ
      exact jRf_by (jex_ok hG (cs := [(2, [some (.inr (some 0)), some (.inl 0), some (.inl 0), some (.inl 0)], [], fun xs σ => match xs with
      | [v1, v2, v3] => (Model_takesWord_c2 F fu) v1 v2 v3 σ
      | _ => none)]) (jcon (jl3 (fun y0 y1 y2 => jl0 (fun σ => ih y0 y1 y2 σ))) jnil) 29 2 [some (jmr 0), some (jmi v1), some (jmi v2), some (jmi v3)] [] σ) rfl
  exact jRf_by (jex_ok hG (cs := [(2, [some (.inr (some 0)), some (.inl 0), some (.inl 0), some (.inl 0)], [], fun xs σ => match xs with
      | [v1, v2, v3] => Model_takesWord_c2 F F v1 v2 v3 σ
      | _ => none)]) (jcon (jl3 (fun y0 y1 y2 => jl0 (fun σ => rr2 F y0 y1 y2 σ))) jnil) 29 0 [some (jmr 0), some (jmi v1), some (jmi v2), none] [] σ0) rfl
theorem jad_Model_takesWord (F : Nat) (sh : List jxC) (hs : jHas sh jc_M) : jAdV (jca_Model_takesWord F) yX12_takesWord cX12_takesWord 4 0 1 22 2 sh := by
  intro as σ k x σ' h
  unfold jca_Model_takesWord at h
  split at h
  · rename_i t0 v1 v2
    obtain ⟨g0, hh1⟩ := jcond h
    obtain rfl := jbeq g0
    obtain ⟨r, h1, h2⟩ := Option.bind_eq_some_iff.mp hh1
    exact ⟨_, _, h2, ⟨_, _, _, _, _, _, rfl, rfl, (hs _ (jkf_in (l := jc_M) (idx := 0) rfl)).1, rfl⟩, jmet_Model_takesWord F  sh hs σ v1 v2 r.1 r.2 h1⟩
  · cases h
def jtb_Model_elementBy : List (Nat × Instr) := [(0, .iconst 0), (1, .istore 4), (3, .iload 4), (5, .aload_n 0), (6, .getfield 102), (9, .iload_n 1), (10, .iaload), (11, .if_icmp .ge 24), (14, .aload_n 0), (15, .getfield 120), (18, .iload 4), (20, .laload), (21, .lload_n 2), (22, .lcmp), (23, .ifCond .ne 6), (26, .iload 4), (28, .ireturn), (29, .iinc 4 1), (32, .goto (-29)), (35, .aload_n 0), (36, .getfield 102), (39, .iload_n 1), (40, .iaload), (41, .bipush 16), (43, .if_icmp .ne 5), (46, .iconst (-1)), (47, .ireturn), (48, .aload_n 0), (49, .iload_n 1), (50, .lload_n 2), (51, .invokevirtual 384), (54, .aload_n 0), (55, .getfield 102), (58, .iload_n 1), (59, .iaload), (60, .iconst 1), (61, .isub), (62, .ireturn)]
theorem jtk_Model_elementBy : jtok cX12_elementBy jtb_Model_elementBy = true := by decide +kernel
set_option maxRecDepth 100000 in
theorem jlk_X12_384 : jLkV RX12 384 yX12_addsElement cX12_addsElement 6 0 2 := ⟨(jTB_at 1841 rfl rfl), (jTB_at 1843 rfl rfl), (jTB_at 97 rfl rfl), (jTB_at 115 rfl rfl), jTB_at 1844 rfl rfl, ⟨by decide, by decide, by decide +kernel⟩⟩
def jE_Model_elementBy (F : Nat) : jxE := jmk [(102, 12, 46), (120, 12, 52)] [] [] [(384, (3, false), jca_Model_addsElement F)] 1 jc_M
set_option maxRecDepth 100000 in
set_option maxHeartbeats 4000000 in
theorem jmet_Model_elementBy (F : Nat) (sh : List jxC) (hs : jHas sh jc_M) (σ0 : jxS) (v1 : Int) (v2 : Int) (x : Int) (σ' : jxS) (h : Model_elementBy F σ0 v1 v2 = some (x, σ')) : jMC yX12_elementBy cX12_elementBy 5 (jrt 1) 2 47 sh σ0 [(jmr 0), (jmi v1), (jml v2)] (jrv 1 x) σ' := by
  refine jMC_of (kd := 1) (by decide) rfl h ?_
  intro X hX
  have hG : jGd X (jE_Model_elementBy F) jtb_Model_elementBy := jGd_of hX jtk_Model_elementBy (jcon jfl_X12_102 (jcon jfl_X12_120 jnil)) jnil jnil (jcon (jsV jlk_X12_384 ⟨rfl, rfl⟩ (jad_Model_addsElement F sh hs)) jnil) hs
  have rr3 : ∀ (fu : Nat) (v1 v2 v4 : Int) (σ : jxS), jRf X (Model_elementBy_c3 F fu v1 v2 v4 σ) 3 [some (jmr 0), some (jmi v1), some (jml v2), none, some (jmi v4)] [] σ := by
    intro  fu
    induction fu with
    | zero => intros; exact jRf_none
    | succ fu ih =>
      intro v1 v2 v4 σ
      exact jRf_by (jex_ok hG (cs := [(3, [some (.inr (some 0)), some (.inl 0), some (.inl 1), none, some (.inl 0)], [], fun xs σ => match xs with
      | [v1, v2, v4] => (Model_elementBy_c3 F fu) v1 v2 v4 σ
      | _ => none)]) (jcon (jl3 (fun y0 y1 y2 => jl0 (fun σ => ih y0 y1 y2 σ))) jnil) 41 3 [some (jmr 0), some (jmi v1), some (jml v2), none, some (jmi v4)] [] σ) rfl
  exact jRf_by (jex_ok hG (cs := [(3, [some (.inr (some 0)), some (.inl 0), some (.inl 1), none, some (.inl 0)], [], fun xs σ => match xs with
      | [v1, v2, v4] => Model_elementBy_c3 F F v1 v2 v4 σ
      | _ => none)]) (jcon (jl3 (fun y0 y1 y2 => jl0 (fun σ => rr3 F y0 y1 y2 σ))) jnil) 41 0 [some (jmr 0), some (jmi v1), some (jml v2), none, none] [] σ0) rfl
theorem jad_Model_elementBy (F : Nat) (sh : List jxC) (hs : jHas sh jc_M) : jAdV (jca_Model_elementBy F) yX12_elementBy cX12_elementBy 5 1 2 47 2 sh := by
  intro as σ k x σ' h
  unfold jca_Model_elementBy at h
  split at h
  · rename_i t0 v1 v2
    obtain ⟨g0, hh1⟩ := jcond h
    obtain rfl := jbeq g0
    obtain ⟨r, h1, h2⟩ := Option.bind_eq_some_iff.mp hh1
    exact ⟨_, _, h2, ⟨_, _, _, _, _, _, rfl, rfl, (hs _ (jkf_in (l := jc_M) (idx := 0) rfl)).1, rfl⟩, jmet_Model_elementBy F  sh hs σ v1 v2 r.1 r.2 h1⟩
  · cases h
