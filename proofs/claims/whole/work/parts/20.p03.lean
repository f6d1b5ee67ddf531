/-! Contracts: LL1_odd Values_judgeGenera Values_settleGeneraTo Values_genusOf Values_isTame Board_firstWild LL1_wild Hand_position Positions_join Hand_become LL1_put Rules_isMove LL1_move Options_size Options_target Options_code Board_makeReply LL1_reply LL1_clear Hand_takeBack LL1_undo LL1_hand Values_remoteOf Values_countWinning Rules_mostOf Rules_leastOf Values_lengthOf Values_stateOf LL1_state LL1_genus Board_soonest -/
def jtb_LL1_odd : List (Nat × Instr) := [(0, .aload_n 0), (1, .getfield 48), (4, .ifnull 10), (7, .iload_n 1), (8, .invokestatic 92), (11, .ifCond .ne 5), (14, .iconst (-1)), (15, .ireturn), (16, .aload_n 0), (17, .aload_n 0), (18, .getfield 48), (21, .invokevirtual 95), (24, .iload_n 1), (25, .invokevirtual 98), (28, .ireturn)]
theorem jtk_LL1_odd : jtok cX11_odd jtb_LL1_odd = true := by decide +kernel
set_option maxRecDepth 100000 in
theorem jlk_X11_92 : jLkS RX11 92 yX11_isHeapOrAll cX11_isHeapOrAll 1 4 1 := ⟨Or.inl (jTB_at 808 rfl rfl), (jTB_at 703 rfl rfl), (jTB_at 112 rfl rfl), jTB_at 704 rfl rfl, ⟨by decide, by decide, by decide +kernel⟩⟩
set_option maxRecDepth 100000 in
theorem jlk_X11_95 : jLkV RX11 95 yX0_firstOdd cX0_firstOdd 3 1 0 := ⟨(jTB_at 809 rfl rfl), (jTB_at 810 rfl rfl), (jTB_at 811 rfl rfl), (jTB_at 120 rfl rfl), jTB_at 812 rfl rfl, ⟨by decide, by decide, by decide +kernel⟩⟩
set_option maxRecDepth 100000 in
theorem jlk_X11_98 : jLkV RX11 98 yX11_tallyOrNoSuch cX11_tallyOrNoSuch 3 1 2 := ⟨(jTB_at 865 rfl rfl), (jTB_at 867 rfl rfl), (jTB_at 27 rfl rfl), (jTB_at 112 rfl rfl), jTB_at 868 rfl rfl, ⟨by decide, by decide, by decide +kernel⟩⟩
def jE_LL1_odd (F : Nat) : jxE := jmk [(48, 11, 2)] [] [] [(92, (1, true), jca_LL_isHeapOrAll F), (95, (1, false), jca_Board_firstOdd F), (98, (3, false), jca_LL1_tallyOrNoSuch F)] 1 jc_L1
set_option maxRecDepth 100000 in
set_option maxHeartbeats 4000000 in
theorem jmet_LL1_odd (F : Nat) (sh : List jxC) (hs : jHas sh jc_L1) (σ0 : jxS) (v1 : Int) (x : Int) (σ' : jxS) (h : LL1_odd F σ0 v1 = some (x, σ')) : jMC yX11_odd cX11_odd 2 (jrt 1) 7 157 sh σ0 [(jmr 0), (jmi v1)] (jrv 1 x) σ' := by
  refine jMC_of (kd := 1) (by decide) rfl h ?_
  intro X hX
  have hG : jGd X (jE_LL1_odd F) jtb_LL1_odd := jGd_of hX jtk_LL1_odd (jcon jfl_X11_48 jnil) jnil jnil (jcon (jsS jlk_X11_92 ⟨rfl, rfl⟩ (jad_LL_isHeapOrAll F sh jh_E)) (jcon (jsV jlk_X11_95 ⟨rfl, rfl⟩ (jad_Board_firstOdd F sh (jh_L1C hs))) (jcon (jsV jlk_X11_98 ⟨rfl, rfl⟩ (jad_LL1_tallyOrNoSuch F sh hs)) jnil))) hs
  exact jRf_by (jex_ok hG (cs := []) jnil 18 0 [some (jmr 0), some (jmi v1)] [] σ0) rfl
theorem jad_LL1_odd (F : Nat) (sh : List jxC) (hs : jHas sh jc_L1) : jAdV (jca_LL1_odd F) yX11_odd cX11_odd 2 1 7 157 1 sh := by
  intro as σ k x σ' h
  unfold jca_LL1_odd at h
  split at h
  · rename_i t0 v1
    obtain ⟨g0, hh1⟩ := jcond h
    obtain rfl := jbeq g0
    obtain ⟨r, h1, h2⟩ := Option.bind_eq_some_iff.mp hh1
    exact ⟨_, _, h2, ⟨_, _, _, _, _, _, rfl, rfl, (hs _ (jkf_in (l := jc_L1) (idx := 0) rfl)).1, rfl⟩, jmet_LL1_odd F  sh hs σ v1 r.1 r.2 h1⟩
  · cases h
def jtb_Values_judgeGenera : List (Nat × Instr) := [(0, .aload_n 0), (1, .getfield 40), (4, .getfield 67), (7, .astore_n 1), (8, .aload_n 0), (9, .getfield 20), (12, .iconst 0), (13, .invokestatic 90), (16, .iconst 0), (17, .istore_n 2), (18, .iload_n 2), (19, .aload_n 0), (20, .getfield 40), (23, .getfield 70), (26, .if_icmp .ge 70), (29, .iload_n 2), (30, .aload_n 1), (31, .arraylength), (32, .if_icmp .ge 64), (35, .aload_n 1), (36, .iload_n 2), (37, .iaload), (38, .ifCond .lt 14), (41, .aload_n 0), (42, .getfield 17), (45, .aload_n 1), (46, .iload_n 2), (47, .iaload), (48, .iaload), (49, .goto 4), (52, .iconst 0), (53, .istore_n 3), (54, .iconst 0), (55, .istore 4), (57, .iload 4), (59, .bipush 6), (61, .if_icmp .ge 29), (64, .aload_n 0), (65, .getfield 20), (68, .iload 4), (70, .dup2), (71, .iaload), (72, .iconst 1), (73, .iload_n 3), (74, .bipush 31), (76, .iand), (77, .ishl), (78, .ior), (79, .iastore), (80, .iload_n 3), (81, .iconst 5), (82, .ishr), (83, .istore_n 3), (84, .iinc 4 1), (87, .goto (-30)), (90, .iinc 2 1), (93, .goto (-75)), (96, .iconst 0), (97, .istore_n 2), (98, .iconst 0), (99, .istore_n 3), (100, .iload_n 3), (101, .bipush 6), (103, .if_icmp .ge 91), (106, .iconst 0), (107, .istore 4), (109, .iload 4), (111, .iload_n 3), (112, .if_icmp .ge 43), (115, .getstatic 93), (118, .iload_n 3), (119, .iaload), (120, .iload 4), (122, .ishr), (123, .iconst 1), (124, .iand), (125, .iconst 1), (126, .if_icmp .ne 23), (129, .aload_n 0), (130, .getfield 20), (133, .iload_n 3), (134, .dup2), (135, .iaload), (136, .iconst 1), (137, .iload_n 2), (138, .iconst 5), (139, .iload 4), (141, .imul), (142, .ishr), (143, .bipush 31), (145, .iand), (146, .ishl), (147, .ior), (148, .iastore), (149, .iinc 4 1), (152, .goto (-43)), (155, .aload_n 0), (156, .getfield 20), (159, .iload_n 3), (160, .iaload), (161, .ifCond .ne 7), (164, .iconst 1), (165, .goto 12), (168, .aload_n 0), (169, .getfield 20), (172, .iload_n 3), (173, .iaload), (174, .invokestatic 96), (177, .istore 4), (179, .iload_n 2), (180, .iload 4), (182, .iconst 5), (183, .iload_n 3), (184, .imul), (185, .ishl), (186, .ior), (187, .istore_n 2), (188, .iinc 3 1), (191, .goto (-91)), (194, .iload_n 2), (195, .ireturn)]
theorem jtk_Values_judgeGenera : jtok cX10_judgeGenera jtb_Values_judgeGenera = true := by decide +kernel
set_option maxRecDepth 100000 in
theorem jfl_X10_17 : jFl RX10 17 10 4 := ⟨RX10, TX10, 9, tyX10, rfl, by decide, jin_X10, tyX10_ok, nmX10, jow_X10, (Or.inl (jTB_at 547 rfl rfl))⟩
set_option maxRecDepth 100000 in
theorem jfl_X10_20 : jFl RX10 20 10 5 := ⟨RX10, TX10, 9, tyX10, rfl, by decide, jin_X10, tyX10_ok, nmX10, jow_X10, (Or.inl (jTB_at 548 rfl rfl))⟩
set_option maxRecDepth 100000 in
theorem jlk_X10_90 : jLkS RX10 90 yJ7_fill_53178 cJ7_fill_53178 4 0 2 := ⟨Or.inl (jTB_at 909 rfl rfl), (jTB_at 687 rfl rfl), (jTB_at 130 rfl rfl), jTB_at 688 rfl rfl, ⟨by decide, by decide, by decide +kernel⟩⟩
set_option maxRecDepth 100000 in
theorem jlk_X10_96 : jLkS RX10 96 yX11_leastMissing cX11_leastMissing 3 1 1 := ⟨Or.inr ⟨"LastLoses", (jNS_at 912 rfl rfl)⟩, (jTB_at 718 rfl rfl), (jTB_at 112 rfl rfl), jTB_at 719 rfl rfl, ⟨by decide, by decide, by decide +kernel⟩⟩
def jE_Values_judgeGenera (F : Nat) : jxE := jmk [(17, 10, 4), (20, 10, 5), (40, 10, 2), (67, 3, 2), (70, 3, 4)] [] [(93, 1000)] [(90, (2, true), jca_Arrays_fill_AIIV F), (96, (1, true), jca_LL_leastMissing F)] 1 jc_C
set_option maxRecDepth 100000 in
set_option maxHeartbeats 4000000 in
theorem jmet_Values_judgeGenera (F : Nat) (sh : List jxC) (hs : jHas sh jc_C) (σ0 : jxS) (x : Int) (σ' : jxS) (h : Values_judgeGenera F σ0 = some (x, σ')) : jMC yX10_judgeGenera cX10_judgeGenera 5 (jrt 1) 1 23 sh σ0 [(jmr 33)] (jrv 1 x) σ' := by
  refine jMC_of (kd := 1) (by decide) rfl h ?_
  intro X hX
  have hG : jGd X (jE_Values_judgeGenera F) jtb_Values_judgeGenera := jGd_of hX jtk_Values_judgeGenera (jcon jfl_X10_17 (jcon jfl_X10_20 (jcon jfl_X10_40 (jcon jfl_X10_67 (jcon jfl_X10_70 jnil))))) jnil (jcon (Or.inl ⟨rfl, (jTB_at 910 rfl rfl)⟩) jnil) (jcon (jsS jlk_X10_90 ⟨rfl, rfl⟩ (jad_Arrays_fill_AIIV F sh hs)) (jcon (jsS jlk_X10_96 ⟨rfl, rfl⟩ (jad_LL_leastMissing F sh jh_E)) jnil)) hs
  have rr177 : ∀ (k100 : Int → Int → jxS → Option jxR) (h100 : ∀ v2 v3 σ, jRf X (k100 v2 v3 σ) 100 [some (jmr 33), none, some (jmi v2), some (jmi v3), none] [] σ) (v2 v3 t0 : Int) (σ : jxS), jRf X (Values_judgeGenera_c177 F k100 v2 v3 t0 σ) 177 [some (jmr 33), none, some (jmi v2), some (jmi v3), none] [(jmi t0)] σ := by
    intro k100 h100 v2 v3 t0 σ
    exact jRf_by (jex_ok hG (cs := [(100, [some (.inr (some 33)), none, some (.inl 0), some (.inl 0), none], [], fun xs σ => match xs with
      | [v2, v3] => k100 v2 v3 σ
      | _ => none)]) (jcon (jl2 (fun y0 y1 => jl0 (fun σ => h100 y0 y1 σ))) jnil) 124 177 [some (jmr 33), none, some (jmi v2), some (jmi v3), none] [(jmi t0)] σ) rfl
  have rr109 : ∀ (k100 : Int → Int → jxS → Option jxR) (h100 : ∀ v2 v3 σ, jRf X (k100 v2 v3 σ) 100 [some (jmr 33), none, some (jmi v2), some (jmi v3), none] [] σ) (fu : Nat) (v2 v3 v4 : Int) (σ : jxS), jRf X (Values_judgeGenera_c109 F k100 fu v2 v3 v4 σ) 109 [some (jmr 33), none, some (jmi v2), some (jmi v3), some (jmi v4)] [] σ := by
    intro k100 h100 fu
    induction fu with
    | zero => intros; exact jRf_none
    | succ fu ih =>
      intro v2 v3 v4 σ
      exact jRf_by (jex_ok hG (cs := [(109, [some (.inr (some 33)), none, some (.inl 0), some (.inl 0), some (.inl 0)], [], fun xs σ => match xs with
      | [v2, v3, v4] => (Values_judgeGenera_c109 F k100 fu) v2 v3 v4 σ
      | _ => none), (177, [some (.inr (some 33)), none, some (.inl 0), some (.inl 0), none], [(.inl 0)], fun xs σ => match xs with
      | [v2, v3, t0] => Values_judgeGenera_c177 F k100 v2 v3 t0 σ
      | _ => none)]) (jcon (jl3 (fun y0 y1 y2 => jl0 (fun σ => ih y0 y1 y2 σ))) (jcon (jl2 (fun y0 y1 => jl1 (fun y2 => (fun σ => rr177 _ h100 y0 y1 y2 σ)))) jnil)) 124 109 [some (jmr 33), none, some (jmi v2), some (jmi v3), some (jmi v4)] [] σ) rfl
  have rr100 : ∀ (fu : Nat) (v2 v3 : Int) (σ : jxS), jRf X (Values_judgeGenera_c100 F fu v2 v3 σ) 100 [some (jmr 33), none, some (jmi v2), some (jmi v3), none] [] σ := by
    intro  fu
    induction fu with
    | zero => intros; exact jRf_none
    | succ fu ih =>
      intro v2 v3 σ
      exact jRf_by (jex_ok hG (cs := [(109, [some (.inr (some 33)), none, some (.inl 0), some (.inl 0), some (.inl 0)], [], fun xs σ => match xs with
      | [v2, v3, v4] => Values_judgeGenera_c109 F (Values_judgeGenera_c100 F fu) F v2 v3 v4 σ
      | _ => none)]) (jcon (jl3 (fun y0 y1 y2 => jl0 (fun σ => rr109 _ ih F y0 y1 y2 σ))) jnil) 124 100 [some (jmr 33), none, some (jmi v2), some (jmi v3), none] [] σ) rfl
  have rr57 : ∀ (k18 : Int → jxS → Option jxR) (h18 : ∀ v2 σ, jRf X (k18 v2 σ) 18 [some (jmr 33), some (jmr 39), some (jmi v2), none, none] [] σ) (fu : Nat) (v2 v3 v4 : Int) (σ : jxS), jRf X (Values_judgeGenera_c57 F k18 fu v2 v3 v4 σ) 57 [some (jmr 33), some (jmr 39), some (jmi v2), some (jmi v3), some (jmi v4)] [] σ := by
    intro k18 h18 fu
    induction fu with
    | zero => intros; exact jRf_none
    | succ fu ih =>
      intro v2 v3 v4 σ
      exact jRf_by (jex_ok hG (cs := [(18, [some (.inr (some 33)), some (.inr (some 39)), some (.inl 0), none, none], [], fun xs σ => match xs with
      | [v2] => k18 v2 σ
      | _ => none), (57, [some (.inr (some 33)), some (.inr (some 39)), some (.inl 0), some (.inl 0), some (.inl 0)], [], fun xs σ => match xs with
      | [v2, v3, v4] => (Values_judgeGenera_c57 F k18 fu) v2 v3 v4 σ
      | _ => none)]) (jcon (jl1 (fun y0 => jl0 (fun σ => h18 y0 σ))) (jcon (jl3 (fun y0 y1 y2 => jl0 (fun σ => ih y0 y1 y2 σ))) jnil)) 124 57 [some (jmr 33), some (jmr 39), some (jmi v2), some (jmi v3), some (jmi v4)] [] σ) rfl
  have rr18 : ∀ (fu : Nat) (v2 : Int) (σ : jxS), jRf X (Values_judgeGenera_c18 F fu v2 σ) 18 [some (jmr 33), some (jmr 39), some (jmi v2), none, none] [] σ := by
    intro  fu
    induction fu with
    | zero => intros; exact jRf_none
    | succ fu ih =>
      intro v2 σ
      exact jRf_by (jex_ok hG (cs := [(57, [some (.inr (some 33)), some (.inr (some 39)), some (.inl 0), some (.inl 0), some (.inl 0)], [], fun xs σ => match xs with
      | [v2, v3, v4] => Values_judgeGenera_c57 F (Values_judgeGenera_c18 F fu) F v2 v3 v4 σ
      | _ => none), (100, [some (.inr (some 33)), none, some (.inl 0), some (.inl 0), none], [], fun xs σ => match xs with
      | [v2, v3] => Values_judgeGenera_c100 F F v2 v3 σ
      | _ => none)]) (jcon (jl3 (fun y0 y1 y2 => jl0 (fun σ => rr57 _ ih F y0 y1 y2 σ))) (jcon (jl2 (fun y0 y1 => jl0 (fun σ => rr100 F y0 y1 σ))) jnil)) 124 18 [some (jmr 33), some (jmr 39), some (jmi v2), none, none] [] σ) rfl
  exact jRf_by (jex_ok hG (cs := [(18, [some (.inr (some 33)), some (.inr (some 39)), some (.inl 0), none, none], [], fun xs σ => match xs with
      | [v2] => Values_judgeGenera_c18 F F v2 σ
      | _ => none)]) (jcon (jl1 (fun y0 => jl0 (fun σ => rr18 F y0 σ))) jnil) 124 0 [some (jmr 33), none, none, none, none] [] σ0) rfl
theorem jad_Values_judgeGenera (F : Nat) (sh : List jxC) (hs : jHas sh jc_C) : jAdV (jca_Values_judgeGenera F) yX10_judgeGenera cX10_judgeGenera 5 1 1 23 0 sh := by
  intro as σ k x σ' h
  unfold jca_Values_judgeGenera at h
  split at h
  · rename_i t0
    obtain ⟨g0, hh1⟩ := jcond h
    obtain rfl := jbeq g0
    obtain ⟨r, h1, h2⟩ := Option.bind_eq_some_iff.mp hh1
    exact ⟨_, _, h2, ⟨_, _, _, _, _, _, rfl, rfl, (hs _ (jkf_in (l := jc_C) (idx := 33) rfl)).1, rfl⟩, jmet_Values_judgeGenera F  sh hs σ  r.1 r.2 h1⟩
  · cases h
def jtb_Values_settleGeneraTo : List (Nat × Instr) := [(0, .aload_n 0), (1, .getfield 48), (4, .istore_n 2), (5, .iload_n 2), (6, .iload_n 1), (7, .if_icmp .gt 41), (10, .iload_n 2), (11, .sipush 4224), (14, .if_icmp .ge 34), (17, .aload_n 0), (18, .getfield 40), (21, .iload_n 2), (22, .invokevirtual 59), (25, .aload_n 0), (26, .getfield 17), (29, .iload_n 2), (30, .aload_n 0), (31, .invokevirtual 87), (34, .iastore), (35, .aload_n 0), (36, .iload_n 2), (37, .iconst 1), (38, .iadd), (39, .putfield 48), (42, .iinc 2 1), (45, .goto (-40)), (48, .return_)]
theorem jtk_Values_settleGeneraTo : jtok cX10_settleGeneraTo jtb_Values_settleGeneraTo = true := by decide +kernel
set_option maxRecDepth 100000 in
theorem jlk_X10_87 : jLkV RX10 87 yX10_judgeGenera cX10_judgeGenera 5 1 0 := ⟨(jTB_at 905 rfl rfl), (jTB_at 907 rfl rfl), (jTB_at 29 rfl rfl), (jTB_at 125 rfl rfl), jTB_at 908 rfl rfl, ⟨by decide, by decide, by decide +kernel⟩⟩
def jE_Values_settleGeneraTo (F : Nat) : jxE := jmk [(17, 10, 4), (40, 10, 2), (48, 10, 8)] [] [] [(59, (2, false), jca_Options_list F), (87, (1, false), jca_Values_judgeGenera F)] 0 jc_C
set_option maxRecDepth 100000 in
set_option maxHeartbeats 4000000 in
theorem jmet_Values_settleGeneraTo (F : Nat) (sh : List jxC) (hs : jHas sh jc_C) (σ0 : jxS) (v1 : Int) (x : Int) (σ' : jxS) (h : Values_settleGeneraTo F σ0 v1 = some (x, σ')) : jMC yX10_settleGeneraTo cX10_settleGeneraTo 3 (jrt 0) 3 69 sh σ0 [(jmr 33), (jmi v1)] (jrv 0 x) σ' := by
  refine jMC_of (kd := 0) (by decide) rfl h ?_
  intro X hX
  have hG : jGd X (jE_Values_settleGeneraTo F) jtb_Values_settleGeneraTo := jGd_of hX jtk_Values_settleGeneraTo (jcon jfl_X10_17 (jcon jfl_X10_40 (jcon jfl_X10_48 jnil))) jnil jnil (jcon (jsV jlk_X10_59 ⟨rfl, rfl⟩ (jad_Options_list F sh hs)) (jcon (jsV jlk_X10_87 ⟨rfl, rfl⟩ (jad_Values_judgeGenera F sh hs)) jnil)) hs
  have rr5 : ∀ (fu : Nat) (v1 v2 : Int) (σ : jxS), jRf X (Values_settleGeneraTo_c5 F fu v1 v2 σ) 5 [some (jmr 33), some (jmi v1), some (jmi v2)] [] σ := by
    intro  fu
    induction fu with
    | zero => intros; exact jRf_none
    | succ fu ih =>
      intro v1 v2 σ
      exact jRf_by (jex_ok hG (cs := [(5, [some (.inr (some 33)), some (.inl 0), some (.inl 0)], [], fun xs σ => match xs with
      | [v1, v2] => (Values_settleGeneraTo_c5 F fu) v1 v2 σ
      | _ => none)]) (jcon (jl2 (fun y0 y1 => jl0 (fun σ => ih y0 y1 σ))) jnil) 30 5 [some (jmr 33), some (jmi v1), some (jmi v2)] [] σ) rfl
  exact jRf_by (jex_ok hG (cs := [(5, [some (.inr (some 33)), some (.inl 0), some (.inl 0)], [], fun xs σ => match xs with
      | [v1, v2] => Values_settleGeneraTo_c5 F F v1 v2 σ
      | _ => none)]) (jcon (jl2 (fun y0 y1 => jl0 (fun σ => rr5 F y0 y1 σ))) jnil) 30 0 [some (jmr 33), some (jmi v1), none] [] σ0) rfl
theorem jad_Values_settleGeneraTo (F : Nat) (sh : List jxC) (hs : jHas sh jc_C) : jAdV (jca_Values_settleGeneraTo F) yX10_settleGeneraTo cX10_settleGeneraTo 3 0 3 69 1 sh := by
  intro as σ k x σ' h
  unfold jca_Values_settleGeneraTo at h
  split at h
  · rename_i t0 v1
    obtain ⟨g0, hh1⟩ := jcond h
    obtain rfl := jbeq g0
    obtain ⟨r, h1, h2⟩ := Option.bind_eq_some_iff.mp hh1
    exact ⟨_, _, h2, ⟨_, _, _, _, _, _, rfl, rfl, (hs _ (jkf_in (l := jc_C) (idx := 33) rfl)).1, rfl⟩, jmet_Values_settleGeneraTo F  sh hs σ v1 r.1 r.2 h1⟩
  · cases h
def jtb_Values_genusOf : List (Nat × Instr) := [(0, .aload_n 0), (1, .iload_n 1), (2, .invokevirtual 99), (5, .iload_n 1), (6, .invokestatic 76), (9, .ifCond .eq 15), (12, .iload_n 2), (13, .ifCond .lt 11), (16, .iload_n 2), (17, .getstatic 102), (20, .arraylength), (21, .if_icmp .lt 5), (24, .iconst (-1)), (25, .ireturn), (26, .aload_n 0), (27, .getfield 17), (30, .iload_n 1), (31, .iaload), (32, .iconst 5), (33, .getstatic 102), (36, .iload_n 2), (37, .iaload), (38, .imul), (39, .ishr), (40, .bipush 31), (42, .iand), (43, .ireturn)]
theorem jtk_Values_genusOf : jtok cX10_genusOf jtb_Values_genusOf = true := by decide +kernel
set_option maxRecDepth 100000 in
theorem jlk_X10_99 : jLkV RX10 99 yX10_settleGeneraTo cX10_settleGeneraTo 3 0 1 := ⟨(jTB_at 901 rfl rfl), (jTB_at 903 rfl rfl), (jTB_at 28 rfl rfl), (jTB_at 125 rfl rfl), jTB_at 904 rfl rfl, ⟨by decide, by decide, by decide +kernel⟩⟩
def jE_Values_genusOf (F : Nat) : jxE := jmk [(17, 10, 4)] [] [(102, 1001)] [(76, (1, true), jca_Positions_isPosition F), (99, (2, false), jca_Values_settleGeneraTo F)] 1 jc_C
set_option maxRecDepth 100000 in
set_option maxHeartbeats 4000000 in
theorem jmet_Values_genusOf (F : Nat) (sh : List jxC) (hs : jHas sh jc_C) (σ0 : jxS) (v1 : Int) (v2 : Int) (x : Int) (σ' : jxS) (h : Values_genusOf F σ0 v1 v2 = some (x, σ')) : jMC yX10_genusOf cX10_genusOf 3 (jrt 1) 4 91 sh σ0 [(jmr 33), (jmi v1), (jmi v2)] (jrv 1 x) σ' := by
  refine jMC_of (kd := 1) (by decide) rfl h ?_
  intro X hX
  have hG : jGd X (jE_Values_genusOf F) jtb_Values_genusOf := jGd_of hX jtk_Values_genusOf (jcon jfl_X10_17 jnil) jnil (jcon (Or.inr ⟨rfl, (jTB_at 913 rfl rfl)⟩) jnil) (jcon (jsS jlk_X10_76 ⟨rfl, rfl⟩ (jad_Positions_isPosition F sh (jh_CP hs))) (jcon (jsV jlk_X10_99 ⟨rfl, rfl⟩ (jad_Values_settleGeneraTo F sh hs)) jnil)) hs
  exact jRf_by (jex_ok hG (cs := []) jnil 30 0 [some (jmr 33), some (jmi v1), some (jmi v2)] [] σ0) rfl
theorem jad_Values_genusOf (F : Nat) (sh : List jxC) (hs : jHas sh jc_C) : jAdV (jca_Values_genusOf F) yX10_genusOf cX10_genusOf 3 1 4 91 2 sh := by
  intro as σ k x σ' h
  unfold jca_Values_genusOf at h
  split at h
  · rename_i t0 v1 v2
    obtain ⟨g0, hh1⟩ := jcond h
    obtain rfl := jbeq g0
    obtain ⟨r, h1, h2⟩ := Option.bind_eq_some_iff.mp hh1
    exact ⟨_, _, h2, ⟨_, _, _, _, _, _, rfl, rfl, (hs _ (jkf_in (l := jc_C) (idx := 33) rfl)).1, rfl⟩, jmet_Values_genusOf F  sh hs σ v1 v2 r.1 r.2 h1⟩
  · cases h
def jtb_Values_isTame : List (Nat × Instr) := [(0, .aload_n 0), (1, .iload_n 1), (2, .invokevirtual 105), (5, .istore_n 2), (6, .aload_n 0), (7, .iload_n 1), (8, .iconst 0), (9, .invokevirtual 108), (12, .istore_n 3), (13, .aload_n 0), (14, .iload_n 1), (15, .iconst 1), (16, .invokevirtual 108), (19, .istore 4), (21, .aload_n 0), (22, .iload_n 1), (23, .iconst 2), (24, .invokevirtual 108), (27, .istore 5), (29, .iload 5), (31, .iload_n 2), (32, .if_icmp .ne 11), (35, .iload 4), (37, .iload_n 2), (38, .iconst 2), (39, .ixor), (40, .if_icmp .eq 5), (43, .iconst 0), (44, .ireturn), (45, .iload_n 3), (46, .iload_n 2), (47, .if_icmp .eq 15), (50, .iload_n 2), (51, .iconst 2), (52, .if_icmp .ge 14), (55, .iload_n 3), (56, .iconst 1), (57, .iload_n 2), (58, .isub), (59, .if_icmp .ne 7), (62, .iconst 1), (63, .goto 4), (66, .iconst 0), (67, .ireturn)]
theorem jtk_Values_isTame : jtok cX10_isTame jtb_Values_isTame = true := by decide +kernel
set_option maxRecDepth 100000 in
theorem jlk_X10_108 : jLkV RX10 108 yX10_genusOf cX10_genusOf 3 1 2 := ⟨(jTB_at 897 rfl rfl), (jTB_at 898 rfl rfl), (jTB_at 899 rfl rfl), (jTB_at 125 rfl rfl), jTB_at 900 rfl rfl, ⟨by decide, by decide, by decide +kernel⟩⟩
def jE_Values_isTame (F : Nat) : jxE := jmk [] [] [] [(105, (2, false), jca_Values_nimberOf F), (108, (3, false), jca_Values_genusOf F)] 4 jc_C
set_option maxRecDepth 100000 in
set_option maxHeartbeats 4000000 in
theorem jmet_Values_isTame (F : Nat) (sh : List jxC) (hs : jHas sh jc_C) (σ0 : jxS) (v1 : Int) (x : Int) (σ' : jxS) (h : Values_isTame F σ0 v1 = some (x, σ')) : jMC yX10_isTame cX10_isTame 6 (jrt 4) 5 113 sh σ0 [(jmr 33), (jmi v1)] (jrv 4 x) σ' := by
  refine jMC_of (kd := 4) (by decide) rfl h ?_
  intro X hX
  have hG : jGd X (jE_Values_isTame F) jtb_Values_isTame := jGd_of hX jtk_Values_isTame jnil jnil jnil (jcon (jsV jlk_X10_105 ⟨rfl, rfl⟩ (jad_Values_nimberOf F sh hs)) (jcon (jsV jlk_X10_108 ⟨rfl, rfl⟩ (jad_Values_genusOf F sh hs)) jnil)) hs
  exact jRf_by (jex_ok hG (cs := []) jnil 47 0 [some (jmr 33), some (jmi v1), none, none, none, none] [] σ0) rfl
theorem jad_Values_isTame (F : Nat) (sh : List jxC) (hs : jHas sh jc_C) : jAdV (jca_Values_isTame F) yX10_isTame cX10_isTame 6 4 5 113 1 sh := by
  intro as σ k x σ' h
  unfold jca_Values_isTame at h
  split at h
  · rename_i t0 v1
    obtain ⟨g0, hh1⟩ := jcond h
    obtain rfl := jbeq g0
    obtain ⟨r, h1, h2⟩ := Option.bind_eq_some_iff.mp hh1
    exact ⟨_, _, h2, ⟨_, _, _, _, _, _, rfl, rfl, (hs _ (jkf_in (l := jc_C) (idx := 33) rfl)).1, rfl⟩, jmet_Values_isTame F  sh hs σ v1 r.1 r.2 h1⟩
  · cases h
def jtb_Board_firstWild : List (Nat × Instr) := [(0, .aload_n 0), (1, .getfield 28), (4, .bipush 13), (6, .invokevirtual 92), (9, .istore_n 1), (10, .iconst 0), (11, .istore_n 2), (12, .iload_n 2), (13, .iload_n 1), (14, .if_icmp .ge 34), (17, .aload_n 0), (18, .getfield 89), (21, .bipush (-2)), (23, .if_icmp .ne 25), (26, .aload_n 0), (27, .getfield 50), (30, .iload_n 2), (31, .invokevirtual 100), (34, .ifCond .ne 8), (37, .aload_n 0), (38, .iload_n 2), (39, .putfield 89), (42, .iinc 2 1), (45, .goto (-33)), (48, .aload_n 0), (49, .getfield 89), (52, .bipush (-2)), (54, .if_icmp .ne 8), (57, .aload_n 0), (58, .iconst (-1)), (59, .putfield 89), (62, .aload_n 0), (63, .getfield 89), (66, .ireturn)]
theorem jtk_Board_firstWild : jtok cX0_firstWild jtb_Board_firstWild = true := by decide +kernel
set_option maxRecDepth 100000 in
theorem jlk_X0_100 : jLkV RX0 100 yX10_isTame cX10_isTame 6 4 1 := ⟨(jTB_at 893 rfl rfl), (jTB_at 894 rfl rfl), (jTB_at 895 rfl rfl), (jTB_at 125 rfl rfl), jTB_at 896 rfl rfl, ⟨by decide, by decide, by decide +kernel⟩⟩
def jE_Board_firstWild (F : Nat) : jxE := jmk [(28, 0, 2), (50, 0, 4), (89, 0, 9)] [] [] [(92, (2, false), jca_Positions_firstWith F), (100, (2, false), jca_Values_isTame F)] 1 jc_C
set_option maxRecDepth 100000 in
set_option maxHeartbeats 4000000 in
theorem jmet_Board_firstWild (F : Nat) (sh : List jxC) (hs : jHas sh jc_C) (σ0 : jxS) (x : Int) (σ' : jxS) (h : Board_firstWild F σ0 = some (x, σ')) : jMC yX0_firstWild cX0_firstWild 3 (jrt 1) 6 138 sh σ0 [(jmr 9)] (jrv 1 x) σ' := by
  refine jMC_of (kd := 1) (by decide) rfl h ?_
  intro X hX
  have hG : jGd X (jE_Board_firstWild F) jtb_Board_firstWild := jGd_of hX jtk_Board_firstWild (jcon jfl_X0_28 (jcon jfl_X0_50 (jcon jfl_X0_89 jnil))) jnil jnil (jcon (jsV jlk_X0_92 ⟨rfl, rfl⟩ (jad_Positions_firstWith F sh (jh_CP hs))) (jcon (jsV jlk_X0_100 ⟨rfl, rfl⟩ (jad_Values_isTame F sh hs)) jnil)) hs
  have rr48 : ∀ (σ : jxS), jRf X (Board_firstWild_c48 F  σ) 48 [some (jmr 9), none, none] [] σ := by
    intro   σ
    exact jRf_by (jex_ok hG (cs := []) jnil 37 48 [some (jmr 9), none, none] [] σ) rfl
  have rr12 : ∀ (fu : Nat) (v1 v2 : Int) (σ : jxS), jRf X (Board_firstWild_c12 F fu v1 v2 σ) 12 [some (jmr 9), some (jmi v1), some (jmi v2)] [] σ := by
    intro  fu
    induction fu with
    | zero => intros; exact jRf_none
    | succ fu ih =>
      intro v1 v2 σ
      exact jRf_by (jex_ok hG (cs := [(12, [some (.inr (some 9)), some (.inl 0), some (.inl 0)], [], fun xs σ => match xs with
      | [v1, v2] => (Board_firstWild_c12 F fu) v1 v2 σ
      | _ => none), (48, [some (.inr (some 9)), none, none], [], fun xs σ => match xs with
      | [] => Board_firstWild_c48 F  σ
      | _ => none)]) (jcon (jl2 (fun y0 y1 => jl0 (fun σ => ih y0 y1 σ))) (jcon (jl0 (jl0 (fun σ => rr48  σ))) jnil)) 37 12 [some (jmr 9), some (jmi v1), some (jmi v2)] [] σ) rfl
  exact jRf_by (jex_ok hG (cs := [(12, [some (.inr (some 9)), some (.inl 0), some (.inl 0)], [], fun xs σ => match xs with
      | [v1, v2] => Board_firstWild_c12 F F v1 v2 σ
      | _ => none)]) (jcon (jl2 (fun y0 y1 => jl0 (fun σ => rr12 F y0 y1 σ))) jnil) 37 0 [some (jmr 9), none, none] [] σ0) rfl
theorem jad_Board_firstWild (F : Nat) (sh : List jxC) (hs : jHas sh jc_C) : jAdV (jca_Board_firstWild F) yX0_firstWild cX0_firstWild 3 1 6 138 0 sh := by
  intro as σ k x σ' h
  unfold jca_Board_firstWild at h
  split at h
  · rename_i t0
    obtain ⟨g0, hh1⟩ := jcond h
    obtain rfl := jbeq g0
    obtain ⟨r, h1, h2⟩ := Option.bind_eq_some_iff.mp hh1
    exact ⟨_, _, h2, ⟨_, _, _, _, _, _, rfl, rfl, (hs _ (jkf_in (l := jc_C) (idx := 9) rfl)).1, rfl⟩, jmet_Board_firstWild F  sh hs σ  r.1 r.2 h1⟩
  · cases h
def jtb_LL1_wild : List (Nat × Instr) := [(0, .aload_n 0), (1, .getfield 48), (4, .ifnull 10), (7, .iload_n 1), (8, .invokestatic 92), (11, .ifCond .ne 5), (14, .iconst (-1)), (15, .ireturn), (16, .aload_n 0), (17, .aload_n 0), (18, .getfield 48), (21, .invokevirtual 101), (24, .iload_n 1), (25, .invokevirtual 98), (28, .ireturn)]
theorem jtk_LL1_wild : jtok cX11_wild jtb_LL1_wild = true := by decide +kernel
set_option maxRecDepth 100000 in
theorem jlk_X11_101 : jLkV RX11 101 yX0_firstWild cX0_firstWild 3 1 0 := ⟨(jTB_at 889 rfl rfl), (jTB_at 890 rfl rfl), (jTB_at 891 rfl rfl), (jTB_at 120 rfl rfl), jTB_at 892 rfl rfl, ⟨by decide, by decide, by decide +kernel⟩⟩
def jE_LL1_wild (F : Nat) : jxE := jmk [(48, 11, 2)] [] [] [(92, (1, true), jca_LL_isHeapOrAll F), (98, (3, false), jca_LL1_tallyOrNoSuch F), (101, (1, false), jca_Board_firstWild F)] 1 jc_L1
set_option maxRecDepth 100000 in
set_option maxHeartbeats 4000000 in
theorem jmet_LL1_wild (F : Nat) (sh : List jxC) (hs : jHas sh jc_L1) (σ0 : jxS) (v1 : Int) (x : Int) (σ' : jxS) (h : LL1_wild F σ0 v1 = some (x, σ')) : jMC yX11_wild cX11_wild 2 (jrt 1) 7 160 sh σ0 [(jmr 0), (jmi v1)] (jrv 1 x) σ' := by
  refine jMC_of (kd := 1) (by decide) rfl h ?_
  intro X hX
  have hG : jGd X (jE_LL1_wild F) jtb_LL1_wild := jGd_of hX jtk_LL1_wild (jcon jfl_X11_48 jnil) jnil jnil (jcon (jsS jlk_X11_92 ⟨rfl, rfl⟩ (jad_LL_isHeapOrAll F sh jh_E)) (jcon (jsV jlk_X11_98 ⟨rfl, rfl⟩ (jad_LL1_tallyOrNoSuch F sh hs)) (jcon (jsV jlk_X11_101 ⟨rfl, rfl⟩ (jad_Board_firstWild F sh (jh_L1C hs))) jnil))) hs
  exact jRf_by (jex_ok hG (cs := []) jnil 18 0 [some (jmr 0), some (jmi v1)] [] σ0) rfl
theorem jad_LL1_wild (F : Nat) (sh : List jxC) (hs : jHas sh jc_L1) : jAdV (jca_LL1_wild F) yX11_wild cX11_wild 2 1 7 160 1 sh := by
  intro as σ k x σ' h
  unfold jca_LL1_wild at h
  split at h
  · rename_i t0 v1
    obtain ⟨g0, hh1⟩ := jcond h
    obtain rfl := jbeq g0
    obtain ⟨r, h1, h2⟩ := Option.bind_eq_some_iff.mp hh1
    exact ⟨_, _, h2, ⟨_, _, _, _, _, _, rfl, rfl, (hs _ (jkf_in (l := jc_L1) (idx := 0) rfl)).1, rfl⟩, jmet_LL1_wild F  sh hs σ v1 r.1 r.2 h1⟩
  · cases h
def jtb_Hand_position : List (Nat × Instr) := [(0, .aload_n 0), (1, .getfield 18), (4, .ireturn)]
theorem jtk_Hand_position : jtok cX2_position jtb_Hand_position = true := by decide +kernel
def jE_Hand_position (F : Nat) : jxE := jmk [(18, 2, 2)] [] [] [] 1 jc_C
set_option maxRecDepth 100000 in
set_option maxHeartbeats 4000000 in
theorem jmet_Hand_position (F : Nat) (sh : List jxC) (hs : jHas sh jc_C) (σ0 : jxS) (x : Int) (σ' : jxS) (h : Hand_position F σ0 = some (x, σ')) : jMC yX2_position cX2_position 1 (jrt 1) 0 0 sh σ0 [(jmr 29)] (jrv 1 x) σ' := by
  refine jMC_of (kd := 1) (by decide) rfl h ?_
  intro X hX
  have hG : jGd X (jE_Hand_position F) jtb_Hand_position := jGd_of hX jtk_Hand_position (jcon jfl_X2_18 jnil) jnil jnil jnil hs
  exact jRf_by (jex_ok hG (cs := []) jnil 6 0 [some (jmr 29)] [] σ0) rfl
theorem jad_Hand_position (F : Nat) (sh : List jxC) (hs : jHas sh jc_C) : jAdV (jca_Hand_position F) yX2_position cX2_position 1 1 0 0 0 sh := by
  intro as σ k x σ' h
  unfold jca_Hand_position at h
  split at h
  · rename_i t0
    obtain ⟨g0, hh1⟩ := jcond h
    obtain rfl := jbeq g0
    obtain ⟨r, h1, h2⟩ := Option.bind_eq_some_iff.mp hh1
    exact ⟨_, _, h2, ⟨_, _, _, _, _, _, rfl, rfl, (hs _ (jkf_in (l := jc_C) (idx := 29) rfl)).1, rfl⟩, jmet_Hand_position F  sh hs σ  r.1 r.2 h1⟩
  · cases h
def jtb_Positions_join : List (Nat × Instr) := [(0, .iload_n 2), (1, .ifCond .ne 5), (4, .iload_n 1), (5, .ireturn), (6, .iload_n 2), (7, .ifCond .lt 26), (10, .iload_n 2), (11, .bipush 12), (13, .if_icmp .gt 20), (16, .iload_n 1), (17, .ifCond .lt 16), (20, .iload_n 1), (21, .aload_n 0), (22, .getfield 15), (25, .bipush 23), (27, .iload_n 2), (28, .isub), (29, .iaload), (30, .if_icmp .lt 5), (33, .iconst (-1)), (34, .ireturn), (35, .aload_n 0), (36, .getfield 21), (39, .aload_n 0), (40, .getfield 18), (43, .iload_n 2), (44, .iaload), (45, .iload_n 1), (46, .iadd), (47, .iaload), (48, .ireturn)]
theorem jtk_Positions_join : jtok cX5_join jtb_Positions_join = true := by decide +kernel
def jE_Positions_join (F : Nat) : jxE := jmk [(15, 5, 1), (18, 5, 2), (21, 5, 3)] [] [] [] 1 jc_P
set_option maxRecDepth 100000 in
set_option maxHeartbeats 4000000 in
theorem jmet_Positions_join (F : Nat) (sh : List jxC) (hs : jHas sh jc_P) (σ0 : jxS) (v1 : Int) (v2 : Int) (x : Int) (σ' : jxS) (h : Positions_join F σ0 v1 v2 = some (x, σ')) : jMC yX5_join cX5_join 3 (jrt 1) 0 0 sh σ0 [(jmr 22), (jmi v1), (jmi v2)] (jrv 1 x) σ' := by
  refine jMC_of (kd := 1) (by decide) rfl h ?_
  intro X hX
  have hG : jGd X (jE_Positions_join F) jtb_Positions_join := jGd_of hX jtk_Positions_join (jcon jfl_X5_15 (jcon jfl_X5_18 (jcon jfl_X5_21 jnil))) jnil jnil jnil hs
  exact jRf_by (jex_ok hG (cs := []) jnil 34 0 [some (jmr 22), some (jmi v1), some (jmi v2)] [] σ0) rfl
theorem jad_Positions_join (F : Nat) (sh : List jxC) (hs : jHas sh jc_P) : jAdV (jca_Positions_join F) yX5_join cX5_join 3 1 0 0 2 sh := by
  intro as σ k x σ' h
  unfold jca_Positions_join at h
  split at h
  · rename_i t0 v1 v2
    obtain ⟨g0, hh1⟩ := jcond h
    obtain rfl := jbeq g0
    obtain ⟨r, h1, h2⟩ := Option.bind_eq_some_iff.mp hh1
    exact ⟨_, _, h2, ⟨_, _, _, _, _, _, rfl, rfl, (hs _ (jkf_in (l := jc_P) (idx := 22) rfl)).1, rfl⟩, jmet_Positions_join F  sh hs σ v1 v2 r.1 r.2 h1⟩
  · cases h
def jtb_Hand_become : List (Nat × Instr) := [(0, .aload_n 0), (1, .getfield 11), (4, .aload_n 0), (5, .getfield 22), (8, .aload_n 0), (9, .getfield 18), (12, .iastore), (13, .aload_n 0), (14, .aload_n 0), (15, .getfield 22), (18, .iconst 1), (19, .iadd), (20, .bipush 30), (22, .irem), (23, .putfield 22), (26, .aload_n 0), (27, .aload_n 0), (28, .getfield 25), (31, .iconst 1), (32, .iadd), (33, .bipush 30), (35, .invokestatic 34), (38, .putfield 25), (41, .aload_n 0), (42, .iload_n 1), (43, .putfield 18), (46, .return_)]
theorem jtk_Hand_become : jtok cX2_become jtb_Hand_become = true := by decide +kernel
set_option maxRecDepth 100000 in
theorem jfl_X2_11 : jFl RX2 11 2 0 := ⟨RX2, TX2, 5, tyX2, rfl, by decide, jin_X2, tyX2_ok, nmX2, jow_X2, (Or.inl (jTB_at 494 rfl rfl))⟩
def jE_Hand_become (F : Nat) : jxE := jmk [(11, 2, 0), (18, 2, 2), (22, 2, 3), (25, 2, 4)] [] [] [(34, (2, true), jca_min)] 0 jc_C
set_option maxRecDepth 100000 in
set_option maxHeartbeats 4000000 in
theorem jmet_Hand_become (F : Nat) (sh : List jxC) (hs : jHas sh jc_C) (σ0 : jxS) (v1 : Int) (x : Int) (σ' : jxS) (h : Hand_become F σ0 v1 = some (x, σ')) : jMC yX2_become cX2_become 2 (jrt 0) 1 40 sh σ0 [(jmr 29), (jmi v1)] (jrv 0 x) σ' := by
  refine jMC_of (kd := 0) (by decide) rfl h ?_
  intro X hX
  have hG : jGd X (jE_Hand_become F) jtb_Hand_become := jGd_of hX jtk_Hand_become (jcon jfl_X2_11 (jcon jfl_X2_18 (jcon jfl_X2_22 (jcon jfl_X2_25 jnil)))) jnil jnil (jcon (js_min (jTB_at 928 rfl rfl) (by decide) (by decide)) jnil) hs
  exact jRf_by (jex_ok hG (cs := []) jnil 30 0 [some (jmr 29), some (jmi v1)] [] σ0) rfl
theorem jad_Hand_become (F : Nat) (sh : List jxC) (hs : jHas sh jc_C) : jAdV (jca_Hand_become F) yX2_become cX2_become 2 0 1 40 1 sh := by
  intro as σ k x σ' h
  unfold jca_Hand_become at h
  split at h
  · rename_i t0 v1
    obtain ⟨g0, hh1⟩ := jcond h
    obtain rfl := jbeq g0
    obtain ⟨r, h1, h2⟩ := Option.bind_eq_some_iff.mp hh1
    exact ⟨_, _, h2, ⟨_, _, _, _, _, _, rfl, rfl, (hs _ (jkf_in (l := jc_C) (idx := 29) rfl)).1, rfl⟩, jmet_Hand_become F  sh hs σ v1 r.1 r.2 h1⟩
  · cases h
def jtb_LL1_put : List (Nat × Instr) := [(0, .aload_n 0), (1, .getfield 48), (4, .ifnull 10), (7, .iload_n 1), (8, .invokestatic 59), (11, .ifCond .ne 5), (14, .iconst (-1)), (15, .ireturn), (16, .aload_n 0), (17, .getfield 48), (20, .getfield 104), (23, .aload_n 0), (24, .getfield 48), (27, .getfield 108), (30, .invokevirtual 112), (33, .iload_n 1), (34, .invokevirtual 117), (37, .istore_n 2), (38, .iload_n 2), (39, .ifCond .ge 5), (42, .iconst (-1)), (43, .ireturn), (44, .aload_n 0), (45, .getfield 48), (48, .getfield 108), (51, .iload_n 2), (52, .invokevirtual 122), (55, .aload_n 0), (56, .getfield 48), (59, .getfield 104), (62, .iload_n 2), (63, .invokevirtual 125), (66, .ireturn)]
theorem jtk_LL1_put : jtok cX11_put jtb_LL1_put = true := by decide +kernel
set_option maxRecDepth 100000 in
theorem jfl_X11_108 : jFl RX11 108 0 3 := ⟨RX0, TX0, 10, tyX0, rfl, by decide, jin_X0, tyX0_ok, nmX0, jow_X0, (Or.inr ⟨"LastLoses", (jNS_at 645 rfl rfl)⟩)⟩
set_option maxRecDepth 100000 in
theorem jlk_X11_112 : jLkV RX11 112 yX2_position cX2_position 1 1 0 := ⟨(jTB_at 919 rfl rfl), (jTB_at 920 rfl rfl), (jTB_at 921 rfl rfl), (jTB_at 124 rfl rfl), jTB_at 922 rfl rfl, ⟨by decide, by decide, by decide +kernel⟩⟩
set_option maxRecDepth 100000 in
theorem jlk_X11_117 : jLkV RX11 117 yX5_join cX5_join 3 1 2 := ⟨(jTB_at 923 rfl rfl), (jTB_at 466 rfl rfl), (jTB_at 467 rfl rfl), (jTB_at 123 rfl rfl), jTB_at 468 rfl rfl, ⟨by decide, by decide, by decide +kernel⟩⟩
set_option maxRecDepth 100000 in
theorem jlk_X11_122 : jLkV RX11 122 yX2_become cX2_become 2 0 1 := ⟨(jTB_at 924 rfl rfl), (jTB_at 925 rfl rfl), (jTB_at 926 rfl rfl), (jTB_at 124 rfl rfl), jTB_at 927 rfl rfl, ⟨by decide, by decide, by decide +kernel⟩⟩
set_option maxRecDepth 100000 in
theorem jlk_X11_125 : jLkV RX11 125 yX5_beansOf cX5_beansOf 4 1 1 := ⟨(jTB_at 929 rfl rfl), (jTB_at 874 rfl rfl), (jTB_at 875 rfl rfl), (jTB_at 123 rfl rfl), jTB_at 876 rfl rfl, ⟨by decide, by decide, by decide +kernel⟩⟩
def jE_LL1_put (F : Nat) : jxE := jmk [(48, 11, 2), (104, 0, 2), (108, 0, 3)] [] [] [(59, (1, true), jca_LL_isHeap F), (112, (1, false), jca_Hand_position F), (117, (3, false), jca_Positions_join F), (122, (2, false), jca_Hand_become F), (125, (2, false), jca_Positions_beansOf F)] 1 jc_L1
set_option maxRecDepth 100000 in
set_option maxHeartbeats 4000000 in
theorem jmet_LL1_put (F : Nat) (sh : List jxC) (hs : jHas sh jc_L1) (σ0 : jxS) (v1 : Int) (x : Int) (σ' : jxS) (h : LL1_put F σ0 v1 = some (x, σ')) : jMC yX11_put cX11_put 3 (jrt 1) 2 61 sh σ0 [(jmr 0), (jmi v1)] (jrv 1 x) σ' := by
  refine jMC_of (kd := 1) (by decide) rfl h ?_
  intro X hX
  have hG : jGd X (jE_LL1_put F) jtb_LL1_put := jGd_of hX jtk_LL1_put (jcon jfl_X11_48 (jcon jfl_X11_104 (jcon jfl_X11_108 jnil))) jnil jnil (jcon (jsS jlk_X11_59 ⟨rfl, rfl⟩ (jad_LL_isHeap F sh jh_E)) (jcon (jsV jlk_X11_112 ⟨rfl, rfl⟩ (jad_Hand_position F sh (jh_L1C hs))) (jcon (jsV jlk_X11_117 ⟨rfl, rfl⟩ (jad_Positions_join F sh (jh_L1P hs))) (jcon (jsV jlk_X11_122 ⟨rfl, rfl⟩ (jad_Hand_become F sh (jh_L1C hs))) (jcon (jsV jlk_X11_125 ⟨rfl, rfl⟩ (jad_Positions_beansOf F sh (jh_L1P hs))) jnil))))) hs
  exact jRf_by (jex_ok hG (cs := []) jnil 36 0 [some (jmr 0), some (jmi v1), none] [] σ0) rfl
theorem jad_LL1_put (F : Nat) (sh : List jxC) (hs : jHas sh jc_L1) : jAdV (jca_LL1_put F) yX11_put cX11_put 3 1 2 61 1 sh := by
  intro as σ k x σ' h
  unfold jca_LL1_put at h
  split at h
  · rename_i t0 v1
    obtain ⟨g0, hh1⟩ := jcond h
    obtain rfl := jbeq g0
    obtain ⟨r, h1, h2⟩ := Option.bind_eq_some_iff.mp hh1
    exact ⟨_, _, h2, ⟨_, _, _, _, _, _, rfl, rfl, (hs _ (jkf_in (l := jc_L1) (idx := 0) rfl)).1, rfl⟩, jmet_LL1_put F  sh hs σ v1 r.1 r.2 h1⟩
  · cases h
def jtb_Rules_isMove : List (Nat × Instr) := [(0, .iload_n 2), (1, .ifCond .lt 28), (4, .iload_n 3), (5, .iload_n 2), (6, .if_icmp .lt 23), (9, .iload_n 3), (10, .bipush 12), (12, .if_icmp .gt 17), (15, .iload_n 1), (16, .invokestatic 87), (19, .ifCond .eq 10), (22, .iload_n 2), (23, .iload_n 3), (24, .iadd), (25, .iload_n 1), (26, .if_icmp .lt 5), (29, .iconst 0), (30, .ireturn), (31, .aload_n 0), (32, .iload_n 1), (33, .iload_n 2), (34, .iload_n 3), (35, .invokevirtual 103), (38, .ireturn)]
theorem jtk_Rules_isMove : jtok cX8_isMove jtb_Rules_isMove = true := by decide +kernel
def jE_Rules_isMove (F : Nat) : jxE := jmk [] [] [] [(87, (1, true), jca_LL_isHeap F), (103, (4, false), jca_Rules_allows F)] 4 jc_C
set_option maxRecDepth 100000 in
set_option maxHeartbeats 4000000 in
theorem jmet_Rules_isMove (F : Nat) (sh : List jxC) (hs : jHas sh jc_C) (σ0 : jxS) (v1 : Int) (v2 : Int) (v3 : Int) (x : Int) (σ' : jxS) (h : Rules_isMove F σ0 v1 v2 v3 = some (x, σ')) : jMC yX8_isMove cX8_isMove 4 (jrt 4) 1 25 sh σ0 [(jmr 10), (jmi v1), (jmi v2), (jmi v3)] (jrv 4 x) σ' := by
  refine jMC_of (kd := 4) (by decide) rfl h ?_
  intro X hX
  have hG : jGd X (jE_Rules_isMove F) jtb_Rules_isMove := jGd_of hX jtk_Rules_isMove jnil jnil jnil (jcon (jsS jlk_X8_87 ⟨rfl, rfl⟩ (jad_LL_isHeap F sh jh_E)) (jcon (jsV jlk_X8_103 ⟨rfl, rfl⟩ (jad_Rules_allows F sh hs)) jnil)) hs
  exact jRf_by (jex_ok hG (cs := []) jnil 27 0 [some (jmr 10), some (jmi v1), some (jmi v2), some (jmi v3)] [] σ0) rfl
theorem jad_Rules_isMove (F : Nat) (sh : List jxC) (hs : jHas sh jc_C) : jAdV (jca_Rules_isMove F) yX8_isMove cX8_isMove 4 4 1 25 3 sh := by
  intro as σ k x σ' h
  unfold jca_Rules_isMove at h
  split at h
  · rename_i t0 v1 v2 v3
    obtain ⟨g0, hh1⟩ := jcond h
    obtain rfl := jbeq g0
    obtain ⟨r, h1, h2⟩ := Option.bind_eq_some_iff.mp hh1
    exact ⟨_, _, h2, ⟨_, _, _, _, _, _, rfl, rfl, (hs _ (jkf_in (l := jc_C) (idx := 10) rfl)).1, rfl⟩, jmet_Rules_isMove F  sh hs σ v1 v2 v3 r.1 r.2 h1⟩
  · cases h
def jtb_LL1_move : List (Nat × Instr) := [(0, .aload_n 0), (1, .getfield 48), (4, .ifnull 26), (7, .iload_n 1), (8, .invokestatic 59), (11, .ifCond .eq 19), (14, .aload_n 0), (15, .getfield 48), (18, .getfield 62), (21, .iload_n 1), (22, .iload_n 2), (23, .iload_n 3), (24, .invokevirtual 128), (27, .ifCond .ne 5), (30, .iconst (-1)), (31, .ireturn), (32, .aload_n 0), (33, .getfield 48), (36, .getfield 104), (39, .aload_n 0), (40, .getfield 48), (43, .getfield 108), (46, .invokevirtual 112), (49, .iload_n 1), (50, .invokevirtual 132), (53, .istore 4), (55, .iload 4), (57, .ifCond .ge 5), (60, .iconst (-1)), (61, .ireturn), (62, .aload_n 0), (63, .getfield 48), (66, .getfield 104), (69, .iload 4), (71, .bipush 13), (73, .iload_n 2), (74, .imul), (75, .iload_n 3), (76, .iadd), (77, .invokevirtual 135), (80, .istore 5), (82, .aload_n 0), (83, .getfield 48), (86, .getfield 108), (89, .iload 5), (91, .invokevirtual 122), (94, .aload_n 0), (95, .getfield 48), (98, .getfield 138), (101, .iload 5), (103, .invokevirtual 142), (106, .ifCond .eq 7), (109, .iconst 0), (110, .goto 4), (113, .iconst 1), (114, .ireturn)]
theorem jtk_LL1_move : jtok cX11_move jtb_LL1_move = true := by decide +kernel
set_option maxRecDepth 100000 in
theorem jfl_X11_138 : jFl RX11 138 0 4 := ⟨RX0, TX0, 10, tyX0, rfl, by decide, jin_X0, tyX0_ok, nmX0, jow_X0, (Or.inr ⟨"LastLoses", (jNS_at 647 rfl rfl)⟩)⟩
set_option maxRecDepth 100000 in
theorem jlk_X11_128 : jLkV RX11 128 yX8_isMove cX8_isMove 4 4 3 := ⟨(jTB_at 934 rfl rfl), (jTB_at 935 rfl rfl), (jTB_at 936 rfl rfl), (jTB_at 121 rfl rfl), jTB_at 937 rfl rfl, ⟨by decide, by decide, by decide +kernel⟩⟩
set_option maxRecDepth 100000 in
theorem jlk_X11_132 : jLkV RX11 132 yX5_without cX5_without 4 1 2 := ⟨(jTB_at 938 rfl rfl), (jTB_at 882 rfl rfl), (jTB_at 883 rfl rfl), (jTB_at 123 rfl rfl), jTB_at 884 rfl rfl, ⟨by decide, by decide, by decide +kernel⟩⟩
set_option maxRecDepth 100000 in
theorem jlk_X11_135 : jLkV RX11 135 yX5_joinMove cX5_joinMove 6 1 2 := ⟨(jTB_at 939 rfl rfl), (jTB_at 852 rfl rfl), (jTB_at 853 rfl rfl), (jTB_at 123 rfl rfl), jTB_at 854 rfl rfl, ⟨by decide, by decide, by decide +kernel⟩⟩
set_option maxRecDepth 100000 in
theorem jlk_X11_142 : jLkV RX11 142 yX10_loses cX10_loses 2 4 1 := ⟨(jTB_at 940 rfl rfl), (jTB_at 828 rfl rfl), (jTB_at 829 rfl rfl), (jTB_at 125 rfl rfl), jTB_at 830 rfl rfl, ⟨by decide, by decide, by decide +kernel⟩⟩
def jE_LL1_move (F : Nat) : jxE := jmk [(48, 11, 2), (62, 0, 0), (104, 0, 2), (108, 0, 3), (138, 0, 4)] [] [] [(59, (1, true), jca_LL_isHeap F), (112, (1, false), jca_Hand_position F), (122, (2, false), jca_Hand_become F), (128, (4, false), jca_Rules_isMove F), (132, (3, false), jca_Positions_without F), (135, (3, false), jca_Positions_joinMove F), (142, (2, false), jca_Values_loses F)] 1 jc_L1
set_option maxRecDepth 100000 in
set_option maxHeartbeats 4000000 in
theorem jmet_LL1_move (F : Nat) (sh : List jxC) (hs : jHas sh jc_L1) (σ0 : jxS) (v1 : Int) (v2 : Int) (v3 : Int) (x : Int) (σ' : jxS) (h : LL1_move F σ0 v1 v2 v3 = some (x, σ')) : jMC yX11_move cX11_move 6 (jrt 1) 5 112 sh σ0 [(jmr 0), (jmi v1), (jmi v2), (jmi v3)] (jrv 1 x) σ' := by
  refine jMC_of (kd := 1) (by decide) rfl h ?_
  intro X hX
  have hG : jGd X (jE_LL1_move F) jtb_LL1_move := jGd_of hX jtk_LL1_move (jcon jfl_X11_48 (jcon jfl_X11_62 (jcon jfl_X11_104 (jcon jfl_X11_108 (jcon jfl_X11_138 jnil))))) jnil jnil (jcon (jsS jlk_X11_59 ⟨rfl, rfl⟩ (jad_LL_isHeap F sh jh_E)) (jcon (jsV jlk_X11_112 ⟨rfl, rfl⟩ (jad_Hand_position F sh (jh_L1C hs))) (jcon (jsV jlk_X11_122 ⟨rfl, rfl⟩ (jad_Hand_become F sh (jh_L1C hs))) (jcon (jsV jlk_X11_128 ⟨rfl, rfl⟩ (jad_Rules_isMove F sh (jh_L1C hs))) (jcon (jsV jlk_X11_132 ⟨rfl, rfl⟩ (jad_Positions_without F sh (jh_L1P hs))) (jcon (jsV jlk_X11_135 ⟨rfl, rfl⟩ (jad_Positions_joinMove F sh (jh_L1P hs))) (jcon (jsV jlk_X11_142 ⟨rfl, rfl⟩ (jad_Values_loses F sh (jh_L1C hs))) jnil))))))) hs
  exact jRf_by (jex_ok hG (cs := []) jnil 59 0 [some (jmr 0), some (jmi v1), some (jmi v2), some (jmi v3), none, none] [] σ0) rfl
theorem jad_LL1_move (F : Nat) (sh : List jxC) (hs : jHas sh jc_L1) : jAdV (jca_LL1_move F) yX11_move cX11_move 6 1 5 112 3 sh := by
  intro as σ k x σ' h
  unfold jca_LL1_move at h
  split at h
  · rename_i t0 v1 v2 v3
    obtain ⟨g0, hh1⟩ := jcond h
    obtain rfl := jbeq g0
    obtain ⟨r, h1, h2⟩ := Option.bind_eq_some_iff.mp hh1
    exact ⟨_, _, h2, ⟨_, _, _, _, _, _, rfl, rfl, (hs _ (jkf_in (l := jc_L1) (idx := 0) rfl)).1, rfl⟩, jmet_LL1_move F  sh hs σ v1 v2 v3 r.1 r.2 h1⟩
  · cases h
def jtb_Options_size : List (Nat × Instr) := [(0, .aload_n 0), (1, .getfield 28), (4, .ireturn)]
theorem jtk_Options_size : jtok cX3_size jtb_Options_size = true := by decide +kernel
def jE_Options_size (F : Nat) : jxE := jmk [(28, 3, 4)] [] [] [] 1 jc_C
set_option maxRecDepth 100000 in
set_option maxHeartbeats 4000000 in
theorem jmet_Options_size_38 (F : Nat) (sh : List jxC) (hs : jHas sh jc_C) (σ0 : jxS) (x : Int) (σ' : jxS) (h : Options_size F 38 σ0 = some (x, σ')) : jMC yX3_size cX3_size 1 (jrt 1) 0 0 sh σ0 [(jmr 38)] (jrv 1 x) σ' := by
  refine jMC_of (kd := 1) (by decide) rfl h ?_
  intro X hX
  have hG : jGd X (jE_Options_size F) jtb_Options_size := jGd_of hX jtk_Options_size (jcon jfl_X3_28 jnil) jnil jnil jnil hs
  exact jRf_by (jex_ok hG (cs := []) jnil 6 0 [some (jmr 38)] [] σ0) rfl
set_option maxRecDepth 100000 in
set_option maxHeartbeats 4000000 in
theorem jmet_Options_size_41 (F : Nat) (sh : List jxC) (hs : jHas sh jc_C) (σ0 : jxS) (x : Int) (σ' : jxS) (h : Options_size F 41 σ0 = some (x, σ')) : jMC yX3_size cX3_size 1 (jrt 1) 0 0 sh σ0 [(jmr 41)] (jrv 1 x) σ' := by
  refine jMC_of (kd := 1) (by decide) rfl h ?_
  intro X hX
  have hG : jGd X (jE_Options_size F) jtb_Options_size := jGd_of hX jtk_Options_size (jcon jfl_X3_28 jnil) jnil jnil jnil hs
  exact jRf_by (jex_ok hG (cs := []) jnil 6 0 [some (jmr 41)] [] σ0) rfl
theorem jmet_Options_size (F : Nat) (o : Nat) (ho : o ∈ jids_Options_size_o) (sh : List jxC) (hs : jHas sh jc_C) (σ0 : jxS) (x : Int) (σ' : jxS) (h : Options_size F o σ0 = some (x, σ')) : jMC yX3_size cX3_size 1 (jrt 1) 0 0 sh σ0 [(jmr o)] (jrv 1 x) σ' := by
  simp only [jids_Options_size_o, List.mem_cons, List.not_mem_nil, or_false] at ho
  rcases ho with rfl | rfl
  · exact jmet_Options_size_38 F sh hs σ0  x σ' h
  · exact jmet_Options_size_41 F sh hs σ0  x σ' h
theorem jad_Options_size (F : Nat) (sh : List jxC) (hs : jHas sh jc_C) : jAdV (jca_Options_size F) yX3_size cX3_size 1 1 0 0 0 sh := by
  intro as σ k x σ' h
  unfold jca_Options_size at h
  split at h
  · rename_i t0
    obtain ⟨g0, hh1⟩ := jcond h
    have g0 := jin_of g0
    obtain ⟨r, h1, h2⟩ := Option.bind_eq_some_iff.mp hh1
    exact ⟨_, _, h2, (by obtain ⟨fks, hfk⟩ := jrc_Options hs g0; exact ⟨_, _, _, _, _, _, rfl, rfl, hfk, rfl⟩), jmet_Options_size F t0 g0 sh hs σ  r.1 r.2 h1⟩
  · cases h
def jtb_Options_target : List (Nat × Instr) := [(0, .iload_n 1), (1, .ifCond .lt 20), (4, .iload_n 1), (5, .aload_n 0), (6, .getfield 28), (9, .if_icmp .ge 12), (12, .aload_n 0), (13, .getfield 11), (16, .iload_n 1), (17, .iaload), (18, .goto 4), (21, .iconst (-1)), (22, .ireturn)]
theorem jtk_Options_target : jtok cX3_target jtb_Options_target = true := by decide +kernel
def jE_Options_target (F : Nat) : jxE := jmk [(11, 3, 2), (28, 3, 4)] [] [] [] 1 jc_C
set_option maxRecDepth 100000 in
set_option maxHeartbeats 4000000 in
theorem jmet_Options_target_38 (F : Nat) (sh : List jxC) (hs : jHas sh jc_C) (σ0 : jxS) (v1 : Int) (x : Int) (σ' : jxS) (h : Options_target F 38 σ0 v1 = some (x, σ')) : jMC yX3_target cX3_target 2 (jrt 1) 0 0 sh σ0 [(jmr 38), (jmi v1)] (jrv 1 x) σ' := by
  refine jMC_of (kd := 1) (by decide) rfl h ?_
  intro X hX
  have hG : jGd X (jE_Options_target F) jtb_Options_target := jGd_of hX jtk_Options_target (jcon jfl_X3_11 (jcon jfl_X3_28 jnil)) jnil jnil jnil hs
  exact jRf_by (jex_ok hG (cs := []) jnil 16 0 [some (jmr 38), some (jmi v1)] [] σ0) rfl
set_option maxRecDepth 100000 in
set_option maxHeartbeats 4000000 in
theorem jmet_Options_target_41 (F : Nat) (sh : List jxC) (hs : jHas sh jc_C) (σ0 : jxS) (v1 : Int) (x : Int) (σ' : jxS) (h : Options_target F 41 σ0 v1 = some (x, σ')) : jMC yX3_target cX3_target 2 (jrt 1) 0 0 sh σ0 [(jmr 41), (jmi v1)] (jrv 1 x) σ' := by
  refine jMC_of (kd := 1) (by decide) rfl h ?_
  intro X hX
  have hG : jGd X (jE_Options_target F) jtb_Options_target := jGd_of hX jtk_Options_target (jcon jfl_X3_11 (jcon jfl_X3_28 jnil)) jnil jnil jnil hs
  exact jRf_by (jex_ok hG (cs := []) jnil 16 0 [some (jmr 41), some (jmi v1)] [] σ0) rfl
theorem jmet_Options_target (F : Nat) (o : Nat) (ho : o ∈ jids_Options_target_o) (sh : List jxC) (hs : jHas sh jc_C) (σ0 : jxS) (v1 : Int) (x : Int) (σ' : jxS) (h : Options_target F o σ0 v1 = some (x, σ')) : jMC yX3_target cX3_target 2 (jrt 1) 0 0 sh σ0 [(jmr o), (jmi v1)] (jrv 1 x) σ' := by
  simp only [jids_Options_target_o, List.mem_cons, List.not_mem_nil, or_false] at ho
  rcases ho with rfl | rfl
  · exact jmet_Options_target_38 F sh hs σ0 v1 x σ' h
  · exact jmet_Options_target_41 F sh hs σ0 v1 x σ' h
theorem jad_Options_target (F : Nat) (sh : List jxC) (hs : jHas sh jc_C) : jAdV (jca_Options_target F) yX3_target cX3_target 2 1 0 0 1 sh := by
  intro as σ k x σ' h
  unfold jca_Options_target at h
  split at h
  · rename_i t0 v1
    obtain ⟨g0, hh1⟩ := jcond h
    have g0 := jin_of g0
    obtain ⟨r, h1, h2⟩ := Option.bind_eq_some_iff.mp hh1
    exact ⟨_, _, h2, (by obtain ⟨fks, hfk⟩ := jrc_Options hs g0; exact ⟨_, _, _, _, _, _, rfl, rfl, hfk, rfl⟩), jmet_Options_target F t0 g0 sh hs σ v1 r.1 r.2 h1⟩
  · cases h
def jtb_Options_code : List (Nat × Instr) := [(0, .iload_n 1), (1, .ifCond .lt 20), (4, .iload_n 1), (5, .aload_n 0), (6, .getfield 28), (9, .if_icmp .ge 12), (12, .aload_n 0), (13, .getfield 17), (16, .iload_n 1), (17, .iaload), (18, .goto 5), (21, .bipush (-2)), (23, .ireturn)]
theorem jtk_Options_code : jtok cX3_code jtb_Options_code = true := by decide +kernel
def jE_Options_code (F : Nat) : jxE := jmk [(17, 3, 3), (28, 3, 4)] [] [] [] 1 jc_C
set_option maxRecDepth 100000 in
set_option maxHeartbeats 4000000 in
theorem jmet_Options_code_38 (F : Nat) (sh : List jxC) (hs : jHas sh jc_C) (σ0 : jxS) (v1 : Int) (x : Int) (σ' : jxS) (h : Options_code F 38 σ0 v1 = some (x, σ')) : jMC yX3_code cX3_code 2 (jrt 1) 0 0 sh σ0 [(jmr 38), (jmi v1)] (jrv 1 x) σ' := by
  refine jMC_of (kd := 1) (by decide) rfl h ?_
  intro X hX
  have hG : jGd X (jE_Options_code F) jtb_Options_code := jGd_of hX jtk_Options_code (jcon jfl_X3_17 (jcon jfl_X3_28 jnil)) jnil jnil jnil hs
  exact jRf_by (jex_ok hG (cs := []) jnil 16 0 [some (jmr 38), some (jmi v1)] [] σ0) rfl
set_option maxRecDepth 100000 in
set_option maxHeartbeats 4000000 in
theorem jmet_Options_code_41 (F : Nat) (sh : List jxC) (hs : jHas sh jc_C) (σ0 : jxS) (v1 : Int) (x : Int) (σ' : jxS) (h : Options_code F 41 σ0 v1 = some (x, σ')) : jMC yX3_code cX3_code 2 (jrt 1) 0 0 sh σ0 [(jmr 41), (jmi v1)] (jrv 1 x) σ' := by
  refine jMC_of (kd := 1) (by decide) rfl h ?_
  intro X hX
  have hG : jGd X (jE_Options_code F) jtb_Options_code := jGd_of hX jtk_Options_code (jcon jfl_X3_17 (jcon jfl_X3_28 jnil)) jnil jnil jnil hs
  exact jRf_by (jex_ok hG (cs := []) jnil 16 0 [some (jmr 41), some (jmi v1)] [] σ0) rfl
theorem jmet_Options_code (F : Nat) (o : Nat) (ho : o ∈ jids_Options_code_o) (sh : List jxC) (hs : jHas sh jc_C) (σ0 : jxS) (v1 : Int) (x : Int) (σ' : jxS) (h : Options_code F o σ0 v1 = some (x, σ')) : jMC yX3_code cX3_code 2 (jrt 1) 0 0 sh σ0 [(jmr o), (jmi v1)] (jrv 1 x) σ' := by
  simp only [jids_Options_code_o, List.mem_cons, List.not_mem_nil, or_false] at ho
  rcases ho with rfl | rfl
  · exact jmet_Options_code_38 F sh hs σ0 v1 x σ' h
  · exact jmet_Options_code_41 F sh hs σ0 v1 x σ' h
theorem jad_Options_code (F : Nat) (sh : List jxC) (hs : jHas sh jc_C) : jAdV (jca_Options_code F) yX3_code cX3_code 2 1 0 0 1 sh := by
  intro as σ k x σ' h
  unfold jca_Options_code at h
  split at h
  · rename_i t0 v1
    obtain ⟨g0, hh1⟩ := jcond h
    have g0 := jin_of g0
    obtain ⟨r, h1, h2⟩ := Option.bind_eq_some_iff.mp hh1
    exact ⟨_, _, h2, (by obtain ⟨fks, hfk⟩ := jrc_Options hs g0; exact ⟨_, _, _, _, _, _, rfl, rfl, hfk, rfl⟩), jmet_Options_code F t0 g0 sh hs σ v1 r.1 r.2 h1⟩
  · cases h
def jtb_Board_makeReply : List (Nat × Instr) := [(0, .aload_n 0), (1, .getfield 57), (4, .aload_n 0), (5, .getfield 35), (8, .invokevirtual 103), (11, .invokevirtual 107), (14, .iconst 0), (15, .istore_n 1), (16, .iload_n 1), (17, .aload_n 0), (18, .getfield 57), (21, .invokevirtual 111), (24, .if_icmp .ge 51), (27, .aload_n 0), (28, .getfield 50), (31, .aload_n 0), (32, .getfield 57), (35, .iload_n 1), (36, .invokevirtual 114), (39, .invokevirtual 117), (42, .ifCond .eq 27), (45, .aload_n 0), (46, .getfield 35), (49, .aload_n 0), (50, .getfield 57), (53, .iload_n 1), (54, .invokevirtual 114), (57, .invokevirtual 120), (60, .aload_n 0), (61, .getfield 57), (64, .iload_n 1), (65, .invokevirtual 123), (68, .ireturn), (69, .iinc 1 1), (72, .goto (-56)), (75, .bipush (-2)), (77, .ireturn)]
theorem jtk_Board_makeReply : jtok cX0_makeReply jtb_Board_makeReply = true := by decide +kernel
set_option maxRecDepth 100000 in
theorem jfl_X0_57 : jFl RX0 57 0 5 := ⟨RX0, TX0, 10, tyX0, rfl, by decide, jin_X0, tyX0_ok, nmX0, jow_X0, (Or.inl (jTB_at 648 rfl rfl))⟩
set_option maxRecDepth 100000 in
theorem jlk_X0_103 : jLkV RX0 103 yX2_position cX2_position 1 1 0 := ⟨(jTB_at 949 rfl rfl), (jTB_at 920 rfl rfl), (jTB_at 921 rfl rfl), (jTB_at 124 rfl rfl), jTB_at 922 rfl rfl, ⟨by decide, by decide, by decide +kernel⟩⟩
set_option maxRecDepth 100000 in
theorem jlk_X0_107 : jLkV RX0 107 yX3_list cX3_list 9 0 1 := ⟨(jTB_at 950 rfl rfl), (jTB_at 836 rfl rfl), (jTB_at 837 rfl rfl), (jTB_at 126 rfl rfl), jTB_at 838 rfl rfl, ⟨by decide, by decide, by decide +kernel⟩⟩
set_option maxRecDepth 100000 in
theorem jlk_X0_111 : jLkV RX0 111 yX3_size cX3_size 1 1 0 := ⟨(jTB_at 951 rfl rfl), (jTB_at 952 rfl rfl), (jTB_at 953 rfl rfl), (jTB_at 126 rfl rfl), jTB_at 954 rfl rfl, ⟨by decide, by decide, by decide +kernel⟩⟩
set_option maxRecDepth 100000 in
theorem jlk_X0_114 : jLkV RX0 114 yX3_target cX3_target 2 1 1 := ⟨(jTB_at 955 rfl rfl), (jTB_at 956 rfl rfl), (jTB_at 957 rfl rfl), (jTB_at 126 rfl rfl), jTB_at 958 rfl rfl, ⟨by decide, by decide, by decide +kernel⟩⟩
set_option maxRecDepth 100000 in
theorem jlk_X0_117 : jLkV RX0 117 yX10_loses cX10_loses 2 4 1 := ⟨(jTB_at 959 rfl rfl), (jTB_at 828 rfl rfl), (jTB_at 829 rfl rfl), (jTB_at 125 rfl rfl), jTB_at 830 rfl rfl, ⟨by decide, by decide, by decide +kernel⟩⟩
set_option maxRecDepth 100000 in
theorem jlk_X0_120 : jLkV RX0 120 yX2_become cX2_become 2 0 1 := ⟨(jTB_at 960 rfl rfl), (jTB_at 925 rfl rfl), (jTB_at 926 rfl rfl), (jTB_at 124 rfl rfl), jTB_at 927 rfl rfl, ⟨by decide, by decide, by decide +kernel⟩⟩
set_option maxRecDepth 100000 in
theorem jlk_X0_123 : jLkV RX0 123 yX3_code cX3_code 2 1 1 := ⟨(jTB_at 961 rfl rfl), (jTB_at 962 rfl rfl), (jTB_at 963 rfl rfl), (jTB_at 126 rfl rfl), jTB_at 964 rfl rfl, ⟨by decide, by decide, by decide +kernel⟩⟩
def jE_Board_makeReply (F : Nat) : jxE := jmk [(35, 0, 3), (50, 0, 4), (57, 0, 5)] [] [] [(103, (1, false), jca_Hand_position F), (107, (2, false), jca_Options_list F), (111, (1, false), jca_Options_size F), (114, (2, false), jca_Options_target F), (117, (2, false), jca_Values_loses F), (120, (2, false), jca_Hand_become F), (123, (2, false), jca_Options_code F)] 1 jc_C
set_option maxRecDepth 100000 in
set_option maxHeartbeats 4000000 in
theorem jmet_Board_makeReply (F : Nat) (sh : List jxC) (hs : jHas sh jc_C) (σ0 : jxS) (x : Int) (σ' : jxS) (h : Board_makeReply F σ0 = some (x, σ')) : jMC yX0_makeReply cX0_makeReply 2 (jrt 1) 5 112 sh σ0 [(jmr 9)] (jrv 1 x) σ' := by
  refine jMC_of (kd := 1) (by decide) rfl h ?_
  intro X hX
  have hG : jGd X (jE_Board_makeReply F) jtb_Board_makeReply := jGd_of hX jtk_Board_makeReply (jcon jfl_X0_35 (jcon jfl_X0_50 (jcon jfl_X0_57 jnil))) jnil jnil (jcon (jsV jlk_X0_103 ⟨rfl, rfl⟩ (jad_Hand_position F sh hs)) (jcon (jsV jlk_X0_107 ⟨rfl, rfl⟩ (jad_Options_list F sh hs)) (jcon (jsV jlk_X0_111 ⟨rfl, rfl⟩ (jad_Options_size F sh hs)) (jcon (jsV jlk_X0_114 ⟨rfl, rfl⟩ (jad_Options_target F sh hs)) (jcon (jsV jlk_X0_117 ⟨rfl, rfl⟩ (jad_Values_loses F sh hs)) (jcon (jsV jlk_X0_120 ⟨rfl, rfl⟩ (jad_Hand_become F sh hs)) (jcon (jsV jlk_X0_123 ⟨rfl, rfl⟩ (jad_Options_code F sh hs)) jnil))))))) hs
  have rr16 : ∀ (fu : Nat) (v1 : Int) (σ : jxS), jRf X (Board_makeReply_c16 F fu v1 σ) 16 [some (jmr 9), some (jmi v1)] [] σ := by
    intro  fu
    induction fu with
    | zero => intros; exact jRf_none
    | succ fu ih =>
      intro v1 σ
      exact jRf_by (jex_ok hG (cs := [(16, [some (.inr (some 9)), some (.inl 0)], [], fun xs σ => match xs with
      | [v1] => (Board_makeReply_c16 F fu) v1 σ
      | _ => none)]) (jcon (jl1 (fun y0 => jl0 (fun σ => ih y0 σ))) jnil) 40 16 [some (jmr 9), some (jmi v1)] [] σ) rfl
  exact jRf_by (jex_ok hG (cs := [(16, [some (.inr (some 9)), some (.inl 0)], [], fun xs σ => match xs with
      | [v1] => Board_makeReply_c16 F F v1 σ
      | _ => none)]) (jcon (jl1 (fun y0 => jl0 (fun σ => rr16 F y0 σ))) jnil) 40 0 [some (jmr 9), none] [] σ0) rfl
theorem jad_Board_makeReply (F : Nat) (sh : List jxC) (hs : jHas sh jc_C) : jAdV (jca_Board_makeReply F) yX0_makeReply cX0_makeReply 2 1 5 112 0 sh := by
  intro as σ k x σ' h
  unfold jca_Board_makeReply at h
  split at h
  · rename_i t0
    obtain ⟨g0, hh1⟩ := jcond h
    obtain rfl := jbeq g0
    obtain ⟨r, h1, h2⟩ := Option.bind_eq_some_iff.mp hh1
    exact ⟨_, _, h2, ⟨_, _, _, _, _, _, rfl, rfl, (hs _ (jkf_in (l := jc_C) (idx := 9) rfl)).1, rfl⟩, jmet_Board_makeReply F  sh hs σ  r.1 r.2 h1⟩
  · cases h
def jtb_LL1_reply : List (Nat × Instr) := [(0, .aload_n 0), (1, .getfield 48), (4, .ifnonnull 7), (11, .aload_n 0), (12, .getfield 48), (15, .invokevirtual 147), (18, .ireturn)]
theorem jtk_LL1_reply : jtok cX11_reply jtb_LL1_reply = true := by decide +kernel
set_option maxRecDepth 100000 in
theorem jlk_X11_147 : jLkV RX11 147 yX0_makeReply cX0_makeReply 2 1 0 := ⟨(jTB_at 945 rfl rfl), (jTB_at 946 rfl rfl), (jTB_at 947 rfl rfl), (jTB_at 120 rfl rfl), jTB_at 948 rfl rfl, ⟨by decide, by decide, by decide +kernel⟩⟩
def jE_LL1_reply (F : Nat) : jxE := jmk [(48, 11, 2)] [] [] [(147, (1, false), jca_Board_makeReply F)] 1 jc_L1
set_option maxRecDepth 100000 in
set_option maxHeartbeats 4000000 in
theorem jmet_LL1_reply (F : Nat) (sh : List jxC) (hs : jHas sh jc_L1) (σ0 : jxS) (x : Int) (σ' : jxS) (h : LL1_reply F σ0 = some (x, σ')) : jMC yX11_reply cX11_reply 1 (jrt 1) 6 133 sh σ0 [(jmr 0)] (jrv 1 x) σ' := by
  refine jMC_of (kd := 1) (by decide) rfl h ?_
  intro X hX
  have hG : jGd X (jE_LL1_reply F) jtb_LL1_reply := jGd_of hX jtk_LL1_reply (jcon jfl_X11_48 jnil) jnil jnil (jcon (jsV jlk_X11_147 ⟨rfl, rfl⟩ (jad_Board_makeReply F sh (jh_L1C hs))) jnil) hs
  exact jRf_by (jex_ok hG (cs := []) jnil 12 0 [some (jmr 0)] [] σ0) rfl
theorem jad_LL1_reply (F : Nat) (sh : List jxC) (hs : jHas sh jc_L1) : jAdV (jca_LL1_reply F) yX11_reply cX11_reply 1 1 6 133 0 sh := by
  intro as σ k x σ' h
  unfold jca_LL1_reply at h
  split at h
  · rename_i t0
    obtain ⟨g0, hh1⟩ := jcond h
    obtain rfl := jbeq g0
    obtain ⟨r, h1, h2⟩ := Option.bind_eq_some_iff.mp hh1
    exact ⟨_, _, h2, ⟨_, _, _, _, _, _, rfl, rfl, (hs _ (jkf_in (l := jc_L1) (idx := 0) rfl)).1, rfl⟩, jmet_LL1_reply F  sh hs σ  r.1 r.2 h1⟩
  · cases h
def jtb_LL1_clear : List (Nat × Instr) := [(0, .aload_n 0), (1, .getfield 48), (4, .ifnull 16), (7, .aload_n 0), (8, .getfield 48), (11, .getfield 108), (14, .invokevirtual 112), (17, .ifCond .ne 5), (20, .iconst (-1)), (21, .ireturn), (22, .aload_n 0), (23, .getfield 48), (26, .getfield 104), (29, .aload_n 0), (30, .getfield 48), (33, .getfield 108), (36, .invokevirtual 112), (39, .invokevirtual 125), (42, .istore_n 1), (43, .aload_n 0), (44, .getfield 48), (47, .getfield 108), (50, .iconst 0), (51, .invokevirtual 122), (54, .iload_n 1), (55, .ireturn)]
theorem jtk_LL1_clear : jtok cX11_clear jtb_LL1_clear = true := by decide +kernel
def jE_LL1_clear (F : Nat) : jxE := jmk [(48, 11, 2), (104, 0, 2), (108, 0, 3)] [] [] [(112, (1, false), jca_Hand_position F), (122, (2, false), jca_Hand_become F), (125, (2, false), jca_Positions_beansOf F)] 1 jc_L1
set_option maxRecDepth 100000 in
set_option maxHeartbeats 4000000 in
theorem jmet_LL1_clear (F : Nat) (sh : List jxC) (hs : jHas sh jc_L1) (σ0 : jxS) (x : Int) (σ' : jxS) (h : LL1_clear F σ0 = some (x, σ')) : jMC yX11_clear cX11_clear 2 (jrt 1) 2 61 sh σ0 [(jmr 0)] (jrv 1 x) σ' := by
  refine jMC_of (kd := 1) (by decide) rfl h ?_
  intro X hX
  have hG : jGd X (jE_LL1_clear F) jtb_LL1_clear := jGd_of hX jtk_LL1_clear (jcon jfl_X11_48 (jcon jfl_X11_104 (jcon jfl_X11_108 jnil))) jnil jnil (jcon (jsV jlk_X11_112 ⟨rfl, rfl⟩ (jad_Hand_position F sh (jh_L1C hs))) (jcon (jsV jlk_X11_122 ⟨rfl, rfl⟩ (jad_Hand_become F sh (jh_L1C hs))) (jcon (jsV jlk_X11_125 ⟨rfl, rfl⟩ (jad_Positions_beansOf F sh (jh_L1P hs))) jnil))) hs
  exact jRf_by (jex_ok hG (cs := []) jnil 29 0 [some (jmr 0), none] [] σ0) rfl
theorem jad_LL1_clear (F : Nat) (sh : List jxC) (hs : jHas sh jc_L1) : jAdV (jca_LL1_clear F) yX11_clear cX11_clear 2 1 2 61 0 sh := by
  intro as σ k x σ' h
  unfold jca_LL1_clear at h
  split at h
  · rename_i t0
    obtain ⟨g0, hh1⟩ := jcond h
    obtain rfl := jbeq g0
    obtain ⟨r, h1, h2⟩ := Option.bind_eq_some_iff.mp hh1
    exact ⟨_, _, h2, ⟨_, _, _, _, _, _, rfl, rfl, (hs _ (jkf_in (l := jc_L1) (idx := 0) rfl)).1, rfl⟩, jmet_LL1_clear F  sh hs σ  r.1 r.2 h1⟩
  · cases h
def jtb_Hand_takeBack : List (Nat × Instr) := [(0, .aload_n 0), (1, .getfield 25), (4, .ifCond .ne 5), (7, .iconst (-1)), (8, .ireturn), (9, .aload_n 0), (10, .aload_n 0), (11, .getfield 22), (14, .bipush 30), (16, .iadd), (17, .iconst 1), (18, .isub), (19, .bipush 30), (21, .irem), (22, .putfield 22), (25, .aload_n 0), (26, .dup), (27, .getfield 25), (30, .iconst 1), (31, .isub), (32, .putfield 25), (35, .aload_n 0), (36, .aload_n 0), (37, .getfield 11), (40, .aload_n 0), (41, .getfield 22), (44, .iaload), (45, .putfield 18), (48, .aload_n 0), (49, .getfield 25), (52, .ireturn)]
theorem jtk_Hand_takeBack : jtok cX2_takeBack jtb_Hand_takeBack = true := by decide +kernel
def jE_Hand_takeBack (F : Nat) : jxE := jmk [(11, 2, 0), (18, 2, 2), (22, 2, 3), (25, 2, 4)] [] [] [] 1 jc_C
set_option maxRecDepth 100000 in
set_option maxHeartbeats 4000000 in
theorem jmet_Hand_takeBack (F : Nat) (sh : List jxC) (hs : jHas sh jc_C) (σ0 : jxS) (x : Int) (σ' : jxS) (h : Hand_takeBack F σ0 = some (x, σ')) : jMC yX2_takeBack cX2_takeBack 1 (jrt 1) 0 0 sh σ0 [(jmr 29)] (jrv 1 x) σ' := by
  refine jMC_of (kd := 1) (by decide) rfl h ?_
  intro X hX
  have hG : jGd X (jE_Hand_takeBack F) jtb_Hand_takeBack := jGd_of hX jtk_Hand_takeBack (jcon jfl_X2_11 (jcon jfl_X2_18 (jcon jfl_X2_22 (jcon jfl_X2_25 jnil)))) jnil jnil jnil hs
  exact jRf_by (jex_ok hG (cs := []) jnil 34 0 [some (jmr 29)] [] σ0) rfl
theorem jad_Hand_takeBack (F : Nat) (sh : List jxC) (hs : jHas sh jc_C) : jAdV (jca_Hand_takeBack F) yX2_takeBack cX2_takeBack 1 1 0 0 0 sh := by
  intro as σ k x σ' h
  unfold jca_Hand_takeBack at h
  split at h
  · rename_i t0
    obtain ⟨g0, hh1⟩ := jcond h
    obtain rfl := jbeq g0
    obtain ⟨r, h1, h2⟩ := Option.bind_eq_some_iff.mp hh1
    exact ⟨_, _, h2, ⟨_, _, _, _, _, _, rfl, rfl, (hs _ (jkf_in (l := jc_C) (idx := 29) rfl)).1, rfl⟩, jmet_Hand_takeBack F  sh hs σ  r.1 r.2 h1⟩
  · cases h
def jtb_LL1_undo : List (Nat × Instr) := [(0, .aload_n 0), (1, .getfield 48), (4, .ifnonnull 7), (11, .aload_n 0), (12, .getfield 48), (15, .getfield 108), (18, .invokevirtual 150), (21, .ireturn)]
theorem jtk_LL1_undo : jtok cX11_undo jtb_LL1_undo = true := by decide +kernel
set_option maxRecDepth 100000 in
theorem jlk_X11_150 : jLkV RX11 150 yX2_takeBack cX2_takeBack 1 1 0 := ⟨(jTB_at 973 rfl rfl), (jTB_at 974 rfl rfl), (jTB_at 975 rfl rfl), (jTB_at 124 rfl rfl), jTB_at 976 rfl rfl, ⟨by decide, by decide, by decide +kernel⟩⟩
def jE_LL1_undo (F : Nat) : jxE := jmk [(48, 11, 2), (108, 0, 3)] [] [] [(150, (1, false), jca_Hand_takeBack F)] 1 jc_L1
set_option maxRecDepth 100000 in
set_option maxHeartbeats 4000000 in
theorem jmet_LL1_undo (F : Nat) (sh : List jxC) (hs : jHas sh jc_L1) (σ0 : jxS) (x : Int) (σ' : jxS) (h : LL1_undo F σ0 = some (x, σ')) : jMC yX11_undo cX11_undo 1 (jrt 1) 1 20 sh σ0 [(jmr 0)] (jrv 1 x) σ' := by
  refine jMC_of (kd := 1) (by decide) rfl h ?_
  intro X hX
  have hG : jGd X (jE_LL1_undo F) jtb_LL1_undo := jGd_of hX jtk_LL1_undo (jcon jfl_X11_48 (jcon jfl_X11_108 jnil)) jnil jnil (jcon (jsV jlk_X11_150 ⟨rfl, rfl⟩ (jad_Hand_takeBack F sh (jh_L1C hs))) jnil) hs
  exact jRf_by (jex_ok hG (cs := []) jnil 13 0 [some (jmr 0)] [] σ0) rfl
theorem jad_LL1_undo (F : Nat) (sh : List jxC) (hs : jHas sh jc_L1) : jAdV (jca_LL1_undo F) yX11_undo cX11_undo 1 1 1 20 0 sh := by
  intro as σ k x σ' h
  unfold jca_LL1_undo at h
  split at h
  · rename_i t0
    obtain ⟨g0, hh1⟩ := jcond h
    obtain rfl := jbeq g0
    obtain ⟨r, h1, h2⟩ := Option.bind_eq_some_iff.mp hh1
    exact ⟨_, _, h2, ⟨_, _, _, _, _, _, rfl, rfl, (hs _ (jkf_in (l := jc_L1) (idx := 0) rfl)).1, rfl⟩, jmet_LL1_undo F  sh hs σ  r.1 r.2 h1⟩
  · cases h
def jtb_LL1_hand : List (Nat × Instr) := [(0, .iload_n 1), (1, .invokestatic 92), (4, .ifCond .ne 5), (7, .iconst (-1)), (8, .ireturn), (9, .aload_n 0), (10, .getfield 48), (13, .ifnonnull 7), (20, .aload_n 0), (21, .getfield 48), (24, .getfield 104), (27, .aload_n 0), (28, .getfield 48), (31, .getfield 108), (34, .invokevirtual 112), (37, .iload_n 1), (38, .invokevirtual 153), (41, .ireturn)]
theorem jtk_LL1_hand : jtok cX11_hand jtb_LL1_hand = true := by decide +kernel
def jE_LL1_hand (F : Nat) : jxE := jmk [(48, 11, 2), (104, 0, 2), (108, 0, 3)] [] [] [(92, (1, true), jca_LL_isHeapOrAll F), (112, (1, false), jca_Hand_position F), (153, (3, false), jca_Positions_tally F)] 1 jc_L1
set_option maxRecDepth 100000 in
set_option maxHeartbeats 4000000 in
theorem jmet_LL1_hand (F : Nat) (sh : List jxC) (hs : jHas sh jc_L1) (σ0 : jxS) (v1 : Int) (x : Int) (σ' : jxS) (h : LL1_hand F σ0 v1 = some (x, σ')) : jMC yX11_hand cX11_hand 2 (jrt 1) 5 111 sh σ0 [(jmr 0), (jmi v1)] (jrv 1 x) σ' := by
  refine jMC_of (kd := 1) (by decide) rfl h ?_
  intro X hX
  have hG : jGd X (jE_LL1_hand F) jtb_LL1_hand := jGd_of hX jtk_LL1_hand (jcon jfl_X11_48 (jcon jfl_X11_104 (jcon jfl_X11_108 jnil))) jnil jnil (jcon (jsS jlk_X11_92 ⟨rfl, rfl⟩ (jad_LL_isHeapOrAll F sh jh_E)) (jcon (jsV jlk_X11_112 ⟨rfl, rfl⟩ (jad_Hand_position F sh (jh_L1C hs))) (jcon (jsV jlk_X11_153 ⟨rfl, rfl⟩ (jad_Positions_tally F sh (jh_L1P hs))) jnil))) hs
  exact jRf_by (jex_ok hG (cs := []) jnil 23 0 [some (jmr 0), some (jmi v1)] [] σ0) rfl
theorem jad_LL1_hand (F : Nat) (sh : List jxC) (hs : jHas sh jc_L1) : jAdV (jca_LL1_hand F) yX11_hand cX11_hand 2 1 5 111 1 sh := by
  intro as σ k x σ' h
  unfold jca_LL1_hand at h
  split at h
  · rename_i t0 v1
    obtain ⟨g0, hh1⟩ := jcond h
    obtain rfl := jbeq g0
    obtain ⟨r, h1, h2⟩ := Option.bind_eq_some_iff.mp hh1
    exact ⟨_, _, h2, ⟨_, _, _, _, _, _, rfl, rfl, (hs _ (jkf_in (l := jc_L1) (idx := 0) rfl)).1, rfl⟩, jmet_LL1_hand F  sh hs σ v1 r.1 r.2 h1⟩
  · cases h
def jtb_Values_remoteOf : List (Nat × Instr) := [(0, .aload_n 0), (1, .iload_n 1), (2, .invokevirtual 73), (5, .iload_n 1), (6, .invokestatic 76), (9, .ifCond .eq 14), (12, .aload_n 0), (13, .getfield 11), (16, .iload_n 1), (17, .iaload), (18, .iconst 2), (19, .idiv), (20, .goto 4), (23, .iconst 0), (24, .ireturn)]
theorem jtk_Values_remoteOf : jtok cX10_remoteOf jtb_Values_remoteOf = true := by decide +kernel
def jE_Values_remoteOf (F : Nat) : jxE := jmk [(11, 10, 3)] [] [] [(73, (2, false), jca_Values_settleTo F), (76, (1, true), jca_Positions_isPosition F)] 1 jc_C
set_option maxRecDepth 100000 in
set_option maxHeartbeats 4000000 in
theorem jmet_Values_remoteOf (F : Nat) (sh : List jxC) (hs : jHas sh jc_C) (σ0 : jxS) (v1 : Int) (x : Int) (σ' : jxS) (h : Values_remoteOf F σ0 v1 = some (x, σ')) : jMC yX10_remoteOf cX10_remoteOf 2 (jrt 1) 4 91 sh σ0 [(jmr 33), (jmi v1)] (jrv 1 x) σ' := by
  refine jMC_of (kd := 1) (by decide) rfl h ?_
  intro X hX
  have hG : jGd X (jE_Values_remoteOf F) jtb_Values_remoteOf := jGd_of hX jtk_Values_remoteOf (jcon jfl_X10_11 jnil) jnil jnil (jcon (jsV jlk_X10_73 ⟨rfl, rfl⟩ (jad_Values_settleTo F sh hs)) (jcon (jsS jlk_X10_76 ⟨rfl, rfl⟩ (jad_Positions_isPosition F sh (jh_CP hs))) jnil)) hs
  exact jRf_by (jex_ok hG (cs := []) jnil 18 0 [some (jmr 33), some (jmi v1)] [] σ0) rfl
theorem jad_Values_remoteOf (F : Nat) (sh : List jxC) (hs : jHas sh jc_C) : jAdV (jca_Values_remoteOf F) yX10_remoteOf cX10_remoteOf 2 1 4 91 1 sh := by
  intro as σ k x σ' h
  unfold jca_Values_remoteOf at h
  split at h
  · rename_i t0 v1
    obtain ⟨g0, hh1⟩ := jcond h
    obtain rfl := jbeq g0
    obtain ⟨r, h1, h2⟩ := Option.bind_eq_some_iff.mp hh1
    exact ⟨_, _, h2, ⟨_, _, _, _, _, _, rfl, rfl, (hs _ (jkf_in (l := jc_C) (idx := 33) rfl)).1, rfl⟩, jmet_Values_remoteOf F  sh hs σ v1 r.1 r.2 h1⟩
  · cases h
def jtb_Values_countWinning : List (Nat × Instr) := [(0, .aload_n 0), (1, .iload_n 1), (2, .invokevirtual 73), (5, .aload_n 0), (6, .getfield 40), (9, .iload_n 1), (10, .invokevirtual 59), (13, .iconst 0), (14, .istore_n 2), (15, .iconst 0), (16, .istore_n 3), (17, .iload_n 3), (18, .aload_n 0), (19, .getfield 40), (22, .invokevirtual 133), (25, .if_icmp .ge 47), (28, .aload_n 0), (29, .aload_n 0), (30, .getfield 40), (33, .iload_n 3), (34, .invokevirtual 136), (37, .invokevirtual 84), (40, .ifCond .eq 26), (43, .iload_n 2), (44, .aload_n 0), (45, .getfield 27), (48, .iload_n 1), (49, .aload_n 0), (50, .getfield 40), (53, .iload_n 3), (54, .invokevirtual 139), (57, .sipush 1000), (60, .idiv), (61, .invokevirtual 142), (64, .iadd), (65, .istore_n 2), (66, .iinc 3 1), (69, .goto (-52)), (72, .iload_n 2), (73, .ireturn)]
theorem jtk_Values_countWinning : jtok cX10_countWinning jtb_Values_countWinning = true := by decide +kernel
set_option maxRecDepth 100000 in
theorem jlk_X10_133 : jLkV RX10 133 yX3_size cX3_size 1 1 0 := ⟨(jTB_at 997 rfl rfl), (jTB_at 952 rfl rfl), (jTB_at 953 rfl rfl), (jTB_at 126 rfl rfl), jTB_at 954 rfl rfl, ⟨by decide, by decide, by decide +kernel⟩⟩
set_option maxRecDepth 100000 in
theorem jlk_X10_136 : jLkV RX10 136 yX3_target cX3_target 2 1 1 := ⟨(jTB_at 998 rfl rfl), (jTB_at 956 rfl rfl), (jTB_at 957 rfl rfl), (jTB_at 126 rfl rfl), jTB_at 958 rfl rfl, ⟨by decide, by decide, by decide +kernel⟩⟩
set_option maxRecDepth 100000 in
theorem jlk_X10_139 : jLkV RX10 139 yX3_code cX3_code 2 1 1 := ⟨(jTB_at 999 rfl rfl), (jTB_at 962 rfl rfl), (jTB_at 963 rfl rfl), (jTB_at 126 rfl rfl), jTB_at 964 rfl rfl, ⟨by decide, by decide, by decide +kernel⟩⟩
set_option maxRecDepth 100000 in
theorem jlk_X10_142 : jLkV RX10 142 yX5_countOf cX5_countOf 6 1 2 := ⟨(jTB_at 1000 rfl rfl), (jTB_at 878 rfl rfl), (jTB_at 879 rfl rfl), (jTB_at 123 rfl rfl), jTB_at 880 rfl rfl, ⟨by decide, by decide, by decide +kernel⟩⟩
def jE_Values_countWinning (F : Nat) : jxE := jmk [(27, 10, 0), (40, 10, 2)] [] [] [(59, (2, false), jca_Options_list F), (73, (2, false), jca_Values_settleTo F), (84, (2, false), jca_Values_loses F), (133, (1, false), jca_Options_size F), (136, (2, false), jca_Options_target F), (139, (2, false), jca_Options_code F), (142, (3, false), jca_Positions_countOf F)] 1 jc_C
set_option maxRecDepth 100000 in
set_option maxHeartbeats 4000000 in
theorem jmet_Values_countWinning (F : Nat) (sh : List jxC) (hs : jHas sh jc_C) (σ0 : jxS) (v1 : Int) (x : Int) (σ' : jxS) (h : Values_countWinning F σ0 v1 = some (x, σ')) : jMC yX10_countWinning cX10_countWinning 4 (jrt 1) 5 112 sh σ0 [(jmr 33), (jmi v1)] (jrv 1 x) σ' := by
  refine jMC_of (kd := 1) (by decide) rfl h ?_
  intro X hX
  have hG : jGd X (jE_Values_countWinning F) jtb_Values_countWinning := jGd_of hX jtk_Values_countWinning (jcon jfl_X10_27 (jcon jfl_X10_40 jnil)) jnil jnil (jcon (jsV jlk_X10_59 ⟨rfl, rfl⟩ (jad_Options_list F sh hs)) (jcon (jsV jlk_X10_73 ⟨rfl, rfl⟩ (jad_Values_settleTo F sh hs)) (jcon (jsV jlk_X10_84 ⟨rfl, rfl⟩ (jad_Values_loses F sh hs)) (jcon (jsV jlk_X10_133 ⟨rfl, rfl⟩ (jad_Options_size F sh hs)) (jcon (jsV jlk_X10_136 ⟨rfl, rfl⟩ (jad_Options_target F sh hs)) (jcon (jsV jlk_X10_139 ⟨rfl, rfl⟩ (jad_Options_code F sh hs)) (jcon (jsV jlk_X10_142 ⟨rfl, rfl⟩ (jad_Positions_countOf F sh (jh_CP hs))) jnil))))))) hs
  have rr17 : ∀ (fu : Nat) (v1 v2 v3 : Int) (σ : jxS), jRf X (Values_countWinning_c17 F fu v1 v2 v3 σ) 17 [some (jmr 33), some (jmi v1), some (jmi v2), some (jmi v3)] [] σ := by
    intro  fu
    induction fu with
    | zero => intros; exact jRf_none
    | succ fu ih =>
      intro v1 v2 v3 σ
      exact jRf_by (jex_ok hG (cs := [(17, [some (.inr (some 33)), some (.inl 0), some (.inl 0), some (.inl 0)], [], fun xs σ => match xs with
      | [v1, v2, v3] => (Values_countWinning_c17 F fu) v1 v2 v3 σ
      | _ => none)]) (jcon (jl3 (fun y0 y1 y2 => jl0 (fun σ => ih y0 y1 y2 σ))) jnil) 43 17 [some (jmr 33), some (jmi v1), some (jmi v2), some (jmi v3)] [] σ) rfl
  exact jRf_by (jex_ok hG (cs := [(17, [some (.inr (some 33)), some (.inl 0), some (.inl 0), some (.inl 0)], [], fun xs σ => match xs with
      | [v1, v2, v3] => Values_countWinning_c17 F F v1 v2 v3 σ
      | _ => none)]) (jcon (jl3 (fun y0 y1 y2 => jl0 (fun σ => rr17 F y0 y1 y2 σ))) jnil) 43 0 [some (jmr 33), some (jmi v1), none, none] [] σ0) rfl
theorem jad_Values_countWinning (F : Nat) (sh : List jxC) (hs : jHas sh jc_C) : jAdV (jca_Values_countWinning F) yX10_countWinning cX10_countWinning 4 1 5 112 1 sh := by
  intro as σ k x σ' h
  unfold jca_Values_countWinning at h
  split at h
  · rename_i t0 v1
    obtain ⟨g0, hh1⟩ := jcond h
    obtain rfl := jbeq g0
    obtain ⟨r, h1, h2⟩ := Option.bind_eq_some_iff.mp hh1
    exact ⟨_, _, h2, ⟨_, _, _, _, _, _, rfl, rfl, (hs _ (jkf_in (l := jc_C) (idx := 33) rfl)).1, rfl⟩, jmet_Values_countWinning F  sh hs σ v1 r.1 r.2 h1⟩
  · cases h
def jtb_Rules_mostOf : List (Nat × Instr) := [(0, .iload_n 1), (1, .invokestatic 87), (4, .ifCond .eq 12), (7, .aload_n 0), (8, .getfield 35), (11, .iload_n 1), (12, .iaload), (13, .goto 4), (16, .iconst 0), (17, .ireturn)]
theorem jtk_Rules_mostOf : jtok cX8_mostOf jtb_Rules_mostOf = true := by decide +kernel
def jE_Rules_mostOf (F : Nat) : jxE := jmk [(35, 8, 7)] [] [] [(87, (1, true), jca_LL_isHeap F)] 1 jc_C
set_option maxRecDepth 100000 in
set_option maxHeartbeats 4000000 in
theorem jmet_Rules_mostOf (F : Nat) (sh : List jxC) (hs : jHas sh jc_C) (σ0 : jxS) (v1 : Int) (x : Int) (σ' : jxS) (h : Rules_mostOf F σ0 v1 = some (x, σ')) : jMC yX8_mostOf cX8_mostOf 2 (jrt 1) 1 20 sh σ0 [(jmr 10), (jmi v1)] (jrv 1 x) σ' := by
  refine jMC_of (kd := 1) (by decide) rfl h ?_
  intro X hX
  have hG : jGd X (jE_Rules_mostOf F) jtb_Rules_mostOf := jGd_of hX jtk_Rules_mostOf (jcon jfl_X8_35 jnil) jnil jnil (jcon (jsS jlk_X8_87 ⟨rfl, rfl⟩ (jad_LL_isHeap F sh jh_E)) jnil) hs
  exact jRf_by (jex_ok hG (cs := []) jnil 13 0 [some (jmr 10), some (jmi v1)] [] σ0) rfl
theorem jad_Rules_mostOf (F : Nat) (sh : List jxC) (hs : jHas sh jc_C) : jAdV (jca_Rules_mostOf F) yX8_mostOf cX8_mostOf 2 1 1 20 1 sh := by
  intro as σ k x σ' h
  unfold jca_Rules_mostOf at h
  split at h
  · rename_i t0 v1
    obtain ⟨g0, hh1⟩ := jcond h
    obtain rfl := jbeq g0
    obtain ⟨r, h1, h2⟩ := Option.bind_eq_some_iff.mp hh1
    exact ⟨_, _, h2, ⟨_, _, _, _, _, _, rfl, rfl, (hs _ (jkf_in (l := jc_C) (idx := 10) rfl)).1, rfl⟩, jmet_Rules_mostOf F  sh hs σ v1 r.1 r.2 h1⟩
  · cases h
def jtb_Rules_leastOf : List (Nat × Instr) := [(0, .iload_n 1), (1, .invokestatic 87), (4, .ifCond .eq 12), (7, .aload_n 0), (8, .getfield 32), (11, .iload_n 1), (12, .iaload), (13, .goto 4), (16, .iconst 0), (17, .ireturn)]
theorem jtk_Rules_leastOf : jtok cX8_leastOf jtb_Rules_leastOf = true := by decide +kernel
def jE_Rules_leastOf (F : Nat) : jxE := jmk [(32, 8, 6)] [] [] [(87, (1, true), jca_LL_isHeap F)] 1 jc_C
set_option maxRecDepth 100000 in
set_option maxHeartbeats 4000000 in
theorem jmet_Rules_leastOf (F : Nat) (sh : List jxC) (hs : jHas sh jc_C) (σ0 : jxS) (v1 : Int) (x : Int) (σ' : jxS) (h : Rules_leastOf F σ0 v1 = some (x, σ')) : jMC yX8_leastOf cX8_leastOf 2 (jrt 1) 1 20 sh σ0 [(jmr 10), (jmi v1)] (jrv 1 x) σ' := by
  refine jMC_of (kd := 1) (by decide) rfl h ?_
  intro X hX
  have hG : jGd X (jE_Rules_leastOf F) jtb_Rules_leastOf := jGd_of hX jtk_Rules_leastOf (jcon jfl_X8_32 jnil) jnil jnil (jcon (jsS jlk_X8_87 ⟨rfl, rfl⟩ (jad_LL_isHeap F sh jh_E)) jnil) hs
  exact jRf_by (jex_ok hG (cs := []) jnil 13 0 [some (jmr 10), some (jmi v1)] [] σ0) rfl
theorem jad_Rules_leastOf (F : Nat) (sh : List jxC) (hs : jHas sh jc_C) : jAdV (jca_Rules_leastOf F) yX8_leastOf cX8_leastOf 2 1 1 20 1 sh := by
  intro as σ k x σ' h
  unfold jca_Rules_leastOf at h
  split at h
  · rename_i t0 v1
    obtain ⟨g0, hh1⟩ := jcond h
    obtain rfl := jbeq g0
    obtain ⟨r, h1, h2⟩ := Option.bind_eq_some_iff.mp hh1
    exact ⟨_, _, h2, ⟨_, _, _, _, _, _, rfl, rfl, (hs _ (jkf_in (l := jc_C) (idx := 10) rfl)).1, rfl⟩, jmet_Rules_leastOf F  sh hs σ v1 r.1 r.2 h1⟩
  · cases h
def jtb_Values_lengthOf : List (Nat × Instr) := [(0, .iconst 0), (1, .istore_n 3), (2, .iload_n 1), (3, .istore 4), (5, .iconst 0), (6, .istore 5), (8, .iload 5), (10, .bipush 22), (12, .if_icmp .ge 75), (15, .iload 4), (17, .ifCond .le 70), (20, .aload_n 0), (21, .getfield 27), (24, .iload 4), (26, .invokevirtual 112), (29, .istore 6), (31, .aload_n 0), (32, .getfield 27), (35, .iload 6), (37, .invokevirtual 115), (40, .istore 7), (42, .iload_n 3), (43, .iload_n 2), (44, .ifCond .eq 15), (47, .aload_n 0), (48, .getfield 31), (51, .iload 7), (53, .invokevirtual 127), (56, .goto 12), (59, .aload_n 0), (60, .getfield 31), (63, .iload 7), (65, .invokevirtual 130), (68, .iadd), (69, .istore_n 3), (70, .aload_n 0), (71, .getfield 27), (74, .iload 6), (76, .invokevirtual 121), (79, .istore 4), (81, .iinc 5 1), (84, .goto (-76)), (87, .iload_n 3), (88, .ireturn)]
theorem jtk_Values_lengthOf : jtok cX10_lengthOf jtb_Values_lengthOf = true := by decide +kernel
set_option maxRecDepth 100000 in
theorem jlk_X10_127 : jLkV RX10 127 yX8_leastOf cX8_leastOf 2 1 1 := ⟨(jTB_at 1006 rfl rfl), (jTB_at 1007 rfl rfl), (jTB_at 1008 rfl rfl), (jTB_at 121 rfl rfl), jTB_at 1009 rfl rfl, ⟨by decide, by decide, by decide +kernel⟩⟩
set_option maxRecDepth 100000 in
theorem jlk_X10_130 : jLkV RX10 130 yX8_mostOf cX8_mostOf 2 1 1 := ⟨(jTB_at 1010 rfl rfl), (jTB_at 1011 rfl rfl), (jTB_at 1012 rfl rfl), (jTB_at 121 rfl rfl), jTB_at 1013 rfl rfl, ⟨by decide, by decide, by decide +kernel⟩⟩
def jE_Values_lengthOf (F : Nat) : jxE := jmk [(27, 10, 0), (31, 10, 1)] [] [] [(112, (2, false), jca_Positions_firstPart F), (115, (2, false), jca_Positions_heapOf F), (121, (2, false), jca_Positions_restOf F), (127, (2, false), jca_Rules_leastOf F), (130, (2, false), jca_Rules_mostOf F)] 1 jc_C
set_option maxRecDepth 100000 in
set_option maxHeartbeats 4000000 in
theorem jmet_Values_lengthOf (F : Nat) (sh : List jxC) (hs : jHas sh jc_C) (σ0 : jxS) (v1 : Int) (v2 : Int) (x : Int) (σ' : jxS) (h : Values_lengthOf F σ0 v1 v2 = some (x, σ')) : jMC yX10_lengthOf cX10_lengthOf 8 (jrt 1) 2 41 sh σ0 [(jmr 33), (jmi v1), (jmi v2)] (jrv 1 x) σ' := by
  refine jMC_of (kd := 1) (by decide) rfl h ?_
  intro X hX
  have hG : jGd X (jE_Values_lengthOf F) jtb_Values_lengthOf := jGd_of hX jtk_Values_lengthOf (jcon jfl_X10_27 (jcon jfl_X10_31 jnil)) jnil jnil (jcon (jsV jlk_X10_112 ⟨rfl, rfl⟩ (jad_Positions_firstPart F sh (jh_CP hs))) (jcon (jsV jlk_X10_115 ⟨rfl, rfl⟩ (jad_Positions_heapOf F sh (jh_CP hs))) (jcon (jsV jlk_X10_121 ⟨rfl, rfl⟩ (jad_Positions_restOf F sh (jh_CP hs))) (jcon (jsV jlk_X10_127 ⟨rfl, rfl⟩ (jad_Rules_leastOf F sh hs)) (jcon (jsV jlk_X10_130 ⟨rfl, rfl⟩ (jad_Rules_mostOf F sh hs)) jnil))))) hs
  have rr68 : ∀ (k8 : Int → Int → Int → Int → jxS → Option jxR) (h8 : ∀ v2 v3 v4 v5 σ, jRf X (k8 v2 v3 v4 v5 σ) 8 [some (jmr 33), none, some (jmi v2), some (jmi v3), some (jmi v4), some (jmi v5), none, none] [] σ) (v2 v5 v6 t0 t1 : Int) (σ : jxS), jRf X (Values_lengthOf_c68 F k8 v2 v5 v6 t0 t1 σ) 68 [some (jmr 33), none, some (jmi v2), none, none, some (jmi v5), some (jmi v6), none] [(jmi t0), (jmi t1)] σ := by
    intro k8 h8 v2 v5 v6 t0 t1 σ
    exact jRf_by (jex_ok hG (cs := [(8, [some (.inr (some 33)), none, some (.inl 0), some (.inl 0), some (.inl 0), some (.inl 0), none, none], [], fun xs σ => match xs with
      | [v2, v3, v4, v5] => k8 v2 v3 v4 v5 σ
      | _ => none)]) (jcon (jl4 (fun y0 y1 y2 y3 => jl0 (fun σ => h8 y0 y1 y2 y3 σ))) jnil) 47 68 [some (jmr 33), none, some (jmi v2), none, none, some (jmi v5), some (jmi v6), none] [(jmi t0), (jmi t1)] σ) rfl
  have rr8 : ∀ (fu : Nat) (v2 v3 v4 v5 : Int) (σ : jxS), jRf X (Values_lengthOf_c8 F fu v2 v3 v4 v5 σ) 8 [some (jmr 33), none, some (jmi v2), some (jmi v3), some (jmi v4), some (jmi v5), none, none] [] σ := by
    intro  fu
    induction fu with
    | zero => intros; exact jRf_none
    | succ fu ih =>
      intro v2 v3 v4 v5 σ
      exact jRf_by (jex_ok hG (cs := [(68, [some (.inr (some 33)), none, some (.inl 0), none, none, some (.inl 0), some (.inl 0), none], [(.inl 0), (.inl 0)], fun xs σ => match xs with
      | [v2, v5, v6, t0, t1] => Values_lengthOf_c68 F (Values_lengthOf_c8 F fu) v2 v5 v6 t0 t1 σ
      | _ => none)]) (jcon (jl3 (fun y0 y1 y2 => jl2 (fun y3 y4 => (fun σ => rr68 _ ih y0 y1 y2 y3 y4 σ)))) jnil) 47 8 [some (jmr 33), none, some (jmi v2), some (jmi v3), some (jmi v4), some (jmi v5), none, none] [] σ) rfl
  exact jRf_by (jex_ok hG (cs := [(8, [some (.inr (some 33)), none, some (.inl 0), some (.inl 0), some (.inl 0), some (.inl 0), none, none], [], fun xs σ => match xs with
      | [v2, v3, v4, v5] => Values_lengthOf_c8 F F v2 v3 v4 v5 σ
      | _ => none)]) (jcon (jl4 (fun y0 y1 y2 y3 => jl0 (fun σ => rr8 F y0 y1 y2 y3 σ))) jnil) 47 0 [some (jmr 33), some (jmi v1), some (jmi v2), none, none, none, none, none] [] σ0) rfl
theorem jad_Values_lengthOf (F : Nat) (sh : List jxC) (hs : jHas sh jc_C) : jAdV (jca_Values_lengthOf F) yX10_lengthOf cX10_lengthOf 8 1 2 41 2 sh := by
  intro as σ k x σ' h
  unfold jca_Values_lengthOf at h
  split at h
  · rename_i t0 v1 v2
    obtain ⟨g0, hh1⟩ := jcond h
    obtain rfl := jbeq g0
    obtain ⟨r, h1, h2⟩ := Option.bind_eq_some_iff.mp hh1
    exact ⟨_, _, h2, ⟨_, _, _, _, _, _, rfl, rfl, (hs _ (jkf_in (l := jc_C) (idx := 33) rfl)).1, rfl⟩, jmet_Values_lengthOf F  sh hs σ v1 v2 r.1 r.2 h1⟩
  · cases h
def jtb_Values_stateOf : List (Nat × Instr) := [(0, .iload_n 2), (1, .tableswitch 132 0 8 #[51, 65, 71, 77, 84, 90, 104, 111, 118]), (52, .aload_n 0), (53, .iload_n 1), (54, .invokevirtual 84), (57, .ifCond .eq 7), (60, .iconst 0), (61, .goto 4), (64, .iconst 1), (65, .ireturn), (66, .aload_n 0), (67, .iload_n 1), (68, .invokevirtual 145), (71, .ireturn), (72, .aload_n 0), (73, .iload_n 1), (74, .invokevirtual 105), (77, .ireturn), (78, .aload_n 0), (79, .iload_n 1), (80, .iconst 0), (81, .invokevirtual 108), (84, .ireturn), (85, .aload_n 0), (86, .iload_n 1), (87, .invokevirtual 148), (90, .ireturn), (91, .aload_n 0), (92, .iload_n 1), (93, .invokevirtual 151), (96, .ifCond .eq 7), (99, .iconst 1), (100, .goto 4), (103, .iconst 0), (104, .ireturn), (105, .aload_n 0), (106, .iload_n 1), (107, .iconst 1), (108, .invokevirtual 154), (111, .ireturn), (112, .aload_n 0), (113, .iload_n 1), (114, .iconst 0), (115, .invokevirtual 154), (118, .ireturn), (119, .aload_n 0), (120, .iload_n 1), (121, .invokevirtual 158), (124, .ifCond .eq 7), (127, .iconst 1), (128, .goto 4), (131, .iconst 0), (132, .ireturn), (133, .iconst (-1)), (134, .ireturn)]
theorem jtk_Values_stateOf : jtok cX10_stateOf jtb_Values_stateOf = true := by decide +kernel
set_option maxRecDepth 100000 in
theorem jlk_X10_145 : jLkV RX10 145 yX10_remoteOf cX10_remoteOf 2 1 1 := ⟨(jTB_at 989 rfl rfl), (jTB_at 990 rfl rfl), (jTB_at 991 rfl rfl), (jTB_at 125 rfl rfl), jTB_at 992 rfl rfl, ⟨by decide, by decide, by decide +kernel⟩⟩
set_option maxRecDepth 100000 in
theorem jlk_X10_148 : jLkV RX10 148 yX10_countWinning cX10_countWinning 4 1 1 := ⟨(jTB_at 993 rfl rfl), (jTB_at 995 rfl rfl), (jTB_at 30 rfl rfl), (jTB_at 125 rfl rfl), jTB_at 996 rfl rfl, ⟨by decide, by decide, by decide +kernel⟩⟩
set_option maxRecDepth 100000 in
theorem jlk_X10_151 : jLkV RX10 151 yX10_isLikeNim cX10_isLikeNim 4 4 1 := ⟨(jTB_at 1001 rfl rfl), (jTB_at 820 rfl rfl), (jTB_at 821 rfl rfl), (jTB_at 125 rfl rfl), jTB_at 822 rfl rfl, ⟨by decide, by decide, by decide +kernel⟩⟩
set_option maxRecDepth 100000 in
theorem jlk_X10_154 : jLkV RX10 154 yX10_lengthOf cX10_lengthOf 8 1 2 := ⟨(jTB_at 1002 rfl rfl), (jTB_at 1004 rfl rfl), (jTB_at 31 rfl rfl), (jTB_at 125 rfl rfl), jTB_at 1005 rfl rfl, ⟨by decide, by decide, by decide +kernel⟩⟩
set_option maxRecDepth 100000 in
theorem jlk_X10_158 : jLkV RX10 158 yX10_isTame cX10_isTame 6 4 1 := ⟨(jTB_at 1014 rfl rfl), (jTB_at 894 rfl rfl), (jTB_at 895 rfl rfl), (jTB_at 125 rfl rfl), jTB_at 896 rfl rfl, ⟨by decide, by decide, by decide +kernel⟩⟩
def jE_Values_stateOf (F : Nat) : jxE := jmk [] [] [] [(84, (2, false), jca_Values_loses F), (105, (2, false), jca_Values_nimberOf F), (108, (3, false), jca_Values_genusOf F), (145, (2, false), jca_Values_remoteOf F), (148, (2, false), jca_Values_countWinning F), (151, (2, false), jca_Values_isLikeNim F), (154, (3, false), jca_Values_lengthOf F), (158, (2, false), jca_Values_isTame F)] 1 jc_C
set_option maxRecDepth 100000 in
set_option maxHeartbeats 4000000 in
theorem jmet_Values_stateOf (F : Nat) (sh : List jxC) (hs : jHas sh jc_C) (σ0 : jxS) (v1 : Int) (v2 : Int) (x : Int) (σ' : jxS) (h : Values_stateOf F σ0 v1 v2 = some (x, σ')) : jMC yX10_stateOf cX10_stateOf 3 (jrt 1) 6 138 sh σ0 [(jmr 33), (jmi v1), (jmi v2)] (jrv 1 x) σ' := by
  refine jMC_of (kd := 1) (by decide) rfl h ?_
  intro X hX
  have hG : jGd X (jE_Values_stateOf F) jtb_Values_stateOf := jGd_of hX jtk_Values_stateOf jnil jnil jnil (jcon (jsV jlk_X10_84 ⟨rfl, rfl⟩ (jad_Values_loses F sh hs)) (jcon (jsV jlk_X10_105 ⟨rfl, rfl⟩ (jad_Values_nimberOf F sh hs)) (jcon (jsV jlk_X10_108 ⟨rfl, rfl⟩ (jad_Values_genusOf F sh hs)) (jcon (jsV jlk_X10_145 ⟨rfl, rfl⟩ (jad_Values_remoteOf F sh hs)) (jcon (jsV jlk_X10_148 ⟨rfl, rfl⟩ (jad_Values_countWinning F sh hs)) (jcon (jsV jlk_X10_151 ⟨rfl, rfl⟩ (jad_Values_isLikeNim F sh hs)) (jcon (jsV jlk_X10_154 ⟨rfl, rfl⟩ (jad_Values_lengthOf F sh hs)) (jcon (jsV jlk_X10_158 ⟨rfl, rfl⟩ (jad_Values_isTame F sh hs)) jnil)))))))) hs
  exact jRf_by (jex_ok hG (cs := []) jnil 58 0 [some (jmr 33), some (jmi v1), some (jmi v2)] [] σ0) rfl
theorem jad_Values_stateOf (F : Nat) (sh : List jxC) (hs : jHas sh jc_C) : jAdV (jca_Values_stateOf F) yX10_stateOf cX10_stateOf 3 1 6 138 2 sh := by
  intro as σ k x σ' h
  unfold jca_Values_stateOf at h
  split at h
  · rename_i t0 v1 v2
    obtain ⟨g0, hh1⟩ := jcond h
    obtain rfl := jbeq g0
    obtain ⟨r, h1, h2⟩ := Option.bind_eq_some_iff.mp hh1
    exact ⟨_, _, h2, ⟨_, _, _, _, _, _, rfl, rfl, (hs _ (jkf_in (l := jc_C) (idx := 33) rfl)).1, rfl⟩, jmet_Values_stateOf F  sh hs σ v1 v2 r.1 r.2 h1⟩
  · cases h
def jtb_LL1_state : List (Nat × Instr) := [(0, .aload_n 0), (1, .getfield 48), (4, .ifnonnull 7), (11, .aload_n 0), (12, .getfield 48), (15, .getfield 138), (18, .aload_n 0), (19, .getfield 48), (22, .getfield 108), (25, .invokevirtual 112), (28, .iload_n 1), (29, .invokevirtual 156), (32, .ireturn)]
theorem jtk_LL1_state : jtok cX11_state jtb_LL1_state = true := by decide +kernel
set_option maxRecDepth 100000 in
theorem jlk_X11_156 : jLkV RX11 156 yX10_stateOf cX10_stateOf 3 1 2 := ⟨(jTB_at 985 rfl rfl), (jTB_at 986 rfl rfl), (jTB_at 987 rfl rfl), (jTB_at 125 rfl rfl), jTB_at 988 rfl rfl, ⟨by decide, by decide, by decide +kernel⟩⟩
def jE_LL1_state (F : Nat) : jxE := jmk [(48, 11, 2), (108, 0, 3), (138, 0, 4)] [] [] [(112, (1, false), jca_Hand_position F), (156, (3, false), jca_Values_stateOf F)] 1 jc_L1
set_option maxRecDepth 100000 in
set_option maxHeartbeats 4000000 in
theorem jmet_LL1_state (F : Nat) (sh : List jxC) (hs : jHas sh jc_L1) (σ0 : jxS) (v1 : Int) (x : Int) (σ' : jxS) (h : LL1_state F σ0 v1 = some (x, σ')) : jMC yX11_state cX11_state 2 (jrt 1) 7 160 sh σ0 [(jmr 0), (jmi v1)] (jrv 1 x) σ' := by
  refine jMC_of (kd := 1) (by decide) rfl h ?_
  intro X hX
  have hG : jGd X (jE_LL1_state F) jtb_LL1_state := jGd_of hX jtk_LL1_state (jcon jfl_X11_48 (jcon jfl_X11_108 (jcon jfl_X11_138 jnil))) jnil jnil (jcon (jsV jlk_X11_112 ⟨rfl, rfl⟩ (jad_Hand_position F sh (jh_L1C hs))) (jcon (jsV jlk_X11_156 ⟨rfl, rfl⟩ (jad_Values_stateOf F sh (jh_L1C hs))) jnil)) hs
  exact jRf_by (jex_ok hG (cs := []) jnil 18 0 [some (jmr 0), some (jmi v1)] [] σ0) rfl
theorem jad_LL1_state (F : Nat) (sh : List jxC) (hs : jHas sh jc_L1) : jAdV (jca_LL1_state F) yX11_state cX11_state 2 1 7 160 1 sh := by
  intro as σ k x σ' h
  unfold jca_LL1_state at h
  split at h
  · rename_i t0 v1
    obtain ⟨g0, hh1⟩ := jcond h
    obtain rfl := jbeq g0
    obtain ⟨r, h1, h2⟩ := Option.bind_eq_some_iff.mp hh1
    exact ⟨_, _, h2, ⟨_, _, _, _, _, _, rfl, rfl, (hs _ (jkf_in (l := jc_L1) (idx := 0) rfl)).1, rfl⟩, jmet_LL1_state F  sh hs σ v1 r.1 r.2 h1⟩
  · cases h
def jtb_LL1_genus : List (Nat × Instr) := [(0, .aload_n 0), (1, .getfield 48), (4, .ifnull 12), (7, .iload_n 1), (8, .ifCond .lt 8), (11, .iload_n 1), (12, .iconst 2), (13, .if_icmp .le 5), (16, .iconst (-1)), (17, .ireturn), (18, .aload_n 0), (19, .getfield 48), (22, .getfield 138), (25, .aload_n 0), (26, .getfield 48), (29, .getfield 108), (32, .invokevirtual 112), (35, .iload_n 1), (36, .invokevirtual 159), (39, .ireturn)]
theorem jtk_LL1_genus : jtok cX11_genus jtb_LL1_genus = true := by decide +kernel
set_option maxRecDepth 100000 in
theorem jlk_X11_159 : jLkV RX11 159 yX10_genusOf cX10_genusOf 3 1 2 := ⟨(jTB_at 1019 rfl rfl), (jTB_at 898 rfl rfl), (jTB_at 899 rfl rfl), (jTB_at 125 rfl rfl), jTB_at 900 rfl rfl, ⟨by decide, by decide, by decide +kernel⟩⟩
def jE_LL1_genus (F : Nat) : jxE := jmk [(48, 11, 2), (108, 0, 3), (138, 0, 4)] [] [] [(112, (1, false), jca_Hand_position F), (159, (3, false), jca_Values_genusOf F)] 1 jc_L1
set_option maxRecDepth 100000 in
set_option maxHeartbeats 4000000 in
theorem jmet_LL1_genus (F : Nat) (sh : List jxC) (hs : jHas sh jc_L1) (σ0 : jxS) (v1 : Int) (x : Int) (σ' : jxS) (h : LL1_genus F σ0 v1 = some (x, σ')) : jMC yX11_genus cX11_genus 2 (jrt 1) 5 113 sh σ0 [(jmr 0), (jmi v1)] (jrv 1 x) σ' := by
  refine jMC_of (kd := 1) (by decide) rfl h ?_
  intro X hX
  have hG : jGd X (jE_LL1_genus F) jtb_LL1_genus := jGd_of hX jtk_LL1_genus (jcon jfl_X11_48 (jcon jfl_X11_108 (jcon jfl_X11_138 jnil))) jnil jnil (jcon (jsV jlk_X11_112 ⟨rfl, rfl⟩ (jad_Hand_position F sh (jh_L1C hs))) (jcon (jsV jlk_X11_159 ⟨rfl, rfl⟩ (jad_Values_genusOf F sh (jh_L1C hs))) jnil)) hs
  exact jRf_by (jex_ok hG (cs := []) jnil 23 0 [some (jmr 0), some (jmi v1)] [] σ0) rfl
theorem jad_LL1_genus (F : Nat) (sh : List jxC) (hs : jHas sh jc_L1) : jAdV (jca_LL1_genus F) yX11_genus cX11_genus 2 1 5 113 1 sh := by
  intro as σ k x σ' h
  unfold jca_LL1_genus at h
  split at h
  · rename_i t0 v1
    obtain ⟨g0, hh1⟩ := jcond h
    obtain rfl := jbeq g0
    obtain ⟨r, h1, h2⟩ := Option.bind_eq_some_iff.mp hh1
    exact ⟨_, _, h2, ⟨_, _, _, _, _, _, rfl, rfl, (hs _ (jkf_in (l := jc_L1) (idx := 0) rfl)).1, rfl⟩, jmet_LL1_genus F  sh hs σ v1 r.1 r.2 h1⟩
  · cases h
def jtb_Board_soonest : List (Nat × Instr) := [(0, .iconst (-1)), (1, .istore_n 1), (2, .bipush 23), (4, .istore_n 2), (5, .iconst 0), (6, .istore_n 3), (7, .iload_n 3), (8, .aload_n 0), (9, .getfield 57), (12, .invokevirtual 111), (15, .if_icmp .ge 56), (18, .aload_n 0), (19, .getfield 57), (22, .iload_n 3), (23, .invokevirtual 114), (26, .istore 4), (28, .aload_n 0), (29, .getfield 50), (32, .iload 4), (34, .invokevirtual 117), (37, .ifCond .eq 28), (40, .aload_n 0), (41, .getfield 50), (44, .iload 4), (46, .invokevirtual 132), (49, .iload_n 2), (50, .if_icmp .ge 15), (53, .aload_n 0), (54, .getfield 50), (57, .iload 4), (59, .invokevirtual 132), (62, .istore_n 2), (63, .iload_n 3), (64, .istore_n 1), (65, .iinc 3 1), (68, .goto (-61)), (71, .iload_n 1), (72, .ireturn)]
theorem jtk_Board_soonest : jtok cX0_soonest jtb_Board_soonest = true := by decide +kernel
set_option maxRecDepth 100000 in
theorem jlk_X0_132 : jLkV RX0 132 yX10_remoteOf cX10_remoteOf 2 1 1 := ⟨(jTB_at 1032 rfl rfl), (jTB_at 990 rfl rfl), (jTB_at 991 rfl rfl), (jTB_at 125 rfl rfl), jTB_at 992 rfl rfl, ⟨by decide, by decide, by decide +kernel⟩⟩
def jE_Board_soonest (F : Nat) : jxE := jmk [(50, 0, 4), (57, 0, 5)] [] [] [(111, (1, false), jca_Options_size F), (114, (2, false), jca_Options_target F), (117, (2, false), jca_Values_loses F), (132, (2, false), jca_Values_remoteOf F)] 1 jc_C
set_option maxRecDepth 100000 in
set_option maxHeartbeats 4000000 in
theorem jmet_Board_soonest (F : Nat) (sh : List jxC) (hs : jHas sh jc_C) (σ0 : jxS) (x : Int) (σ' : jxS) (h : Board_soonest F σ0 = some (x, σ')) : jMC yX0_soonest cX0_soonest 5 (jrt 1) 5 112 sh σ0 [(jmr 9)] (jrv 1 x) σ' := by
  refine jMC_of (kd := 1) (by decide) rfl h ?_
  intro X hX
  have hG : jGd X (jE_Board_soonest F) jtb_Board_soonest := jGd_of hX jtk_Board_soonest (jcon jfl_X0_50 (jcon jfl_X0_57 jnil)) jnil jnil (jcon (jsV jlk_X0_111 ⟨rfl, rfl⟩ (jad_Options_size F sh hs)) (jcon (jsV jlk_X0_114 ⟨rfl, rfl⟩ (jad_Options_target F sh hs)) (jcon (jsV jlk_X0_117 ⟨rfl, rfl⟩ (jad_Values_loses F sh hs)) (jcon (jsV jlk_X0_132 ⟨rfl, rfl⟩ (jad_Values_remoteOf F sh hs)) jnil)))) hs
  have rr7 : ∀ (fu : Nat) (v1 v2 v3 : Int) (σ : jxS), jRf X (Board_soonest_c7 F fu v1 v2 v3 σ) 7 [some (jmr 9), some (jmi v1), some (jmi v2), some (jmi v3), none] [] σ := by
    intro  fu
    induction fu with
    | zero => intros; exact jRf_none
    | succ fu ih =>
      intro v1 v2 v3 σ
      exact jRf_by (jex_ok hG (cs := [(7, [some (.inr (some 9)), some (.inl 0), some (.inl 0), some (.inl 0), none], [], fun xs σ => match xs with
      | [v1, v2, v3] => (Board_soonest_c7 F fu) v1 v2 v3 σ
      | _ => none)]) (jcon (jl3 (fun y0 y1 y2 => jl0 (fun σ => ih y0 y1 y2 σ))) jnil) 41 7 [some (jmr 9), some (jmi v1), some (jmi v2), some (jmi v3), none] [] σ) rfl
  exact jRf_by (jex_ok hG (cs := [(7, [some (.inr (some 9)), some (.inl 0), some (.inl 0), some (.inl 0), none], [], fun xs σ => match xs with
      | [v1, v2, v3] => Board_soonest_c7 F F v1 v2 v3 σ
      | _ => none)]) (jcon (jl3 (fun y0 y1 y2 => jl0 (fun σ => rr7 F y0 y1 y2 σ))) jnil) 41 0 [some (jmr 9), none, none, none, none] [] σ0) rfl
theorem jad_Board_soonest (F : Nat) (sh : List jxC) (hs : jHas sh jc_C) : jAdV (jca_Board_soonest F) yX0_soonest cX0_soonest 5 1 5 112 0 sh := by
  intro as σ k x σ' h
  unfold jca_Board_soonest at h
  split at h
  · rename_i t0
    obtain ⟨g0, hh1⟩ := jcond h
    obtain rfl := jbeq g0
    obtain ⟨r, h1, h2⟩ := Option.bind_eq_some_iff.mp hh1
    exact ⟨_, _, h2, ⟨_, _, _, _, _, _, rfl, rfl, (hs _ (jkf_in (l := jc_C) (idx := 9) rfl)).1, rfl⟩, jmet_Board_soonest F  sh hs σ  r.1 r.2 h1⟩
  · cases h
