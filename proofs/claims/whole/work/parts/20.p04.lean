/-! Contracts: Board_slowest Board_lineMove LL1_line Values_countLosers Values_firstLoser LL1_losers Hand_keepUnder LL1_keep Hand_keptUnder Values_hasMark Positions_joinAll Values_markOf Values_firstBetween LL1_apart Values_firstAlike LL1_simplest Board_answerAt LL1_answers LL1_draws Board_movesOf Board_afterMove Board_drawGames LL1_games Positions_biggestHeap Values_testsOf -/
def jtb_Board_slowest : List (Nat × Instr) := [(0, .iconst (-1)), (1, .istore_n 1), (2, .iconst (-1)), (3, .istore_n 2), (4, .iconst 0), (5, .istore_n 3), (6, .iload_n 3), (7, .aload_n 0), (8, .getfield 57), (11, .invokevirtual 111), (14, .if_icmp .ge 46), (17, .aload_n 0), (18, .getfield 50), (21, .aload_n 0), (22, .getfield 57), (25, .iload_n 3), (26, .invokevirtual 114), (29, .invokevirtual 132), (32, .iload_n 2), (33, .if_icmp .le 21), (36, .aload_n 0), (37, .getfield 50), (40, .aload_n 0), (41, .getfield 57), (44, .iload_n 3), (45, .invokevirtual 114), (48, .invokevirtual 132), (51, .istore_n 2), (52, .iload_n 3), (53, .istore_n 1), (54, .iinc 3 1), (57, .goto (-51)), (60, .iload_n 1), (61, .ireturn)]
theorem jtk_Board_slowest : jtok cX0_slowest jtb_Board_slowest = true := by decide +kernel
def jE_Board_slowest (F : Nat) : jxE := jmk [(50, 0, 4), (57, 0, 5)] [] [] [(111, (1, false), jca_Options_size F), (114, (2, false), jca_Options_target F), (132, (2, false), jca_Values_remoteOf F)] 1 jc_C
set_option maxRecDepth 100000 in
set_option maxHeartbeats 4000000 in
theorem jmet_Board_slowest (F : Nat) (sh : List jxC) (hs : jHas sh jc_C) (σ0 : jxS) (x : Int) (σ' : jxS) (h : Board_slowest F σ0 = some (x, σ')) : jMC yX0_slowest cX0_slowest 4 (jrt 1) 5 112 sh σ0 [(jmr 9)] (jrv 1 x) σ' := by
  refine jMC_of (kd := 1) (by decide) rfl h ?_
  intro X hX
  have hG : jGd X (jE_Board_slowest F) jtb_Board_slowest := jGd_of hX jtk_Board_slowest (jcon jfl_X0_50 (jcon jfl_X0_57 jnil)) jnil jnil (jcon (jsV jlk_X0_111 ⟨rfl, rfl⟩ (jad_Options_size F sh hs)) (jcon (jsV jlk_X0_114 ⟨rfl, rfl⟩ (jad_Options_target F sh hs)) (jcon (jsV jlk_X0_132 ⟨rfl, rfl⟩ (jad_Values_remoteOf F sh hs)) jnil))) hs
  have rr6 : ∀ (fu : Nat) (v1 v2 v3 : Int) (σ : jxS), jRf X (Board_slowest_c6 F fu v1 v2 v3 σ) 6 [some (jmr 9), some (jmi v1), some (jmi v2), some (jmi v3)] [] σ := by
    intro  fu
    induction fu with
    | zero => intros; exact jRf_none
    | succ fu ih =>
      intro v1 v2 v3 σ
      exact jRf_by (jex_ok hG (cs := [(6, [some (.inr (some 9)), some (.inl 0), some (.inl 0), some (.inl 0)], [], fun xs σ => match xs with
      | [v1, v2, v3] => (Board_slowest_c6 F fu) v1 v2 v3 σ
      | _ => none)]) (jcon (jl3 (fun y0 y1 y2 => jl0 (fun σ => ih y0 y1 y2 σ))) jnil) 37 6 [some (jmr 9), some (jmi v1), some (jmi v2), some (jmi v3)] [] σ) rfl
  exact jRf_by (jex_ok hG (cs := [(6, [some (.inr (some 9)), some (.inl 0), some (.inl 0), some (.inl 0)], [], fun xs σ => match xs with
      | [v1, v2, v3] => Board_slowest_c6 F F v1 v2 v3 σ
      | _ => none)]) (jcon (jl3 (fun y0 y1 y2 => jl0 (fun σ => rr6 F y0 y1 y2 σ))) jnil) 37 0 [some (jmr 9), none, none, none] [] σ0) rfl
theorem jad_Board_slowest (F : Nat) (sh : List jxC) (hs : jHas sh jc_C) : jAdV (jca_Board_slowest F) yX0_slowest cX0_slowest 4 1 5 112 0 sh := by
  intro as σ k x σ' h
  unfold jca_Board_slowest at h
  split at h
  · rename_i t0
    obtain ⟨g0, hh1⟩ := jcond h
    obtain rfl := jbeq g0
    obtain ⟨r, h1, h2⟩ := Option.bind_eq_some_iff.mp hh1
    exact ⟨_, _, h2, ⟨_, _, _, _, _, _, rfl, rfl, (hs _ (jkf_in (l := jc_C) (idx := 9) rfl)).1, rfl⟩, jmet_Board_slowest F  sh hs σ  r.1 r.2 h1⟩
  · cases h
def jtb_Board_lineMove : List (Nat × Instr) := [(0, .bipush (-2)), (2, .istore_n 2), (3, .aload_n 0), (4, .getfield 35), (7, .invokevirtual 103), (10, .istore_n 3), (11, .iconst 0), (12, .istore 4), (14, .iload 4), (16, .iload_n 1), (17, .if_icmp .gt 75), (20, .iload 4), (22, .bipush 22), (24, .if_icmp .gt 68), (27, .aload_n 0), (28, .getfield 57), (31, .iload_n 3), (32, .invokevirtual 107), (35, .aload_n 0), (36, .getfield 50), (39, .iload_n 3), (40, .invokevirtual 117), (43, .ifCond .eq 10), (46, .aload_n 0), (47, .invokevirtual 126), (50, .goto 7), (53, .aload_n 0), (54, .invokevirtual 129), (57, .istore 5), (59, .aload_n 0), (60, .getfield 57), (63, .iload 5), (65, .invokevirtual 123), (68, .istore_n 2), (69, .aload_n 0), (70, .getfield 57), (73, .iload 5), (75, .invokevirtual 114), (78, .istore_n 3), (79, .iload_n 3), (80, .ifCond .ge 6), (83, .bipush (-2)), (85, .ireturn), (86, .iinc 4 1), (89, .goto (-75)), (92, .iload_n 2), (93, .ireturn)]
theorem jtk_Board_lineMove : jtok cX0_lineMove jtb_Board_lineMove = true := by decide +kernel
set_option maxRecDepth 100000 in
theorem jlk_X0_126 : jLkV RX0 126 yX0_slowest cX0_slowest 4 1 0 := ⟨(jTB_at 1028 rfl rfl), (jTB_at 1030 rfl rfl), (jTB_at 32 rfl rfl), (jTB_at 120 rfl rfl), jTB_at 1031 rfl rfl, ⟨by decide, by decide, by decide +kernel⟩⟩
set_option maxRecDepth 100000 in
theorem jlk_X0_129 : jLkV RX0 129 yX0_soonest cX0_soonest 5 1 0 := ⟨(jTB_at 1033 rfl rfl), (jTB_at 1035 rfl rfl), (jTB_at 33 rfl rfl), (jTB_at 120 rfl rfl), jTB_at 1036 rfl rfl, ⟨by decide, by decide, by decide +kernel⟩⟩
def jE_Board_lineMove (F : Nat) : jxE := jmk [(35, 0, 3), (50, 0, 4), (57, 0, 5)] [] [] [(103, (1, false), jca_Hand_position F), (107, (2, false), jca_Options_list F), (114, (2, false), jca_Options_target F), (117, (2, false), jca_Values_loses F), (123, (2, false), jca_Options_code F), (126, (1, false), jca_Board_slowest F), (129, (1, false), jca_Board_soonest F)] 1 jc_C
set_option maxRecDepth 100000 in
set_option maxHeartbeats 4000000 in
theorem jmet_Board_lineMove (F : Nat) (sh : List jxC) (hs : jHas sh jc_C) (σ0 : jxS) (v1 : Int) (x : Int) (σ' : jxS) (h : Board_lineMove F σ0 v1 = some (x, σ')) : jMC yX0_lineMove cX0_lineMove 6 (jrt 1) 6 136 sh σ0 [(jmr 9), (jmi v1)] (jrv 1 x) σ' := by
  refine jMC_of (kd := 1) (by decide) rfl h ?_
  intro X hX
  have hG : jGd X (jE_Board_lineMove F) jtb_Board_lineMove := jGd_of hX jtk_Board_lineMove (jcon jfl_X0_35 (jcon jfl_X0_50 (jcon jfl_X0_57 jnil))) jnil jnil (jcon (jsV jlk_X0_103 ⟨rfl, rfl⟩ (jad_Hand_position F sh hs)) (jcon (jsV jlk_X0_107 ⟨rfl, rfl⟩ (jad_Options_list F sh hs)) (jcon (jsV jlk_X0_114 ⟨rfl, rfl⟩ (jad_Options_target F sh hs)) (jcon (jsV jlk_X0_117 ⟨rfl, rfl⟩ (jad_Values_loses F sh hs)) (jcon (jsV jlk_X0_123 ⟨rfl, rfl⟩ (jad_Options_code F sh hs)) (jcon (jsV jlk_X0_126 ⟨rfl, rfl⟩ (jad_Board_slowest F sh hs)) (jcon (jsV jlk_X0_129 ⟨rfl, rfl⟩ (jad_Board_soonest F sh hs)) jnil))))))) hs
  have rr57 : ∀ (k14 : Int → Int → Int → Int → jxS → Option jxR) (h14 : ∀ v1 v2 v3 v4 σ, jRf X (k14 v1 v2 v3 v4 σ) 14 [some (jmr 9), some (jmi v1), some (jmi v2), some (jmi v3), some (jmi v4), none] [] σ) (v1 v4 t0 : Int) (σ : jxS), jRf X (Board_lineMove_c57 F k14 v1 v4 t0 σ) 57 [some (jmr 9), some (jmi v1), none, none, some (jmi v4), none] [(jmi t0)] σ := by
    intro k14 h14 v1 v4 t0 σ
    exact jRf_by (jex_ok hG (cs := [(14, [some (.inr (some 9)), some (.inl 0), some (.inl 0), some (.inl 0), some (.inl 0), none], [], fun xs σ => match xs with
      | [v1, v2, v3, v4] => k14 v1 v2 v3 v4 σ
      | _ => none)]) (jcon (jl4 (fun y0 y1 y2 y3 => jl0 (fun σ => h14 y0 y1 y2 y3 σ))) jnil) 50 57 [some (jmr 9), some (jmi v1), none, none, some (jmi v4), none] [(jmi t0)] σ) rfl
  have rr14 : ∀ (fu : Nat) (v1 v2 v3 v4 : Int) (σ : jxS), jRf X (Board_lineMove_c14 F fu v1 v2 v3 v4 σ) 14 [some (jmr 9), some (jmi v1), some (jmi v2), some (jmi v3), some (jmi v4), none] [] σ := by
    intro  fu
    induction fu with
    | zero => intros; exact jRf_none
    | succ fu ih =>
      intro v1 v2 v3 v4 σ
      exact jRf_by (jex_ok hG (cs := [(57, [some (.inr (some 9)), some (.inl 0), none, none, some (.inl 0), none], [(.inl 0)], fun xs σ => match xs with
      | [v1, v4, t0] => Board_lineMove_c57 F (Board_lineMove_c14 F fu) v1 v4 t0 σ
      | _ => none)]) (jcon (jl2 (fun y0 y1 => jl1 (fun y2 => (fun σ => rr57 _ ih y0 y1 y2 σ)))) jnil) 50 14 [some (jmr 9), some (jmi v1), some (jmi v2), some (jmi v3), some (jmi v4), none] [] σ) rfl
  exact jRf_by (jex_ok hG (cs := [(14, [some (.inr (some 9)), some (.inl 0), some (.inl 0), some (.inl 0), some (.inl 0), none], [], fun xs σ => match xs with
      | [v1, v2, v3, v4] => Board_lineMove_c14 F F v1 v2 v3 v4 σ
      | _ => none)]) (jcon (jl4 (fun y0 y1 y2 y3 => jl0 (fun σ => rr14 F y0 y1 y2 y3 σ))) jnil) 50 0 [some (jmr 9), some (jmi v1), none, none, none, none] [] σ0) rfl
theorem jad_Board_lineMove (F : Nat) (sh : List jxC) (hs : jHas sh jc_C) : jAdV (jca_Board_lineMove F) yX0_lineMove cX0_lineMove 6 1 6 136 1 sh := by
  intro as σ k x σ' h
  unfold jca_Board_lineMove at h
  split at h
  · rename_i t0 v1
    obtain ⟨g0, hh1⟩ := jcond h
    obtain rfl := jbeq g0
    obtain ⟨r, h1, h2⟩ := Option.bind_eq_some_iff.mp hh1
    exact ⟨_, _, h2, ⟨_, _, _, _, _, _, rfl, rfl, (hs _ (jkf_in (l := jc_C) (idx := 9) rfl)).1, rfl⟩, jmet_Board_lineMove F  sh hs σ v1 r.1 r.2 h1⟩
  · cases h
def jtb_LL1_line : List (Nat × Instr) := [(0, .aload_n 0), (1, .getfield 48), (4, .ifnull 7), (7, .iload_n 1), (8, .ifCond .ge 7), (11, .iconst (-1)), (12, .goto 11), (15, .aload_n 0), (16, .getfield 48), (19, .iload_n 1), (20, .invokevirtual 162), (23, .ireturn)]
theorem jtk_LL1_line : jtok cX11_line jtb_LL1_line = true := by decide +kernel
set_option maxRecDepth 100000 in
theorem jlk_X11_162 : jLkV RX11 162 yX0_lineMove cX0_lineMove 6 1 1 := ⟨(jTB_at 1024 rfl rfl), (jTB_at 1025 rfl rfl), (jTB_at 1026 rfl rfl), (jTB_at 120 rfl rfl), jTB_at 1027 rfl rfl, ⟨by decide, by decide, by decide +kernel⟩⟩
def jE_LL1_line (F : Nat) : jxE := jmk [(48, 11, 2)] [] [] [(162, (2, false), jca_Board_lineMove F)] 1 jc_L1
set_option maxRecDepth 100000 in
set_option maxHeartbeats 4000000 in
theorem jmet_LL1_line (F : Nat) (sh : List jxC) (hs : jHas sh jc_L1) (σ0 : jxS) (v1 : Int) (x : Int) (σ' : jxS) (h : LL1_line F σ0 v1 = some (x, σ')) : jMC yX11_line cX11_line 2 (jrt 1) 7 161 sh σ0 [(jmr 0), (jmi v1)] (jrv 1 x) σ' := by
  refine jMC_of (kd := 1) (by decide) rfl h ?_
  intro X hX
  have hG : jGd X (jE_LL1_line F) jtb_LL1_line := jGd_of hX jtk_LL1_line (jcon jfl_X11_48 jnil) jnil jnil (jcon (jsV jlk_X11_162 ⟨rfl, rfl⟩ (jad_Board_lineMove F sh (jh_L1C hs))) jnil) hs
  exact jRf_by (jex_ok hG (cs := []) jnil 15 0 [some (jmr 0), some (jmi v1)] [] σ0) rfl
theorem jad_LL1_line (F : Nat) (sh : List jxC) (hs : jHas sh jc_L1) : jAdV (jca_LL1_line F) yX11_line cX11_line 2 1 7 161 1 sh := by
  intro as σ k x σ' h
  unfold jca_LL1_line at h
  split at h
  · rename_i t0 v1
    obtain ⟨g0, hh1⟩ := jcond h
    obtain rfl := jbeq g0
    obtain ⟨r, h1, h2⟩ := Option.bind_eq_some_iff.mp hh1
    exact ⟨_, _, h2, ⟨_, _, _, _, _, _, rfl, rfl, (hs _ (jkf_in (l := jc_L1) (idx := 0) rfl)).1, rfl⟩, jmet_LL1_line F  sh hs σ v1 r.1 r.2 h1⟩
  · cases h
def jtb_Values_countLosers : List (Nat × Instr) := [(0, .iconst 0), (1, .istore_n 2), (2, .aload_n 0), (3, .getfield 27), (6, .iload_n 1), (7, .invokevirtual 80), (10, .istore_n 3), (11, .iload_n 3), (12, .aload_n 0), (13, .getfield 27), (16, .iload_n 1), (17, .iconst 1), (18, .iadd), (19, .invokevirtual 80), (22, .if_icmp .ge 20), (25, .aload_n 0), (26, .iload_n 3), (27, .invokevirtual 84), (30, .ifCond .eq 6), (33, .iinc 2 1), (36, .iinc 3 1), (39, .goto (-28)), (42, .iload_n 2), (43, .ireturn)]
theorem jtk_Values_countLosers : jtok cX10_countLosers jtb_Values_countLosers = true := by decide +kernel
set_option maxRecDepth 100000 in
theorem jlk_X10_80 : jLkV RX10 80 yX5_firstWith cX5_firstWith 2 1 1 := ⟨(jTB_at 1045 rfl rfl), (jTB_at 814 rfl rfl), (jTB_at 815 rfl rfl), (jTB_at 123 rfl rfl), jTB_at 816 rfl rfl, ⟨by decide, by decide, by decide +kernel⟩⟩
def jE_Values_countLosers (F : Nat) : jxE := jmk [(27, 10, 0)] [] [] [(80, (2, false), jca_Positions_firstWith F), (84, (2, false), jca_Values_loses F)] 1 jc_C
set_option maxRecDepth 100000 in
set_option maxHeartbeats 4000000 in
theorem jmet_Values_countLosers (F : Nat) (sh : List jxC) (hs : jHas sh jc_C) (σ0 : jxS) (v1 : Int) (x : Int) (σ' : jxS) (h : Values_countLosers F σ0 v1 = some (x, σ')) : jMC yX10_countLosers cX10_countLosers 4 (jrt 1) 5 112 sh σ0 [(jmr 33), (jmi v1)] (jrv 1 x) σ' := by
  refine jMC_of (kd := 1) (by decide) rfl h ?_
  intro X hX
  have hG : jGd X (jE_Values_countLosers F) jtb_Values_countLosers := jGd_of hX jtk_Values_countLosers (jcon jfl_X10_27 jnil) jnil jnil (jcon (jsV jlk_X10_80 ⟨rfl, rfl⟩ (jad_Positions_firstWith F sh (jh_CP hs))) (jcon (jsV jlk_X10_84 ⟨rfl, rfl⟩ (jad_Values_loses F sh hs)) jnil)) hs
  have rr11 : ∀ (fu : Nat) (v1 v2 v3 : Int) (σ : jxS), jRf X (Values_countLosers_c11 F fu v1 v2 v3 σ) 11 [some (jmr 33), some (jmi v1), some (jmi v2), some (jmi v3)] [] σ := by
    intro  fu
    induction fu with
    | zero => intros; exact jRf_none
    | succ fu ih =>
      intro v1 v2 v3 σ
      exact jRf_by (jex_ok hG (cs := [(11, [some (.inr (some 33)), some (.inl 0), some (.inl 0), some (.inl 0)], [], fun xs σ => match xs with
      | [v1, v2, v3] => (Values_countLosers_c11 F fu) v1 v2 v3 σ
      | _ => none)]) (jcon (jl3 (fun y0 y1 y2 => jl0 (fun σ => ih y0 y1 y2 σ))) jnil) 27 11 [some (jmr 33), some (jmi v1), some (jmi v2), some (jmi v3)] [] σ) rfl
  exact jRf_by (jex_ok hG (cs := [(11, [some (.inr (some 33)), some (.inl 0), some (.inl 0), some (.inl 0)], [], fun xs σ => match xs with
      | [v1, v2, v3] => Values_countLosers_c11 F F v1 v2 v3 σ
      | _ => none)]) (jcon (jl3 (fun y0 y1 y2 => jl0 (fun σ => rr11 F y0 y1 y2 σ))) jnil) 27 0 [some (jmr 33), some (jmi v1), none, none] [] σ0) rfl
theorem jad_Values_countLosers (F : Nat) (sh : List jxC) (hs : jHas sh jc_C) : jAdV (jca_Values_countLosers F) yX10_countLosers cX10_countLosers 4 1 5 112 1 sh := by
  intro as σ k x σ' h
  unfold jca_Values_countLosers at h
  split at h
  · rename_i t0 v1
    obtain ⟨g0, hh1⟩ := jcond h
    obtain rfl := jbeq g0
    obtain ⟨r, h1, h2⟩ := Option.bind_eq_some_iff.mp hh1
    exact ⟨_, _, h2, ⟨_, _, _, _, _, _, rfl, rfl, (hs _ (jkf_in (l := jc_C) (idx := 33) rfl)).1, rfl⟩, jmet_Values_countLosers F  sh hs σ v1 r.1 r.2 h1⟩
  · cases h
def jtb_Values_firstLoser : List (Nat × Instr) := [(0, .aload_n 0), (1, .getfield 27), (4, .iload_n 1), (5, .invokevirtual 80), (8, .istore_n 2), (9, .iload_n 2), (10, .aload_n 0), (11, .getfield 27), (14, .iload_n 1), (15, .iconst 1), (16, .iadd), (17, .invokevirtual 80), (20, .if_icmp .ge 19), (23, .aload_n 0), (24, .iload_n 2), (25, .invokevirtual 84), (28, .ifCond .eq 5), (31, .iload_n 2), (32, .ireturn), (33, .iinc 2 1), (36, .goto (-27)), (39, .iconst (-1)), (40, .ireturn)]
theorem jtk_Values_firstLoser : jtok cX10_firstLoser jtb_Values_firstLoser = true := by decide +kernel
def jE_Values_firstLoser (F : Nat) : jxE := jmk [(27, 10, 0)] [] [] [(80, (2, false), jca_Positions_firstWith F), (84, (2, false), jca_Values_loses F)] 1 jc_C
set_option maxRecDepth 100000 in
set_option maxHeartbeats 4000000 in
theorem jmet_Values_firstLoser (F : Nat) (sh : List jxC) (hs : jHas sh jc_C) (σ0 : jxS) (v1 : Int) (x : Int) (σ' : jxS) (h : Values_firstLoser F σ0 v1 = some (x, σ')) : jMC yX10_firstLoser cX10_firstLoser 3 (jrt 1) 5 112 sh σ0 [(jmr 33), (jmi v1)] (jrv 1 x) σ' := by
  refine jMC_of (kd := 1) (by decide) rfl h ?_
  intro X hX
  have hG : jGd X (jE_Values_firstLoser F) jtb_Values_firstLoser := jGd_of hX jtk_Values_firstLoser (jcon jfl_X10_27 jnil) jnil jnil (jcon (jsV jlk_X10_80 ⟨rfl, rfl⟩ (jad_Positions_firstWith F sh (jh_CP hs))) (jcon (jsV jlk_X10_84 ⟨rfl, rfl⟩ (jad_Values_loses F sh hs)) jnil)) hs
  have rr9 : ∀ (fu : Nat) (v1 v2 : Int) (σ : jxS), jRf X (Values_firstLoser_c9 F fu v1 v2 σ) 9 [some (jmr 33), some (jmi v1), some (jmi v2)] [] σ := by
    intro  fu
    induction fu with
    | zero => intros; exact jRf_none
    | succ fu ih =>
      intro v1 v2 σ
      exact jRf_by (jex_ok hG (cs := [(9, [some (.inr (some 33)), some (.inl 0), some (.inl 0)], [], fun xs σ => match xs with
      | [v1, v2] => (Values_firstLoser_c9 F fu) v1 v2 σ
      | _ => none)]) (jcon (jl2 (fun y0 y1 => jl0 (fun σ => ih y0 y1 σ))) jnil) 26 9 [some (jmr 33), some (jmi v1), some (jmi v2)] [] σ) rfl
  exact jRf_by (jex_ok hG (cs := [(9, [some (.inr (some 33)), some (.inl 0), some (.inl 0)], [], fun xs σ => match xs with
      | [v1, v2] => Values_firstLoser_c9 F F v1 v2 σ
      | _ => none)]) (jcon (jl2 (fun y0 y1 => jl0 (fun σ => rr9 F y0 y1 σ))) jnil) 26 0 [some (jmr 33), some (jmi v1), none] [] σ0) rfl
theorem jad_Values_firstLoser (F : Nat) (sh : List jxC) (hs : jHas sh jc_C) : jAdV (jca_Values_firstLoser F) yX10_firstLoser cX10_firstLoser 3 1 5 112 1 sh := by
  intro as σ k x σ' h
  unfold jca_Values_firstLoser at h
  split at h
  · rename_i t0 v1
    obtain ⟨g0, hh1⟩ := jcond h
    obtain rfl := jbeq g0
    obtain ⟨r, h1, h2⟩ := Option.bind_eq_some_iff.mp hh1
    exact ⟨_, _, h2, ⟨_, _, _, _, _, _, rfl, rfl, (hs _ (jkf_in (l := jc_C) (idx := 33) rfl)).1, rfl⟩, jmet_Values_firstLoser F  sh hs σ v1 r.1 r.2 h1⟩
  · cases h
def jtb_LL1_losers : List (Nat × Instr) := [(0, .iload_n 2), (1, .iconst (-1)), (2, .if_icmp .eq 10), (5, .iload_n 2), (6, .invokestatic 59), (9, .ifCond .eq 7), (12, .iconst 1), (13, .goto 4), (16, .iconst 0), (17, .istore_n 3), (18, .aload_n 0), (19, .getfield 48), (22, .ifnull 17), (25, .iload_n 1), (26, .ifCond .lt 13), (29, .iload_n 1), (30, .bipush 22), (32, .if_icmp .gt 7), (35, .iload_n 3), (36, .ifCond .ne 5), (39, .iconst (-1)), (40, .ireturn), (41, .iload_n 2), (42, .iconst (-1)), (43, .if_icmp .ne 15), (46, .aload_n 0), (47, .getfield 48), (50, .getfield 138), (53, .iload_n 1), (54, .invokevirtual 165), (57, .ireturn), (58, .aload_n 0), (59, .aload_n 0), (60, .getfield 48), (63, .getfield 138), (66, .iload_n 1), (67, .invokevirtual 168), (70, .iload_n 2), (71, .invokevirtual 98), (74, .ireturn)]
theorem jtk_LL1_losers : jtok cX11_losers jtb_LL1_losers = true := by decide +kernel
set_option maxRecDepth 100000 in
theorem jlk_X11_165 : jLkV RX11 165 yX10_countLosers cX10_countLosers 4 1 1 := ⟨(jTB_at 1041 rfl rfl), (jTB_at 1042 rfl rfl), (jTB_at 1043 rfl rfl), (jTB_at 125 rfl rfl), jTB_at 1044 rfl rfl, ⟨by decide, by decide, by decide +kernel⟩⟩
set_option maxRecDepth 100000 in
theorem jlk_X11_168 : jLkV RX11 168 yX10_firstLoser cX10_firstLoser 3 1 1 := ⟨(jTB_at 1046 rfl rfl), (jTB_at 1047 rfl rfl), (jTB_at 1048 rfl rfl), (jTB_at 125 rfl rfl), jTB_at 1049 rfl rfl, ⟨by decide, by decide, by decide +kernel⟩⟩
def jE_LL1_losers (F : Nat) : jxE := jmk [(48, 11, 2), (138, 0, 4)] [] [] [(59, (1, true), jca_LL_isHeap F), (98, (3, false), jca_LL1_tallyOrNoSuch F), (165, (2, false), jca_Values_countLosers F), (168, (2, false), jca_Values_firstLoser F)] 1 jc_L1
set_option maxRecDepth 100000 in
set_option maxHeartbeats 4000000 in
theorem jmet_LL1_losers (F : Nat) (sh : List jxC) (hs : jHas sh jc_L1) (σ0 : jxS) (v1 : Int) (v2 : Int) (x : Int) (σ' : jxS) (h : LL1_losers F σ0 v1 v2 = some (x, σ')) : jMC yX11_losers cX11_losers 4 (jrt 1) 6 135 sh σ0 [(jmr 0), (jmi v1), (jmi v2)] (jrv 1 x) σ' := by
  refine jMC_of (kd := 1) (by decide) rfl h ?_
  intro X hX
  have hG : jGd X (jE_LL1_losers F) jtb_LL1_losers := jGd_of hX jtk_LL1_losers (jcon jfl_X11_48 (jcon jfl_X11_138 jnil)) jnil jnil (jcon (jsS jlk_X11_59 ⟨rfl, rfl⟩ (jad_LL_isHeap F sh jh_E)) (jcon (jsV jlk_X11_98 ⟨rfl, rfl⟩ (jad_LL1_tallyOrNoSuch F sh hs)) (jcon (jsV jlk_X11_165 ⟨rfl, rfl⟩ (jad_Values_countLosers F sh (jh_L1C hs))) (jcon (jsV jlk_X11_168 ⟨rfl, rfl⟩ (jad_Values_firstLoser F sh (jh_L1C hs))) jnil)))) hs
  have rr17 : ∀ (v1 v2 t0 : Int) (σ : jxS), jRf X (LL1_losers_c17 F v1 v2 t0 σ) 17 [some (jmr 0), some (jmi v1), some (jmi v2), none] [(jmi t0)] σ := by
    intro  v1 v2 t0 σ
    exact jRf_by (jex_ok hG (cs := []) jnil 43 17 [some (jmr 0), some (jmi v1), some (jmi v2), none] [(jmi t0)] σ) rfl
  have rr12 : ∀ (v1 v2 : Int) (σ : jxS), jRf X (LL1_losers_c12 F v1 v2 σ) 12 [some (jmr 0), some (jmi v1), some (jmi v2), none] [] σ := by
    intro  v1 v2 σ
    exact jRf_by (jex_ok hG (cs := [(17, [some (.inr (some 0)), some (.inl 0), some (.inl 0), none], [(.inl 0)], fun xs σ => match xs with
      | [v1, v2, t0] => LL1_losers_c17 F v1 v2 t0 σ
      | _ => none)]) (jcon (jl2 (fun y0 y1 => jl1 (fun y2 => (fun σ => rr17 y0 y1 y2 σ)))) jnil) 43 12 [some (jmr 0), some (jmi v1), some (jmi v2), none] [] σ) rfl
  exact jRf_by (jex_ok hG (cs := [(12, [some (.inr (some 0)), some (.inl 0), some (.inl 0), none], [], fun xs σ => match xs with
      | [v1, v2] => LL1_losers_c12 F v1 v2 σ
      | _ => none), (17, [some (.inr (some 0)), some (.inl 0), some (.inl 0), none], [(.inl 0)], fun xs σ => match xs with
      | [v1, v2, t0] => LL1_losers_c17 F v1 v2 t0 σ
      | _ => none)]) (jcon (jl2 (fun y0 y1 => jl0 (fun σ => rr12 y0 y1 σ))) (jcon (jl2 (fun y0 y1 => jl1 (fun y2 => (fun σ => rr17 y0 y1 y2 σ)))) jnil)) 43 0 [some (jmr 0), some (jmi v1), some (jmi v2), none] [] σ0) rfl
theorem jad_LL1_losers (F : Nat) (sh : List jxC) (hs : jHas sh jc_L1) : jAdV (jca_LL1_losers F) yX11_losers cX11_losers 4 1 6 135 2 sh := by
  intro as σ k x σ' h
  unfold jca_LL1_losers at h
  split at h
  · rename_i t0 v1 v2
    obtain ⟨g0, hh1⟩ := jcond h
    obtain rfl := jbeq g0
    obtain ⟨r, h1, h2⟩ := Option.bind_eq_some_iff.mp hh1
    exact ⟨_, _, h2, ⟨_, _, _, _, _, _, rfl, rfl, (hs _ (jkf_in (l := jc_L1) (idx := 0) rfl)).1, rfl⟩, jmet_LL1_losers F  sh hs σ v1 v2 r.1 r.2 h1⟩
  · cases h
def jtb_Hand_keepUnder : List (Nat × Instr) := [(0, .iload_n 1), (1, .ifCond .lt 18), (4, .iload_n 1), (5, .iconst 3), (6, .if_icmp .ge 13), (9, .aload_n 0), (10, .getfield 15), (13, .iload_n 1), (14, .aload_n 0), (15, .getfield 18), (18, .iastore), (19, .return_)]
theorem jtk_Hand_keepUnder : jtok cX2_keepUnder jtb_Hand_keepUnder = true := by decide +kernel
def jE_Hand_keepUnder (F : Nat) : jxE := jmk [(15, 2, 1), (18, 2, 2)] [] [] [] 0 jc_C
set_option maxRecDepth 100000 in
set_option maxHeartbeats 4000000 in
theorem jmet_Hand_keepUnder (F : Nat) (sh : List jxC) (hs : jHas sh jc_C) (σ0 : jxS) (v1 : Int) (x : Int) (σ' : jxS) (h : Hand_keepUnder F σ0 v1 = some (x, σ')) : jMC yX2_keepUnder cX2_keepUnder 2 (jrt 0) 0 0 sh σ0 [(jmr 29), (jmi v1)] (jrv 0 x) σ' := by
  refine jMC_of (kd := 0) (by decide) rfl h ?_
  intro X hX
  have hG : jGd X (jE_Hand_keepUnder F) jtb_Hand_keepUnder := jGd_of hX jtk_Hand_keepUnder (jcon jfl_X2_15 (jcon jfl_X2_18 jnil)) jnil jnil jnil hs
  exact jRf_by (jex_ok hG (cs := []) jnil 15 0 [some (jmr 29), some (jmi v1)] [] σ0) rfl
theorem jad_Hand_keepUnder (F : Nat) (sh : List jxC) (hs : jHas sh jc_C) : jAdV (jca_Hand_keepUnder F) yX2_keepUnder cX2_keepUnder 2 0 0 0 1 sh := by
  intro as σ k x σ' h
  unfold jca_Hand_keepUnder at h
  split at h
  · rename_i t0 v1
    obtain ⟨g0, hh1⟩ := jcond h
    obtain rfl := jbeq g0
    obtain ⟨r, h1, h2⟩ := Option.bind_eq_some_iff.mp hh1
    exact ⟨_, _, h2, ⟨_, _, _, _, _, _, rfl, rfl, (hs _ (jkf_in (l := jc_C) (idx := 29) rfl)).1, rfl⟩, jmet_Hand_keepUnder F  sh hs σ v1 r.1 r.2 h1⟩
  · cases h
def jtb_LL1_keep : List (Nat × Instr) := [(0, .aload_n 0), (1, .getfield 48), (4, .ifnull 12), (7, .iload_n 1), (8, .ifCond .lt 8), (11, .iload_n 1), (12, .iconst 3), (13, .if_icmp .lt 5), (16, .iconst (-1)), (17, .ireturn), (18, .aload_n 0), (19, .getfield 48), (22, .getfield 108), (25, .iload_n 1), (26, .invokevirtual 171), (29, .aload_n 0), (30, .getfield 48), (33, .getfield 104), (36, .aload_n 0), (37, .getfield 48), (40, .getfield 108), (43, .invokevirtual 112), (46, .invokevirtual 125), (49, .ireturn)]
theorem jtk_LL1_keep : jtok cX11_keep jtb_LL1_keep = true := by decide +kernel
set_option maxRecDepth 100000 in
theorem jlk_X11_171 : jLkV RX11 171 yX2_keepUnder cX2_keepUnder 2 0 1 := ⟨(jTB_at 1054 rfl rfl), (jTB_at 1055 rfl rfl), (jTB_at 1056 rfl rfl), (jTB_at 124 rfl rfl), jTB_at 1057 rfl rfl, ⟨by decide, by decide, by decide +kernel⟩⟩
def jE_LL1_keep (F : Nat) : jxE := jmk [(48, 11, 2), (104, 0, 2), (108, 0, 3)] [] [] [(112, (1, false), jca_Hand_position F), (125, (2, false), jca_Positions_beansOf F), (171, (2, false), jca_Hand_keepUnder F)] 1 jc_L1
set_option maxRecDepth 100000 in
set_option maxHeartbeats 4000000 in
theorem jmet_LL1_keep (F : Nat) (sh : List jxC) (hs : jHas sh jc_L1) (σ0 : jxS) (v1 : Int) (x : Int) (σ' : jxS) (h : LL1_keep F σ0 v1 = some (x, σ')) : jMC yX11_keep cX11_keep 2 (jrt 1) 1 23 sh σ0 [(jmr 0), (jmi v1)] (jrv 1 x) σ' := by
  refine jMC_of (kd := 1) (by decide) rfl h ?_
  intro X hX
  have hG : jGd X (jE_LL1_keep F) jtb_LL1_keep := jGd_of hX jtk_LL1_keep (jcon jfl_X11_48 (jcon jfl_X11_104 (jcon jfl_X11_108 jnil))) jnil jnil (jcon (jsV jlk_X11_112 ⟨rfl, rfl⟩ (jad_Hand_position F sh (jh_L1C hs))) (jcon (jsV jlk_X11_125 ⟨rfl, rfl⟩ (jad_Positions_beansOf F sh (jh_L1P hs))) (jcon (jsV jlk_X11_171 ⟨rfl, rfl⟩ (jad_Hand_keepUnder F sh (jh_L1C hs))) jnil))) hs
  exact jRf_by (jex_ok hG (cs := []) jnil 27 0 [some (jmr 0), some (jmi v1)] [] σ0) rfl
theorem jad_LL1_keep (F : Nat) (sh : List jxC) (hs : jHas sh jc_L1) : jAdV (jca_LL1_keep F) yX11_keep cX11_keep 2 1 1 23 1 sh := by
  intro as σ k x σ' h
  unfold jca_LL1_keep at h
  split at h
  · rename_i t0 v1
    obtain ⟨g0, hh1⟩ := jcond h
    obtain rfl := jbeq g0
    obtain ⟨r, h1, h2⟩ := Option.bind_eq_some_iff.mp hh1
    exact ⟨_, _, h2, ⟨_, _, _, _, _, _, rfl, rfl, (hs _ (jkf_in (l := jc_L1) (idx := 0) rfl)).1, rfl⟩, jmet_LL1_keep F  sh hs σ v1 r.1 r.2 h1⟩
  · cases h
def jtb_Hand_keptUnder : List (Nat × Instr) := [(0, .iload_n 1), (1, .ifCond .lt 17), (4, .iload_n 1), (5, .iconst 3), (6, .if_icmp .ge 12), (9, .aload_n 0), (10, .getfield 15), (13, .iload_n 1), (14, .iaload), (15, .goto 4), (18, .iconst (-1)), (19, .ireturn)]
theorem jtk_Hand_keptUnder : jtok cX2_keptUnder jtb_Hand_keptUnder = true := by decide +kernel
def jE_Hand_keptUnder (F : Nat) : jxE := jmk [(15, 2, 1)] [] [] [] 1 jc_C
set_option maxRecDepth 100000 in
set_option maxHeartbeats 4000000 in
theorem jmet_Hand_keptUnder (F : Nat) (sh : List jxC) (hs : jHas sh jc_C) (σ0 : jxS) (v1 : Int) (x : Int) (σ' : jxS) (h : Hand_keptUnder F σ0 v1 = some (x, σ')) : jMC yX2_keptUnder cX2_keptUnder 2 (jrt 1) 0 0 sh σ0 [(jmr 29), (jmi v1)] (jrv 1 x) σ' := by
  refine jMC_of (kd := 1) (by decide) rfl h ?_
  intro X hX
  have hG : jGd X (jE_Hand_keptUnder F) jtb_Hand_keptUnder := jGd_of hX jtk_Hand_keptUnder (jcon jfl_X2_15 jnil) jnil jnil jnil hs
  exact jRf_by (jex_ok hG (cs := []) jnil 15 0 [some (jmr 29), some (jmi v1)] [] σ0) rfl
theorem jad_Hand_keptUnder (F : Nat) (sh : List jxC) (hs : jHas sh jc_C) : jAdV (jca_Hand_keptUnder F) yX2_keptUnder cX2_keptUnder 2 1 0 0 1 sh := by
  intro as σ k x σ' h
  unfold jca_Hand_keptUnder at h
  split at h
  · rename_i t0 v1
    obtain ⟨g0, hh1⟩ := jcond h
    obtain rfl := jbeq g0
    obtain ⟨r, h1, h2⟩ := Option.bind_eq_some_iff.mp hh1
    exact ⟨_, _, h2, ⟨_, _, _, _, _, _, rfl, rfl, (hs _ (jkf_in (l := jc_C) (idx := 29) rfl)).1, rfl⟩, jmet_Hand_keptUnder F  sh hs σ v1 r.1 r.2 h1⟩
  · cases h
def jtb_Values_hasMark : List (Nat × Instr) := [(0, .iload_n 1), (1, .ifCond .lt 14), (4, .iload_n 1), (5, .sipush 677), (8, .if_icmp .ge 7), (11, .iconst 1), (12, .goto 4), (15, .iconst 0), (16, .ireturn)]
theorem jtk_Values_hasMark : jtok cX10_hasMark jtb_Values_hasMark = true := by decide +kernel
def jE_Values_hasMark (F : Nat) : jxE := jmk [] [] [] [] 4 jc_C
set_option maxRecDepth 100000 in
set_option maxHeartbeats 4000000 in
theorem jmet_Values_hasMark (F : Nat) (sh : List jxC) (hs : jHas sh jc_C) (σ0 : jxS) (v1 : Int) (x : Int) (σ' : jxS) (h : Values_hasMark F σ0 v1 = some (x, σ')) : jMC yX10_hasMark cX10_hasMark 2 (jrt 4) 0 0 sh σ0 [(jmr 33), (jmi v1)] (jrv 4 x) σ' := by
  refine jMC_of (kd := 4) (by decide) rfl h ?_
  intro X hX
  have hG : jGd X (jE_Values_hasMark F) jtb_Values_hasMark := jGd_of hX jtk_Values_hasMark jnil jnil jnil jnil hs
  exact jRf_by (jex_ok hG (cs := []) jnil 12 0 [some (jmr 33), some (jmi v1)] [] σ0) rfl
theorem jad_Values_hasMark (F : Nat) (sh : List jxC) (hs : jHas sh jc_C) : jAdV (jca_Values_hasMark F) yX10_hasMark cX10_hasMark 2 4 0 0 1 sh := by
  intro as σ k x σ' h
  unfold jca_Values_hasMark at h
  split at h
  · rename_i t0 v1
    obtain ⟨g0, hh1⟩ := jcond h
    obtain rfl := jbeq g0
    obtain ⟨r, h1, h2⟩ := Option.bind_eq_some_iff.mp hh1
    exact ⟨_, _, h2, ⟨_, _, _, _, _, _, rfl, rfl, (hs _ (jkf_in (l := jc_C) (idx := 33) rfl)).1, rfl⟩, jmet_Values_hasMark F  sh hs σ v1 r.1 r.2 h1⟩
  · cases h
def jtb_Positions_joinAll : List (Nat × Instr) := [(0, .iload_n 1), (1, .istore_n 3), (2, .iload_n 2), (3, .istore 4), (5, .iconst 0), (6, .istore 5), (8, .iload 5), (10, .bipush 22), (12, .if_icmp .ge 42), (15, .iload 4), (17, .ifCond .le 37), (20, .aload_n 0), (21, .iload 4), (23, .invokevirtual 52), (26, .istore 6), (28, .aload_n 0), (29, .iload_n 3), (30, .aload_n 0), (31, .iload 6), (33, .invokevirtual 55), (36, .invokevirtual 61), (39, .istore_n 3), (40, .aload_n 0), (41, .iload 6), (43, .invokevirtual 58), (46, .istore 4), (48, .iinc 5 1), (51, .goto (-43)), (54, .iload_n 3), (55, .ireturn)]
theorem jtk_Positions_joinAll : jtok cX5_joinAll jtb_Positions_joinAll = true := by decide +kernel
set_option maxRecDepth 100000 in
theorem jlk_X5_61 : jLkV RX5 61 yX5_join cX5_join 3 1 2 := ⟨(jTB_at 465 rfl rfl), (jTB_at 466 rfl rfl), (jTB_at 467 rfl rfl), (jTB_at 123 rfl rfl), jTB_at 468 rfl rfl, ⟨by decide, by decide, by decide +kernel⟩⟩
def jE_Positions_joinAll (F : Nat) : jxE := jmk [] [] [] [(52, (2, false), jca_Positions_firstPart F), (55, (2, false), jca_Positions_heapOf F), (58, (2, false), jca_Positions_restOf F), (61, (3, false), jca_Positions_join F)] 1 jc_P
set_option maxRecDepth 100000 in
set_option maxHeartbeats 4000000 in
theorem jmet_Positions_joinAll (F : Nat) (sh : List jxC) (hs : jHas sh jc_P) (σ0 : jxS) (v1 : Int) (v2 : Int) (x : Int) (σ' : jxS) (h : Positions_joinAll F σ0 v1 v2 = some (x, σ')) : jMC yX5_joinAll cX5_joinAll 7 (jrt 1) 2 41 sh σ0 [(jmr 22), (jmi v1), (jmi v2)] (jrv 1 x) σ' := by
  refine jMC_of (kd := 1) (by decide) rfl h ?_
  intro X hX
  have hG : jGd X (jE_Positions_joinAll F) jtb_Positions_joinAll := jGd_of hX jtk_Positions_joinAll jnil jnil jnil (jcon (jsV jlk_X5_52 ⟨rfl, rfl⟩ (jad_Positions_firstPart F sh hs)) (jcon (jsV jlk_X5_55 ⟨rfl, rfl⟩ (jad_Positions_heapOf F sh hs)) (jcon (jsV jlk_X5_58 ⟨rfl, rfl⟩ (jad_Positions_restOf F sh hs)) (jcon (jsV jlk_X5_61 ⟨rfl, rfl⟩ (jad_Positions_join F sh hs)) jnil)))) hs
  have rr8 : ∀ (fu : Nat) (v3 v4 v5 : Int) (σ : jxS), jRf X (Positions_joinAll_c8 F fu v3 v4 v5 σ) 8 [some (jmr 22), none, none, some (jmi v3), some (jmi v4), some (jmi v5), none] [] σ := by
    intro  fu
    induction fu with
    | zero => intros; exact jRf_none
    | succ fu ih =>
      intro v3 v4 v5 σ
      exact jRf_by (jex_ok hG (cs := [(8, [some (.inr (some 22)), none, none, some (.inl 0), some (.inl 0), some (.inl 0), none], [], fun xs σ => match xs with
      | [v3, v4, v5] => (Positions_joinAll_c8 F fu) v3 v4 v5 σ
      | _ => none)]) (jcon (jl3 (fun y0 y1 y2 => jl0 (fun σ => ih y0 y1 y2 σ))) jnil) 33 8 [some (jmr 22), none, none, some (jmi v3), some (jmi v4), some (jmi v5), none] [] σ) rfl
  exact jRf_by (jex_ok hG (cs := [(8, [some (.inr (some 22)), none, none, some (.inl 0), some (.inl 0), some (.inl 0), none], [], fun xs σ => match xs with
      | [v3, v4, v5] => Positions_joinAll_c8 F F v3 v4 v5 σ
      | _ => none)]) (jcon (jl3 (fun y0 y1 y2 => jl0 (fun σ => rr8 F y0 y1 y2 σ))) jnil) 33 0 [some (jmr 22), some (jmi v1), some (jmi v2), none, none, none, none] [] σ0) rfl
theorem jad_Positions_joinAll (F : Nat) (sh : List jxC) (hs : jHas sh jc_P) : jAdV (jca_Positions_joinAll F) yX5_joinAll cX5_joinAll 7 1 2 41 2 sh := by
  intro as σ k x σ' h
  unfold jca_Positions_joinAll at h
  split at h
  · rename_i t0 v1 v2
    obtain ⟨g0, hh1⟩ := jcond h
    obtain rfl := jbeq g0
    obtain ⟨r, h1, h2⟩ := Option.bind_eq_some_iff.mp hh1
    exact ⟨_, _, h2, ⟨_, _, _, _, _, _, rfl, rfl, (hs _ (jkf_in (l := jc_P) (idx := 22) rfl)).1, rfl⟩, jmet_Positions_joinAll F  sh hs σ v1 v2 r.1 r.2 h1⟩
  · cases h
def jtb_Values_markOf : List (Nat × Instr) := [(0, .aload_n 0), (1, .iload_n 1), (2, .invokevirtual 161), (5, .ifCond .ne 5), (8, .lconst 0), (9, .lreturn), (10, .aload_n 0), (11, .getfield 23), (14, .iload_n 1), (15, .laload), (16, .ldc2_w 51), (19, .lcmp), (20, .ifCond .ne 90), (23, .aload_n 0), (24, .aload_n 0), (25, .getfield 27), (28, .aload_n 0), (29, .getfield 27), (32, .iload_n 1), (33, .invokevirtual 164), (36, .bipush 7), (38, .iadd), (39, .iconst 1), (40, .iadd), (41, .invokevirtual 80), (44, .iconst 1), (45, .isub), (46, .invokevirtual 73), (49, .lconst 0), (50, .lstore_n 2), (51, .iconst 0), (52, .istore 4), (54, .iload 4), (56, .bipush 45), (58, .if_icmp .ge 45), (61, .aload_n 0), (62, .getfield 27), (65, .iload_n 1), (66, .iload 4), (68, .invokevirtual 167), (71, .istore 5), (73, .iload 5), (75, .ifCond .lt 22), (78, .aload_n 0), (79, .getfield 11), (82, .iload 5), (84, .iaload), (85, .iconst 2), (86, .irem), (87, .ifCond .ne 10), (90, .lload_n 2), (91, .lconst 1), (92, .iload 4), (94, .lshl), (95, .lor), (96, .lstore_n 2), (97, .iinc 4 1), (100, .goto (-46)), (103, .aload_n 0), (104, .getfield 23), (107, .iload_n 1), (108, .lload_n 2), (109, .lastore), (110, .aload_n 0), (111, .getfield 23), (114, .iload_n 1), (115, .laload), (116, .lreturn)]
theorem jtk_Values_markOf : jtok cX10_markOf jtb_Values_markOf = true := by decide +kernel
set_option maxRecDepth 100000 in
theorem jlk_X10_161 : jLkV RX10 161 yX10_hasMark cX10_hasMark 2 4 1 := ⟨(jTB_at 1078 rfl rfl), (jTB_at 1067 rfl rfl), (jTB_at 1068 rfl rfl), (jTB_at 125 rfl rfl), jTB_at 1069 rfl rfl, ⟨by decide, by decide, by decide +kernel⟩⟩
set_option maxRecDepth 100000 in
theorem jlk_X10_164 : jLkV RX10 164 yX5_beansOf cX5_beansOf 4 1 1 := ⟨(jTB_at 1079 rfl rfl), (jTB_at 874 rfl rfl), (jTB_at 875 rfl rfl), (jTB_at 123 rfl rfl), jTB_at 876 rfl rfl, ⟨by decide, by decide, by decide +kernel⟩⟩
set_option maxRecDepth 100000 in
theorem jlk_X10_167 : jLkV RX10 167 yX5_joinAll cX5_joinAll 7 1 2 := ⟨(jTB_at 1080 rfl rfl), (jTB_at 1081 rfl rfl), (jTB_at 1082 rfl rfl), (jTB_at 123 rfl rfl), jTB_at 1083 rfl rfl, ⟨by decide, by decide, by decide +kernel⟩⟩
def jE_Values_markOf (F : Nat) : jxE := jmk [(11, 10, 3), (23, 10, 6), (27, 10, 0)] [(51, jml (-1))] [] [(73, (2, false), jca_Values_settleTo F), (80, (2, false), jca_Positions_firstWith F), (161, (2, false), jca_Values_hasMark F), (164, (2, false), jca_Positions_beansOf F), (167, (3, false), jca_Positions_joinAll F)] 2 jc_C
set_option maxRecDepth 100000 in
set_option maxHeartbeats 4000000 in
theorem jmet_Values_markOf (F : Nat) (sh : List jxC) (hs : jHas sh jc_C) (σ0 : jxS) (v1 : Int) (x : Int) (σ' : jxS) (h : Values_markOf F σ0 v1 = some (x, σ')) : jMC yX10_markOf cX10_markOf 6 (jrt 2) 4 91 sh σ0 [(jmr 33), (jmi v1)] (jrv 2 x) σ' := by
  refine jMC_of (kd := 2) (by decide) rfl h ?_
  intro X hX
  have hG : jGd X (jE_Values_markOf F) jtb_Values_markOf := jGd_of hX jtk_Values_markOf (jcon jfl_X10_11 (jcon jfl_X10_23 (jcon jfl_X10_27 jnil))) (jcon (jTB_at 733 rfl rfl) jnil) jnil (jcon (jsV jlk_X10_73 ⟨rfl, rfl⟩ (jad_Values_settleTo F sh hs)) (jcon (jsV jlk_X10_80 ⟨rfl, rfl⟩ (jad_Positions_firstWith F sh (jh_CP hs))) (jcon (jsV jlk_X10_161 ⟨rfl, rfl⟩ (jad_Values_hasMark F sh hs)) (jcon (jsV jlk_X10_164 ⟨rfl, rfl⟩ (jad_Positions_beansOf F sh (jh_CP hs))) (jcon (jsV jlk_X10_167 ⟨rfl, rfl⟩ (jad_Positions_joinAll F sh (jh_CP hs))) jnil))))) hs
  have rr54 : ∀ (fu : Nat) (v1 v2 v4 : Int) (σ : jxS), jRf X (Values_markOf_c54 F fu v1 v2 v4 σ) 54 [some (jmr 33), some (jmi v1), some (jml v2), none, some (jmi v4), none] [] σ := by
    intro  fu
    induction fu with
    | zero => intros; exact jRf_none
    | succ fu ih =>
      intro v1 v2 v4 σ
      exact jRf_by (jex_ok hG (cs := [(54, [some (.inr (some 33)), some (.inl 0), some (.inl 1), none, some (.inl 0), none], [], fun xs σ => match xs with
      | [v1, v2, v4] => (Values_markOf_c54 F fu) v1 v2 v4 σ
      | _ => none)]) (jcon (jl3 (fun y0 y1 y2 => jl0 (fun σ => ih y0 y1 y2 σ))) jnil) 71 54 [some (jmr 33), some (jmi v1), some (jml v2), none, some (jmi v4), none] [] σ) rfl
  exact jRf_by (jex_ok hG (cs := [(54, [some (.inr (some 33)), some (.inl 0), some (.inl 1), none, some (.inl 0), none], [], fun xs σ => match xs with
      | [v1, v2, v4] => Values_markOf_c54 F F v1 v2 v4 σ
      | _ => none)]) (jcon (jl3 (fun y0 y1 y2 => jl0 (fun σ => rr54 F y0 y1 y2 σ))) jnil) 71 0 [some (jmr 33), some (jmi v1), none, none, none, none] [] σ0) rfl
theorem jad_Values_markOf (F : Nat) (sh : List jxC) (hs : jHas sh jc_C) : jAdV (jca_Values_markOf F) yX10_markOf cX10_markOf 6 2 4 91 1 sh := by
  intro as σ k x σ' h
  unfold jca_Values_markOf at h
  split at h
  · rename_i t0 v1
    obtain ⟨g0, hh1⟩ := jcond h
    obtain rfl := jbeq g0
    obtain ⟨r, h1, h2⟩ := Option.bind_eq_some_iff.mp hh1
    exact ⟨_, _, h2, ⟨_, _, _, _, _, _, rfl, rfl, (hs _ (jkf_in (l := jc_C) (idx := 33) rfl)).1, rfl⟩, jmet_Values_markOf F  sh hs σ v1 r.1 r.2 h1⟩
  · cases h
def jtb_Values_firstBetween : List (Nat × Instr) := [(0, .aload_n 0), (1, .iload_n 1), (2, .invokevirtual 173), (5, .aload_n 0), (6, .iload_n 2), (7, .invokevirtual 173), (10, .lxor), (11, .lstore_n 3), (12, .iconst 0), (13, .istore 5), (15, .iload 5), (17, .bipush 45), (19, .if_icmp .ge 23), (22, .lload_n 3), (23, .iload 5), (25, .lshr), (26, .lconst 1), (27, .land), (28, .lconst 1), (29, .lcmp), (30, .ifCond .ne 6), (33, .iload 5), (35, .ireturn), (36, .iinc 5 1), (39, .goto (-24)), (42, .iconst (-1)), (43, .ireturn)]
theorem jtk_Values_firstBetween : jtok cX10_firstBetween jtb_Values_firstBetween = true := by decide +kernel
set_option maxRecDepth 100000 in
theorem jlk_X10_173 : jLkV RX10 173 yX10_markOf cX10_markOf 6 2 1 := ⟨(jTB_at 1074 rfl rfl), (jTB_at 1075 rfl rfl), (jTB_at 1076 rfl rfl), (jTB_at 125 rfl rfl), jTB_at 1077 rfl rfl, ⟨by decide, by decide, by decide +kernel⟩⟩
def jE_Values_firstBetween (F : Nat) : jxE := jmk [] [] [] [(173, (2, false), jca_Values_markOf F)] 1 jc_C
set_option maxRecDepth 100000 in
set_option maxHeartbeats 4000000 in
theorem jmet_Values_firstBetween (F : Nat) (sh : List jxC) (hs : jHas sh jc_C) (σ0 : jxS) (v1 : Int) (v2 : Int) (x : Int) (σ' : jxS) (h : Values_firstBetween F σ0 v1 v2 = some (x, σ')) : jMC yX10_firstBetween cX10_firstBetween 6 (jrt 1) 5 116 sh σ0 [(jmr 33), (jmi v1), (jmi v2)] (jrv 1 x) σ' := by
  refine jMC_of (kd := 1) (by decide) rfl h ?_
  intro X hX
  have hG : jGd X (jE_Values_firstBetween F) jtb_Values_firstBetween := jGd_of hX jtk_Values_firstBetween jnil jnil jnil (jcon (jsV jlk_X10_173 ⟨rfl, rfl⟩ (jad_Values_markOf F sh hs)) jnil) hs
  have rr15 : ∀ (fu : Nat) (v3 v5 : Int) (σ : jxS), jRf X (Values_firstBetween_c15 F fu v3 v5 σ) 15 [none, none, none, some (jml v3), none, some (jmi v5)] [] σ := by
    intro  fu
    induction fu with
    | zero => intros; exact jRf_none
    | succ fu ih =>
      intro v3 v5 σ
      exact jRf_by (jex_ok hG (cs := [(15, [none, none, none, some (.inl 1), none, some (.inl 0)], [], fun xs σ => match xs with
      | [v3, v5] => (Values_firstBetween_c15 F fu) v3 v5 σ
      | _ => none)]) (jcon (jl2 (fun y0 y1 => jl0 (fun σ => ih y0 y1 σ))) jnil) 30 15 [none, none, none, some (jml v3), none, some (jmi v5)] [] σ) rfl
  exact jRf_by (jex_ok hG (cs := [(15, [none, none, none, some (.inl 1), none, some (.inl 0)], [], fun xs σ => match xs with
      | [v3, v5] => Values_firstBetween_c15 F F v3 v5 σ
      | _ => none)]) (jcon (jl2 (fun y0 y1 => jl0 (fun σ => rr15 F y0 y1 σ))) jnil) 30 0 [some (jmr 33), some (jmi v1), some (jmi v2), none, none, none] [] σ0) rfl
theorem jad_Values_firstBetween (F : Nat) (sh : List jxC) (hs : jHas sh jc_C) : jAdV (jca_Values_firstBetween F) yX10_firstBetween cX10_firstBetween 6 1 5 116 2 sh := by
  intro as σ k x σ' h
  unfold jca_Values_firstBetween at h
  split at h
  · rename_i t0 v1 v2
    obtain ⟨g0, hh1⟩ := jcond h
    obtain rfl := jbeq g0
    obtain ⟨r, h1, h2⟩ := Option.bind_eq_some_iff.mp hh1
    exact ⟨_, _, h2, ⟨_, _, _, _, _, _, rfl, rfl, (hs _ (jkf_in (l := jc_C) (idx := 33) rfl)).1, rfl⟩, jmet_Values_firstBetween F  sh hs σ v1 v2 r.1 r.2 h1⟩
  · cases h
def jtb_LL1_apart : List (Nat × Instr) := [(0, .aload_n 0), (1, .getfield 48), (4, .ifnull 10), (7, .iload_n 2), (8, .invokestatic 92), (11, .ifCond .ne 5), (14, .iconst (-1)), (15, .ireturn), (16, .aload_n 0), (17, .getfield 48), (20, .getfield 108), (23, .iload_n 1), (24, .invokevirtual 174), (27, .istore_n 3), (28, .iload_n 3), (29, .ifCond .ge 5), (32, .iconst (-1)), (33, .ireturn), (34, .aload_n 0), (35, .getfield 48), (38, .getfield 138), (41, .iload_n 3), (42, .invokevirtual 177), (45, .ifCond .eq 26), (48, .aload_n 0), (49, .getfield 48), (52, .getfield 138), (55, .aload_n 0), (56, .getfield 48), (59, .getfield 108), (62, .invokevirtual 112), (65, .invokevirtual 177), (68, .ifCond .ne 6), (71, .bipush (-3)), (73, .ireturn), (74, .aload_n 0), (75, .aload_n 0), (76, .getfield 48), (79, .getfield 138), (82, .aload_n 0), (83, .getfield 48), (86, .getfield 108), (89, .invokevirtual 112), (92, .iload_n 3), (93, .invokevirtual 180), (96, .iload_n 2), (97, .invokevirtual 98), (100, .ireturn)]
theorem jtk_LL1_apart : jtok cX11_apart jtb_LL1_apart = true := by decide +kernel
set_option maxRecDepth 100000 in
theorem jlk_X11_174 : jLkV RX11 174 yX2_keptUnder cX2_keptUnder 2 1 1 := ⟨(jTB_at 1062 rfl rfl), (jTB_at 1063 rfl rfl), (jTB_at 1064 rfl rfl), (jTB_at 124 rfl rfl), jTB_at 1065 rfl rfl, ⟨by decide, by decide, by decide +kernel⟩⟩
set_option maxRecDepth 100000 in
theorem jlk_X11_177 : jLkV RX11 177 yX10_hasMark cX10_hasMark 2 4 1 := ⟨(jTB_at 1066 rfl rfl), (jTB_at 1067 rfl rfl), (jTB_at 1068 rfl rfl), (jTB_at 125 rfl rfl), jTB_at 1069 rfl rfl, ⟨by decide, by decide, by decide +kernel⟩⟩
set_option maxRecDepth 100000 in
theorem jlk_X11_180 : jLkV RX11 180 yX10_firstBetween cX10_firstBetween 6 1 2 := ⟨(jTB_at 1070 rfl rfl), (jTB_at 1071 rfl rfl), (jTB_at 1072 rfl rfl), (jTB_at 125 rfl rfl), jTB_at 1073 rfl rfl, ⟨by decide, by decide, by decide +kernel⟩⟩
def jE_LL1_apart (F : Nat) : jxE := jmk [(48, 11, 2), (108, 0, 3), (138, 0, 4)] [] [] [(92, (1, true), jca_LL_isHeapOrAll F), (98, (3, false), jca_LL1_tallyOrNoSuch F), (112, (1, false), jca_Hand_position F), (174, (2, false), jca_Hand_keptUnder F), (177, (2, false), jca_Values_hasMark F), (180, (3, false), jca_Values_firstBetween F)] 1 jc_L1
set_option maxRecDepth 100000 in
set_option maxHeartbeats 4000000 in
theorem jmet_LL1_apart (F : Nat) (sh : List jxC) (hs : jHas sh jc_L1) (σ0 : jxS) (v1 : Int) (v2 : Int) (x : Int) (σ' : jxS) (h : LL1_apart F σ0 v1 v2 = some (x, σ')) : jMC yX11_apart cX11_apart 4 (jrt 1) 6 141 sh σ0 [(jmr 0), (jmi v1), (jmi v2)] (jrv 1 x) σ' := by
  refine jMC_of (kd := 1) (by decide) rfl h ?_
  intro X hX
  have hG : jGd X (jE_LL1_apart F) jtb_LL1_apart := jGd_of hX jtk_LL1_apart (jcon jfl_X11_48 (jcon jfl_X11_108 (jcon jfl_X11_138 jnil))) jnil jnil (jcon (jsS jlk_X11_92 ⟨rfl, rfl⟩ (jad_LL_isHeapOrAll F sh jh_E)) (jcon (jsV jlk_X11_98 ⟨rfl, rfl⟩ (jad_LL1_tallyOrNoSuch F sh hs)) (jcon (jsV jlk_X11_112 ⟨rfl, rfl⟩ (jad_Hand_position F sh (jh_L1C hs))) (jcon (jsV jlk_X11_174 ⟨rfl, rfl⟩ (jad_Hand_keptUnder F sh (jh_L1C hs))) (jcon (jsV jlk_X11_177 ⟨rfl, rfl⟩ (jad_Values_hasMark F sh (jh_L1C hs))) (jcon (jsV jlk_X11_180 ⟨rfl, rfl⟩ (jad_Values_firstBetween F sh (jh_L1C hs))) jnil)))))) hs
  exact jRf_by (jex_ok hG (cs := []) jnil 51 0 [some (jmr 0), some (jmi v1), some (jmi v2), none] [] σ0) rfl
theorem jad_LL1_apart (F : Nat) (sh : List jxC) (hs : jHas sh jc_L1) : jAdV (jca_LL1_apart F) yX11_apart cX11_apart 4 1 6 141 2 sh := by
  intro as σ k x σ' h
  unfold jca_LL1_apart at h
  split at h
  · rename_i t0 v1 v2
    obtain ⟨g0, hh1⟩ := jcond h
    obtain rfl := jbeq g0
    obtain ⟨r, h1, h2⟩ := Option.bind_eq_some_iff.mp hh1
    exact ⟨_, _, h2, ⟨_, _, _, _, _, _, rfl, rfl, (hs _ (jkf_in (l := jc_L1) (idx := 0) rfl)).1, rfl⟩, jmet_LL1_apart F  sh hs σ v1 v2 r.1 r.2 h1⟩
  · cases h
def jtb_Values_firstAlike : List (Nat × Instr) := [(0, .aload_n 0), (1, .iload_n 1), (2, .invokevirtual 173), (5, .lstore_n 2), (6, .iconst 0), (7, .istore 4), (9, .iload 4), (11, .bipush 45), (13, .if_icmp .ge 23), (16, .aload_n 0), (17, .iload 4), (19, .invokevirtual 173), (22, .lload_n 2), (23, .lcmp), (24, .ifCond .ne 6), (27, .iload 4), (29, .ireturn), (30, .iinc 4 1), (33, .goto (-24)), (36, .iconst (-1)), (37, .ireturn)]
theorem jtk_Values_firstAlike : jtok cX10_firstAlike jtb_Values_firstAlike = true := by decide +kernel
def jE_Values_firstAlike (F : Nat) : jxE := jmk [] [] [] [(173, (2, false), jca_Values_markOf F)] 1 jc_C
set_option maxRecDepth 100000 in
set_option maxHeartbeats 4000000 in
theorem jmet_Values_firstAlike (F : Nat) (sh : List jxC) (hs : jHas sh jc_C) (σ0 : jxS) (v1 : Int) (x : Int) (σ' : jxS) (h : Values_firstAlike F σ0 v1 = some (x, σ')) : jMC yX10_firstAlike cX10_firstAlike 5 (jrt 1) 5 116 sh σ0 [(jmr 33), (jmi v1)] (jrv 1 x) σ' := by
  refine jMC_of (kd := 1) (by decide) rfl h ?_
  intro X hX
  have hG : jGd X (jE_Values_firstAlike F) jtb_Values_firstAlike := jGd_of hX jtk_Values_firstAlike jnil jnil jnil (jcon (jsV jlk_X10_173 ⟨rfl, rfl⟩ (jad_Values_markOf F sh hs)) jnil) hs
  have rr9 : ∀ (fu : Nat) (v2 v4 : Int) (σ : jxS), jRf X (Values_firstAlike_c9 F fu v2 v4 σ) 9 [some (jmr 33), none, some (jml v2), none, some (jmi v4)] [] σ := by
    intro  fu
    induction fu with
    | zero => intros; exact jRf_none
    | succ fu ih =>
      intro v2 v4 σ
      exact jRf_by (jex_ok hG (cs := [(9, [some (.inr (some 33)), none, some (.inl 1), none, some (.inl 0)], [], fun xs σ => match xs with
      | [v2, v4] => (Values_firstAlike_c9 F fu) v2 v4 σ
      | _ => none)]) (jcon (jl2 (fun y0 y1 => jl0 (fun σ => ih y0 y1 σ))) jnil) 24 9 [some (jmr 33), none, some (jml v2), none, some (jmi v4)] [] σ) rfl
  exact jRf_by (jex_ok hG (cs := [(9, [some (.inr (some 33)), none, some (.inl 1), none, some (.inl 0)], [], fun xs σ => match xs with
      | [v2, v4] => Values_firstAlike_c9 F F v2 v4 σ
      | _ => none)]) (jcon (jl2 (fun y0 y1 => jl0 (fun σ => rr9 F y0 y1 σ))) jnil) 24 0 [some (jmr 33), some (jmi v1), none, none, none] [] σ0) rfl
theorem jad_Values_firstAlike (F : Nat) (sh : List jxC) (hs : jHas sh jc_C) : jAdV (jca_Values_firstAlike F) yX10_firstAlike cX10_firstAlike 5 1 5 116 1 sh := by
  intro as σ k x σ' h
  unfold jca_Values_firstAlike at h
  split at h
  · rename_i t0 v1
    obtain ⟨g0, hh1⟩ := jcond h
    obtain rfl := jbeq g0
    obtain ⟨r, h1, h2⟩ := Option.bind_eq_some_iff.mp hh1
    exact ⟨_, _, h2, ⟨_, _, _, _, _, _, rfl, rfl, (hs _ (jkf_in (l := jc_C) (idx := 33) rfl)).1, rfl⟩, jmet_Values_firstAlike F  sh hs σ v1 r.1 r.2 h1⟩
  · cases h
def jtb_LL1_simplest : List (Nat × Instr) := [(0, .aload_n 0), (1, .getfield 48), (4, .ifnull 10), (7, .iload_n 1), (8, .invokestatic 92), (11, .ifCond .ne 5), (14, .iconst (-1)), (15, .ireturn), (16, .aload_n 0), (17, .getfield 48), (20, .getfield 138), (23, .aload_n 0), (24, .getfield 48), (27, .getfield 108), (30, .invokevirtual 112), (33, .invokevirtual 177), (36, .ifCond .ne 6), (39, .bipush (-3)), (41, .ireturn), (42, .aload_n 0), (43, .aload_n 0), (44, .getfield 48), (47, .getfield 138), (50, .aload_n 0), (51, .getfield 48), (54, .getfield 108), (57, .invokevirtual 112), (60, .invokevirtual 183), (63, .iload_n 1), (64, .invokevirtual 98), (67, .ireturn)]
theorem jtk_LL1_simplest : jtok cX11_simplest jtb_LL1_simplest = true := by decide +kernel
set_option maxRecDepth 100000 in
theorem jlk_X11_183 : jLkV RX11 183 yX10_firstAlike cX10_firstAlike 5 1 1 := ⟨(jTB_at 1088 rfl rfl), (jTB_at 1089 rfl rfl), (jTB_at 1090 rfl rfl), (jTB_at 125 rfl rfl), jTB_at 1091 rfl rfl, ⟨by decide, by decide, by decide +kernel⟩⟩
def jE_LL1_simplest (F : Nat) : jxE := jmk [(48, 11, 2), (108, 0, 3), (138, 0, 4)] [] [] [(92, (1, true), jca_LL_isHeapOrAll F), (98, (3, false), jca_LL1_tallyOrNoSuch F), (112, (1, false), jca_Hand_position F), (177, (2, false), jca_Values_hasMark F), (183, (2, false), jca_Values_firstAlike F)] 1 jc_L1
set_option maxRecDepth 100000 in
set_option maxHeartbeats 4000000 in
theorem jmet_LL1_simplest (F : Nat) (sh : List jxC) (hs : jHas sh jc_L1) (σ0 : jxS) (v1 : Int) (x : Int) (σ' : jxS) (h : LL1_simplest F σ0 v1 = some (x, σ')) : jMC yX11_simplest cX11_simplest 2 (jrt 1) 6 140 sh σ0 [(jmr 0), (jmi v1)] (jrv 1 x) σ' := by
  refine jMC_of (kd := 1) (by decide) rfl h ?_
  intro X hX
  have hG : jGd X (jE_LL1_simplest F) jtb_LL1_simplest := jGd_of hX jtk_LL1_simplest (jcon jfl_X11_48 (jcon jfl_X11_108 (jcon jfl_X11_138 jnil))) jnil jnil (jcon (jsS jlk_X11_92 ⟨rfl, rfl⟩ (jad_LL_isHeapOrAll F sh jh_E)) (jcon (jsV jlk_X11_98 ⟨rfl, rfl⟩ (jad_LL1_tallyOrNoSuch F sh hs)) (jcon (jsV jlk_X11_112 ⟨rfl, rfl⟩ (jad_Hand_position F sh (jh_L1C hs))) (jcon (jsV jlk_X11_177 ⟨rfl, rfl⟩ (jad_Values_hasMark F sh (jh_L1C hs))) (jcon (jsV jlk_X11_183 ⟨rfl, rfl⟩ (jad_Values_firstAlike F sh (jh_L1C hs))) jnil))))) hs
  exact jRf_by (jex_ok hG (cs := []) jnil 34 0 [some (jmr 0), some (jmi v1)] [] σ0) rfl
theorem jad_LL1_simplest (F : Nat) (sh : List jxC) (hs : jHas sh jc_L1) : jAdV (jca_LL1_simplest F) yX11_simplest cX11_simplest 2 1 6 140 1 sh := by
  intro as σ k x σ' h
  unfold jca_LL1_simplest at h
  split at h
  · rename_i t0 v1
    obtain ⟨g0, hh1⟩ := jcond h
    obtain rfl := jbeq g0
    obtain ⟨r, h1, h2⟩ := Option.bind_eq_some_iff.mp hh1
    exact ⟨_, _, h2, ⟨_, _, _, _, _, _, rfl, rfl, (hs _ (jkf_in (l := jc_L1) (idx := 0) rfl)).1, rfl⟩, jmet_LL1_simplest F  sh hs σ v1 r.1 r.2 h1⟩
  · cases h
def jtb_Board_answerAt : List (Nat × Instr) := [(0, .aload_n 0), (1, .getfield 57), (4, .aload_n 0), (5, .getfield 35), (8, .invokevirtual 103), (11, .invokevirtual 107), (14, .iconst 0), (15, .istore_n 2), (16, .iconst 0), (17, .istore_n 3), (18, .iload_n 3), (19, .aload_n 0), (20, .getfield 57), (23, .invokevirtual 111), (26, .if_icmp .ge 44), (29, .aload_n 0), (30, .getfield 50), (33, .aload_n 0), (34, .getfield 57), (37, .iload_n 3), (38, .invokevirtual 114), (41, .invokevirtual 117), (44, .ifCond .eq 20), (47, .iload_n 2), (48, .iload_n 1), (49, .if_icmp .ne 12), (52, .aload_n 0), (53, .getfield 57), (56, .iload_n 3), (57, .invokevirtual 123), (60, .ireturn), (61, .iinc 2 1), (64, .iinc 3 1), (67, .goto (-49)), (70, .iload_n 1), (71, .iconst (-1)), (72, .if_icmp .ne 7), (75, .iload_n 2), (76, .goto 5), (79, .bipush (-2)), (81, .ireturn)]
theorem jtk_Board_answerAt : jtok cX0_answerAt jtb_Board_answerAt = true := by decide +kernel
def jE_Board_answerAt (F : Nat) : jxE := jmk [(35, 0, 3), (50, 0, 4), (57, 0, 5)] [] [] [(103, (1, false), jca_Hand_position F), (107, (2, false), jca_Options_list F), (111, (1, false), jca_Options_size F), (114, (2, false), jca_Options_target F), (117, (2, false), jca_Values_loses F), (123, (2, false), jca_Options_code F)] 1 jc_C
set_option maxRecDepth 100000 in
set_option maxHeartbeats 4000000 in
theorem jmet_Board_answerAt (F : Nat) (sh : List jxC) (hs : jHas sh jc_C) (σ0 : jxS) (v1 : Int) (x : Int) (σ' : jxS) (h : Board_answerAt F σ0 v1 = some (x, σ')) : jMC yX0_answerAt cX0_answerAt 4 (jrt 1) 5 112 sh σ0 [(jmr 9), (jmi v1)] (jrv 1 x) σ' := by
  refine jMC_of (kd := 1) (by decide) rfl h ?_
  intro X hX
  have hG : jGd X (jE_Board_answerAt F) jtb_Board_answerAt := jGd_of hX jtk_Board_answerAt (jcon jfl_X0_35 (jcon jfl_X0_50 (jcon jfl_X0_57 jnil))) jnil jnil (jcon (jsV jlk_X0_103 ⟨rfl, rfl⟩ (jad_Hand_position F sh hs)) (jcon (jsV jlk_X0_107 ⟨rfl, rfl⟩ (jad_Options_list F sh hs)) (jcon (jsV jlk_X0_111 ⟨rfl, rfl⟩ (jad_Options_size F sh hs)) (jcon (jsV jlk_X0_114 ⟨rfl, rfl⟩ (jad_Options_target F sh hs)) (jcon (jsV jlk_X0_117 ⟨rfl, rfl⟩ (jad_Values_loses F sh hs)) (jcon (jsV jlk_X0_123 ⟨rfl, rfl⟩ (jad_Options_code F sh hs)) jnil)))))) hs
  have rr18 : ∀ (fu : Nat) (v1 v2 v3 : Int) (σ : jxS), jRf X (Board_answerAt_c18 F fu v1 v2 v3 σ) 18 [some (jmr 9), some (jmi v1), some (jmi v2), some (jmi v3)] [] σ := by
    intro  fu
    induction fu with
    | zero => intros; exact jRf_none
    | succ fu ih =>
      intro v1 v2 v3 σ
      exact jRf_by (jex_ok hG (cs := [(18, [some (.inr (some 9)), some (.inl 0), some (.inl 0), some (.inl 0)], [], fun xs σ => match xs with
      | [v1, v2, v3] => (Board_answerAt_c18 F fu) v1 v2 v3 σ
      | _ => none)]) (jcon (jl3 (fun y0 y1 y2 => jl0 (fun σ => ih y0 y1 y2 σ))) jnil) 44 18 [some (jmr 9), some (jmi v1), some (jmi v2), some (jmi v3)] [] σ) rfl
  exact jRf_by (jex_ok hG (cs := [(18, [some (.inr (some 9)), some (.inl 0), some (.inl 0), some (.inl 0)], [], fun xs σ => match xs with
      | [v1, v2, v3] => Board_answerAt_c18 F F v1 v2 v3 σ
      | _ => none)]) (jcon (jl3 (fun y0 y1 y2 => jl0 (fun σ => rr18 F y0 y1 y2 σ))) jnil) 44 0 [some (jmr 9), some (jmi v1), none, none] [] σ0) rfl
theorem jad_Board_answerAt (F : Nat) (sh : List jxC) (hs : jHas sh jc_C) : jAdV (jca_Board_answerAt F) yX0_answerAt cX0_answerAt 4 1 5 112 1 sh := by
  intro as σ k x σ' h
  unfold jca_Board_answerAt at h
  split at h
  · rename_i t0 v1
    obtain ⟨g0, hh1⟩ := jcond h
    obtain rfl := jbeq g0
    obtain ⟨r, h1, h2⟩ := Option.bind_eq_some_iff.mp hh1
    exact ⟨_, _, h2, ⟨_, _, _, _, _, _, rfl, rfl, (hs _ (jkf_in (l := jc_C) (idx := 9) rfl)).1, rfl⟩, jmet_Board_answerAt F  sh hs σ v1 r.1 r.2 h1⟩
  · cases h
def jtb_LL1_answers : List (Nat × Instr) := [(0, .aload_n 0), (1, .getfield 48), (4, .ifnull 8), (7, .iload_n 1), (8, .iconst (-1)), (9, .if_icmp .ge 7), (12, .iconst (-1)), (13, .goto 11), (16, .aload_n 0), (17, .getfield 48), (20, .iload_n 1), (21, .invokevirtual 186), (24, .ireturn)]
theorem jtk_LL1_answers : jtok cX11_answers jtb_LL1_answers = true := by decide +kernel
set_option maxRecDepth 100000 in
theorem jlk_X11_186 : jLkV RX11 186 yX0_answerAt cX0_answerAt 4 1 1 := ⟨(jTB_at 1096 rfl rfl), (jTB_at 1097 rfl rfl), (jTB_at 1098 rfl rfl), (jTB_at 120 rfl rfl), jTB_at 1099 rfl rfl, ⟨by decide, by decide, by decide +kernel⟩⟩
def jE_LL1_answers (F : Nat) : jxE := jmk [(48, 11, 2)] [] [] [(186, (2, false), jca_Board_answerAt F)] 1 jc_L1
set_option maxRecDepth 100000 in
set_option maxHeartbeats 4000000 in
theorem jmet_LL1_answers (F : Nat) (sh : List jxC) (hs : jHas sh jc_L1) (σ0 : jxS) (v1 : Int) (x : Int) (σ' : jxS) (h : LL1_answers F σ0 v1 = some (x, σ')) : jMC yX11_answers cX11_answers 2 (jrt 1) 6 135 sh σ0 [(jmr 0), (jmi v1)] (jrv 1 x) σ' := by
  refine jMC_of (kd := 1) (by decide) rfl h ?_
  intro X hX
  have hG : jGd X (jE_LL1_answers F) jtb_LL1_answers := jGd_of hX jtk_LL1_answers (jcon jfl_X11_48 jnil) jnil jnil (jcon (jsV jlk_X11_186 ⟨rfl, rfl⟩ (jad_Board_answerAt F sh (jh_L1C hs))) jnil) hs
  exact jRf_by (jex_ok hG (cs := []) jnil 16 0 [some (jmr 0), some (jmi v1)] [] σ0) rfl
theorem jad_LL1_answers (F : Nat) (sh : List jxC) (hs : jHas sh jc_L1) : jAdV (jca_LL1_answers F) yX11_answers cX11_answers 2 1 6 135 1 sh := by
  intro as σ k x σ' h
  unfold jca_LL1_answers at h
  split at h
  · rename_i t0 v1
    obtain ⟨g0, hh1⟩ := jcond h
    obtain rfl := jbeq g0
    obtain ⟨r, h1, h2⟩ := Option.bind_eq_some_iff.mp hh1
    exact ⟨_, _, h2, ⟨_, _, _, _, _, _, rfl, rfl, (hs _ (jkf_in (l := jc_L1) (idx := 0) rfl)).1, rfl⟩, jmet_LL1_answers F  sh hs σ v1 r.1 r.2 h1⟩
  · cases h
def jtb_LL1_draws : List (Nat × Instr) := [(0, .iload_n 1), (1, .ifCond .ge 5), (4, .iconst (-1)), (5, .ireturn), (6, .aload_n 0), (7, .getfield 25), (10, .istore_n 2), (11, .aload_n 0), (12, .iload_n 1), (13, .putfield 25), (16, .iload_n 2), (17, .ireturn)]
theorem jtk_LL1_draws : jtok cX11_draws jtb_LL1_draws = true := by decide +kernel
set_option maxRecDepth 100000 in
theorem jfl_X11_25 : jFl RX11 25 11 3 := ⟨RX11, TX11, 4, tyX11, rfl, by decide, jin_X11, tyX11_ok, nmX11, jow_X11, (Or.inl (jTB_at 201 rfl rfl))⟩
def jE_LL1_draws (F : Nat) : jxE := jmk [(25, 11, 3)] [] [] [] 1 jc_L1
set_option maxRecDepth 100000 in
set_option maxHeartbeats 4000000 in
theorem jmet_LL1_draws (F : Nat) (sh : List jxC) (hs : jHas sh jc_L1) (σ0 : jxS) (v1 : Int) (x : Int) (σ' : jxS) (h : LL1_draws F σ0 v1 = some (x, σ')) : jMC yX11_draws cX11_draws 3 (jrt 1) 0 0 sh σ0 [(jmr 0), (jmi v1)] (jrv 1 x) σ' := by
  refine jMC_of (kd := 1) (by decide) rfl h ?_
  intro X hX
  have hG : jGd X (jE_LL1_draws F) jtb_LL1_draws := jGd_of hX jtk_LL1_draws (jcon jfl_X11_25 jnil) jnil jnil jnil hs
  exact jRf_by (jex_ok hG (cs := []) jnil 15 0 [some (jmr 0), some (jmi v1), none] [] σ0) rfl
theorem jad_LL1_draws (F : Nat) (sh : List jxC) (hs : jHas sh jc_L1) : jAdV (jca_LL1_draws F) yX11_draws cX11_draws 3 1 0 0 1 sh := by
  intro as σ k x σ' h
  unfold jca_LL1_draws at h
  split at h
  · rename_i t0 v1
    obtain ⟨g0, hh1⟩ := jcond h
    obtain rfl := jbeq g0
    obtain ⟨r, h1, h2⟩ := Option.bind_eq_some_iff.mp hh1
    exact ⟨_, _, h2, ⟨_, _, _, _, _, _, rfl, rfl, (hs _ (jkf_in (l := jc_L1) (idx := 0) rfl)).1, rfl⟩, jmet_LL1_draws F  sh hs σ v1 r.1 r.2 h1⟩
  · cases h
def jtb_Board_movesOf : List (Nat × Instr) := [(0, .iconst 0), (1, .istore_n 2), (2, .aload_n 0), (3, .getfield 28), (6, .iload_n 1), (7, .invokevirtual 145), (10, .istore_n 3), (11, .iload_n 3), (12, .aload_n 0), (13, .getfield 28), (16, .iload_n 1), (17, .invokevirtual 148), (20, .if_icmp .ge 42), (23, .aload_n 0), (24, .getfield 28), (27, .iload_n 3), (28, .invokevirtual 151), (31, .istore 4), (33, .iload_n 2), (34, .aload_n 0), (35, .getfield 28), (38, .iload_n 1), (39, .iload 4), (41, .invokevirtual 154), (44, .aload_n 0), (45, .getfield 12), (48, .iload 4), (50, .invokevirtual 157), (53, .imul), (54, .iadd), (55, .istore_n 2), (56, .iinc 3 1), (59, .goto (-48)), (62, .iload_n 2), (63, .ireturn)]
theorem jtk_Board_movesOf : jtok cX0_movesOf jtb_Board_movesOf = true := by decide +kernel
set_option maxRecDepth 100000 in
theorem jlk_X0_145 : jLkV RX0 145 yX5_firstPart cX5_firstPart 2 1 1 := ⟨(jTB_at 1116 rfl rfl), (jTB_at 454 rfl rfl), (jTB_at 455 rfl rfl), (jTB_at 123 rfl rfl), jTB_at 456 rfl rfl, ⟨by decide, by decide, by decide +kernel⟩⟩
set_option maxRecDepth 100000 in
theorem jlk_X0_148 : jLkV RX0 148 yX5_endPart cX5_endPart 2 1 1 := ⟨(jTB_at 1117 rfl rfl), (jTB_at 447 rfl rfl), (jTB_at 448 rfl rfl), (jTB_at 123 rfl rfl), jTB_at 449 rfl rfl, ⟨by decide, by decide, by decide +kernel⟩⟩
set_option maxRecDepth 100000 in
theorem jlk_X0_151 : jLkV RX0 151 yX5_heapOf cX5_heapOf 2 1 1 := ⟨(jTB_at 1118 rfl rfl), (jTB_at 458 rfl rfl), (jTB_at 459 rfl rfl), (jTB_at 123 rfl rfl), jTB_at 460 rfl rfl, ⟨by decide, by decide, by decide +kernel⟩⟩
set_option maxRecDepth 100000 in
theorem jlk_X0_154 : jLkV RX0 154 yX5_countOf cX5_countOf 6 1 2 := ⟨(jTB_at 1119 rfl rfl), (jTB_at 878 rfl rfl), (jTB_at 879 rfl rfl), (jTB_at 123 rfl rfl), jTB_at 880 rfl rfl, ⟨by decide, by decide, by decide +kernel⟩⟩
set_option maxRecDepth 100000 in
theorem jlk_X0_157 : jLkV RX0 157 yX8_moveCount cX8_moveCount 2 1 1 := ⟨(jTB_at 1120 rfl rfl), (jTB_at 747 rfl rfl), (jTB_at 748 rfl rfl), (jTB_at 121 rfl rfl), jTB_at 749 rfl rfl, ⟨by decide, by decide, by decide +kernel⟩⟩
def jE_Board_movesOf (F : Nat) : jxE := jmk [(12, 0, 0), (28, 0, 2)] [] [] [(145, (2, false), jca_Positions_firstPart F), (148, (2, false), jca_Positions_endPart F), (151, (2, false), jca_Positions_heapOf F), (154, (3, false), jca_Positions_countOf F), (157, (2, false), jca_Rules_moveCount F)] 1 jc_C
set_option maxRecDepth 100000 in
set_option maxHeartbeats 4000000 in
theorem jmet_Board_movesOf (F : Nat) (sh : List jxC) (hs : jHas sh jc_C) (σ0 : jxS) (v1 : Int) (x : Int) (σ' : jxS) (h : Board_movesOf F σ0 v1 = some (x, σ')) : jMC yX0_movesOf cX0_movesOf 5 (jrt 1) 4 89 sh σ0 [(jmr 9), (jmi v1)] (jrv 1 x) σ' := by
  refine jMC_of (kd := 1) (by decide) rfl h ?_
  intro X hX
  have hG : jGd X (jE_Board_movesOf F) jtb_Board_movesOf := jGd_of hX jtk_Board_movesOf (jcon jfl_X0_12 (jcon jfl_X0_28 jnil)) jnil jnil (jcon (jsV jlk_X0_145 ⟨rfl, rfl⟩ (jad_Positions_firstPart F sh (jh_CP hs))) (jcon (jsV jlk_X0_148 ⟨rfl, rfl⟩ (jad_Positions_endPart F sh (jh_CP hs))) (jcon (jsV jlk_X0_151 ⟨rfl, rfl⟩ (jad_Positions_heapOf F sh (jh_CP hs))) (jcon (jsV jlk_X0_154 ⟨rfl, rfl⟩ (jad_Positions_countOf F sh (jh_CP hs))) (jcon (jsV jlk_X0_157 ⟨rfl, rfl⟩ (jad_Rules_moveCount F sh hs)) jnil))))) hs
  have rr11 : ∀ (fu : Nat) (v1 v2 v3 : Int) (σ : jxS), jRf X (Board_movesOf_c11 F fu v1 v2 v3 σ) 11 [some (jmr 9), some (jmi v1), some (jmi v2), some (jmi v3), none] [] σ := by
    intro  fu
    induction fu with
    | zero => intros; exact jRf_none
    | succ fu ih =>
      intro v1 v2 v3 σ
      exact jRf_by (jex_ok hG (cs := [(11, [some (.inr (some 9)), some (.inl 0), some (.inl 0), some (.inl 0), none], [], fun xs σ => match xs with
      | [v1, v2, v3] => (Board_movesOf_c11 F fu) v1 v2 v3 σ
      | _ => none)]) (jcon (jl3 (fun y0 y1 y2 => jl0 (fun σ => ih y0 y1 y2 σ))) jnil) 38 11 [some (jmr 9), some (jmi v1), some (jmi v2), some (jmi v3), none] [] σ) rfl
  exact jRf_by (jex_ok hG (cs := [(11, [some (.inr (some 9)), some (.inl 0), some (.inl 0), some (.inl 0), none], [], fun xs σ => match xs with
      | [v1, v2, v3] => Board_movesOf_c11 F F v1 v2 v3 σ
      | _ => none)]) (jcon (jl3 (fun y0 y1 y2 => jl0 (fun σ => rr11 F y0 y1 y2 σ))) jnil) 38 0 [some (jmr 9), some (jmi v1), none, none, none] [] σ0) rfl
theorem jad_Board_movesOf (F : Nat) (sh : List jxC) (hs : jHas sh jc_C) : jAdV (jca_Board_movesOf F) yX0_movesOf cX0_movesOf 5 1 4 89 1 sh := by
  intro as σ k x σ' h
  unfold jca_Board_movesOf at h
  split at h
  · rename_i t0 v1
    obtain ⟨g0, hh1⟩ := jcond h
    obtain rfl := jbeq g0
    obtain ⟨r, h1, h2⟩ := Option.bind_eq_some_iff.mp hh1
    exact ⟨_, _, h2, ⟨_, _, _, _, _, _, rfl, rfl, (hs _ (jkf_in (l := jc_C) (idx := 9) rfl)).1, rfl⟩, jmet_Board_movesOf F  sh hs σ v1 r.1 r.2 h1⟩
  · cases h
def jtb_Board_afterMove : List (Nat × Instr) := [(0, .iload_n 2), (1, .istore_n 3), (2, .aload_n 0), (3, .getfield 28), (6, .iload_n 1), (7, .invokevirtual 145), (10, .istore 4), (12, .iload 4), (14, .aload_n 0), (15, .getfield 28), (18, .iload_n 1), (19, .invokevirtual 148), (22, .if_icmp .ge 96), (25, .aload_n 0), (26, .getfield 28), (29, .iload 4), (31, .invokevirtual 151), (34, .istore 5), (36, .aload_n 0), (37, .getfield 12), (40, .iload 5), (42, .invokevirtual 157), (45, .istore 6), (47, .aload_n 0), (48, .getfield 28), (51, .iload_n 1), (52, .iload 5), (54, .invokevirtual 154), (57, .iload 6), (59, .imul), (60, .istore 7), (62, .iload_n 3), (63, .iload 7), (65, .if_icmp .ge 42), (68, .iload 6), (70, .ifCond .le 37), (73, .aload_n 0), (74, .getfield 12), (77, .iload 5), (79, .iload_n 3), (80, .iload 6), (82, .irem), (83, .invokevirtual 160), (86, .istore 8), (88, .aload_n 0), (89, .getfield 28), (92, .aload_n 0), (93, .getfield 28), (96, .iload 4), (98, .invokevirtual 163), (101, .iload 8), (103, .invokevirtual 166), (106, .ireturn), (107, .iload_n 3), (108, .iload 7), (110, .isub), (111, .istore_n 3), (112, .iinc 4 1), (115, .goto (-103)), (118, .iload_n 1), (119, .ireturn)]
theorem jtk_Board_afterMove : jtok cX0_afterMove jtb_Board_afterMove = true := by decide +kernel
set_option maxRecDepth 100000 in
theorem jlk_X0_160 : jLkV RX0 160 yX8_moveAt cX8_moveAt 3 1 2 := ⟨(jTB_at 1128 rfl rfl), (jTB_at 755 rfl rfl), (jTB_at 756 rfl rfl), (jTB_at 121 rfl rfl), jTB_at 757 rfl rfl, ⟨by decide, by decide, by decide +kernel⟩⟩
set_option maxRecDepth 100000 in
theorem jlk_X0_163 : jLkV RX0 163 yX5_restOf cX5_restOf 2 1 1 := ⟨(jTB_at 1129 rfl rfl), (jTB_at 462 rfl rfl), (jTB_at 463 rfl rfl), (jTB_at 123 rfl rfl), jTB_at 464 rfl rfl, ⟨by decide, by decide, by decide +kernel⟩⟩
set_option maxRecDepth 100000 in
theorem jlk_X0_166 : jLkV RX0 166 yX5_joinMove cX5_joinMove 6 1 2 := ⟨(jTB_at 1130 rfl rfl), (jTB_at 852 rfl rfl), (jTB_at 853 rfl rfl), (jTB_at 123 rfl rfl), jTB_at 854 rfl rfl, ⟨by decide, by decide, by decide +kernel⟩⟩
def jE_Board_afterMove (F : Nat) : jxE := jmk [(12, 0, 0), (28, 0, 2)] [] [] [(145, (2, false), jca_Positions_firstPart F), (148, (2, false), jca_Positions_endPart F), (151, (2, false), jca_Positions_heapOf F), (154, (3, false), jca_Positions_countOf F), (157, (2, false), jca_Rules_moveCount F), (160, (3, false), jca_Rules_moveAt F), (163, (2, false), jca_Positions_restOf F), (166, (3, false), jca_Positions_joinMove F)] 1 jc_C
set_option maxRecDepth 100000 in
set_option maxHeartbeats 4000000 in
theorem jmet_Board_afterMove (F : Nat) (sh : List jxC) (hs : jHas sh jc_C) (σ0 : jxS) (v1 : Int) (v2 : Int) (x : Int) (σ' : jxS) (h : Board_afterMove F σ0 v1 v2 = some (x, σ')) : jMC yX0_afterMove cX0_afterMove 9 (jrt 1) 4 89 sh σ0 [(jmr 9), (jmi v1), (jmi v2)] (jrv 1 x) σ' := by
  refine jMC_of (kd := 1) (by decide) rfl h ?_
  intro X hX
  have hG : jGd X (jE_Board_afterMove F) jtb_Board_afterMove := jGd_of hX jtk_Board_afterMove (jcon jfl_X0_12 (jcon jfl_X0_28 jnil)) jnil jnil (jcon (jsV jlk_X0_145 ⟨rfl, rfl⟩ (jad_Positions_firstPart F sh (jh_CP hs))) (jcon (jsV jlk_X0_148 ⟨rfl, rfl⟩ (jad_Positions_endPart F sh (jh_CP hs))) (jcon (jsV jlk_X0_151 ⟨rfl, rfl⟩ (jad_Positions_heapOf F sh (jh_CP hs))) (jcon (jsV jlk_X0_154 ⟨rfl, rfl⟩ (jad_Positions_countOf F sh (jh_CP hs))) (jcon (jsV jlk_X0_157 ⟨rfl, rfl⟩ (jad_Rules_moveCount F sh hs)) (jcon (jsV jlk_X0_160 ⟨rfl, rfl⟩ (jad_Rules_moveAt F sh hs)) (jcon (jsV jlk_X0_163 ⟨rfl, rfl⟩ (jad_Positions_restOf F sh (jh_CP hs))) (jcon (jsV jlk_X0_166 ⟨rfl, rfl⟩ (jad_Positions_joinMove F sh (jh_CP hs))) jnil)))))))) hs
  have rr107 : ∀ (k12 : Int → Int → Int → jxS → Option jxR) (h12 : ∀ v1 v3 v4 σ, jRf X (k12 v1 v3 v4 σ) 12 [some (jmr 9), some (jmi v1), none, some (jmi v3), some (jmi v4), none, none, none, none] [] σ) (v1 v3 v4 v7 : Int) (σ : jxS), jRf X (Board_afterMove_c107 F k12 v1 v3 v4 v7 σ) 107 [some (jmr 9), some (jmi v1), none, some (jmi v3), some (jmi v4), none, none, some (jmi v7), none] [] σ := by
    intro k12 h12 v1 v3 v4 v7 σ
    exact jRf_by (jex_ok hG (cs := [(12, [some (.inr (some 9)), some (.inl 0), none, some (.inl 0), some (.inl 0), none, none, none, none], [], fun xs σ => match xs with
      | [v1, v3, v4] => k12 v1 v3 v4 σ
      | _ => none)]) (jcon (jl3 (fun y0 y1 y2 => jl0 (fun σ => h12 y0 y1 y2 σ))) jnil) 64 107 [some (jmr 9), some (jmi v1), none, some (jmi v3), some (jmi v4), none, none, some (jmi v7), none] [] σ) rfl
  have rr12 : ∀ (fu : Nat) (v1 v3 v4 : Int) (σ : jxS), jRf X (Board_afterMove_c12 F fu v1 v3 v4 σ) 12 [some (jmr 9), some (jmi v1), none, some (jmi v3), some (jmi v4), none, none, none, none] [] σ := by
    intro  fu
    induction fu with
    | zero => intros; exact jRf_none
    | succ fu ih =>
      intro v1 v3 v4 σ
      exact jRf_by (jex_ok hG (cs := [(107, [some (.inr (some 9)), some (.inl 0), none, some (.inl 0), some (.inl 0), none, none, some (.inl 0), none], [], fun xs σ => match xs with
      | [v1, v3, v4, v7] => Board_afterMove_c107 F (Board_afterMove_c12 F fu) v1 v3 v4 v7 σ
      | _ => none)]) (jcon (jl4 (fun y0 y1 y2 y3 => jl0 (fun σ => rr107 _ ih y0 y1 y2 y3 σ))) jnil) 64 12 [some (jmr 9), some (jmi v1), none, some (jmi v3), some (jmi v4), none, none, none, none] [] σ) rfl
  exact jRf_by (jex_ok hG (cs := [(12, [some (.inr (some 9)), some (.inl 0), none, some (.inl 0), some (.inl 0), none, none, none, none], [], fun xs σ => match xs with
      | [v1, v3, v4] => Board_afterMove_c12 F F v1 v3 v4 σ
      | _ => none)]) (jcon (jl3 (fun y0 y1 y2 => jl0 (fun σ => rr12 F y0 y1 y2 σ))) jnil) 64 0 [some (jmr 9), some (jmi v1), some (jmi v2), none, none, none, none, none, none] [] σ0) rfl
theorem jad_Board_afterMove (F : Nat) (sh : List jxC) (hs : jHas sh jc_C) : jAdV (jca_Board_afterMove F) yX0_afterMove cX0_afterMove 9 1 4 89 2 sh := by
  intro as σ k x σ' h
  unfold jca_Board_afterMove at h
  split at h
  · rename_i t0 v1 v2
    obtain ⟨g0, hh1⟩ := jcond h
    obtain rfl := jbeq g0
    obtain ⟨r, h1, h2⟩ := Option.bind_eq_some_iff.mp hh1
    exact ⟨_, _, h2, ⟨_, _, _, _, _, _, rfl, rfl, (hs _ (jkf_in (l := jc_C) (idx := 9) rfl)).1, rfl⟩, jmet_Board_afterMove F  sh hs σ v1 v2 r.1 r.2 h1⟩
  · cases h
def jtb_Board_drawGames : List (Nat × Instr) := [(0, .iload_n 3), (1, .istore 4), (3, .iconst 0), (4, .istore 5), (6, .iconst 0), (7, .istore 6), (9, .iconst 0), (10, .istore 7), (12, .iload 7), (14, .iload_n 1), (15, .if_icmp .ge 112), (18, .iload 7), (20, .bipush 20), (22, .if_icmp .ge 105), (25, .aload_n 0), (26, .getfield 35), (29, .invokevirtual 103), (32, .istore 8), (34, .iload 6), (36, .istore 9), (38, .aload_n 0), (39, .iload 8), (41, .invokevirtual 135), (44, .istore 10), (46, .iconst 0), (47, .istore 11), (49, .iload 11), (51, .bipush 22), (53, .if_icmp .ge 55), (56, .iload 10), (58, .ifCond .le 50), (61, .iload 4), (63, .ldc 138), (65, .imul), (66, .sipush 12345), (69, .iadd), (70, .ldc 139), (72, .iand), (73, .istore 4), (75, .aload_n 0), (76, .iload 8), (78, .iload 4), (80, .ldc 140), (82, .idiv), (83, .iload 10), (85, .irem), (86, .invokevirtual 141), (89, .istore 8), (91, .iinc 6 1), (94, .aload_n 0), (95, .iload 8), (97, .invokevirtual 135), (100, .istore 10), (102, .iinc 11 1), (105, .goto (-56)), (108, .iload 6), (110, .iload 9), (112, .isub), (113, .iconst 2), (114, .irem), (115, .ifCond .ne 6), (118, .iinc 5 1), (121, .iinc 7 1), (124, .goto (-112)), (127, .iload_n 2), (128, .ifCond .ne 8), (131, .iload 5), (133, .goto 5), (136, .iload 6), (138, .ireturn)]
theorem jtk_Board_drawGames : jtok cX0_drawGames jtb_Board_drawGames = true := by decide +kernel
set_option maxRecDepth 100000 in
theorem jlk_X0_135 : jLkV RX0 135 yX0_movesOf cX0_movesOf 5 1 1 := ⟨(jTB_at 1112 rfl rfl), (jTB_at 1114 rfl rfl), (jTB_at 34 rfl rfl), (jTB_at 120 rfl rfl), jTB_at 1115 rfl rfl, ⟨by decide, by decide, by decide +kernel⟩⟩
set_option maxRecDepth 100000 in
theorem jlk_X0_141 : jLkV RX0 141 yX0_afterMove cX0_afterMove 9 1 2 := ⟨(jTB_at 1124 rfl rfl), (jTB_at 1126 rfl rfl), (jTB_at 35 rfl rfl), (jTB_at 120 rfl rfl), jTB_at 1127 rfl rfl, ⟨by decide, by decide, by decide +kernel⟩⟩
def jE_Board_drawGames (F : Nat) : jxE := jmk [(35, 0, 3)] [(138, jmi 1103515245), (139, jmi 2147483647), (140, jmi 65536)] [] [(103, (1, false), jca_Hand_position F), (135, (2, false), jca_Board_movesOf F), (141, (3, false), jca_Board_afterMove F)] 1 jc_C
set_option maxRecDepth 100000 in
set_option maxHeartbeats 4000000 in
theorem jmet_Board_drawGames (F : Nat) (sh : List jxC) (hs : jHas sh jc_C) (σ0 : jxS) (v1 : Int) (v2 : Int) (v3 : Int) (x : Int) (σ' : jxS) (h : Board_drawGames F σ0 v1 v2 v3 = some (x, σ')) : jMC yX0_drawGames cX0_drawGames 12 (jrt 1) 5 117 sh σ0 [(jmr 9), (jmi v1), (jmi v2), (jmi v3)] (jrv 1 x) σ' := by
  refine jMC_of (kd := 1) (by decide) rfl h ?_
  intro X hX
  have hG : jGd X (jE_Board_drawGames F) jtb_Board_drawGames := jGd_of hX jtk_Board_drawGames (jcon jfl_X0_35 jnil) (jcon (jTB_at 1121 rfl rfl) (jcon (jTB_at 1122 rfl rfl) (jcon (jTB_at 1123 rfl rfl) jnil))) jnil (jcon (jsV jlk_X0_103 ⟨rfl, rfl⟩ (jad_Hand_position F sh hs)) (jcon (jsV jlk_X0_135 ⟨rfl, rfl⟩ (jad_Board_movesOf F sh hs)) (jcon (jsV jlk_X0_141 ⟨rfl, rfl⟩ (jad_Board_afterMove F sh hs)) jnil))) hs
  have rr127 : ∀ (v2 v5 v6 : Int) (σ : jxS), jRf X (Board_drawGames_c127 F v2 v5 v6 σ) 127 [none, none, some (jmi v2), none, none, some (jmi v5), some (jmi v6), none, none, none, none, none] [] σ := by
    intro  v2 v5 v6 σ
    exact jRf_by (jex_ok hG (cs := []) jnil 73 127 [none, none, some (jmi v2), none, none, some (jmi v5), some (jmi v6), none, none, none, none, none] [] σ) rfl
  have rr108 : ∀ (k12 : Int → Int → Int → Int → Int → Int → jxS → Option jxR) (h12 : ∀ v1 v2 v4 v5 v6 v7 σ, jRf X (k12 v1 v2 v4 v5 v6 v7 σ) 12 [some (jmr 9), some (jmi v1), some (jmi v2), none, some (jmi v4), some (jmi v5), some (jmi v6), some (jmi v7), none, none, none, none] [] σ) (v1 v2 v4 v5 v6 v7 v9 : Int) (σ : jxS), jRf X (Board_drawGames_c108 F k12 v1 v2 v4 v5 v6 v7 v9 σ) 108 [some (jmr 9), some (jmi v1), some (jmi v2), none, some (jmi v4), some (jmi v5), some (jmi v6), some (jmi v7), none, some (jmi v9), none, none] [] σ := by
    intro k12 h12 v1 v2 v4 v5 v6 v7 v9 σ
    exact jRf_by (jex_ok hG (cs := [(12, [some (.inr (some 9)), some (.inl 0), some (.inl 0), none, some (.inl 0), some (.inl 0), some (.inl 0), some (.inl 0), none, none, none, none], [], fun xs σ => match xs with
      | [v1, v2, v4, v5, v6, v7] => k12 v1 v2 v4 v5 v6 v7 σ
      | _ => none)]) (jcon (jl6 (fun y0 y1 y2 y3 y4 y5 => jl0 (fun σ => h12 y0 y1 y2 y3 y4 y5 σ))) jnil) 73 108 [some (jmr 9), some (jmi v1), some (jmi v2), none, some (jmi v4), some (jmi v5), some (jmi v6), some (jmi v7), none, some (jmi v9), none, none] [] σ) rfl
  have rr49 : ∀ (k12 : Int → Int → Int → Int → Int → Int → jxS → Option jxR) (h12 : ∀ v1 v2 v4 v5 v6 v7 σ, jRf X (k12 v1 v2 v4 v5 v6 v7 σ) 12 [some (jmr 9), some (jmi v1), some (jmi v2), none, some (jmi v4), some (jmi v5), some (jmi v6), some (jmi v7), none, none, none, none] [] σ) (fu : Nat) (v1 v2 v4 v5 v6 v7 v8 v9 v10 v11 : Int) (σ : jxS), jRf X (Board_drawGames_c49 F k12 fu v1 v2 v4 v5 v6 v7 v8 v9 v10 v11 σ) 49 [some (jmr 9), some (jmi v1), some (jmi v2), none, some (jmi v4), some (jmi v5), some (jmi v6), some (jmi v7), some (jmi v8), some (jmi v9), some (jmi v10), some (jmi v11)] [] σ := by
    intro k12 h12 fu
    induction fu with
    | zero => intros; exact jRf_none
    | succ fu ih =>
      intro v1 v2 v4 v5 v6 v7 v8 v9 v10 v11 σ
      exact jRf_by (jex_ok hG (cs := [(49, [some (.inr (some 9)), some (.inl 0), some (.inl 0), none, some (.inl 0), some (.inl 0), some (.inl 0), some (.inl 0), some (.inl 0), some (.inl 0), some (.inl 0), some (.inl 0)], [], fun xs σ => match xs with
      | [v1, v2, v4, v5, v6, v7, v8, v9, v10, v11] => (Board_drawGames_c49 F k12 fu) v1 v2 v4 v5 v6 v7 v8 v9 v10 v11 σ
      | _ => none), (108, [some (.inr (some 9)), some (.inl 0), some (.inl 0), none, some (.inl 0), some (.inl 0), some (.inl 0), some (.inl 0), none, some (.inl 0), none, none], [], fun xs σ => match xs with
      | [v1, v2, v4, v5, v6, v7, v9] => Board_drawGames_c108 F k12 v1 v2 v4 v5 v6 v7 v9 σ
      | _ => none)]) (jcon (jl10 (fun y0 y1 y2 y3 y4 y5 y6 y7 y8 y9 => jl0 (fun σ => ih y0 y1 y2 y3 y4 y5 y6 y7 y8 y9 σ))) (jcon (jl7 (fun y0 y1 y2 y3 y4 y5 y6 => jl0 (fun σ => rr108 _ h12 y0 y1 y2 y3 y4 y5 y6 σ))) jnil)) 73 49 [some (jmr 9), some (jmi v1), some (jmi v2), none, some (jmi v4), some (jmi v5), some (jmi v6), some (jmi v7), some (jmi v8), some (jmi v9), some (jmi v10), some (jmi v11)] [] σ) rfl
  have rr12 : ∀ (fu : Nat) (v1 v2 v4 v5 v6 v7 : Int) (σ : jxS), jRf X (Board_drawGames_c12 F fu v1 v2 v4 v5 v6 v7 σ) 12 [some (jmr 9), some (jmi v1), some (jmi v2), none, some (jmi v4), some (jmi v5), some (jmi v6), some (jmi v7), none, none, none, none] [] σ := by
    intro  fu
    induction fu with
    | zero => intros; exact jRf_none
    | succ fu ih =>
      intro v1 v2 v4 v5 v6 v7 σ
      exact jRf_by (jex_ok hG (cs := [(49, [some (.inr (some 9)), some (.inl 0), some (.inl 0), none, some (.inl 0), some (.inl 0), some (.inl 0), some (.inl 0), some (.inl 0), some (.inl 0), some (.inl 0), some (.inl 0)], [], fun xs σ => match xs with
      | [v1, v2, v4, v5, v6, v7, v8, v9, v10, v11] => Board_drawGames_c49 F (Board_drawGames_c12 F fu) F v1 v2 v4 v5 v6 v7 v8 v9 v10 v11 σ
      | _ => none), (127, [none, none, some (.inl 0), none, none, some (.inl 0), some (.inl 0), none, none, none, none, none], [], fun xs σ => match xs with
      | [v2, v5, v6] => Board_drawGames_c127 F v2 v5 v6 σ
      | _ => none)]) (jcon (jl10 (fun y0 y1 y2 y3 y4 y5 y6 y7 y8 y9 => jl0 (fun σ => rr49 _ ih F y0 y1 y2 y3 y4 y5 y6 y7 y8 y9 σ))) (jcon (jl3 (fun y0 y1 y2 => jl0 (fun σ => rr127 y0 y1 y2 σ))) jnil)) 73 12 [some (jmr 9), some (jmi v1), some (jmi v2), none, some (jmi v4), some (jmi v5), some (jmi v6), some (jmi v7), none, none, none, none] [] σ) rfl
  exact jRf_by (jex_ok hG (cs := [(12, [some (.inr (some 9)), some (.inl 0), some (.inl 0), none, some (.inl 0), some (.inl 0), some (.inl 0), some (.inl 0), none, none, none, none], [], fun xs σ => match xs with
      | [v1, v2, v4, v5, v6, v7] => Board_drawGames_c12 F F v1 v2 v4 v5 v6 v7 σ
      | _ => none)]) (jcon (jl6 (fun y0 y1 y2 y3 y4 y5 => jl0 (fun σ => rr12 F y0 y1 y2 y3 y4 y5 σ))) jnil) 73 0 [some (jmr 9), some (jmi v1), some (jmi v2), some (jmi v3), none, none, none, none, none, none, none, none] [] σ0) rfl
theorem jad_Board_drawGames (F : Nat) (sh : List jxC) (hs : jHas sh jc_C) : jAdV (jca_Board_drawGames F) yX0_drawGames cX0_drawGames 12 1 5 117 3 sh := by
  intro as σ k x σ' h
  unfold jca_Board_drawGames at h
  split at h
  · rename_i t0 v1 v2 v3
    obtain ⟨g0, hh1⟩ := jcond h
    obtain rfl := jbeq g0
    obtain ⟨r, h1, h2⟩ := Option.bind_eq_some_iff.mp hh1
    exact ⟨_, _, h2, ⟨_, _, _, _, _, _, rfl, rfl, (hs _ (jkf_in (l := jc_C) (idx := 9) rfl)).1, rfl⟩, jmet_Board_drawGames F  sh hs σ v1 v2 v3 r.1 r.2 h1⟩
  · cases h
def jtb_LL1_games : List (Nat × Instr) := [(0, .aload_n 0), (1, .getfield 48), (4, .ifnull 23), (7, .iload_n 1), (8, .iconst 1), (9, .if_icmp .lt 18), (12, .iload_n 1), (13, .bipush 20), (15, .if_icmp .gt 12), (18, .iload_n 2), (19, .ifCond .lt 8), (22, .iload_n 2), (23, .iconst 1), (24, .if_icmp .le 5), (27, .iconst (-1)), (28, .ireturn), (29, .aload_n 0), (30, .getfield 48), (33, .iload_n 1), (34, .iload_n 2), (35, .aload_n 0), (36, .getfield 25), (39, .invokevirtual 189), (42, .ireturn)]
theorem jtk_LL1_games : jtok cX11_games jtb_LL1_games = true := by decide +kernel
set_option maxRecDepth 100000 in
theorem jlk_X11_189 : jLkV RX11 189 yX0_drawGames cX0_drawGames 12 1 3 := ⟨(jTB_at 1108 rfl rfl), (jTB_at 1109 rfl rfl), (jTB_at 1110 rfl rfl), (jTB_at 120 rfl rfl), jTB_at 1111 rfl rfl, ⟨by decide, by decide, by decide +kernel⟩⟩
def jE_LL1_games (F : Nat) : jxE := jmk [(25, 11, 3), (48, 11, 2)] [] [] [(189, (4, false), jca_Board_drawGames F)] 1 jc_L1
set_option maxRecDepth 100000 in
set_option maxHeartbeats 4000000 in
theorem jmet_LL1_games (F : Nat) (sh : List jxC) (hs : jHas sh jc_L1) (σ0 : jxS) (v1 : Int) (v2 : Int) (x : Int) (σ' : jxS) (h : LL1_games F σ0 v1 v2 = some (x, σ')) : jMC yX11_games cX11_games 3 (jrt 1) 6 148 sh σ0 [(jmr 0), (jmi v1), (jmi v2)] (jrv 1 x) σ' := by
  refine jMC_of (kd := 1) (by decide) rfl h ?_
  intro X hX
  have hG : jGd X (jE_LL1_games F) jtb_LL1_games := jGd_of hX jtk_LL1_games (jcon jfl_X11_25 (jcon jfl_X11_48 jnil)) jnil jnil (jcon (jsV jlk_X11_189 ⟨rfl, rfl⟩ (jad_Board_drawGames F sh (jh_L1C hs))) jnil) hs
  exact jRf_by (jex_ok hG (cs := []) jnil 27 0 [some (jmr 0), some (jmi v1), some (jmi v2)] [] σ0) rfl
theorem jad_LL1_games (F : Nat) (sh : List jxC) (hs : jHas sh jc_L1) : jAdV (jca_LL1_games F) yX11_games cX11_games 3 1 6 148 2 sh := by
  intro as σ k x σ' h
  unfold jca_LL1_games at h
  split at h
  · rename_i t0 v1 v2
    obtain ⟨g0, hh1⟩ := jcond h
    obtain rfl := jbeq g0
    obtain ⟨r, h1, h2⟩ := Option.bind_eq_some_iff.mp hh1
    exact ⟨_, _, h2, ⟨_, _, _, _, _, _, rfl, rfl, (hs _ (jkf_in (l := jc_L1) (idx := 0) rfl)).1, rfl⟩, jmet_LL1_games F  sh hs σ v1 v2 r.1 r.2 h1⟩
  · cases h
def jtb_Positions_biggestHeap : List (Nat × Instr) := [(0, .aload_n 0), (1, .iload_n 1), (2, .invokevirtual 52), (5, .aload_n 0), (6, .iload_n 1), (7, .invokevirtual 48), (10, .if_icmp .ne 7), (13, .iconst 0), (14, .goto 14), (17, .aload_n 0), (18, .aload_n 0), (19, .iload_n 1), (20, .invokevirtual 48), (23, .iconst 1), (24, .isub), (25, .invokevirtual 55), (28, .ireturn)]
theorem jtk_Positions_biggestHeap : jtok cX5_biggestHeap jtb_Positions_biggestHeap = true := by decide +kernel
def jE_Positions_biggestHeap (F : Nat) : jxE := jmk [] [] [] [(48, (2, false), jca_Positions_endPart F), (52, (2, false), jca_Positions_firstPart F), (55, (2, false), jca_Positions_heapOf F)] 1 jc_P
set_option maxRecDepth 100000 in
set_option maxHeartbeats 4000000 in
theorem jmet_Positions_biggestHeap (F : Nat) (sh : List jxC) (hs : jHas sh jc_P) (σ0 : jxS) (v1 : Int) (x : Int) (σ' : jxS) (h : Positions_biggestHeap F σ0 v1 = some (x, σ')) : jMC yX5_biggestHeap cX5_biggestHeap 2 (jrt 1) 2 41 sh σ0 [(jmr 22), (jmi v1)] (jrv 1 x) σ' := by
  refine jMC_of (kd := 1) (by decide) rfl h ?_
  intro X hX
  have hG : jGd X (jE_Positions_biggestHeap F) jtb_Positions_biggestHeap := jGd_of hX jtk_Positions_biggestHeap jnil jnil jnil (jcon (jsV jlk_X5_48 ⟨rfl, rfl⟩ (jad_Positions_endPart F sh hs)) (jcon (jsV jlk_X5_52 ⟨rfl, rfl⟩ (jad_Positions_firstPart F sh hs)) (jcon (jsV jlk_X5_55 ⟨rfl, rfl⟩ (jad_Positions_heapOf F sh hs)) jnil))) hs
  exact jRf_by (jex_ok hG (cs := []) jnil 20 0 [some (jmr 22), some (jmi v1)] [] σ0) rfl
theorem jad_Positions_biggestHeap (F : Nat) (sh : List jxC) (hs : jHas sh jc_P) : jAdV (jca_Positions_biggestHeap F) yX5_biggestHeap cX5_biggestHeap 2 1 2 41 1 sh := by
  intro as σ k x σ' h
  unfold jca_Positions_biggestHeap at h
  split at h
  · rename_i t0 v1
    obtain ⟨g0, hh1⟩ := jcond h
    obtain rfl := jbeq g0
    obtain ⟨r, h1, h2⟩ := Option.bind_eq_some_iff.mp hh1
    exact ⟨_, _, h2, ⟨_, _, _, _, _, _, rfl, rfl, (hs _ (jkf_in (l := jc_P) (idx := 22) rfl)).1, rfl⟩, jmet_Positions_biggestHeap F  sh hs σ v1 r.1 r.2 h1⟩
  · cases h
def jtb_Values_testsOf : List (Nat × Instr) := [(0, .lconst 0), (1, .lstore_n 2), (2, .iconst 0), (3, .istore 4), (5, .iload 4), (7, .bipush 45), (9, .if_icmp .ge 29), (12, .aload_n 0), (13, .getfield 27), (16, .iload 4), (18, .invokevirtual 170), (21, .iload_n 1), (22, .if_icmp .gt 10), (25, .lload_n 2), (26, .lconst 1), (27, .iload 4), (29, .lshl), (30, .lor), (31, .lstore_n 2), (32, .iinc 4 1), (35, .goto (-30)), (38, .lload_n 2), (39, .lreturn)]
theorem jtk_Values_testsOf : jtok cX10_testsOf jtb_Values_testsOf = true := by decide +kernel
set_option maxRecDepth 100000 in
theorem jlk_X10_170 : jLkV RX10 170 yX5_biggestHeap cX5_biggestHeap 2 1 1 := ⟨(jTB_at 1147 rfl rfl), (jTB_at 1148 rfl rfl), (jTB_at 1149 rfl rfl), (jTB_at 123 rfl rfl), jTB_at 1150 rfl rfl, ⟨by decide, by decide, by decide +kernel⟩⟩
def jE_Values_testsOf (F : Nat) : jxE := jmk [(27, 10, 0)] [] [] [(170, (2, false), jca_Positions_biggestHeap F)] 2 jc_C
set_option maxRecDepth 100000 in
set_option maxHeartbeats 4000000 in
theorem jmet_Values_testsOf (F : Nat) (sh : List jxC) (hs : jHas sh jc_C) (σ0 : jxS) (v1 : Int) (x : Int) (σ' : jxS) (h : Values_testsOf F σ0 v1 = some (x, σ')) : jMC yX10_testsOf cX10_testsOf 5 (jrt 2) 3 62 sh σ0 [(jmr 33), (jmi v1)] (jrv 2 x) σ' := by
  refine jMC_of (kd := 2) (by decide) rfl h ?_
  intro X hX
  have hG : jGd X (jE_Values_testsOf F) jtb_Values_testsOf := jGd_of hX jtk_Values_testsOf (jcon jfl_X10_27 jnil) jnil jnil (jcon (jsV jlk_X10_170 ⟨rfl, rfl⟩ (jad_Positions_biggestHeap F sh (jh_CP hs))) jnil) hs
  have rr5 : ∀ (fu : Nat) (v1 v2 v4 : Int) (σ : jxS), jRf X (Values_testsOf_c5 F fu v1 v2 v4 σ) 5 [some (jmr 33), some (jmi v1), some (jml v2), none, some (jmi v4)] [] σ := by
    intro  fu
    induction fu with
    | zero => intros; exact jRf_none
    | succ fu ih =>
      intro v1 v2 v4 σ
      exact jRf_by (jex_ok hG (cs := [(5, [some (.inr (some 33)), some (.inl 0), some (.inl 1), none, some (.inl 0)], [], fun xs σ => match xs with
      | [v1, v2, v4] => (Values_testsOf_c5 F fu) v1 v2 v4 σ
      | _ => none)]) (jcon (jl3 (fun y0 y1 y2 => jl0 (fun σ => ih y0 y1 y2 σ))) jnil) 26 5 [some (jmr 33), some (jmi v1), some (jml v2), none, some (jmi v4)] [] σ) rfl
  exact jRf_by (jex_ok hG (cs := [(5, [some (.inr (some 33)), some (.inl 0), some (.inl 1), none, some (.inl 0)], [], fun xs σ => match xs with
      | [v1, v2, v4] => Values_testsOf_c5 F F v1 v2 v4 σ
      | _ => none)]) (jcon (jl3 (fun y0 y1 y2 => jl0 (fun σ => rr5 F y0 y1 y2 σ))) jnil) 26 0 [some (jmr 33), some (jmi v1), none, none, none] [] σ0) rfl
theorem jad_Values_testsOf (F : Nat) (sh : List jxC) (hs : jHas sh jc_C) : jAdV (jca_Values_testsOf F) yX10_testsOf cX10_testsOf 5 2 3 62 1 sh := by
  intro as σ k x σ' h
  unfold jca_Values_testsOf at h
  split at h
  · rename_i t0 v1
    obtain ⟨g0, hh1⟩ := jcond h
    obtain rfl := jbeq g0
    obtain ⟨r, h1, h2⟩ := Option.bind_eq_some_iff.mp hh1
    exact ⟨_, _, h2, ⟨_, _, _, _, _, _, rfl, rfl, (hs _ (jkf_in (l := jc_C) (idx := 33) rfl)).1, rfl⟩, jmet_Values_testsOf F  sh hs σ v1 r.1 r.2 h1⟩
  · cases h
