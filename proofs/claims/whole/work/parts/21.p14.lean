/-! Contracts: Model_laysNimbers Model_isByCode Model_laysMoves Model_laysHeaps Model_puts Model_changes Model_beansOf -/
def jtb_Model_laysNimbers : List (Nat × Instr) := [(0, .aload_n 0), (1, .getfield 42), (4, .iconst 0), (5, .iconst 0), (6, .iastore), (7, .iconst 1), (8, .istore_n 1), (9, .iload_n 1), (10, .bipush 12), (12, .if_icmp .gt 89), (15, .aload_n 0), (16, .sipush 1024), (19, .invokevirtual 241), (22, .iconst 0), (23, .istore_n 2), (24, .iload_n 2), (25, .aload_n 0), (26, .getfield 39), (29, .iload_n 1), (30, .iaload), (31, .if_icmp .ge 54), (34, .aload_n 0), (35, .getfield 45), (38, .aload_n 0), (39, .getfield 42), (42, .aload_n 0), (43, .getfield 36), (46, .bipush 64), (48, .iload_n 1), (49, .imul), (50, .iload_n 2), (51, .iadd), (52, .iaload), (53, .bipush 13), (55, .idiv), (56, .iaload), (57, .aload_n 0), (58, .getfield 42), (61, .aload_n 0), (62, .getfield 36), (65, .bipush 64), (67, .iload_n 1), (68, .imul), (69, .iload_n 2), (70, .iadd), (71, .iaload), (72, .bipush 13), (74, .irem), (75, .iaload), (76, .ixor), (77, .iconst 1), (78, .bastore), (79, .iinc 2 1), (82, .goto (-58)), (85, .aload_n 0), (86, .getfield 42), (89, .iload_n 1), (90, .aload_n 0), (91, .invokevirtual 245), (94, .iastore), (95, .iinc 1 1), (98, .goto (-89)), (101, .aload_n 0), (102, .getfield 219), (105, .ifCond .le 4), (108, .return_), (109, .bipush 13), (111, .istore_n 1), (112, .iload_n 1), (113, .sipush 160), (116, .if_icmp .gt 160), (119, .aload_n 0), (120, .sipush 1024), (123, .invokevirtual 241), (126, .iconst 1), (127, .istore_n 2), (128, .iload_n 2), (129, .aload_n 0), (130, .getfield 216), (133, .if_icmp .gt 127), (136, .iload_n 1), (137, .iload_n 2), (138, .isub), (139, .ifCond .ne 25), (142, .aload_n 0), (143, .getfield 27), (146, .iload_n 2), (147, .iconst 1), (148, .isub), (149, .iaload), (150, .iconst 0), (151, .invokestatic 248), (154, .ifCond .eq 10), (157, .aload_n 0), (158, .getfield 45), (161, .iconst 0), (162, .iconst 1), (163, .bastore), (164, .iload_n 1), (165, .iload_n 2), (166, .isub), (167, .ifCond .le 32), (170, .aload_n 0), (171, .getfield 27), (174, .iload_n 2), (175, .iconst 1), (176, .isub), (177, .iaload), (178, .iconst 1), (179, .invokestatic 248), (182, .ifCond .eq 17), (185, .aload_n 0), (186, .getfield 45), (189, .aload_n 0), (190, .getfield 42), (193, .iload_n 1), (194, .iload_n 2), (195, .isub), (196, .iaload), (197, .iconst 1), (198, .bastore), (199, .iconst 1), (200, .istore_n 3), (201, .iconst 2), (202, .iload_n 3), (203, .imul), (204, .iload_n 1), (205, .iload_n 2), (206, .isub), (207, .if_icmp .gt 47), (210, .aload_n 0), (211, .getfield 27), (214, .iload_n 2), (215, .iconst 1), (216, .isub), (217, .iaload), (218, .iconst 2), (219, .invokestatic 248), (222, .ifCond .eq 32), (225, .aload_n 0), (226, .getfield 45), (229, .aload_n 0), (230, .getfield 42), (233, .iload_n 3), (234, .iaload), (235, .aload_n 0), (236, .getfield 42), (239, .iload_n 1), (240, .iload_n 2), (241, .isub), (242, .iload_n 3), (243, .isub), (244, .iaload), (245, .ixor), (246, .iconst 1), (247, .bastore), (248, .iinc 3 1), (251, .goto (-50)), (254, .iinc 2 1), (257, .goto (-129)), (260, .aload_n 0), (261, .getfield 42), (264, .iload_n 1), (265, .aload_n 0), (266, .invokevirtual 245), (269, .iastore), (270, .iinc 1 1), (273, .goto (-161)), (276, .return_)]
theorem jtk_Model_laysNimbers : jtok cX12_laysNimbers jtb_Model_laysNimbers = true := by decide +kernel
set_option maxRecDepth 100000 in
theorem jfl_X12_27 : jFl RX12 27 12 14 := ⟨RX12, TX12, 57, tyX12, rfl, by decide, jin_X12, tyX12_ok, nmX12, jow_X12, (Or.inl (jTB_at 1355 rfl rfl))⟩
set_option maxRecDepth 100000 in
theorem jfl_X12_36 : jFl RX12 36 12 18 := ⟨RX12, TX12, 57, tyX12, rfl, by decide, jin_X12, tyX12_ok, nmX12, jow_X12, (Or.inl (jTB_at 1359 rfl rfl))⟩
set_option maxRecDepth 100000 in
theorem jfl_X12_39 : jFl RX12 39 12 19 := ⟨RX12, TX12, 57, tyX12, rfl, by decide, jin_X12, tyX12_ok, nmX12, jow_X12, (Or.inl (jTB_at 1360 rfl rfl))⟩
set_option maxRecDepth 100000 in
theorem jfl_X12_42 : jFl RX12 42 12 20 := ⟨RX12, TX12, 57, tyX12, rfl, by decide, jin_X12, tyX12_ok, nmX12, jow_X12, (Or.inl (jTB_at 1361 rfl rfl))⟩
set_option maxRecDepth 100000 in
theorem jfl_X12_216 : jFl RX12 216 12 11 := ⟨RX12, TX12, 57, tyX12, rfl, by decide, jin_X12, tyX12_ok, nmX12, jow_X12, (Or.inl (jTB_at 1352 rfl rfl))⟩
set_option maxRecDepth 100000 in
theorem jfl_X12_219 : jFl RX12 219 12 12 := ⟨RX12, TX12, 57, tyX12, rfl, by decide, jin_X12, tyX12_ok, nmX12, jow_X12, (Or.inl (jTB_at 1353 rfl rfl))⟩
set_option maxRecDepth 100000 in
theorem jlk_X12_241 : jLkV RX12 241 yX12_takesNone cX12_takesNone 3 0 1 := ⟨(jTB_at 1595 rfl rfl), (jTB_at 1597 rfl rfl), (jTB_at 64 rfl rfl), (jTB_at 115 rfl rfl), jTB_at 1598 rfl rfl, ⟨by decide, by decide, by decide +kernel⟩⟩
set_option maxRecDepth 100000 in
theorem jlk_X12_245 : jLkV RX12 245 yX12_leastFree cX12_leastFree 2 1 0 := ⟨(jTB_at 1599 rfl rfl), (jTB_at 1601 rfl rfl), (jTB_at 65 rfl rfl), (jTB_at 115 rfl rfl), jTB_at 1602 rfl rfl, ⟨by decide, by decide, by decide +kernel⟩⟩
set_option maxRecDepth 100000 in
theorem jlk_X12_248 : jLkS RX12 248 yX12_has cX12_has 2 4 2 := ⟨Or.inl (jTB_at 1603 rfl rfl), (jTB_at 1604 rfl rfl), (jTB_at 115 rfl rfl), jTB_at 1605 rfl rfl, ⟨by decide, by decide, by decide +kernel⟩⟩
def jE_Model_laysNimbers (F : Nat) : jxE := jmk [(27, 12, 14), (36, 12, 18), (39, 12, 19), (42, 12, 20), (45, 12, 21), (216, 12, 11), (219, 12, 12)] [] [] [(241, (2, false), jca_Model_takesNone F), (245, (1, false), jca_Model_leastFree F), (248, (2, true), jca_Model_has F)] 0 jc_M
set_option maxRecDepth 100000 in
set_option maxHeartbeats 4000000 in
theorem jmet_Model_laysNimbers (F : Nat) (sh : List jxC) (hs : jHas sh jc_M) (σ0 : jxS) (x : Int) (σ' : jxS) (h : Model_laysNimbers F σ0 = some (x, σ')) : jMC yX12_laysNimbers cX12_laysNimbers 4 (jrt 0) 1 22 sh σ0 [(jmr 0)] (jrv 0 x) σ' := by
  refine jMC_of (kd := 0) (by decide) rfl h ?_
  intro X hX
  have hG : jGd X (jE_Model_laysNimbers F) jtb_Model_laysNimbers := jGd_of hX jtk_Model_laysNimbers (jcon jfl_X12_27 (jcon jfl_X12_36 (jcon jfl_X12_39 (jcon jfl_X12_42 (jcon jfl_X12_45 (jcon jfl_X12_216 (jcon jfl_X12_219 jnil))))))) jnil jnil (jcon (jsV jlk_X12_241 ⟨rfl, rfl⟩ (jad_Model_takesNone F sh hs)) (jcon (jsV jlk_X12_245 ⟨rfl, rfl⟩ (jad_Model_leastFree F sh hs)) (jcon (jsS jlk_X12_248 ⟨rfl, rfl⟩ (jad_Model_has F sh hs)) jnil))) hs
  have rr201 : ∀ (k112 : Int → jxS → Option jxR) (h112 : ∀ v1 σ, jRf X (k112 v1 σ) 112 [some (jmr 0), some (jmi v1), none, none] [] σ) (k128 : Int → Int → jxS → Option jxR) (h128 : ∀ v1 v2 σ, jRf X (k128 v1 v2 σ) 128 [some (jmr 0), some (jmi v1), some (jmi v2), none] [] σ) (fu : Nat) (v1 v2 v3 : Int) (σ : jxS), jRf X (Model_laysNimbers_c201 F k112 k128 fu v1 v2 v3 σ) 201 [some (jmr 0), some (jmi v1), some (jmi v2), some (jmi v3)] [] σ := by
    intro k112 h112 k128 h128 fu
    induction fu with
    | zero => intros; exact jRf_none
    | succ fu ih =>
      intro v1 v2 v3 σ
      exact jRf_by (jex_ok hG (cs := [(128, [some (.inr (some 0)), some (.inl 0), some (.inl 0), none], [], fun xs σ => match xs with
      | [v1, v2] => k128 v1 v2 σ
      | _ => none), (201, [some (.inr (some 0)), some (.inl 0), some (.inl 0), some (.inl 0)], [], fun xs σ => match xs with
      | [v1, v2, v3] => (Model_laysNimbers_c201 F k112 k128 fu) v1 v2 v3 σ
      | _ => none)]) (jcon (jl2 (fun y0 y1 => jl0 (fun σ => h128 y0 y1 σ))) (jcon (jl3 (fun y0 y1 y2 => jl0 (fun σ => ih y0 y1 y2 σ))) jnil)) 172 201 [some (jmr 0), some (jmi v1), some (jmi v2), some (jmi v3)] [] σ) rfl
  have rr164 : ∀ (k112 : Int → jxS → Option jxR) (h112 : ∀ v1 σ, jRf X (k112 v1 σ) 112 [some (jmr 0), some (jmi v1), none, none] [] σ) (k128 : Int → Int → jxS → Option jxR) (h128 : ∀ v1 v2 σ, jRf X (k128 v1 v2 σ) 128 [some (jmr 0), some (jmi v1), some (jmi v2), none] [] σ) (v1 v2 : Int) (σ : jxS), jRf X (Model_laysNimbers_c164 F k112 k128 v1 v2 σ) 164 [some (jmr 0), some (jmi v1), some (jmi v2), none] [] σ := by
    intro k112 h112 k128 h128 v1 v2 σ
    exact jRf_by (jex_ok hG (cs := [(201, [some (.inr (some 0)), some (.inl 0), some (.inl 0), some (.inl 0)], [], fun xs σ => match xs with
      | [v1, v2, v3] => Model_laysNimbers_c201 F k112 k128 F v1 v2 v3 σ
      | _ => none)]) (jcon (jl3 (fun y0 y1 y2 => jl0 (fun σ => rr201 _ h112 _ h128 F y0 y1 y2 σ))) jnil) 172 164 [some (jmr 0), some (jmi v1), some (jmi v2), none] [] σ) rfl
  have rr128 : ∀ (k112 : Int → jxS → Option jxR) (h112 : ∀ v1 σ, jRf X (k112 v1 σ) 112 [some (jmr 0), some (jmi v1), none, none] [] σ) (fu : Nat) (v1 v2 : Int) (σ : jxS), jRf X (Model_laysNimbers_c128 F k112 fu v1 v2 σ) 128 [some (jmr 0), some (jmi v1), some (jmi v2), none] [] σ := by
    intro k112 h112 fu
    induction fu with
    | zero => intros; exact jRf_none
    | succ fu ih =>
      intro v1 v2 σ
      exact jRf_by (jex_ok hG (cs := [(112, [some (.inr (some 0)), some (.inl 0), none, none], [], fun xs σ => match xs with
      | [v1] => k112 v1 σ
      | _ => none), (164, [some (.inr (some 0)), some (.inl 0), some (.inl 0), none], [], fun xs σ => match xs with
      | [v1, v2] => Model_laysNimbers_c164 F k112 (Model_laysNimbers_c128 F k112 fu) v1 v2 σ
      | _ => none)]) (jcon (jl1 (fun y0 => jl0 (fun σ => h112 y0 σ))) (jcon (jl2 (fun y0 y1 => jl0 (fun σ => rr164 _ h112 _ ih y0 y1 σ))) jnil)) 172 128 [some (jmr 0), some (jmi v1), some (jmi v2), none] [] σ) rfl
  have rr112 : ∀ (fu : Nat) (v1 : Int) (σ : jxS), jRf X (Model_laysNimbers_c112 F fu v1 σ) 112 [some (jmr 0), some (jmi v1), none, none] [] σ := by
    intro  fu
    induction fu with
    | zero => intros; exact jRf_none
    | succ fu ih =>
      intro v1 σ
      exact jRf_by (jex_ok hG (cs := [(128, [some (.inr (some 0)), some (.inl 0), some (.inl 0), none], [], fun xs σ => match xs with
      | [v1, v2] => Model_laysNimbers_c128 F (Model_laysNimbers_c112 F fu) F v1 v2 σ
      | _ => none)]) (jcon (jl2 (fun y0 y1 => jl0 (fun σ => rr128 _ ih F y0 y1 σ))) jnil) 172 112 [some (jmr 0), some (jmi v1), none, none] [] σ) rfl
  have rr24 : ∀ (k9 : Int → jxS → Option jxR) (h9 : ∀ v1 σ, jRf X (k9 v1 σ) 9 [some (jmr 0), some (jmi v1), none, none] [] σ) (fu : Nat) (v1 v2 : Int) (σ : jxS), jRf X (Model_laysNimbers_c24 F k9 fu v1 v2 σ) 24 [some (jmr 0), some (jmi v1), some (jmi v2), none] [] σ := by
    intro k9 h9 fu
    induction fu with
    | zero => intros; exact jRf_none
    | succ fu ih =>
      intro v1 v2 σ
      exact jRf_by (jex_ok hG (cs := [(9, [some (.inr (some 0)), some (.inl 0), none, none], [], fun xs σ => match xs with
      | [v1] => k9 v1 σ
      | _ => none), (24, [some (.inr (some 0)), some (.inl 0), some (.inl 0), none], [], fun xs σ => match xs with
      | [v1, v2] => (Model_laysNimbers_c24 F k9 fu) v1 v2 σ
      | _ => none)]) (jcon (jl1 (fun y0 => jl0 (fun σ => h9 y0 σ))) (jcon (jl2 (fun y0 y1 => jl0 (fun σ => ih y0 y1 σ))) jnil)) 172 24 [some (jmr 0), some (jmi v1), some (jmi v2), none] [] σ) rfl
  have rr9 : ∀ (fu : Nat) (v1 : Int) (σ : jxS), jRf X (Model_laysNimbers_c9 F fu v1 σ) 9 [some (jmr 0), some (jmi v1), none, none] [] σ := by
    intro  fu
    induction fu with
    | zero => intros; exact jRf_none
    | succ fu ih =>
      intro v1 σ
      exact jRf_by (jex_ok hG (cs := [(24, [some (.inr (some 0)), some (.inl 0), some (.inl 0), none], [], fun xs σ => match xs with
      | [v1, v2] => Model_laysNimbers_c24 F (Model_laysNimbers_c9 F fu) F v1 v2 σ
      | _ => none), (112, [some (.inr (some 0)), some (.inl 0), none, none], [], fun xs σ => match xs with
      | [v1] => Model_laysNimbers_c112 F F v1 σ
      | _ => none)]) (jcon (jl2 (fun y0 y1 => jl0 (fun σ => rr24 _ ih F y0 y1 σ))) (jcon (jl1 (fun y0 => jl0 (fun σ => rr112 F y0 σ))) jnil)) 172 9 [some (jmr 0), some (jmi v1), none, none] [] σ) rfl
  exact jRf_by (jex_ok hG (cs := [(9, [some (.inr (some 0)), some (.inl 0), none, none], [], fun xs σ => match xs with
      | [v1] => Model_laysNimbers_c9 F F v1 σ
      | _ => none)]) (jcon (jl1 (fun y0 => jl0 (fun σ => rr9 F y0 σ))) jnil) 172 0 [some (jmr 0), none, none, none] [] σ0) rfl
theorem jad_Model_laysNimbers (F : Nat) (sh : List jxC) (hs : jHas sh jc_M) : jAdV (jca_Model_laysNimbers F) yX12_laysNimbers cX12_laysNimbers 4 0 1 22 0 sh := by
  intro as σ k x σ' h
  unfold jca_Model_laysNimbers at h
  split at h
  · rename_i t0
    obtain ⟨g0, hh1⟩ := jcond h
    obtain rfl := jbeq g0
    obtain ⟨r, h1, h2⟩ := Option.bind_eq_some_iff.mp hh1
    exact ⟨_, _, h2, ⟨_, _, _, _, _, _, rfl, rfl, (hs _ (jkf_in (l := jc_M) (idx := 0) rfl)).1, rfl⟩, jmet_Model_laysNimbers F  sh hs σ  r.1 r.2 h1⟩
  · cases h
def jtb_Model_isByCode : List (Nat × Instr) := [(0, .iload_n 1), (1, .iload_n 2), (2, .isub), (3, .iload_n 3), (4, .isub), (5, .istore 4), (7, .iload 4), (9, .aload_n 0), (10, .getfield 216), (13, .if_icmp .gt 18), (16, .aload_n 0), (17, .getfield 33), (20, .bipush 9), (22, .iload_n 1), (23, .imul), (24, .iload 4), (26, .iadd), (27, .baload), (28, .ifCond .eq 5), (31, .iconst 0), (32, .ireturn), (33, .aload_n 0), (34, .getfield 27), (37, .iload 4), (39, .iconst 1), (40, .isub), (41, .iaload), (42, .iload_n 3), (43, .ifCond .ne 7), (46, .iconst 0), (47, .goto 12), (50, .iload_n 2), (51, .ifCond .ne 7), (54, .iconst 1), (55, .goto 4), (58, .iconst 2), (59, .ishr), (60, .iconst 1), (61, .iand), (62, .iconst 1), (63, .if_icmp .ne 7), (66, .iconst 1), (67, .goto 4), (70, .iconst 0), (71, .ireturn)]
theorem jtk_Model_isByCode : jtok cX12_isByCode jtb_Model_isByCode = true := by decide +kernel
set_option maxRecDepth 100000 in
theorem jfl_X12_33 : jFl RX12 33 12 16 := ⟨RX12, TX12, 57, tyX12, rfl, by decide, jin_X12, tyX12_ok, nmX12, jow_X12, (Or.inl (jTB_at 1357 rfl rfl))⟩
def jE_Model_isByCode (F : Nat) : jxE := jmk [(27, 12, 14), (33, 12, 16), (216, 12, 11)] [] [] [] 4 jc_M
set_option maxRecDepth 100000 in
set_option maxHeartbeats 4000000 in
theorem jmet_Model_isByCode (F : Nat) (sh : List jxC) (hs : jHas sh jc_M) (σ0 : jxS) (v1 : Int) (v2 : Int) (v3 : Int) (x : Int) (σ' : jxS) (h : Model_isByCode F σ0 v1 v2 v3 = some (x, σ')) : jMC yX12_isByCode cX12_isByCode 5 (jrt 4) 0 0 sh σ0 [(jmr 0), (jmi v1), (jmi v2), (jmi v3)] (jrv 4 x) σ' := by
  refine jMC_of (kd := 4) (by decide) rfl h ?_
  intro X hX
  have hG : jGd X (jE_Model_isByCode F) jtb_Model_isByCode := jGd_of hX jtk_Model_isByCode (jcon jfl_X12_27 (jcon jfl_X12_33 (jcon jfl_X12_216 jnil))) jnil jnil jnil hs
  have rr59 : ∀ (t0 t1 : Int) (σ : jxS), jRf X (Model_isByCode_c59 F t0 t1 σ) 59 [none, none, none, none, none] [(jmi t0), (jmi t1)] σ := by
    intro  t0 t1 σ
    exact jRf_by (jex_ok hG (cs := []) jnil 48 59 [none, none, none, none, none] [(jmi t0), (jmi t1)] σ) rfl
  exact jRf_by (jex_ok hG (cs := [(59, [none, none, none, none, none], [(.inl 0), (.inl 0)], fun xs σ => match xs with
      | [t0, t1] => Model_isByCode_c59 F t0 t1 σ
      | _ => none)]) (jcon (jl0 (jl2 (fun y0 y1 => (fun σ => rr59 y0 y1 σ)))) jnil) 48 0 [some (jmr 0), some (jmi v1), some (jmi v2), some (jmi v3), none] [] σ0) rfl
theorem jad_Model_isByCode (F : Nat) (sh : List jxC) (hs : jHas sh jc_M) : jAdV (jca_Model_isByCode F) yX12_isByCode cX12_isByCode 5 4 0 0 3 sh := by
  intro as σ k x σ' h
  unfold jca_Model_isByCode at h
  split at h
  · rename_i t0 v1 v2 v3
    obtain ⟨g0, hh1⟩ := jcond h
    obtain rfl := jbeq g0
    obtain ⟨r, h1, h2⟩ := Option.bind_eq_some_iff.mp hh1
    exact ⟨_, _, h2, ⟨_, _, _, _, _, _, rfl, rfl, (hs _ (jkf_in (l := jc_M) (idx := 0) rfl)).1, rfl⟩, jmet_Model_isByCode F  sh hs σ v1 v2 v3 r.1 r.2 h1⟩
  · cases h
def jtb_Model_laysMoves : List (Nat × Instr) := [(0, .iconst 1), (1, .istore_n 1), (2, .iload_n 1), (3, .bipush 12), (5, .if_icmp .gt 116), (8, .aload_n 0), (9, .getfield 39), (12, .iload_n 1), (13, .iconst 0), (14, .iastore), (15, .iload_n 1), (16, .iconst 1), (17, .isub), (18, .istore_n 2), (19, .iload_n 2), (20, .ifCond .lt 95), (23, .iconst 0), (24, .istore_n 3), (25, .iconst 2), (26, .iload_n 3), (27, .imul), (28, .iload_n 2), (29, .if_icmp .gt 80), (32, .aload_n 0), (33, .iload_n 1), (34, .iload_n 3), (35, .iload_n 2), (36, .iload_n 3), (37, .isub), (38, .invokevirtual 234), (41, .ifCond .ne 28), (44, .aload_n 0), (45, .getfield 30), (48, .sipush 169), (51, .iload_n 1), (52, .imul), (53, .bipush 13), (55, .iload_n 3), (56, .imul), (57, .iadd), (58, .iload_n 2), (59, .iadd), (60, .iload_n 3), (61, .isub), (62, .baload), (63, .ifCond .ne 6), (66, .goto 37), (69, .aload_n 0), (70, .getfield 36), (73, .bipush 64), (75, .iload_n 1), (76, .imul), (77, .aload_n 0), (78, .getfield 39), (81, .iload_n 1), (82, .iaload), (83, .iadd), (84, .bipush 13), (86, .iload_n 3), (87, .imul), (88, .iload_n 2), (89, .iadd), (90, .iload_n 3), (91, .isub), (92, .iastore), (93, .aload_n 0), (94, .getfield 39), (97, .iload_n 1), (98, .dup2), (99, .iaload), (100, .iconst 1), (101, .iadd), (102, .iastore), (103, .iinc 3 1), (106, .goto (-81)), (109, .iinc 2 (-1)), (112, .goto (-93)), (115, .iinc 1 1), (118, .goto (-116)), (121, .aload_n 0), (122, .invokevirtual 238), (125, .return_)]
theorem jtk_Model_laysMoves : jtok cX12_laysMoves jtb_Model_laysMoves = true := by decide +kernel
set_option maxRecDepth 100000 in
theorem jfl_X12_30 : jFl RX12 30 12 15 := ⟨RX12, TX12, 57, tyX12, rfl, by decide, jin_X12, tyX12_ok, nmX12, jow_X12, (Or.inl (jTB_at 1356 rfl rfl))⟩
set_option maxRecDepth 100000 in
theorem jlk_X12_234 : jLkV RX12 234 yX12_isByCode cX12_isByCode 5 4 3 := ⟨(jTB_at 1587 rfl rfl), (jTB_at 1589 rfl rfl), (jTB_at 62 rfl rfl), (jTB_at 115 rfl rfl), jTB_at 1590 rfl rfl, ⟨by decide, by decide, by decide +kernel⟩⟩
set_option maxRecDepth 100000 in
theorem jlk_X12_238 : jLkV RX12 238 yX12_laysNimbers cX12_laysNimbers 4 0 0 := ⟨(jTB_at 1591 rfl rfl), (jTB_at 1593 rfl rfl), (jTB_at 63 rfl rfl), (jTB_at 115 rfl rfl), jTB_at 1594 rfl rfl, ⟨by decide, by decide, by decide +kernel⟩⟩
def jE_Model_laysMoves (F : Nat) : jxE := jmk [(30, 12, 15), (36, 12, 18), (39, 12, 19)] [] [] [(234, (4, false), jca_Model_isByCode F), (238, (1, false), jca_Model_laysNimbers F)] 0 jc_M
set_option maxRecDepth 100000 in
set_option maxHeartbeats 4000000 in
theorem jmet_Model_laysMoves (F : Nat) (sh : List jxC) (hs : jHas sh jc_M) (σ0 : jxS) (x : Int) (σ' : jxS) (h : Model_laysMoves F σ0 = some (x, σ')) : jMC yX12_laysMoves cX12_laysMoves 4 (jrt 0) 2 45 sh σ0 [(jmr 0)] (jrv 0 x) σ' := by
  refine jMC_of (kd := 0) (by decide) rfl h ?_
  intro X hX
  have hG : jGd X (jE_Model_laysMoves F) jtb_Model_laysMoves := jGd_of hX jtk_Model_laysMoves (jcon jfl_X12_30 (jcon jfl_X12_36 (jcon jfl_X12_39 jnil))) jnil jnil (jcon (jsV jlk_X12_234 ⟨rfl, rfl⟩ (jad_Model_isByCode F sh hs)) (jcon (jsV jlk_X12_238 ⟨rfl, rfl⟩ (jad_Model_laysNimbers F sh hs)) jnil)) hs
  have rr69 : ∀ (k2 : Int → jxS → Option jxR) (h2 : ∀ v1 σ, jRf X (k2 v1 σ) 2 [some (jmr 0), some (jmi v1), none, none] [] σ) (k19 : Int → Int → jxS → Option jxR) (h19 : ∀ v1 v2 σ, jRf X (k19 v1 v2 σ) 19 [some (jmr 0), some (jmi v1), some (jmi v2), none] [] σ) (k25 : Int → Int → Int → jxS → Option jxR) (h25 : ∀ v1 v2 v3 σ, jRf X (k25 v1 v2 v3 σ) 25 [some (jmr 0), some (jmi v1), some (jmi v2), some (jmi v3)] [] σ) (v1 v2 v3 : Int) (σ : jxS), jRf X (Model_laysMoves_c69 F k2 k19 k25 v1 v2 v3 σ) 69 [some (jmr 0), some (jmi v1), some (jmi v2), some (jmi v3)] [] σ := by
    intro k2 h2 k19 h19 k25 h25 v1 v2 v3 σ
    exact jRf_by (jex_ok hG (cs := [(25, [some (.inr (some 0)), some (.inl 0), some (.inl 0), some (.inl 0)], [], fun xs σ => match xs with
      | [v1, v2, v3] => k25 v1 v2 v3 σ
      | _ => none)]) (jcon (jl3 (fun y0 y1 y2 => jl0 (fun σ => h25 y0 y1 y2 σ))) jnil) 85 69 [some (jmr 0), some (jmi v1), some (jmi v2), some (jmi v3)] [] σ) rfl
  have rr25 : ∀ (k2 : Int → jxS → Option jxR) (h2 : ∀ v1 σ, jRf X (k2 v1 σ) 2 [some (jmr 0), some (jmi v1), none, none] [] σ) (k19 : Int → Int → jxS → Option jxR) (h19 : ∀ v1 v2 σ, jRf X (k19 v1 v2 σ) 19 [some (jmr 0), some (jmi v1), some (jmi v2), none] [] σ) (fu : Nat) (v1 v2 v3 : Int) (σ : jxS), jRf X (Model_laysMoves_c25 F k2 k19 fu v1 v2 v3 σ) 25 [some (jmr 0), some (jmi v1), some (jmi v2), some (jmi v3)] [] σ := by
    intro k2 h2 k19 h19 fu
    induction fu with
    | zero => intros; exact jRf_none
    | succ fu ih =>
      intro v1 v2 v3 σ
      exact jRf_by (jex_ok hG (cs := [(19, [some (.inr (some 0)), some (.inl 0), some (.inl 0), none], [], fun xs σ => match xs with
      | [v1, v2] => k19 v1 v2 σ
      | _ => none), (25, [some (.inr (some 0)), some (.inl 0), some (.inl 0), some (.inl 0)], [], fun xs σ => match xs with
      | [v1, v2, v3] => (Model_laysMoves_c25 F k2 k19 fu) v1 v2 v3 σ
      | _ => none), (69, [some (.inr (some 0)), some (.inl 0), some (.inl 0), some (.inl 0)], [], fun xs σ => match xs with
      | [v1, v2, v3] => Model_laysMoves_c69 F k2 k19 (Model_laysMoves_c25 F k2 k19 fu) v1 v2 v3 σ
      | _ => none)]) (jcon (jl2 (fun y0 y1 => jl0 (fun σ => h19 y0 y1 σ))) (jcon (jl3 (fun y0 y1 y2 => jl0 (fun σ => ih y0 y1 y2 σ))) (jcon (jl3 (fun y0 y1 y2 => jl0 (fun σ => rr69 _ h2 _ h19 _ ih y0 y1 y2 σ))) jnil))) 85 25 [some (jmr 0), some (jmi v1), some (jmi v2), some (jmi v3)] [] σ) rfl
  have rr19 : ∀ (k2 : Int → jxS → Option jxR) (h2 : ∀ v1 σ, jRf X (k2 v1 σ) 2 [some (jmr 0), some (jmi v1), none, none] [] σ) (fu : Nat) (v1 v2 : Int) (σ : jxS), jRf X (Model_laysMoves_c19 F k2 fu v1 v2 σ) 19 [some (jmr 0), some (jmi v1), some (jmi v2), none] [] σ := by
    intro k2 h2 fu
    induction fu with
    | zero => intros; exact jRf_none
    | succ fu ih =>
      intro v1 v2 σ
      exact jRf_by (jex_ok hG (cs := [(2, [some (.inr (some 0)), some (.inl 0), none, none], [], fun xs σ => match xs with
      | [v1] => k2 v1 σ
      | _ => none), (25, [some (.inr (some 0)), some (.inl 0), some (.inl 0), some (.inl 0)], [], fun xs σ => match xs with
      | [v1, v2, v3] => Model_laysMoves_c25 F k2 (Model_laysMoves_c19 F k2 fu) F v1 v2 v3 σ
      | _ => none)]) (jcon (jl1 (fun y0 => jl0 (fun σ => h2 y0 σ))) (jcon (jl3 (fun y0 y1 y2 => jl0 (fun σ => rr25 _ h2 _ ih F y0 y1 y2 σ))) jnil)) 85 19 [some (jmr 0), some (jmi v1), some (jmi v2), none] [] σ) rfl
  have rr2 : ∀ (fu : Nat) (v1 : Int) (σ : jxS), jRf X (Model_laysMoves_c2 F fu v1 σ) 2 [some (jmr 0), some (jmi v1), none, none] [] σ := by
    intro  fu
    induction fu with
    | zero => intros; exact jRf_none
    | succ fu ih =>
      intro v1 σ
      exact jRf_by (jex_ok hG (cs := [(19, [some (.inr (some 0)), some (.inl 0), some (.inl 0), none], [], fun xs σ => match xs with
      | [v1, v2] => Model_laysMoves_c19 F (Model_laysMoves_c2 F fu) F v1 v2 σ
      | _ => none)]) (jcon (jl2 (fun y0 y1 => jl0 (fun σ => rr19 _ ih F y0 y1 σ))) jnil) 85 2 [some (jmr 0), some (jmi v1), none, none] [] σ) rfl
  exact jRf_by (jex_ok hG (cs := [(2, [some (.inr (some 0)), some (.inl 0), none, none], [], fun xs σ => match xs with
      | [v1] => Model_laysMoves_c2 F F v1 σ
      | _ => none)]) (jcon (jl1 (fun y0 => jl0 (fun σ => rr2 F y0 σ))) jnil) 85 0 [some (jmr 0), none, none, none] [] σ0) rfl
theorem jad_Model_laysMoves (F : Nat) (sh : List jxC) (hs : jHas sh jc_M) : jAdV (jca_Model_laysMoves F) yX12_laysMoves cX12_laysMoves 4 0 2 45 0 sh := by
  intro as σ k x σ' h
  unfold jca_Model_laysMoves at h
  split at h
  · rename_i t0
    obtain ⟨g0, hh1⟩ := jcond h
    obtain rfl := jbeq g0
    obtain ⟨r, h1, h2⟩ := Option.bind_eq_some_iff.mp hh1
    exact ⟨_, _, h2, ⟨_, _, _, _, _, _, rfl, rfl, (hs _ (jkf_in (l := jc_M) (idx := 0) rfl)).1, rfl⟩, jmet_Model_laysMoves F  sh hs σ  r.1 r.2 h1⟩
  · cases h
def jtb_Model_laysHeaps : List (Nat × Instr) := [(0, .iconst 0), (1, .istore_n 3), (2, .aload_n 0), (3, .getfield 51), (6, .iload_n 3), (7, .iconst 1), (8, .iadd), (9, .iaload), (10, .iload_n 1), (11, .if_icmp .gt 9), (14, .iinc 3 1), (17, .goto (-15)), (20, .iload_n 1), (21, .aload_n 0), (22, .getfield 51), (25, .iload_n 3), (26, .iaload), (27, .isub), (28, .istore 4), (30, .iload_n 3), (31, .istore 5), (33, .iconst 1), (34, .istore 6), (36, .iload 6), (38, .bipush 12), (40, .if_icmp .gt 72), (43, .aload_n 2), (44, .iload 6), (46, .iconst 0), (47, .iastore), (48, .iload 4), (50, .aload_n 0), (51, .getfield 48), (54, .bipush 23), (56, .iload 6), (58, .iconst 1), (59, .iadd), (60, .imul), (61, .iload 5), (63, .iadd), (64, .iaload), (65, .if_icmp .lt 41), (68, .iload 4), (70, .aload_n 0), (71, .getfield 48), (74, .bipush 23), (76, .iload 6), (78, .iconst 1), (79, .iadd), (80, .imul), (81, .iload 5), (83, .iadd), (84, .iaload), (85, .isub), (86, .istore 4), (88, .iload 5), (90, .iload 6), (92, .isub), (93, .istore 5), (95, .aload_n 2), (96, .iload 6), (98, .dup2), (99, .iaload), (100, .iconst 1), (101, .iadd), (102, .iastore), (103, .goto (-55)), (106, .iinc 6 1), (109, .goto (-73)), (112, .return_)]
theorem jtk_Model_laysHeaps : jtok cX12_laysHeaps jtb_Model_laysHeaps = true := by decide +kernel
set_option maxRecDepth 100000 in
theorem jfl_X12_48 : jFl RX12 48 12 22 := ⟨RX12, TX12, 57, tyX12, rfl, by decide, jin_X12, tyX12_ok, nmX12, jow_X12, (Or.inl (jTB_at 1363 rfl rfl))⟩
set_option maxRecDepth 100000 in
theorem jfl_X12_51 : jFl RX12 51 12 23 := ⟨RX12, TX12, 57, tyX12, rfl, by decide, jin_X12, tyX12_ok, nmX12, jow_X12, (Or.inl (jTB_at 1364 rfl rfl))⟩
def jE_Model_laysHeaps (F : Nat) : jxE := jmk [(48, 12, 22), (51, 12, 23)] [] [] [] 0 jc_M
set_option maxRecDepth 100000 in
set_option maxHeartbeats 4000000 in
theorem jmet_Model_laysHeaps_20 (F : Nat) (sh : List jxC) (hs : jHas sh jc_M) (σ0 : jxS) (v1 : Int) (x : Int) (σ' : jxS) (h : Model_laysHeaps F 20 σ0 v1 = some (x, σ')) : jMC yX12_laysHeaps cX12_laysHeaps 7 (jrt 0) 0 0 sh σ0 [(jmr 0), (jmi v1), (jmr 20)] (jrv 0 x) σ' := by
  refine jMC_of (kd := 0) (by decide) rfl h ?_
  intro X hX
  have hG : jGd X (jE_Model_laysHeaps F) jtb_Model_laysHeaps := jGd_of hX jtk_Model_laysHeaps (jcon jfl_X12_48 (jcon jfl_X12_51 jnil)) jnil jnil jnil hs
  have rr48 : ∀ (k36 : Int → Int → Int → jxS → Option jxR) (h36 : ∀ v4 v5 v6 σ, jRf X (k36 v4 v5 v6 σ) 36 [some (jmr 0), none, some (jmr 20), none, some (jmi v4), some (jmi v5), some (jmi v6)] [] σ) (fu : Nat) (v4 v5 v6 : Int) (σ : jxS), jRf X (Model_laysHeaps_c48 F 20 k36 fu v4 v5 v6 σ) 48 [some (jmr 0), none, some (jmr 20), none, some (jmi v4), some (jmi v5), some (jmi v6)] [] σ := by
    intro k36 h36 fu
    induction fu with
    | zero => intros; exact jRf_none
    | succ fu ih =>
      intro v4 v5 v6 σ
      exact jRf_by (jex_ok hG (cs := [(36, [some (.inr (some 0)), none, some (.inr (some 20)), none, some (.inl 0), some (.inl 0), some (.inl 0)], [], fun xs σ => match xs with
      | [v4, v5, v6] => k36 v4 v5 v6 σ
      | _ => none), (48, [some (.inr (some 0)), none, some (.inr (some 20)), none, some (.inl 0), some (.inl 0), some (.inl 0)], [], fun xs σ => match xs with
      | [v4, v5, v6] => (Model_laysHeaps_c48 F 20 k36 fu) v4 v5 v6 σ
      | _ => none)]) (jcon (jl3 (fun y0 y1 y2 => jl0 (fun σ => h36 y0 y1 y2 σ))) (jcon (jl3 (fun y0 y1 y2 => jl0 (fun σ => ih y0 y1 y2 σ))) jnil)) 73 48 [some (jmr 0), none, some (jmr 20), none, some (jmi v4), some (jmi v5), some (jmi v6)] [] σ) rfl
  have rr36 : ∀ (fu : Nat) (v4 v5 v6 : Int) (σ : jxS), jRf X (Model_laysHeaps_c36 F 20 fu v4 v5 v6 σ) 36 [some (jmr 0), none, some (jmr 20), none, some (jmi v4), some (jmi v5), some (jmi v6)] [] σ := by
    intro  fu
    induction fu with
    | zero => intros; exact jRf_none
    | succ fu ih =>
      intro v4 v5 v6 σ
      exact jRf_by (jex_ok hG (cs := [(48, [some (.inr (some 0)), none, some (.inr (some 20)), none, some (.inl 0), some (.inl 0), some (.inl 0)], [], fun xs σ => match xs with
      | [v4, v5, v6] => Model_laysHeaps_c48 F 20 (Model_laysHeaps_c36 F 20 fu) F v4 v5 v6 σ
      | _ => none)]) (jcon (jl3 (fun y0 y1 y2 => jl0 (fun σ => rr48 _ ih F y0 y1 y2 σ))) jnil) 73 36 [some (jmr 0), none, some (jmr 20), none, some (jmi v4), some (jmi v5), some (jmi v6)] [] σ) rfl
  have rr2 : ∀ (fu : Nat) (v1 v3 : Int) (σ : jxS), jRf X (Model_laysHeaps_c2 F 20 fu v1 v3 σ) 2 [some (jmr 0), some (jmi v1), some (jmr 20), some (jmi v3), none, none, none] [] σ := by
    intro  fu
    induction fu with
    | zero => intros; exact jRf_none
    | succ fu ih =>
      intro v1 v3 σ
      exact jRf_by (jex_ok hG (cs := [(2, [some (.inr (some 0)), some (.inl 0), some (.inr (some 20)), some (.inl 0), none, none, none], [], fun xs σ => match xs with
      | [v1, v3] => (Model_laysHeaps_c2 F 20 fu) v1 v3 σ
      | _ => none), (36, [some (.inr (some 0)), none, some (.inr (some 20)), none, some (.inl 0), some (.inl 0), some (.inl 0)], [], fun xs σ => match xs with
      | [v4, v5, v6] => Model_laysHeaps_c36 F 20 F v4 v5 v6 σ
      | _ => none)]) (jcon (jl2 (fun y0 y1 => jl0 (fun σ => ih y0 y1 σ))) (jcon (jl3 (fun y0 y1 y2 => jl0 (fun σ => rr36 F y0 y1 y2 σ))) jnil)) 73 2 [some (jmr 0), some (jmi v1), some (jmr 20), some (jmi v3), none, none, none] [] σ) rfl
  exact jRf_by (jex_ok hG (cs := [(2, [some (.inr (some 0)), some (.inl 0), some (.inr (some 20)), some (.inl 0), none, none, none], [], fun xs σ => match xs with
      | [v1, v3] => Model_laysHeaps_c2 F 20 F v1 v3 σ
      | _ => none)]) (jcon (jl2 (fun y0 y1 => jl0 (fun σ => rr2 F y0 y1 σ))) jnil) 73 0 [some (jmr 0), some (jmi v1), some (jmr 20), none, none, none, none] [] σ0) rfl
set_option maxRecDepth 100000 in
set_option maxHeartbeats 4000000 in
theorem jmet_Model_laysHeaps_28 (F : Nat) (sh : List jxC) (hs : jHas sh jc_M) (σ0 : jxS) (v1 : Int) (x : Int) (σ' : jxS) (h : Model_laysHeaps F 28 σ0 v1 = some (x, σ')) : jMC yX12_laysHeaps cX12_laysHeaps 7 (jrt 0) 0 0 sh σ0 [(jmr 0), (jmi v1), (jmr 28)] (jrv 0 x) σ' := by
  refine jMC_of (kd := 0) (by decide) rfl h ?_
  intro X hX
  have hG : jGd X (jE_Model_laysHeaps F) jtb_Model_laysHeaps := jGd_of hX jtk_Model_laysHeaps (jcon jfl_X12_48 (jcon jfl_X12_51 jnil)) jnil jnil jnil hs
  have rr48 : ∀ (k36 : Int → Int → Int → jxS → Option jxR) (h36 : ∀ v4 v5 v6 σ, jRf X (k36 v4 v5 v6 σ) 36 [some (jmr 0), none, some (jmr 28), none, some (jmi v4), some (jmi v5), some (jmi v6)] [] σ) (fu : Nat) (v4 v5 v6 : Int) (σ : jxS), jRf X (Model_laysHeaps_c48 F 28 k36 fu v4 v5 v6 σ) 48 [some (jmr 0), none, some (jmr 28), none, some (jmi v4), some (jmi v5), some (jmi v6)] [] σ := by
    intro k36 h36 fu
    induction fu with
    | zero => intros; exact jRf_none
    | succ fu ih =>
      intro v4 v5 v6 σ
      exact jRf_by (jex_ok hG (cs := [(36, [some (.inr (some 0)), none, some (.inr (some 28)), none, some (.inl 0), some (.inl 0), some (.inl 0)], [], fun xs σ => match xs with
      | [v4, v5, v6] => k36 v4 v5 v6 σ
      | _ => none), (48, [some (.inr (some 0)), none, some (.inr (some 28)), none, some (.inl 0), some (.inl 0), some (.inl 0)], [], fun xs σ => match xs with
      | [v4, v5, v6] => (Model_laysHeaps_c48 F 28 k36 fu) v4 v5 v6 σ
      | _ => none)]) (jcon (jl3 (fun y0 y1 y2 => jl0 (fun σ => h36 y0 y1 y2 σ))) (jcon (jl3 (fun y0 y1 y2 => jl0 (fun σ => ih y0 y1 y2 σ))) jnil)) 73 48 [some (jmr 0), none, some (jmr 28), none, some (jmi v4), some (jmi v5), some (jmi v6)] [] σ) rfl
  have rr36 : ∀ (fu : Nat) (v4 v5 v6 : Int) (σ : jxS), jRf X (Model_laysHeaps_c36 F 28 fu v4 v5 v6 σ) 36 [some (jmr 0), none, some (jmr 28), none, some (jmi v4), some (jmi v5), some (jmi v6)] [] σ := by
    intro  fu
    induction fu with
    | zero => intros; exact jRf_none
    | succ fu ih =>
      intro v4 v5 v6 σ
      exact jRf_by (jex_ok hG (cs := [(48, [some (.inr (some 0)), none, some (.inr (some 28)), none, some (.inl 0), some (.inl 0), some (.inl 0)], [], fun xs σ => match xs with
      | [v4, v5, v6] => Model_laysHeaps_c48 F 28 (Model_laysHeaps_c36 F 28 fu) F v4 v5 v6 σ
      | _ => none)]) (jcon (jl3 (fun y0 y1 y2 => jl0 (fun σ => rr48 _ ih F y0 y1 y2 σ))) jnil) 73 36 [some (jmr 0), none, some (jmr 28), none, some (jmi v4), some (jmi v5), some (jmi v6)] [] σ) rfl
  have rr2 : ∀ (fu : Nat) (v1 v3 : Int) (σ : jxS), jRf X (Model_laysHeaps_c2 F 28 fu v1 v3 σ) 2 [some (jmr 0), some (jmi v1), some (jmr 28), some (jmi v3), none, none, none] [] σ := by
    intro  fu
    induction fu with
    | zero => intros; exact jRf_none
    | succ fu ih =>
      intro v1 v3 σ
      exact jRf_by (jex_ok hG (cs := [(2, [some (.inr (some 0)), some (.inl 0), some (.inr (some 28)), some (.inl 0), none, none, none], [], fun xs σ => match xs with
      | [v1, v3] => (Model_laysHeaps_c2 F 28 fu) v1 v3 σ
      | _ => none), (36, [some (.inr (some 0)), none, some (.inr (some 28)), none, some (.inl 0), some (.inl 0), some (.inl 0)], [], fun xs σ => match xs with
      | [v4, v5, v6] => Model_laysHeaps_c36 F 28 F v4 v5 v6 σ
      | _ => none)]) (jcon (jl2 (fun y0 y1 => jl0 (fun σ => ih y0 y1 σ))) (jcon (jl3 (fun y0 y1 y2 => jl0 (fun σ => rr36 F y0 y1 y2 σ))) jnil)) 73 2 [some (jmr 0), some (jmi v1), some (jmr 28), some (jmi v3), none, none, none] [] σ) rfl
  exact jRf_by (jex_ok hG (cs := [(2, [some (.inr (some 0)), some (.inl 0), some (.inr (some 28)), some (.inl 0), none, none, none], [], fun xs σ => match xs with
      | [v1, v3] => Model_laysHeaps_c2 F 28 F v1 v3 σ
      | _ => none)]) (jcon (jl2 (fun y0 y1 => jl0 (fun σ => rr2 F y0 y1 σ))) jnil) 73 0 [some (jmr 0), some (jmi v1), some (jmr 28), none, none, none, none] [] σ0) rfl
set_option maxRecDepth 100000 in
set_option maxHeartbeats 4000000 in
theorem jmet_Model_laysHeaps_29 (F : Nat) (sh : List jxC) (hs : jHas sh jc_M) (σ0 : jxS) (v1 : Int) (x : Int) (σ' : jxS) (h : Model_laysHeaps F 29 σ0 v1 = some (x, σ')) : jMC yX12_laysHeaps cX12_laysHeaps 7 (jrt 0) 0 0 sh σ0 [(jmr 0), (jmi v1), (jmr 29)] (jrv 0 x) σ' := by
  refine jMC_of (kd := 0) (by decide) rfl h ?_
  intro X hX
  have hG : jGd X (jE_Model_laysHeaps F) jtb_Model_laysHeaps := jGd_of hX jtk_Model_laysHeaps (jcon jfl_X12_48 (jcon jfl_X12_51 jnil)) jnil jnil jnil hs
  have rr48 : ∀ (k36 : Int → Int → Int → jxS → Option jxR) (h36 : ∀ v4 v5 v6 σ, jRf X (k36 v4 v5 v6 σ) 36 [some (jmr 0), none, some (jmr 29), none, some (jmi v4), some (jmi v5), some (jmi v6)] [] σ) (fu : Nat) (v4 v5 v6 : Int) (σ : jxS), jRf X (Model_laysHeaps_c48 F 29 k36 fu v4 v5 v6 σ) 48 [some (jmr 0), none, some (jmr 29), none, some (jmi v4), some (jmi v5), some (jmi v6)] [] σ := by
    intro k36 h36 fu
    induction fu with
    | zero => intros; exact jRf_none
    | succ fu ih =>
      intro v4 v5 v6 σ
      exact jRf_by (jex_ok hG (cs := [(36, [some (.inr (some 0)), none, some (.inr (some 29)), none, some (.inl 0), some (.inl 0), some (.inl 0)], [], fun xs σ => match xs with
      | [v4, v5, v6] => k36 v4 v5 v6 σ
      | _ => none), (48, [some (.inr (some 0)), none, some (.inr (some 29)), none, some (.inl 0), some (.inl 0), some (.inl 0)], [], fun xs σ => match xs with
      | [v4, v5, v6] => (Model_laysHeaps_c48 F 29 k36 fu) v4 v5 v6 σ
      | _ => none)]) (jcon (jl3 (fun y0 y1 y2 => jl0 (fun σ => h36 y0 y1 y2 σ))) (jcon (jl3 (fun y0 y1 y2 => jl0 (fun σ => ih y0 y1 y2 σ))) jnil)) 73 48 [some (jmr 0), none, some (jmr 29), none, some (jmi v4), some (jmi v5), some (jmi v6)] [] σ) rfl
  have rr36 : ∀ (fu : Nat) (v4 v5 v6 : Int) (σ : jxS), jRf X (Model_laysHeaps_c36 F 29 fu v4 v5 v6 σ) 36 [some (jmr 0), none, some (jmr 29), none, some (jmi v4), some (jmi v5), some (jmi v6)] [] σ := by
    intro  fu
    induction fu with
    | zero => intros; exact jRf_none
    | succ fu ih =>
      intro v4 v5 v6 σ
      exact jRf_by (jex_ok hG (cs := [(48, [some (.inr (some 0)), none, some (.inr (some 29)), none, some (.inl 0), some (.inl 0), some (.inl 0)], [], fun xs σ => match xs with
      | [v4, v5, v6] => Model_laysHeaps_c48 F 29 (Model_laysHeaps_c36 F 29 fu) F v4 v5 v6 σ
      | _ => none)]) (jcon (jl3 (fun y0 y1 y2 => jl0 (fun σ => rr48 _ ih F y0 y1 y2 σ))) jnil) 73 36 [some (jmr 0), none, some (jmr 29), none, some (jmi v4), some (jmi v5), some (jmi v6)] [] σ) rfl
  have rr2 : ∀ (fu : Nat) (v1 v3 : Int) (σ : jxS), jRf X (Model_laysHeaps_c2 F 29 fu v1 v3 σ) 2 [some (jmr 0), some (jmi v1), some (jmr 29), some (jmi v3), none, none, none] [] σ := by
    intro  fu
    induction fu with
    | zero => intros; exact jRf_none
    | succ fu ih =>
      intro v1 v3 σ
      exact jRf_by (jex_ok hG (cs := [(2, [some (.inr (some 0)), some (.inl 0), some (.inr (some 29)), some (.inl 0), none, none, none], [], fun xs σ => match xs with
      | [v1, v3] => (Model_laysHeaps_c2 F 29 fu) v1 v3 σ
      | _ => none), (36, [some (.inr (some 0)), none, some (.inr (some 29)), none, some (.inl 0), some (.inl 0), some (.inl 0)], [], fun xs σ => match xs with
      | [v4, v5, v6] => Model_laysHeaps_c36 F 29 F v4 v5 v6 σ
      | _ => none)]) (jcon (jl2 (fun y0 y1 => jl0 (fun σ => ih y0 y1 σ))) (jcon (jl3 (fun y0 y1 y2 => jl0 (fun σ => rr36 F y0 y1 y2 σ))) jnil)) 73 2 [some (jmr 0), some (jmi v1), some (jmr 29), some (jmi v3), none, none, none] [] σ) rfl
  exact jRf_by (jex_ok hG (cs := [(2, [some (.inr (some 0)), some (.inl 0), some (.inr (some 29)), some (.inl 0), none, none, none], [], fun xs σ => match xs with
      | [v1, v3] => Model_laysHeaps_c2 F 29 F v1 v3 σ
      | _ => none)]) (jcon (jl2 (fun y0 y1 => jl0 (fun σ => rr2 F y0 y1 σ))) jnil) 73 0 [some (jmr 0), some (jmi v1), some (jmr 29), none, none, none, none] [] σ0) rfl
theorem jmet_Model_laysHeaps (F : Nat) (a2 : Nat) (ha2 : a2 ∈ jids_Model_laysHeaps_a2) (sh : List jxC) (hs : jHas sh jc_M) (σ0 : jxS) (v1 : Int) (x : Int) (σ' : jxS) (h : Model_laysHeaps F a2 σ0 v1 = some (x, σ')) : jMC yX12_laysHeaps cX12_laysHeaps 7 (jrt 0) 0 0 sh σ0 [(jmr 0), (jmi v1), (jmr a2)] (jrv 0 x) σ' := by
  simp only [jids_Model_laysHeaps_a2, List.mem_cons, List.not_mem_nil, or_false] at ha2
  rcases ha2 with rfl | rfl | rfl
  · exact jmet_Model_laysHeaps_20 F sh hs σ0 v1 x σ' h
  · exact jmet_Model_laysHeaps_28 F sh hs σ0 v1 x σ' h
  · exact jmet_Model_laysHeaps_29 F sh hs σ0 v1 x σ' h
theorem jad_Model_laysHeaps (F : Nat) (sh : List jxC) (hs : jHas sh jc_M) : jAdV (jca_Model_laysHeaps F) yX12_laysHeaps cX12_laysHeaps 7 0 0 0 2 sh := by
  intro as σ k x σ' h
  unfold jca_Model_laysHeaps at h
  split at h
  · rename_i t0 v1 t1
    obtain ⟨g0, hh1⟩ := jcond h
    obtain rfl := jbeq g0
    obtain ⟨g1, hh2⟩ := jcond hh1
    have g1 := jin_of g1
    obtain ⟨r, h1, h2⟩ := Option.bind_eq_some_iff.mp hh2
    exact ⟨_, _, h2, ⟨_, _, _, _, _, _, rfl, rfl, (hs _ (jkf_in (l := jc_M) (idx := 0) rfl)).1, rfl⟩, jmet_Model_laysHeaps F t1 g1 sh hs σ v1 r.1 r.2 h1⟩
  · cases h
def jtb_Model_puts : List (Nat × Instr) := [(0, .iload_n 1), (1, .ifCond .le 10), (4, .aload_n 0), (5, .iload_n 1), (6, .dup2), (7, .iaload), (8, .iload_n 2), (9, .iadd), (10, .iastore), (11, .return_)]
theorem jtk_Model_puts : jtok cX12_puts jtb_Model_puts = true := by decide +kernel
def jE_Model_puts (F : Nat) : jxE := jmk [] [] [] [] 0 jc_M
set_option maxRecDepth 100000 in
set_option maxHeartbeats 4000000 in
theorem jmet_Model_puts_20 (F : Nat) (sh : List jxC) (hs : jHas sh jc_M) (σ0 : jxS) (v1 : Int) (v2 : Int) (x : Int) (σ' : jxS) (h : Model_puts F 20 σ0 v1 v2 = some (x, σ')) : jMC yX12_puts cX12_puts 3 (jrt 0) 0 0 sh σ0 [(jmr 20), (jmi v1), (jmi v2)] (jrv 0 x) σ' := by
  refine jMC_of (kd := 0) (by decide) rfl h ?_
  intro X hX
  have hG : jGd X (jE_Model_puts F) jtb_Model_puts := jGd_of hX jtk_Model_puts jnil jnil jnil jnil hs
  exact jRf_by (jex_ok hG (cs := []) jnil 13 0 [some (jmr 20), some (jmi v1), some (jmi v2)] [] σ0) rfl
set_option maxRecDepth 100000 in
set_option maxHeartbeats 4000000 in
theorem jmet_Model_puts_24 (F : Nat) (sh : List jxC) (hs : jHas sh jc_M) (σ0 : jxS) (v1 : Int) (v2 : Int) (x : Int) (σ' : jxS) (h : Model_puts F 24 σ0 v1 v2 = some (x, σ')) : jMC yX12_puts cX12_puts 3 (jrt 0) 0 0 sh σ0 [(jmr 24), (jmi v1), (jmi v2)] (jrv 0 x) σ' := by
  refine jMC_of (kd := 0) (by decide) rfl h ?_
  intro X hX
  have hG : jGd X (jE_Model_puts F) jtb_Model_puts := jGd_of hX jtk_Model_puts jnil jnil jnil jnil hs
  exact jRf_by (jex_ok hG (cs := []) jnil 13 0 [some (jmr 24), some (jmi v1), some (jmi v2)] [] σ0) rfl
set_option maxRecDepth 100000 in
set_option maxHeartbeats 4000000 in
theorem jmet_Model_puts_26 (F : Nat) (sh : List jxC) (hs : jHas sh jc_M) (σ0 : jxS) (v1 : Int) (v2 : Int) (x : Int) (σ' : jxS) (h : Model_puts F 26 σ0 v1 v2 = some (x, σ')) : jMC yX12_puts cX12_puts 3 (jrt 0) 0 0 sh σ0 [(jmr 26), (jmi v1), (jmi v2)] (jrv 0 x) σ' := by
  refine jMC_of (kd := 0) (by decide) rfl h ?_
  intro X hX
  have hG : jGd X (jE_Model_puts F) jtb_Model_puts := jGd_of hX jtk_Model_puts jnil jnil jnil jnil hs
  exact jRf_by (jex_ok hG (cs := []) jnil 13 0 [some (jmr 26), some (jmi v1), some (jmi v2)] [] σ0) rfl
theorem jmet_Model_puts (F : Nat) (a0 : Nat) (ha0 : a0 ∈ jids_Model_puts_a0) (sh : List jxC) (hs : jHas sh jc_M) (σ0 : jxS) (v1 : Int) (v2 : Int) (x : Int) (σ' : jxS) (h : Model_puts F a0 σ0 v1 v2 = some (x, σ')) : jMC yX12_puts cX12_puts 3 (jrt 0) 0 0 sh σ0 [(jmr a0), (jmi v1), (jmi v2)] (jrv 0 x) σ' := by
  simp only [jids_Model_puts_a0, List.mem_cons, List.not_mem_nil, or_false] at ha0
  rcases ha0 with rfl | rfl | rfl
  · exact jmet_Model_puts_20 F sh hs σ0 v1 v2 x σ' h
  · exact jmet_Model_puts_24 F sh hs σ0 v1 v2 x σ' h
  · exact jmet_Model_puts_26 F sh hs σ0 v1 v2 x σ' h
theorem jad_Model_puts (F : Nat) (sh : List jxC) (hs : jHas sh jc_M) : jAdS (jca_Model_puts F) yX12_puts cX12_puts 3 0 0 0 3 sh := by
  intro as σ k x σ' h
  unfold jca_Model_puts at h
  split at h
  · rename_i t0 v1 v2
    obtain ⟨g0, hh1⟩ := jcond h
    have g0 := jin_of g0
    obtain ⟨r, h1, h2⟩ := Option.bind_eq_some_iff.mp hh1
    exact ⟨_, _, h2, rfl, jmet_Model_puts F t0 g0 sh hs σ v1 v2 r.1 r.2 h1⟩
  · cases h
def jtb_Model_changes : List (Nat × Instr) := [(0, .aload_n 0), (1, .iload_n 1), (2, .dup2), (3, .iaload), (4, .iload_n 3), (5, .isub), (6, .iastore), (7, .aload_n 0), (8, .iload_n 2), (9, .bipush 13), (11, .idiv), (12, .iload_n 3), (13, .invokestatic 258), (16, .aload_n 0), (17, .iload_n 2), (18, .bipush 13), (20, .irem), (21, .iload_n 3), (22, .invokestatic 258), (25, .return_)]
theorem jtk_Model_changes : jtok cX12_changes jtb_Model_changes = true := by decide +kernel
set_option maxRecDepth 100000 in
theorem jlk_X12_258 : jLkS RX12 258 yX12_puts cX12_puts 3 0 3 := ⟨Or.inl (jTB_at 1625 rfl rfl), (jTB_at 1626 rfl rfl), (jTB_at 115 rfl rfl), jTB_at 1627 rfl rfl, ⟨by decide, by decide, by decide +kernel⟩⟩
def jE_Model_changes (F : Nat) : jxE := jmk [] [] [] [(258, (3, true), jca_Model_puts F)] 0 jc_M
set_option maxRecDepth 100000 in
set_option maxHeartbeats 4000000 in
theorem jmet_Model_changes_20 (F : Nat) (sh : List jxC) (hs : jHas sh jc_M) (σ0 : jxS) (v1 : Int) (v2 : Int) (v3 : Int) (x : Int) (σ' : jxS) (h : Model_changes F 20 σ0 v1 v2 v3 = some (x, σ')) : jMC yX12_changes cX12_changes 4 (jrt 0) 1 22 sh σ0 [(jmr 20), (jmi v1), (jmi v2), (jmi v3)] (jrv 0 x) σ' := by
  refine jMC_of (kd := 0) (by decide) rfl h ?_
  intro X hX
  have hG : jGd X (jE_Model_changes F) jtb_Model_changes := jGd_of hX jtk_Model_changes jnil jnil jnil (jcon (jsS jlk_X12_258 ⟨rfl, rfl⟩ (jad_Model_puts F sh hs)) jnil) hs
  exact jRf_by (jex_ok hG (cs := []) jnil 23 0 [some (jmr 20), some (jmi v1), some (jmi v2), some (jmi v3)] [] σ0) rfl
set_option maxRecDepth 100000 in
set_option maxHeartbeats 4000000 in
theorem jmet_Model_changes_24 (F : Nat) (sh : List jxC) (hs : jHas sh jc_M) (σ0 : jxS) (v1 : Int) (v2 : Int) (v3 : Int) (x : Int) (σ' : jxS) (h : Model_changes F 24 σ0 v1 v2 v3 = some (x, σ')) : jMC yX12_changes cX12_changes 4 (jrt 0) 1 22 sh σ0 [(jmr 24), (jmi v1), (jmi v2), (jmi v3)] (jrv 0 x) σ' := by
  refine jMC_of (kd := 0) (by decide) rfl h ?_
  intro X hX
  have hG : jGd X (jE_Model_changes F) jtb_Model_changes := jGd_of hX jtk_Model_changes jnil jnil jnil (jcon (jsS jlk_X12_258 ⟨rfl, rfl⟩ (jad_Model_puts F sh hs)) jnil) hs
  exact jRf_by (jex_ok hG (cs := []) jnil 23 0 [some (jmr 24), some (jmi v1), some (jmi v2), some (jmi v3)] [] σ0) rfl
set_option maxRecDepth 100000 in
set_option maxHeartbeats 4000000 in
theorem jmet_Model_changes_26 (F : Nat) (sh : List jxC) (hs : jHas sh jc_M) (σ0 : jxS) (v1 : Int) (v2 : Int) (v3 : Int) (x : Int) (σ' : jxS) (h : Model_changes F 26 σ0 v1 v2 v3 = some (x, σ')) : jMC yX12_changes cX12_changes 4 (jrt 0) 1 22 sh σ0 [(jmr 26), (jmi v1), (jmi v2), (jmi v3)] (jrv 0 x) σ' := by
  refine jMC_of (kd := 0) (by decide) rfl h ?_
  intro X hX
  have hG : jGd X (jE_Model_changes F) jtb_Model_changes := jGd_of hX jtk_Model_changes jnil jnil jnil (jcon (jsS jlk_X12_258 ⟨rfl, rfl⟩ (jad_Model_puts F sh hs)) jnil) hs
  exact jRf_by (jex_ok hG (cs := []) jnil 23 0 [some (jmr 26), some (jmi v1), some (jmi v2), some (jmi v3)] [] σ0) rfl
theorem jmet_Model_changes (F : Nat) (a0 : Nat) (ha0 : a0 ∈ jids_Model_changes_a0) (sh : List jxC) (hs : jHas sh jc_M) (σ0 : jxS) (v1 : Int) (v2 : Int) (v3 : Int) (x : Int) (σ' : jxS) (h : Model_changes F a0 σ0 v1 v2 v3 = some (x, σ')) : jMC yX12_changes cX12_changes 4 (jrt 0) 1 22 sh σ0 [(jmr a0), (jmi v1), (jmi v2), (jmi v3)] (jrv 0 x) σ' := by
  simp only [jids_Model_changes_a0, List.mem_cons, List.not_mem_nil, or_false] at ha0
  rcases ha0 with rfl | rfl | rfl
  · exact jmet_Model_changes_20 F sh hs σ0 v1 v2 v3 x σ' h
  · exact jmet_Model_changes_24 F sh hs σ0 v1 v2 v3 x σ' h
  · exact jmet_Model_changes_26 F sh hs σ0 v1 v2 v3 x σ' h
theorem jad_Model_changes (F : Nat) (sh : List jxC) (hs : jHas sh jc_M) : jAdS (jca_Model_changes F) yX12_changes cX12_changes 4 0 1 22 4 sh := by
  intro as σ k x σ' h
  unfold jca_Model_changes at h
  split at h
  · rename_i t0 v1 v2 v3
    obtain ⟨g0, hh1⟩ := jcond h
    have g0 := jin_of g0
    obtain ⟨r, h1, h2⟩ := Option.bind_eq_some_iff.mp hh1
    exact ⟨_, _, h2, rfl, jmet_Model_changes F t0 g0 sh hs σ v1 v2 v3 r.1 r.2 h1⟩
  · cases h
def jtb_Model_beansOf : List (Nat × Instr) := [(0, .iconst 0), (1, .istore_n 1), (2, .iconst 1), (3, .istore_n 2), (4, .iload_n 2), (5, .bipush 12), (7, .if_icmp .gt 17), (10, .iload_n 1), (11, .iload_n 2), (12, .aload_n 0), (13, .iload_n 2), (14, .iaload), (15, .imul), (16, .iadd), (17, .istore_n 1), (18, .iinc 2 1), (21, .goto (-17)), (24, .iload_n 1), (25, .ireturn)]
theorem jtk_Model_beansOf : jtok cX12_beansOf jtb_Model_beansOf = true := by decide +kernel
def jE_Model_beansOf (F : Nat) : jxE := jmk [] [] [] [] 1 jc_M
set_option maxRecDepth 100000 in
set_option maxHeartbeats 4000000 in
theorem jmet_Model_beansOf_20 (F : Nat) (sh : List jxC) (hs : jHas sh jc_M) (σ0 : jxS) (x : Int) (σ' : jxS) (h : Model_beansOf F 20 σ0 = some (x, σ')) : jMC yX12_beansOf cX12_beansOf 3 (jrt 1) 0 0 sh σ0 [(jmr 20)] (jrv 1 x) σ' := by
  refine jMC_of (kd := 1) (by decide) rfl h ?_
  intro X hX
  have hG : jGd X (jE_Model_beansOf F) jtb_Model_beansOf := jGd_of hX jtk_Model_beansOf jnil jnil jnil jnil hs
  have rr4 : ∀ (fu : Nat) (v1 v2 : Int) (σ : jxS), jRf X (Model_beansOf_c4 F 20 fu v1 v2 σ) 4 [some (jmr 20), some (jmi v1), some (jmi v2)] [] σ := by
    intro  fu
    induction fu with
    | zero => intros; exact jRf_none
    | succ fu ih =>
      intro v1 v2 σ
      exact jRf_by (jex_ok hG (cs := [(4, [some (.inr (some 20)), some (.inl 0), some (.inl 0)], [], fun xs σ => match xs with
      | [v1, v2] => (Model_beansOf_c4 F 20 fu) v1 v2 σ
      | _ => none)]) (jcon (jl2 (fun y0 y1 => jl0 (fun σ => ih y0 y1 σ))) jnil) 22 4 [some (jmr 20), some (jmi v1), some (jmi v2)] [] σ) rfl
  exact jRf_by (jex_ok hG (cs := [(4, [some (.inr (some 20)), some (.inl 0), some (.inl 0)], [], fun xs σ => match xs with
      | [v1, v2] => Model_beansOf_c4 F 20 F v1 v2 σ
      | _ => none)]) (jcon (jl2 (fun y0 y1 => jl0 (fun σ => rr4 F y0 y1 σ))) jnil) 22 0 [some (jmr 20), none, none] [] σ0) rfl
set_option maxRecDepth 100000 in
set_option maxHeartbeats 4000000 in
theorem jmet_Model_beansOf_24 (F : Nat) (sh : List jxC) (hs : jHas sh jc_M) (σ0 : jxS) (x : Int) (σ' : jxS) (h : Model_beansOf F 24 σ0 = some (x, σ')) : jMC yX12_beansOf cX12_beansOf 3 (jrt 1) 0 0 sh σ0 [(jmr 24)] (jrv 1 x) σ' := by
  refine jMC_of (kd := 1) (by decide) rfl h ?_
  intro X hX
  have hG : jGd X (jE_Model_beansOf F) jtb_Model_beansOf := jGd_of hX jtk_Model_beansOf jnil jnil jnil jnil hs
  have rr4 : ∀ (fu : Nat) (v1 v2 : Int) (σ : jxS), jRf X (Model_beansOf_c4 F 24 fu v1 v2 σ) 4 [some (jmr 24), some (jmi v1), some (jmi v2)] [] σ := by
    intro  fu
    induction fu with
    | zero => intros; exact jRf_none
    | succ fu ih =>
      intro v1 v2 σ
      exact jRf_by (jex_ok hG (cs := [(4, [some (.inr (some 24)), some (.inl 0), some (.inl 0)], [], fun xs σ => match xs with
      | [v1, v2] => (Model_beansOf_c4 F 24 fu) v1 v2 σ
      | _ => none)]) (jcon (jl2 (fun y0 y1 => jl0 (fun σ => ih y0 y1 σ))) jnil) 22 4 [some (jmr 24), some (jmi v1), some (jmi v2)] [] σ) rfl
  exact jRf_by (jex_ok hG (cs := [(4, [some (.inr (some 24)), some (.inl 0), some (.inl 0)], [], fun xs σ => match xs with
      | [v1, v2] => Model_beansOf_c4 F 24 F v1 v2 σ
      | _ => none)]) (jcon (jl2 (fun y0 y1 => jl0 (fun σ => rr4 F y0 y1 σ))) jnil) 22 0 [some (jmr 24), none, none] [] σ0) rfl
set_option maxRecDepth 100000 in
set_option maxHeartbeats 4000000 in
theorem jmet_Model_beansOf_26 (F : Nat) (sh : List jxC) (hs : jHas sh jc_M) (σ0 : jxS) (x : Int) (σ' : jxS) (h : Model_beansOf F 26 σ0 = some (x, σ')) : jMC yX12_beansOf cX12_beansOf 3 (jrt 1) 0 0 sh σ0 [(jmr 26)] (jrv 1 x) σ' := by
  refine jMC_of (kd := 1) (by decide) rfl h ?_
  intro X hX
  have hG : jGd X (jE_Model_beansOf F) jtb_Model_beansOf := jGd_of hX jtk_Model_beansOf jnil jnil jnil jnil hs
  have rr4 : ∀ (fu : Nat) (v1 v2 : Int) (σ : jxS), jRf X (Model_beansOf_c4 F 26 fu v1 v2 σ) 4 [some (jmr 26), some (jmi v1), some (jmi v2)] [] σ := by
    intro  fu
    induction fu with
    | zero => intros; exact jRf_none
    | succ fu ih =>
      intro v1 v2 σ
      exact jRf_by (jex_ok hG (cs := [(4, [some (.inr (some 26)), some (.inl 0), some (.inl 0)], [], fun xs σ => match xs with
      | [v1, v2] => (Model_beansOf_c4 F 26 fu) v1 v2 σ
      | _ => none)]) (jcon (jl2 (fun y0 y1 => jl0 (fun σ => ih y0 y1 σ))) jnil) 22 4 [some (jmr 26), some (jmi v1), some (jmi v2)] [] σ) rfl
  exact jRf_by (jex_ok hG (cs := [(4, [some (.inr (some 26)), some (.inl 0), some (.inl 0)], [], fun xs σ => match xs with
      | [v1, v2] => Model_beansOf_c4 F 26 F v1 v2 σ
      | _ => none)]) (jcon (jl2 (fun y0 y1 => jl0 (fun σ => rr4 F y0 y1 σ))) jnil) 22 0 [some (jmr 26), none, none] [] σ0) rfl
set_option maxRecDepth 100000 in
set_option maxHeartbeats 4000000 in
theorem jmet_Model_beansOf_28 (F : Nat) (sh : List jxC) (hs : jHas sh jc_M) (σ0 : jxS) (x : Int) (σ' : jxS) (h : Model_beansOf F 28 σ0 = some (x, σ')) : jMC yX12_beansOf cX12_beansOf 3 (jrt 1) 0 0 sh σ0 [(jmr 28)] (jrv 1 x) σ' := by
  refine jMC_of (kd := 1) (by decide) rfl h ?_
  intro X hX
  have hG : jGd X (jE_Model_beansOf F) jtb_Model_beansOf := jGd_of hX jtk_Model_beansOf jnil jnil jnil jnil hs
  have rr4 : ∀ (fu : Nat) (v1 v2 : Int) (σ : jxS), jRf X (Model_beansOf_c4 F 28 fu v1 v2 σ) 4 [some (jmr 28), some (jmi v1), some (jmi v2)] [] σ := by
    intro  fu
    induction fu with
    | zero => intros; exact jRf_none
    | succ fu ih =>
      intro v1 v2 σ
      exact jRf_by (jex_ok hG (cs := [(4, [some (.inr (some 28)), some (.inl 0), some (.inl 0)], [], fun xs σ => match xs with
      | [v1, v2] => (Model_beansOf_c4 F 28 fu) v1 v2 σ
      | _ => none)]) (jcon (jl2 (fun y0 y1 => jl0 (fun σ => ih y0 y1 σ))) jnil) 22 4 [some (jmr 28), some (jmi v1), some (jmi v2)] [] σ) rfl
  exact jRf_by (jex_ok hG (cs := [(4, [some (.inr (some 28)), some (.inl 0), some (.inl 0)], [], fun xs σ => match xs with
      | [v1, v2] => Model_beansOf_c4 F 28 F v1 v2 σ
      | _ => none)]) (jcon (jl2 (fun y0 y1 => jl0 (fun σ => rr4 F y0 y1 σ))) jnil) 22 0 [some (jmr 28), none, none] [] σ0) rfl
set_option maxRecDepth 100000 in
set_option maxHeartbeats 4000000 in
theorem jmet_Model_beansOf_38 (F : Nat) (sh : List jxC) (hs : jHas sh jc_M) (σ0 : jxS) (x : Int) (σ' : jxS) (h : Model_beansOf F 38 σ0 = some (x, σ')) : jMC yX12_beansOf cX12_beansOf 3 (jrt 1) 0 0 sh σ0 [(jmr 38)] (jrv 1 x) σ' := by
  refine jMC_of (kd := 1) (by decide) rfl h ?_
  intro X hX
  have hG : jGd X (jE_Model_beansOf F) jtb_Model_beansOf := jGd_of hX jtk_Model_beansOf jnil jnil jnil jnil hs
  have rr4 : ∀ (fu : Nat) (v1 v2 : Int) (σ : jxS), jRf X (Model_beansOf_c4 F 38 fu v1 v2 σ) 4 [some (jmr 38), some (jmi v1), some (jmi v2)] [] σ := by
    intro  fu
    induction fu with
    | zero => intros; exact jRf_none
    | succ fu ih =>
      intro v1 v2 σ
      exact jRf_by (jex_ok hG (cs := [(4, [some (.inr (some 38)), some (.inl 0), some (.inl 0)], [], fun xs σ => match xs with
      | [v1, v2] => (Model_beansOf_c4 F 38 fu) v1 v2 σ
      | _ => none)]) (jcon (jl2 (fun y0 y1 => jl0 (fun σ => ih y0 y1 σ))) jnil) 22 4 [some (jmr 38), some (jmi v1), some (jmi v2)] [] σ) rfl
  exact jRf_by (jex_ok hG (cs := [(4, [some (.inr (some 38)), some (.inl 0), some (.inl 0)], [], fun xs σ => match xs with
      | [v1, v2] => Model_beansOf_c4 F 38 F v1 v2 σ
      | _ => none)]) (jcon (jl2 (fun y0 y1 => jl0 (fun σ => rr4 F y0 y1 σ))) jnil) 22 0 [some (jmr 38), none, none] [] σ0) rfl
theorem jmet_Model_beansOf (F : Nat) (a0 : Nat) (ha0 : a0 ∈ jids_Model_beansOf_a0) (sh : List jxC) (hs : jHas sh jc_M) (σ0 : jxS) (x : Int) (σ' : jxS) (h : Model_beansOf F a0 σ0 = some (x, σ')) : jMC yX12_beansOf cX12_beansOf 3 (jrt 1) 0 0 sh σ0 [(jmr a0)] (jrv 1 x) σ' := by
  simp only [jids_Model_beansOf_a0, List.mem_cons, List.not_mem_nil, or_false] at ha0
  rcases ha0 with rfl | rfl | rfl | rfl | rfl
  · exact jmet_Model_beansOf_20 F sh hs σ0  x σ' h
  · exact jmet_Model_beansOf_24 F sh hs σ0  x σ' h
  · exact jmet_Model_beansOf_26 F sh hs σ0  x σ' h
  · exact jmet_Model_beansOf_28 F sh hs σ0  x σ' h
  · exact jmet_Model_beansOf_38 F sh hs σ0  x σ' h
theorem jad_Model_beansOf (F : Nat) (sh : List jxC) (hs : jHas sh jc_M) : jAdS (jca_Model_beansOf F) yX12_beansOf cX12_beansOf 3 1 0 0 1 sh := by
  intro as σ k x σ' h
  unfold jca_Model_beansOf at h
  split at h
  · rename_i t0
    obtain ⟨g0, hh1⟩ := jcond h
    have g0 := jin_of g0
    obtain ⟨r, h1, h2⟩ := Option.bind_eq_some_iff.mp hh1
    exact ⟨_, _, h2, rfl, jmet_Model_beansOf F t0 g0 sh hs σ  r.1 r.2 h1⟩
  · cases h
