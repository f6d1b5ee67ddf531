/-! Contracts: Model_findsElements Model_nextBy Model_setBy Model_pairAt Model_findsPairs Model_isSteady Model_arePairsRight Model_laysQuotient Model_isQuotient Model_elements Model_isKnown Model_isElement Model_word Model_next_IIII Model_timesOf Model_times Model_comesOf Model_sets Model_pairs Model_proved Model_areAlike Model_stays -/
def jtb_Model_findsElements : List (Nat × Instr) := [(0, .aload_n 0), (1, .getfield 102), (4, .iload_n 1), (5, .iconst 0), (6, .iastore), (7, .iconst 0), (8, .istore_n 2), (9, .iload_n 2), (10, .bipush 13), (12, .if_icmp .ge 16), (15, .aload_n 0), (16, .getfield 124), (19, .iload_n 2), (20, .iconst 0), (21, .iastore), (22, .iinc 2 1), (25, .goto (-16)), (28, .aload_n 0), (29, .iload_n 1), (30, .aload_n 0), (31, .iload_n 1), (32, .invokevirtual 388), (35, .invokevirtual 384), (38, .iconst 0), (39, .istore_n 2), (40, .iload_n 2), (41, .aload_n 0), (42, .getfield 102), (45, .iload_n 1), (46, .iaload), (47, .if_icmp .ge 84), (50, .iconst 1), (51, .istore_n 3), (52, .iload_n 3), (53, .iload_n 1), (54, .if_icmp .gt 71), (57, .aload_n 0), (58, .iload_n 1), (59, .iload_n 2), (60, .invokevirtual 392), (63, .aload_n 0), (64, .getfield 124), (67, .iload_n 3), (68, .dup2), (69, .iaload), (70, .iconst 1), (71, .iadd), (72, .iastore), (73, .aload_n 0), (74, .getfield 124), (77, .invokestatic 254), (80, .bipush 15), (82, .if_icmp .le 5), (85, .iconst 0), (86, .ireturn), (87, .aload_n 0), (88, .iload_n 1), (89, .aload_n 0), (90, .iload_n 1), (91, .invokevirtual 388), (94, .invokevirtual 395), (97, .istore 4), (99, .iload 4), (101, .ifCond .ge 5), (104, .iconst 0), (105, .ireturn), (106, .aload_n 0), (107, .getfield 108), (110, .iload_n 1), (111, .iload_n 2), (112, .iload_n 3), (113, .invokestatic 380), (116, .iload 4), (118, .iastore), (119, .iinc 3 1), (122, .goto (-70)), (125, .iinc 2 1), (128, .goto (-88)), (131, .iconst 1), (132, .ireturn)]
theorem jtk_Model_findsElements : jtok cX12_findsElements jtb_Model_findsElements = true := by decide +kernel
set_option maxRecDepth 100000 in
theorem jfl_X12_108 : jFl RX12 108 12 48 := ⟨RX12, TX12, 57, tyX12, rfl, by decide, jin_X12, tyX12_ok, nmX12, jow_X12, (Or.inl (jTB_at 1389 rfl rfl))⟩
set_option maxRecDepth 100000 in
theorem jlk_X12_388 : jLkV RX12 388 yX12_markOf cX12_markOf 8 2 1 := ⟨(jTB_at 1837 rfl rfl), (jTB_at 1839 rfl rfl), (jTB_at 96 rfl rfl), (jTB_at 115 rfl rfl), jTB_at 1840 rfl rfl, ⟨by decide, by decide, by decide +kernel⟩⟩
set_option maxRecDepth 100000 in
theorem jlk_X12_392 : jLkV RX12 392 yX12_takesWord cX12_takesWord 4 0 2 := ⟨(jTB_at 1848 rfl rfl), (jTB_at 1850 rfl rfl), (jTB_at 98 rfl rfl), (jTB_at 115 rfl rfl), jTB_at 1851 rfl rfl, ⟨by decide, by decide, by decide +kernel⟩⟩
set_option maxRecDepth 100000 in
theorem jlk_X12_395 : jLkV RX12 395 yX12_elementBy cX12_elementBy 5 1 2 := ⟨(jTB_at 1852 rfl rfl), (jTB_at 1854 rfl rfl), (jTB_at 99 rfl rfl), (jTB_at 115 rfl rfl), jTB_at 1855 rfl rfl, ⟨by decide, by decide, by decide +kernel⟩⟩
def jE_Model_findsElements (F : Nat) : jxE := jmk [(102, 12, 46), (108, 12, 48), (124, 12, 53)] [] [] [(254, (1, true), jca_Model_beansOf F), (380, (3, true), jca_Model_placeOf F), (384, (3, false), jca_Model_addsElement F), (388, (2, false), jca_Model_markOf F), (392, (3, false), jca_Model_takesWord F), (395, (3, false), jca_Model_elementBy F)] 4 jc_M
set_option maxRecDepth 100000 in
set_option maxHeartbeats 4000000 in
theorem jmet_Model_findsElements (F : Nat) (sh : List jxC) (hs : jHas sh jc_M) (σ0 : jxS) (v1 : Int) (x : Int) (σ' : jxS) (h : Model_findsElements F σ0 v1 = some (x, σ')) : jMC yX12_findsElements cX12_findsElements 5 (jrt 4) 4 97 sh σ0 [(jmr 0), (jmi v1)] (jrv 4 x) σ' := by
  refine jMC_of (kd := 4) (by decide) rfl h ?_
  intro X hX
  have hG : jGd X (jE_Model_findsElements F) jtb_Model_findsElements := jGd_of hX jtk_Model_findsElements (jcon jfl_X12_102 (jcon jfl_X12_108 (jcon jfl_X12_124 jnil))) jnil jnil (jcon (jsS jlk_X12_254 ⟨rfl, rfl⟩ (jad_Model_beansOf F sh hs)) (jcon (jsS jlk_X12_380 ⟨rfl, rfl⟩ (jad_Model_placeOf F sh hs)) (jcon (jsV jlk_X12_384 ⟨rfl, rfl⟩ (jad_Model_addsElement F sh hs)) (jcon (jsV jlk_X12_388 ⟨rfl, rfl⟩ (jad_Model_markOf F sh hs)) (jcon (jsV jlk_X12_392 ⟨rfl, rfl⟩ (jad_Model_takesWord F sh hs)) (jcon (jsV jlk_X12_395 ⟨rfl, rfl⟩ (jad_Model_elementBy F sh hs)) jnil)))))) hs
  have rr52 : ∀ (k40 : Int → Int → jxS → Option jxR) (h40 : ∀ v1 v2 σ, jRf X (k40 v1 v2 σ) 40 [some (jmr 0), some (jmi v1), some (jmi v2), none, none] [] σ) (fu : Nat) (v1 v2 v3 : Int) (σ : jxS), jRf X (Model_findsElements_c52 F k40 fu v1 v2 v3 σ) 52 [some (jmr 0), some (jmi v1), some (jmi v2), some (jmi v3), none] [] σ := by
    intro k40 h40 fu
    induction fu with
    | zero => intros; exact jRf_none
    | succ fu ih =>
      intro v1 v2 v3 σ
      exact jRf_by (jex_ok hG (cs := [(40, [some (.inr (some 0)), some (.inl 0), some (.inl 0), none, none], [], fun xs σ => match xs with
      | [v1, v2] => k40 v1 v2 σ
      | _ => none), (52, [some (.inr (some 0)), some (.inl 0), some (.inl 0), some (.inl 0), none], [], fun xs σ => match xs with
      | [v1, v2, v3] => (Model_findsElements_c52 F k40 fu) v1 v2 v3 σ
      | _ => none)]) (jcon (jl2 (fun y0 y1 => jl0 (fun σ => h40 y0 y1 σ))) (jcon (jl3 (fun y0 y1 y2 => jl0 (fun σ => ih y0 y1 y2 σ))) jnil)) 83 52 [some (jmr 0), some (jmi v1), some (jmi v2), some (jmi v3), none] [] σ) rfl
  have rr40 : ∀ (fu : Nat) (v1 v2 : Int) (σ : jxS), jRf X (Model_findsElements_c40 F fu v1 v2 σ) 40 [some (jmr 0), some (jmi v1), some (jmi v2), none, none] [] σ := by
    intro  fu
    induction fu with
    | zero => intros; exact jRf_none
    | succ fu ih =>
      intro v1 v2 σ
      exact jRf_by (jex_ok hG (cs := [(52, [some (.inr (some 0)), some (.inl 0), some (.inl 0), some (.inl 0), none], [], fun xs σ => match xs with
      | [v1, v2, v3] => Model_findsElements_c52 F (Model_findsElements_c40 F fu) F v1 v2 v3 σ
      | _ => none)]) (jcon (jl3 (fun y0 y1 y2 => jl0 (fun σ => rr52 _ ih F y0 y1 y2 σ))) jnil) 83 40 [some (jmr 0), some (jmi v1), some (jmi v2), none, none] [] σ) rfl
  have rr9 : ∀ (fu : Nat) (v1 v2 : Int) (σ : jxS), jRf X (Model_findsElements_c9 F fu v1 v2 σ) 9 [some (jmr 0), some (jmi v1), some (jmi v2), none, none] [] σ := by
    intro  fu
    induction fu with
    | zero => intros; exact jRf_none
    | succ fu ih =>
      intro v1 v2 σ
      exact jRf_by (jex_ok hG (cs := [(9, [some (.inr (some 0)), some (.inl 0), some (.inl 0), none, none], [], fun xs σ => match xs with
      | [v1, v2] => (Model_findsElements_c9 F fu) v1 v2 σ
      | _ => none), (40, [some (.inr (some 0)), some (.inl 0), some (.inl 0), none, none], [], fun xs σ => match xs with
      | [v1, v2] => Model_findsElements_c40 F F v1 v2 σ
      | _ => none)]) (jcon (jl2 (fun y0 y1 => jl0 (fun σ => ih y0 y1 σ))) (jcon (jl2 (fun y0 y1 => jl0 (fun σ => rr40 F y0 y1 σ))) jnil)) 83 9 [some (jmr 0), some (jmi v1), some (jmi v2), none, none] [] σ) rfl
  exact jRf_by (jex_ok hG (cs := [(9, [some (.inr (some 0)), some (.inl 0), some (.inl 0), none, none], [], fun xs σ => match xs with
      | [v1, v2] => Model_findsElements_c9 F F v1 v2 σ
      | _ => none)]) (jcon (jl2 (fun y0 y1 => jl0 (fun σ => rr9 F y0 y1 σ))) jnil) 83 0 [some (jmr 0), some (jmi v1), none, none, none] [] σ0) rfl
theorem jad_Model_findsElements (F : Nat) (sh : List jxC) (hs : jHas sh jc_M) : jAdV (jca_Model_findsElements F) yX12_findsElements cX12_findsElements 5 4 4 97 1 sh := by
  intro as σ k x σ' h
  unfold jca_Model_findsElements at h
  split at h
  · rename_i t0 v1
    obtain ⟨g0, hh1⟩ := jcond h
    obtain rfl := jbeq g0
    obtain ⟨r, h1, h2⟩ := Option.bind_eq_some_iff.mp hh1
    exact ⟨_, _, h2, ⟨_, _, _, _, _, _, rfl, rfl, (hs _ (jkf_in (l := jc_M) (idx := 0) rfl)).1, rfl⟩, jmet_Model_findsElements F  sh hs σ v1 r.1 r.2 h1⟩
  · cases h
def jtb_Model_nextBy : List (Nat × Instr) := [(0, .iload_n 3), (1, .ifCond .ne 7), (4, .iload_n 2), (5, .goto 14), (8, .aload_n 0), (9, .getfield 108), (12, .iload_n 1), (13, .iload_n 2), (14, .iload_n 3), (15, .invokestatic 380), (18, .iaload), (19, .ireturn)]
theorem jtk_Model_nextBy : jtok cX12_nextBy jtb_Model_nextBy = true := by decide +kernel
def jE_Model_nextBy (F : Nat) : jxE := jmk [(108, 12, 48)] [] [] [(380, (3, true), jca_Model_placeOf F)] 1 jc_M
set_option maxRecDepth 100000 in
set_option maxHeartbeats 4000000 in
theorem jmet_Model_nextBy (F : Nat) (sh : List jxC) (hs : jHas sh jc_M) (σ0 : jxS) (v1 : Int) (v2 : Int) (v3 : Int) (x : Int) (σ' : jxS) (h : Model_nextBy F σ0 v1 v2 v3 = some (x, σ')) : jMC yX12_nextBy cX12_nextBy 4 (jrt 1) 1 22 sh σ0 [(jmr 0), (jmi v1), (jmi v2), (jmi v3)] (jrv 1 x) σ' := by
  refine jMC_of (kd := 1) (by decide) rfl h ?_
  intro X hX
  have hG : jGd X (jE_Model_nextBy F) jtb_Model_nextBy := jGd_of hX jtk_Model_nextBy (jcon jfl_X12_108 jnil) jnil jnil (jcon (jsS jlk_X12_380 ⟨rfl, rfl⟩ (jad_Model_placeOf F sh hs)) jnil) hs
  exact jRf_by (jex_ok hG (cs := []) jnil 15 0 [some (jmr 0), some (jmi v1), some (jmi v2), some (jmi v3)] [] σ0) rfl
theorem jad_Model_nextBy (F : Nat) (sh : List jxC) (hs : jHas sh jc_M) : jAdV (jca_Model_nextBy F) yX12_nextBy cX12_nextBy 4 1 1 22 3 sh := by
  intro as σ k x σ' h
  unfold jca_Model_nextBy at h
  split at h
  · rename_i t0 v1 v2 v3
    obtain ⟨g0, hh1⟩ := jcond h
    obtain rfl := jbeq g0
    obtain ⟨r, h1, h2⟩ := Option.bind_eq_some_iff.mp hh1
    exact ⟨_, _, h2, ⟨_, _, _, _, _, _, rfl, rfl, (hs _ (jkf_in (l := jc_M) (idx := 0) rfl)).1, rfl⟩, jmet_Model_nextBy F  sh hs σ v1 v2 v3 r.1 r.2 h1⟩
  · cases h
def jtb_Model_setBy : List (Nat × Instr) := [(0, .iconst 0), (1, .istore 5), (3, .iconst 0), (4, .istore 6), (6, .iload 6), (8, .aload_n 0), (9, .getfield 102), (12, .iload_n 1), (13, .iaload), (14, .if_icmp .ge 38), (17, .iload 5), (19, .iload_n 3), (20, .iload 6), (22, .invokestatic 248), (25, .ifCond .eq 17), (28, .iconst 1), (29, .aload_n 0), (30, .iload_n 1), (31, .iload 6), (33, .iload 4), (35, .invokevirtual 399), (38, .ishl), (39, .goto 4), (42, .iconst 0), (43, .ior), (44, .istore 5), (46, .iinc 6 1), (49, .goto (-43)), (52, .iconst 0), (53, .istore 6), (55, .iload 6), (57, .aload_n 0), (58, .getfield 39), (61, .iload 4), (63, .iaload), (64, .if_icmp .ge 59), (67, .iload 5), (69, .iconst 1), (70, .aload_n 0), (71, .iload_n 1), (72, .aload_n 0), (73, .iload_n 1), (74, .iload_n 2), (75, .aload_n 0), (76, .getfield 36), (79, .bipush 64), (81, .iload 4), (83, .imul), (84, .iload 6), (86, .iadd), (87, .iaload), (88, .bipush 13), (90, .idiv), (91, .invokevirtual 399), (94, .aload_n 0), (95, .getfield 36), (98, .bipush 64), (100, .iload 4), (102, .imul), (103, .iload 6), (105, .iadd), (106, .iaload), (107, .bipush 13), (109, .irem), (110, .invokevirtual 399), (113, .ishl), (114, .ior), (115, .istore 5), (117, .iinc 6 1), (120, .goto (-65)), (123, .iload 5), (125, .ireturn)]
theorem jtk_Model_setBy : jtok cX12_setBy jtb_Model_setBy = true := by decide +kernel
set_option maxRecDepth 100000 in
theorem jlk_X12_399 : jLkV RX12 399 yX12_nextBy cX12_nextBy 4 1 3 := ⟨(jTB_at 1860 rfl rfl), (jTB_at 1862 rfl rfl), (jTB_at 101 rfl rfl), (jTB_at 115 rfl rfl), jTB_at 1863 rfl rfl, ⟨by decide, by decide, by decide +kernel⟩⟩
def jE_Model_setBy (F : Nat) : jxE := jmk [(36, 12, 18), (39, 12, 19), (102, 12, 46)] [] [] [(248, (2, true), jca_Model_has F), (399, (4, false), jca_Model_nextBy F)] 1 jc_M
set_option maxRecDepth 100000 in
set_option maxHeartbeats 4000000 in
theorem jmet_Model_setBy (F : Nat) (sh : List jxC) (hs : jHas sh jc_M) (σ0 : jxS) (v1 : Int) (v2 : Int) (v3 : Int) (v4 : Int) (x : Int) (σ' : jxS) (h : Model_setBy F σ0 v1 v2 v3 v4 = some (x, σ')) : jMC yX12_setBy cX12_setBy 7 (jrt 1) 2 45 sh σ0 [(jmr 0), (jmi v1), (jmi v2), (jmi v3), (jmi v4)] (jrv 1 x) σ' := by
  refine jMC_of (kd := 1) (by decide) rfl h ?_
  intro X hX
  have hG : jGd X (jE_Model_setBy F) jtb_Model_setBy := jGd_of hX jtk_Model_setBy (jcon jfl_X12_36 (jcon jfl_X12_39 (jcon jfl_X12_102 jnil))) jnil jnil (jcon (jsS jlk_X12_248 ⟨rfl, rfl⟩ (jad_Model_has F sh hs)) (jcon (jsV jlk_X12_399 ⟨rfl, rfl⟩ (jad_Model_nextBy F sh hs)) jnil)) hs
  have rr55 : ∀ (fu : Nat) (v1 v2 v4 v5 v6 : Int) (σ : jxS), jRf X (Model_setBy_c55 F fu v1 v2 v4 v5 v6 σ) 55 [some (jmr 0), some (jmi v1), some (jmi v2), none, some (jmi v4), some (jmi v5), some (jmi v6)] [] σ := by
    intro  fu
    induction fu with
    | zero => intros; exact jRf_none
    | succ fu ih =>
      intro v1 v2 v4 v5 v6 σ
      exact jRf_by (jex_ok hG (cs := [(55, [some (.inr (some 0)), some (.inl 0), some (.inl 0), none, some (.inl 0), some (.inl 0), some (.inl 0)], [], fun xs σ => match xs with
      | [v1, v2, v4, v5, v6] => (Model_setBy_c55 F fu) v1 v2 v4 v5 v6 σ
      | _ => none)]) (jcon (jl5 (fun y0 y1 y2 y3 y4 => jl0 (fun σ => ih y0 y1 y2 y3 y4 σ))) jnil) 75 55 [some (jmr 0), some (jmi v1), some (jmi v2), none, some (jmi v4), some (jmi v5), some (jmi v6)] [] σ) rfl
  have rr6 : ∀ (fu : Nat) (v1 v2 v3 v4 v5 v6 : Int) (σ : jxS), jRf X (Model_setBy_c6 F fu v1 v2 v3 v4 v5 v6 σ) 6 [some (jmr 0), some (jmi v1), some (jmi v2), some (jmi v3), some (jmi v4), some (jmi v5), some (jmi v6)] [] σ := by
    intro  fu
    induction fu with
    | zero => intros; exact jRf_none
    | succ fu ih =>
      intro v1 v2 v3 v4 v5 v6 σ
      exact jRf_by (jex_ok hG (cs := [(6, [some (.inr (some 0)), some (.inl 0), some (.inl 0), some (.inl 0), some (.inl 0), some (.inl 0), some (.inl 0)], [], fun xs σ => match xs with
      | [v1, v2, v3, v4, v5, v6] => (Model_setBy_c6 F fu) v1 v2 v3 v4 v5 v6 σ
      | _ => none), (55, [some (.inr (some 0)), some (.inl 0), some (.inl 0), none, some (.inl 0), some (.inl 0), some (.inl 0)], [], fun xs σ => match xs with
      | [v1, v2, v4, v5, v6] => Model_setBy_c55 F F v1 v2 v4 v5 v6 σ
      | _ => none)]) (jcon (jl6 (fun y0 y1 y2 y3 y4 y5 => jl0 (fun σ => ih y0 y1 y2 y3 y4 y5 σ))) (jcon (jl5 (fun y0 y1 y2 y3 y4 => jl0 (fun σ => rr55 F y0 y1 y2 y3 y4 σ))) jnil)) 75 6 [some (jmr 0), some (jmi v1), some (jmi v2), some (jmi v3), some (jmi v4), some (jmi v5), some (jmi v6)] [] σ) rfl
  exact jRf_by (jex_ok hG (cs := [(6, [some (.inr (some 0)), some (.inl 0), some (.inl 0), some (.inl 0), some (.inl 0), some (.inl 0), some (.inl 0)], [], fun xs σ => match xs with
      | [v1, v2, v3, v4, v5, v6] => Model_setBy_c6 F F v1 v2 v3 v4 v5 v6 σ
      | _ => none)]) (jcon (jl6 (fun y0 y1 y2 y3 y4 y5 => jl0 (fun σ => rr6 F y0 y1 y2 y3 y4 y5 σ))) jnil) 75 0 [some (jmr 0), some (jmi v1), some (jmi v2), some (jmi v3), some (jmi v4), none, none] [] σ0) rfl
theorem jad_Model_setBy (F : Nat) (sh : List jxC) (hs : jHas sh jc_M) : jAdV (jca_Model_setBy F) yX12_setBy cX12_setBy 7 1 2 45 4 sh := by
  intro as σ k x σ' h
  unfold jca_Model_setBy at h
  split at h
  · rename_i t0 v1 v2 v3 v4
    obtain ⟨g0, hh1⟩ := jcond h
    obtain rfl := jbeq g0
    obtain ⟨r, h1, h2⟩ := Option.bind_eq_some_iff.mp hh1
    exact ⟨_, _, h2, ⟨_, _, _, _, _, _, rfl, rfl, (hs _ (jkf_in (l := jc_M) (idx := 0) rfl)).1, rfl⟩, jmet_Model_setBy F  sh hs σ v1 v2 v3 v4 r.1 r.2 h1⟩
  · cases h
def jtb_Model_pairAt : List (Nat × Instr) := [(0, .iconst 0), (1, .istore 4), (3, .iload 4), (5, .iload_n 1), (6, .if_icmp .ge 34), (9, .aload_n 0), (10, .getfield 127), (13, .iload 4), (15, .iaload), (16, .iload_n 2), (17, .if_icmp .ne 17), (20, .aload_n 0), (21, .getfield 130), (24, .iload 4), (26, .iaload), (27, .iload_n 3), (28, .if_icmp .ne 6), (31, .iload 4), (33, .ireturn), (34, .iinc 4 1), (37, .goto (-34)), (40, .iconst (-1)), (41, .ireturn)]
theorem jtk_Model_pairAt : jtok cX12_pairAt jtb_Model_pairAt = true := by decide +kernel
set_option maxRecDepth 100000 in
theorem jfl_X12_127 : jFl RX12 127 12 54 := ⟨RX12, TX12, 57, tyX12, rfl, by decide, jin_X12, tyX12_ok, nmX12, jow_X12, (Or.inl (jTB_at 1395 rfl rfl))⟩
set_option maxRecDepth 100000 in
theorem jfl_X12_130 : jFl RX12 130 12 55 := ⟨RX12, TX12, 57, tyX12, rfl, by decide, jin_X12, tyX12_ok, nmX12, jow_X12, (Or.inl (jTB_at 1396 rfl rfl))⟩
def jE_Model_pairAt (F : Nat) : jxE := jmk [(127, 12, 54), (130, 12, 55)] [] [] [] 1 jc_M
set_option maxRecDepth 100000 in
set_option maxHeartbeats 4000000 in
theorem jmet_Model_pairAt (F : Nat) (sh : List jxC) (hs : jHas sh jc_M) (σ0 : jxS) (v1 : Int) (v2 : Int) (v3 : Int) (x : Int) (σ' : jxS) (h : Model_pairAt F σ0 v1 v2 v3 = some (x, σ')) : jMC yX12_pairAt cX12_pairAt 5 (jrt 1) 0 0 sh σ0 [(jmr 0), (jmi v1), (jmi v2), (jmi v3)] (jrv 1 x) σ' := by
  refine jMC_of (kd := 1) (by decide) rfl h ?_
  intro X hX
  have hG : jGd X (jE_Model_pairAt F) jtb_Model_pairAt := jGd_of hX jtk_Model_pairAt (jcon jfl_X12_127 (jcon jfl_X12_130 jnil)) jnil jnil jnil hs
  have rr3 : ∀ (fu : Nat) (v1 v2 v3 v4 : Int) (σ : jxS), jRf X (Model_pairAt_c3 F fu v1 v2 v3 v4 σ) 3 [some (jmr 0), some (jmi v1), some (jmi v2), some (jmi v3), some (jmi v4)] [] σ := by
    intro  fu
    induction fu with
    | zero => intros; exact jRf_none
    | succ fu ih =>
      intro v1 v2 v3 v4 σ
      exact jRf_by (jex_ok hG (cs := [(3, [some (.inr (some 0)), some (.inl 0), some (.inl 0), some (.inl 0), some (.inl 0)], [], fun xs σ => match xs with
      | [v1, v2, v3, v4] => (Model_pairAt_c3 F fu) v1 v2 v3 v4 σ
      | _ => none)]) (jcon (jl4 (fun y0 y1 y2 y3 => jl0 (fun σ => ih y0 y1 y2 y3 σ))) jnil) 26 3 [some (jmr 0), some (jmi v1), some (jmi v2), some (jmi v3), some (jmi v4)] [] σ) rfl
  exact jRf_by (jex_ok hG (cs := [(3, [some (.inr (some 0)), some (.inl 0), some (.inl 0), some (.inl 0), some (.inl 0)], [], fun xs σ => match xs with
      | [v1, v2, v3, v4] => Model_pairAt_c3 F F v1 v2 v3 v4 σ
      | _ => none)]) (jcon (jl4 (fun y0 y1 y2 y3 => jl0 (fun σ => rr3 F y0 y1 y2 y3 σ))) jnil) 26 0 [some (jmr 0), some (jmi v1), some (jmi v2), some (jmi v3), none] [] σ0) rfl
theorem jad_Model_pairAt (F : Nat) (sh : List jxC) (hs : jHas sh jc_M) : jAdV (jca_Model_pairAt F) yX12_pairAt cX12_pairAt 5 1 0 0 3 sh := by
  intro as σ k x σ' h
  unfold jca_Model_pairAt at h
  split at h
  · rename_i t0 v1 v2 v3
    obtain ⟨g0, hh1⟩ := jcond h
    obtain rfl := jbeq g0
    obtain ⟨r, h1, h2⟩ := Option.bind_eq_some_iff.mp hh1
    exact ⟨_, _, h2, ⟨_, _, _, _, _, _, rfl, rfl, (hs _ (jkf_in (l := jc_M) (idx := 0) rfl)).1, rfl⟩, jmet_Model_pairAt F  sh hs σ v1 v2 v3 r.1 r.2 h1⟩
  · cases h
def jtb_Model_findsPairs : List (Nat × Instr) := [(0, .aload_n 0), (1, .getfield 127), (4, .iconst 0), (5, .iconst 0), (6, .iastore), (7, .aload_n 0), (8, .getfield 130), (11, .iconst 0), (12, .iconst 0), (13, .iastore), (14, .iconst 1), (15, .istore_n 2), (16, .iconst 0), (17, .istore_n 3), (18, .iload_n 3), (19, .iload_n 2), (20, .if_icmp .ge 104), (23, .iconst 1), (24, .istore 4), (26, .iload 4), (28, .iload_n 1), (29, .if_icmp .gt 89), (32, .aload_n 0), (33, .iload_n 1), (34, .aload_n 0), (35, .getfield 127), (38, .iload_n 3), (39, .iaload), (40, .iload 4), (42, .invokevirtual 399), (45, .istore 5), (47, .aload_n 0), (48, .iload_n 1), (49, .aload_n 0), (50, .getfield 127), (53, .iload_n 3), (54, .iaload), (55, .aload_n 0), (56, .getfield 130), (59, .iload_n 3), (60, .iaload), (61, .iload 4), (63, .invokevirtual 402), (66, .istore 6), (68, .aload_n 0), (69, .iload_n 2), (70, .iload 5), (72, .iload 6), (74, .invokevirtual 406), (77, .ifCond .lt 6), (80, .goto 32), (83, .iload_n 2), (84, .sipush 2000), (87, .if_icmp .ne 6), (90, .bipush (-2)), (92, .ireturn), (93, .aload_n 0), (94, .getfield 127), (97, .iload_n 2), (98, .iload 5), (100, .iastore), (101, .aload_n 0), (102, .getfield 130), (105, .iload_n 2), (106, .iload 6), (108, .iastore), (109, .iinc 2 1), (112, .iinc 4 1), (115, .goto (-89)), (118, .iinc 3 1), (121, .goto (-103)), (124, .iload_n 2), (125, .ireturn)]
theorem jtk_Model_findsPairs : jtok cX12_findsPairs jtb_Model_findsPairs = true := by decide +kernel
set_option maxRecDepth 100000 in
theorem jlk_X12_402 : jLkV RX12 402 yX12_setBy cX12_setBy 7 1 4 := ⟨(jTB_at 1864 rfl rfl), (jTB_at 1866 rfl rfl), (jTB_at 102 rfl rfl), (jTB_at 115 rfl rfl), jTB_at 1867 rfl rfl, ⟨by decide, by decide, by decide +kernel⟩⟩
set_option maxRecDepth 100000 in
theorem jlk_X12_406 : jLkV RX12 406 yX12_pairAt cX12_pairAt 5 1 3 := ⟨(jTB_at 1868 rfl rfl), (jTB_at 1870 rfl rfl), (jTB_at 103 rfl rfl), (jTB_at 115 rfl rfl), jTB_at 1871 rfl rfl, ⟨by decide, by decide, by decide +kernel⟩⟩
def jE_Model_findsPairs (F : Nat) : jxE := jmk [(127, 12, 54), (130, 12, 55)] [] [] [(399, (4, false), jca_Model_nextBy F), (402, (5, false), jca_Model_setBy F), (406, (4, false), jca_Model_pairAt F)] 1 jc_M
set_option maxRecDepth 100000 in
set_option maxHeartbeats 4000000 in
theorem jmet_Model_findsPairs (F : Nat) (sh : List jxC) (hs : jHas sh jc_M) (σ0 : jxS) (v1 : Int) (x : Int) (σ' : jxS) (h : Model_findsPairs F σ0 v1 = some (x, σ')) : jMC yX12_findsPairs cX12_findsPairs 7 (jrt 1) 3 71 sh σ0 [(jmr 0), (jmi v1)] (jrv 1 x) σ' := by
  refine jMC_of (kd := 1) (by decide) rfl h ?_
  intro X hX
  have hG : jGd X (jE_Model_findsPairs F) jtb_Model_findsPairs := jGd_of hX jtk_Model_findsPairs (jcon jfl_X12_127 (jcon jfl_X12_130 jnil)) jnil jnil (jcon (jsV jlk_X12_399 ⟨rfl, rfl⟩ (jad_Model_nextBy F sh hs)) (jcon (jsV jlk_X12_402 ⟨rfl, rfl⟩ (jad_Model_setBy F sh hs)) (jcon (jsV jlk_X12_406 ⟨rfl, rfl⟩ (jad_Model_pairAt F sh hs)) jnil))) hs
  have rr26 : ∀ (k18 : Int → Int → Int → jxS → Option jxR) (h18 : ∀ v1 v2 v3 σ, jRf X (k18 v1 v2 v3 σ) 18 [some (jmr 0), some (jmi v1), some (jmi v2), some (jmi v3), none, none, none] [] σ) (fu : Nat) (v1 v2 v3 v4 : Int) (σ : jxS), jRf X (Model_findsPairs_c26 F k18 fu v1 v2 v3 v4 σ) 26 [some (jmr 0), some (jmi v1), some (jmi v2), some (jmi v3), some (jmi v4), none, none] [] σ := by
    intro k18 h18 fu
    induction fu with
    | zero => intros; exact jRf_none
    | succ fu ih =>
      intro v1 v2 v3 v4 σ
      exact jRf_by (jex_ok hG (cs := [(18, [some (.inr (some 0)), some (.inl 0), some (.inl 0), some (.inl 0), none, none, none], [], fun xs σ => match xs with
      | [v1, v2, v3] => k18 v1 v2 v3 σ
      | _ => none), (26, [some (.inr (some 0)), some (.inl 0), some (.inl 0), some (.inl 0), some (.inl 0), none, none], [], fun xs σ => match xs with
      | [v1, v2, v3, v4] => (Model_findsPairs_c26 F k18 fu) v1 v2 v3 v4 σ
      | _ => none)]) (jcon (jl3 (fun y0 y1 y2 => jl0 (fun σ => h18 y0 y1 y2 σ))) (jcon (jl4 (fun y0 y1 y2 y3 => jl0 (fun σ => ih y0 y1 y2 y3 σ))) jnil)) 76 26 [some (jmr 0), some (jmi v1), some (jmi v2), some (jmi v3), some (jmi v4), none, none] [] σ) rfl
  have rr18 : ∀ (fu : Nat) (v1 v2 v3 : Int) (σ : jxS), jRf X (Model_findsPairs_c18 F fu v1 v2 v3 σ) 18 [some (jmr 0), some (jmi v1), some (jmi v2), some (jmi v3), none, none, none] [] σ := by
    intro  fu
    induction fu with
    | zero => intros; exact jRf_none
    | succ fu ih =>
      intro v1 v2 v3 σ
      exact jRf_by (jex_ok hG (cs := [(26, [some (.inr (some 0)), some (.inl 0), some (.inl 0), some (.inl 0), some (.inl 0), none, none], [], fun xs σ => match xs with
      | [v1, v2, v3, v4] => Model_findsPairs_c26 F (Model_findsPairs_c18 F fu) F v1 v2 v3 v4 σ
      | _ => none)]) (jcon (jl4 (fun y0 y1 y2 y3 => jl0 (fun σ => rr26 _ ih F y0 y1 y2 y3 σ))) jnil) 76 18 [some (jmr 0), some (jmi v1), some (jmi v2), some (jmi v3), none, none, none] [] σ) rfl
  exact jRf_by (jex_ok hG (cs := [(18, [some (.inr (some 0)), some (.inl 0), some (.inl 0), some (.inl 0), none, none, none], [], fun xs σ => match xs with
      | [v1, v2, v3] => Model_findsPairs_c18 F F v1 v2 v3 σ
      | _ => none)]) (jcon (jl3 (fun y0 y1 y2 => jl0 (fun σ => rr18 F y0 y1 y2 σ))) jnil) 76 0 [some (jmr 0), some (jmi v1), none, none, none, none, none] [] σ0) rfl
theorem jad_Model_findsPairs (F : Nat) (sh : List jxC) (hs : jHas sh jc_M) : jAdV (jca_Model_findsPairs F) yX12_findsPairs cX12_findsPairs 7 1 3 71 1 sh := by
  intro as σ k x σ' h
  unfold jca_Model_findsPairs at h
  split at h
  · rename_i t0 v1
    obtain ⟨g0, hh1⟩ := jcond h
    obtain rfl := jbeq g0
    obtain ⟨r, h1, h2⟩ := Option.bind_eq_some_iff.mp hh1
    exact ⟨_, _, h2, ⟨_, _, _, _, _, _, rfl, rfl, (hs _ (jkf_in (l := jc_M) (idx := 0) rfl)).1, rfl⟩, jmet_Model_findsPairs F  sh hs σ v1 r.1 r.2 h1⟩
  · cases h
def jtb_Model_isSteady : List (Nat × Instr) := [(0, .iconst 0), (1, .istore_n 2), (2, .iload_n 2), (3, .aload_n 0), (4, .getfield 102), (7, .iload_n 1), (8, .iaload), (9, .if_icmp .ge 70), (12, .iconst 1), (13, .istore_n 3), (14, .iload_n 3), (15, .iload_n 1), (16, .if_icmp .gt 57), (19, .iconst 1), (20, .istore 4), (22, .iload 4), (24, .iload_n 1), (25, .if_icmp .gt 42), (28, .aload_n 0), (29, .iload_n 1), (30, .aload_n 0), (31, .iload_n 1), (32, .iload_n 2), (33, .iload_n 3), (34, .invokevirtual 399), (37, .iload 4), (39, .invokevirtual 399), (42, .aload_n 0), (43, .iload_n 1), (44, .aload_n 0), (45, .iload_n 1), (46, .iload_n 2), (47, .iload 4), (49, .invokevirtual 399), (52, .iload_n 3), (53, .invokevirtual 399), (56, .if_icmp .eq 5), (59, .iconst 0), (60, .ireturn), (61, .iinc 4 1), (64, .goto (-42)), (67, .iinc 3 1), (70, .goto (-56)), (73, .iinc 2 1), (76, .goto (-74)), (79, .iconst 1), (80, .ireturn)]
theorem jtk_Model_isSteady : jtok cX12_isSteady jtb_Model_isSteady = true := by decide +kernel
def jE_Model_isSteady (F : Nat) : jxE := jmk [(102, 12, 46)] [] [] [(399, (4, false), jca_Model_nextBy F)] 4 jc_M
set_option maxRecDepth 100000 in
set_option maxHeartbeats 4000000 in
theorem jmet_Model_isSteady (F : Nat) (sh : List jxC) (hs : jHas sh jc_M) (σ0 : jxS) (v1 : Int) (x : Int) (σ' : jxS) (h : Model_isSteady F σ0 v1 = some (x, σ')) : jMC yX12_isSteady cX12_isSteady 5 (jrt 4) 2 45 sh σ0 [(jmr 0), (jmi v1)] (jrv 4 x) σ' := by
  refine jMC_of (kd := 4) (by decide) rfl h ?_
  intro X hX
  have hG : jGd X (jE_Model_isSteady F) jtb_Model_isSteady := jGd_of hX jtk_Model_isSteady (jcon jfl_X12_102 jnil) jnil jnil (jcon (jsV jlk_X12_399 ⟨rfl, rfl⟩ (jad_Model_nextBy F sh hs)) jnil) hs
  have rr22 : ∀ (k2 : Int → Int → jxS → Option jxR) (h2 : ∀ v1 v2 σ, jRf X (k2 v1 v2 σ) 2 [some (jmr 0), some (jmi v1), some (jmi v2), none, none] [] σ) (k14 : Int → Int → Int → jxS → Option jxR) (h14 : ∀ v1 v2 v3 σ, jRf X (k14 v1 v2 v3 σ) 14 [some (jmr 0), some (jmi v1), some (jmi v2), some (jmi v3), none] [] σ) (fu : Nat) (v1 v2 v3 v4 : Int) (σ : jxS), jRf X (Model_isSteady_c22 F k2 k14 fu v1 v2 v3 v4 σ) 22 [some (jmr 0), some (jmi v1), some (jmi v2), some (jmi v3), some (jmi v4)] [] σ := by
    intro k2 h2 k14 h14 fu
    induction fu with
    | zero => intros; exact jRf_none
    | succ fu ih =>
      intro v1 v2 v3 v4 σ
      exact jRf_by (jex_ok hG (cs := [(14, [some (.inr (some 0)), some (.inl 0), some (.inl 0), some (.inl 0), none], [], fun xs σ => match xs with
      | [v1, v2, v3] => k14 v1 v2 v3 σ
      | _ => none), (22, [some (.inr (some 0)), some (.inl 0), some (.inl 0), some (.inl 0), some (.inl 0)], [], fun xs σ => match xs with
      | [v1, v2, v3, v4] => (Model_isSteady_c22 F k2 k14 fu) v1 v2 v3 v4 σ
      | _ => none)]) (jcon (jl3 (fun y0 y1 y2 => jl0 (fun σ => h14 y0 y1 y2 σ))) (jcon (jl4 (fun y0 y1 y2 y3 => jl0 (fun σ => ih y0 y1 y2 y3 σ))) jnil)) 50 22 [some (jmr 0), some (jmi v1), some (jmi v2), some (jmi v3), some (jmi v4)] [] σ) rfl
  have rr14 : ∀ (k2 : Int → Int → jxS → Option jxR) (h2 : ∀ v1 v2 σ, jRf X (k2 v1 v2 σ) 2 [some (jmr 0), some (jmi v1), some (jmi v2), none, none] [] σ) (fu : Nat) (v1 v2 v3 : Int) (σ : jxS), jRf X (Model_isSteady_c14 F k2 fu v1 v2 v3 σ) 14 [some (jmr 0), some (jmi v1), some (jmi v2), some (jmi v3), none] [] σ := by
    intro k2 h2 fu
    induction fu with
    | zero => intros; exact jRf_none
    | succ fu ih =>
      intro v1 v2 v3 σ
      exact jRf_by (jex_ok hG (cs := [(2, [some (.inr (some 0)), some (.inl 0), some (.inl 0), none, none], [], fun xs σ => match xs with
      | [v1, v2] => k2 v1 v2 σ
      | _ => none), (22, [some (.inr (some 0)), some (.inl 0), some (.inl 0), some (.inl 0), some (.inl 0)], [], fun xs σ => match xs with
      | [v1, v2, v3, v4] => Model_isSteady_c22 F k2 (Model_isSteady_c14 F k2 fu) F v1 v2 v3 v4 σ
      | _ => none)]) (jcon (jl2 (fun y0 y1 => jl0 (fun σ => h2 y0 y1 σ))) (jcon (jl4 (fun y0 y1 y2 y3 => jl0 (fun σ => rr22 _ h2 _ ih F y0 y1 y2 y3 σ))) jnil)) 50 14 [some (jmr 0), some (jmi v1), some (jmi v2), some (jmi v3), none] [] σ) rfl
  have rr2 : ∀ (fu : Nat) (v1 v2 : Int) (σ : jxS), jRf X (Model_isSteady_c2 F fu v1 v2 σ) 2 [some (jmr 0), some (jmi v1), some (jmi v2), none, none] [] σ := by
    intro  fu
    induction fu with
    | zero => intros; exact jRf_none
    | succ fu ih =>
      intro v1 v2 σ
      exact jRf_by (jex_ok hG (cs := [(14, [some (.inr (some 0)), some (.inl 0), some (.inl 0), some (.inl 0), none], [], fun xs σ => match xs with
      | [v1, v2, v3] => Model_isSteady_c14 F (Model_isSteady_c2 F fu) F v1 v2 v3 σ
      | _ => none)]) (jcon (jl3 (fun y0 y1 y2 => jl0 (fun σ => rr14 _ ih F y0 y1 y2 σ))) jnil) 50 2 [some (jmr 0), some (jmi v1), some (jmi v2), none, none] [] σ) rfl
  exact jRf_by (jex_ok hG (cs := [(2, [some (.inr (some 0)), some (.inl 0), some (.inl 0), none, none], [], fun xs σ => match xs with
      | [v1, v2] => Model_isSteady_c2 F F v1 v2 σ
      | _ => none)]) (jcon (jl2 (fun y0 y1 => jl0 (fun σ => rr2 F y0 y1 σ))) jnil) 50 0 [some (jmr 0), some (jmi v1), none, none, none] [] σ0) rfl
theorem jad_Model_isSteady (F : Nat) (sh : List jxC) (hs : jHas sh jc_M) : jAdV (jca_Model_isSteady F) yX12_isSteady cX12_isSteady 5 4 2 45 1 sh := by
  intro as σ k x σ' h
  unfold jca_Model_isSteady at h
  split at h
  · rename_i t0 v1
    obtain ⟨g0, hh1⟩ := jcond h
    obtain rfl := jbeq g0
    obtain ⟨r, h1, h2⟩ := Option.bind_eq_some_iff.mp hh1
    exact ⟨_, _, h2, ⟨_, _, _, _, _, _, rfl, rfl, (hs _ (jkf_in (l := jc_M) (idx := 0) rfl)).1, rfl⟩, jmet_Model_isSteady F  sh hs σ v1 r.1 r.2 h1⟩
  · cases h
def jtb_Model_arePairsRight : List (Nat × Instr) := [(0, .iconst 0), (1, .istore_n 2), (2, .iload_n 2), (3, .aload_n 0), (4, .getfield 114), (7, .iload_n 1), (8, .iaload), (9, .if_icmp .ge 65), (12, .aload_n 0), (13, .getfield 111), (16, .iload_n 1), (17, .iaload), (18, .aload_n 0), (19, .getfield 127), (22, .iload_n 2), (23, .iaload), (24, .invokestatic 248), (27, .istore_n 3), (28, .aload_n 0), (29, .getfield 130), (32, .iload_n 2), (33, .iaload), (34, .ifCond .eq 23), (37, .aload_n 0), (38, .getfield 130), (41, .iload_n 2), (42, .iaload), (43, .aload_n 0), (44, .getfield 111), (47, .iload_n 1), (48, .iaload), (49, .iand), (50, .ifCond .ne 7), (53, .iconst 1), (54, .goto 4), (57, .iconst 0), (58, .istore 4), (60, .iload_n 3), (61, .iload 4), (63, .if_icmp .eq 5), (66, .iconst 0), (67, .ireturn), (68, .iinc 2 1), (71, .goto (-69)), (74, .iconst 1), (75, .ireturn)]
theorem jtk_Model_arePairsRight : jtok cX12_arePairsRight jtb_Model_arePairsRight = true := by decide +kernel
set_option maxRecDepth 100000 in
theorem jfl_X12_111 : jFl RX12 111 12 49 := ⟨RX12, TX12, 57, tyX12, rfl, by decide, jin_X12, tyX12_ok, nmX12, jow_X12, (Or.inl (jTB_at 1390 rfl rfl))⟩
set_option maxRecDepth 100000 in
theorem jfl_X12_114 : jFl RX12 114 12 50 := ⟨RX12, TX12, 57, tyX12, rfl, by decide, jin_X12, tyX12_ok, nmX12, jow_X12, (Or.inl (jTB_at 1391 rfl rfl))⟩
def jE_Model_arePairsRight (F : Nat) : jxE := jmk [(111, 12, 49), (114, 12, 50), (127, 12, 54), (130, 12, 55)] [] [] [(248, (2, true), jca_Model_has F)] 4 jc_M
set_option maxRecDepth 100000 in
set_option maxHeartbeats 4000000 in
theorem jmet_Model_arePairsRight (F : Nat) (sh : List jxC) (hs : jHas sh jc_M) (σ0 : jxS) (v1 : Int) (x : Int) (σ' : jxS) (h : Model_arePairsRight F σ0 v1 = some (x, σ')) : jMC yX12_arePairsRight cX12_arePairsRight 5 (jrt 4) 1 21 sh σ0 [(jmr 0), (jmi v1)] (jrv 4 x) σ' := by
  refine jMC_of (kd := 4) (by decide) rfl h ?_
  intro X hX
  have hG : jGd X (jE_Model_arePairsRight F) jtb_Model_arePairsRight := jGd_of hX jtk_Model_arePairsRight (jcon jfl_X12_111 (jcon jfl_X12_114 (jcon jfl_X12_127 (jcon jfl_X12_130 jnil)))) jnil jnil (jcon (jsS jlk_X12_248 ⟨rfl, rfl⟩ (jad_Model_has F sh hs)) jnil) hs
  have rr58 : ∀ (k2 : Int → Int → jxS → Option jxR) (h2 : ∀ v1 v2 σ, jRf X (k2 v1 v2 σ) 2 [some (jmr 0), some (jmi v1), some (jmi v2), none, none] [] σ) (v1 v2 v3 t0 : Int) (σ : jxS), jRf X (Model_arePairsRight_c58 F k2 v1 v2 v3 t0 σ) 58 [some (jmr 0), some (jmi v1), some (jmi v2), some (jmi v3), none] [(jmi t0)] σ := by
    intro k2 h2 v1 v2 v3 t0 σ
    exact jRf_by (jex_ok hG (cs := [(2, [some (.inr (some 0)), some (.inl 0), some (.inl 0), none, none], [], fun xs σ => match xs with
      | [v1, v2] => k2 v1 v2 σ
      | _ => none)]) (jcon (jl2 (fun y0 y1 => jl0 (fun σ => h2 y0 y1 σ))) jnil) 49 58 [some (jmr 0), some (jmi v1), some (jmi v2), some (jmi v3), none] [(jmi t0)] σ) rfl
  have rr57 : ∀ (k2 : Int → Int → jxS → Option jxR) (h2 : ∀ v1 v2 σ, jRf X (k2 v1 v2 σ) 2 [some (jmr 0), some (jmi v1), some (jmi v2), none, none] [] σ) (v1 v2 v3 : Int) (σ : jxS), jRf X (Model_arePairsRight_c57 F k2 v1 v2 v3 σ) 57 [some (jmr 0), some (jmi v1), some (jmi v2), some (jmi v3), none] [] σ := by
    intro k2 h2 v1 v2 v3 σ
    exact jRf_by (jex_ok hG (cs := [(58, [some (.inr (some 0)), some (.inl 0), some (.inl 0), some (.inl 0), none], [(.inl 0)], fun xs σ => match xs with
      | [v1, v2, v3, t0] => Model_arePairsRight_c58 F k2 v1 v2 v3 t0 σ
      | _ => none)]) (jcon (jl3 (fun y0 y1 y2 => jl1 (fun y3 => (fun σ => rr58 _ h2 y0 y1 y2 y3 σ)))) jnil) 49 57 [some (jmr 0), some (jmi v1), some (jmi v2), some (jmi v3), none] [] σ) rfl
  have rr2 : ∀ (fu : Nat) (v1 v2 : Int) (σ : jxS), jRf X (Model_arePairsRight_c2 F fu v1 v2 σ) 2 [some (jmr 0), some (jmi v1), some (jmi v2), none, none] [] σ := by
    intro  fu
    induction fu with
    | zero => intros; exact jRf_none
    | succ fu ih =>
      intro v1 v2 σ
      exact jRf_by (jex_ok hG (cs := [(57, [some (.inr (some 0)), some (.inl 0), some (.inl 0), some (.inl 0), none], [], fun xs σ => match xs with
      | [v1, v2, v3] => Model_arePairsRight_c57 F (Model_arePairsRight_c2 F fu) v1 v2 v3 σ
      | _ => none), (58, [some (.inr (some 0)), some (.inl 0), some (.inl 0), some (.inl 0), none], [(.inl 0)], fun xs σ => match xs with
      | [v1, v2, v3, t0] => Model_arePairsRight_c58 F (Model_arePairsRight_c2 F fu) v1 v2 v3 t0 σ
      | _ => none)]) (jcon (jl3 (fun y0 y1 y2 => jl0 (fun σ => rr57 _ ih y0 y1 y2 σ))) (jcon (jl3 (fun y0 y1 y2 => jl1 (fun y3 => (fun σ => rr58 _ ih y0 y1 y2 y3 σ)))) jnil)) 49 2 [some (jmr 0), some (jmi v1), some (jmi v2), none, none] [] σ) rfl
  exact jRf_by (jex_ok hG (cs := [(2, [some (.inr (some 0)), some (.inl 0), some (.inl 0), none, none], [], fun xs σ => match xs with
      | [v1, v2] => Model_arePairsRight_c2 F F v1 v2 σ
      | _ => none)]) (jcon (jl2 (fun y0 y1 => jl0 (fun σ => rr2 F y0 y1 σ))) jnil) 49 0 [some (jmr 0), some (jmi v1), none, none, none] [] σ0) rfl
theorem jad_Model_arePairsRight (F : Nat) (sh : List jxC) (hs : jHas sh jc_M) : jAdV (jca_Model_arePairsRight F) yX12_arePairsRight cX12_arePairsRight 5 4 1 21 1 sh := by
  intro as σ k x σ' h
  unfold jca_Model_arePairsRight at h
  split at h
  · rename_i t0 v1
    obtain ⟨g0, hh1⟩ := jcond h
    obtain rfl := jbeq g0
    obtain ⟨r, h1, h2⟩ := Option.bind_eq_some_iff.mp hh1
    exact ⟨_, _, h2, ⟨_, _, _, _, _, _, rfl, rfl, (hs _ (jkf_in (l := jc_M) (idx := 0) rfl)).1, rfl⟩, jmet_Model_arePairsRight F  sh hs σ v1 r.1 r.2 h1⟩
  · cases h
def jtb_Model_laysQuotient : List (Nat × Instr) := [(0, .aload_n 0), (1, .getfield 99), (4, .iload_n 1), (5, .baload), (6, .ifCond .eq 4), (9, .return_), (10, .aload_n 0), (11, .getfield 99), (14, .iload_n 1), (15, .iconst 1), (16, .bastore), (17, .aload_n 0), (18, .iload_n 1), (19, .invokevirtual 409), (22, .ifCond .ne 12), (25, .aload_n 0), (26, .getfield 102), (29, .iload_n 1), (30, .bipush (-3)), (32, .iastore), (33, .return_), (34, .aload_n 0), (35, .getfield 111), (38, .iload_n 1), (39, .iconst 0), (40, .iastore), (41, .iconst 0), (42, .istore_n 2), (43, .iload_n 2), (44, .aload_n 0), (45, .getfield 102), (48, .iload_n 1), (49, .iaload), (50, .if_icmp .ge 47), (53, .aload_n 0), (54, .iload_n 1), (55, .iload_n 2), (56, .invokevirtual 392), (59, .aload_n 0), (60, .getfield 111), (63, .iload_n 1), (64, .dup2), (65, .iaload), (66, .aload_n 0), (67, .getfield 54), (70, .aload_n 0), (71, .aload_n 0), (72, .getfield 124), (75, .invokevirtual 266), (78, .baload), (79, .ifCond .eq 9), (82, .iconst 1), (83, .iload_n 2), (84, .ishl), (85, .goto 4), (88, .iconst 0), (89, .ior), (90, .iastore), (91, .iinc 2 1), (94, .goto (-51)), (97, .aload_n 0), (98, .getfield 114), (101, .iload_n 1), (102, .aload_n 0), (103, .iload_n 1), (104, .invokevirtual 412), (107, .iastore), (108, .aload_n 0), (109, .getfield 117), (112, .iload_n 1), (113, .aload_n 0), (114, .iload_n 1), (115, .invokevirtual 415), (118, .ifCond .ne 7), (121, .iconst 0), (122, .goto 25), (125, .aload_n 0), (126, .getfield 114), (129, .iload_n 1), (130, .iaload), (131, .ifCond .le 15), (134, .aload_n 0), (135, .iload_n 1), (136, .invokevirtual 418), (139, .ifCond .eq 7), (142, .iconst 2), (143, .goto 4), (146, .iconst 1), (147, .iastore), (148, .return_)]
theorem jtk_Model_laysQuotient : jtok cX12_laysQuotient jtb_Model_laysQuotient = true := by decide +kernel
set_option maxRecDepth 100000 in
theorem jfl_X12_117 : jFl RX12 117 12 51 := ⟨RX12, TX12, 57, tyX12, rfl, by decide, jin_X12, tyX12_ok, nmX12, jow_X12, (Or.inl (jTB_at 1392 rfl rfl))⟩
set_option maxRecDepth 100000 in
theorem jlk_X12_409 : jLkV RX12 409 yX12_findsElements cX12_findsElements 5 4 1 := ⟨(jTB_at 1833 rfl rfl), (jTB_at 1835 rfl rfl), (jTB_at 95 rfl rfl), (jTB_at 115 rfl rfl), jTB_at 1836 rfl rfl, ⟨by decide, by decide, by decide +kernel⟩⟩
set_option maxRecDepth 100000 in
theorem jlk_X12_412 : jLkV RX12 412 yX12_findsPairs cX12_findsPairs 7 1 1 := ⟨(jTB_at 1856 rfl rfl), (jTB_at 1858 rfl rfl), (jTB_at 100 rfl rfl), (jTB_at 115 rfl rfl), jTB_at 1859 rfl rfl, ⟨by decide, by decide, by decide +kernel⟩⟩
set_option maxRecDepth 100000 in
theorem jlk_X12_415 : jLkV RX12 415 yX12_isSteady cX12_isSteady 5 4 1 := ⟨(jTB_at 1872 rfl rfl), (jTB_at 1874 rfl rfl), (jTB_at 104 rfl rfl), (jTB_at 115 rfl rfl), jTB_at 1875 rfl rfl, ⟨by decide, by decide, by decide +kernel⟩⟩
set_option maxRecDepth 100000 in
theorem jlk_X12_418 : jLkV RX12 418 yX12_arePairsRight cX12_arePairsRight 5 4 1 := ⟨(jTB_at 1876 rfl rfl), (jTB_at 1878 rfl rfl), (jTB_at 105 rfl rfl), (jTB_at 115 rfl rfl), jTB_at 1879 rfl rfl, ⟨by decide, by decide, by decide +kernel⟩⟩
def jE_Model_laysQuotient (F : Nat) : jxE := jmk [(54, 12, 25), (99, 12, 45), (102, 12, 46), (111, 12, 49), (114, 12, 50), (117, 12, 51), (124, 12, 53)] [] [] [(266, (2, false), jca_Model_numberOf F), (392, (3, false), jca_Model_takesWord F), (409, (2, false), jca_Model_findsElements F), (412, (2, false), jca_Model_findsPairs F), (415, (2, false), jca_Model_isSteady F), (418, (2, false), jca_Model_arePairsRight F)] 0 jc_M
set_option maxRecDepth 100000 in
set_option maxHeartbeats 4000000 in
theorem jmet_Model_laysQuotient (F : Nat) (sh : List jxC) (hs : jHas sh jc_M) (σ0 : jxS) (v1 : Int) (x : Int) (σ' : jxS) (h : Model_laysQuotient F σ0 v1 = some (x, σ')) : jMC yX12_laysQuotient cX12_laysQuotient 3 (jrt 0) 5 121 sh σ0 [(jmr 0), (jmi v1)] (jrv 0 x) σ' := by
  refine jMC_of (kd := 0) (by decide) rfl h ?_
  intro X hX
  have hG : jGd X (jE_Model_laysQuotient F) jtb_Model_laysQuotient := jGd_of hX jtk_Model_laysQuotient (jcon jfl_X12_54 (jcon jfl_X12_99 (jcon jfl_X12_102 (jcon jfl_X12_111 (jcon jfl_X12_114 (jcon jfl_X12_117 (jcon jfl_X12_124 jnil))))))) jnil jnil (jcon (jsV jlk_X12_266 ⟨rfl, rfl⟩ (jad_Model_numberOf F sh hs)) (jcon (jsV jlk_X12_392 ⟨rfl, rfl⟩ (jad_Model_takesWord F sh hs)) (jcon (jsV jlk_X12_409 ⟨rfl, rfl⟩ (jad_Model_findsElements F sh hs)) (jcon (jsV jlk_X12_412 ⟨rfl, rfl⟩ (jad_Model_findsPairs F sh hs)) (jcon (jsV jlk_X12_415 ⟨rfl, rfl⟩ (jad_Model_isSteady F sh hs)) (jcon (jsV jlk_X12_418 ⟨rfl, rfl⟩ (jad_Model_arePairsRight F sh hs)) jnil)))))) hs
  have rr43 : ∀ (fu : Nat) (v1 v2 : Int) (σ : jxS), jRf X (Model_laysQuotient_c43 F fu v1 v2 σ) 43 [some (jmr 0), some (jmi v1), some (jmi v2)] [] σ := by
    intro  fu
    induction fu with
    | zero => intros; exact jRf_none
    | succ fu ih =>
      intro v1 v2 σ
      exact jRf_by (jex_ok hG (cs := [(43, [some (.inr (some 0)), some (.inl 0), some (.inl 0)], [], fun xs σ => match xs with
      | [v1, v2] => (Model_laysQuotient_c43 F fu) v1 v2 σ
      | _ => none)]) (jcon (jl2 (fun y0 y1 => jl0 (fun σ => ih y0 y1 σ))) jnil) 93 43 [some (jmr 0), some (jmi v1), some (jmi v2)] [] σ) rfl
  exact jRf_by (jex_ok hG (cs := [(43, [some (.inr (some 0)), some (.inl 0), some (.inl 0)], [], fun xs σ => match xs with
      | [v1, v2] => Model_laysQuotient_c43 F F v1 v2 σ
      | _ => none)]) (jcon (jl2 (fun y0 y1 => jl0 (fun σ => rr43 F y0 y1 σ))) jnil) 93 0 [some (jmr 0), some (jmi v1), none] [] σ0) rfl
theorem jad_Model_laysQuotient (F : Nat) (sh : List jxC) (hs : jHas sh jc_M) : jAdV (jca_Model_laysQuotient F) yX12_laysQuotient cX12_laysQuotient 3 0 5 121 1 sh := by
  intro as σ k x σ' h
  unfold jca_Model_laysQuotient at h
  split at h
  · rename_i t0 v1
    obtain ⟨g0, hh1⟩ := jcond h
    obtain rfl := jbeq g0
    obtain ⟨r, h1, h2⟩ := Option.bind_eq_some_iff.mp hh1
    exact ⟨_, _, h2, ⟨_, _, _, _, _, _, rfl, rfl, (hs _ (jkf_in (l := jc_M) (idx := 0) rfl)).1, rfl⟩, jmet_Model_laysQuotient F  sh hs σ v1 r.1 r.2 h1⟩
  · cases h
def jtb_Model_isQuotient : List (Nat × Instr) := [(0, .aload_n 0), (1, .getfield 212), (4, .ifCond .eq 15), (7, .iload_n 1), (8, .i2l), (9, .lconst 1), (10, .ldc2_w 421), (13, .invokestatic 143), (16, .ifCond .ne 5), (19, .iconst 0), (20, .ireturn), (21, .aload_n 0), (22, .iload_n 1), (23, .invokevirtual 423), (26, .iconst 1), (27, .ireturn)]
theorem jtk_Model_isQuotient : jtok cX12_isQuotient jtb_Model_isQuotient = true := by decide +kernel
set_option maxRecDepth 100000 in
theorem jlk_X12_423 : jLkV RX12 423 yX12_laysQuotient cX12_laysQuotient 3 0 1 := ⟨(jTB_at 1829 rfl rfl), (jTB_at 1831 rfl rfl), (jTB_at 94 rfl rfl), (jTB_at 115 rfl rfl), jTB_at 1832 rfl rfl, ⟨by decide, by decide, by decide +kernel⟩⟩
def jE_Model_isQuotient (F : Nat) : jxE := jmk [(212, 12, 13)] [(421, jml 6)] [] [(143, (3, true), jca_Model_isIn F), (423, (2, false), jca_Model_laysQuotient F)] 4 jc_M
set_option maxRecDepth 100000 in
set_option maxHeartbeats 4000000 in
theorem jmet_Model_isQuotient (F : Nat) (sh : List jxC) (hs : jHas sh jc_M) (σ0 : jxS) (v1 : Int) (x : Int) (σ' : jxS) (h : Model_isQuotient F σ0 v1 = some (x, σ')) : jMC yX12_isQuotient cX12_isQuotient 2 (jrt 4) 6 143 sh σ0 [(jmr 0), (jmi v1)] (jrv 4 x) σ' := by
  refine jMC_of (kd := 4) (by decide) rfl h ?_
  intro X hX
  have hG : jGd X (jE_Model_isQuotient F) jtb_Model_isQuotient := jGd_of hX jtk_Model_isQuotient (jcon jfl_X12_212 jnil) (jcon (jTB_at 1828 rfl rfl) jnil) jnil (jcon (jsS jlk_X12_143 ⟨rfl, rfl⟩ (jad_Model_isIn F sh hs)) (jcon (jsV jlk_X12_423 ⟨rfl, rfl⟩ (jad_Model_laysQuotient F sh hs)) jnil)) hs
  exact jRf_by (jex_ok hG (cs := []) jnil 19 0 [some (jmr 0), some (jmi v1)] [] σ0) rfl
theorem jad_Model_isQuotient (F : Nat) (sh : List jxC) (hs : jHas sh jc_M) : jAdV (jca_Model_isQuotient F) yX12_isQuotient cX12_isQuotient 2 4 6 143 1 sh := by
  intro as σ k x σ' h
  unfold jca_Model_isQuotient at h
  split at h
  · rename_i t0 v1
    obtain ⟨g0, hh1⟩ := jcond h
    obtain rfl := jbeq g0
    obtain ⟨r, h1, h2⟩ := Option.bind_eq_some_iff.mp hh1
    exact ⟨_, _, h2, ⟨_, _, _, _, _, _, rfl, rfl, (hs _ (jkf_in (l := jc_M) (idx := 0) rfl)).1, rfl⟩, jmet_Model_isQuotient F  sh hs σ v1 r.1 r.2 h1⟩
  · cases h
def jtb_Model_elements : List (Nat × Instr) := [(0, .aload_n 0), (1, .iload_n 1), (2, .invokevirtual 426), (5, .ifCond .eq 12), (8, .aload_n 0), (9, .getfield 102), (12, .iload_n 1), (13, .iaload), (14, .goto 4), (17, .iconst (-1)), (18, .ireturn)]
theorem jtk_Model_elements : jtok cX12_elements jtb_Model_elements = true := by decide +kernel
set_option maxRecDepth 100000 in
theorem jlk_X12_426 : jLkV RX12 426 yX12_isQuotient cX12_isQuotient 2 4 1 := ⟨(jTB_at 1824 rfl rfl), (jTB_at 1826 rfl rfl), (jTB_at 93 rfl rfl), (jTB_at 115 rfl rfl), jTB_at 1827 rfl rfl, ⟨by decide, by decide, by decide +kernel⟩⟩
def jE_Model_elements (F : Nat) : jxE := jmk [(102, 12, 46)] [] [] [(426, (2, false), jca_Model_isQuotient F)] 1 jc_M
set_option maxRecDepth 100000 in
set_option maxHeartbeats 4000000 in
theorem jmet_Model_elements (F : Nat) (sh : List jxC) (hs : jHas sh jc_M) (σ0 : jxS) (v1 : Int) (x : Int) (σ' : jxS) (h : Model_elements F σ0 v1 = some (x, σ')) : jMC yX12_elements cX12_elements 2 (jrt 1) 7 164 sh σ0 [(jmr 0), (jmi v1)] (jrv 1 x) σ' := by
  refine jMC_of (kd := 1) (by decide) rfl h ?_
  intro X hX
  have hG : jGd X (jE_Model_elements F) jtb_Model_elements := jGd_of hX jtk_Model_elements (jcon jfl_X12_102 jnil) jnil jnil (jcon (jsV jlk_X12_426 ⟨rfl, rfl⟩ (jad_Model_isQuotient F sh hs)) jnil) hs
  exact jRf_by (jex_ok hG (cs := []) jnil 14 0 [some (jmr 0), some (jmi v1)] [] σ0) rfl
theorem jad_Model_elements (F : Nat) (sh : List jxC) (hs : jHas sh jc_M) : jAdV (jca_Model_elements F) yX12_elements cX12_elements 2 1 7 164 1 sh := by
  intro as σ k x σ' h
  unfold jca_Model_elements at h
  split at h
  · rename_i t0 v1
    obtain ⟨g0, hh1⟩ := jcond h
    obtain rfl := jbeq g0
    obtain ⟨r, h1, h2⟩ := Option.bind_eq_some_iff.mp hh1
    exact ⟨_, _, h2, ⟨_, _, _, _, _, _, rfl, rfl, (hs _ (jkf_in (l := jc_M) (idx := 0) rfl)).1, rfl⟩, jmet_Model_elements F  sh hs σ v1 r.1 r.2 h1⟩
  · cases h
def jtb_Model_isKnown : List (Nat × Instr) := [(0, .aload_n 0), (1, .getfield 102), (4, .iload_n 1), (5, .iaload), (6, .ifCond .le 7), (9, .iconst 1), (10, .goto 4), (13, .iconst 0), (14, .ireturn)]
theorem jtk_Model_isKnown : jtok cX12_isKnown jtb_Model_isKnown = true := by decide +kernel
def jE_Model_isKnown (F : Nat) : jxE := jmk [(102, 12, 46)] [] [] [] 4 jc_M
set_option maxRecDepth 100000 in
set_option maxHeartbeats 4000000 in
theorem jmet_Model_isKnown (F : Nat) (sh : List jxC) (hs : jHas sh jc_M) (σ0 : jxS) (v1 : Int) (x : Int) (σ' : jxS) (h : Model_isKnown F σ0 v1 = some (x, σ')) : jMC yX12_isKnown cX12_isKnown 2 (jrt 4) 0 0 sh σ0 [(jmr 0), (jmi v1)] (jrv 4 x) σ' := by
  refine jMC_of (kd := 4) (by decide) rfl h ?_
  intro X hX
  have hG : jGd X (jE_Model_isKnown F) jtb_Model_isKnown := jGd_of hX jtk_Model_isKnown (jcon jfl_X12_102 jnil) jnil jnil jnil hs
  exact jRf_by (jex_ok hG (cs := []) jnil 12 0 [some (jmr 0), some (jmi v1)] [] σ0) rfl
theorem jad_Model_isKnown (F : Nat) (sh : List jxC) (hs : jHas sh jc_M) : jAdV (jca_Model_isKnown F) yX12_isKnown cX12_isKnown 2 4 0 0 1 sh := by
  intro as σ k x σ' h
  unfold jca_Model_isKnown at h
  split at h
  · rename_i t0 v1
    obtain ⟨g0, hh1⟩ := jcond h
    obtain rfl := jbeq g0
    obtain ⟨r, h1, h2⟩ := Option.bind_eq_some_iff.mp hh1
    exact ⟨_, _, h2, ⟨_, _, _, _, _, _, rfl, rfl, (hs _ (jkf_in (l := jc_M) (idx := 0) rfl)).1, rfl⟩, jmet_Model_isKnown F  sh hs σ v1 r.1 r.2 h1⟩
  · cases h
def jtb_Model_isElement : List (Nat × Instr) := [(0, .iload_n 2), (1, .i2l), (2, .lconst 0), (3, .aload_n 0), (4, .getfield 102), (7, .iload_n 1), (8, .iaload), (9, .iconst 1), (10, .isub), (11, .i2l), (12, .invokestatic 143), (15, .ireturn)]
theorem jtk_Model_isElement : jtok cX12_isElement jtb_Model_isElement = true := by decide +kernel
def jE_Model_isElement (F : Nat) : jxE := jmk [(102, 12, 46)] [] [] [(143, (3, true), jca_Model_isIn F)] 4 jc_M
set_option maxRecDepth 100000 in
set_option maxHeartbeats 4000000 in
theorem jmet_Model_isElement (F : Nat) (sh : List jxC) (hs : jHas sh jc_M) (σ0 : jxS) (v1 : Int) (v2 : Int) (x : Int) (σ' : jxS) (h : Model_isElement F σ0 v1 v2 = some (x, σ')) : jMC yX12_isElement cX12_isElement 3 (jrt 4) 1 25 sh σ0 [(jmr 0), (jmi v1), (jmi v2)] (jrv 4 x) σ' := by
  refine jMC_of (kd := 4) (by decide) rfl h ?_
  intro X hX
  have hG : jGd X (jE_Model_isElement F) jtb_Model_isElement := jGd_of hX jtk_Model_isElement (jcon jfl_X12_102 jnil) jnil jnil (jcon (jsS jlk_X12_143 ⟨rfl, rfl⟩ (jad_Model_isIn F sh hs)) jnil) hs
  exact jRf_by (jex_ok hG (cs := []) jnil 15 0 [some (jmr 0), some (jmi v1), some (jmi v2)] [] σ0) rfl
theorem jad_Model_isElement (F : Nat) (sh : List jxC) (hs : jHas sh jc_M) : jAdV (jca_Model_isElement F) yX12_isElement cX12_isElement 3 4 1 25 2 sh := by
  intro as σ k x σ' h
  unfold jca_Model_isElement at h
  split at h
  · rename_i t0 v1 v2
    obtain ⟨g0, hh1⟩ := jcond h
    obtain rfl := jbeq g0
    obtain ⟨r, h1, h2⟩ := Option.bind_eq_some_iff.mp hh1
    exact ⟨_, _, h2, ⟨_, _, _, _, _, _, rfl, rfl, (hs _ (jkf_in (l := jc_M) (idx := 0) rfl)).1, rfl⟩, jmet_Model_isElement F  sh hs σ v1 v2 r.1 r.2 h1⟩
  · cases h
def jtb_Model_word : List (Nat × Instr) := [(0, .aload_n 0), (1, .iload_n 1), (2, .invokevirtual 426), (5, .ifCond .eq 14), (8, .iload_n 3), (9, .i2l), (10, .lconst 0), (11, .iload_n 1), (12, .i2l), (13, .invokestatic 143), (16, .ifCond .ne 5), (19, .iconst (-1)), (20, .ireturn), (21, .aload_n 0), (22, .iload_n 1), (23, .invokevirtual 429), (26, .ifCond .ne 6), (29, .bipush (-3)), (31, .ireturn), (32, .aload_n 0), (33, .iload_n 1), (34, .iload_n 2), (35, .invokevirtual 432), (38, .ifCond .ne 5), (41, .iconst (-1)), (42, .ireturn), (43, .aload_n 0), (44, .iload_n 1), (45, .iload_n 2), (46, .invokevirtual 392), (49, .iload_n 3), (50, .ifCond .ne 13), (53, .aload_n 0), (54, .getfield 124), (57, .invokestatic 254), (60, .goto 9), (63, .aload_n 0), (64, .getfield 124), (67, .iload_n 3), (68, .iaload), (69, .ireturn)]
theorem jtk_Model_word : jtok cX12_word jtb_Model_word = true := by decide +kernel
set_option maxRecDepth 100000 in
theorem jlk_X12_429 : jLkV RX12 429 yX12_isKnown cX12_isKnown 2 4 1 := ⟨(jTB_at 1884 rfl rfl), (jTB_at 1886 rfl rfl), (jTB_at 106 rfl rfl), (jTB_at 115 rfl rfl), jTB_at 1887 rfl rfl, ⟨by decide, by decide, by decide +kernel⟩⟩
set_option maxRecDepth 100000 in
theorem jlk_X12_432 : jLkV RX12 432 yX12_isElement cX12_isElement 3 4 2 := ⟨(jTB_at 1888 rfl rfl), (jTB_at 1890 rfl rfl), (jTB_at 107 rfl rfl), (jTB_at 115 rfl rfl), jTB_at 1891 rfl rfl, ⟨by decide, by decide, by decide +kernel⟩⟩
def jE_Model_word (F : Nat) : jxE := jmk [(124, 12, 53)] [] [] [(143, (3, true), jca_Model_isIn F), (254, (1, true), jca_Model_beansOf F), (392, (3, false), jca_Model_takesWord F), (426, (2, false), jca_Model_isQuotient F), (429, (2, false), jca_Model_isKnown F), (432, (3, false), jca_Model_isElement F)] 1 jc_M
set_option maxRecDepth 100000 in
set_option maxHeartbeats 4000000 in
theorem jmet_Model_word (F : Nat) (sh : List jxC) (hs : jHas sh jc_M) (σ0 : jxS) (v1 : Int) (v2 : Int) (v3 : Int) (x : Int) (σ' : jxS) (h : Model_word F σ0 v1 v2 v3 = some (x, σ')) : jMC yX12_word cX12_word 4 (jrt 1) 7 164 sh σ0 [(jmr 0), (jmi v1), (jmi v2), (jmi v3)] (jrv 1 x) σ' := by
  refine jMC_of (kd := 1) (by decide) rfl h ?_
  intro X hX
  have hG : jGd X (jE_Model_word F) jtb_Model_word := jGd_of hX jtk_Model_word (jcon jfl_X12_124 jnil) jnil jnil (jcon (jsS jlk_X12_143 ⟨rfl, rfl⟩ (jad_Model_isIn F sh hs)) (jcon (jsS jlk_X12_254 ⟨rfl, rfl⟩ (jad_Model_beansOf F sh hs)) (jcon (jsV jlk_X12_392 ⟨rfl, rfl⟩ (jad_Model_takesWord F sh hs)) (jcon (jsV jlk_X12_426 ⟨rfl, rfl⟩ (jad_Model_isQuotient F sh hs)) (jcon (jsV jlk_X12_429 ⟨rfl, rfl⟩ (jad_Model_isKnown F sh hs)) (jcon (jsV jlk_X12_432 ⟨rfl, rfl⟩ (jad_Model_isElement F sh hs)) jnil)))))) hs
  exact jRf_by (jex_ok hG (cs := []) jnil 44 0 [some (jmr 0), some (jmi v1), some (jmi v2), some (jmi v3)] [] σ0) rfl
theorem jad_Model_word (F : Nat) (sh : List jxC) (hs : jHas sh jc_M) : jAdV (jca_Model_word F) yX12_word cX12_word 4 1 7 164 3 sh := by
  intro as σ k x σ' h
  unfold jca_Model_word at h
  split at h
  · rename_i t0 v1 v2 v3
    obtain ⟨g0, hh1⟩ := jcond h
    obtain rfl := jbeq g0
    obtain ⟨r, h1, h2⟩ := Option.bind_eq_some_iff.mp hh1
    exact ⟨_, _, h2, ⟨_, _, _, _, _, _, rfl, rfl, (hs _ (jkf_in (l := jc_M) (idx := 0) rfl)).1, rfl⟩, jmet_Model_word F  sh hs σ v1 v2 v3 r.1 r.2 h1⟩
  · cases h
def jtb_Model_next_IIII : List (Nat × Instr) := [(0, .aload_n 0), (1, .iload_n 1), (2, .invokevirtual 426), (5, .ifCond .eq 14), (8, .iload_n 3), (9, .i2l), (10, .lconst 1), (11, .iload_n 1), (12, .i2l), (13, .invokestatic 143), (16, .ifCond .ne 5), (19, .iconst (-1)), (20, .ireturn), (21, .aload_n 0), (22, .iload_n 1), (23, .invokevirtual 429), (26, .ifCond .ne 6), (29, .bipush (-3)), (31, .ireturn), (32, .aload_n 0), (33, .iload_n 1), (34, .iload_n 2), (35, .invokevirtual 432), (38, .ifCond .eq 13), (41, .aload_n 0), (42, .iload_n 1), (43, .iload_n 2), (44, .iload_n 3), (45, .invokevirtual 399), (48, .goto 4), (51, .iconst (-1)), (52, .ireturn)]
theorem jtk_Model_next_IIII : jtok cX12_next_ jtb_Model_next_IIII = true := by decide +kernel
def jE_Model_next_IIII (F : Nat) : jxE := jmk [] [] [] [(143, (3, true), jca_Model_isIn F), (399, (4, false), jca_Model_nextBy F), (426, (2, false), jca_Model_isQuotient F), (429, (2, false), jca_Model_isKnown F), (432, (3, false), jca_Model_isElement F)] 1 jc_M
set_option maxRecDepth 100000 in
set_option maxHeartbeats 4000000 in
theorem jmet_Model_next_IIII (F : Nat) (sh : List jxC) (hs : jHas sh jc_M) (σ0 : jxS) (v1 : Int) (v2 : Int) (v3 : Int) (x : Int) (σ' : jxS) (h : Model_next_IIII F σ0 v1 v2 v3 = some (x, σ')) : jMC yX12_next_ cX12_next_ 4 (jrt 1) 7 164 sh σ0 [(jmr 0), (jmi v1), (jmi v2), (jmi v3)] (jrv 1 x) σ' := by
  refine jMC_of (kd := 1) (by decide) rfl h ?_
  intro X hX
  have hG : jGd X (jE_Model_next_IIII F) jtb_Model_next_IIII := jGd_of hX jtk_Model_next_IIII jnil jnil jnil (jcon (jsS jlk_X12_143 ⟨rfl, rfl⟩ (jad_Model_isIn F sh hs)) (jcon (jsV jlk_X12_399 ⟨rfl, rfl⟩ (jad_Model_nextBy F sh hs)) (jcon (jsV jlk_X12_426 ⟨rfl, rfl⟩ (jad_Model_isQuotient F sh hs)) (jcon (jsV jlk_X12_429 ⟨rfl, rfl⟩ (jad_Model_isKnown F sh hs)) (jcon (jsV jlk_X12_432 ⟨rfl, rfl⟩ (jad_Model_isElement F sh hs)) jnil))))) hs
  exact jRf_by (jex_ok hG (cs := []) jnil 35 0 [some (jmr 0), some (jmi v1), some (jmi v2), some (jmi v3)] [] σ0) rfl
theorem jad_Model_next_IIII (F : Nat) (sh : List jxC) (hs : jHas sh jc_M) : jAdV (jca_Model_next_IIII F) yX12_next_ cX12_next_ 4 1 7 164 3 sh := by
  intro as σ k x σ' h
  unfold jca_Model_next_IIII at h
  split at h
  · rename_i t0 v1 v2 v3
    obtain ⟨g0, hh1⟩ := jcond h
    obtain rfl := jbeq g0
    obtain ⟨r, h1, h2⟩ := Option.bind_eq_some_iff.mp hh1
    exact ⟨_, _, h2, ⟨_, _, _, _, _, _, rfl, rfl, (hs _ (jkf_in (l := jc_M) (idx := 0) rfl)).1, rfl⟩, jmet_Model_next_IIII F  sh hs σ v1 v2 v3 r.1 r.2 h1⟩
  · cases h
def jtb_Model_timesOf : List (Nat × Instr) := [(0, .iload_n 2), (1, .istore 4), (3, .iconst 1), (4, .istore 5), (6, .iload 5), (8, .iload_n 1), (9, .if_icmp .gt 46), (12, .iconst 0), (13, .istore 6), (15, .iload 6), (17, .aload_n 0), (18, .getfield 105), (21, .iload_n 1), (22, .iload_n 3), (23, .iload 5), (25, .invokestatic 380), (28, .iaload), (29, .if_icmp .ge 20), (32, .aload_n 0), (33, .iload_n 1), (34, .iload 4), (36, .iload 5), (38, .invokevirtual 399), (41, .istore 4), (43, .iinc 6 1), (46, .goto (-31)), (49, .iinc 5 1), (52, .goto (-46)), (55, .iload 4), (57, .ireturn)]
theorem jtk_Model_timesOf : jtok cX12_timesOf jtb_Model_timesOf = true := by decide +kernel
def jE_Model_timesOf (F : Nat) : jxE := jmk [(105, 12, 47)] [] [] [(380, (3, true), jca_Model_placeOf F), (399, (4, false), jca_Model_nextBy F)] 1 jc_M
set_option maxRecDepth 100000 in
set_option maxHeartbeats 4000000 in
theorem jmet_Model_timesOf (F : Nat) (sh : List jxC) (hs : jHas sh jc_M) (σ0 : jxS) (v1 : Int) (v2 : Int) (v3 : Int) (x : Int) (σ' : jxS) (h : Model_timesOf F σ0 v1 v2 v3 = some (x, σ')) : jMC yX12_timesOf cX12_timesOf 7 (jrt 1) 2 45 sh σ0 [(jmr 0), (jmi v1), (jmi v2), (jmi v3)] (jrv 1 x) σ' := by
  refine jMC_of (kd := 1) (by decide) rfl h ?_
  intro X hX
  have hG : jGd X (jE_Model_timesOf F) jtb_Model_timesOf := jGd_of hX jtk_Model_timesOf (jcon jfl_X12_105 jnil) jnil jnil (jcon (jsS jlk_X12_380 ⟨rfl, rfl⟩ (jad_Model_placeOf F sh hs)) (jcon (jsV jlk_X12_399 ⟨rfl, rfl⟩ (jad_Model_nextBy F sh hs)) jnil)) hs
  have rr15 : ∀ (k6 : Int → Int → Int → Int → jxS → Option jxR) (h6 : ∀ v1 v3 v4 v5 σ, jRf X (k6 v1 v3 v4 v5 σ) 6 [some (jmr 0), some (jmi v1), none, some (jmi v3), some (jmi v4), some (jmi v5), none] [] σ) (fu : Nat) (v1 v3 v4 v5 v6 : Int) (σ : jxS), jRf X (Model_timesOf_c15 F k6 fu v1 v3 v4 v5 v6 σ) 15 [some (jmr 0), some (jmi v1), none, some (jmi v3), some (jmi v4), some (jmi v5), some (jmi v6)] [] σ := by
    intro k6 h6 fu
    induction fu with
    | zero => intros; exact jRf_none
    | succ fu ih =>
      intro v1 v3 v4 v5 v6 σ
      exact jRf_by (jex_ok hG (cs := [(6, [some (.inr (some 0)), some (.inl 0), none, some (.inl 0), some (.inl 0), some (.inl 0), none], [], fun xs σ => match xs with
      | [v1, v3, v4, v5] => k6 v1 v3 v4 v5 σ
      | _ => none), (15, [some (.inr (some 0)), some (.inl 0), none, some (.inl 0), some (.inl 0), some (.inl 0), some (.inl 0)], [], fun xs σ => match xs with
      | [v1, v3, v4, v5, v6] => (Model_timesOf_c15 F k6 fu) v1 v3 v4 v5 v6 σ
      | _ => none)]) (jcon (jl4 (fun y0 y1 y2 y3 => jl0 (fun σ => h6 y0 y1 y2 y3 σ))) (jcon (jl5 (fun y0 y1 y2 y3 y4 => jl0 (fun σ => ih y0 y1 y2 y3 y4 σ))) jnil)) 33 15 [some (jmr 0), some (jmi v1), none, some (jmi v3), some (jmi v4), some (jmi v5), some (jmi v6)] [] σ) rfl
  have rr6 : ∀ (fu : Nat) (v1 v3 v4 v5 : Int) (σ : jxS), jRf X (Model_timesOf_c6 F fu v1 v3 v4 v5 σ) 6 [some (jmr 0), some (jmi v1), none, some (jmi v3), some (jmi v4), some (jmi v5), none] [] σ := by
    intro  fu
    induction fu with
    | zero => intros; exact jRf_none
    | succ fu ih =>
      intro v1 v3 v4 v5 σ
      exact jRf_by (jex_ok hG (cs := [(15, [some (.inr (some 0)), some (.inl 0), none, some (.inl 0), some (.inl 0), some (.inl 0), some (.inl 0)], [], fun xs σ => match xs with
      | [v1, v3, v4, v5, v6] => Model_timesOf_c15 F (Model_timesOf_c6 F fu) F v1 v3 v4 v5 v6 σ
      | _ => none)]) (jcon (jl5 (fun y0 y1 y2 y3 y4 => jl0 (fun σ => rr15 _ ih F y0 y1 y2 y3 y4 σ))) jnil) 33 6 [some (jmr 0), some (jmi v1), none, some (jmi v3), some (jmi v4), some (jmi v5), none] [] σ) rfl
  exact jRf_by (jex_ok hG (cs := [(6, [some (.inr (some 0)), some (.inl 0), none, some (.inl 0), some (.inl 0), some (.inl 0), none], [], fun xs σ => match xs with
      | [v1, v3, v4, v5] => Model_timesOf_c6 F F v1 v3 v4 v5 σ
      | _ => none)]) (jcon (jl4 (fun y0 y1 y2 y3 => jl0 (fun σ => rr6 F y0 y1 y2 y3 σ))) jnil) 33 0 [some (jmr 0), some (jmi v1), some (jmi v2), some (jmi v3), none, none, none] [] σ0) rfl
theorem jad_Model_timesOf (F : Nat) (sh : List jxC) (hs : jHas sh jc_M) : jAdV (jca_Model_timesOf F) yX12_timesOf cX12_timesOf 7 1 2 45 3 sh := by
  intro as σ k x σ' h
  unfold jca_Model_timesOf at h
  split at h
  · rename_i t0 v1 v2 v3
    obtain ⟨g0, hh1⟩ := jcond h
    obtain rfl := jbeq g0
    obtain ⟨r, h1, h2⟩ := Option.bind_eq_some_iff.mp hh1
    exact ⟨_, _, h2, ⟨_, _, _, _, _, _, rfl, rfl, (hs _ (jkf_in (l := jc_M) (idx := 0) rfl)).1, rfl⟩, jmet_Model_timesOf F  sh hs σ v1 v2 v3 r.1 r.2 h1⟩
  · cases h
def jtb_Model_times : List (Nat × Instr) := [(0, .aload_n 0), (1, .iload_n 1), (2, .invokevirtual 426), (5, .ifCond .ne 5), (8, .iconst (-1)), (9, .ireturn), (10, .aload_n 0), (11, .iload_n 1), (12, .invokevirtual 429), (15, .ifCond .ne 6), (18, .bipush (-3)), (20, .ireturn), (21, .aload_n 0), (22, .iload_n 1), (23, .iload_n 2), (24, .invokevirtual 432), (27, .ifCond .eq 22), (30, .aload_n 0), (31, .iload_n 1), (32, .iload_n 3), (33, .invokevirtual 432), (36, .ifCond .eq 13), (39, .aload_n 0), (40, .iload_n 1), (41, .iload_n 2), (42, .iload_n 3), (43, .invokevirtual 435), (46, .goto 4), (49, .iconst (-1)), (50, .ireturn)]
theorem jtk_Model_times : jtok cX12_times jtb_Model_times = true := by decide +kernel
set_option maxRecDepth 100000 in
theorem jlk_X12_435 : jLkV RX12 435 yX12_timesOf cX12_timesOf 7 1 3 := ⟨(jTB_at 1900 rfl rfl), (jTB_at 1902 rfl rfl), (jTB_at 108 rfl rfl), (jTB_at 115 rfl rfl), jTB_at 1903 rfl rfl, ⟨by decide, by decide, by decide +kernel⟩⟩
def jE_Model_times (F : Nat) : jxE := jmk [] [] [] [(426, (2, false), jca_Model_isQuotient F), (429, (2, false), jca_Model_isKnown F), (432, (3, false), jca_Model_isElement F), (435, (4, false), jca_Model_timesOf F)] 1 jc_M
set_option maxRecDepth 100000 in
set_option maxHeartbeats 4000000 in
theorem jmet_Model_times (F : Nat) (sh : List jxC) (hs : jHas sh jc_M) (σ0 : jxS) (v1 : Int) (v2 : Int) (v3 : Int) (x : Int) (σ' : jxS) (h : Model_times F σ0 v1 v2 v3 = some (x, σ')) : jMC yX12_times cX12_times 4 (jrt 1) 7 164 sh σ0 [(jmr 0), (jmi v1), (jmi v2), (jmi v3)] (jrv 1 x) σ' := by
  refine jMC_of (kd := 1) (by decide) rfl h ?_
  intro X hX
  have hG : jGd X (jE_Model_times F) jtb_Model_times := jGd_of hX jtk_Model_times jnil jnil jnil (jcon (jsV jlk_X12_426 ⟨rfl, rfl⟩ (jad_Model_isQuotient F sh hs)) (jcon (jsV jlk_X12_429 ⟨rfl, rfl⟩ (jad_Model_isKnown F sh hs)) (jcon (jsV jlk_X12_432 ⟨rfl, rfl⟩ (jad_Model_isElement F sh hs)) (jcon (jsV jlk_X12_435 ⟨rfl, rfl⟩ (jad_Model_timesOf F sh hs)) jnil)))) hs
  exact jRf_by (jex_ok hG (cs := []) jnil 33 0 [some (jmr 0), some (jmi v1), some (jmi v2), some (jmi v3)] [] σ0) rfl
theorem jad_Model_times (F : Nat) (sh : List jxC) (hs : jHas sh jc_M) : jAdV (jca_Model_times F) yX12_times cX12_times 4 1 7 164 3 sh := by
  intro as σ k x σ' h
  unfold jca_Model_times at h
  split at h
  · rename_i t0 v1 v2 v3
    obtain ⟨g0, hh1⟩ := jcond h
    obtain rfl := jbeq g0
    obtain ⟨r, h1, h2⟩ := Option.bind_eq_some_iff.mp hh1
    exact ⟨_, _, h2, ⟨_, _, _, _, _, _, rfl, rfl, (hs _ (jkf_in (l := jc_M) (idx := 0) rfl)).1, rfl⟩, jmet_Model_times F  sh hs σ v1 v2 v3 r.1 r.2 h1⟩
  · cases h
def jtb_Model_comesOf : List (Nat × Instr) := [(0, .iconst 0), (1, .istore_n 3), (2, .iconst 0), (3, .istore 4), (5, .iload 4), (7, .aload_n 0), (8, .getfield 102), (11, .iload_n 1), (12, .iaload), (13, .if_icmp .ge 22), (16, .iload_n 3), (17, .iconst 1), (18, .aload_n 0), (19, .iload_n 1), (20, .iload_n 2), (21, .iload 4), (23, .invokevirtual 435), (26, .ishl), (27, .ior), (28, .istore_n 3), (29, .iinc 4 1), (32, .goto (-27)), (35, .iload_n 3), (36, .ireturn)]
theorem jtk_Model_comesOf : jtok cX12_comesOf jtb_Model_comesOf = true := by decide +kernel
def jE_Model_comesOf (F : Nat) : jxE := jmk [(102, 12, 46)] [] [] [(435, (4, false), jca_Model_timesOf F)] 1 jc_M
set_option maxRecDepth 100000 in
set_option maxHeartbeats 4000000 in
theorem jmet_Model_comesOf (F : Nat) (sh : List jxC) (hs : jHas sh jc_M) (σ0 : jxS) (v1 : Int) (v2 : Int) (x : Int) (σ' : jxS) (h : Model_comesOf F σ0 v1 v2 = some (x, σ')) : jMC yX12_comesOf cX12_comesOf 5 (jrt 1) 3 71 sh σ0 [(jmr 0), (jmi v1), (jmi v2)] (jrv 1 x) σ' := by
  refine jMC_of (kd := 1) (by decide) rfl h ?_
  intro X hX
  have hG : jGd X (jE_Model_comesOf F) jtb_Model_comesOf := jGd_of hX jtk_Model_comesOf (jcon jfl_X12_102 jnil) jnil jnil (jcon (jsV jlk_X12_435 ⟨rfl, rfl⟩ (jad_Model_timesOf F sh hs)) jnil) hs
  have rr5 : ∀ (fu : Nat) (v1 v2 v3 v4 : Int) (σ : jxS), jRf X (Model_comesOf_c5 F fu v1 v2 v3 v4 σ) 5 [some (jmr 0), some (jmi v1), some (jmi v2), some (jmi v3), some (jmi v4)] [] σ := by
    intro  fu
    induction fu with
    | zero => intros; exact jRf_none
    | succ fu ih =>
      intro v1 v2 v3 v4 σ
      exact jRf_by (jex_ok hG (cs := [(5, [some (.inr (some 0)), some (.inl 0), some (.inl 0), some (.inl 0), some (.inl 0)], [], fun xs σ => match xs with
      | [v1, v2, v3, v4] => (Model_comesOf_c5 F fu) v1 v2 v3 v4 σ
      | _ => none)]) (jcon (jl4 (fun y0 y1 y2 y3 => jl0 (fun σ => ih y0 y1 y2 y3 σ))) jnil) 27 5 [some (jmr 0), some (jmi v1), some (jmi v2), some (jmi v3), some (jmi v4)] [] σ) rfl
  exact jRf_by (jex_ok hG (cs := [(5, [some (.inr (some 0)), some (.inl 0), some (.inl 0), some (.inl 0), some (.inl 0)], [], fun xs σ => match xs with
      | [v1, v2, v3, v4] => Model_comesOf_c5 F F v1 v2 v3 v4 σ
      | _ => none)]) (jcon (jl4 (fun y0 y1 y2 y3 => jl0 (fun σ => rr5 F y0 y1 y2 y3 σ))) jnil) 27 0 [some (jmr 0), some (jmi v1), some (jmi v2), none, none] [] σ0) rfl
theorem jad_Model_comesOf (F : Nat) (sh : List jxC) (hs : jHas sh jc_M) : jAdV (jca_Model_comesOf F) yX12_comesOf cX12_comesOf 5 1 3 71 2 sh := by
  intro as σ k x σ' h
  unfold jca_Model_comesOf at h
  split at h
  · rename_i t0 v1 v2
    obtain ⟨g0, hh1⟩ := jcond h
    obtain rfl := jbeq g0
    obtain ⟨r, h1, h2⟩ := Option.bind_eq_some_iff.mp hh1
    exact ⟨_, _, h2, ⟨_, _, _, _, _, _, rfl, rfl, (hs _ (jkf_in (l := jc_M) (idx := 0) rfl)).1, rfl⟩, jmet_Model_comesOf F  sh hs σ v1 v2 r.1 r.2 h1⟩
  · cases h
def jtb_Model_sets : List (Nat × Instr) := [(0, .aload_n 0), (1, .iload_n 1), (2, .invokevirtual 426), (5, .ifCond .eq 15), (8, .iload_n 2), (9, .i2l), (10, .lconst 0), (11, .ldc2_w 438), (14, .invokestatic 143), (17, .ifCond .ne 5), (20, .iconst (-1)), (21, .ireturn), (22, .aload_n 0), (23, .iload_n 1), (24, .invokevirtual 429), (27, .ifCond .ne 6), (30, .bipush (-3)), (32, .ireturn), (33, .iconst 1), (34, .aload_n 0), (35, .getfield 102), (38, .iload_n 1), (39, .iaload), (40, .ishl), (41, .iconst 1), (42, .isub), (43, .istore_n 3), (44, .iconst 0), (45, .istore 4), (47, .iconst 0), (48, .istore 5), (50, .iconst 0), (51, .istore 6), (53, .iload 6), (55, .aload_n 0), (56, .getfield 102), (59, .iload_n 1), (60, .iaload), (61, .if_icmp .ge 73), (64, .iload_n 3), (65, .aload_n 0), (66, .iload_n 1), (67, .iload 6), (69, .invokevirtual 440), (72, .iand), (73, .istore_n 3), (74, .iload 4), (76, .aload_n 0), (77, .iload_n 1), (78, .iload 6), (80, .invokevirtual 440), (83, .iconst 0), (84, .invokestatic 248), (87, .ifCond .eq 10), (90, .iconst 1), (91, .iload 6), (93, .ishl), (94, .goto 4), (97, .iconst 0), (98, .ior), (99, .istore 4), (101, .iload 5), (103, .aload_n 0), (104, .iload_n 1), (105, .iload 6), (107, .iload 6), (109, .invokevirtual 435), (112, .iload 6), (114, .if_icmp .ne 10), (117, .iconst 1), (118, .iload 6), (120, .ishl), (121, .goto 4), (124, .iconst 0), (125, .ior), (126, .istore 5), (128, .iinc 6 1), (131, .goto (-78)), (134, .iload_n 2), (135, .ifCond .ne 12), (138, .aload_n 0), (139, .getfield 111), (142, .iload_n 1), (143, .iaload), (144, .goto 24), (147, .iload_n 2), (148, .iconst 1), (149, .if_icmp .ne 7), (152, .iload_n 3), (153, .goto 15), (156, .iload_n 2), (157, .iconst 2), (158, .if_icmp .ne 8), (161, .iload 4), (163, .goto 5), (166, .iload 5), (168, .ireturn)]
theorem jtk_Model_sets : jtok cX12_sets jtb_Model_sets = true := by decide +kernel
set_option maxRecDepth 100000 in
theorem jlk_X12_440 : jLkV RX12 440 yX12_comesOf cX12_comesOf 5 1 2 := ⟨(jTB_at 1909 rfl rfl), (jTB_at 1911 rfl rfl), (jTB_at 109 rfl rfl), (jTB_at 115 rfl rfl), jTB_at 1912 rfl rfl, ⟨by decide, by decide, by decide +kernel⟩⟩
def jE_Model_sets (F : Nat) : jxE := jmk [(102, 12, 46), (111, 12, 49)] [(438, jml 3)] [] [(143, (3, true), jca_Model_isIn F), (248, (2, true), jca_Model_has F), (426, (2, false), jca_Model_isQuotient F), (429, (2, false), jca_Model_isKnown F), (435, (4, false), jca_Model_timesOf F), (440, (3, false), jca_Model_comesOf F)] 1 jc_M
set_option maxRecDepth 100000 in
set_option maxHeartbeats 4000000 in
theorem jmet_Model_sets (F : Nat) (sh : List jxC) (hs : jHas sh jc_M) (σ0 : jxS) (v1 : Int) (v2 : Int) (x : Int) (σ' : jxS) (h : Model_sets F σ0 v1 v2 = some (x, σ')) : jMC yX12_sets cX12_sets 7 (jrt 1) 7 164 sh σ0 [(jmr 0), (jmi v1), (jmi v2)] (jrv 1 x) σ' := by
  refine jMC_of (kd := 1) (by decide) rfl h ?_
  intro X hX
  have hG : jGd X (jE_Model_sets F) jtb_Model_sets := jGd_of hX jtk_Model_sets (jcon jfl_X12_102 (jcon jfl_X12_111 jnil)) (jcon (jTB_at 1908 rfl rfl) jnil) jnil (jcon (jsS jlk_X12_143 ⟨rfl, rfl⟩ (jad_Model_isIn F sh hs)) (jcon (jsS jlk_X12_248 ⟨rfl, rfl⟩ (jad_Model_has F sh hs)) (jcon (jsV jlk_X12_426 ⟨rfl, rfl⟩ (jad_Model_isQuotient F sh hs)) (jcon (jsV jlk_X12_429 ⟨rfl, rfl⟩ (jad_Model_isKnown F sh hs)) (jcon (jsV jlk_X12_435 ⟨rfl, rfl⟩ (jad_Model_timesOf F sh hs)) (jcon (jsV jlk_X12_440 ⟨rfl, rfl⟩ (jad_Model_comesOf F sh hs)) jnil)))))) hs
  have rr98 : ∀ (k53 : Int → Int → Int → Int → Int → Int → jxS → Option jxR) (h53 : ∀ v1 v2 v3 v4 v5 v6 σ, jRf X (k53 v1 v2 v3 v4 v5 v6 σ) 53 [some (jmr 0), some (jmi v1), some (jmi v2), some (jmi v3), some (jmi v4), some (jmi v5), some (jmi v6)] [] σ) (v1 v2 v3 v5 v6 t0 t1 : Int) (σ : jxS), jRf X (Model_sets_c98 F k53 v1 v2 v3 v5 v6 t0 t1 σ) 98 [some (jmr 0), some (jmi v1), some (jmi v2), some (jmi v3), none, some (jmi v5), some (jmi v6)] [(jmi t0), (jmi t1)] σ := by
    intro k53 h53 v1 v2 v3 v5 v6 t0 t1 σ
    exact jRf_by (jex_ok hG (cs := [(53, [some (.inr (some 0)), some (.inl 0), some (.inl 0), some (.inl 0), some (.inl 0), some (.inl 0), some (.inl 0)], [], fun xs σ => match xs with
      | [v1, v2, v3, v4, v5, v6] => k53 v1 v2 v3 v4 v5 v6 σ
      | _ => none)]) (jcon (jl6 (fun y0 y1 y2 y3 y4 y5 => jl0 (fun σ => h53 y0 y1 y2 y3 y4 y5 σ))) jnil) 100 98 [some (jmr 0), some (jmi v1), some (jmi v2), some (jmi v3), none, some (jmi v5), some (jmi v6)] [(jmi t0), (jmi t1)] σ) rfl
  have rr53 : ∀ (fu : Nat) (v1 v2 v3 v4 v5 v6 : Int) (σ : jxS), jRf X (Model_sets_c53 F fu v1 v2 v3 v4 v5 v6 σ) 53 [some (jmr 0), some (jmi v1), some (jmi v2), some (jmi v3), some (jmi v4), some (jmi v5), some (jmi v6)] [] σ := by
    intro  fu
    induction fu with
    | zero => intros; exact jRf_none
    | succ fu ih =>
      intro v1 v2 v3 v4 v5 v6 σ
      exact jRf_by (jex_ok hG (cs := [(98, [some (.inr (some 0)), some (.inl 0), some (.inl 0), some (.inl 0), none, some (.inl 0), some (.inl 0)], [(.inl 0), (.inl 0)], fun xs σ => match xs with
      | [v1, v2, v3, v5, v6, t0, t1] => Model_sets_c98 F (Model_sets_c53 F fu) v1 v2 v3 v5 v6 t0 t1 σ
      | _ => none)]) (jcon (jl5 (fun y0 y1 y2 y3 y4 => jl2 (fun y5 y6 => (fun σ => rr98 _ ih y0 y1 y2 y3 y4 y5 y6 σ)))) jnil) 100 53 [some (jmr 0), some (jmi v1), some (jmi v2), some (jmi v3), some (jmi v4), some (jmi v5), some (jmi v6)] [] σ) rfl
  exact jRf_by (jex_ok hG (cs := [(53, [some (.inr (some 0)), some (.inl 0), some (.inl 0), some (.inl 0), some (.inl 0), some (.inl 0), some (.inl 0)], [], fun xs σ => match xs with
      | [v1, v2, v3, v4, v5, v6] => Model_sets_c53 F F v1 v2 v3 v4 v5 v6 σ
      | _ => none)]) (jcon (jl6 (fun y0 y1 y2 y3 y4 y5 => jl0 (fun σ => rr53 F y0 y1 y2 y3 y4 y5 σ))) jnil) 100 0 [some (jmr 0), some (jmi v1), some (jmi v2), none, none, none, none] [] σ0) rfl
theorem jad_Model_sets (F : Nat) (sh : List jxC) (hs : jHas sh jc_M) : jAdV (jca_Model_sets F) yX12_sets cX12_sets 7 1 7 164 2 sh := by
  intro as σ k x σ' h
  unfold jca_Model_sets at h
  split at h
  · rename_i t0 v1 v2
    obtain ⟨g0, hh1⟩ := jcond h
    obtain rfl := jbeq g0
    obtain ⟨r, h1, h2⟩ := Option.bind_eq_some_iff.mp hh1
    exact ⟨_, _, h2, ⟨_, _, _, _, _, _, rfl, rfl, (hs _ (jkf_in (l := jc_M) (idx := 0) rfl)).1, rfl⟩, jmet_Model_sets F  sh hs σ v1 v2 r.1 r.2 h1⟩
  · cases h
def jtb_Model_pairs : List (Nat × Instr) := [(0, .aload_n 0), (1, .iload_n 1), (2, .invokevirtual 426), (5, .ifCond .ne 5), (8, .iconst (-1)), (9, .ireturn), (10, .aload_n 0), (11, .iload_n 1), (12, .invokevirtual 429), (15, .ifCond .eq 12), (18, .aload_n 0), (19, .getfield 114), (22, .iload_n 1), (23, .iaload), (24, .goto 5), (27, .bipush (-3)), (29, .ireturn)]
theorem jtk_Model_pairs : jtok cX12_pairs jtb_Model_pairs = true := by decide +kernel
def jE_Model_pairs (F : Nat) : jxE := jmk [(114, 12, 50)] [] [] [(426, (2, false), jca_Model_isQuotient F), (429, (2, false), jca_Model_isKnown F)] 1 jc_M
set_option maxRecDepth 100000 in
set_option maxHeartbeats 4000000 in
theorem jmet_Model_pairs (F : Nat) (sh : List jxC) (hs : jHas sh jc_M) (σ0 : jxS) (v1 : Int) (x : Int) (σ' : jxS) (h : Model_pairs F σ0 v1 = some (x, σ')) : jMC yX12_pairs cX12_pairs 2 (jrt 1) 7 164 sh σ0 [(jmr 0), (jmi v1)] (jrv 1 x) σ' := by
  refine jMC_of (kd := 1) (by decide) rfl h ?_
  intro X hX
  have hG : jGd X (jE_Model_pairs F) jtb_Model_pairs := jGd_of hX jtk_Model_pairs (jcon jfl_X12_114 jnil) jnil jnil (jcon (jsV jlk_X12_426 ⟨rfl, rfl⟩ (jad_Model_isQuotient F sh hs)) (jcon (jsV jlk_X12_429 ⟨rfl, rfl⟩ (jad_Model_isKnown F sh hs)) jnil)) hs
  exact jRf_by (jex_ok hG (cs := []) jnil 20 0 [some (jmr 0), some (jmi v1)] [] σ0) rfl
theorem jad_Model_pairs (F : Nat) (sh : List jxC) (hs : jHas sh jc_M) : jAdV (jca_Model_pairs F) yX12_pairs cX12_pairs 2 1 7 164 1 sh := by
  intro as σ k x σ' h
  unfold jca_Model_pairs at h
  split at h
  · rename_i t0 v1
    obtain ⟨g0, hh1⟩ := jcond h
    obtain rfl := jbeq g0
    obtain ⟨r, h1, h2⟩ := Option.bind_eq_some_iff.mp hh1
    exact ⟨_, _, h2, ⟨_, _, _, _, _, _, rfl, rfl, (hs _ (jkf_in (l := jc_M) (idx := 0) rfl)).1, rfl⟩, jmet_Model_pairs F  sh hs σ v1 r.1 r.2 h1⟩
  · cases h
def jtb_Model_proved : List (Nat × Instr) := [(0, .aload_n 0), (1, .iload_n 1), (2, .invokevirtual 426), (5, .ifCond .ne 5), (8, .iconst (-1)), (9, .ireturn), (10, .aload_n 0), (11, .iload_n 1), (12, .invokevirtual 429), (15, .ifCond .eq 12), (18, .aload_n 0), (19, .getfield 117), (22, .iload_n 1), (23, .iaload), (24, .goto 5), (27, .bipush (-3)), (29, .ireturn)]
theorem jtk_Model_proved : jtok cX12_proved jtb_Model_proved = true := by decide +kernel
def jE_Model_proved (F : Nat) : jxE := jmk [(117, 12, 51)] [] [] [(426, (2, false), jca_Model_isQuotient F), (429, (2, false), jca_Model_isKnown F)] 1 jc_M
set_option maxRecDepth 100000 in
set_option maxHeartbeats 4000000 in
theorem jmet_Model_proved (F : Nat) (sh : List jxC) (hs : jHas sh jc_M) (σ0 : jxS) (v1 : Int) (x : Int) (σ' : jxS) (h : Model_proved F σ0 v1 = some (x, σ')) : jMC yX12_proved cX12_proved 2 (jrt 1) 7 164 sh σ0 [(jmr 0), (jmi v1)] (jrv 1 x) σ' := by
  refine jMC_of (kd := 1) (by decide) rfl h ?_
  intro X hX
  have hG : jGd X (jE_Model_proved F) jtb_Model_proved := jGd_of hX jtk_Model_proved (jcon jfl_X12_117 jnil) jnil jnil (jcon (jsV jlk_X12_426 ⟨rfl, rfl⟩ (jad_Model_isQuotient F sh hs)) (jcon (jsV jlk_X12_429 ⟨rfl, rfl⟩ (jad_Model_isKnown F sh hs)) jnil)) hs
  exact jRf_by (jex_ok hG (cs := []) jnil 20 0 [some (jmr 0), some (jmi v1)] [] σ0) rfl
theorem jad_Model_proved (F : Nat) (sh : List jxC) (hs : jHas sh jc_M) : jAdV (jca_Model_proved F) yX12_proved cX12_proved 2 1 7 164 1 sh := by
  intro as σ k x σ' h
  unfold jca_Model_proved at h
  split at h
  · rename_i t0 v1
    obtain ⟨g0, hh1⟩ := jcond h
    obtain rfl := jbeq g0
    obtain ⟨r, h1, h2⟩ := Option.bind_eq_some_iff.mp hh1
    exact ⟨_, _, h2, ⟨_, _, _, _, _, _, rfl, rfl, (hs _ (jkf_in (l := jc_M) (idx := 0) rfl)).1, rfl⟩, jmet_Model_proved F  sh hs σ v1 r.1 r.2 h1⟩
  · cases h
def jtb_Model_areAlike : List (Nat × Instr) := [(0, .aload_n 0), (1, .getfield 102), (4, .iload_n 2), (5, .iaload), (6, .aload_n 0), (7, .getfield 102), (10, .iload_n 1), (11, .iaload), (12, .if_icmp .ne 18), (15, .aload_n 0), (16, .getfield 111), (19, .iload_n 2), (20, .iaload), (21, .aload_n 0), (22, .getfield 111), (25, .iload_n 1), (26, .iaload), (27, .if_icmp .eq 5), (30, .iconst 0), (31, .ireturn), (32, .iconst 0), (33, .istore_n 3), (34, .iload_n 3), (35, .aload_n 0), (36, .getfield 102), (39, .iload_n 1), (40, .iaload), (41, .if_icmp .ge 45), (44, .iconst 1), (45, .istore 4), (47, .iload 4), (49, .iload_n 1), (50, .if_icmp .gt 30), (53, .aload_n 0), (54, .iload_n 1), (55, .iload_n 3), (56, .iload 4), (58, .invokevirtual 399), (61, .aload_n 0), (62, .iload_n 2), (63, .iload_n 3), (64, .iload 4), (66, .invokevirtual 399), (69, .if_icmp .eq 5), (72, .iconst 0), (73, .ireturn), (74, .iinc 4 1), (77, .goto (-30)), (80, .iinc 3 1), (83, .goto (-49)), (86, .iconst 1), (87, .ireturn)]
theorem jtk_Model_areAlike : jtok cX12_areAlike jtb_Model_areAlike = true := by decide +kernel
def jE_Model_areAlike (F : Nat) : jxE := jmk [(102, 12, 46), (111, 12, 49)] [] [] [(399, (4, false), jca_Model_nextBy F)] 4 jc_M
set_option maxRecDepth 100000 in
set_option maxHeartbeats 4000000 in
theorem jmet_Model_areAlike (F : Nat) (sh : List jxC) (hs : jHas sh jc_M) (σ0 : jxS) (v1 : Int) (v2 : Int) (x : Int) (σ' : jxS) (h : Model_areAlike F σ0 v1 v2 = some (x, σ')) : jMC yX12_areAlike cX12_areAlike 5 (jrt 4) 2 45 sh σ0 [(jmr 0), (jmi v1), (jmi v2)] (jrv 4 x) σ' := by
  refine jMC_of (kd := 4) (by decide) rfl h ?_
  intro X hX
  have hG : jGd X (jE_Model_areAlike F) jtb_Model_areAlike := jGd_of hX jtk_Model_areAlike (jcon jfl_X12_102 (jcon jfl_X12_111 jnil)) jnil jnil (jcon (jsV jlk_X12_399 ⟨rfl, rfl⟩ (jad_Model_nextBy F sh hs)) jnil) hs
  have rr47 : ∀ (k34 : Int → Int → Int → jxS → Option jxR) (h34 : ∀ v1 v2 v3 σ, jRf X (k34 v1 v2 v3 σ) 34 [some (jmr 0), some (jmi v1), some (jmi v2), some (jmi v3), none] [] σ) (fu : Nat) (v1 v2 v3 v4 : Int) (σ : jxS), jRf X (Model_areAlike_c47 F k34 fu v1 v2 v3 v4 σ) 47 [some (jmr 0), some (jmi v1), some (jmi v2), some (jmi v3), some (jmi v4)] [] σ := by
    intro k34 h34 fu
    induction fu with
    | zero => intros; exact jRf_none
    | succ fu ih =>
      intro v1 v2 v3 v4 σ
      exact jRf_by (jex_ok hG (cs := [(34, [some (.inr (some 0)), some (.inl 0), some (.inl 0), some (.inl 0), none], [], fun xs σ => match xs with
      | [v1, v2, v3] => k34 v1 v2 v3 σ
      | _ => none), (47, [some (.inr (some 0)), some (.inl 0), some (.inl 0), some (.inl 0), some (.inl 0)], [], fun xs σ => match xs with
      | [v1, v2, v3, v4] => (Model_areAlike_c47 F k34 fu) v1 v2 v3 v4 σ
      | _ => none)]) (jcon (jl3 (fun y0 y1 y2 => jl0 (fun σ => h34 y0 y1 y2 σ))) (jcon (jl4 (fun y0 y1 y2 y3 => jl0 (fun σ => ih y0 y1 y2 y3 σ))) jnil)) 55 47 [some (jmr 0), some (jmi v1), some (jmi v2), some (jmi v3), some (jmi v4)] [] σ) rfl
  have rr34 : ∀ (fu : Nat) (v1 v2 v3 : Int) (σ : jxS), jRf X (Model_areAlike_c34 F fu v1 v2 v3 σ) 34 [some (jmr 0), some (jmi v1), some (jmi v2), some (jmi v3), none] [] σ := by
    intro  fu
    induction fu with
    | zero => intros; exact jRf_none
    | succ fu ih =>
      intro v1 v2 v3 σ
      exact jRf_by (jex_ok hG (cs := [(47, [some (.inr (some 0)), some (.inl 0), some (.inl 0), some (.inl 0), some (.inl 0)], [], fun xs σ => match xs with
      | [v1, v2, v3, v4] => Model_areAlike_c47 F (Model_areAlike_c34 F fu) F v1 v2 v3 v4 σ
      | _ => none)]) (jcon (jl4 (fun y0 y1 y2 y3 => jl0 (fun σ => rr47 _ ih F y0 y1 y2 y3 σ))) jnil) 55 34 [some (jmr 0), some (jmi v1), some (jmi v2), some (jmi v3), none] [] σ) rfl
  exact jRf_by (jex_ok hG (cs := [(34, [some (.inr (some 0)), some (.inl 0), some (.inl 0), some (.inl 0), none], [], fun xs σ => match xs with
      | [v1, v2, v3] => Model_areAlike_c34 F F v1 v2 v3 σ
      | _ => none)]) (jcon (jl3 (fun y0 y1 y2 => jl0 (fun σ => rr34 F y0 y1 y2 σ))) jnil) 55 0 [some (jmr 0), some (jmi v1), some (jmi v2), none, none] [] σ0) rfl
theorem jad_Model_areAlike (F : Nat) (sh : List jxC) (hs : jHas sh jc_M) : jAdV (jca_Model_areAlike F) yX12_areAlike cX12_areAlike 5 4 2 45 2 sh := by
  intro as σ k x σ' h
  unfold jca_Model_areAlike at h
  split at h
  · rename_i t0 v1 v2
    obtain ⟨g0, hh1⟩ := jcond h
    obtain rfl := jbeq g0
    obtain ⟨r, h1, h2⟩ := Option.bind_eq_some_iff.mp hh1
    exact ⟨_, _, h2, ⟨_, _, _, _, _, _, rfl, rfl, (hs _ (jkf_in (l := jc_M) (idx := 0) rfl)).1, rfl⟩, jmet_Model_areAlike F  sh hs σ v1 v2 r.1 r.2 h1⟩
  · cases h
def jtb_Model_stays : List (Nat × Instr) := [(0, .aload_n 0), (1, .iload_n 1), (2, .invokevirtual 426), (5, .ifCond .ne 5), (8, .iconst (-1)), (9, .ireturn), (10, .aload_n 0), (11, .iload_n 1), (12, .invokevirtual 429), (15, .ifCond .ne 6), (18, .bipush (-3)), (20, .ireturn), (21, .iload_n 1), (22, .istore_n 2), (23, .iload_n 2), (24, .bipush 6), (26, .if_icmp .ge 39), (29, .aload_n 0), (30, .iload_n 2), (31, .iconst 1), (32, .iadd), (33, .invokevirtual 423), (36, .aload_n 0), (37, .iload_n 2), (38, .iconst 1), (39, .iadd), (40, .invokevirtual 429), (43, .ifCond .eq 14), (46, .aload_n 0), (47, .iload_n 1), (48, .iload_n 2), (49, .iconst 1), (50, .iadd), (51, .invokevirtual 443), (54, .ifCond .ne 5), (57, .iload_n 2), (58, .ireturn), (59, .iinc 2 1), (62, .goto (-39)), (65, .iload_n 2), (66, .ireturn)]
theorem jtk_Model_stays : jtok cX12_stays jtb_Model_stays = true := by decide +kernel
set_option maxRecDepth 100000 in
theorem jlk_X12_443 : jLkV RX12 443 yX12_areAlike cX12_areAlike 5 4 2 := ⟨(jTB_at 1925 rfl rfl), (jTB_at 1927 rfl rfl), (jTB_at 110 rfl rfl), (jTB_at 115 rfl rfl), jTB_at 1928 rfl rfl, ⟨by decide, by decide, by decide +kernel⟩⟩
def jE_Model_stays (F : Nat) : jxE := jmk [] [] [] [(423, (2, false), jca_Model_laysQuotient F), (426, (2, false), jca_Model_isQuotient F), (429, (2, false), jca_Model_isKnown F), (443, (3, false), jca_Model_areAlike F)] 1 jc_M
set_option maxRecDepth 100000 in
set_option maxHeartbeats 4000000 in
theorem jmet_Model_stays (F : Nat) (sh : List jxC) (hs : jHas sh jc_M) (σ0 : jxS) (v1 : Int) (x : Int) (σ' : jxS) (h : Model_stays F σ0 v1 = some (x, σ')) : jMC yX12_stays cX12_stays 3 (jrt 1) 7 164 sh σ0 [(jmr 0), (jmi v1)] (jrv 1 x) σ' := by
  refine jMC_of (kd := 1) (by decide) rfl h ?_
  intro X hX
  have hG : jGd X (jE_Model_stays F) jtb_Model_stays := jGd_of hX jtk_Model_stays jnil jnil jnil (jcon (jsV jlk_X12_423 ⟨rfl, rfl⟩ (jad_Model_laysQuotient F sh hs)) (jcon (jsV jlk_X12_426 ⟨rfl, rfl⟩ (jad_Model_isQuotient F sh hs)) (jcon (jsV jlk_X12_429 ⟨rfl, rfl⟩ (jad_Model_isKnown F sh hs)) (jcon (jsV jlk_X12_443 ⟨rfl, rfl⟩ (jad_Model_areAlike F sh hs)) jnil)))) hs
  have rr23 : ∀ (fu : Nat) (v1 v2 : Int) (σ : jxS), jRf X (Model_stays_c23 F fu v1 v2 σ) 23 [some (jmr 0), some (jmi v1), some (jmi v2)] [] σ := by
    intro  fu
    induction fu with
    | zero => intros; exact jRf_none
    | succ fu ih =>
      intro v1 v2 σ
      exact jRf_by (jex_ok hG (cs := [(23, [some (.inr (some 0)), some (.inl 0), some (.inl 0)], [], fun xs σ => match xs with
      | [v1, v2] => (Model_stays_c23 F fu) v1 v2 σ
      | _ => none)]) (jcon (jl2 (fun y0 y1 => jl0 (fun σ => ih y0 y1 σ))) jnil) 44 23 [some (jmr 0), some (jmi v1), some (jmi v2)] [] σ) rfl
  exact jRf_by (jex_ok hG (cs := [(23, [some (.inr (some 0)), some (.inl 0), some (.inl 0)], [], fun xs σ => match xs with
      | [v1, v2] => Model_stays_c23 F F v1 v2 σ
      | _ => none)]) (jcon (jl2 (fun y0 y1 => jl0 (fun σ => rr23 F y0 y1 σ))) jnil) 44 0 [some (jmr 0), some (jmi v1), none] [] σ0) rfl
theorem jad_Model_stays (F : Nat) (sh : List jxC) (hs : jHas sh jc_M) : jAdV (jca_Model_stays F) yX12_stays cX12_stays 3 1 7 164 1 sh := by
  intro as σ k x σ' h
  unfold jca_Model_stays at h
  split at h
  · rename_i t0 v1
    obtain ⟨g0, hh1⟩ := jcond h
    obtain rfl := jbeq g0
    obtain ⟨r, h1, h2⟩ := Option.bind_eq_some_iff.mp hh1
    exact ⟨_, _, h2, ⟨_, _, _, _, _, _, rfl, rfl, (hs _ (jkf_in (l := jc_M) (idx := 0) rfl)).1, rfl⟩, jmet_Model_stays F  sh hs σ v1 r.1 r.2 h1⟩
  · cases h
