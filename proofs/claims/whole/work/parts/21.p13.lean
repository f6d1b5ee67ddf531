/-! Contracts: Positions_link Positions_linkOthers Positions_linkParts Model_feed Model_isIn Model_end Model_byteAt Model_next_I Model_isLetter Model_wordHere Model_fails Model_passWord Model_takesSign Model_isDigit Model_readsOctal Model_reads Model_readsAlso Model_readsNever Model_readsLine Model_readsAll Model_takesNone Model_leastFree Model_has -/
def jtb_Positions_link : List (Nat × Instr) := [(0, .aload_n 0), (1, .getfield 18), (4, .iload_n 2), (5, .iaload), (6, .iload_n 3), (7, .iadd), (8, .istore 5), (10, .iload 4), (12, .sipush 14202), (15, .if_icmp .ge 16), (18, .iload 5), (20, .ifCond .lt 11), (23, .iload 5), (25, .sipush 14202), (28, .if_icmp .lt 6), (31, .iload 4), (33, .ireturn), (34, .aload_n 0), (35, .getfield 27), (38, .iload 4), (40, .sipush 8192), (43, .iload_n 2), (44, .imul), (45, .iload_n 3), (46, .iadd), (47, .iastore), (48, .aload_n 0), (49, .getfield 21), (52, .iload 5), (54, .iload_n 1), (55, .iastore), (56, .iload 4), (58, .iconst 1), (59, .iadd), (60, .ireturn)]
theorem jtk_Positions_link : jtok cX5_link jtb_Positions_link = true := by decide +kernel
def jE_Positions_link (F : Nat) : jxE := jmk [(18, 5, 2), (21, 5, 3), (27, 5, 5)] [] [] [] 1 jc_P
set_option maxRecDepth 100000 in
set_option maxHeartbeats 4000000 in
theorem jmet_Positions_link (F : Nat) (sh : List jxC) (hs : jHas sh jc_P) (σ0 : jxS) (v1 : Int) (v2 : Int) (v3 : Int) (v4 : Int) (x : Int) (σ' : jxS) (h : Positions_link F σ0 v1 v2 v3 v4 = some (x, σ')) : jMC yX5_link cX5_link 6 (jrt 1) 0 0 sh σ0 [(jmr 22), (jmi v1), (jmi v2), (jmi v3), (jmi v4)] (jrv 1 x) σ' := by
  refine jMC_of (kd := 1) (by decide) rfl h ?_
  intro X hX
  have hG : jGd X (jE_Positions_link F) jtb_Positions_link := jGd_of hX jtk_Positions_link (jcon jfl_X5_18 (jcon jfl_X5_21 (jcon jfl_X5_27 jnil))) jnil jnil jnil hs
  exact jRf_by (jex_ok hG (cs := []) jnil 38 0 [some (jmr 22), some (jmi v1), some (jmi v2), some (jmi v3), some (jmi v4), none] [] σ0) rfl
theorem jad_Positions_link (F : Nat) (sh : List jxC) (hs : jHas sh jc_P) : jAdV (jca_Positions_link F) yX5_link cX5_link 6 1 0 0 4 sh := by
  intro as σ k x σ' h
  unfold jca_Positions_link at h
  split at h
  · rename_i t0 v1 v2 v3 v4
    obtain ⟨g0, hh1⟩ := jcond h
    obtain rfl := jbeq g0
    obtain ⟨r, h1, h2⟩ := Option.bind_eq_some_iff.mp hh1
    exact ⟨_, _, h2, ⟨_, _, _, _, _, _, rfl, rfl, (hs _ (jkf_in (l := jc_P) (idx := 22) rfl)).1, rfl⟩, jmet_Positions_link F  sh hs σ v1 v2 v3 v4 r.1 r.2 h1⟩
  · cases h
def jtb_Positions_linkOthers : List (Nat × Instr) := [(0, .iload 4), (2, .istore 5), (4, .aload_n 0), (5, .iload_n 3), (6, .invokevirtual 48), (9, .istore 6), (11, .aload_n 0), (12, .iload_n 3), (13, .invokevirtual 52), (16, .istore 7), (18, .iload 7), (20, .iload 6), (22, .if_icmp .ge 45), (25, .aload_n 0), (26, .iload 7), (28, .invokevirtual 55), (31, .istore 8), (33, .iload 8), (35, .iload_n 2), (36, .if_icmp .eq 25), (39, .aload_n 0), (40, .iload_n 1), (41, .iload 8), (43, .aload_n 0), (44, .aload_n 0), (45, .iload 7), (47, .invokevirtual 58), (50, .iload_n 2), (51, .invokevirtual 61), (54, .iload 5), (56, .invokevirtual 41), (59, .istore 5), (61, .iinc 7 1), (64, .goto (-46)), (67, .iload 5), (69, .ireturn)]
theorem jtk_Positions_linkOthers : jtok cX5_linkOthers jtb_Positions_linkOthers = true := by decide +kernel
set_option maxRecDepth 100000 in
theorem jlk_X5_41 : jLkV RX5 41 yX5_link cX5_link 6 1 4 := ⟨(jTB_at 438 rfl rfl), (jTB_at 440 rfl rfl), (jTB_at 15 rfl rfl), (jTB_at 123 rfl rfl), jTB_at 441 rfl rfl, ⟨by decide, by decide, by decide +kernel⟩⟩
def jE_Positions_linkOthers (F : Nat) : jxE := jmk [] [] [] [(41, (5, false), jca_Positions_link F), (48, (2, false), jca_Positions_endPart F), (52, (2, false), jca_Positions_firstPart F), (55, (2, false), jca_Positions_heapOf F), (58, (2, false), jca_Positions_restOf F), (61, (3, false), jca_Positions_join F)] 1 jc_P
set_option maxRecDepth 100000 in
set_option maxHeartbeats 4000000 in
theorem jmet_Positions_linkOthers (F : Nat) (sh : List jxC) (hs : jHas sh jc_P) (σ0 : jxS) (v1 : Int) (v2 : Int) (v3 : Int) (v4 : Int) (x : Int) (σ' : jxS) (h : Positions_linkOthers F σ0 v1 v2 v3 v4 = some (x, σ')) : jMC yX5_linkOthers cX5_linkOthers 9 (jrt 1) 2 41 sh σ0 [(jmr 22), (jmi v1), (jmi v2), (jmi v3), (jmi v4)] (jrv 1 x) σ' := by
  refine jMC_of (kd := 1) (by decide) rfl h ?_
  intro X hX
  have hG : jGd X (jE_Positions_linkOthers F) jtb_Positions_linkOthers := jGd_of hX jtk_Positions_linkOthers jnil jnil jnil (jcon (jsV jlk_X5_41 ⟨rfl, rfl⟩ (jad_Positions_link F sh hs)) (jcon (jsV jlk_X5_48 ⟨rfl, rfl⟩ (jad_Positions_endPart F sh hs)) (jcon (jsV jlk_X5_52 ⟨rfl, rfl⟩ (jad_Positions_firstPart F sh hs)) (jcon (jsV jlk_X5_55 ⟨rfl, rfl⟩ (jad_Positions_heapOf F sh hs)) (jcon (jsV jlk_X5_58 ⟨rfl, rfl⟩ (jad_Positions_restOf F sh hs)) (jcon (jsV jlk_X5_61 ⟨rfl, rfl⟩ (jad_Positions_join F sh hs)) jnil)))))) hs
  have rr18 : ∀ (fu : Nat) (v1 v2 v5 v6 v7 : Int) (σ : jxS), jRf X (Positions_linkOthers_c18 F fu v1 v2 v5 v6 v7 σ) 18 [some (jmr 22), some (jmi v1), some (jmi v2), none, none, some (jmi v5), some (jmi v6), some (jmi v7), none] [] σ := by
    intro  fu
    induction fu with
    | zero => intros; exact jRf_none
    | succ fu ih =>
      intro v1 v2 v5 v6 v7 σ
      exact jRf_by (jex_ok hG (cs := [(18, [some (.inr (some 22)), some (.inl 0), some (.inl 0), none, none, some (.inl 0), some (.inl 0), some (.inl 0), none], [], fun xs σ => match xs with
      | [v1, v2, v5, v6, v7] => (Positions_linkOthers_c18 F fu) v1 v2 v5 v6 v7 σ
      | _ => none)]) (jcon (jl5 (fun y0 y1 y2 y3 y4 => jl0 (fun σ => ih y0 y1 y2 y3 y4 σ))) jnil) 39 18 [some (jmr 22), some (jmi v1), some (jmi v2), none, none, some (jmi v5), some (jmi v6), some (jmi v7), none] [] σ) rfl
  exact jRf_by (jex_ok hG (cs := [(18, [some (.inr (some 22)), some (.inl 0), some (.inl 0), none, none, some (.inl 0), some (.inl 0), some (.inl 0), none], [], fun xs σ => match xs with
      | [v1, v2, v5, v6, v7] => Positions_linkOthers_c18 F F v1 v2 v5 v6 v7 σ
      | _ => none)]) (jcon (jl5 (fun y0 y1 y2 y3 y4 => jl0 (fun σ => rr18 F y0 y1 y2 y3 y4 σ))) jnil) 39 0 [some (jmr 22), some (jmi v1), some (jmi v2), some (jmi v3), some (jmi v4), none, none, none, none] [] σ0) rfl
theorem jad_Positions_linkOthers (F : Nat) (sh : List jxC) (hs : jHas sh jc_P) : jAdV (jca_Positions_linkOthers F) yX5_linkOthers cX5_linkOthers 9 1 2 41 4 sh := by
  intro as σ k x σ' h
  unfold jca_Positions_linkOthers at h
  split at h
  · rename_i t0 v1 v2 v3 v4
    obtain ⟨g0, hh1⟩ := jcond h
    obtain rfl := jbeq g0
    obtain ⟨r, h1, h2⟩ := Option.bind_eq_some_iff.mp hh1
    exact ⟨_, _, h2, ⟨_, _, _, _, _, _, rfl, rfl, (hs _ (jkf_in (l := jc_P) (idx := 22) rfl)).1, rfl⟩, jmet_Positions_linkOthers F  sh hs σ v1 v2 v3 v4 r.1 r.2 h1⟩
  · cases h
def jtb_Positions_linkParts : List (Nat × Instr) := [(0, .iload_n 1), (1, .aload_n 0), (2, .getfield 15), (5, .iload_n 2), (6, .iaload), (7, .isub), (8, .istore 4), (10, .iconst 1), (11, .istore 5), (13, .iload 5), (15, .bipush 12), (17, .if_icmp .gt 70), (20, .iload 5), (22, .iload_n 2), (23, .if_icmp .gt 64), (26, .aload_n 0), (27, .iload 5), (29, .iconst 1), (30, .iadd), (31, .iload_n 2), (32, .invokevirtual 37), (35, .istore 6), (37, .iload 4), (39, .iload 6), (41, .if_icmp .lt 40), (44, .aload_n 0), (45, .getfield 15), (48, .iload_n 2), (49, .iload 5), (51, .isub), (52, .iaload), (53, .iload 4), (55, .iadd), (56, .iload 6), (58, .isub), (59, .istore 7), (61, .aload_n 0), (62, .iload_n 1), (63, .iload 5), (65, .iload 7), (67, .aload_n 0), (68, .iload_n 1), (69, .iload 5), (71, .iload 7), (73, .iload_n 3), (74, .invokevirtual 41), (77, .invokevirtual 45), (80, .ireturn), (81, .iinc 5 1), (84, .goto (-71)), (87, .iload_n 3), (88, .ireturn)]
theorem jtk_Positions_linkParts : jtok cX5_linkParts jtb_Positions_linkParts = true := by decide +kernel
set_option maxRecDepth 100000 in
theorem jlk_X5_45 : jLkV RX5 45 yX5_linkOthers cX5_linkOthers 9 1 4 := ⟨(jTB_at 442 rfl rfl), (jTB_at 444 rfl rfl), (jTB_at 16 rfl rfl), (jTB_at 123 rfl rfl), jTB_at 445 rfl rfl, ⟨by decide, by decide, by decide +kernel⟩⟩
def jE_Positions_linkParts (F : Nat) : jxE := jmk [(15, 5, 1)] [] [] [(37, (3, false), jca_Positions_waysOf F), (41, (5, false), jca_Positions_link F), (45, (5, false), jca_Positions_linkOthers F)] 1 jc_P
set_option maxRecDepth 100000 in
set_option maxHeartbeats 4000000 in
theorem jmet_Positions_linkParts (F : Nat) (sh : List jxC) (hs : jHas sh jc_P) (σ0 : jxS) (v1 : Int) (v2 : Int) (v3 : Int) (x : Int) (σ' : jxS) (h : Positions_linkParts F σ0 v1 v2 v3 = some (x, σ')) : jMC yX5_linkParts cX5_linkParts 8 (jrt 1) 3 69 sh σ0 [(jmr 22), (jmi v1), (jmi v2), (jmi v3)] (jrv 1 x) σ' := by
  refine jMC_of (kd := 1) (by decide) rfl h ?_
  intro X hX
  have hG : jGd X (jE_Positions_linkParts F) jtb_Positions_linkParts := jGd_of hX jtk_Positions_linkParts (jcon jfl_X5_15 jnil) jnil jnil (jcon (jsV jlk_X5_37 ⟨rfl, rfl⟩ (jad_Positions_waysOf F sh hs)) (jcon (jsV jlk_X5_41 ⟨rfl, rfl⟩ (jad_Positions_link F sh hs)) (jcon (jsV jlk_X5_45 ⟨rfl, rfl⟩ (jad_Positions_linkOthers F sh hs)) jnil))) hs
  have rr13 : ∀ (fu : Nat) (v1 v2 v3 v4 v5 : Int) (σ : jxS), jRf X (Positions_linkParts_c13 F fu v1 v2 v3 v4 v5 σ) 13 [some (jmr 22), some (jmi v1), some (jmi v2), some (jmi v3), some (jmi v4), some (jmi v5), none, none] [] σ := by
    intro  fu
    induction fu with
    | zero => intros; exact jRf_none
    | succ fu ih =>
      intro v1 v2 v3 v4 v5 σ
      exact jRf_by (jex_ok hG (cs := [(13, [some (.inr (some 22)), some (.inl 0), some (.inl 0), some (.inl 0), some (.inl 0), some (.inl 0), none, none], [], fun xs σ => match xs with
      | [v1, v2, v3, v4, v5] => (Positions_linkParts_c13 F fu) v1 v2 v3 v4 v5 σ
      | _ => none)]) (jcon (jl5 (fun y0 y1 y2 y3 y4 => jl0 (fun σ => ih y0 y1 y2 y3 y4 σ))) jnil) 55 13 [some (jmr 22), some (jmi v1), some (jmi v2), some (jmi v3), some (jmi v4), some (jmi v5), none, none] [] σ) rfl
  exact jRf_by (jex_ok hG (cs := [(13, [some (.inr (some 22)), some (.inl 0), some (.inl 0), some (.inl 0), some (.inl 0), some (.inl 0), none, none], [], fun xs σ => match xs with
      | [v1, v2, v3, v4, v5] => Positions_linkParts_c13 F F v1 v2 v3 v4 v5 σ
      | _ => none)]) (jcon (jl5 (fun y0 y1 y2 y3 y4 => jl0 (fun σ => rr13 F y0 y1 y2 y3 y4 σ))) jnil) 55 0 [some (jmr 22), some (jmi v1), some (jmi v2), some (jmi v3), none, none, none, none] [] σ0) rfl
theorem jad_Positions_linkParts (F : Nat) (sh : List jxC) (hs : jHas sh jc_P) : jAdV (jca_Positions_linkParts F) yX5_linkParts cX5_linkParts 8 1 3 69 3 sh := by
  intro as σ k x σ' h
  unfold jca_Positions_linkParts at h
  split at h
  · rename_i t0 v1 v2 v3
    obtain ⟨g0, hh1⟩ := jcond h
    obtain rfl := jbeq g0
    obtain ⟨r, h1, h2⟩ := Option.bind_eq_some_iff.mp hh1
    exact ⟨_, _, h2, ⟨_, _, _, _, _, _, rfl, rfl, (hs _ (jkf_in (l := jc_P) (idx := 22) rfl)).1, rfl⟩, jmet_Positions_linkParts F  sh hs σ v1 v2 v3 r.1 r.2 h1⟩
  · cases h
def jtb_Model_feed : List (Nat × Instr) := [(0, .aload_n 0), (1, .getfield 139), (4, .sipush 180), (7, .if_icmp .le 5), (10, .iconst (-1)), (11, .ireturn), (12, .iconst 0), (13, .istore 6), (15, .iload 6), (17, .bipush 20), (19, .if_icmp .ge 83), (22, .iload 6), (24, .iconst 4), (25, .if_icmp .ge 7), (28, .iload_n 1), (29, .goto 39), (32, .iload 6), (34, .bipush 8), (36, .if_icmp .ge 7), (39, .iload_n 2), (40, .goto 28), (43, .iload 6), (45, .bipush 12), (47, .if_icmp .ge 7), (50, .iload_n 3), (51, .goto 17), (54, .iload 6), (56, .bipush 16), (58, .if_icmp .ge 8), (61, .iload 4), (63, .goto 5), (66, .iload 5), (68, .istore 7), (70, .aload_n 0), (71, .getfield 7), (74, .aload_n 0), (75, .getfield 139), (78, .iload 6), (80, .iadd), (81, .iload 7), (83, .bipush 24), (85, .bipush 8), (87, .iload 6), (89, .iconst 4), (90, .irem), (91, .imul), (92, .isub), (93, .ishr), (94, .i2b), (95, .bastore), (96, .iinc 6 1), (99, .goto (-84)), (102, .aload_n 0), (103, .dup), (104, .getfield 139), (107, .bipush 20), (109, .iadd), (110, .putfield 139), (113, .aload_n 0), (114, .getfield 139), (117, .ireturn)]
theorem jtk_Model_feed : jtok cX12_feed jtb_Model_feed = true := by decide +kernel
set_option maxRecDepth 100000 in
theorem jfl_X12_7 : jFl RX12 7 12 0 := ⟨RX12, TX12, 57, tyX12, rfl, by decide, jin_X12, tyX12_ok, nmX12, jow_X12, (Or.inl (jTB_at 1341 rfl rfl))⟩
set_option maxRecDepth 100000 in
theorem jfl_X12_139 : jFl RX12 139 12 1 := ⟨RX12, TX12, 57, tyX12, rfl, by decide, jin_X12, tyX12_ok, nmX12, jow_X12, (Or.inl (jTB_at 1342 rfl rfl))⟩
def jE_Model_feed (F : Nat) : jxE := jmk [(7, 12, 0), (139, 12, 1)] [] [] [] 1 jc_M
set_option maxRecDepth 100000 in
set_option maxHeartbeats 4000000 in
theorem jmet_Model_feed (F : Nat) (sh : List jxC) (hs : jHas sh jc_M) (σ0 : jxS) (v1 : Int) (v2 : Int) (v3 : Int) (v4 : Int) (v5 : Int) (x : Int) (σ' : jxS) (h : Model_feed F σ0 v1 v2 v3 v4 v5 = some (x, σ')) : jMC yX12_feed cX12_feed 8 (jrt 1) 0 0 sh σ0 [(jmr 0), (jmi v1), (jmi v2), (jmi v3), (jmi v4), (jmi v5)] (jrv 1 x) σ' := by
  refine jMC_of (kd := 1) (by decide) rfl h ?_
  intro X hX
  have hG : jGd X (jE_Model_feed F) jtb_Model_feed := jGd_of hX jtk_Model_feed (jcon jfl_X12_7 (jcon jfl_X12_139 jnil)) jnil jnil jnil hs
  have rr68 : ∀ (k15 : Int → Int → Int → Int → Int → Int → jxS → Option jxR) (h15 : ∀ v1 v2 v3 v4 v5 v6 σ, jRf X (k15 v1 v2 v3 v4 v5 v6 σ) 15 [some (jmr 0), some (jmi v1), some (jmi v2), some (jmi v3), some (jmi v4), some (jmi v5), some (jmi v6), none] [] σ) (v1 v2 v3 v4 v5 v6 t0 : Int) (σ : jxS), jRf X (Model_feed_c68 F k15 v1 v2 v3 v4 v5 v6 t0 σ) 68 [some (jmr 0), some (jmi v1), some (jmi v2), some (jmi v3), some (jmi v4), some (jmi v5), some (jmi v6), none] [(jmi t0)] σ := by
    intro k15 h15 v1 v2 v3 v4 v5 v6 t0 σ
    exact jRf_by (jex_ok hG (cs := [(15, [some (.inr (some 0)), some (.inl 0), some (.inl 0), some (.inl 0), some (.inl 0), some (.inl 0), some (.inl 0), none], [], fun xs σ => match xs with
      | [v1, v2, v3, v4, v5, v6] => k15 v1 v2 v3 v4 v5 v6 σ
      | _ => none)]) (jcon (jl6 (fun y0 y1 y2 y3 y4 y5 => jl0 (fun σ => h15 y0 y1 y2 y3 y4 y5 σ))) jnil) 64 68 [some (jmr 0), some (jmi v1), some (jmi v2), some (jmi v3), some (jmi v4), some (jmi v5), some (jmi v6), none] [(jmi t0)] σ) rfl
  have rr15 : ∀ (fu : Nat) (v1 v2 v3 v4 v5 v6 : Int) (σ : jxS), jRf X (Model_feed_c15 F fu v1 v2 v3 v4 v5 v6 σ) 15 [some (jmr 0), some (jmi v1), some (jmi v2), some (jmi v3), some (jmi v4), some (jmi v5), some (jmi v6), none] [] σ := by
    intro  fu
    induction fu with
    | zero => intros; exact jRf_none
    | succ fu ih =>
      intro v1 v2 v3 v4 v5 v6 σ
      exact jRf_by (jex_ok hG (cs := [(68, [some (.inr (some 0)), some (.inl 0), some (.inl 0), some (.inl 0), some (.inl 0), some (.inl 0), some (.inl 0), none], [(.inl 0)], fun xs σ => match xs with
      | [v1, v2, v3, v4, v5, v6, t0] => Model_feed_c68 F (Model_feed_c15 F fu) v1 v2 v3 v4 v5 v6 t0 σ
      | _ => none)]) (jcon (jl6 (fun y0 y1 y2 y3 y4 y5 => jl1 (fun y6 => (fun σ => rr68 _ ih y0 y1 y2 y3 y4 y5 y6 σ)))) jnil) 64 15 [some (jmr 0), some (jmi v1), some (jmi v2), some (jmi v3), some (jmi v4), some (jmi v5), some (jmi v6), none] [] σ) rfl
  exact jRf_by (jex_ok hG (cs := [(15, [some (.inr (some 0)), some (.inl 0), some (.inl 0), some (.inl 0), some (.inl 0), some (.inl 0), some (.inl 0), none], [], fun xs σ => match xs with
      | [v1, v2, v3, v4, v5, v6] => Model_feed_c15 F F v1 v2 v3 v4 v5 v6 σ
      | _ => none)]) (jcon (jl6 (fun y0 y1 y2 y3 y4 y5 => jl0 (fun σ => rr15 F y0 y1 y2 y3 y4 y5 σ))) jnil) 64 0 [some (jmr 0), some (jmi v1), some (jmi v2), some (jmi v3), some (jmi v4), some (jmi v5), none, none] [] σ0) rfl
theorem jad_Model_feed (F : Nat) (sh : List jxC) (hs : jHas sh jc_M) : jAdV (jca_Model_feed F) yX12_feed cX12_feed 8 1 0 0 5 sh := by
  intro as σ k x σ' h
  unfold jca_Model_feed at h
  split at h
  · rename_i t0 v1 v2 v3 v4 v5
    obtain ⟨g0, hh1⟩ := jcond h
    obtain rfl := jbeq g0
    obtain ⟨r, h1, h2⟩ := Option.bind_eq_some_iff.mp hh1
    exact ⟨_, _, h2, ⟨_, _, _, _, _, _, rfl, rfl, (hs _ (jkf_in (l := jc_M) (idx := 0) rfl)).1, rfl⟩, jmet_Model_feed F  sh hs σ v1 v2 v3 v4 v5 r.1 r.2 h1⟩
  · cases h
def jtb_Model_isIn : List (Nat × Instr) := [(0, .lload_n 0), (1, .lload_n 2), (2, .lcmp), (3, .ifCond .lt 14), (6, .lload_n 0), (7, .lload 4), (9, .lcmp), (10, .ifCond .gt 7), (13, .iconst 1), (14, .goto 4), (17, .iconst 0), (18, .ireturn)]
theorem jtk_Model_isIn : jtok cX12_isIn jtb_Model_isIn = true := by decide +kernel
def jE_Model_isIn (F : Nat) : jxE := jmk [] [] [] [] 4 jc_M
set_option maxRecDepth 100000 in
set_option maxHeartbeats 4000000 in
theorem jmet_Model_isIn (F : Nat) (sh : List jxC) (hs : jHas sh jc_M) (σ0 : jxS) (v0 : Int) (v2 : Int) (v4 : Int) (x : Int) (σ' : jxS) (h : Model_isIn F σ0 v0 v2 v4 = some (x, σ')) : jMC yX12_isIn cX12_isIn 6 (jrt 4) 0 0 sh σ0 [(jml v0), (jml v2), (jml v4)] (jrv 4 x) σ' := by
  refine jMC_of (kd := 4) (by decide) rfl h ?_
  intro X hX
  have hG : jGd X (jE_Model_isIn F) jtb_Model_isIn := jGd_of hX jtk_Model_isIn jnil jnil jnil jnil hs
  exact jRf_by (jex_ok hG (cs := []) jnil 15 0 [some (jml v0), none, some (jml v2), none, some (jml v4), none] [] σ0) rfl
theorem jad_Model_isIn (F : Nat) (sh : List jxC) (hs : jHas sh jc_M) : jAdS (jca_Model_isIn F) yX12_isIn cX12_isIn 6 4 0 0 3 sh := by
  intro as σ k x σ' h
  unfold jca_Model_isIn at h
  split at h
  · rename_i v0 v2 v4
    obtain ⟨r, h1, h2⟩ := Option.bind_eq_some_iff.mp h
    exact ⟨_, _, h2, rfl, jmet_Model_isIn F  sh hs σ v0 v2 v4 r.1 r.2 h1⟩
  · cases h
def jtb_Model_end : List (Nat × Instr) := [(0, .iload_n 1), (1, .i2l), (2, .lconst 0), (3, .aload_n 0), (4, .getfield 139), (7, .i2l), (8, .invokestatic 143), (11, .ifCond .ne 5), (14, .iconst (-1)), (15, .ireturn), (16, .aload_n 0), (17, .iload_n 1), (18, .putfield 139), (21, .iload_n 1), (22, .ireturn)]
theorem jtk_Model_end : jtok cX12_end jtb_Model_end = true := by decide +kernel
set_option maxRecDepth 100000 in
theorem jlk_X12_143 : jLkS RX12 143 yX12_isIn cX12_isIn 6 4 3 := ⟨Or.inl (jTB_at 1522 rfl rfl), (jTB_at 1523 rfl rfl), (jTB_at 115 rfl rfl), jTB_at 1524 rfl rfl, ⟨by decide, by decide, by decide +kernel⟩⟩
def jE_Model_end (F : Nat) : jxE := jmk [(139, 12, 1)] [] [] [(143, (3, true), jca_Model_isIn F)] 1 jc_M
set_option maxRecDepth 100000 in
set_option maxHeartbeats 4000000 in
theorem jmet_Model_end (F : Nat) (sh : List jxC) (hs : jHas sh jc_M) (σ0 : jxS) (v1 : Int) (x : Int) (σ' : jxS) (h : Model_end F σ0 v1 = some (x, σ')) : jMC yX12_end cX12_end 2 (jrt 1) 1 25 sh σ0 [(jmr 0), (jmi v1)] (jrv 1 x) σ' := by
  refine jMC_of (kd := 1) (by decide) rfl h ?_
  intro X hX
  have hG : jGd X (jE_Model_end F) jtb_Model_end := jGd_of hX jtk_Model_end (jcon jfl_X12_139 jnil) jnil jnil (jcon (jsS jlk_X12_143 ⟨rfl, rfl⟩ (jad_Model_isIn F sh hs)) jnil) hs
  exact jRf_by (jex_ok hG (cs := []) jnil 18 0 [some (jmr 0), some (jmi v1)] [] σ0) rfl
theorem jad_Model_end (F : Nat) (sh : List jxC) (hs : jHas sh jc_M) : jAdV (jca_Model_end F) yX12_end cX12_end 2 1 1 25 1 sh := by
  intro as σ k x σ' h
  unfold jca_Model_end at h
  split at h
  · rename_i t0 v1
    obtain ⟨g0, hh1⟩ := jcond h
    obtain rfl := jbeq g0
    obtain ⟨r, h1, h2⟩ := Option.bind_eq_some_iff.mp hh1
    exact ⟨_, _, h2, ⟨_, _, _, _, _, _, rfl, rfl, (hs _ (jkf_in (l := jc_M) (idx := 0) rfl)).1, rfl⟩, jmet_Model_end F  sh hs σ v1 r.1 r.2 h1⟩
  · cases h
def jtb_Model_byteAt : List (Nat × Instr) := [(0, .iload_n 1), (1, .aload_n 0), (2, .getfield 139), (5, .if_icmp .ge 16), (8, .aload_n 0), (9, .getfield 7), (12, .iload_n 1), (13, .baload), (14, .sipush 255), (17, .iand), (18, .goto 4), (21, .iconst (-1)), (22, .ireturn)]
theorem jtk_Model_byteAt : jtok cX12_byteAt jtb_Model_byteAt = true := by decide +kernel
def jE_Model_byteAt (F : Nat) : jxE := jmk [(7, 12, 0), (139, 12, 1)] [] [] [] 1 jc_M
set_option maxRecDepth 100000 in
set_option maxHeartbeats 4000000 in
theorem jmet_Model_byteAt (F : Nat) (sh : List jxC) (hs : jHas sh jc_M) (σ0 : jxS) (v1 : Int) (x : Int) (σ' : jxS) (h : Model_byteAt F σ0 v1 = some (x, σ')) : jMC yX12_byteAt cX12_byteAt 2 (jrt 1) 0 0 sh σ0 [(jmr 0), (jmi v1)] (jrv 1 x) σ' := by
  refine jMC_of (kd := 1) (by decide) rfl h ?_
  intro X hX
  have hG : jGd X (jE_Model_byteAt F) jtb_Model_byteAt := jGd_of hX jtk_Model_byteAt (jcon jfl_X12_7 (jcon jfl_X12_139 jnil)) jnil jnil jnil hs
  exact jRf_by (jex_ok hG (cs := []) jnil 16 0 [some (jmr 0), some (jmi v1)] [] σ0) rfl
theorem jad_Model_byteAt (F : Nat) (sh : List jxC) (hs : jHas sh jc_M) : jAdV (jca_Model_byteAt F) yX12_byteAt cX12_byteAt 2 1 0 0 1 sh := by
  intro as σ k x σ' h
  unfold jca_Model_byteAt at h
  split at h
  · rename_i t0 v1
    obtain ⟨g0, hh1⟩ := jcond h
    obtain rfl := jbeq g0
    obtain ⟨r, h1, h2⟩ := Option.bind_eq_some_iff.mp hh1
    exact ⟨_, _, h2, ⟨_, _, _, _, _, _, rfl, rfl, (hs _ (jkf_in (l := jc_M) (idx := 0) rfl)).1, rfl⟩, jmet_Model_byteAt F  sh hs σ v1 r.1 r.2 h1⟩
  · cases h
def jtb_Model_next_I : List (Nat × Instr) := [(0, .aload_n 0), (1, .aload_n 0), (2, .getfield 150), (5, .invokevirtual 153), (8, .bipush 32), (10, .if_icmp .ne 16), (13, .aload_n 0), (14, .dup), (15, .getfield 150), (18, .iconst 1), (19, .iadd), (20, .putfield 150), (23, .goto (-23)), (26, .aload_n 0), (27, .aload_n 0), (28, .getfield 150), (31, .invokevirtual 153), (34, .ireturn)]
theorem jtk_Model_next_I : jtok cX12_next jtb_Model_next_I = true := by decide +kernel
set_option maxRecDepth 100000 in
theorem jfl_X12_150 : jFl RX12 150 12 2 := ⟨RX12, TX12, 57, tyX12, rfl, by decide, jin_X12, tyX12_ok, nmX12, jow_X12, (Or.inl (jTB_at 1343 rfl rfl))⟩
set_option maxRecDepth 100000 in
theorem jlk_X12_153 : jLkV RX12 153 yX12_byteAt cX12_byteAt 2 1 1 := ⟨(jTB_at 1545 rfl rfl), (jTB_at 1547 rfl rfl), (jTB_at 53 rfl rfl), (jTB_at 115 rfl rfl), jTB_at 1548 rfl rfl, ⟨by decide, by decide, by decide +kernel⟩⟩
def jE_Model_next_I (F : Nat) : jxE := jmk [(150, 12, 2)] [] [] [(153, (2, false), jca_Model_byteAt F)] 1 jc_M
set_option maxRecDepth 100000 in
set_option maxHeartbeats 4000000 in
theorem jmet_Model_next_I (F : Nat) (sh : List jxC) (hs : jHas sh jc_M) (σ0 : jxS) (x : Int) (σ' : jxS) (h : Model_next_I F σ0 = some (x, σ')) : jMC yX12_next cX12_next 1 (jrt 1) 1 21 sh σ0 [(jmr 0)] (jrv 1 x) σ' := by
  refine jMC_of (kd := 1) (by decide) rfl h ?_
  intro X hX
  have hG : jGd X (jE_Model_next_I F) jtb_Model_next_I := jGd_of hX jtk_Model_next_I (jcon jfl_X12_150 jnil) jnil jnil (jcon (jsV jlk_X12_153 ⟨rfl, rfl⟩ (jad_Model_byteAt F sh hs)) jnil) hs
  have rr0 : ∀ (fu : Nat) (σ : jxS), jRf X (Model_next_I_c0 F fu  σ) 0 [some (jmr 0)] [] σ := by
    intro  fu
    induction fu with
    | zero => intros; exact jRf_none
    | succ fu ih =>
      intro  σ
      exact jRf_by (jex_ok hG (cs := [(0, [some (.inr (some 0))], [], fun xs σ => match xs with
      | [] => (Model_next_I_c0 F fu)  σ
      | _ => none)]) (jcon (jl0 (jl0 (fun σ => ih  σ))) jnil) 21 0 [some (jmr 0)] [] σ) rfl
  exact jRf_by (jkk_ok (cs := [(0, [some (.inr (some 0))], [], fun xs σ => match xs with
      | [] => Model_next_I_c0 F F  σ
      | _ => none)]) (jcon (jl0 (jl0 (fun σ => rr0 F  σ))) jnil) (pc := 0) (loc := [some (jmr 0)]) (st := []) (σ := σ0)) rfl
theorem jad_Model_next_I (F : Nat) (sh : List jxC) (hs : jHas sh jc_M) : jAdV (jca_Model_next_I F) yX12_next cX12_next 1 1 1 21 0 sh := by
  intro as σ k x σ' h
  unfold jca_Model_next_I at h
  split at h
  · rename_i t0
    obtain ⟨g0, hh1⟩ := jcond h
    obtain rfl := jbeq g0
    obtain ⟨r, h1, h2⟩ := Option.bind_eq_some_iff.mp hh1
    exact ⟨_, _, h2, ⟨_, _, _, _, _, _, rfl, rfl, (hs _ (jkf_in (l := jc_M) (idx := 0) rfl)).1, rfl⟩, jmet_Model_next_I F  sh hs σ  r.1 r.2 h1⟩
  · cases h
def jtb_Model_isLetter : List (Nat × Instr) := [(0, .iload_n 0), (1, .bipush 97), (3, .if_icmp .lt 13), (6, .iload_n 0), (7, .bipush 122), (9, .if_icmp .gt 7), (12, .iconst 1), (13, .goto 4), (16, .iconst 0), (17, .ireturn)]
theorem jtk_Model_isLetter : jtok cX12_isLetter jtb_Model_isLetter = true := by decide +kernel
def jE_Model_isLetter (F : Nat) : jxE := jmk [] [] [] [] 4 jc_M
set_option maxRecDepth 100000 in
set_option maxHeartbeats 4000000 in
theorem jmet_Model_isLetter (F : Nat) (sh : List jxC) (hs : jHas sh jc_M) (σ0 : jxS) (v0 : Int) (x : Int) (σ' : jxS) (h : Model_isLetter F σ0 v0 = some (x, σ')) : jMC yX12_isLetter cX12_isLetter 1 (jrt 4) 0 0 sh σ0 [(jmi v0)] (jrv 4 x) σ' := by
  refine jMC_of (kd := 4) (by decide) rfl h ?_
  intro X hX
  have hG : jGd X (jE_Model_isLetter F) jtb_Model_isLetter := jGd_of hX jtk_Model_isLetter jnil jnil jnil jnil hs
  exact jRf_by (jex_ok hG (cs := []) jnil 13 0 [some (jmi v0)] [] σ0) rfl
theorem jad_Model_isLetter (F : Nat) (sh : List jxC) (hs : jHas sh jc_M) : jAdS (jca_Model_isLetter F) yX12_isLetter cX12_isLetter 1 4 0 0 1 sh := by
  intro as σ k x σ' h
  unfold jca_Model_isLetter at h
  split at h
  · rename_i v0
    obtain ⟨r, h1, h2⟩ := Option.bind_eq_some_iff.mp h
    exact ⟨_, _, h2, rfl, jmet_Model_isLetter F  sh hs σ v0 r.1 r.2 h1⟩
  · cases h
def jtb_Model_wordHere : List (Nat × Instr) := [(0, .aload_n 0), (1, .invokevirtual 157), (4, .pop), (5, .iconst 0), (6, .istore_n 1), (7, .iload_n 1), (8, .iconst 4), (9, .if_icmp .ge 87), (12, .iconst 0), (13, .istore_n 2), (14, .aload_n 0), (15, .getfield 13), (18, .bipush 6), (20, .iload_n 1), (21, .imul), (22, .iload_n 2), (23, .iadd), (24, .baload), (25, .ifCond .eq 33), (28, .aload_n 0), (29, .aload_n 0), (30, .getfield 150), (33, .iload_n 2), (34, .iadd), (35, .invokevirtual 153), (38, .aload_n 0), (39, .getfield 13), (42, .bipush 6), (44, .iload_n 1), (45, .imul), (46, .iload_n 2), (47, .iadd), (48, .baload), (49, .if_icmp .ne 9), (52, .iinc 2 1), (55, .goto (-41)), (58, .aload_n 0), (59, .getfield 13), (62, .bipush 6), (64, .iload_n 1), (65, .imul), (66, .iload_n 2), (67, .iadd), (68, .baload), (69, .ifCond .ne 21), (72, .aload_n 0), (73, .aload_n 0), (74, .getfield 150), (77, .iload_n 2), (78, .iadd), (79, .invokevirtual 153), (82, .invokestatic 161), (85, .ifCond .ne 5), (88, .iload_n 1), (89, .ireturn), (90, .iinc 1 1), (93, .goto (-86)), (96, .iconst (-1)), (97, .ireturn)]
theorem jtk_Model_wordHere : jtok cX12_wordHere jtb_Model_wordHere = true := by decide +kernel
set_option maxRecDepth 100000 in
theorem jfl_X12_13 : jFl RX12 13 12 5 := ⟨RX12, TX12, 57, tyX12, rfl, by decide, jin_X12, tyX12_ok, nmX12, jow_X12, (Or.inl (jTB_at 1346 rfl rfl))⟩
set_option maxRecDepth 100000 in
theorem jlk_X12_157 : jLkV RX12 157 yX12_next cX12_next 1 1 0 := ⟨(jTB_at 1541 rfl rfl), (jTB_at 1543 rfl rfl), (jTB_at 52 rfl rfl), (jTB_at 115 rfl rfl), jTB_at 1544 rfl rfl, ⟨by decide, by decide, by decide +kernel⟩⟩
set_option maxRecDepth 100000 in
theorem jlk_X12_161 : jLkS RX12 161 yX12_isLetter cX12_isLetter 1 4 1 := ⟨Or.inl (jTB_at 1549 rfl rfl), (jTB_at 1550 rfl rfl), (jTB_at 115 rfl rfl), jTB_at 1551 rfl rfl, ⟨by decide, by decide, by decide +kernel⟩⟩
def jE_Model_wordHere (F : Nat) : jxE := jmk [(13, 12, 5), (150, 12, 2)] [] [] [(153, (2, false), jca_Model_byteAt F), (157, (1, false), jca_Model_next_I F), (161, (1, true), jca_Model_isLetter F)] 1 jc_M
set_option maxRecDepth 100000 in
set_option maxHeartbeats 4000000 in
theorem jmet_Model_wordHere (F : Nat) (sh : List jxC) (hs : jHas sh jc_M) (σ0 : jxS) (x : Int) (σ' : jxS) (h : Model_wordHere F σ0 = some (x, σ')) : jMC yX12_wordHere cX12_wordHere 3 (jrt 1) 2 41 sh σ0 [(jmr 0)] (jrv 1 x) σ' := by
  refine jMC_of (kd := 1) (by decide) rfl h ?_
  intro X hX
  have hG : jGd X (jE_Model_wordHere F) jtb_Model_wordHere := jGd_of hX jtk_Model_wordHere (jcon jfl_X12_13 (jcon jfl_X12_150 jnil)) jnil jnil (jcon (jsV jlk_X12_153 ⟨rfl, rfl⟩ (jad_Model_byteAt F sh hs)) (jcon (jsV jlk_X12_157 ⟨rfl, rfl⟩ (jad_Model_next_I F sh hs)) (jcon (jsS jlk_X12_161 ⟨rfl, rfl⟩ (jad_Model_isLetter F sh hs)) jnil))) hs
  have rr58 : ∀ (k7 : Int → jxS → Option jxR) (h7 : ∀ v1 σ, jRf X (k7 v1 σ) 7 [some (jmr 0), some (jmi v1), none] [] σ) (v1 v2 : Int) (σ : jxS), jRf X (Model_wordHere_c58 F k7 v1 v2 σ) 58 [some (jmr 0), some (jmi v1), some (jmi v2)] [] σ := by
    intro k7 h7 v1 v2 σ
    exact jRf_by (jex_ok hG (cs := [(7, [some (.inr (some 0)), some (.inl 0), none], [], fun xs σ => match xs with
      | [v1] => k7 v1 σ
      | _ => none)]) (jcon (jl1 (fun y0 => jl0 (fun σ => h7 y0 σ))) jnil) 62 58 [some (jmr 0), some (jmi v1), some (jmi v2)] [] σ) rfl
  have rr14 : ∀ (k7 : Int → jxS → Option jxR) (h7 : ∀ v1 σ, jRf X (k7 v1 σ) 7 [some (jmr 0), some (jmi v1), none] [] σ) (fu : Nat) (v1 v2 : Int) (σ : jxS), jRf X (Model_wordHere_c14 F k7 fu v1 v2 σ) 14 [some (jmr 0), some (jmi v1), some (jmi v2)] [] σ := by
    intro k7 h7 fu
    induction fu with
    | zero => intros; exact jRf_none
    | succ fu ih =>
      intro v1 v2 σ
      exact jRf_by (jex_ok hG (cs := [(14, [some (.inr (some 0)), some (.inl 0), some (.inl 0)], [], fun xs σ => match xs with
      | [v1, v2] => (Model_wordHere_c14 F k7 fu) v1 v2 σ
      | _ => none), (58, [some (.inr (some 0)), some (.inl 0), some (.inl 0)], [], fun xs σ => match xs with
      | [v1, v2] => Model_wordHere_c58 F k7 v1 v2 σ
      | _ => none)]) (jcon (jl2 (fun y0 y1 => jl0 (fun σ => ih y0 y1 σ))) (jcon (jl2 (fun y0 y1 => jl0 (fun σ => rr58 _ h7 y0 y1 σ))) jnil)) 62 14 [some (jmr 0), some (jmi v1), some (jmi v2)] [] σ) rfl
  have rr7 : ∀ (fu : Nat) (v1 : Int) (σ : jxS), jRf X (Model_wordHere_c7 F fu v1 σ) 7 [some (jmr 0), some (jmi v1), none] [] σ := by
    intro  fu
    induction fu with
    | zero => intros; exact jRf_none
    | succ fu ih =>
      intro v1 σ
      exact jRf_by (jex_ok hG (cs := [(14, [some (.inr (some 0)), some (.inl 0), some (.inl 0)], [], fun xs σ => match xs with
      | [v1, v2] => Model_wordHere_c14 F (Model_wordHere_c7 F fu) F v1 v2 σ
      | _ => none)]) (jcon (jl2 (fun y0 y1 => jl0 (fun σ => rr14 _ ih F y0 y1 σ))) jnil) 62 7 [some (jmr 0), some (jmi v1), none] [] σ) rfl
  exact jRf_by (jex_ok hG (cs := [(7, [some (.inr (some 0)), some (.inl 0), none], [], fun xs σ => match xs with
      | [v1] => Model_wordHere_c7 F F v1 σ
      | _ => none)]) (jcon (jl1 (fun y0 => jl0 (fun σ => rr7 F y0 σ))) jnil) 62 0 [some (jmr 0), none, none] [] σ0) rfl
theorem jad_Model_wordHere (F : Nat) (sh : List jxC) (hs : jHas sh jc_M) : jAdV (jca_Model_wordHere F) yX12_wordHere cX12_wordHere 3 1 2 41 0 sh := by
  intro as σ k x σ' h
  unfold jca_Model_wordHere at h
  split at h
  · rename_i t0
    obtain ⟨g0, hh1⟩ := jcond h
    obtain rfl := jbeq g0
    obtain ⟨r, h1, h2⟩ := Option.bind_eq_some_iff.mp hh1
    exact ⟨_, _, h2, ⟨_, _, _, _, _, _, rfl, rfl, (hs _ (jkf_in (l := jc_M) (idx := 0) rfl)).1, rfl⟩, jmet_Model_wordHere F  sh hs σ  r.1 r.2 h1⟩
  · cases h
def jtb_Model_fails : List (Nat × Instr) := [(0, .aload_n 0), (1, .bipush 8), (3, .iload_n 2), (4, .imul), (5, .iload_n 1), (6, .iadd), (7, .putfield 147), (10, .iconst 0), (11, .ireturn)]
theorem jtk_Model_fails : jtok cX12_fails jtb_Model_fails = true := by decide +kernel
set_option maxRecDepth 100000 in
theorem jfl_X12_147 : jFl RX12 147 12 3 := ⟨RX12, TX12, 57, tyX12, rfl, by decide, jin_X12, tyX12_ok, nmX12, jow_X12, (Or.inl (jTB_at 1344 rfl rfl))⟩
def jE_Model_fails (F : Nat) : jxE := jmk [(147, 12, 3)] [] [] [] 4 jc_M
set_option maxRecDepth 100000 in
set_option maxHeartbeats 4000000 in
theorem jmet_Model_fails (F : Nat) (sh : List jxC) (hs : jHas sh jc_M) (σ0 : jxS) (v1 : Int) (v2 : Int) (x : Int) (σ' : jxS) (h : Model_fails F σ0 v1 v2 = some (x, σ')) : jMC yX12_fails cX12_fails 3 (jrt 4) 0 0 sh σ0 [(jmr 0), (jmi v1), (jmi v2)] (jrv 4 x) σ' := by
  refine jMC_of (kd := 4) (by decide) rfl h ?_
  intro X hX
  have hG : jGd X (jE_Model_fails F) jtb_Model_fails := jGd_of hX jtk_Model_fails (jcon jfl_X12_147 jnil) jnil jnil jnil hs
  exact jRf_by (jex_ok hG (cs := []) jnil 12 0 [some (jmr 0), some (jmi v1), some (jmi v2)] [] σ0) rfl
theorem jad_Model_fails (F : Nat) (sh : List jxC) (hs : jHas sh jc_M) : jAdV (jca_Model_fails F) yX12_fails cX12_fails 3 4 0 0 2 sh := by
  intro as σ k x σ' h
  unfold jca_Model_fails at h
  split at h
  · rename_i t0 v1 v2
    obtain ⟨g0, hh1⟩ := jcond h
    obtain rfl := jbeq g0
    obtain ⟨r, h1, h2⟩ := Option.bind_eq_some_iff.mp hh1
    exact ⟨_, _, h2, ⟨_, _, _, _, _, _, rfl, rfl, (hs _ (jkf_in (l := jc_M) (idx := 0) rfl)).1, rfl⟩, jmet_Model_fails F  sh hs σ v1 v2 r.1 r.2 h1⟩
  · cases h
def jtb_Model_passWord : List (Nat × Instr) := [(0, .aload_n 0), (1, .aload_n 0), (2, .getfield 150), (5, .invokevirtual 153), (8, .invokestatic 161), (11, .ifCond .eq 16), (14, .aload_n 0), (15, .dup), (16, .getfield 150), (19, .iconst 1), (20, .iadd), (21, .putfield 150), (24, .goto (-24)), (27, .return_)]
theorem jtk_Model_passWord : jtok cX12_passWord jtb_Model_passWord = true := by decide +kernel
def jE_Model_passWord (F : Nat) : jxE := jmk [(150, 12, 2)] [] [] [(153, (2, false), jca_Model_byteAt F), (161, (1, true), jca_Model_isLetter F)] 0 jc_M
set_option maxRecDepth 100000 in
set_option maxHeartbeats 4000000 in
theorem jmet_Model_passWord (F : Nat) (sh : List jxC) (hs : jHas sh jc_M) (σ0 : jxS) (x : Int) (σ' : jxS) (h : Model_passWord F σ0 = some (x, σ')) : jMC yX12_passWord cX12_passWord 1 (jrt 0) 1 21 sh σ0 [(jmr 0)] (jrv 0 x) σ' := by
  refine jMC_of (kd := 0) (by decide) rfl h ?_
  intro X hX
  have hG : jGd X (jE_Model_passWord F) jtb_Model_passWord := jGd_of hX jtk_Model_passWord (jcon jfl_X12_150 jnil) jnil jnil (jcon (jsV jlk_X12_153 ⟨rfl, rfl⟩ (jad_Model_byteAt F sh hs)) (jcon (jsS jlk_X12_161 ⟨rfl, rfl⟩ (jad_Model_isLetter F sh hs)) jnil)) hs
  have rr0 : ∀ (fu : Nat) (σ : jxS), jRf X (Model_passWord_c0 F fu  σ) 0 [some (jmr 0)] [] σ := by
    intro  fu
    induction fu with
    | zero => intros; exact jRf_none
    | succ fu ih =>
      intro  σ
      exact jRf_by (jex_ok hG (cs := [(0, [some (.inr (some 0))], [], fun xs σ => match xs with
      | [] => (Model_passWord_c0 F fu)  σ
      | _ => none)]) (jcon (jl0 (jl0 (fun σ => ih  σ))) jnil) 17 0 [some (jmr 0)] [] σ) rfl
  exact jRf_by (jkk_ok (cs := [(0, [some (.inr (some 0))], [], fun xs σ => match xs with
      | [] => Model_passWord_c0 F F  σ
      | _ => none)]) (jcon (jl0 (jl0 (fun σ => rr0 F  σ))) jnil) (pc := 0) (loc := [some (jmr 0)]) (st := []) (σ := σ0)) rfl
theorem jad_Model_passWord (F : Nat) (sh : List jxC) (hs : jHas sh jc_M) : jAdV (jca_Model_passWord F) yX12_passWord cX12_passWord 1 0 1 21 0 sh := by
  intro as σ k x σ' h
  unfold jca_Model_passWord at h
  split at h
  · rename_i t0
    obtain ⟨g0, hh1⟩ := jcond h
    obtain rfl := jbeq g0
    obtain ⟨r, h1, h2⟩ := Option.bind_eq_some_iff.mp hh1
    exact ⟨_, _, h2, ⟨_, _, _, _, _, _, rfl, rfl, (hs _ (jkf_in (l := jc_M) (idx := 0) rfl)).1, rfl⟩, jmet_Model_passWord F  sh hs σ  r.1 r.2 h1⟩
  · cases h
def jtb_Model_takesSign : List (Nat × Instr) := [(0, .aload_n 0), (1, .invokevirtual 157), (4, .iload_n 1), (5, .if_icmp .eq 5), (8, .iconst 0), (9, .ireturn), (10, .aload_n 0), (11, .dup), (12, .getfield 150), (15, .iconst 1), (16, .iadd), (17, .putfield 150), (20, .iconst 1), (21, .ireturn)]
theorem jtk_Model_takesSign : jtok cX12_takesSign jtb_Model_takesSign = true := by decide +kernel
def jE_Model_takesSign (F : Nat) : jxE := jmk [(150, 12, 2)] [] [] [(157, (1, false), jca_Model_next_I F)] 4 jc_M
set_option maxRecDepth 100000 in
set_option maxHeartbeats 4000000 in
theorem jmet_Model_takesSign (F : Nat) (sh : List jxC) (hs : jHas sh jc_M) (σ0 : jxS) (v1 : Int) (x : Int) (σ' : jxS) (h : Model_takesSign F σ0 v1 = some (x, σ')) : jMC yX12_takesSign cX12_takesSign 2 (jrt 4) 2 41 sh σ0 [(jmr 0), (jmi v1)] (jrv 4 x) σ' := by
  refine jMC_of (kd := 4) (by decide) rfl h ?_
  intro X hX
  have hG : jGd X (jE_Model_takesSign F) jtb_Model_takesSign := jGd_of hX jtk_Model_takesSign (jcon jfl_X12_150 jnil) jnil jnil (jcon (jsV jlk_X12_157 ⟨rfl, rfl⟩ (jad_Model_next_I F sh hs)) jnil) hs
  exact jRf_by (jex_ok hG (cs := []) jnil 17 0 [some (jmr 0), some (jmi v1)] [] σ0) rfl
theorem jad_Model_takesSign (F : Nat) (sh : List jxC) (hs : jHas sh jc_M) : jAdV (jca_Model_takesSign F) yX12_takesSign cX12_takesSign 2 4 2 41 1 sh := by
  intro as σ k x σ' h
  unfold jca_Model_takesSign at h
  split at h
  · rename_i t0 v1
    obtain ⟨g0, hh1⟩ := jcond h
    obtain rfl := jbeq g0
    obtain ⟨r, h1, h2⟩ := Option.bind_eq_some_iff.mp hh1
    exact ⟨_, _, h2, ⟨_, _, _, _, _, _, rfl, rfl, (hs _ (jkf_in (l := jc_M) (idx := 0) rfl)).1, rfl⟩, jmet_Model_takesSign F  sh hs σ v1 r.1 r.2 h1⟩
  · cases h
def jtb_Model_isDigit : List (Nat × Instr) := [(0, .iload_n 0), (1, .bipush 48), (3, .if_icmp .lt 13), (6, .iload_n 0), (7, .bipush 57), (9, .if_icmp .gt 7), (12, .iconst 1), (13, .goto 4), (16, .iconst 0), (17, .ireturn)]
theorem jtk_Model_isDigit : jtok cX12_isDigit jtb_Model_isDigit = true := by decide +kernel
def jE_Model_isDigit (F : Nat) : jxE := jmk [] [] [] [] 4 jc_M
set_option maxRecDepth 100000 in
set_option maxHeartbeats 4000000 in
theorem jmet_Model_isDigit (F : Nat) (sh : List jxC) (hs : jHas sh jc_M) (σ0 : jxS) (v0 : Int) (x : Int) (σ' : jxS) (h : Model_isDigit F σ0 v0 = some (x, σ')) : jMC yX12_isDigit cX12_isDigit 1 (jrt 4) 0 0 sh σ0 [(jmi v0)] (jrv 4 x) σ' := by
  refine jMC_of (kd := 4) (by decide) rfl h ?_
  intro X hX
  have hG : jGd X (jE_Model_isDigit F) jtb_Model_isDigit := jGd_of hX jtk_Model_isDigit jnil jnil jnil jnil hs
  exact jRf_by (jex_ok hG (cs := []) jnil 13 0 [some (jmi v0)] [] σ0) rfl
theorem jad_Model_isDigit (F : Nat) (sh : List jxC) (hs : jHas sh jc_M) : jAdS (jca_Model_isDigit F) yX12_isDigit cX12_isDigit 1 4 0 0 1 sh := by
  intro as σ k x σ' h
  unfold jca_Model_isDigit at h
  split at h
  · rename_i v0
    obtain ⟨r, h1, h2⟩ := Option.bind_eq_some_iff.mp h
    exact ⟨_, _, h2, rfl, jmet_Model_isDigit F  sh hs σ v0 r.1 r.2 h1⟩
  · cases h
def jtb_Model_readsOctal : List (Nat × Instr) := [(0, .aload_n 0), (1, .bipush 46), (3, .invokevirtual 175), (6, .ifCond .ne 13), (9, .aload_n 0), (10, .iconst 1), (11, .aload_n 0), (12, .getfield 150), (15, .invokevirtual 168), (18, .ireturn), (19, .aload_n 0), (20, .invokevirtual 157), (23, .invokestatic 165), (26, .ifCond .ne 13), (29, .aload_n 0), (30, .iconst 1), (31, .aload_n 0), (32, .getfield 150), (35, .invokevirtual 168), (38, .ireturn), (39, .aload_n 0), (40, .aload_n 0), (41, .getfield 150), (44, .invokevirtual 153), (47, .invokestatic 165), (50, .ifCond .eq 78), (53, .aload_n 0), (54, .aload_n 0), (55, .getfield 150), (58, .invokevirtual 153), (61, .bipush 55), (63, .if_icmp .gt 12), (66, .aload_n 0), (67, .getfield 178), (70, .bipush 8), (72, .if_icmp .ne 13), (75, .aload_n 0), (76, .iconst 3), (77, .aload_n 0), (78, .getfield 150), (81, .invokevirtual 168), (84, .ireturn), (85, .aload_n 0), (86, .getfield 16), (89, .aload_n 0), (90, .getfield 178), (93, .aload_n 0), (94, .aload_n 0), (95, .getfield 150), (98, .invokevirtual 153), (101, .bipush 48), (103, .isub), (104, .iastore), (105, .aload_n 0), (106, .dup), (107, .getfield 178), (110, .iconst 1), (111, .iadd), (112, .putfield 178), (115, .aload_n 0), (116, .dup), (117, .getfield 150), (120, .iconst 1), (121, .iadd), (122, .putfield 150), (125, .goto (-86)), (128, .iconst 1), (129, .ireturn)]
theorem jtk_Model_readsOctal : jtok cX12_readsOctal jtb_Model_readsOctal = true := by decide +kernel
set_option maxRecDepth 100000 in
theorem jfl_X12_16 : jFl RX12 16 12 8 := ⟨RX12, TX12, 57, tyX12, rfl, by decide, jin_X12, tyX12_ok, nmX12, jow_X12, (Or.inl (jTB_at 1349 rfl rfl))⟩
set_option maxRecDepth 100000 in
theorem jfl_X12_178 : jFl RX12 178 12 6 := ⟨RX12, TX12, 57, tyX12, rfl, by decide, jin_X12, tyX12_ok, nmX12, jow_X12, (Or.inl (jTB_at 1347 rfl rfl))⟩
set_option maxRecDepth 100000 in
theorem jlk_X12_165 : jLkS RX12 165 yX12_isDigit cX12_isDigit 1 4 1 := ⟨Or.inl (jTB_at 1568 rfl rfl), (jTB_at 1569 rfl rfl), (jTB_at 115 rfl rfl), jTB_at 1570 rfl rfl, ⟨by decide, by decide, by decide +kernel⟩⟩
set_option maxRecDepth 100000 in
theorem jlk_X12_168 : jLkV RX12 168 yX12_fails cX12_fails 3 4 2 := ⟨(jTB_at 1552 rfl rfl), (jTB_at 1554 rfl rfl), (jTB_at 54 rfl rfl), (jTB_at 115 rfl rfl), jTB_at 1555 rfl rfl, ⟨by decide, by decide, by decide +kernel⟩⟩
set_option maxRecDepth 100000 in
theorem jlk_X12_175 : jLkV RX12 175 yX12_takesSign cX12_takesSign 2 4 1 := ⟨(jTB_at 1564 rfl rfl), (jTB_at 1566 rfl rfl), (jTB_at 57 rfl rfl), (jTB_at 115 rfl rfl), jTB_at 1567 rfl rfl, ⟨by decide, by decide, by decide +kernel⟩⟩
def jE_Model_readsOctal (F : Nat) : jxE := jmk [(16, 12, 8), (150, 12, 2), (178, 12, 6)] [] [] [(153, (2, false), jca_Model_byteAt F), (157, (1, false), jca_Model_next_I F), (165, (1, true), jca_Model_isDigit F), (168, (3, false), jca_Model_fails F), (175, (2, false), jca_Model_takesSign F)] 4 jc_M
set_option maxRecDepth 100000 in
set_option maxHeartbeats 4000000 in
theorem jmet_Model_readsOctal (F : Nat) (sh : List jxC) (hs : jHas sh jc_M) (σ0 : jxS) (x : Int) (σ' : jxS) (h : Model_readsOctal F σ0 = some (x, σ')) : jMC yX12_readsOctal cX12_readsOctal 1 (jrt 4) 3 62 sh σ0 [(jmr 0)] (jrv 4 x) σ' := by
  refine jMC_of (kd := 4) (by decide) rfl h ?_
  intro X hX
  have hG : jGd X (jE_Model_readsOctal F) jtb_Model_readsOctal := jGd_of hX jtk_Model_readsOctal (jcon jfl_X12_16 (jcon jfl_X12_150 (jcon jfl_X12_178 jnil))) jnil jnil (jcon (jsV jlk_X12_153 ⟨rfl, rfl⟩ (jad_Model_byteAt F sh hs)) (jcon (jsV jlk_X12_157 ⟨rfl, rfl⟩ (jad_Model_next_I F sh hs)) (jcon (jsS jlk_X12_165 ⟨rfl, rfl⟩ (jad_Model_isDigit F sh hs)) (jcon (jsV jlk_X12_168 ⟨rfl, rfl⟩ (jad_Model_fails F sh hs)) (jcon (jsV jlk_X12_175 ⟨rfl, rfl⟩ (jad_Model_takesSign F sh hs)) jnil))))) hs
  have rr75 : ∀ (σ : jxS), jRf X (Model_readsOctal_c75 F  σ) 75 [some (jmr 0)] [] σ := by
    intro   σ
    exact jRf_by (jex_ok hG (cs := []) jnil 71 75 [some (jmr 0)] [] σ) rfl
  have rr39 : ∀ (fu : Nat) (σ : jxS), jRf X (Model_readsOctal_c39 F fu  σ) 39 [some (jmr 0)] [] σ := by
    intro  fu
    induction fu with
    | zero => intros; exact jRf_none
    | succ fu ih =>
      intro  σ
      exact jRf_by (jex_ok hG (cs := [(39, [some (.inr (some 0))], [], fun xs σ => match xs with
      | [] => (Model_readsOctal_c39 F fu)  σ
      | _ => none), (75, [some (.inr (some 0))], [], fun xs σ => match xs with
      | [] => Model_readsOctal_c75 F  σ
      | _ => none)]) (jcon (jl0 (jl0 (fun σ => ih  σ))) (jcon (jl0 (jl0 (fun σ => rr75  σ))) jnil)) 71 39 [some (jmr 0)] [] σ) rfl
  exact jRf_by (jex_ok hG (cs := [(39, [some (.inr (some 0))], [], fun xs σ => match xs with
      | [] => Model_readsOctal_c39 F F  σ
      | _ => none)]) (jcon (jl0 (jl0 (fun σ => rr39 F  σ))) jnil) 71 0 [some (jmr 0)] [] σ0) rfl
theorem jad_Model_readsOctal (F : Nat) (sh : List jxC) (hs : jHas sh jc_M) : jAdV (jca_Model_readsOctal F) yX12_readsOctal cX12_readsOctal 1 4 3 62 0 sh := by
  intro as σ k x σ' h
  unfold jca_Model_readsOctal at h
  split at h
  · rename_i t0
    obtain ⟨g0, hh1⟩ := jcond h
    obtain rfl := jbeq g0
    obtain ⟨r, h1, h2⟩ := Option.bind_eq_some_iff.mp hh1
    exact ⟨_, _, h2, ⟨_, _, _, _, _, _, rfl, rfl, (hs _ (jkf_in (l := jc_M) (idx := 0) rfl)).1, rfl⟩, jmet_Model_readsOctal F  sh hs σ  r.1 r.2 h1⟩
  · cases h
def jtb_Model_reads : List (Nat × Instr) := [(0, .aload_n 0), (1, .invokevirtual 157), (4, .invokestatic 165), (7, .ifCond .ne 13), (10, .aload_n 0), (11, .iconst 1), (12, .aload_n 0), (13, .getfield 150), (16, .invokevirtual 168), (19, .ireturn), (20, .aload_n 0), (21, .getfield 150), (24, .istore_n 3), (25, .aload_n 0), (26, .iconst 0), (27, .putfield 172), (30, .aload_n 0), (31, .aload_n 0), (32, .getfield 150), (35, .invokevirtual 153), (38, .invokestatic 165), (41, .ifCond .eq 49), (44, .aload_n 0), (45, .getfield 150), (48, .iload_n 3), (49, .isub), (50, .iconst 3), (51, .if_icmp .ge 26), (54, .aload_n 0), (55, .bipush 10), (57, .aload_n 0), (58, .getfield 172), (61, .imul), (62, .aload_n 0), (63, .aload_n 0), (64, .getfield 150), (67, .invokevirtual 153), (70, .iadd), (71, .bipush 48), (73, .isub), (74, .putfield 172), (77, .aload_n 0), (78, .dup), (79, .getfield 150), (82, .iconst 1), (83, .iadd), (84, .putfield 150), (87, .goto (-57)), (90, .aload_n 0), (91, .getfield 150), (94, .iload_n 3), (95, .isub), (96, .iconst 3), (97, .if_icmp .gt 18), (100, .aload_n 0), (101, .getfield 172), (104, .i2l), (105, .iload_n 1), (106, .i2l), (107, .iload_n 2), (108, .i2l), (109, .invokestatic 143), (112, .ifCond .ne 12), (115, .aload_n 0), (116, .iconst 2), (117, .iload_n 3), (118, .invokevirtual 168), (121, .ifCond .eq 7), (124, .iconst 1), (125, .goto 4), (128, .iconst 0), (129, .ireturn)]
theorem jtk_Model_reads : jtok cX12_reads jtb_Model_reads = true := by decide +kernel
set_option maxRecDepth 100000 in
theorem jfl_X12_172 : jFl RX12 172 12 4 := ⟨RX12, TX12, 57, tyX12, rfl, by decide, jin_X12, tyX12_ok, nmX12, jow_X12, (Or.inl (jTB_at 1345 rfl rfl))⟩
def jE_Model_reads (F : Nat) : jxE := jmk [(150, 12, 2), (172, 12, 4)] [] [] [(143, (3, true), jca_Model_isIn F), (153, (2, false), jca_Model_byteAt F), (157, (1, false), jca_Model_next_I F), (165, (1, true), jca_Model_isDigit F), (168, (3, false), jca_Model_fails F)] 4 jc_M
set_option maxRecDepth 100000 in
set_option maxHeartbeats 4000000 in
theorem jmet_Model_reads (F : Nat) (sh : List jxC) (hs : jHas sh jc_M) (σ0 : jxS) (v1 : Int) (v2 : Int) (x : Int) (σ' : jxS) (h : Model_reads F σ0 v1 v2 = some (x, σ')) : jMC yX12_reads cX12_reads 4 (jrt 4) 2 41 sh σ0 [(jmr 0), (jmi v1), (jmi v2)] (jrv 4 x) σ' := by
  refine jMC_of (kd := 4) (by decide) rfl h ?_
  intro X hX
  have hG : jGd X (jE_Model_reads F) jtb_Model_reads := jGd_of hX jtk_Model_reads (jcon jfl_X12_150 (jcon jfl_X12_172 jnil)) jnil jnil (jcon (jsS jlk_X12_143 ⟨rfl, rfl⟩ (jad_Model_isIn F sh hs)) (jcon (jsV jlk_X12_153 ⟨rfl, rfl⟩ (jad_Model_byteAt F sh hs)) (jcon (jsV jlk_X12_157 ⟨rfl, rfl⟩ (jad_Model_next_I F sh hs)) (jcon (jsS jlk_X12_165 ⟨rfl, rfl⟩ (jad_Model_isDigit F sh hs)) (jcon (jsV jlk_X12_168 ⟨rfl, rfl⟩ (jad_Model_fails F sh hs)) jnil))))) hs
  have rr115 : ∀ (v3 : Int) (σ : jxS), jRf X (Model_reads_c115 F v3 σ) 115 [some (jmr 0), none, none, some (jmi v3)] [] σ := by
    intro  v3 σ
    exact jRf_by (jex_ok hG (cs := []) jnil 75 115 [some (jmr 0), none, none, some (jmi v3)] [] σ) rfl
  have rr77 : ∀ (k30 : Int → Int → Int → jxS → Option jxR) (h30 : ∀ v1 v2 v3 σ, jRf X (k30 v1 v2 v3 σ) 30 [some (jmr 0), some (jmi v1), some (jmi v2), some (jmi v3)] [] σ) (v1 v2 v3 : Int) (σ : jxS), jRf X (Model_reads_c77 F k30 v1 v2 v3 σ) 77 [some (jmr 0), some (jmi v1), some (jmi v2), some (jmi v3)] [] σ := by
    intro k30 h30 v1 v2 v3 σ
    exact jRf_by (jex_ok hG (cs := [(30, [some (.inr (some 0)), some (.inl 0), some (.inl 0), some (.inl 0)], [], fun xs σ => match xs with
      | [v1, v2, v3] => k30 v1 v2 v3 σ
      | _ => none)]) (jcon (jl3 (fun y0 y1 y2 => jl0 (fun σ => h30 y0 y1 y2 σ))) jnil) 75 77 [some (jmr 0), some (jmi v1), some (jmi v2), some (jmi v3)] [] σ) rfl
  have rr30 : ∀ (fu : Nat) (v1 v2 v3 : Int) (σ : jxS), jRf X (Model_reads_c30 F fu v1 v2 v3 σ) 30 [some (jmr 0), some (jmi v1), some (jmi v2), some (jmi v3)] [] σ := by
    intro  fu
    induction fu with
    | zero => intros; exact jRf_none
    | succ fu ih =>
      intro v1 v2 v3 σ
      exact jRf_by (jex_ok hG (cs := [(77, [some (.inr (some 0)), some (.inl 0), some (.inl 0), some (.inl 0)], [], fun xs σ => match xs with
      | [v1, v2, v3] => Model_reads_c77 F (Model_reads_c30 F fu) v1 v2 v3 σ
      | _ => none), (115, [some (.inr (some 0)), none, none, some (.inl 0)], [], fun xs σ => match xs with
      | [v3] => Model_reads_c115 F v3 σ
      | _ => none)]) (jcon (jl3 (fun y0 y1 y2 => jl0 (fun σ => rr77 _ ih y0 y1 y2 σ))) (jcon (jl1 (fun y0 => jl0 (fun σ => rr115 y0 σ))) jnil)) 75 30 [some (jmr 0), some (jmi v1), some (jmi v2), some (jmi v3)] [] σ) rfl
  exact jRf_by (jex_ok hG (cs := [(30, [some (.inr (some 0)), some (.inl 0), some (.inl 0), some (.inl 0)], [], fun xs σ => match xs with
      | [v1, v2, v3] => Model_reads_c30 F F v1 v2 v3 σ
      | _ => none)]) (jcon (jl3 (fun y0 y1 y2 => jl0 (fun σ => rr30 F y0 y1 y2 σ))) jnil) 75 0 [some (jmr 0), some (jmi v1), some (jmi v2), none] [] σ0) rfl
theorem jad_Model_reads (F : Nat) (sh : List jxC) (hs : jHas sh jc_M) : jAdV (jca_Model_reads F) yX12_reads cX12_reads 4 4 2 41 2 sh := by
  intro as σ k x σ' h
  unfold jca_Model_reads at h
  split at h
  · rename_i t0 v1 v2
    obtain ⟨g0, hh1⟩ := jcond h
    obtain rfl := jbeq g0
    obtain ⟨r, h1, h2⟩ := Option.bind_eq_some_iff.mp hh1
    exact ⟨_, _, h2, ⟨_, _, _, _, _, _, rfl, rfl, (hs _ (jkf_in (l := jc_M) (idx := 0) rfl)).1, rfl⟩, jmet_Model_reads F  sh hs σ v1 v2 r.1 r.2 h1⟩
  · cases h
def jtb_Model_readsAlso : List (Nat × Instr) := [(0, .aload_n 0), (1, .iconst 1), (2, .bipush 12), (4, .invokevirtual 181), (7, .ifCond .ne 5), (10, .iconst 0), (11, .ireturn), (12, .aload_n 0), (13, .getfield 172), (16, .istore_n 1), (17, .aload_n 0), (18, .invokevirtual 184), (21, .iconst 3), (22, .if_icmp .eq 13), (25, .aload_n 0), (26, .iconst 1), (27, .aload_n 0), (28, .getfield 150), (31, .invokevirtual 168), (34, .ireturn), (35, .aload_n 0), (36, .invokevirtual 187), (39, .aload_n 0), (40, .iconst 0), (41, .iload_n 1), (42, .iconst 1), (43, .isub), (44, .invokevirtual 181), (47, .ifCond .ne 5), (50, .iconst 0), (51, .ireturn), (52, .aload_n 0), (53, .getfield 172), (56, .istore_n 2), (57, .iconst 0), (58, .istore_n 3), (59, .aload_n 0), (60, .invokevirtual 157), (63, .invokestatic 165), (66, .ifCond .eq 23), (69, .aload_n 0), (70, .iconst 0), (71, .iload_n 1), (72, .iconst 1), (73, .isub), (74, .iload_n 2), (75, .isub), (76, .invokevirtual 181), (79, .ifCond .ne 5), (82, .iconst 0), (83, .ireturn), (84, .aload_n 0), (85, .getfield 172), (88, .istore_n 3), (89, .aload_n 0), (90, .getfield 20), (93, .sipush 169), (96, .iload_n 1), (97, .imul), (98, .iload_n 2), (99, .iload_n 3), (100, .if_icmp .ge 12), (103, .bipush 13), (105, .iload_n 2), (106, .imul), (107, .iload_n 3), (108, .iadd), (109, .goto 9), (112, .bipush 13), (114, .iload_n 3), (115, .imul), (116, .iload_n 2), (117, .iadd), (118, .iadd), (119, .iconst 1), (120, .bastore), (121, .aload_n 0), (122, .dup), (123, .getfield 190), (126, .iconst 1), (127, .iadd), (128, .putfield 190), (131, .iconst 1), (132, .ireturn)]
theorem jtk_Model_readsAlso : jtok cX12_readsAlso jtb_Model_readsAlso = true := by decide +kernel
set_option maxRecDepth 100000 in
theorem jfl_X12_20 : jFl RX12 20 12 9 := ⟨RX12, TX12, 57, tyX12, rfl, by decide, jin_X12, tyX12_ok, nmX12, jow_X12, (Or.inl (jTB_at 1350 rfl rfl))⟩
set_option maxRecDepth 100000 in
theorem jfl_X12_190 : jFl RX12 190 12 7 := ⟨RX12, TX12, 57, tyX12, rfl, by decide, jin_X12, tyX12_ok, nmX12, jow_X12, (Or.inl (jTB_at 1348 rfl rfl))⟩
set_option maxRecDepth 100000 in
theorem jlk_X12_181 : jLkV RX12 181 yX12_reads cX12_reads 4 4 2 := ⟨(jTB_at 1575 rfl rfl), (jTB_at 1577 rfl rfl), (jTB_at 59 rfl rfl), (jTB_at 115 rfl rfl), jTB_at 1578 rfl rfl, ⟨by decide, by decide, by decide +kernel⟩⟩
set_option maxRecDepth 100000 in
theorem jlk_X12_184 : jLkV RX12 184 yX12_wordHere cX12_wordHere 3 1 0 := ⟨(jTB_at 1537 rfl rfl), (jTB_at 1539 rfl rfl), (jTB_at 51 rfl rfl), (jTB_at 115 rfl rfl), jTB_at 1540 rfl rfl, ⟨by decide, by decide, by decide +kernel⟩⟩
set_option maxRecDepth 100000 in
theorem jlk_X12_187 : jLkV RX12 187 yX12_passWord cX12_passWord 1 0 0 := ⟨(jTB_at 1556 rfl rfl), (jTB_at 1558 rfl rfl), (jTB_at 55 rfl rfl), (jTB_at 115 rfl rfl), jTB_at 1559 rfl rfl, ⟨by decide, by decide, by decide +kernel⟩⟩
def jE_Model_readsAlso (F : Nat) : jxE := jmk [(20, 12, 9), (150, 12, 2), (172, 12, 4), (190, 12, 7)] [] [] [(157, (1, false), jca_Model_next_I F), (165, (1, true), jca_Model_isDigit F), (168, (3, false), jca_Model_fails F), (181, (3, false), jca_Model_reads F), (184, (1, false), jca_Model_wordHere F), (187, (1, false), jca_Model_passWord F)] 4 jc_M
set_option maxRecDepth 100000 in
set_option maxHeartbeats 4000000 in
theorem jmet_Model_readsAlso (F : Nat) (sh : List jxC) (hs : jHas sh jc_M) (σ0 : jxS) (x : Int) (σ' : jxS) (h : Model_readsAlso F σ0 = some (x, σ')) : jMC yX12_readsAlso cX12_readsAlso 4 (jrt 4) 3 64 sh σ0 [(jmr 0)] (jrv 4 x) σ' := by
  refine jMC_of (kd := 4) (by decide) rfl h ?_
  intro X hX
  have hG : jGd X (jE_Model_readsAlso F) jtb_Model_readsAlso := jGd_of hX jtk_Model_readsAlso (jcon jfl_X12_20 (jcon jfl_X12_150 (jcon jfl_X12_172 (jcon jfl_X12_190 jnil)))) jnil jnil (jcon (jsV jlk_X12_157 ⟨rfl, rfl⟩ (jad_Model_next_I F sh hs)) (jcon (jsS jlk_X12_165 ⟨rfl, rfl⟩ (jad_Model_isDigit F sh hs)) (jcon (jsV jlk_X12_168 ⟨rfl, rfl⟩ (jad_Model_fails F sh hs)) (jcon (jsV jlk_X12_181 ⟨rfl, rfl⟩ (jad_Model_reads F sh hs)) (jcon (jsV jlk_X12_184 ⟨rfl, rfl⟩ (jad_Model_wordHere F sh hs)) (jcon (jsV jlk_X12_187 ⟨rfl, rfl⟩ (jad_Model_passWord F sh hs)) jnil)))))) hs
  have rr118 : ∀ (t0 t1 : Int) (σ : jxS), jRf X (Model_readsAlso_c118 F t0 t1 σ) 118 [some (jmr 0), none, none, none] [(jmi t0), (jmi t1), (jmr 4)] σ := by
    intro  t0 t1 σ
    exact jRf_by (jex_ok hG (cs := []) jnil 87 118 [some (jmr 0), none, none, none] [(jmi t0), (jmi t1), (jmr 4)] σ) rfl
  have rr89 : ∀ (v1 v2 v3 : Int) (σ : jxS), jRf X (Model_readsAlso_c89 F v1 v2 v3 σ) 89 [some (jmr 0), some (jmi v1), some (jmi v2), some (jmi v3)] [] σ := by
    intro  v1 v2 v3 σ
    exact jRf_by (jex_ok hG (cs := [(118, [some (.inr (some 0)), none, none, none], [(.inl 0), (.inl 0), (.inr (some 4))], fun xs σ => match xs with
      | [t0, t1] => Model_readsAlso_c118 F t0 t1 σ
      | _ => none)]) (jcon (jl0 (jl2 (fun y0 y1 => (fun σ => rr118 y0 y1 σ)))) jnil) 87 89 [some (jmr 0), some (jmi v1), some (jmi v2), some (jmi v3)] [] σ) rfl
  exact jRf_by (jex_ok hG (cs := [(89, [some (.inr (some 0)), some (.inl 0), some (.inl 0), some (.inl 0)], [], fun xs σ => match xs with
      | [v1, v2, v3] => Model_readsAlso_c89 F v1 v2 v3 σ
      | _ => none)]) (jcon (jl3 (fun y0 y1 y2 => jl0 (fun σ => rr89 y0 y1 y2 σ))) jnil) 87 0 [some (jmr 0), none, none, none] [] σ0) rfl
theorem jad_Model_readsAlso (F : Nat) (sh : List jxC) (hs : jHas sh jc_M) : jAdV (jca_Model_readsAlso F) yX12_readsAlso cX12_readsAlso 4 4 3 64 0 sh := by
  intro as σ k x σ' h
  unfold jca_Model_readsAlso at h
  split at h
  · rename_i t0
    obtain ⟨g0, hh1⟩ := jcond h
    obtain rfl := jbeq g0
    obtain ⟨r, h1, h2⟩ := Option.bind_eq_some_iff.mp hh1
    exact ⟨_, _, h2, ⟨_, _, _, _, _, _, rfl, rfl, (hs _ (jkf_in (l := jc_M) (idx := 0) rfl)).1, rfl⟩, jmet_Model_readsAlso F  sh hs σ  r.1 r.2 h1⟩
  · cases h
def jtb_Model_readsNever : List (Nat × Instr) := [(0, .aload_n 0), (1, .iconst 1), (2, .bipush 12), (4, .invokevirtual 181), (7, .ifCond .ne 5), (10, .iconst 0), (11, .ireturn), (12, .aload_n 0), (13, .getfield 172), (16, .istore_n 1), (17, .aload_n 0), (18, .iconst 1), (19, .bipush 8), (21, .invokevirtual 181), (24, .ifCond .ne 5), (27, .iconst 0), (28, .ireturn), (29, .aload_n 0), (30, .getfield 24), (33, .bipush 9), (35, .iload_n 1), (36, .imul), (37, .aload_n 0), (38, .getfield 172), (41, .iadd), (42, .iconst 1), (43, .bastore), (44, .aload_n 0), (45, .dup), (46, .getfield 190), (49, .iconst 1), (50, .iadd), (51, .putfield 190), (54, .iconst 1), (55, .ireturn)]
theorem jtk_Model_readsNever : jtok cX12_readsNever jtb_Model_readsNever = true := by decide +kernel
set_option maxRecDepth 100000 in
theorem jfl_X12_24 : jFl RX12 24 12 10 := ⟨RX12, TX12, 57, tyX12, rfl, by decide, jin_X12, tyX12_ok, nmX12, jow_X12, (Or.inl (jTB_at 1351 rfl rfl))⟩
def jE_Model_readsNever (F : Nat) : jxE := jmk [(24, 12, 10), (172, 12, 4), (190, 12, 7)] [] [] [(181, (3, false), jca_Model_reads F)] 4 jc_M
set_option maxRecDepth 100000 in
set_option maxHeartbeats 4000000 in
theorem jmet_Model_readsNever (F : Nat) (sh : List jxC) (hs : jHas sh jc_M) (σ0 : jxS) (x : Int) (σ' : jxS) (h : Model_readsNever F σ0 = some (x, σ')) : jMC yX12_readsNever cX12_readsNever 2 (jrt 4) 3 64 sh σ0 [(jmr 0)] (jrv 4 x) σ' := by
  refine jMC_of (kd := 4) (by decide) rfl h ?_
  intro X hX
  have hG : jGd X (jE_Model_readsNever F) jtb_Model_readsNever := jGd_of hX jtk_Model_readsNever (jcon jfl_X12_24 (jcon jfl_X12_172 (jcon jfl_X12_190 jnil))) jnil jnil (jcon (jsV jlk_X12_181 ⟨rfl, rfl⟩ (jad_Model_reads F sh hs)) jnil) hs
  exact jRf_by (jex_ok hG (cs := []) jnil 38 0 [some (jmr 0), none] [] σ0) rfl
theorem jad_Model_readsNever (F : Nat) (sh : List jxC) (hs : jHas sh jc_M) : jAdV (jca_Model_readsNever F) yX12_readsNever cX12_readsNever 2 4 3 64 0 sh := by
  intro as σ k x σ' h
  unfold jca_Model_readsNever at h
  split at h
  · rename_i t0
    obtain ⟨g0, hh1⟩ := jcond h
    obtain rfl := jbeq g0
    obtain ⟨r, h1, h2⟩ := Option.bind_eq_some_iff.mp hh1
    exact ⟨_, _, h2, ⟨_, _, _, _, _, _, rfl, rfl, (hs _ (jkf_in (l := jc_M) (idx := 0) rfl)).1, rfl⟩, jmet_Model_readsNever F  sh hs σ  r.1 r.2 h1⟩
  · cases h
def jtb_Model_readsLine : List (Nat × Instr) := [(0, .aload_n 0), (1, .invokevirtual 184), (4, .istore_n 2), (5, .iload_n 2), (6, .iconst (-1)), (7, .if_icmp .eq 8), (10, .iload_n 2), (11, .iconst 3), (12, .if_icmp .ne 13), (15, .aload_n 0), (16, .iconst 1), (17, .aload_n 0), (18, .getfield 150), (21, .invokevirtual 168), (24, .ireturn), (25, .iload_n 1), (26, .bipush 16), (28, .if_icmp .eq 24), (31, .iload_n 2), (32, .ifCond .ne 7), (35, .iconst 1), (36, .goto 4), (39, .iconst 0), (40, .iload_n 1), (41, .ifCond .ne 7), (44, .iconst 1), (45, .goto 4), (48, .iconst 0), (49, .if_icmp .eq 13), (52, .aload_n 0), (53, .iconst 4), (54, .aload_n 0), (55, .getfield 150), (58, .invokevirtual 168), (61, .ireturn), (62, .aload_n 0), (63, .invokevirtual 187), (66, .iload_n 2), (67, .ifCond .ne 10), (70, .aload_n 0), (71, .invokevirtual 193), (74, .goto 19), (77, .iload_n 2), (78, .iconst 1), (79, .if_icmp .ne 10), (82, .aload_n 0), (83, .invokevirtual 197), (86, .goto 7), (89, .aload_n 0), (90, .invokevirtual 200), (93, .ireturn)]
theorem jtk_Model_readsLine : jtok cX12_readsLine jtb_Model_readsLine = true := by decide +kernel
set_option maxRecDepth 100000 in
theorem jlk_X12_193 : jLkV RX12 193 yX12_readsOctal cX12_readsOctal 1 4 0 := ⟨(jTB_at 1560 rfl rfl), (jTB_at 1562 rfl rfl), (jTB_at 56 rfl rfl), (jTB_at 115 rfl rfl), jTB_at 1563 rfl rfl, ⟨by decide, by decide, by decide +kernel⟩⟩
set_option maxRecDepth 100000 in
theorem jlk_X12_197 : jLkV RX12 197 yX12_readsAlso cX12_readsAlso 4 4 0 := ⟨(jTB_at 1571 rfl rfl), (jTB_at 1573 rfl rfl), (jTB_at 58 rfl rfl), (jTB_at 115 rfl rfl), jTB_at 1574 rfl rfl, ⟨by decide, by decide, by decide +kernel⟩⟩
set_option maxRecDepth 100000 in
theorem jlk_X12_200 : jLkV RX12 200 yX12_readsNever cX12_readsNever 2 4 0 := ⟨(jTB_at 1579 rfl rfl), (jTB_at 1581 rfl rfl), (jTB_at 60 rfl rfl), (jTB_at 115 rfl rfl), jTB_at 1582 rfl rfl, ⟨by decide, by decide, by decide +kernel⟩⟩
def jE_Model_readsLine (F : Nat) : jxE := jmk [(150, 12, 2)] [] [] [(168, (3, false), jca_Model_fails F), (184, (1, false), jca_Model_wordHere F), (187, (1, false), jca_Model_passWord F), (193, (1, false), jca_Model_readsOctal F), (197, (1, false), jca_Model_readsAlso F), (200, (1, false), jca_Model_readsNever F)] 4 jc_M
set_option maxRecDepth 100000 in
set_option maxHeartbeats 4000000 in
theorem jmet_Model_readsLine (F : Nat) (sh : List jxC) (hs : jHas sh jc_M) (σ0 : jxS) (v1 : Int) (x : Int) (σ' : jxS) (h : Model_readsLine F σ0 v1 = some (x, σ')) : jMC yX12_readsLine cX12_readsLine 3 (jrt 4) 4 87 sh σ0 [(jmr 0), (jmi v1)] (jrv 4 x) σ' := by
  refine jMC_of (kd := 4) (by decide) rfl h ?_
  intro X hX
  have hG : jGd X (jE_Model_readsLine F) jtb_Model_readsLine := jGd_of hX jtk_Model_readsLine (jcon jfl_X12_150 jnil) jnil jnil (jcon (jsV jlk_X12_168 ⟨rfl, rfl⟩ (jad_Model_fails F sh hs)) (jcon (jsV jlk_X12_184 ⟨rfl, rfl⟩ (jad_Model_wordHere F sh hs)) (jcon (jsV jlk_X12_187 ⟨rfl, rfl⟩ (jad_Model_passWord F sh hs)) (jcon (jsV jlk_X12_193 ⟨rfl, rfl⟩ (jad_Model_readsOctal F sh hs)) (jcon (jsV jlk_X12_197 ⟨rfl, rfl⟩ (jad_Model_readsAlso F sh hs)) (jcon (jsV jlk_X12_200 ⟨rfl, rfl⟩ (jad_Model_readsNever F sh hs)) jnil)))))) hs
  have rr52 : ∀ (σ : jxS), jRf X (Model_readsLine_c52 F  σ) 52 [some (jmr 0), none, none] [] σ := by
    intro   σ
    exact jRf_by (jex_ok hG (cs := []) jnil 54 52 [some (jmr 0), none, none] [] σ) rfl
  have rr49 : ∀ (v2 t0 t1 : Int) (σ : jxS), jRf X (Model_readsLine_c49 F v2 t0 t1 σ) 49 [some (jmr 0), none, some (jmi v2)] [(jmi t0), (jmi t1)] σ := by
    intro  v2 t0 t1 σ
    exact jRf_by (jex_ok hG (cs := [(52, [some (.inr (some 0)), none, none], [], fun xs σ => match xs with
      | [] => Model_readsLine_c52 F  σ
      | _ => none)]) (jcon (jl0 (jl0 (fun σ => rr52  σ))) jnil) 54 49 [some (jmr 0), none, some (jmi v2)] [(jmi t0), (jmi t1)] σ) rfl
  have rr40 : ∀ (v1 v2 t0 : Int) (σ : jxS), jRf X (Model_readsLine_c40 F v1 v2 t0 σ) 40 [some (jmr 0), some (jmi v1), some (jmi v2)] [(jmi t0)] σ := by
    intro  v1 v2 t0 σ
    exact jRf_by (jex_ok hG (cs := [(49, [some (.inr (some 0)), none, some (.inl 0)], [(.inl 0), (.inl 0)], fun xs σ => match xs with
      | [v2, t0, t1] => Model_readsLine_c49 F v2 t0 t1 σ
      | _ => none)]) (jcon (jl1 (fun y0 => jl2 (fun y1 y2 => (fun σ => rr49 y0 y1 y2 σ)))) jnil) 54 40 [some (jmr 0), some (jmi v1), some (jmi v2)] [(jmi t0)] σ) rfl
  have rr15 : ∀ (σ : jxS), jRf X (Model_readsLine_c15 F  σ) 15 [some (jmr 0), none, none] [] σ := by
    intro   σ
    exact jRf_by (jex_ok hG (cs := []) jnil 54 15 [some (jmr 0), none, none] [] σ) rfl
  exact jRf_by (jex_ok hG (cs := [(15, [some (.inr (some 0)), none, none], [], fun xs σ => match xs with
      | [] => Model_readsLine_c15 F  σ
      | _ => none), (40, [some (.inr (some 0)), some (.inl 0), some (.inl 0)], [(.inl 0)], fun xs σ => match xs with
      | [v1, v2, t0] => Model_readsLine_c40 F v1 v2 t0 σ
      | _ => none), (52, [some (.inr (some 0)), none, none], [], fun xs σ => match xs with
      | [] => Model_readsLine_c52 F  σ
      | _ => none)]) (jcon (jl0 (jl0 (fun σ => rr15  σ))) (jcon (jl2 (fun y0 y1 => jl1 (fun y2 => (fun σ => rr40 y0 y1 y2 σ)))) (jcon (jl0 (jl0 (fun σ => rr52  σ))) jnil))) 54 0 [some (jmr 0), some (jmi v1), none] [] σ0) rfl
theorem jad_Model_readsLine (F : Nat) (sh : List jxC) (hs : jHas sh jc_M) : jAdV (jca_Model_readsLine F) yX12_readsLine cX12_readsLine 3 4 4 87 1 sh := by
  intro as σ k x σ' h
  unfold jca_Model_readsLine at h
  split at h
  · rename_i t0 v1
    obtain ⟨g0, hh1⟩ := jcond h
    obtain rfl := jbeq g0
    obtain ⟨r, h1, h2⟩ := Option.bind_eq_some_iff.mp hh1
    exact ⟨_, _, h2, ⟨_, _, _, _, _, _, rfl, rfl, (hs _ (jkf_in (l := jc_M) (idx := 0) rfl)).1, rfl⟩, jmet_Model_readsLine F  sh hs σ v1 r.1 r.2 h1⟩
  · cases h
def jtb_Model_readsAll : List (Nat × Instr) := [(0, .aload_n 0), (1, .iconst 0), (2, .putfield 150), (5, .aload_n 0), (6, .iconst 0), (7, .putfield 178), (10, .aload_n 0), (11, .iconst 0), (12, .putfield 190), (15, .aload_n 0), (16, .iconst 0), (17, .putfield 203), (20, .iconst 0), (21, .istore_n 1), (22, .iload_n 1), (23, .sipush 2197), (26, .if_icmp .ge 16), (29, .aload_n 0), (30, .getfield 20), (33, .iload_n 1), (34, .iconst 0), (35, .bastore), (36, .iinc 1 1), (39, .goto (-17)), (42, .iconst 0), (43, .istore_n 1), (44, .iload_n 1), (45, .bipush 117), (47, .if_icmp .ge 16), (50, .aload_n 0), (51, .getfield 24), (54, .iload_n 1), (55, .iconst 0), (56, .bastore), (57, .iinc 1 1), (60, .goto (-16)), (63, .aload_n 0), (64, .aload_n 0), (65, .getfield 203), (68, .invokevirtual 206), (71, .ifCond .ne 5), (74, .iconst 0), (75, .ireturn), (76, .aload_n 0), (77, .dup), (78, .getfield 203), (81, .iconst 1), (82, .iadd), (83, .putfield 203), (86, .aload_n 0), (87, .bipush 59), (89, .invokevirtual 175), (92, .ifCond .ne (-29)), (95, .aload_n 0), (96, .invokevirtual 157), (99, .iconst (-1)), (100, .if_icmp .eq 15), (103, .aload_n 0), (104, .iconst 1), (105, .aload_n 0), (106, .getfield 150), (109, .invokevirtual 168), (112, .ifCond .eq 7), (115, .iconst 1), (116, .goto 4), (119, .iconst 0), (120, .ireturn)]
theorem jtk_Model_readsAll : jtok cX12_readsAll jtb_Model_readsAll = true := by decide +kernel
set_option maxRecDepth 100000 in
theorem jfl_X12_203 : jFl RX12 203 12 17 := ⟨RX12, TX12, 57, tyX12, rfl, by decide, jin_X12, tyX12_ok, nmX12, jow_X12, (Or.inl (jTB_at 1358 rfl rfl))⟩
set_option maxRecDepth 100000 in
theorem jlk_X12_206 : jLkV RX12 206 yX12_readsLine cX12_readsLine 3 4 1 := ⟨(jTB_at 1533 rfl rfl), (jTB_at 1535 rfl rfl), (jTB_at 50 rfl rfl), (jTB_at 115 rfl rfl), jTB_at 1536 rfl rfl, ⟨by decide, by decide, by decide +kernel⟩⟩
def jE_Model_readsAll (F : Nat) : jxE := jmk [(20, 12, 9), (24, 12, 10), (150, 12, 2), (178, 12, 6), (190, 12, 7), (203, 12, 17)] [] [] [(157, (1, false), jca_Model_next_I F), (168, (3, false), jca_Model_fails F), (175, (2, false), jca_Model_takesSign F), (206, (2, false), jca_Model_readsLine F)] 4 jc_M
set_option maxRecDepth 100000 in
set_option maxHeartbeats 4000000 in
theorem jmet_Model_readsAll (F : Nat) (sh : List jxC) (hs : jHas sh jc_M) (σ0 : jxS) (x : Int) (σ' : jxS) (h : Model_readsAll F σ0 = some (x, σ')) : jMC yX12_readsAll cX12_readsAll 2 (jrt 4) 5 109 sh σ0 [(jmr 0)] (jrv 4 x) σ' := by
  refine jMC_of (kd := 4) (by decide) rfl h ?_
  intro X hX
  have hG : jGd X (jE_Model_readsAll F) jtb_Model_readsAll := jGd_of hX jtk_Model_readsAll (jcon jfl_X12_20 (jcon jfl_X12_24 (jcon jfl_X12_150 (jcon jfl_X12_178 (jcon jfl_X12_190 (jcon jfl_X12_203 jnil)))))) jnil jnil (jcon (jsV jlk_X12_157 ⟨rfl, rfl⟩ (jad_Model_next_I F sh hs)) (jcon (jsV jlk_X12_168 ⟨rfl, rfl⟩ (jad_Model_fails F sh hs)) (jcon (jsV jlk_X12_175 ⟨rfl, rfl⟩ (jad_Model_takesSign F sh hs)) (jcon (jsV jlk_X12_206 ⟨rfl, rfl⟩ (jad_Model_readsLine F sh hs)) jnil)))) hs
  have rr63 : ∀ (fu : Nat) (σ : jxS), jRf X (Model_readsAll_c63 F fu  σ) 63 [some (jmr 0), none] [] σ := by
    intro  fu
    induction fu with
    | zero => intros; exact jRf_none
    | succ fu ih =>
      intro  σ
      exact jRf_by (jex_ok hG (cs := [(63, [some (.inr (some 0)), none], [], fun xs σ => match xs with
      | [] => (Model_readsAll_c63 F fu)  σ
      | _ => none)]) (jcon (jl0 (jl0 (fun σ => ih  σ))) jnil) 70 63 [some (jmr 0), none] [] σ) rfl
  have rr44 : ∀ (fu : Nat) (v1 : Int) (σ : jxS), jRf X (Model_readsAll_c44 F fu v1 σ) 44 [some (jmr 0), some (jmi v1)] [] σ := by
    intro  fu
    induction fu with
    | zero => intros; exact jRf_none
    | succ fu ih =>
      intro v1 σ
      exact jRf_by (jex_ok hG (cs := [(44, [some (.inr (some 0)), some (.inl 0)], [], fun xs σ => match xs with
      | [v1] => (Model_readsAll_c44 F fu) v1 σ
      | _ => none), (63, [some (.inr (some 0)), none], [], fun xs σ => match xs with
      | [] => Model_readsAll_c63 F F  σ
      | _ => none)]) (jcon (jl1 (fun y0 => jl0 (fun σ => ih y0 σ))) (jcon (jl0 (jl0 (fun σ => rr63 F  σ))) jnil)) 70 44 [some (jmr 0), some (jmi v1)] [] σ) rfl
  have rr22 : ∀ (fu : Nat) (v1 : Int) (σ : jxS), jRf X (Model_readsAll_c22 F fu v1 σ) 22 [some (jmr 0), some (jmi v1)] [] σ := by
    intro  fu
    induction fu with
    | zero => intros; exact jRf_none
    | succ fu ih =>
      intro v1 σ
      exact jRf_by (jex_ok hG (cs := [(22, [some (.inr (some 0)), some (.inl 0)], [], fun xs σ => match xs with
      | [v1] => (Model_readsAll_c22 F fu) v1 σ
      | _ => none), (44, [some (.inr (some 0)), some (.inl 0)], [], fun xs σ => match xs with
      | [v1] => Model_readsAll_c44 F F v1 σ
      | _ => none)]) (jcon (jl1 (fun y0 => jl0 (fun σ => ih y0 σ))) (jcon (jl1 (fun y0 => jl0 (fun σ => rr44 F y0 σ))) jnil)) 70 22 [some (jmr 0), some (jmi v1)] [] σ) rfl
  exact jRf_by (jex_ok hG (cs := [(22, [some (.inr (some 0)), some (.inl 0)], [], fun xs σ => match xs with
      | [v1] => Model_readsAll_c22 F F v1 σ
      | _ => none)]) (jcon (jl1 (fun y0 => jl0 (fun σ => rr22 F y0 σ))) jnil) 70 0 [some (jmr 0), none] [] σ0) rfl
theorem jad_Model_readsAll (F : Nat) (sh : List jxC) (hs : jHas sh jc_M) : jAdV (jca_Model_readsAll F) yX12_readsAll cX12_readsAll 2 4 5 109 0 sh := by
  intro as σ k x σ' h
  unfold jca_Model_readsAll at h
  split at h
  · rename_i t0
    obtain ⟨g0, hh1⟩ := jcond h
    obtain rfl := jbeq g0
    obtain ⟨r, h1, h2⟩ := Option.bind_eq_some_iff.mp hh1
    exact ⟨_, _, h2, ⟨_, _, _, _, _, _, rfl, rfl, (hs _ (jkf_in (l := jc_M) (idx := 0) rfl)).1, rfl⟩, jmet_Model_readsAll F  sh hs σ  r.1 r.2 h1⟩
  · cases h
def jtb_Model_takesNone : List (Nat × Instr) := [(0, .iconst 0), (1, .istore_n 2), (2, .iload_n 2), (3, .iload_n 1), (4, .if_icmp .ge 16), (7, .aload_n 0), (8, .getfield 45), (11, .iload_n 2), (12, .iconst 0), (13, .bastore), (14, .iinc 2 1), (17, .goto (-15)), (20, .return_)]
theorem jtk_Model_takesNone : jtok cX12_takesNone jtb_Model_takesNone = true := by decide +kernel
set_option maxRecDepth 100000 in
theorem jfl_X12_45 : jFl RX12 45 12 21 := ⟨RX12, TX12, 57, tyX12, rfl, by decide, jin_X12, tyX12_ok, nmX12, jow_X12, (Or.inl (jTB_at 1362 rfl rfl))⟩
def jE_Model_takesNone (F : Nat) : jxE := jmk [(45, 12, 21)] [] [] [] 0 jc_M
set_option maxRecDepth 100000 in
set_option maxHeartbeats 4000000 in
theorem jmet_Model_takesNone (F : Nat) (sh : List jxC) (hs : jHas sh jc_M) (σ0 : jxS) (v1 : Int) (x : Int) (σ' : jxS) (h : Model_takesNone F σ0 v1 = some (x, σ')) : jMC yX12_takesNone cX12_takesNone 3 (jrt 0) 0 0 sh σ0 [(jmr 0), (jmi v1)] (jrv 0 x) σ' := by
  refine jMC_of (kd := 0) (by decide) rfl h ?_
  intro X hX
  have hG : jGd X (jE_Model_takesNone F) jtb_Model_takesNone := jGd_of hX jtk_Model_takesNone (jcon jfl_X12_45 jnil) jnil jnil jnil hs
  have rr2 : ∀ (fu : Nat) (v1 v2 : Int) (σ : jxS), jRf X (Model_takesNone_c2 F fu v1 v2 σ) 2 [some (jmr 0), some (jmi v1), some (jmi v2)] [] σ := by
    intro  fu
    induction fu with
    | zero => intros; exact jRf_none
    | succ fu ih =>
      intro v1 v2 σ
      exact jRf_by (jex_ok hG (cs := [(2, [some (.inr (some 0)), some (.inl 0), some (.inl 0)], [], fun xs σ => match xs with
      | [v1, v2] => (Model_takesNone_c2 F fu) v1 v2 σ
      | _ => none)]) (jcon (jl2 (fun y0 y1 => jl0 (fun σ => ih y0 y1 σ))) jnil) 16 2 [some (jmr 0), some (jmi v1), some (jmi v2)] [] σ) rfl
  exact jRf_by (jex_ok hG (cs := [(2, [some (.inr (some 0)), some (.inl 0), some (.inl 0)], [], fun xs σ => match xs with
      | [v1, v2] => Model_takesNone_c2 F F v1 v2 σ
      | _ => none)]) (jcon (jl2 (fun y0 y1 => jl0 (fun σ => rr2 F y0 y1 σ))) jnil) 16 0 [some (jmr 0), some (jmi v1), none] [] σ0) rfl
theorem jad_Model_takesNone (F : Nat) (sh : List jxC) (hs : jHas sh jc_M) : jAdV (jca_Model_takesNone F) yX12_takesNone cX12_takesNone 3 0 0 0 1 sh := by
  intro as σ k x σ' h
  unfold jca_Model_takesNone at h
  split at h
  · rename_i t0 v1
    obtain ⟨g0, hh1⟩ := jcond h
    obtain rfl := jbeq g0
    obtain ⟨r, h1, h2⟩ := Option.bind_eq_some_iff.mp hh1
    exact ⟨_, _, h2, ⟨_, _, _, _, _, _, rfl, rfl, (hs _ (jkf_in (l := jc_M) (idx := 0) rfl)).1, rfl⟩, jmet_Model_takesNone F  sh hs σ v1 r.1 r.2 h1⟩
  · cases h
def jtb_Model_leastFree : List (Nat × Instr) := [(0, .iconst 0), (1, .istore_n 1), (2, .aload_n 0), (3, .getfield 45), (6, .iload_n 1), (7, .baload), (8, .ifCond .eq 9), (11, .iinc 1 1), (14, .goto (-12)), (17, .iload_n 1), (18, .ireturn)]
theorem jtk_Model_leastFree : jtok cX12_leastFree jtb_Model_leastFree = true := by decide +kernel
def jE_Model_leastFree (F : Nat) : jxE := jmk [(45, 12, 21)] [] [] [] 1 jc_M
set_option maxRecDepth 100000 in
set_option maxHeartbeats 4000000 in
theorem jmet_Model_leastFree (F : Nat) (sh : List jxC) (hs : jHas sh jc_M) (σ0 : jxS) (x : Int) (σ' : jxS) (h : Model_leastFree F σ0 = some (x, σ')) : jMC yX12_leastFree cX12_leastFree 2 (jrt 1) 0 0 sh σ0 [(jmr 0)] (jrv 1 x) σ' := by
  refine jMC_of (kd := 1) (by decide) rfl h ?_
  intro X hX
  have hG : jGd X (jE_Model_leastFree F) jtb_Model_leastFree := jGd_of hX jtk_Model_leastFree (jcon jfl_X12_45 jnil) jnil jnil jnil hs
  have rr2 : ∀ (fu : Nat) (v1 : Int) (σ : jxS), jRf X (Model_leastFree_c2 F fu v1 σ) 2 [some (jmr 0), some (jmi v1)] [] σ := by
    intro  fu
    induction fu with
    | zero => intros; exact jRf_none
    | succ fu ih =>
      intro v1 σ
      exact jRf_by (jex_ok hG (cs := [(2, [some (.inr (some 0)), some (.inl 0)], [], fun xs σ => match xs with
      | [v1] => (Model_leastFree_c2 F fu) v1 σ
      | _ => none)]) (jcon (jl1 (fun y0 => jl0 (fun σ => ih y0 σ))) jnil) 14 2 [some (jmr 0), some (jmi v1)] [] σ) rfl
  exact jRf_by (jex_ok hG (cs := [(2, [some (.inr (some 0)), some (.inl 0)], [], fun xs σ => match xs with
      | [v1] => Model_leastFree_c2 F F v1 σ
      | _ => none)]) (jcon (jl1 (fun y0 => jl0 (fun σ => rr2 F y0 σ))) jnil) 14 0 [some (jmr 0), none] [] σ0) rfl
theorem jad_Model_leastFree (F : Nat) (sh : List jxC) (hs : jHas sh jc_M) : jAdV (jca_Model_leastFree F) yX12_leastFree cX12_leastFree 2 1 0 0 0 sh := by
  intro as σ k x σ' h
  unfold jca_Model_leastFree at h
  split at h
  · rename_i t0
    obtain ⟨g0, hh1⟩ := jcond h
    obtain rfl := jbeq g0
    obtain ⟨r, h1, h2⟩ := Option.bind_eq_some_iff.mp hh1
    exact ⟨_, _, h2, ⟨_, _, _, _, _, _, rfl, rfl, (hs _ (jkf_in (l := jc_M) (idx := 0) rfl)).1, rfl⟩, jmet_Model_leastFree F  sh hs σ  r.1 r.2 h1⟩
  · cases h
def jtb_Model_has : List (Nat × Instr) := [(0, .iload_n 0), (1, .iload_n 1), (2, .ishr), (3, .iconst 1), (4, .iand), (5, .iconst 1), (6, .if_icmp .ne 7), (9, .iconst 1), (10, .goto 4), (13, .iconst 0), (14, .ireturn)]
theorem jtk_Model_has : jtok cX12_has jtb_Model_has = true := by decide +kernel
def jE_Model_has (F : Nat) : jxE := jmk [] [] [] [] 4 jc_M
set_option maxRecDepth 100000 in
set_option maxHeartbeats 4000000 in
theorem jmet_Model_has (F : Nat) (sh : List jxC) (hs : jHas sh jc_M) (σ0 : jxS) (v0 : Int) (v1 : Int) (x : Int) (σ' : jxS) (h : Model_has F σ0 v0 v1 = some (x, σ')) : jMC yX12_has cX12_has 2 (jrt 4) 0 0 sh σ0 [(jmi v0), (jmi v1)] (jrv 4 x) σ' := by
  refine jMC_of (kd := 4) (by decide) rfl h ?_
  intro X hX
  have hG : jGd X (jE_Model_has F) jtb_Model_has := jGd_of hX jtk_Model_has jnil jnil jnil jnil hs
  exact jRf_by (jex_ok hG (cs := []) jnil 14 0 [some (jmi v0), some (jmi v1)] [] σ0) rfl
theorem jad_Model_has (F : Nat) (sh : List jxC) (hs : jHas sh jc_M) : jAdS (jca_Model_has F) yX12_has cX12_has 2 4 0 0 2 sh := by
  intro as σ k x σ' h
  unfold jca_Model_has at h
  split at h
  · rename_i v0 v1
    obtain ⟨r, h1, h2⟩ := Option.bind_eq_some_iff.mp h
    exact ⟨_, _, h2, rfl, jmet_Model_has F  sh hs σ v0 v1 r.1 r.2 h1⟩
  · cases h
