/-! Contracts: Model_power Model_place Model_count Model_countsWays -/
def jtb_Model_power : List (Nat × Instr) := [(0, .aload_n 0), (1, .iload_n 1), (2, .invokevirtual 426), (5, .ifCond .eq 13), (8, .iload_n 3), (9, .i2l), (10, .lconst 0), (11, .lconst 1), (12, .invokestatic 143), (15, .ifCond .ne 5), (18, .iconst (-1)), (19, .ireturn), (20, .aload_n 0), (21, .iload_n 1), (22, .invokevirtual 429), (25, .ifCond .ne 6), (28, .bipush (-3)), (30, .ireturn), (31, .aload_n 0), (32, .iload_n 1), (33, .iload_n 2), (34, .invokevirtual 432), (37, .ifCond .ne 5), (40, .iconst (-1)), (41, .ireturn), (42, .iconst 0), (43, .istore 4), (45, .iload 4), (47, .bipush 16), (49, .if_icmp .ge 17), (52, .aload_n 0), (53, .getfield 133), (56, .iload 4), (58, .iconst 0), (59, .iastore), (60, .iinc 4 1), (63, .goto (-18)), (66, .iload_n 2), (67, .istore 4), (69, .iconst 1), (70, .istore 5), (72, .aload_n 0), (73, .getfield 133), (76, .iload 4), (78, .iaload), (79, .ifCond .ne 28), (82, .aload_n 0), (83, .getfield 133), (86, .iload 4), (88, .iload 5), (90, .iastore), (91, .aload_n 0), (92, .iload_n 1), (93, .iload 4), (95, .iload_n 2), (96, .invokevirtual 435), (99, .istore 4), (101, .iinc 5 1), (104, .goto (-32)), (107, .iload_n 3), (108, .ifCond .ne 13), (111, .aload_n 0), (112, .getfield 133), (115, .iload 4), (117, .iaload), (118, .goto 13), (121, .iload 5), (123, .aload_n 0), (124, .getfield 133), (127, .iload 4), (129, .iaload), (130, .isub), (131, .ireturn)]
theorem jtk_Model_power : jtok cX12_power jtb_Model_power = true := by decide +kernel
set_option maxRecDepth 100000 in
theorem jfl_X12_133 : jFl RX12 133 12 56 := ⟨RX12, TX12, 57, tyX12, rfl, by decide, jin_X12, tyX12_ok, nmX12, jow_X12, (Or.inl (jTB_at 1397 rfl rfl))⟩
def jE_Model_power (F : Nat) : jxE := jmk [(133, 12, 56)] [] [] [(143, (3, true), jca_Model_isIn F), (426, (2, false), jca_Model_isQuotient F), (429, (2, false), jca_Model_isKnown F), (432, (3, false), jca_Model_isElement F), (435, (4, false), jca_Model_timesOf F)] 1 jc_M
set_option maxRecDepth 100000 in
set_option maxHeartbeats 4000000 in
theorem jmet_Model_power (F : Nat) (sh : List jxC) (hs : jHas sh jc_M) (σ0 : jxS) (v1 : Int) (v2 : Int) (v3 : Int) (x : Int) (σ' : jxS) (h : Model_power F σ0 v1 v2 v3 = some (x, σ')) : jMC yX12_power cX12_power 6 (jrt 1) 7 164 sh σ0 [(jmr 0), (jmi v1), (jmi v2), (jmi v3)] (jrv 1 x) σ' := by
  refine jMC_of (kd := 1) (by decide) rfl h ?_
  intro X hX
  have hG : jGd X (jE_Model_power F) jtb_Model_power := jGd_of hX jtk_Model_power (jcon jfl_X12_133 jnil) jnil jnil (jcon (jsS jlk_X12_143 ⟨rfl, rfl⟩ (jad_Model_isIn F sh hs)) (jcon (jsV jlk_X12_426 ⟨rfl, rfl⟩ (jad_Model_isQuotient F sh hs)) (jcon (jsV jlk_X12_429 ⟨rfl, rfl⟩ (jad_Model_isKnown F sh hs)) (jcon (jsV jlk_X12_432 ⟨rfl, rfl⟩ (jad_Model_isElement F sh hs)) (jcon (jsV jlk_X12_435 ⟨rfl, rfl⟩ (jad_Model_timesOf F sh hs)) jnil))))) hs
  have rr72 : ∀ (fu : Nat) (v1 v2 v3 v4 v5 : Int) (σ : jxS), jRf X (Model_power_c72 F fu v1 v2 v3 v4 v5 σ) 72 [some (jmr 0), some (jmi v1), some (jmi v2), some (jmi v3), some (jmi v4), some (jmi v5)] [] σ := by
    intro  fu
    induction fu with
    | zero => intros; exact jRf_none
    | succ fu ih =>
      intro v1 v2 v3 v4 v5 σ
      exact jRf_by (jex_ok hG (cs := [(72, [some (.inr (some 0)), some (.inl 0), some (.inl 0), some (.inl 0), some (.inl 0), some (.inl 0)], [], fun xs σ => match xs with
      | [v1, v2, v3, v4, v5] => (Model_power_c72 F fu) v1 v2 v3 v4 v5 σ
      | _ => none)]) (jcon (jl5 (fun y0 y1 y2 y3 y4 => jl0 (fun σ => ih y0 y1 y2 y3 y4 σ))) jnil) 76 72 [some (jmr 0), some (jmi v1), some (jmi v2), some (jmi v3), some (jmi v4), some (jmi v5)] [] σ) rfl
  have rr45 : ∀ (fu : Nat) (v1 v2 v3 v4 : Int) (σ : jxS), jRf X (Model_power_c45 F fu v1 v2 v3 v4 σ) 45 [some (jmr 0), some (jmi v1), some (jmi v2), some (jmi v3), some (jmi v4), none] [] σ := by
    intro  fu
    induction fu with
    | zero => intros; exact jRf_none
    | succ fu ih =>
      intro v1 v2 v3 v4 σ
      exact jRf_by (jex_ok hG (cs := [(45, [some (.inr (some 0)), some (.inl 0), some (.inl 0), some (.inl 0), some (.inl 0), none], [], fun xs σ => match xs with
      | [v1, v2, v3, v4] => (Model_power_c45 F fu) v1 v2 v3 v4 σ
      | _ => none), (72, [some (.inr (some 0)), some (.inl 0), some (.inl 0), some (.inl 0), some (.inl 0), some (.inl 0)], [], fun xs σ => match xs with
      | [v1, v2, v3, v4, v5] => Model_power_c72 F F v1 v2 v3 v4 v5 σ
      | _ => none)]) (jcon (jl4 (fun y0 y1 y2 y3 => jl0 (fun σ => ih y0 y1 y2 y3 σ))) (jcon (jl5 (fun y0 y1 y2 y3 y4 => jl0 (fun σ => rr72 F y0 y1 y2 y3 y4 σ))) jnil)) 76 45 [some (jmr 0), some (jmi v1), some (jmi v2), some (jmi v3), some (jmi v4), none] [] σ) rfl
  exact jRf_by (jex_ok hG (cs := [(45, [some (.inr (some 0)), some (.inl 0), some (.inl 0), some (.inl 0), some (.inl 0), none], [], fun xs σ => match xs with
      | [v1, v2, v3, v4] => Model_power_c45 F F v1 v2 v3 v4 σ
      | _ => none)]) (jcon (jl4 (fun y0 y1 y2 y3 => jl0 (fun σ => rr45 F y0 y1 y2 y3 σ))) jnil) 76 0 [some (jmr 0), some (jmi v1), some (jmi v2), some (jmi v3), none, none] [] σ0) rfl
theorem jad_Model_power (F : Nat) (sh : List jxC) (hs : jHas sh jc_M) : jAdV (jca_Model_power F) yX12_power cX12_power 6 1 7 164 3 sh := by
  intro as σ k x σ' h
  unfold jca_Model_power at h
  split at h
  · rename_i t0 v1 v2 v3
    obtain ⟨g0, hh1⟩ := jcond h
    obtain rfl := jbeq g0
    obtain ⟨r, h1, h2⟩ := Option.bind_eq_some_iff.mp hh1
    exact ⟨_, _, h2, ⟨_, _, _, _, _, _, rfl, rfl, (hs _ (jkf_in (l := jc_M) (idx := 0) rfl)).1, rfl⟩, jmet_Model_power F  sh hs σ v1 v2 v3 r.1 r.2 h1⟩
  · cases h
def jtb_Model_place : List (Nat × Instr) := [(0, .aload_n 0), (1, .iload_n 1), (2, .invokevirtual 426), (5, .ifCond .ne 5), (8, .iconst (-1)), (9, .ireturn), (10, .aload_n 0), (11, .getfield 139), (14, .istore_n 2), (15, .aload_n 0), (16, .iconst 0), (17, .putfield 139), (20, .iconst 0), (21, .istore_n 3), (22, .iload_n 3), (23, .iload_n 2), (24, .if_icmp .ge 28), (27, .aload_n 0), (28, .getfield 7), (31, .iload_n 3), (32, .baload), (33, .i2l), (34, .lconst 1), (35, .iload_n 1), (36, .i2l), (37, .invokestatic 143), (40, .ifCond .ne 6), (43, .bipush (-2)), (45, .ireturn), (46, .iinc 3 1), (49, .goto (-27)), (52, .aload_n 0), (53, .iload_n 1), (54, .invokevirtual 429), (57, .ifCond .ne 6), (60, .bipush (-3)), (62, .ireturn), (63, .iconst 0), (64, .istore_n 3), (65, .iconst 1), (66, .istore 4), (68, .iload 4), (70, .iload_n 1), (71, .if_icmp .gt 49), (74, .iconst 0), (75, .istore 5), (77, .iload 5), (79, .iload_n 2), (80, .if_icmp .ge 34), (83, .aload_n 0), (84, .getfield 7), (87, .iload 5), (89, .baload), (90, .iload 4), (92, .if_icmp .ne 14), (95, .aload_n 0), (96, .iload_n 1), (97, .iload_n 3), (98, .iload 4), (100, .invokevirtual 399), (103, .goto 4), (106, .iload_n 3), (107, .istore_n 3), (108, .iinc 5 1), (111, .goto (-34)), (114, .iinc 4 1), (117, .goto (-49)), (120, .iload_n 3), (121, .ireturn)]
theorem jtk_Model_place : jtok cX12_place jtb_Model_place = true := by decide +kernel
def jE_Model_place (F : Nat) : jxE := jmk [(7, 12, 0), (139, 12, 1)] [] [] [(143, (3, true), jca_Model_isIn F), (399, (4, false), jca_Model_nextBy F), (426, (2, false), jca_Model_isQuotient F), (429, (2, false), jca_Model_isKnown F)] 1 jc_M
set_option maxRecDepth 100000 in
set_option maxHeartbeats 4000000 in
theorem jmet_Model_place (F : Nat) (sh : List jxC) (hs : jHas sh jc_M) (σ0 : jxS) (v1 : Int) (x : Int) (σ' : jxS) (h : Model_place F σ0 v1 = some (x, σ')) : jMC yX12_place cX12_place 6 (jrt 1) 7 164 sh σ0 [(jmr 0), (jmi v1)] (jrv 1 x) σ' := by
  refine jMC_of (kd := 1) (by decide) rfl h ?_
  intro X hX
  have hG : jGd X (jE_Model_place F) jtb_Model_place := jGd_of hX jtk_Model_place (jcon jfl_X12_7 (jcon jfl_X12_139 jnil)) jnil jnil (jcon (jsS jlk_X12_143 ⟨rfl, rfl⟩ (jad_Model_isIn F sh hs)) (jcon (jsV jlk_X12_399 ⟨rfl, rfl⟩ (jad_Model_nextBy F sh hs)) (jcon (jsV jlk_X12_426 ⟨rfl, rfl⟩ (jad_Model_isQuotient F sh hs)) (jcon (jsV jlk_X12_429 ⟨rfl, rfl⟩ (jad_Model_isKnown F sh hs)) jnil)))) hs
  have rr77 : ∀ (k68 : Int → Int → Int → Int → jxS → Option jxR) (h68 : ∀ v1 v2 v3 v4 σ, jRf X (k68 v1 v2 v3 v4 σ) 68 [some (jmr 0), some (jmi v1), some (jmi v2), some (jmi v3), some (jmi v4), none] [] σ) (fu : Nat) (v1 v2 v3 v4 v5 : Int) (σ : jxS), jRf X (Model_place_c77 F k68 fu v1 v2 v3 v4 v5 σ) 77 [some (jmr 0), some (jmi v1), some (jmi v2), some (jmi v3), some (jmi v4), some (jmi v5)] [] σ := by
    intro k68 h68 fu
    induction fu with
    | zero => intros; exact jRf_none
    | succ fu ih =>
      intro v1 v2 v3 v4 v5 σ
      exact jRf_by (jex_ok hG (cs := [(68, [some (.inr (some 0)), some (.inl 0), some (.inl 0), some (.inl 0), some (.inl 0), none], [], fun xs σ => match xs with
      | [v1, v2, v3, v4] => k68 v1 v2 v3 v4 σ
      | _ => none), (77, [some (.inr (some 0)), some (.inl 0), some (.inl 0), some (.inl 0), some (.inl 0), some (.inl 0)], [], fun xs σ => match xs with
      | [v1, v2, v3, v4, v5] => (Model_place_c77 F k68 fu) v1 v2 v3 v4 v5 σ
      | _ => none)]) (jcon (jl4 (fun y0 y1 y2 y3 => jl0 (fun σ => h68 y0 y1 y2 y3 σ))) (jcon (jl5 (fun y0 y1 y2 y3 y4 => jl0 (fun σ => ih y0 y1 y2 y3 y4 σ))) jnil)) 72 77 [some (jmr 0), some (jmi v1), some (jmi v2), some (jmi v3), some (jmi v4), some (jmi v5)] [] σ) rfl
  have rr68 : ∀ (fu : Nat) (v1 v2 v3 v4 : Int) (σ : jxS), jRf X (Model_place_c68 F fu v1 v2 v3 v4 σ) 68 [some (jmr 0), some (jmi v1), some (jmi v2), some (jmi v3), some (jmi v4), none] [] σ := by
    intro  fu
    induction fu with
    | zero => intros; exact jRf_none
    | succ fu ih =>
      intro v1 v2 v3 v4 σ
      exact jRf_by (jex_ok hG (cs := [(77, [some (.inr (some 0)), some (.inl 0), some (.inl 0), some (.inl 0), some (.inl 0), some (.inl 0)], [], fun xs σ => match xs with
      | [v1, v2, v3, v4, v5] => Model_place_c77 F (Model_place_c68 F fu) F v1 v2 v3 v4 v5 σ
      | _ => none)]) (jcon (jl5 (fun y0 y1 y2 y3 y4 => jl0 (fun σ => rr77 _ ih F y0 y1 y2 y3 y4 σ))) jnil) 72 68 [some (jmr 0), some (jmi v1), some (jmi v2), some (jmi v3), some (jmi v4), none] [] σ) rfl
  have rr22 : ∀ (fu : Nat) (v1 v2 v3 : Int) (σ : jxS), jRf X (Model_place_c22 F fu v1 v2 v3 σ) 22 [some (jmr 0), some (jmi v1), some (jmi v2), some (jmi v3), none, none] [] σ := by
    intro  fu
    induction fu with
    | zero => intros; exact jRf_none
    | succ fu ih =>
      intro v1 v2 v3 σ
      exact jRf_by (jex_ok hG (cs := [(22, [some (.inr (some 0)), some (.inl 0), some (.inl 0), some (.inl 0), none, none], [], fun xs σ => match xs with
      | [v1, v2, v3] => (Model_place_c22 F fu) v1 v2 v3 σ
      | _ => none), (68, [some (.inr (some 0)), some (.inl 0), some (.inl 0), some (.inl 0), some (.inl 0), none], [], fun xs σ => match xs with
      | [v1, v2, v3, v4] => Model_place_c68 F F v1 v2 v3 v4 σ
      | _ => none)]) (jcon (jl3 (fun y0 y1 y2 => jl0 (fun σ => ih y0 y1 y2 σ))) (jcon (jl4 (fun y0 y1 y2 y3 => jl0 (fun σ => rr68 F y0 y1 y2 y3 σ))) jnil)) 72 22 [some (jmr 0), some (jmi v1), some (jmi v2), some (jmi v3), none, none] [] σ) rfl
  exact jRf_by (jex_ok hG (cs := [(22, [some (.inr (some 0)), some (.inl 0), some (.inl 0), some (.inl 0), none, none], [], fun xs σ => match xs with
      | [v1, v2, v3] => Model_place_c22 F F v1 v2 v3 σ
      | _ => none)]) (jcon (jl3 (fun y0 y1 y2 => jl0 (fun σ => rr22 F y0 y1 y2 σ))) jnil) 72 0 [some (jmr 0), some (jmi v1), none, none, none, none] [] σ0) rfl
theorem jad_Model_place (F : Nat) (sh : List jxC) (hs : jHas sh jc_M) : jAdV (jca_Model_place F) yX12_place cX12_place 6 1 7 164 1 sh := by
  intro as σ k x σ' h
  unfold jca_Model_place at h
  split at h
  · rename_i t0 v1
    obtain ⟨g0, hh1⟩ := jcond h
    obtain rfl := jbeq g0
    obtain ⟨r, h1, h2⟩ := Option.bind_eq_some_iff.mp hh1
    exact ⟨_, _, h2, ⟨_, _, _, _, _, _, rfl, rfl, (hs _ (jkf_in (l := jc_M) (idx := 0) rfl)).1, rfl⟩, jmet_Model_place F  sh hs σ v1 r.1 r.2 h1⟩
  · cases h
def jtb_Model_count : List (Nat × Instr) := [(0, .iload_n 1), (1, .tableswitch 91 0 5 #[39, 55, 71, 76, 81, 86]), (40, .aload_n 0), (41, .getfield 212), (44, .ifCond .eq 10), (47, .aload_n 0), (48, .getfield 216), (51, .goto 4), (54, .iconst 0), (55, .ireturn), (56, .aload_n 0), (57, .getfield 212), (60, .ifCond .eq 10), (63, .aload_n 0), (64, .getfield 219), (67, .goto 4), (70, .iconst 0), (71, .ireturn), (72, .aload_n 0), (73, .getfield 354), (76, .ireturn), (77, .aload_n 0), (78, .getfield 225), (81, .ireturn), (82, .aload_n 0), (83, .getfield 222), (86, .ireturn), (87, .aload_n 0), (88, .getfield 139), (91, .ireturn), (92, .iconst (-1)), (93, .ireturn)]
theorem jtk_Model_count : jtok cX12_count jtb_Model_count = true := by decide +kernel
def jE_Model_count (F : Nat) : jxE := jmk [(139, 12, 1), (212, 12, 13), (216, 12, 11), (219, 12, 12), (222, 12, 40), (225, 12, 37), (354, 12, 43)] [] [] [] 1 jc_M
set_option maxRecDepth 100000 in
set_option maxHeartbeats 4000000 in
theorem jmet_Model_count (F : Nat) (sh : List jxC) (hs : jHas sh jc_M) (σ0 : jxS) (v1 : Int) (x : Int) (σ' : jxS) (h : Model_count F σ0 v1 = some (x, σ')) : jMC yX12_count cX12_count 2 (jrt 1) 0 0 sh σ0 [(jmr 0), (jmi v1)] (jrv 1 x) σ' := by
  refine jMC_of (kd := 1) (by decide) rfl h ?_
  intro X hX
  have hG : jGd X (jE_Model_count F) jtb_Model_count := jGd_of hX jtk_Model_count (jcon jfl_X12_139 (jcon jfl_X12_212 (jcon jfl_X12_216 (jcon jfl_X12_219 (jcon jfl_X12_222 (jcon jfl_X12_225 (jcon jfl_X12_354 jnil))))))) jnil jnil jnil hs
  exact jRf_by (jex_ok hG (cs := []) jnil 35 0 [some (jmr 0), some (jmi v1)] [] σ0) rfl
theorem jad_Model_count (F : Nat) (sh : List jxC) (hs : jHas sh jc_M) : jAdV (jca_Model_count F) yX12_count cX12_count 2 1 0 0 1 sh := by
  intro as σ k x σ' h
  unfold jca_Model_count at h
  split at h
  · rename_i t0 v1
    obtain ⟨g0, hh1⟩ := jcond h
    obtain rfl := jbeq g0
    obtain ⟨r, h1, h2⟩ := Option.bind_eq_some_iff.mp hh1
    exact ⟨_, _, h2, ⟨_, _, _, _, _, _, rfl, rfl, (hs _ (jkf_in (l := jc_M) (idx := 0) rfl)).1, rfl⟩, jmet_Model_count F  sh hs σ v1 r.1 r.2 h1⟩
  · cases h
def jtb_Model_countsWays : List (Nat × Instr) := [(0, .iconst 0), (1, .istore_n 1), (2, .iload_n 1), (3, .bipush 22), (5, .if_icmp .gt 28), (8, .aload_n 0), (9, .getfield 48), (12, .sipush 299), (15, .iload_n 1), (16, .iadd), (17, .iload_n 1), (18, .ifCond .ne 7), (21, .iconst 1), (22, .goto 4), (25, .iconst 0), (26, .iastore), (27, .iinc 1 1), (30, .goto (-28)), (33, .bipush 12), (35, .istore_n 1), (36, .iload_n 1), (37, .iconst 1), (38, .if_icmp .lt 70), (41, .iconst 0), (42, .istore_n 2), (43, .iload_n 2), (44, .bipush 22), (46, .if_icmp .gt 56), (49, .aload_n 0), (50, .getfield 48), (53, .bipush 23), (55, .iload_n 1), (56, .imul), (57, .iload_n 2), (58, .iadd), (59, .aload_n 0), (60, .getfield 48), (63, .bipush 23), (65, .iload_n 1), (66, .iconst 1), (67, .iadd), (68, .imul), (69, .iload_n 2), (70, .iadd), (71, .iaload), (72, .iload_n 2), (73, .iload_n 1), (74, .if_icmp .lt 19), (77, .aload_n 0), (78, .getfield 48), (81, .bipush 23), (83, .iload_n 1), (84, .imul), (85, .iload_n 2), (86, .iadd), (87, .iload_n 1), (88, .isub), (89, .iaload), (90, .goto 4), (93, .iconst 0), (94, .iadd), (95, .iastore), (96, .iinc 2 1), (99, .goto (-56)), (102, .iinc 1 (-1)), (105, .goto (-69)), (108, .iconst 0), (109, .istore_n 1), (110, .iload_n 1), (111, .bipush 22), (113, .if_icmp .gt 33), (116, .aload_n 0), (117, .getfield 51), (120, .iload_n 1), (121, .iconst 1), (122, .iadd), (123, .aload_n 0), (124, .getfield 51), (127, .iload_n 1), (128, .iaload), (129, .aload_n 0), (130, .getfield 48), (133, .bipush 23), (135, .iload_n 1), (136, .iadd), (137, .iaload), (138, .iadd), (139, .iastore), (140, .iinc 1 1), (143, .goto (-33)), (146, .aload_n 0), (147, .aload_n 0), (148, .getfield 51), (151, .bipush 23), (153, .iaload), (154, .putfield 251), (157, .return_)]
theorem jtk_Model_countsWays : jtok cX12_countsWays jtb_Model_countsWays = true := by decide +kernel
def jE_Model_countsWays (F : Nat) : jxE := jmk [(48, 12, 22), (51, 12, 23), (251, 12, 24)] [] [] [] 0 jc_M
set_option maxRecDepth 100000 in
set_option maxHeartbeats 4000000 in
theorem jmet_Model_countsWays (F : Nat) (sh : List jxC) (hs : jHas sh jc_M) (σ0 : jxS) (x : Int) (σ' : jxS) (h : Model_countsWays F σ0 = some (x, σ')) : jMC yX12_countsWays cX12_countsWays 3 (jrt 0) 0 0 sh σ0 [(jmr 0)] (jrv 0 x) σ' := by
  refine jMC_of (kd := 0) (by decide) rfl h ?_
  intro X hX
  have hG : jGd X (jE_Model_countsWays F) jtb_Model_countsWays := jGd_of hX jtk_Model_countsWays (jcon jfl_X12_48 (jcon jfl_X12_51 (jcon jfl_X12_251 jnil))) jnil jnil jnil hs
  have rr110 : ∀ (fu : Nat) (v1 : Int) (σ : jxS), jRf X (Model_countsWays_c110 F fu v1 σ) 110 [some (jmr 0), some (jmi v1), none] [] σ := by
    intro  fu
    induction fu with
    | zero => intros; exact jRf_none
    | succ fu ih =>
      intro v1 σ
      exact jRf_by (jex_ok hG (cs := [(110, [some (.inr (some 0)), some (.inl 0), none], [], fun xs σ => match xs with
      | [v1] => (Model_countsWays_c110 F fu) v1 σ
      | _ => none)]) (jcon (jl1 (fun y0 => jl0 (fun σ => ih y0 σ))) jnil) 100 110 [some (jmr 0), some (jmi v1), none] [] σ) rfl
  have rr43 : ∀ (k36 : Int → jxS → Option jxR) (h36 : ∀ v1 σ, jRf X (k36 v1 σ) 36 [some (jmr 0), some (jmi v1), none] [] σ) (fu : Nat) (v1 v2 : Int) (σ : jxS), jRf X (Model_countsWays_c43 F k36 fu v1 v2 σ) 43 [some (jmr 0), some (jmi v1), some (jmi v2)] [] σ := by
    intro k36 h36 fu
    induction fu with
    | zero => intros; exact jRf_none
    | succ fu ih =>
      intro v1 v2 σ
      exact jRf_by (jex_ok hG (cs := [(36, [some (.inr (some 0)), some (.inl 0), none], [], fun xs σ => match xs with
      | [v1] => k36 v1 σ
      | _ => none), (43, [some (.inr (some 0)), some (.inl 0), some (.inl 0)], [], fun xs σ => match xs with
      | [v1, v2] => (Model_countsWays_c43 F k36 fu) v1 v2 σ
      | _ => none)]) (jcon (jl1 (fun y0 => jl0 (fun σ => h36 y0 σ))) (jcon (jl2 (fun y0 y1 => jl0 (fun σ => ih y0 y1 σ))) jnil)) 100 43 [some (jmr 0), some (jmi v1), some (jmi v2)] [] σ) rfl
  have rr36 : ∀ (fu : Nat) (v1 : Int) (σ : jxS), jRf X (Model_countsWays_c36 F fu v1 σ) 36 [some (jmr 0), some (jmi v1), none] [] σ := by
    intro  fu
    induction fu with
    | zero => intros; exact jRf_none
    | succ fu ih =>
      intro v1 σ
      exact jRf_by (jex_ok hG (cs := [(43, [some (.inr (some 0)), some (.inl 0), some (.inl 0)], [], fun xs σ => match xs with
      | [v1, v2] => Model_countsWays_c43 F (Model_countsWays_c36 F fu) F v1 v2 σ
      | _ => none), (110, [some (.inr (some 0)), some (.inl 0), none], [], fun xs σ => match xs with
      | [v1] => Model_countsWays_c110 F F v1 σ
      | _ => none)]) (jcon (jl2 (fun y0 y1 => jl0 (fun σ => rr43 _ ih F y0 y1 σ))) (jcon (jl1 (fun y0 => jl0 (fun σ => rr110 F y0 σ))) jnil)) 100 36 [some (jmr 0), some (jmi v1), none] [] σ) rfl
  have rr2 : ∀ (fu : Nat) (v1 : Int) (σ : jxS), jRf X (Model_countsWays_c2 F fu v1 σ) 2 [some (jmr 0), some (jmi v1), none] [] σ := by
    intro  fu
    induction fu with
    | zero => intros; exact jRf_none
    | succ fu ih =>
      intro v1 σ
      exact jRf_by (jex_ok hG (cs := [(2, [some (.inr (some 0)), some (.inl 0), none], [], fun xs σ => match xs with
      | [v1] => (Model_countsWays_c2 F fu) v1 σ
      | _ => none), (36, [some (.inr (some 0)), some (.inl 0), none], [], fun xs σ => match xs with
      | [v1] => Model_countsWays_c36 F F v1 σ
      | _ => none)]) (jcon (jl1 (fun y0 => jl0 (fun σ => ih y0 σ))) (jcon (jl1 (fun y0 => jl0 (fun σ => rr36 F y0 σ))) jnil)) 100 2 [some (jmr 0), some (jmi v1), none] [] σ) rfl
  exact jRf_by (jex_ok hG (cs := [(2, [some (.inr (some 0)), some (.inl 0), none], [], fun xs σ => match xs with
      | [v1] => Model_countsWays_c2 F F v1 σ
      | _ => none)]) (jcon (jl1 (fun y0 => jl0 (fun σ => rr2 F y0 σ))) jnil) 100 0 [some (jmr 0), none, none] [] σ0) rfl
theorem jad_Model_countsWays (F : Nat) (sh : List jxC) (hs : jHas sh jc_M) : jAdV (jca_Model_countsWays F) yX12_countsWays cX12_countsWays 3 0 0 0 0 sh := by
  intro as σ k x σ' h
  unfold jca_Model_countsWays at h
  split at h
  · rename_i t0
    obtain ⟨g0, hh1⟩ := jcond h
    obtain rfl := jbeq g0
    obtain ⟨r, h1, h2⟩ := Option.bind_eq_some_iff.mp hh1
    exact ⟨_, _, h2, ⟨_, _, _, _, _, _, rfl, rfl, (hs _ (jkf_in (l := jc_M) (idx := 0) rfl)).1, rfl⟩, jmet_Model_countsWays F  sh hs σ  r.1 r.2 h1⟩
  · cases h
