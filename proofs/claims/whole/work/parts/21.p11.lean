/-! Contracts: LL1_stays Quotient_powerOf LL1_power Quotient_placeOf LL1_place Hand_undoable Hand_keptBits LL1_count LL0_feed LL0_end LL0_moves LL0_option LL0_nimber -/
def jtb_LL1_stays : List (Nat × Instr) := [(0, .aload_n 0), (1, .iload_n 1), (2, .invokevirtual 193), (5, .astore_n 2), (6, .aload_n 2), (7, .ifnonnull 5), (10, .iconst (-1)), (11, .ireturn), (12, .aload_n 2), (13, .invokevirtual 200), (16, .ifCond .ne 6), (19, .bipush (-3)), (21, .ireturn), (22, .iload_n 1), (23, .istore_n 3), (24, .iload_n 1), (25, .iconst 1), (26, .iadd), (27, .istore 4), (29, .iload 4), (31, .bipush 6), (33, .if_icmp .gt 42), (36, .iload_n 3), (37, .iload 4), (39, .iconst 1), (40, .isub), (41, .if_icmp .ne 34), (44, .aload_n 0), (45, .iload 4), (47, .invokevirtual 193), (50, .astore 5), (52, .aload 5), (54, .ifnull 15), (57, .aload_n 2), (58, .aload 5), (60, .invokevirtual 225), (63, .ifCond .eq 6), (66, .iload 4), (68, .istore_n 3), (69, .iinc 4 1), (72, .goto (-43)), (75, .iload_n 3), (76, .ireturn)]
theorem jtk_LL1_stays : jtok cX11_stays jtb_LL1_stays = true := by decide +kernel
set_option maxRecDepth 100000 in
theorem jlk_X11_225 : jLkV RX11 225 yX6_isAlike cX6_isAlike 4 4 1 := ⟨(jTB_at 1294 rfl rfl), (jTB_at 1295 rfl rfl), (jTB_at 1296 rfl rfl), (jTB_at 128 rfl rfl), jTB_at 1297 rfl rfl, ⟨by decide, by decide, by decide +kernel⟩⟩
def jE_LL1_stays (F : Nat) : jxE := jmk [] [] [] [(193, (2, false), jca_LL1_quotientOf F), (200, (1, false), jca_Quotient_isKnown F), (225, (2, false), jca_Quotient_isAlike F)] 1 jc_L1
set_option maxRecDepth 100000 in
set_option maxHeartbeats 4000000 in
theorem jmet_LL1_stays (F : Nat) (sh : List jxC) (hs : jHas sh jc_L1) (σ0 : jxS) (v1 : Int) (x : Int) (σ' : jxS) (h : LL1_stays F σ0 v1 = some (x, σ')) : jMC yX11_stays cX11_stays 6 (jrt 1) 7 165 sh σ0 [(jmr 0), (jmi v1)] (jrv 1 x) σ' := by
  refine jMC_of (kd := 1) (by decide) rfl h ?_
  intro X hX
  have hG : jGd X (jE_LL1_stays F) jtb_LL1_stays := jGd_of hX jtk_LL1_stays jnil jnil jnil (jcon (jsV jlk_X11_193 ⟨rfl, rfl⟩ (jad_LL1_quotientOf F sh hs)) (jcon (jsV jlk_X11_200 ⟨rfl, rfl⟩ (jad_Quotient_isKnown F sh (jh_L1C hs))) (jcon (jsV jlk_X11_225 ⟨rfl, rfl⟩ (jad_Quotient_isAlike F sh (jh_L1C hs))) jnil))) hs
  have rr29_48 : ∀ (fu : Nat) (v3 v4 : Int) (σ : jxS), jRf X (LL1_stays_c29 F 48 fu v3 v4 σ) 29 [some (jmr 0), none, some (jmr 48), some (jmi v3), some (jmi v4), none] [] σ := by
    intro  fu
    induction fu with
    | zero => intros; exact jRf_none
    | succ fu ih =>
      intro v3 v4 σ
      exact jRf_by (jex_ok hG (cs := [(29, [some (.inr (some 0)), none, some (.inr (some 48)), some (.inl 0), some (.inl 0), none], [], fun xs σ => match xs with
      | [v3, v4] => (LL1_stays_c29 F 48 fu) v3 v4 σ
      | _ => none)]) (jcon (jl2 (fun y0 y1 => jl0 (fun σ => ih y0 y1 σ))) jnil) 46 29 [some (jmr 0), none, some (jmr 48), some (jmi v3), some (jmi v4), none] [] σ) rfl
  have rr29_53 : ∀ (fu : Nat) (v3 v4 : Int) (σ : jxS), jRf X (LL1_stays_c29 F 53 fu v3 v4 σ) 29 [some (jmr 0), none, some (jmr 53), some (jmi v3), some (jmi v4), none] [] σ := by
    intro  fu
    induction fu with
    | zero => intros; exact jRf_none
    | succ fu ih =>
      intro v3 v4 σ
      exact jRf_by (jex_ok hG (cs := [(29, [some (.inr (some 0)), none, some (.inr (some 53)), some (.inl 0), some (.inl 0), none], [], fun xs σ => match xs with
      | [v3, v4] => (LL1_stays_c29 F 53 fu) v3 v4 σ
      | _ => none)]) (jcon (jl2 (fun y0 y1 => jl0 (fun σ => ih y0 y1 σ))) jnil) 46 29 [some (jmr 0), none, some (jmr 53), some (jmi v3), some (jmi v4), none] [] σ) rfl
  have rr29_58 : ∀ (fu : Nat) (v3 v4 : Int) (σ : jxS), jRf X (LL1_stays_c29 F 58 fu v3 v4 σ) 29 [some (jmr 0), none, some (jmr 58), some (jmi v3), some (jmi v4), none] [] σ := by
    intro  fu
    induction fu with
    | zero => intros; exact jRf_none
    | succ fu ih =>
      intro v3 v4 σ
      exact jRf_by (jex_ok hG (cs := [(29, [some (.inr (some 0)), none, some (.inr (some 58)), some (.inl 0), some (.inl 0), none], [], fun xs σ => match xs with
      | [v3, v4] => (LL1_stays_c29 F 58 fu) v3 v4 σ
      | _ => none)]) (jcon (jl2 (fun y0 y1 => jl0 (fun σ => ih y0 y1 σ))) jnil) 46 29 [some (jmr 0), none, some (jmr 58), some (jmi v3), some (jmi v4), none] [] σ) rfl
  have rr29_63 : ∀ (fu : Nat) (v3 v4 : Int) (σ : jxS), jRf X (LL1_stays_c29 F 63 fu v3 v4 σ) 29 [some (jmr 0), none, some (jmr 63), some (jmi v3), some (jmi v4), none] [] σ := by
    intro  fu
    induction fu with
    | zero => intros; exact jRf_none
    | succ fu ih =>
      intro v3 v4 σ
      exact jRf_by (jex_ok hG (cs := [(29, [some (.inr (some 0)), none, some (.inr (some 63)), some (.inl 0), some (.inl 0), none], [], fun xs σ => match xs with
      | [v3, v4] => (LL1_stays_c29 F 63 fu) v3 v4 σ
      | _ => none)]) (jcon (jl2 (fun y0 y1 => jl0 (fun σ => ih y0 y1 σ))) jnil) 46 29 [some (jmr 0), none, some (jmr 63), some (jmi v3), some (jmi v4), none] [] σ) rfl
  have rr29_68 : ∀ (fu : Nat) (v3 v4 : Int) (σ : jxS), jRf X (LL1_stays_c29 F 68 fu v3 v4 σ) 29 [some (jmr 0), none, some (jmr 68), some (jmi v3), some (jmi v4), none] [] σ := by
    intro  fu
    induction fu with
    | zero => intros; exact jRf_none
    | succ fu ih =>
      intro v3 v4 σ
      exact jRf_by (jex_ok hG (cs := [(29, [some (.inr (some 0)), none, some (.inr (some 68)), some (.inl 0), some (.inl 0), none], [], fun xs σ => match xs with
      | [v3, v4] => (LL1_stays_c29 F 68 fu) v3 v4 σ
      | _ => none)]) (jcon (jl2 (fun y0 y1 => jl0 (fun σ => ih y0 y1 σ))) jnil) 46 29 [some (jmr 0), none, some (jmr 68), some (jmi v3), some (jmi v4), none] [] σ) rfl
  have rr29_73 : ∀ (fu : Nat) (v3 v4 : Int) (σ : jxS), jRf X (LL1_stays_c29 F 73 fu v3 v4 σ) 29 [some (jmr 0), none, some (jmr 73), some (jmi v3), some (jmi v4), none] [] σ := by
    intro  fu
    induction fu with
    | zero => intros; exact jRf_none
    | succ fu ih =>
      intro v3 v4 σ
      exact jRf_by (jex_ok hG (cs := [(29, [some (.inr (some 0)), none, some (.inr (some 73)), some (.inl 0), some (.inl 0), none], [], fun xs σ => match xs with
      | [v3, v4] => (LL1_stays_c29 F 73 fu) v3 v4 σ
      | _ => none)]) (jcon (jl2 (fun y0 y1 => jl0 (fun σ => ih y0 y1 σ))) jnil) 46 29 [some (jmr 0), none, some (jmr 73), some (jmi v3), some (jmi v4), none] [] σ) rfl
  exact jRf_by (jex_ok hG (cs := [(29, [some (.inr (some 0)), none, some (.inr (some 48)), some (.inl 0), some (.inl 0), none], [], fun xs σ => match xs with
      | [v3, v4] => LL1_stays_c29 F 48 F v3 v4 σ
      | _ => none), (29, [some (.inr (some 0)), none, some (.inr (some 53)), some (.inl 0), some (.inl 0), none], [], fun xs σ => match xs with
      | [v3, v4] => LL1_stays_c29 F 53 F v3 v4 σ
      | _ => none), (29, [some (.inr (some 0)), none, some (.inr (some 58)), some (.inl 0), some (.inl 0), none], [], fun xs σ => match xs with
      | [v3, v4] => LL1_stays_c29 F 58 F v3 v4 σ
      | _ => none), (29, [some (.inr (some 0)), none, some (.inr (some 63)), some (.inl 0), some (.inl 0), none], [], fun xs σ => match xs with
      | [v3, v4] => LL1_stays_c29 F 63 F v3 v4 σ
      | _ => none), (29, [some (.inr (some 0)), none, some (.inr (some 68)), some (.inl 0), some (.inl 0), none], [], fun xs σ => match xs with
      | [v3, v4] => LL1_stays_c29 F 68 F v3 v4 σ
      | _ => none), (29, [some (.inr (some 0)), none, some (.inr (some 73)), some (.inl 0), some (.inl 0), none], [], fun xs σ => match xs with
      | [v3, v4] => LL1_stays_c29 F 73 F v3 v4 σ
      | _ => none)]) (jcon (jl2 (fun y0 y1 => jl0 (fun σ => rr29_48 F y0 y1 σ))) (jcon (jl2 (fun y0 y1 => jl0 (fun σ => rr29_53 F y0 y1 σ))) (jcon (jl2 (fun y0 y1 => jl0 (fun σ => rr29_58 F y0 y1 σ))) (jcon (jl2 (fun y0 y1 => jl0 (fun σ => rr29_63 F y0 y1 σ))) (jcon (jl2 (fun y0 y1 => jl0 (fun σ => rr29_68 F y0 y1 σ))) (jcon (jl2 (fun y0 y1 => jl0 (fun σ => rr29_73 F y0 y1 σ))) jnil)))))) 46 0 [some (jmr 0), some (jmi v1), none, none, none, none] [] σ0) rfl
theorem jad_LL1_stays (F : Nat) (sh : List jxC) (hs : jHas sh jc_L1) : jAdV (jca_LL1_stays F) yX11_stays cX11_stays 6 1 7 165 1 sh := by
  intro as σ k x σ' h
  unfold jca_LL1_stays at h
  split at h
  · rename_i t0 v1
    obtain ⟨g0, hh1⟩ := jcond h
    obtain rfl := jbeq g0
    obtain ⟨r, h1, h2⟩ := Option.bind_eq_some_iff.mp hh1
    exact ⟨_, _, h2, ⟨_, _, _, _, _, _, rfl, rfl, (hs _ (jkf_in (l := jc_L1) (idx := 0) rfl)).1, rfl⟩, jmet_LL1_stays F  sh hs σ v1 r.1 r.2 h1⟩
  · cases h
def jtb_Quotient_powerOf : List (Nat × Instr) := [(0, .aload_n 0), (1, .getfield 22), (4, .iconst 0), (5, .invokestatic 108), (8, .iload_n 1), (9, .istore_n 3), (10, .iconst 1), (11, .istore 4), (13, .iload 4), (15, .bipush 17), (17, .if_icmp .gt 64), (20, .aload_n 0), (21, .iload_n 3), (22, .invokevirtual 70), (25, .ifCond .eq 56), (28, .aload_n 0), (29, .getfield 22), (32, .iload_n 3), (33, .iaload), (34, .ifCond .le 26), (37, .iload_n 2), (38, .ifCond .ne 12), (41, .aload_n 0), (42, .getfield 22), (45, .iload_n 3), (46, .iaload), (47, .goto 12), (50, .iload 4), (52, .aload_n 0), (53, .getfield 22), (56, .iload_n 3), (57, .iaload), (58, .isub), (59, .ireturn), (60, .aload_n 0), (61, .getfield 22), (64, .iload_n 3), (65, .iload 4), (67, .iastore), (68, .aload_n 0), (69, .iload_n 3), (70, .iload_n 1), (71, .invokevirtual 102), (74, .istore_n 3), (75, .iinc 4 1), (78, .goto (-65)), (81, .iconst (-1)), (82, .ireturn)]
theorem jtk_Quotient_powerOf : jtok cX6_powerOf jtb_Quotient_powerOf = true := by decide +kernel
set_option maxRecDepth 100000 in
theorem jfl_X6_22 : jFl RX6 22 6 6 := ⟨RX6, TX6, 10, tyX6, rfl, by decide, jin_X6, tyX6_ok, nmX6, jow_X6, (Or.inl (jTB_at 609 rfl rfl))⟩
set_option maxRecDepth 100000 in
theorem jlk_X6_108 : jLkS RX6 108 yJ7_fill_53178 cJ7_fill_53178 4 0 2 := ⟨Or.inl (jTB_at 1306 rfl rfl), (jTB_at 687 rfl rfl), (jTB_at 130 rfl rfl), jTB_at 688 rfl rfl, ⟨by decide, by decide, by decide +kernel⟩⟩
def jE_Quotient_powerOf (F : Nat) : jxE := jmk [(22, 6, 6)] [] [] [(70, (2, false), jca_Quotient_has F), (102, (3, false), jca_Quotient_product F), (108, (2, true), jca_Arrays_fill_AIIV F)] 1 jc_C
set_option maxRecDepth 100000 in
set_option maxHeartbeats 4000000 in
theorem jmet_Quotient_powerOf_48 (F : Nat) (sh : List jxC) (hs : jHas sh jc_C) (σ0 : jxS) (v1 : Int) (v2 : Int) (x : Int) (σ' : jxS) (h : Quotient_powerOf F 48 σ0 v1 v2 = some (x, σ')) : jMC yX6_powerOf cX6_powerOf 5 (jrt 1) 3 70 sh σ0 [(jmr 48), (jmi v1), (jmi v2)] (jrv 1 x) σ' := by
  refine jMC_of (kd := 1) (by decide) rfl h ?_
  intro X hX
  have hG : jGd X (jE_Quotient_powerOf F) jtb_Quotient_powerOf := jGd_of hX jtk_Quotient_powerOf (jcon jfl_X6_22 jnil) jnil jnil (jcon (jsV jlk_X6_70 ⟨rfl, rfl⟩ (jad_Quotient_has F sh hs)) (jcon (jsV jlk_X6_102 ⟨rfl, rfl⟩ (jad_Quotient_product F sh hs)) (jcon (jsS jlk_X6_108 ⟨rfl, rfl⟩ (jad_Arrays_fill_AIIV F sh hs)) jnil))) hs
  have rr13 : ∀ (fu : Nat) (v1 v2 v3 v4 : Int) (σ : jxS), jRf X (Quotient_powerOf_c13 F 48 fu v1 v2 v3 v4 σ) 13 [some (jmr 48), some (jmi v1), some (jmi v2), some (jmi v3), some (jmi v4)] [] σ := by
    intro  fu
    induction fu with
    | zero => intros; exact jRf_none
    | succ fu ih =>
      intro v1 v2 v3 v4 σ
      exact jRf_by (jex_ok hG (cs := [(13, [some (.inr (some 48)), some (.inl 0), some (.inl 0), some (.inl 0), some (.inl 0)], [], fun xs σ => match xs with
      | [v1, v2, v3, v4] => (Quotient_powerOf_c13 F 48 fu) v1 v2 v3 v4 σ
      | _ => none)]) (jcon (jl4 (fun y0 y1 y2 y3 => jl0 (fun σ => ih y0 y1 y2 y3 σ))) jnil) 51 13 [some (jmr 48), some (jmi v1), some (jmi v2), some (jmi v3), some (jmi v4)] [] σ) rfl
  exact jRf_by (jex_ok hG (cs := [(13, [some (.inr (some 48)), some (.inl 0), some (.inl 0), some (.inl 0), some (.inl 0)], [], fun xs σ => match xs with
      | [v1, v2, v3, v4] => Quotient_powerOf_c13 F 48 F v1 v2 v3 v4 σ
      | _ => none)]) (jcon (jl4 (fun y0 y1 y2 y3 => jl0 (fun σ => rr13 F y0 y1 y2 y3 σ))) jnil) 51 0 [some (jmr 48), some (jmi v1), some (jmi v2), none, none] [] σ0) rfl
set_option maxRecDepth 100000 in
set_option maxHeartbeats 4000000 in
theorem jmet_Quotient_powerOf_53 (F : Nat) (sh : List jxC) (hs : jHas sh jc_C) (σ0 : jxS) (v1 : Int) (v2 : Int) (x : Int) (σ' : jxS) (h : Quotient_powerOf F 53 σ0 v1 v2 = some (x, σ')) : jMC yX6_powerOf cX6_powerOf 5 (jrt 1) 3 70 sh σ0 [(jmr 53), (jmi v1), (jmi v2)] (jrv 1 x) σ' := by
  refine jMC_of (kd := 1) (by decide) rfl h ?_
  intro X hX
  have hG : jGd X (jE_Quotient_powerOf F) jtb_Quotient_powerOf := jGd_of hX jtk_Quotient_powerOf (jcon jfl_X6_22 jnil) jnil jnil (jcon (jsV jlk_X6_70 ⟨rfl, rfl⟩ (jad_Quotient_has F sh hs)) (jcon (jsV jlk_X6_102 ⟨rfl, rfl⟩ (jad_Quotient_product F sh hs)) (jcon (jsS jlk_X6_108 ⟨rfl, rfl⟩ (jad_Arrays_fill_AIIV F sh hs)) jnil))) hs
  have rr13 : ∀ (fu : Nat) (v1 v2 v3 v4 : Int) (σ : jxS), jRf X (Quotient_powerOf_c13 F 53 fu v1 v2 v3 v4 σ) 13 [some (jmr 53), some (jmi v1), some (jmi v2), some (jmi v3), some (jmi v4)] [] σ := by
    intro  fu
    induction fu with
    | zero => intros; exact jRf_none
    | succ fu ih =>
      intro v1 v2 v3 v4 σ
      exact jRf_by (jex_ok hG (cs := [(13, [some (.inr (some 53)), some (.inl 0), some (.inl 0), some (.inl 0), some (.inl 0)], [], fun xs σ => match xs with
      | [v1, v2, v3, v4] => (Quotient_powerOf_c13 F 53 fu) v1 v2 v3 v4 σ
      | _ => none)]) (jcon (jl4 (fun y0 y1 y2 y3 => jl0 (fun σ => ih y0 y1 y2 y3 σ))) jnil) 51 13 [some (jmr 53), some (jmi v1), some (jmi v2), some (jmi v3), some (jmi v4)] [] σ) rfl
  exact jRf_by (jex_ok hG (cs := [(13, [some (.inr (some 53)), some (.inl 0), some (.inl 0), some (.inl 0), some (.inl 0)], [], fun xs σ => match xs with
      | [v1, v2, v3, v4] => Quotient_powerOf_c13 F 53 F v1 v2 v3 v4 σ
      | _ => none)]) (jcon (jl4 (fun y0 y1 y2 y3 => jl0 (fun σ => rr13 F y0 y1 y2 y3 σ))) jnil) 51 0 [some (jmr 53), some (jmi v1), some (jmi v2), none, none] [] σ0) rfl
set_option maxRecDepth 100000 in
set_option maxHeartbeats 4000000 in
theorem jmet_Quotient_powerOf_58 (F : Nat) (sh : List jxC) (hs : jHas sh jc_C) (σ0 : jxS) (v1 : Int) (v2 : Int) (x : Int) (σ' : jxS) (h : Quotient_powerOf F 58 σ0 v1 v2 = some (x, σ')) : jMC yX6_powerOf cX6_powerOf 5 (jrt 1) 3 70 sh σ0 [(jmr 58), (jmi v1), (jmi v2)] (jrv 1 x) σ' := by
  refine jMC_of (kd := 1) (by decide) rfl h ?_
  intro X hX
  have hG : jGd X (jE_Quotient_powerOf F) jtb_Quotient_powerOf := jGd_of hX jtk_Quotient_powerOf (jcon jfl_X6_22 jnil) jnil jnil (jcon (jsV jlk_X6_70 ⟨rfl, rfl⟩ (jad_Quotient_has F sh hs)) (jcon (jsV jlk_X6_102 ⟨rfl, rfl⟩ (jad_Quotient_product F sh hs)) (jcon (jsS jlk_X6_108 ⟨rfl, rfl⟩ (jad_Arrays_fill_AIIV F sh hs)) jnil))) hs
  have rr13 : ∀ (fu : Nat) (v1 v2 v3 v4 : Int) (σ : jxS), jRf X (Quotient_powerOf_c13 F 58 fu v1 v2 v3 v4 σ) 13 [some (jmr 58), some (jmi v1), some (jmi v2), some (jmi v3), some (jmi v4)] [] σ := by
    intro  fu
    induction fu with
    | zero => intros; exact jRf_none
    | succ fu ih =>
      intro v1 v2 v3 v4 σ
      exact jRf_by (jex_ok hG (cs := [(13, [some (.inr (some 58)), some (.inl 0), some (.inl 0), some (.inl 0), some (.inl 0)], [], fun xs σ => match xs with
      | [v1, v2, v3, v4] => (Quotient_powerOf_c13 F 58 fu) v1 v2 v3 v4 σ
      | _ => none)]) (jcon (jl4 (fun y0 y1 y2 y3 => jl0 (fun σ => ih y0 y1 y2 y3 σ))) jnil) 51 13 [some (jmr 58), some (jmi v1), some (jmi v2), some (jmi v3), some (jmi v4)] [] σ) rfl
  exact jRf_by (jex_ok hG (cs := [(13, [some (.inr (some 58)), some (.inl 0), some (.inl 0), some (.inl 0), some (.inl 0)], [], fun xs σ => match xs with
      | [v1, v2, v3, v4] => Quotient_powerOf_c13 F 58 F v1 v2 v3 v4 σ
      | _ => none)]) (jcon (jl4 (fun y0 y1 y2 y3 => jl0 (fun σ => rr13 F y0 y1 y2 y3 σ))) jnil) 51 0 [some (jmr 58), some (jmi v1), some (jmi v2), none, none] [] σ0) rfl
set_option maxRecDepth 100000 in
set_option maxHeartbeats 4000000 in
theorem jmet_Quotient_powerOf_63 (F : Nat) (sh : List jxC) (hs : jHas sh jc_C) (σ0 : jxS) (v1 : Int) (v2 : Int) (x : Int) (σ' : jxS) (h : Quotient_powerOf F 63 σ0 v1 v2 = some (x, σ')) : jMC yX6_powerOf cX6_powerOf 5 (jrt 1) 3 70 sh σ0 [(jmr 63), (jmi v1), (jmi v2)] (jrv 1 x) σ' := by
  refine jMC_of (kd := 1) (by decide) rfl h ?_
  intro X hX
  have hG : jGd X (jE_Quotient_powerOf F) jtb_Quotient_powerOf := jGd_of hX jtk_Quotient_powerOf (jcon jfl_X6_22 jnil) jnil jnil (jcon (jsV jlk_X6_70 ⟨rfl, rfl⟩ (jad_Quotient_has F sh hs)) (jcon (jsV jlk_X6_102 ⟨rfl, rfl⟩ (jad_Quotient_product F sh hs)) (jcon (jsS jlk_X6_108 ⟨rfl, rfl⟩ (jad_Arrays_fill_AIIV F sh hs)) jnil))) hs
  have rr13 : ∀ (fu : Nat) (v1 v2 v3 v4 : Int) (σ : jxS), jRf X (Quotient_powerOf_c13 F 63 fu v1 v2 v3 v4 σ) 13 [some (jmr 63), some (jmi v1), some (jmi v2), some (jmi v3), some (jmi v4)] [] σ := by
    intro  fu
    induction fu with
    | zero => intros; exact jRf_none
    | succ fu ih =>
      intro v1 v2 v3 v4 σ
      exact jRf_by (jex_ok hG (cs := [(13, [some (.inr (some 63)), some (.inl 0), some (.inl 0), some (.inl 0), some (.inl 0)], [], fun xs σ => match xs with
      | [v1, v2, v3, v4] => (Quotient_powerOf_c13 F 63 fu) v1 v2 v3 v4 σ
      | _ => none)]) (jcon (jl4 (fun y0 y1 y2 y3 => jl0 (fun σ => ih y0 y1 y2 y3 σ))) jnil) 51 13 [some (jmr 63), some (jmi v1), some (jmi v2), some (jmi v3), some (jmi v4)] [] σ) rfl
  exact jRf_by (jex_ok hG (cs := [(13, [some (.inr (some 63)), some (.inl 0), some (.inl 0), some (.inl 0), some (.inl 0)], [], fun xs σ => match xs with
      | [v1, v2, v3, v4] => Quotient_powerOf_c13 F 63 F v1 v2 v3 v4 σ
      | _ => none)]) (jcon (jl4 (fun y0 y1 y2 y3 => jl0 (fun σ => rr13 F y0 y1 y2 y3 σ))) jnil) 51 0 [some (jmr 63), some (jmi v1), some (jmi v2), none, none] [] σ0) rfl
set_option maxRecDepth 100000 in
set_option maxHeartbeats 4000000 in
theorem jmet_Quotient_powerOf_68 (F : Nat) (sh : List jxC) (hs : jHas sh jc_C) (σ0 : jxS) (v1 : Int) (v2 : Int) (x : Int) (σ' : jxS) (h : Quotient_powerOf F 68 σ0 v1 v2 = some (x, σ')) : jMC yX6_powerOf cX6_powerOf 5 (jrt 1) 3 70 sh σ0 [(jmr 68), (jmi v1), (jmi v2)] (jrv 1 x) σ' := by
  refine jMC_of (kd := 1) (by decide) rfl h ?_
  intro X hX
  have hG : jGd X (jE_Quotient_powerOf F) jtb_Quotient_powerOf := jGd_of hX jtk_Quotient_powerOf (jcon jfl_X6_22 jnil) jnil jnil (jcon (jsV jlk_X6_70 ⟨rfl, rfl⟩ (jad_Quotient_has F sh hs)) (jcon (jsV jlk_X6_102 ⟨rfl, rfl⟩ (jad_Quotient_product F sh hs)) (jcon (jsS jlk_X6_108 ⟨rfl, rfl⟩ (jad_Arrays_fill_AIIV F sh hs)) jnil))) hs
  have rr13 : ∀ (fu : Nat) (v1 v2 v3 v4 : Int) (σ : jxS), jRf X (Quotient_powerOf_c13 F 68 fu v1 v2 v3 v4 σ) 13 [some (jmr 68), some (jmi v1), some (jmi v2), some (jmi v3), some (jmi v4)] [] σ := by
    intro  fu
    induction fu with
    | zero => intros; exact jRf_none
    | succ fu ih =>
      intro v1 v2 v3 v4 σ
      exact jRf_by (jex_ok hG (cs := [(13, [some (.inr (some 68)), some (.inl 0), some (.inl 0), some (.inl 0), some (.inl 0)], [], fun xs σ => match xs with
      | [v1, v2, v3, v4] => (Quotient_powerOf_c13 F 68 fu) v1 v2 v3 v4 σ
      | _ => none)]) (jcon (jl4 (fun y0 y1 y2 y3 => jl0 (fun σ => ih y0 y1 y2 y3 σ))) jnil) 51 13 [some (jmr 68), some (jmi v1), some (jmi v2), some (jmi v3), some (jmi v4)] [] σ) rfl
  exact jRf_by (jex_ok hG (cs := [(13, [some (.inr (some 68)), some (.inl 0), some (.inl 0), some (.inl 0), some (.inl 0)], [], fun xs σ => match xs with
      | [v1, v2, v3, v4] => Quotient_powerOf_c13 F 68 F v1 v2 v3 v4 σ
      | _ => none)]) (jcon (jl4 (fun y0 y1 y2 y3 => jl0 (fun σ => rr13 F y0 y1 y2 y3 σ))) jnil) 51 0 [some (jmr 68), some (jmi v1), some (jmi v2), none, none] [] σ0) rfl
set_option maxRecDepth 100000 in
set_option maxHeartbeats 4000000 in
theorem jmet_Quotient_powerOf_73 (F : Nat) (sh : List jxC) (hs : jHas sh jc_C) (σ0 : jxS) (v1 : Int) (v2 : Int) (x : Int) (σ' : jxS) (h : Quotient_powerOf F 73 σ0 v1 v2 = some (x, σ')) : jMC yX6_powerOf cX6_powerOf 5 (jrt 1) 3 70 sh σ0 [(jmr 73), (jmi v1), (jmi v2)] (jrv 1 x) σ' := by
  refine jMC_of (kd := 1) (by decide) rfl h ?_
  intro X hX
  have hG : jGd X (jE_Quotient_powerOf F) jtb_Quotient_powerOf := jGd_of hX jtk_Quotient_powerOf (jcon jfl_X6_22 jnil) jnil jnil (jcon (jsV jlk_X6_70 ⟨rfl, rfl⟩ (jad_Quotient_has F sh hs)) (jcon (jsV jlk_X6_102 ⟨rfl, rfl⟩ (jad_Quotient_product F sh hs)) (jcon (jsS jlk_X6_108 ⟨rfl, rfl⟩ (jad_Arrays_fill_AIIV F sh hs)) jnil))) hs
  have rr13 : ∀ (fu : Nat) (v1 v2 v3 v4 : Int) (σ : jxS), jRf X (Quotient_powerOf_c13 F 73 fu v1 v2 v3 v4 σ) 13 [some (jmr 73), some (jmi v1), some (jmi v2), some (jmi v3), some (jmi v4)] [] σ := by
    intro  fu
    induction fu with
    | zero => intros; exact jRf_none
    | succ fu ih =>
      intro v1 v2 v3 v4 σ
      exact jRf_by (jex_ok hG (cs := [(13, [some (.inr (some 73)), some (.inl 0), some (.inl 0), some (.inl 0), some (.inl 0)], [], fun xs σ => match xs with
      | [v1, v2, v3, v4] => (Quotient_powerOf_c13 F 73 fu) v1 v2 v3 v4 σ
      | _ => none)]) (jcon (jl4 (fun y0 y1 y2 y3 => jl0 (fun σ => ih y0 y1 y2 y3 σ))) jnil) 51 13 [some (jmr 73), some (jmi v1), some (jmi v2), some (jmi v3), some (jmi v4)] [] σ) rfl
  exact jRf_by (jex_ok hG (cs := [(13, [some (.inr (some 73)), some (.inl 0), some (.inl 0), some (.inl 0), some (.inl 0)], [], fun xs σ => match xs with
      | [v1, v2, v3, v4] => Quotient_powerOf_c13 F 73 F v1 v2 v3 v4 σ
      | _ => none)]) (jcon (jl4 (fun y0 y1 y2 y3 => jl0 (fun σ => rr13 F y0 y1 y2 y3 σ))) jnil) 51 0 [some (jmr 73), some (jmi v1), some (jmi v2), none, none] [] σ0) rfl
theorem jmet_Quotient_powerOf (F : Nat) (q : Nat) (hq : q ∈ jids_Quotient_powerOf_q) (sh : List jxC) (hs : jHas sh jc_C) (σ0 : jxS) (v1 : Int) (v2 : Int) (x : Int) (σ' : jxS) (h : Quotient_powerOf F q σ0 v1 v2 = some (x, σ')) : jMC yX6_powerOf cX6_powerOf 5 (jrt 1) 3 70 sh σ0 [(jmr q), (jmi v1), (jmi v2)] (jrv 1 x) σ' := by
  simp only [jids_Quotient_powerOf_q, List.mem_cons, List.not_mem_nil, or_false] at hq
  rcases hq with rfl | rfl | rfl | rfl | rfl | rfl
  · exact jmet_Quotient_powerOf_48 F sh hs σ0 v1 v2 x σ' h
  · exact jmet_Quotient_powerOf_53 F sh hs σ0 v1 v2 x σ' h
  · exact jmet_Quotient_powerOf_58 F sh hs σ0 v1 v2 x σ' h
  · exact jmet_Quotient_powerOf_63 F sh hs σ0 v1 v2 x σ' h
  · exact jmet_Quotient_powerOf_68 F sh hs σ0 v1 v2 x σ' h
  · exact jmet_Quotient_powerOf_73 F sh hs σ0 v1 v2 x σ' h
theorem jad_Quotient_powerOf (F : Nat) (sh : List jxC) (hs : jHas sh jc_C) : jAdV (jca_Quotient_powerOf F) yX6_powerOf cX6_powerOf 5 1 3 70 2 sh := by
  intro as σ k x σ' h
  unfold jca_Quotient_powerOf at h
  split at h
  · rename_i t0 v1 v2
    obtain ⟨g0, hh1⟩ := jcond h
    have g0 := jin_of g0
    obtain ⟨r, h1, h2⟩ := Option.bind_eq_some_iff.mp hh1
    exact ⟨_, _, h2, (by obtain ⟨fks, hfk⟩ := jrc_Quotient hs g0; exact ⟨_, _, _, _, _, _, rfl, rfl, hfk, rfl⟩), jmet_Quotient_powerOf F t0 g0 sh hs σ v1 v2 r.1 r.2 h1⟩
  · cases h
def jtb_LL1_power : List (Nat × Instr) := [(0, .aload_n 0), (1, .iload_n 1), (2, .invokevirtual 193), (5, .astore 4), (7, .aload 4), (9, .ifnull 12), (12, .iload_n 3), (13, .ifCond .lt 8), (16, .iload_n 3), (17, .iconst 1), (18, .if_icmp .le 5), (21, .iconst (-1)), (22, .ireturn), (23, .aload 4), (25, .invokevirtual 200), (28, .ifCond .ne 6), (31, .bipush (-3)), (33, .ireturn), (34, .aload 4), (36, .iload_n 2), (37, .invokevirtual 203), (40, .ifCond .eq 13), (43, .aload 4), (45, .iload_n 2), (46, .iload_n 3), (47, .invokevirtual 229), (50, .goto 4), (53, .iconst (-1)), (54, .ireturn)]
theorem jtk_LL1_power : jtok cX11_power jtb_LL1_power = true := by decide +kernel
set_option maxRecDepth 100000 in
theorem jlk_X11_229 : jLkV RX11 229 yX6_powerOf cX6_powerOf 5 1 2 := ⟨(jTB_at 1302 rfl rfl), (jTB_at 1303 rfl rfl), (jTB_at 1304 rfl rfl), (jTB_at 128 rfl rfl), jTB_at 1305 rfl rfl, ⟨by decide, by decide, by decide +kernel⟩⟩
def jE_LL1_power (F : Nat) : jxE := jmk [] [] [] [(193, (2, false), jca_LL1_quotientOf F), (200, (1, false), jca_Quotient_isKnown F), (203, (2, false), jca_Quotient_has F), (229, (3, false), jca_Quotient_powerOf F)] 1 jc_L1
set_option maxRecDepth 100000 in
set_option maxHeartbeats 4000000 in
theorem jmet_LL1_power (F : Nat) (sh : List jxC) (hs : jHas sh jc_L1) (σ0 : jxS) (v1 : Int) (v2 : Int) (v3 : Int) (x : Int) (σ' : jxS) (h : LL1_power F σ0 v1 v2 v3 = some (x, σ')) : jMC yX11_power cX11_power 5 (jrt 1) 7 165 sh σ0 [(jmr 0), (jmi v1), (jmi v2), (jmi v3)] (jrv 1 x) σ' := by
  refine jMC_of (kd := 1) (by decide) rfl h ?_
  intro X hX
  have hG : jGd X (jE_LL1_power F) jtb_LL1_power := jGd_of hX jtk_LL1_power jnil jnil jnil (jcon (jsV jlk_X11_193 ⟨rfl, rfl⟩ (jad_LL1_quotientOf F sh hs)) (jcon (jsV jlk_X11_200 ⟨rfl, rfl⟩ (jad_Quotient_isKnown F sh (jh_L1C hs))) (jcon (jsV jlk_X11_203 ⟨rfl, rfl⟩ (jad_Quotient_has F sh (jh_L1C hs))) (jcon (jsV jlk_X11_229 ⟨rfl, rfl⟩ (jad_Quotient_powerOf F sh (jh_L1C hs))) jnil)))) hs
  exact jRf_by (jex_ok hG (cs := []) jnil 32 0 [some (jmr 0), some (jmi v1), some (jmi v2), some (jmi v3), none] [] σ0) rfl
theorem jad_LL1_power (F : Nat) (sh : List jxC) (hs : jHas sh jc_L1) : jAdV (jca_LL1_power F) yX11_power cX11_power 5 1 7 165 3 sh := by
  intro as σ k x σ' h
  unfold jca_LL1_power at h
  split at h
  · rename_i t0 v1 v2 v3
    obtain ⟨g0, hh1⟩ := jcond h
    obtain rfl := jbeq g0
    obtain ⟨r, h1, h2⟩ := Option.bind_eq_some_iff.mp hh1
    exact ⟨_, _, h2, ⟨_, _, _, _, _, _, rfl, rfl, (hs _ (jkf_in (l := jc_L1) (idx := 0) rfl)).1, rfl⟩, jmet_LL1_power F  sh hs σ v1 v2 v3 r.1 r.2 h1⟩
  · cases h
def jtb_Quotient_placeOf : List (Nat × Instr) := [(0, .iconst 0), (1, .istore_n 2), (2, .iload_n 2), (3, .aload_n 1), (4, .invokevirtual 114), (7, .if_icmp .ge 33), (10, .aload_n 1), (11, .iload_n 2), (12, .invokevirtual 119), (15, .iconst 1), (16, .if_icmp .lt 15), (19, .aload_n 1), (20, .iload_n 2), (21, .invokevirtual 119), (24, .aload_n 0), (25, .getfield 25), (28, .if_icmp .le 6), (31, .bipush (-2)), (33, .ireturn), (34, .iinc 2 1), (37, .goto (-35)), (40, .aload_n 0), (41, .invokevirtual 122), (44, .ifCond .ne 6), (47, .bipush (-3)), (49, .ireturn), (50, .iconst 0), (51, .istore_n 2), (52, .iconst 1), (53, .istore_n 3), (54, .iload_n 3), (55, .aload_n 0), (56, .getfield 25), (59, .if_icmp .gt 44), (62, .iconst 0), (63, .istore 4), (65, .iload 4), (67, .aload_n 1), (68, .invokevirtual 114), (71, .if_icmp .ge 26), (74, .aload_n 1), (75, .iload 4), (77, .invokevirtual 119), (80, .iload_n 3), (81, .if_icmp .ne 10), (84, .aload_n 0), (85, .iload_n 2), (86, .iload_n 3), (87, .invokevirtual 83), (90, .istore_n 2), (91, .iinc 4 1), (94, .goto (-29)), (97, .iinc 3 1), (100, .goto (-46)), (103, .iload_n 2), (104, .ireturn)]
theorem jtk_Quotient_placeOf : jtok cX6_placeOf jtb_Quotient_placeOf = true := by decide +kernel
set_option maxRecDepth 100000 in
theorem jlk_X6_114 : jLkV RX6 114 yX9_size cX9_size 1 1 0 := ⟨(jTB_at 1315 rfl rfl), (jTB_at 224 rfl rfl), (jTB_at 225 rfl rfl), (jTB_at 113 rfl rfl), jTB_at 226 rfl rfl, ⟨by decide, by decide, by decide +kernel⟩⟩
set_option maxRecDepth 100000 in
theorem jlk_X6_119 : jLkV RX6 119 yX9_at cX9_at 2 1 1 := ⟨(jTB_at 1316 rfl rfl), (jTB_at 253 rfl rfl), (jTB_at 254 rfl rfl), (jTB_at 113 rfl rfl), jTB_at 255 rfl rfl, ⟨by decide, by decide, by decide +kernel⟩⟩
set_option maxRecDepth 100000 in
theorem jlk_X6_122 : jLkV RX6 122 yX6_isKnown cX6_isKnown 1 4 0 := ⟨(jTB_at 1317 rfl rfl), (jTB_at 1167 rfl rfl), (jTB_at 1168 rfl rfl), (jTB_at 128 rfl rfl), jTB_at 1169 rfl rfl, ⟨by decide, by decide, by decide +kernel⟩⟩
def jE_Quotient_placeOf (F : Nat) : jxE := jmk [(25, 6, 0)] [] [] [(83, (3, false), jca_Quotient_nextOf F), (114, (1, false), jca_Tape_size F), (119, (2, false), jca_Tape_at F), (122, (1, false), jca_Quotient_isKnown F)] 1 jc_C
set_option maxRecDepth 100000 in
set_option maxHeartbeats 4000000 in
theorem jmet_Quotient_placeOf_48 (F : Nat) (sh : List jxC) (hs : jHas sh jc_C) (σ0 : jxS) (x : Int) (σ' : jxS) (h : Quotient_placeOf F 48 σ0 = some (x, σ')) : jMC yX6_placeOf cX6_placeOf 5 (jrt 1) 2 44 sh σ0 [(jmr 48), (jmr 1)] (jrv 1 x) σ' := by
  refine jMC_of (kd := 1) (by decide) rfl h ?_
  intro X hX
  have hG : jGd X (jE_Quotient_placeOf F) jtb_Quotient_placeOf := jGd_of hX jtk_Quotient_placeOf (jcon jfl_X6_25 jnil) jnil jnil (jcon (jsV jlk_X6_83 ⟨rfl, rfl⟩ (jad_Quotient_nextOf F sh hs)) (jcon (jsV jlk_X6_114 ⟨rfl, rfl⟩ (jad_Tape_size F sh (jh_CT hs))) (jcon (jsV jlk_X6_119 ⟨rfl, rfl⟩ (jad_Tape_at F sh (jh_CT hs))) (jcon (jsV jlk_X6_122 ⟨rfl, rfl⟩ (jad_Quotient_isKnown F sh hs)) jnil)))) hs
  have rr65 : ∀ (k54 : Int → Int → jxS → Option jxR) (h54 : ∀ v2 v3 σ, jRf X (k54 v2 v3 σ) 54 [some (jmr 48), some (jmr 1), some (jmi v2), some (jmi v3), none] [] σ) (fu : Nat) (v2 v3 v4 : Int) (σ : jxS), jRf X (Quotient_placeOf_c65 F 48 k54 fu v2 v3 v4 σ) 65 [some (jmr 48), some (jmr 1), some (jmi v2), some (jmi v3), some (jmi v4)] [] σ := by
    intro k54 h54 fu
    induction fu with
    | zero => intros; exact jRf_none
    | succ fu ih =>
      intro v2 v3 v4 σ
      exact jRf_by (jex_ok hG (cs := [(54, [some (.inr (some 48)), some (.inr (some 1)), some (.inl 0), some (.inl 0), none], [], fun xs σ => match xs with
      | [v2, v3] => k54 v2 v3 σ
      | _ => none), (65, [some (.inr (some 48)), some (.inr (some 1)), some (.inl 0), some (.inl 0), some (.inl 0)], [], fun xs σ => match xs with
      | [v2, v3, v4] => (Quotient_placeOf_c65 F 48 k54 fu) v2 v3 v4 σ
      | _ => none)]) (jcon (jl2 (fun y0 y1 => jl0 (fun σ => h54 y0 y1 σ))) (jcon (jl3 (fun y0 y1 y2 => jl0 (fun σ => ih y0 y1 y2 σ))) jnil)) 59 65 [some (jmr 48), some (jmr 1), some (jmi v2), some (jmi v3), some (jmi v4)] [] σ) rfl
  have rr54 : ∀ (fu : Nat) (v2 v3 : Int) (σ : jxS), jRf X (Quotient_placeOf_c54 F 48 fu v2 v3 σ) 54 [some (jmr 48), some (jmr 1), some (jmi v2), some (jmi v3), none] [] σ := by
    intro  fu
    induction fu with
    | zero => intros; exact jRf_none
    | succ fu ih =>
      intro v2 v3 σ
      exact jRf_by (jex_ok hG (cs := [(65, [some (.inr (some 48)), some (.inr (some 1)), some (.inl 0), some (.inl 0), some (.inl 0)], [], fun xs σ => match xs with
      | [v2, v3, v4] => Quotient_placeOf_c65 F 48 (Quotient_placeOf_c54 F 48 fu) F v2 v3 v4 σ
      | _ => none)]) (jcon (jl3 (fun y0 y1 y2 => jl0 (fun σ => rr65 _ ih F y0 y1 y2 σ))) jnil) 59 54 [some (jmr 48), some (jmr 1), some (jmi v2), some (jmi v3), none] [] σ) rfl
  have rr2 : ∀ (fu : Nat) (v2 : Int) (σ : jxS), jRf X (Quotient_placeOf_c2 F 48 fu v2 σ) 2 [some (jmr 48), some (jmr 1), some (jmi v2), none, none] [] σ := by
    intro  fu
    induction fu with
    | zero => intros; exact jRf_none
    | succ fu ih =>
      intro v2 σ
      exact jRf_by (jex_ok hG (cs := [(2, [some (.inr (some 48)), some (.inr (some 1)), some (.inl 0), none, none], [], fun xs σ => match xs with
      | [v2] => (Quotient_placeOf_c2 F 48 fu) v2 σ
      | _ => none), (54, [some (.inr (some 48)), some (.inr (some 1)), some (.inl 0), some (.inl 0), none], [], fun xs σ => match xs with
      | [v2, v3] => Quotient_placeOf_c54 F 48 F v2 v3 σ
      | _ => none)]) (jcon (jl1 (fun y0 => jl0 (fun σ => ih y0 σ))) (jcon (jl2 (fun y0 y1 => jl0 (fun σ => rr54 F y0 y1 σ))) jnil)) 59 2 [some (jmr 48), some (jmr 1), some (jmi v2), none, none] [] σ) rfl
  exact jRf_by (jex_ok hG (cs := [(2, [some (.inr (some 48)), some (.inr (some 1)), some (.inl 0), none, none], [], fun xs σ => match xs with
      | [v2] => Quotient_placeOf_c2 F 48 F v2 σ
      | _ => none)]) (jcon (jl1 (fun y0 => jl0 (fun σ => rr2 F y0 σ))) jnil) 59 0 [some (jmr 48), some (jmr 1), none, none, none] [] σ0) rfl
set_option maxRecDepth 100000 in
set_option maxHeartbeats 4000000 in
theorem jmet_Quotient_placeOf_53 (F : Nat) (sh : List jxC) (hs : jHas sh jc_C) (σ0 : jxS) (x : Int) (σ' : jxS) (h : Quotient_placeOf F 53 σ0 = some (x, σ')) : jMC yX6_placeOf cX6_placeOf 5 (jrt 1) 2 44 sh σ0 [(jmr 53), (jmr 1)] (jrv 1 x) σ' := by
  refine jMC_of (kd := 1) (by decide) rfl h ?_
  intro X hX
  have hG : jGd X (jE_Quotient_placeOf F) jtb_Quotient_placeOf := jGd_of hX jtk_Quotient_placeOf (jcon jfl_X6_25 jnil) jnil jnil (jcon (jsV jlk_X6_83 ⟨rfl, rfl⟩ (jad_Quotient_nextOf F sh hs)) (jcon (jsV jlk_X6_114 ⟨rfl, rfl⟩ (jad_Tape_size F sh (jh_CT hs))) (jcon (jsV jlk_X6_119 ⟨rfl, rfl⟩ (jad_Tape_at F sh (jh_CT hs))) (jcon (jsV jlk_X6_122 ⟨rfl, rfl⟩ (jad_Quotient_isKnown F sh hs)) jnil)))) hs
  have rr65 : ∀ (k54 : Int → Int → jxS → Option jxR) (h54 : ∀ v2 v3 σ, jRf X (k54 v2 v3 σ) 54 [some (jmr 53), some (jmr 1), some (jmi v2), some (jmi v3), none] [] σ) (fu : Nat) (v2 v3 v4 : Int) (σ : jxS), jRf X (Quotient_placeOf_c65 F 53 k54 fu v2 v3 v4 σ) 65 [some (jmr 53), some (jmr 1), some (jmi v2), some (jmi v3), some (jmi v4)] [] σ := by
    intro k54 h54 fu
    induction fu with
    | zero => intros; exact jRf_none
    | succ fu ih =>
      intro v2 v3 v4 σ
      exact jRf_by (jex_ok hG (cs := [(54, [some (.inr (some 53)), some (.inr (some 1)), some (.inl 0), some (.inl 0), none], [], fun xs σ => match xs with
      | [v2, v3] => k54 v2 v3 σ
      | _ => none), (65, [some (.inr (some 53)), some (.inr (some 1)), some (.inl 0), some (.inl 0), some (.inl 0)], [], fun xs σ => match xs with
      | [v2, v3, v4] => (Quotient_placeOf_c65 F 53 k54 fu) v2 v3 v4 σ
      | _ => none)]) (jcon (jl2 (fun y0 y1 => jl0 (fun σ => h54 y0 y1 σ))) (jcon (jl3 (fun y0 y1 y2 => jl0 (fun σ => ih y0 y1 y2 σ))) jnil)) 59 65 [some (jmr 53), some (jmr 1), some (jmi v2), some (jmi v3), some (jmi v4)] [] σ) rfl
  have rr54 : ∀ (fu : Nat) (v2 v3 : Int) (σ : jxS), jRf X (Quotient_placeOf_c54 F 53 fu v2 v3 σ) 54 [some (jmr 53), some (jmr 1), some (jmi v2), some (jmi v3), none] [] σ := by
    intro  fu
    induction fu with
    | zero => intros; exact jRf_none
    | succ fu ih =>
      intro v2 v3 σ
      exact jRf_by (jex_ok hG (cs := [(65, [some (.inr (some 53)), some (.inr (some 1)), some (.inl 0), some (.inl 0), some (.inl 0)], [], fun xs σ => match xs with
      | [v2, v3, v4] => Quotient_placeOf_c65 F 53 (Quotient_placeOf_c54 F 53 fu) F v2 v3 v4 σ
      | _ => none)]) (jcon (jl3 (fun y0 y1 y2 => jl0 (fun σ => rr65 _ ih F y0 y1 y2 σ))) jnil) 59 54 [some (jmr 53), some (jmr 1), some (jmi v2), some (jmi v3), none] [] σ) rfl
  have rr2 : ∀ (fu : Nat) (v2 : Int) (σ : jxS), jRf X (Quotient_placeOf_c2 F 53 fu v2 σ) 2 [some (jmr 53), some (jmr 1), some (jmi v2), none, none] [] σ := by
    intro  fu
    induction fu with
    | zero => intros; exact jRf_none
    | succ fu ih =>
      intro v2 σ
      exact jRf_by (jex_ok hG (cs := [(2, [some (.inr (some 53)), some (.inr (some 1)), some (.inl 0), none, none], [], fun xs σ => match xs with
      | [v2] => (Quotient_placeOf_c2 F 53 fu) v2 σ
      | _ => none), (54, [some (.inr (some 53)), some (.inr (some 1)), some (.inl 0), some (.inl 0), none], [], fun xs σ => match xs with
      | [v2, v3] => Quotient_placeOf_c54 F 53 F v2 v3 σ
      | _ => none)]) (jcon (jl1 (fun y0 => jl0 (fun σ => ih y0 σ))) (jcon (jl2 (fun y0 y1 => jl0 (fun σ => rr54 F y0 y1 σ))) jnil)) 59 2 [some (jmr 53), some (jmr 1), some (jmi v2), none, none] [] σ) rfl
  exact jRf_by (jex_ok hG (cs := [(2, [some (.inr (some 53)), some (.inr (some 1)), some (.inl 0), none, none], [], fun xs σ => match xs with
      | [v2] => Quotient_placeOf_c2 F 53 F v2 σ
      | _ => none)]) (jcon (jl1 (fun y0 => jl0 (fun σ => rr2 F y0 σ))) jnil) 59 0 [some (jmr 53), some (jmr 1), none, none, none] [] σ0) rfl
set_option maxRecDepth 100000 in
set_option maxHeartbeats 4000000 in
theorem jmet_Quotient_placeOf_58 (F : Nat) (sh : List jxC) (hs : jHas sh jc_C) (σ0 : jxS) (x : Int) (σ' : jxS) (h : Quotient_placeOf F 58 σ0 = some (x, σ')) : jMC yX6_placeOf cX6_placeOf 5 (jrt 1) 2 44 sh σ0 [(jmr 58), (jmr 1)] (jrv 1 x) σ' := by
  refine jMC_of (kd := 1) (by decide) rfl h ?_
  intro X hX
  have hG : jGd X (jE_Quotient_placeOf F) jtb_Quotient_placeOf := jGd_of hX jtk_Quotient_placeOf (jcon jfl_X6_25 jnil) jnil jnil (jcon (jsV jlk_X6_83 ⟨rfl, rfl⟩ (jad_Quotient_nextOf F sh hs)) (jcon (jsV jlk_X6_114 ⟨rfl, rfl⟩ (jad_Tape_size F sh (jh_CT hs))) (jcon (jsV jlk_X6_119 ⟨rfl, rfl⟩ (jad_Tape_at F sh (jh_CT hs))) (jcon (jsV jlk_X6_122 ⟨rfl, rfl⟩ (jad_Quotient_isKnown F sh hs)) jnil)))) hs
  have rr65 : ∀ (k54 : Int → Int → jxS → Option jxR) (h54 : ∀ v2 v3 σ, jRf X (k54 v2 v3 σ) 54 [some (jmr 58), some (jmr 1), some (jmi v2), some (jmi v3), none] [] σ) (fu : Nat) (v2 v3 v4 : Int) (σ : jxS), jRf X (Quotient_placeOf_c65 F 58 k54 fu v2 v3 v4 σ) 65 [some (jmr 58), some (jmr 1), some (jmi v2), some (jmi v3), some (jmi v4)] [] σ := by
    intro k54 h54 fu
    induction fu with
    | zero => intros; exact jRf_none
    | succ fu ih =>
      intro v2 v3 v4 σ
      exact jRf_by (jex_ok hG (cs := [(54, [some (.inr (some 58)), some (.inr (some 1)), some (.inl 0), some (.inl 0), none], [], fun xs σ => match xs with
      | [v2, v3] => k54 v2 v3 σ
      | _ => none), (65, [some (.inr (some 58)), some (.inr (some 1)), some (.inl 0), some (.inl 0), some (.inl 0)], [], fun xs σ => match xs with
      | [v2, v3, v4] => (Quotient_placeOf_c65 F 58 k54 fu) v2 v3 v4 σ
      | _ => none)]) (jcon (jl2 (fun y0 y1 => jl0 (fun σ => h54 y0 y1 σ))) (jcon (jl3 (fun y0 y1 y2 => jl0 (fun σ => ih y0 y1 y2 σ))) jnil)) 59 65 [some (jmr 58), some (jmr 1), some (jmi v2), some (jmi v3), some (jmi v4)] [] σ) rfl
  have rr54 : ∀ (fu : Nat) (v2 v3 : Int) (σ : jxS), jRf X (Quotient_placeOf_c54 F 58 fu v2 v3 σ) 54 [some (jmr 58), some (jmr 1), some (jmi v2), some (jmi v3), none] [] σ := by
    intro  fu
    induction fu with
    | zero => intros; exact jRf_none
    | succ fu ih =>
      intro v2 v3 σ
      exact jRf_by (jex_ok hG (cs := [(65, [some (.inr (some 58)), some (.inr (some 1)), some (.inl 0), some (.inl 0), some (.inl 0)], [], fun xs σ => match xs with
      | [v2, v3, v4] => Quotient_placeOf_c65 F 58 (Quotient_placeOf_c54 F 58 fu) F v2 v3 v4 σ
      | _ => none)]) (jcon (jl3 (fun y0 y1 y2 => jl0 (fun σ => rr65 _ ih F y0 y1 y2 σ))) jnil) 59 54 [some (jmr 58), some (jmr 1), some (jmi v2), some (jmi v3), none] [] σ) rfl
  have rr2 : ∀ (fu : Nat) (v2 : Int) (σ : jxS), jRf X (Quotient_placeOf_c2 F 58 fu v2 σ) 2 [some (jmr 58), some (jmr 1), some (jmi v2), none, none] [] σ := by
    intro  fu
    induction fu with
    | zero => intros; exact jRf_none
    | succ fu ih =>
      intro v2 σ
      exact jRf_by (jex_ok hG (cs := [(2, [some (.inr (some 58)), some (.inr (some 1)), some (.inl 0), none, none], [], fun xs σ => match xs with
      | [v2] => (Quotient_placeOf_c2 F 58 fu) v2 σ
      | _ => none), (54, [some (.inr (some 58)), some (.inr (some 1)), some (.inl 0), some (.inl 0), none], [], fun xs σ => match xs with
      | [v2, v3] => Quotient_placeOf_c54 F 58 F v2 v3 σ
      | _ => none)]) (jcon (jl1 (fun y0 => jl0 (fun σ => ih y0 σ))) (jcon (jl2 (fun y0 y1 => jl0 (fun σ => rr54 F y0 y1 σ))) jnil)) 59 2 [some (jmr 58), some (jmr 1), some (jmi v2), none, none] [] σ) rfl
  exact jRf_by (jex_ok hG (cs := [(2, [some (.inr (some 58)), some (.inr (some 1)), some (.inl 0), none, none], [], fun xs σ => match xs with
      | [v2] => Quotient_placeOf_c2 F 58 F v2 σ
      | _ => none)]) (jcon (jl1 (fun y0 => jl0 (fun σ => rr2 F y0 σ))) jnil) 59 0 [some (jmr 58), some (jmr 1), none, none, none] [] σ0) rfl
set_option maxRecDepth 100000 in
set_option maxHeartbeats 4000000 in
theorem jmet_Quotient_placeOf_63 (F : Nat) (sh : List jxC) (hs : jHas sh jc_C) (σ0 : jxS) (x : Int) (σ' : jxS) (h : Quotient_placeOf F 63 σ0 = some (x, σ')) : jMC yX6_placeOf cX6_placeOf 5 (jrt 1) 2 44 sh σ0 [(jmr 63), (jmr 1)] (jrv 1 x) σ' := by
  refine jMC_of (kd := 1) (by decide) rfl h ?_
  intro X hX
  have hG : jGd X (jE_Quotient_placeOf F) jtb_Quotient_placeOf := jGd_of hX jtk_Quotient_placeOf (jcon jfl_X6_25 jnil) jnil jnil (jcon (jsV jlk_X6_83 ⟨rfl, rfl⟩ (jad_Quotient_nextOf F sh hs)) (jcon (jsV jlk_X6_114 ⟨rfl, rfl⟩ (jad_Tape_size F sh (jh_CT hs))) (jcon (jsV jlk_X6_119 ⟨rfl, rfl⟩ (jad_Tape_at F sh (jh_CT hs))) (jcon (jsV jlk_X6_122 ⟨rfl, rfl⟩ (jad_Quotient_isKnown F sh hs)) jnil)))) hs
  have rr65 : ∀ (k54 : Int → Int → jxS → Option jxR) (h54 : ∀ v2 v3 σ, jRf X (k54 v2 v3 σ) 54 [some (jmr 63), some (jmr 1), some (jmi v2), some (jmi v3), none] [] σ) (fu : Nat) (v2 v3 v4 : Int) (σ : jxS), jRf X (Quotient_placeOf_c65 F 63 k54 fu v2 v3 v4 σ) 65 [some (jmr 63), some (jmr 1), some (jmi v2), some (jmi v3), some (jmi v4)] [] σ := by
    intro k54 h54 fu
    induction fu with
    | zero => intros; exact jRf_none
    | succ fu ih =>
      intro v2 v3 v4 σ
      exact jRf_by (jex_ok hG (cs := [(54, [some (.inr (some 63)), some (.inr (some 1)), some (.inl 0), some (.inl 0), none], [], fun xs σ => match xs with
      | [v2, v3] => k54 v2 v3 σ
      | _ => none), (65, [some (.inr (some 63)), some (.inr (some 1)), some (.inl 0), some (.inl 0), some (.inl 0)], [], fun xs σ => match xs with
      | [v2, v3, v4] => (Quotient_placeOf_c65 F 63 k54 fu) v2 v3 v4 σ
      | _ => none)]) (jcon (jl2 (fun y0 y1 => jl0 (fun σ => h54 y0 y1 σ))) (jcon (jl3 (fun y0 y1 y2 => jl0 (fun σ => ih y0 y1 y2 σ))) jnil)) 59 65 [some (jmr 63), some (jmr 1), some (jmi v2), some (jmi v3), some (jmi v4)] [] σ) rfl
  have rr54 : ∀ (fu : Nat) (v2 v3 : Int) (σ : jxS), jRf X (Quotient_placeOf_c54 F 63 fu v2 v3 σ) 54 [some (jmr 63), some (jmr 1), some (jmi v2), some (jmi v3), none] [] σ := by
    intro  fu
    induction fu with
    | zero => intros; exact jRf_none
    | succ fu ih =>
      intro v2 v3 σ
      exact jRf_by (jex_ok hG (cs := [(65, [some (.inr (some 63)), some (.inr (some 1)), some (.inl 0), some (.inl 0), some (.inl 0)], [], fun xs σ => match xs with
      | [v2, v3, v4] => Quotient_placeOf_c65 F 63 (Quotient_placeOf_c54 F 63 fu) F v2 v3 v4 σ
      | _ => none)]) (jcon (jl3 (fun y0 y1 y2 => jl0 (fun σ => rr65 _ ih F y0 y1 y2 σ))) jnil) 59 54 [some (jmr 63), some (jmr 1), some (jmi v2), some (jmi v3), none] [] σ) rfl
  have rr2 : ∀ (fu : Nat) (v2 : Int) (σ : jxS), jRf X (Quotient_placeOf_c2 F 63 fu v2 σ) 2 [some (jmr 63), some (jmr 1), some (jmi v2), none, none] [] σ := by
    intro  fu
    induction fu with
    | zero => intros; exact jRf_none
    | succ fu ih =>
      intro v2 σ
      exact jRf_by (jex_ok hG (cs := [(2, [some (.inr (some 63)), some (.inr (some 1)), some (.inl 0), none, none], [], fun xs σ => match xs with
      | [v2] => (Quotient_placeOf_c2 F 63 fu) v2 σ
      | _ => none), (54, [some (.inr (some 63)), some (.inr (some 1)), some (.inl 0), some (.inl 0), none], [], fun xs σ => match xs with
      | [v2, v3] => Quotient_placeOf_c54 F 63 F v2 v3 σ
      | _ => none)]) (jcon (jl1 (fun y0 => jl0 (fun σ => ih y0 σ))) (jcon (jl2 (fun y0 y1 => jl0 (fun σ => rr54 F y0 y1 σ))) jnil)) 59 2 [some (jmr 63), some (jmr 1), some (jmi v2), none, none] [] σ) rfl
  exact jRf_by (jex_ok hG (cs := [(2, [some (.inr (some 63)), some (.inr (some 1)), some (.inl 0), none, none], [], fun xs σ => match xs with
      | [v2] => Quotient_placeOf_c2 F 63 F v2 σ
      | _ => none)]) (jcon (jl1 (fun y0 => jl0 (fun σ => rr2 F y0 σ))) jnil) 59 0 [some (jmr 63), some (jmr 1), none, none, none] [] σ0) rfl
set_option maxRecDepth 100000 in
set_option maxHeartbeats 4000000 in
theorem jmet_Quotient_placeOf_68 (F : Nat) (sh : List jxC) (hs : jHas sh jc_C) (σ0 : jxS) (x : Int) (σ' : jxS) (h : Quotient_placeOf F 68 σ0 = some (x, σ')) : jMC yX6_placeOf cX6_placeOf 5 (jrt 1) 2 44 sh σ0 [(jmr 68), (jmr 1)] (jrv 1 x) σ' := by
  refine jMC_of (kd := 1) (by decide) rfl h ?_
  intro X hX
  have hG : jGd X (jE_Quotient_placeOf F) jtb_Quotient_placeOf := jGd_of hX jtk_Quotient_placeOf (jcon jfl_X6_25 jnil) jnil jnil (jcon (jsV jlk_X6_83 ⟨rfl, rfl⟩ (jad_Quotient_nextOf F sh hs)) (jcon (jsV jlk_X6_114 ⟨rfl, rfl⟩ (jad_Tape_size F sh (jh_CT hs))) (jcon (jsV jlk_X6_119 ⟨rfl, rfl⟩ (jad_Tape_at F sh (jh_CT hs))) (jcon (jsV jlk_X6_122 ⟨rfl, rfl⟩ (jad_Quotient_isKnown F sh hs)) jnil)))) hs
  have rr65 : ∀ (k54 : Int → Int → jxS → Option jxR) (h54 : ∀ v2 v3 σ, jRf X (k54 v2 v3 σ) 54 [some (jmr 68), some (jmr 1), some (jmi v2), some (jmi v3), none] [] σ) (fu : Nat) (v2 v3 v4 : Int) (σ : jxS), jRf X (Quotient_placeOf_c65 F 68 k54 fu v2 v3 v4 σ) 65 [some (jmr 68), some (jmr 1), some (jmi v2), some (jmi v3), some (jmi v4)] [] σ := by
    intro k54 h54 fu
    induction fu with
    | zero => intros; exact jRf_none
    | succ fu ih =>
      intro v2 v3 v4 σ
      exact jRf_by (jex_ok hG (cs := [(54, [some (.inr (some 68)), some (.inr (some 1)), some (.inl 0), some (.inl 0), none], [], fun xs σ => match xs with
      | [v2, v3] => k54 v2 v3 σ
      | _ => none), (65, [some (.inr (some 68)), some (.inr (some 1)), some (.inl 0), some (.inl 0), some (.inl 0)], [], fun xs σ => match xs with
      | [v2, v3, v4] => (Quotient_placeOf_c65 F 68 k54 fu) v2 v3 v4 σ
      | _ => none)]) (jcon (jl2 (fun y0 y1 => jl0 (fun σ => h54 y0 y1 σ))) (jcon (jl3 (fun y0 y1 y2 => jl0 (fun σ => ih y0 y1 y2 σ))) jnil)) 59 65 [some (jmr 68), some (jmr 1), some (jmi v2), some (jmi v3), some (jmi v4)] [] σ) rfl
  have rr54 : ∀ (fu : Nat) (v2 v3 : Int) (σ : jxS), jRf X (Quotient_placeOf_c54 F 68 fu v2 v3 σ) 54 [some (jmr 68), some (jmr 1), some (jmi v2), some (jmi v3), none] [] σ := by
    intro  fu
    induction fu with
    | zero => intros; exact jRf_none
    | succ fu ih =>
      intro v2 v3 σ
      exact jRf_by (jex_ok hG (cs := [(65, [some (.inr (some 68)), some (.inr (some 1)), some (.inl 0), some (.inl 0), some (.inl 0)], [], fun xs σ => match xs with
      | [v2, v3, v4] => Quotient_placeOf_c65 F 68 (Quotient_placeOf_c54 F 68 fu) F v2 v3 v4 σ
      | _ => none)]) (jcon (jl3 (fun y0 y1 y2 => jl0 (fun σ => rr65 _ ih F y0 y1 y2 σ))) jnil) 59 54 [some (jmr 68), some (jmr 1), some (jmi v2), some (jmi v3), none] [] σ) rfl
  have rr2 : ∀ (fu : Nat) (v2 : Int) (σ : jxS), jRf X (Quotient_placeOf_c2 F 68 fu v2 σ) 2 [some (jmr 68), some (jmr 1), some (jmi v2), none, none] [] σ := by
    intro  fu
    induction fu with
    | zero => intros; exact jRf_none
    | succ fu ih =>
      intro v2 σ
      exact jRf_by (jex_ok hG (cs := [(2, [some (.inr (some 68)), some (.inr (some 1)), some (.inl 0), none, none], [], fun xs σ => match xs with
      | [v2] => (Quotient_placeOf_c2 F 68 fu) v2 σ
      | _ => none), (54, [some (.inr (some 68)), some (.inr (some 1)), some (.inl 0), some (.inl 0), none], [], fun xs σ => match xs with
      | [v2, v3] => Quotient_placeOf_c54 F 68 F v2 v3 σ
      | _ => none)]) (jcon (jl1 (fun y0 => jl0 (fun σ => ih y0 σ))) (jcon (jl2 (fun y0 y1 => jl0 (fun σ => rr54 F y0 y1 σ))) jnil)) 59 2 [some (jmr 68), some (jmr 1), some (jmi v2), none, none] [] σ) rfl
  exact jRf_by (jex_ok hG (cs := [(2, [some (.inr (some 68)), some (.inr (some 1)), some (.inl 0), none, none], [], fun xs σ => match xs with
      | [v2] => Quotient_placeOf_c2 F 68 F v2 σ
      | _ => none)]) (jcon (jl1 (fun y0 => jl0 (fun σ => rr2 F y0 σ))) jnil) 59 0 [some (jmr 68), some (jmr 1), none, none, none] [] σ0) rfl
set_option maxRecDepth 100000 in
set_option maxHeartbeats 4000000 in
theorem jmet_Quotient_placeOf_73 (F : Nat) (sh : List jxC) (hs : jHas sh jc_C) (σ0 : jxS) (x : Int) (σ' : jxS) (h : Quotient_placeOf F 73 σ0 = some (x, σ')) : jMC yX6_placeOf cX6_placeOf 5 (jrt 1) 2 44 sh σ0 [(jmr 73), (jmr 1)] (jrv 1 x) σ' := by
  refine jMC_of (kd := 1) (by decide) rfl h ?_
  intro X hX
  have hG : jGd X (jE_Quotient_placeOf F) jtb_Quotient_placeOf := jGd_of hX jtk_Quotient_placeOf (jcon jfl_X6_25 jnil) jnil jnil (jcon (jsV jlk_X6_83 ⟨rfl, rfl⟩ (jad_Quotient_nextOf F sh hs)) (jcon (jsV jlk_X6_114 ⟨rfl, rfl⟩ (jad_Tape_size F sh (jh_CT hs))) (jcon (jsV jlk_X6_119 ⟨rfl, rfl⟩ (jad_Tape_at F sh (jh_CT hs))) (jcon (jsV jlk_X6_122 ⟨rfl, rfl⟩ (jad_Quotient_isKnown F sh hs)) jnil)))) hs
  have rr65 : ∀ (k54 : Int → Int → jxS → Option jxR) (h54 : ∀ v2 v3 σ, jRf X (k54 v2 v3 σ) 54 [some (jmr 73), some (jmr 1), some (jmi v2), some (jmi v3), none] [] σ) (fu : Nat) (v2 v3 v4 : Int) (σ : jxS), jRf X (Quotient_placeOf_c65 F 73 k54 fu v2 v3 v4 σ) 65 [some (jmr 73), some (jmr 1), some (jmi v2), some (jmi v3), some (jmi v4)] [] σ := by
    intro k54 h54 fu
    induction fu with
    | zero => intros; exact jRf_none
    | succ fu ih =>
      intro v2 v3 v4 σ
      exact jRf_by (jex_ok hG (cs := [(54, [some (.inr (some 73)), some (.inr (some 1)), some (.inl 0), some (.inl 0), none], [], fun xs σ => match xs with
      | [v2, v3] => k54 v2 v3 σ
      | _ => none), (65, [some (.inr (some 73)), some (.inr (some 1)), some (.inl 0), some (.inl 0), some (.inl 0)], [], fun xs σ => match xs with
      | [v2, v3, v4] => (Quotient_placeOf_c65 F 73 k54 fu) v2 v3 v4 σ
      | _ => none)]) (jcon (jl2 (fun y0 y1 => jl0 (fun σ => h54 y0 y1 σ))) (jcon (jl3 (fun y0 y1 y2 => jl0 (fun σ => ih y0 y1 y2 σ))) jnil)) 59 65 [some (jmr 73), some (jmr 1), some (jmi v2), some (jmi v3), some (jmi v4)] [] σ) rfl
  have rr54 : ∀ (fu : Nat) (v2 v3 : Int) (σ : jxS), jRf X (Quotient_placeOf_c54 F 73 fu v2 v3 σ) 54 [some (jmr 73), some (jmr 1), some (jmi v2), some (jmi v3), none] [] σ := by
    intro  fu
    induction fu with
    | zero => intros; exact jRf_none
    | succ fu ih =>
      intro v2 v3 σ
      exact jRf_by (jex_ok hG (cs := [(65, [some (.inr (some 73)), some (.inr (some 1)), some (.inl 0), some (.inl 0), some (.inl 0)], [], fun xs σ => match xs with
      | [v2, v3, v4] => Quotient_placeOf_c65 F 73 (Quotient_placeOf_c54 F 73 fu) F v2 v3 v4 σ
      | _ => none)]) (jcon (jl3 (fun y0 y1 y2 => jl0 (fun σ => rr65 _ ih F y0 y1 y2 σ))) jnil) 59 54 [some (jmr 73), some (jmr 1), some (jmi v2), some (jmi v3), none] [] σ) rfl
  have rr2 : ∀ (fu : Nat) (v2 : Int) (σ : jxS), jRf X (Quotient_placeOf_c2 F 73 fu v2 σ) 2 [some (jmr 73), some (jmr 1), some (jmi v2), none, none] [] σ := by
    intro  fu
    induction fu with
    | zero => intros; exact jRf_none
    | succ fu ih =>
      intro v2 σ
      exact jRf_by (jex_ok hG (cs := [(2, [some (.inr (some 73)), some (.inr (some 1)), some (.inl 0), none, none], [], fun xs σ => match xs with
      | [v2] => (Quotient_placeOf_c2 F 73 fu) v2 σ
      | _ => none), (54, [some (.inr (some 73)), some (.inr (some 1)), some (.inl 0), some (.inl 0), none], [], fun xs σ => match xs with
      | [v2, v3] => Quotient_placeOf_c54 F 73 F v2 v3 σ
      | _ => none)]) (jcon (jl1 (fun y0 => jl0 (fun σ => ih y0 σ))) (jcon (jl2 (fun y0 y1 => jl0 (fun σ => rr54 F y0 y1 σ))) jnil)) 59 2 [some (jmr 73), some (jmr 1), some (jmi v2), none, none] [] σ) rfl
  exact jRf_by (jex_ok hG (cs := [(2, [some (.inr (some 73)), some (.inr (some 1)), some (.inl 0), none, none], [], fun xs σ => match xs with
      | [v2] => Quotient_placeOf_c2 F 73 F v2 σ
      | _ => none)]) (jcon (jl1 (fun y0 => jl0 (fun σ => rr2 F y0 σ))) jnil) 59 0 [some (jmr 73), some (jmr 1), none, none, none] [] σ0) rfl
theorem jmet_Quotient_placeOf (F : Nat) (q : Nat) (hq : q ∈ jids_Quotient_placeOf_q) (sh : List jxC) (hs : jHas sh jc_C) (σ0 : jxS) (x : Int) (σ' : jxS) (h : Quotient_placeOf F q σ0 = some (x, σ')) : jMC yX6_placeOf cX6_placeOf 5 (jrt 1) 2 44 sh σ0 [(jmr q), (jmr 1)] (jrv 1 x) σ' := by
  simp only [jids_Quotient_placeOf_q, List.mem_cons, List.not_mem_nil, or_false] at hq
  rcases hq with rfl | rfl | rfl | rfl | rfl | rfl
  · exact jmet_Quotient_placeOf_48 F sh hs σ0  x σ' h
  · exact jmet_Quotient_placeOf_53 F sh hs σ0  x σ' h
  · exact jmet_Quotient_placeOf_58 F sh hs σ0  x σ' h
  · exact jmet_Quotient_placeOf_63 F sh hs σ0  x σ' h
  · exact jmet_Quotient_placeOf_68 F sh hs σ0  x σ' h
  · exact jmet_Quotient_placeOf_73 F sh hs σ0  x σ' h
theorem jad_Quotient_placeOf (F : Nat) (sh : List jxC) (hs : jHas sh jc_C) : jAdV (jca_Quotient_placeOf F) yX6_placeOf cX6_placeOf 5 1 2 44 1 sh := by
  intro as σ k x σ' h
  unfold jca_Quotient_placeOf at h
  split at h
  · rename_i t0 t1
    obtain ⟨g0, hh1⟩ := jcond h
    have g0 := jin_of g0
    obtain ⟨g1, hh2⟩ := jcond hh1
    obtain rfl := jbeq g1
    obtain ⟨r, h1, h2⟩ := Option.bind_eq_some_iff.mp hh2
    exact ⟨_, _, h2, (by obtain ⟨fks, hfk⟩ := jrc_Quotient hs g0; exact ⟨_, _, _, _, _, _, rfl, rfl, hfk, rfl⟩), jmet_Quotient_placeOf F t0 g0 sh hs σ  r.1 r.2 h1⟩
  · cases h
def jtb_LL1_place : List (Nat × Instr) := [(0, .aload_n 0), (1, .iload_n 1), (2, .invokevirtual 193), (5, .astore_n 2), (6, .aload_n 2), (7, .ifnonnull 5), (10, .iconst (-1)), (11, .ireturn), (12, .aload_n 2), (13, .aload_n 0), (14, .getfield 10), (17, .invokevirtual 232), (20, .istore_n 3), (21, .aload_n 0), (22, .getfield 10), (25, .iconst 0), (26, .invokevirtual 41), (29, .pop), (30, .iload_n 3), (31, .ireturn)]
theorem jtk_LL1_place : jtok cX11_place jtb_LL1_place = true := by decide +kernel
set_option maxRecDepth 100000 in
theorem jlk_X11_232 : jLkV RX11 232 yX6_placeOf cX6_placeOf 5 1 1 := ⟨(jTB_at 1311 rfl rfl), (jTB_at 1312 rfl rfl), (jTB_at 1313 rfl rfl), (jTB_at 128 rfl rfl), jTB_at 1314 rfl rfl, ⟨by decide, by decide, by decide +kernel⟩⟩
def jE_LL1_place (F : Nat) : jxE := jmk [(10, 11, 0)] [] [] [(41, (2, false), jca_Tape_cutTo F), (193, (2, false), jca_LL1_quotientOf F), (232, (2, false), jca_Quotient_placeOf F)] 1 jc_L1
set_option maxRecDepth 100000 in
set_option maxHeartbeats 4000000 in
theorem jmet_LL1_place (F : Nat) (sh : List jxC) (hs : jHas sh jc_L1) (σ0 : jxS) (v1 : Int) (x : Int) (σ' : jxS) (h : LL1_place F σ0 v1 = some (x, σ')) : jMC yX11_place cX11_place 4 (jrt 1) 7 165 sh σ0 [(jmr 0), (jmi v1)] (jrv 1 x) σ' := by
  refine jMC_of (kd := 1) (by decide) rfl h ?_
  intro X hX
  have hG : jGd X (jE_LL1_place F) jtb_LL1_place := jGd_of hX jtk_LL1_place (jcon jfl_X11_10 jnil) jnil jnil (jcon (jsV jlk_X11_41 ⟨rfl, rfl⟩ (jad_Tape_cutTo F sh (jh_L1T hs))) (jcon (jsV jlk_X11_193 ⟨rfl, rfl⟩ (jad_LL1_quotientOf F sh hs)) (jcon (jsV jlk_X11_232 ⟨rfl, rfl⟩ (jad_Quotient_placeOf F sh (jh_L1C hs))) jnil))) hs
  exact jRf_by (jex_ok hG (cs := []) jnil 23 0 [some (jmr 0), some (jmi v1), none, none] [] σ0) rfl
theorem jad_LL1_place (F : Nat) (sh : List jxC) (hs : jHas sh jc_L1) : jAdV (jca_LL1_place F) yX11_place cX11_place 4 1 7 165 1 sh := by
  intro as σ k x σ' h
  unfold jca_LL1_place at h
  split at h
  · rename_i t0 v1
    obtain ⟨g0, hh1⟩ := jcond h
    obtain rfl := jbeq g0
    obtain ⟨r, h1, h2⟩ := Option.bind_eq_some_iff.mp hh1
    exact ⟨_, _, h2, ⟨_, _, _, _, _, _, rfl, rfl, (hs _ (jkf_in (l := jc_L1) (idx := 0) rfl)).1, rfl⟩, jmet_LL1_place F  sh hs σ v1 r.1 r.2 h1⟩
  · cases h
def jtb_Hand_undoable : List (Nat × Instr) := [(0, .aload_n 0), (1, .getfield 25), (4, .ireturn)]
theorem jtk_Hand_undoable : jtok cX2_undoable jtb_Hand_undoable = true := by decide +kernel
def jE_Hand_undoable (F : Nat) : jxE := jmk [(25, 2, 4)] [] [] [] 1 jc_C
set_option maxRecDepth 100000 in
set_option maxHeartbeats 4000000 in
theorem jmet_Hand_undoable (F : Nat) (sh : List jxC) (hs : jHas sh jc_C) (σ0 : jxS) (x : Int) (σ' : jxS) (h : Hand_undoable F σ0 = some (x, σ')) : jMC yX2_undoable cX2_undoable 1 (jrt 1) 0 0 sh σ0 [(jmr 29)] (jrv 1 x) σ' := by
  refine jMC_of (kd := 1) (by decide) rfl h ?_
  intro X hX
  have hG : jGd X (jE_Hand_undoable F) jtb_Hand_undoable := jGd_of hX jtk_Hand_undoable (jcon jfl_X2_25 jnil) jnil jnil jnil hs
  exact jRf_by (jex_ok hG (cs := []) jnil 6 0 [some (jmr 29)] [] σ0) rfl
theorem jad_Hand_undoable (F : Nat) (sh : List jxC) (hs : jHas sh jc_C) : jAdV (jca_Hand_undoable F) yX2_undoable cX2_undoable 1 1 0 0 0 sh := by
  intro as σ k x σ' h
  unfold jca_Hand_undoable at h
  split at h
  · rename_i t0
    obtain ⟨g0, hh1⟩ := jcond h
    obtain rfl := jbeq g0
    obtain ⟨r, h1, h2⟩ := Option.bind_eq_some_iff.mp hh1
    exact ⟨_, _, h2, ⟨_, _, _, _, _, _, rfl, rfl, (hs _ (jkf_in (l := jc_C) (idx := 29) rfl)).1, rfl⟩, jmet_Hand_undoable F  sh hs σ  r.1 r.2 h1⟩
  · cases h
def jtb_Hand_keptBits : List (Nat × Instr) := [(0, .iconst 0), (1, .istore_n 1), (2, .iconst 0), (3, .istore_n 2), (4, .iload_n 2), (5, .iconst 3), (6, .if_icmp .ge 24), (9, .aload_n 0), (10, .getfield 15), (13, .iload_n 2), (14, .iaload), (15, .ifCond .lt 9), (18, .iload_n 1), (19, .iconst 1), (20, .iload_n 2), (21, .ishl), (22, .ior), (23, .istore_n 1), (24, .iinc 2 1), (27, .goto (-23)), (30, .iload_n 1), (31, .ireturn)]
theorem jtk_Hand_keptBits : jtok cX2_keptBits jtb_Hand_keptBits = true := by decide +kernel
def jE_Hand_keptBits (F : Nat) : jxE := jmk [(15, 2, 1)] [] [] [] 1 jc_C
set_option maxRecDepth 100000 in
set_option maxHeartbeats 4000000 in
theorem jmet_Hand_keptBits (F : Nat) (sh : List jxC) (hs : jHas sh jc_C) (σ0 : jxS) (x : Int) (σ' : jxS) (h : Hand_keptBits F σ0 = some (x, σ')) : jMC yX2_keptBits cX2_keptBits 3 (jrt 1) 0 0 sh σ0 [(jmr 29)] (jrv 1 x) σ' := by
  refine jMC_of (kd := 1) (by decide) rfl h ?_
  intro X hX
  have hG : jGd X (jE_Hand_keptBits F) jtb_Hand_keptBits := jGd_of hX jtk_Hand_keptBits (jcon jfl_X2_15 jnil) jnil jnil jnil hs
  have rr4 : ∀ (fu : Nat) (v1 v2 : Int) (σ : jxS), jRf X (Hand_keptBits_c4 F fu v1 v2 σ) 4 [some (jmr 29), some (jmi v1), some (jmi v2)] [] σ := by
    intro  fu
    induction fu with
    | zero => intros; exact jRf_none
    | succ fu ih =>
      intro v1 v2 σ
      exact jRf_by (jex_ok hG (cs := [(4, [some (.inr (some 29)), some (.inl 0), some (.inl 0)], [], fun xs σ => match xs with
      | [v1, v2] => (Hand_keptBits_c4 F fu) v1 v2 σ
      | _ => none)]) (jcon (jl2 (fun y0 y1 => jl0 (fun σ => ih y0 y1 σ))) jnil) 25 4 [some (jmr 29), some (jmi v1), some (jmi v2)] [] σ) rfl
  exact jRf_by (jex_ok hG (cs := [(4, [some (.inr (some 29)), some (.inl 0), some (.inl 0)], [], fun xs σ => match xs with
      | [v1, v2] => Hand_keptBits_c4 F F v1 v2 σ
      | _ => none)]) (jcon (jl2 (fun y0 y1 => jl0 (fun σ => rr4 F y0 y1 σ))) jnil) 25 0 [some (jmr 29), none, none] [] σ0) rfl
theorem jad_Hand_keptBits (F : Nat) (sh : List jxC) (hs : jHas sh jc_C) : jAdV (jca_Hand_keptBits F) yX2_keptBits cX2_keptBits 3 1 0 0 0 sh := by
  intro as σ k x σ' h
  unfold jca_Hand_keptBits at h
  split at h
  · rename_i t0
    obtain ⟨g0, hh1⟩ := jcond h
    obtain rfl := jbeq g0
    obtain ⟨r, h1, h2⟩ := Option.bind_eq_some_iff.mp hh1
    exact ⟨_, _, h2, ⟨_, _, _, _, _, _, rfl, rfl, (hs _ (jkf_in (l := jc_C) (idx := 29) rfl)).1, rfl⟩, jmet_Hand_keptBits F  sh hs σ  r.1 r.2 h1⟩
  · cases h
def jtb_LL1_count : List (Nat × Instr) := [(0, .iload_n 1), (1, .tableswitch 140 0 5 #[39, 61, 83, 88, 110, 132]), (40, .aload_n 0), (41, .getfield 48), (44, .ifnonnull 7), (51, .aload_n 0), (52, .getfield 48), (55, .getfield 62), (58, .invokevirtual 236), (61, .ireturn), (62, .aload_n 0), (63, .getfield 48), (66, .ifnonnull 7), (73, .aload_n 0), (74, .getfield 48), (77, .getfield 62), (80, .invokevirtual 79), (83, .ireturn), (84, .aload_n 0), (85, .getfield 25), (88, .ireturn), (89, .aload_n 0), (90, .getfield 48), (93, .ifnonnull 7), (100, .aload_n 0), (101, .getfield 48), (104, .getfield 108), (107, .invokevirtual 239), (110, .ireturn), (111, .aload_n 0), (112, .getfield 48), (115, .ifnonnull 7), (122, .aload_n 0), (123, .getfield 48), (126, .getfield 108), (129, .invokevirtual 242), (132, .ireturn), (133, .aload_n 0), (134, .getfield 10), (137, .invokevirtual 37), (140, .ireturn), (141, .iconst (-1)), (142, .ireturn)]
theorem jtk_LL1_count : jtok cX11_count jtb_LL1_count = true := by decide +kernel
set_option maxRecDepth 100000 in
theorem jlk_X11_236 : jLkV RX11 236 yX8_digitCount cX8_digitCount 1 1 0 := ⟨(jTB_at 1322 rfl rfl), (jTB_at 784 rfl rfl), (jTB_at 785 rfl rfl), (jTB_at 121 rfl rfl), jTB_at 786 rfl rfl, ⟨by decide, by decide, by decide +kernel⟩⟩
set_option maxRecDepth 100000 in
theorem jlk_X11_239 : jLkV RX11 239 yX2_undoable cX2_undoable 1 1 0 := ⟨(jTB_at 1323 rfl rfl), (jTB_at 1324 rfl rfl), (jTB_at 1325 rfl rfl), (jTB_at 124 rfl rfl), jTB_at 1326 rfl rfl, ⟨by decide, by decide, by decide +kernel⟩⟩
set_option maxRecDepth 100000 in
theorem jlk_X11_242 : jLkV RX11 242 yX2_keptBits cX2_keptBits 3 1 0 := ⟨(jTB_at 1327 rfl rfl), (jTB_at 1328 rfl rfl), (jTB_at 1329 rfl rfl), (jTB_at 124 rfl rfl), jTB_at 1330 rfl rfl, ⟨by decide, by decide, by decide +kernel⟩⟩
def jE_LL1_count (F : Nat) : jxE := jmk [(10, 11, 0), (25, 11, 3), (48, 11, 2), (62, 0, 0), (108, 0, 3)] [] [] [(37, (1, false), jca_Tape_size F), (79, (1, false), jca_Rules_extraLines F), (236, (1, false), jca_Rules_digitCount F), (239, (1, false), jca_Hand_undoable F), (242, (1, false), jca_Hand_keptBits F)] 1 jc_L1
set_option maxRecDepth 100000 in
set_option maxHeartbeats 4000000 in
theorem jmet_LL1_count (F : Nat) (sh : List jxC) (hs : jHas sh jc_L1) (σ0 : jxS) (v1 : Int) (x : Int) (σ' : jxS) (h : LL1_count F σ0 v1 = some (x, σ')) : jMC yX11_count cX11_count 2 (jrt 1) 1 22 sh σ0 [(jmr 0), (jmi v1)] (jrv 1 x) σ' := by
  refine jMC_of (kd := 1) (by decide) rfl h ?_
  intro X hX
  have hG : jGd X (jE_LL1_count F) jtb_LL1_count := jGd_of hX jtk_LL1_count (jcon jfl_X11_10 (jcon jfl_X11_25 (jcon jfl_X11_48 (jcon jfl_X11_62 (jcon jfl_X11_108 jnil))))) jnil jnil (jcon (jsV jlk_X11_37 ⟨rfl, rfl⟩ (jad_Tape_size F sh (jh_L1T hs))) (jcon (jsV jlk_X11_79 ⟨rfl, rfl⟩ (jad_Rules_extraLines F sh (jh_L1C hs))) (jcon (jsV jlk_X11_236 ⟨rfl, rfl⟩ (jad_Rules_digitCount F sh (jh_L1C hs))) (jcon (jsV jlk_X11_239 ⟨rfl, rfl⟩ (jad_Hand_undoable F sh (jh_L1C hs))) (jcon (jsV jlk_X11_242 ⟨rfl, rfl⟩ (jad_Hand_keptBits F sh (jh_L1C hs))) jnil))))) hs
  exact jRf_by (jex_ok hG (cs := []) jnil 54 0 [some (jmr 0), some (jmi v1)] [] σ0) rfl
theorem jad_LL1_count (F : Nat) (sh : List jxC) (hs : jHas sh jc_L1) : jAdV (jca_LL1_count F) yX11_count cX11_count 2 1 1 22 1 sh := by
  intro as σ k x σ' h
  unfold jca_LL1_count at h
  split at h
  · rename_i t0 v1
    obtain ⟨g0, hh1⟩ := jcond h
    obtain rfl := jbeq g0
    obtain ⟨r, h1, h2⟩ := Option.bind_eq_some_iff.mp hh1
    exact ⟨_, _, h2, ⟨_, _, _, _, _, _, rfl, rfl, (hs _ (jkf_in (l := jc_L1) (idx := 0) rfl)).1, rfl⟩, jmet_LL1_count F  sh hs σ v1 r.1 r.2 h1⟩
  · cases h
def jtb_LL0_feed : List (Nat × Instr) := [(0, .aload_n 0), (1, .getfield 10), (4, .invokevirtual 29), (7, .ifCond .ne 5), (10, .iconst (-1)), (11, .ireturn), (12, .aload_n 0), (13, .getfield 10), (16, .iload_n 1), (17, .invokevirtual 33), (20, .aload_n 0), (21, .getfield 10), (24, .iload_n 2), (25, .invokevirtual 33), (28, .aload_n 0), (29, .getfield 10), (32, .iload_n 3), (33, .invokevirtual 33), (36, .aload_n 0), (37, .getfield 10), (40, .iload 4), (42, .invokevirtual 33), (45, .aload_n 0), (46, .getfield 10), (49, .iload 5), (51, .invokevirtual 33), (54, .aload_n 0), (55, .getfield 10), (58, .invokevirtual 37), (61, .ireturn)]
theorem jtk_LL0_feed : jtok cX11_feed jtb_LL0_feed = true := by decide +kernel
def jE_LL0_feed (F : Nat) : jxE := jmk [(10, 11, 0)] [] [] [(29, (1, false), jca_Tape_hasRoom F), (33, (2, false), jca_Tape_append F), (37, (1, false), jca_Tape_size F)] 1 jc_L0
set_option maxRecDepth 100000 in
set_option maxHeartbeats 4000000 in
theorem jmet_LL0_feed (F : Nat) (sh : List jxC) (hs : jHas sh jc_L0) (σ0 : jxS) (v1 : Int) (v2 : Int) (v3 : Int) (v4 : Int) (v5 : Int) (x : Int) (σ' : jxS) (h : LL0_feed F σ0 v1 v2 v3 v4 v5 = some (x, σ')) : jMC yX11_feed cX11_feed 6 (jrt 1) 1 22 sh σ0 [(jmr 0), (jmi v1), (jmi v2), (jmi v3), (jmi v4), (jmi v5)] (jrv 1 x) σ' := by
  refine jMC_of (kd := 1) (by decide) rfl h ?_
  intro X hX
  have hG : jGd X (jE_LL0_feed F) jtb_LL0_feed := jGd_of hX jtk_LL0_feed (jcon jfl_X11_10 jnil) jnil jnil (jcon (jsV jlk_X11_29 ⟨rfl, rfl⟩ (jad_Tape_hasRoom F sh (jh_L0T hs))) (jcon (jsV jlk_X11_33 ⟨rfl, rfl⟩ (jad_Tape_append F sh (jh_L0T hs))) (jcon (jsV jlk_X11_37 ⟨rfl, rfl⟩ (jad_Tape_size F sh (jh_L0T hs))) jnil))) hs
  exact jRf_by (jex_ok hG (cs := []) jnil 33 0 [some (jmr 0), some (jmi v1), some (jmi v2), some (jmi v3), some (jmi v4), some (jmi v5)] [] σ0) rfl
theorem jad_LL0_feed (F : Nat) (sh : List jxC) (hs : jHas sh jc_L0) : jAdV (jca_LL0_feed F) yX11_feed cX11_feed 6 1 1 22 5 sh := by
  intro as σ k x σ' h
  unfold jca_LL0_feed at h
  split at h
  · rename_i t0 v1 v2 v3 v4 v5
    obtain ⟨g0, hh1⟩ := jcond h
    obtain rfl := jbeq g0
    obtain ⟨r, h1, h2⟩ := Option.bind_eq_some_iff.mp hh1
    exact ⟨_, _, h2, ⟨_, _, _, _, _, _, rfl, rfl, (hs _ (jkf_in (l := jc_L0) (idx := 0) rfl)).1, rfl⟩, jmet_LL0_feed F  sh hs σ v1 v2 v3 v4 v5 r.1 r.2 h1⟩
  · cases h
def jtb_LL0_end : List (Nat × Instr) := [(0, .aload_n 0), (1, .getfield 10), (4, .iload_n 1), (5, .invokevirtual 41), (8, .ifCond .eq 7), (11, .iload_n 1), (12, .goto 4), (15, .iconst (-1)), (16, .ireturn)]
theorem jtk_LL0_end : jtok cX11_end jtb_LL0_end = true := by decide +kernel
def jE_LL0_end (F : Nat) : jxE := jmk [(10, 11, 0)] [] [] [(41, (2, false), jca_Tape_cutTo F)] 1 jc_L0
set_option maxRecDepth 100000 in
set_option maxHeartbeats 4000000 in
theorem jmet_LL0_end (F : Nat) (sh : List jxC) (hs : jHas sh jc_L0) (σ0 : jxS) (v1 : Int) (x : Int) (σ' : jxS) (h : LL0_end F σ0 v1 = some (x, σ')) : jMC yX11_end cX11_end 2 (jrt 1) 1 21 sh σ0 [(jmr 0), (jmi v1)] (jrv 1 x) σ' := by
  refine jMC_of (kd := 1) (by decide) rfl h ?_
  intro X hX
  have hG : jGd X (jE_LL0_end F) jtb_LL0_end := jGd_of hX jtk_LL0_end (jcon jfl_X11_10 jnil) jnil jnil (jcon (jsV jlk_X11_41 ⟨rfl, rfl⟩ (jad_Tape_cutTo F sh (jh_L0T hs))) jnil) hs
  exact jRf_by (jex_ok hG (cs := []) jnil 12 0 [some (jmr 0), some (jmi v1)] [] σ0) rfl
theorem jad_LL0_end (F : Nat) (sh : List jxC) (hs : jHas sh jc_L0) : jAdV (jca_LL0_end F) yX11_end cX11_end 2 1 1 21 1 sh := by
  intro as σ k x σ' h
  unfold jca_LL0_end at h
  split at h
  · rename_i t0 v1
    obtain ⟨g0, hh1⟩ := jcond h
    obtain rfl := jbeq g0
    obtain ⟨r, h1, h2⟩ := Option.bind_eq_some_iff.mp hh1
    exact ⟨_, _, h2, ⟨_, _, _, _, _, _, rfl, rfl, (hs _ (jkf_in (l := jc_L0) (idx := 0) rfl)).1, rfl⟩, jmet_LL0_end F  sh hs σ v1 r.1 r.2 h1⟩
  · cases h
def jtb_LL0_moves : List (Nat × Instr) := [(0, .aload_n 0), (1, .getfield 48), (4, .ifnull 10), (14, .iconst (-1)), (15, .goto 14), (29, .ireturn)]
theorem jtk_LL0_moves : jtok cX11_moves jtb_LL0_moves = true := by decide +kernel
def jE_LL0_moves (F : Nat) : jxE := jmk [(48, 11, 2)] [] [] [] 1 jc_L0
set_option maxRecDepth 100000 in
set_option maxHeartbeats 4000000 in
theorem jmet_LL0_moves (F : Nat) (sh : List jxC) (hs : jHas sh jc_L0) (σ0 : jxS) (v1 : Int) (x : Int) (σ' : jxS) (h : LL0_moves F σ0 v1 = some (x, σ')) : jMC yX11_moves cX11_moves 2 (jrt 1) 0 0 sh σ0 [(jmr 0), (jmi v1)] (jrv 1 x) σ' := by
  refine jMC_of (kd := 1) (by decide) rfl h ?_
  intro X hX
  have hG : jGd X (jE_LL0_moves F) jtb_LL0_moves := jGd_of hX jtk_LL0_moves (jcon jfl_X11_48 jnil) jnil jnil jnil hs
  exact jRf_by (jex_ok hG (cs := []) jnil 17 0 [some (jmr 0), some (jmi v1)] [] σ0) rfl
theorem jad_LL0_moves (F : Nat) (sh : List jxC) (hs : jHas sh jc_L0) : jAdV (jca_LL0_moves F) yX11_moves cX11_moves 2 1 0 0 1 sh := by
  intro as σ k x σ' h
  unfold jca_LL0_moves at h
  split at h
  · rename_i t0 v1
    obtain ⟨g0, hh1⟩ := jcond h
    obtain rfl := jbeq g0
    obtain ⟨r, h1, h2⟩ := Option.bind_eq_some_iff.mp hh1
    exact ⟨_, _, h2, ⟨_, _, _, _, _, _, rfl, rfl, (hs _ (jkf_in (l := jc_L0) (idx := 0) rfl)).1, rfl⟩, jmet_LL0_moves F  sh hs σ v1 r.1 r.2 h1⟩
  · cases h
def jtb_LL0_option : List (Nat × Instr) := [(0, .aload_n 0), (1, .getfield 48), (4, .ifnull 19), (23, .iconst (-1)), (24, .ireturn)]
theorem jtk_LL0_option : jtok cX11_option jtb_LL0_option = true := by decide +kernel
def jE_LL0_option (F : Nat) : jxE := jmk [(48, 11, 2)] [] [] [] 1 jc_L0
set_option maxRecDepth 100000 in
set_option maxHeartbeats 4000000 in
theorem jmet_LL0_option (F : Nat) (sh : List jxC) (hs : jHas sh jc_L0) (σ0 : jxS) (v1 : Int) (v2 : Int) (v3 : Int) (x : Int) (σ' : jxS) (h : LL0_option F σ0 v1 v2 v3 = some (x, σ')) : jMC yX11_option cX11_option 5 (jrt 1) 0 0 sh σ0 [(jmr 0), (jmi v1), (jmi v2), (jmi v3)] (jrv 1 x) σ' := by
  refine jMC_of (kd := 1) (by decide) rfl h ?_
  intro X hX
  have hG : jGd X (jE_LL0_option F) jtb_LL0_option := jGd_of hX jtk_LL0_option (jcon jfl_X11_48 jnil) jnil jnil jnil hs
  exact jRf_by (jex_ok hG (cs := []) jnil 37 0 [some (jmr 0), some (jmi v1), some (jmi v2), some (jmi v3), none] [] σ0) rfl
theorem jad_LL0_option (F : Nat) (sh : List jxC) (hs : jHas sh jc_L0) : jAdV (jca_LL0_option F) yX11_option cX11_option 5 1 0 0 3 sh := by
  intro as σ k x σ' h
  unfold jca_LL0_option at h
  split at h
  · rename_i t0 v1 v2 v3
    obtain ⟨g0, hh1⟩ := jcond h
    obtain rfl := jbeq g0
    obtain ⟨r, h1, h2⟩ := Option.bind_eq_some_iff.mp hh1
    exact ⟨_, _, h2, ⟨_, _, _, _, _, _, rfl, rfl, (hs _ (jkf_in (l := jc_L0) (idx := 0) rfl)).1, rfl⟩, jmet_LL0_option F  sh hs σ v1 v2 v3 r.1 r.2 h1⟩
  · cases h
def jtb_LL0_nimber : List (Nat × Instr) := [(0, .aload_n 0), (1, .getfield 48), (4, .ifnull 10), (14, .iconst (-1)), (15, .goto 14), (29, .ireturn)]
theorem jtk_LL0_nimber : jtok cX11_nimber jtb_LL0_nimber = true := by decide +kernel
def jE_LL0_nimber (F : Nat) : jxE := jmk [(48, 11, 2)] [] [] [] 1 jc_L0
set_option maxRecDepth 100000 in
set_option maxHeartbeats 4000000 in
theorem jmet_LL0_nimber (F : Nat) (sh : List jxC) (hs : jHas sh jc_L0) (σ0 : jxS) (v1 : Int) (x : Int) (σ' : jxS) (h : LL0_nimber F σ0 v1 = some (x, σ')) : jMC yX11_nimber cX11_nimber 2 (jrt 1) 0 0 sh σ0 [(jmr 0), (jmi v1)] (jrv 1 x) σ' := by
  refine jMC_of (kd := 1) (by decide) rfl h ?_
  intro X hX
  have hG : jGd X (jE_LL0_nimber F) jtb_LL0_nimber := jGd_of hX jtk_LL0_nimber (jcon jfl_X11_48 jnil) jnil jnil jnil hs
  exact jRf_by (jex_ok hG (cs := []) jnil 17 0 [some (jmr 0), some (jmi v1)] [] σ0) rfl
theorem jad_LL0_nimber (F : Nat) (sh : List jxC) (hs : jHas sh jc_L0) : jAdV (jca_LL0_nimber F) yX11_nimber cX11_nimber 2 1 0 0 1 sh := by
  intro as σ k x σ' h
  unfold jca_LL0_nimber at h
  split at h
  · rename_i t0 v1
    obtain ⟨g0, hh1⟩ := jcond h
    obtain rfl := jbeq g0
    obtain ⟨r, h1, h2⟩ := Option.bind_eq_some_iff.mp hh1
    exact ⟨_, _, h2, ⟨_, _, _, _, _, _, rfl, rfl, (hs _ (jkf_in (l := jc_L0) (idx := 0) rfl)).1, rfl⟩, jmet_LL0_nimber F  sh hs σ v1 r.1 r.2 h1⟩
  · cases h
