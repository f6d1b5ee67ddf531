/-! Contracts: Pairs_search Board_pairsOf LL1_pairs Quotient_isSteady Board_proofOf LL1_proved -/
def jtb_Pairs_search : List (Nat × Instr) := [(0, .aload_n 0), (1, .getfield 15), (4, .iconst 0), (5, .invokestatic 25), (8, .aload_n 0), (9, .iconst 0), (10, .putfield 31), (13, .aload_n 0), (14, .iconst 0), (15, .putfield 35), (18, .aload_n 0), (19, .aload_n 1), (20, .invokevirtual 39), (23, .aload_n 0), (24, .iconst 0), (25, .invokevirtual 43), (28, .iconst 0), (29, .istore_n 2), (30, .iload_n 2), (31, .aload_n 0), (32, .getfield 31), (35, .if_icmp .ge 55), (38, .iload_n 2), (39, .sipush 2000), (42, .if_icmp .ge 48), (45, .aload_n 0), (46, .getfield 35), (49, .ifCond .ne 41), (52, .iconst 1), (53, .istore_n 3), (54, .iload_n 3), (55, .aload_n 1), (56, .invokevirtual 47), (59, .if_icmp .gt 25), (62, .aload_n 0), (63, .aload_n 0), (64, .aload_n 1), (65, .aload_n 0), (66, .getfield 11), (69, .iload_n 2), (70, .iaload), (71, .iload_n 3), (72, .invokevirtual 53), (75, .invokevirtual 43), (78, .iinc 3 1), (81, .goto (-27)), (84, .iinc 2 1), (87, .goto (-57)), (90, .aload_n 1), (91, .aload_n 0), (92, .getfield 35), (95, .ifCond .eq 8), (98, .bipush (-2)), (100, .goto 7), (103, .aload_n 0), (104, .getfield 31), (107, .putfield 57), (110, .aload_n 1), (111, .aload_n 0), (112, .getfield 35), (115, .ifCond .ne 18), (118, .aload_n 0), (119, .aload_n 1), (120, .invokevirtual 60), (123, .invokevirtual 63), (126, .ifCond .eq 7), (129, .iconst 1), (130, .goto 4), (133, .iconst 0), (134, .putfield 67), (137, .return_)]
theorem jtk_Pairs_search : jtok cX4_search jtb_Pairs_search = true := by decide +kernel
set_option maxRecDepth 100000 in
theorem jfl_X4_57 : jFl RX4 57 6 8 := ⟨RX6, TX6, 10, tyX6, rfl, by decide, jin_X6, tyX6_ok, nmX6, jow_X6, (Or.inr ⟨"LastLoses", (jNS_at 612 rfl rfl)⟩)⟩
set_option maxRecDepth 100000 in
theorem jfl_X4_67 : jFl RX4 67 6 9 := ⟨RX6, TX6, 10, tyX6, rfl, by decide, jin_X6, tyX6_ok, nmX6, jow_X6, (Or.inr ⟨"LastLoses", (jNS_at 615 rfl rfl)⟩)⟩
set_option maxRecDepth 100000 in
theorem jlk_X4_25 : jLkS RX4 25 yJ7_fill_53178 cJ7_fill_53178 4 0 2 := ⟨Or.inl (jTB_at 1241 rfl rfl), (jTB_at 687 rfl rfl), (jTB_at 130 rfl rfl), jTB_at 688 rfl rfl, ⟨by decide, by decide, by decide +kernel⟩⟩
set_option maxRecDepth 100000 in
theorem jlk_X4_39 : jLkV RX4 39 yX4_listMoves cX4_listMoves 4 0 1 := ⟨(jTB_at 1242 rfl rfl), (jTB_at 1244 rfl rfl), (jTB_at 42 rfl rfl), (jTB_at 127 rfl rfl), jTB_at 1245 rfl rfl, ⟨by decide, by decide, by decide +kernel⟩⟩
set_option maxRecDepth 100000 in
theorem jlk_X4_43 : jLkV RX4 43 yX4_insert cX4_insert 5 0 1 := ⟨(jTB_at 1258 rfl rfl), (jTB_at 1260 rfl rfl), (jTB_at 44 rfl rfl), (jTB_at 127 rfl rfl), jTB_at 1261 rfl rfl, ⟨by decide, by decide, by decide +kernel⟩⟩
set_option maxRecDepth 100000 in
theorem jlk_X4_53 : jLkV RX4 53 yX4_follow cX4_follow 9 1 3 := ⟨(jTB_at 1267 rfl rfl), (jTB_at 1269 rfl rfl), (jTB_at 46 rfl rfl), (jTB_at 127 rfl rfl), jTB_at 1270 rfl rfl, ⟨by decide, by decide, by decide +kernel⟩⟩
set_option maxRecDepth 100000 in
theorem jlk_X4_60 : jLkV RX4 60 yX6_lostSet cX6_lostSet 3 1 0 := ⟨(jTB_at 1272 rfl rfl), (jTB_at 1209 rfl rfl), (jTB_at 1210 rfl rfl), (jTB_at 128 rfl rfl), jTB_at 1211 rfl rfl, ⟨by decide, by decide, by decide +kernel⟩⟩
set_option maxRecDepth 100000 in
theorem jlk_X4_63 : jLkV RX4 63 yX4_allFit cX4_allFit 6 4 1 := ⟨(jTB_at 1273 rfl rfl), (jTB_at 1275 rfl rfl), (jTB_at 47 rfl rfl), (jTB_at 127 rfl rfl), jTB_at 1276 rfl rfl, ⟨by decide, by decide, by decide +kernel⟩⟩
def jE_Pairs_search (F : Nat) : jxE := jmk [(11, 4, 1), (15, 4, 2), (31, 4, 4), (35, 4, 5), (57, 6, 8), (67, 6, 9)] [] [] [(25, (2, true), jca_Arrays_fill_AIIV F), (39, (2, false), jca_Pairs_listMoves F), (43, (2, false), jca_Pairs_insert F), (47, (1, false), jca_Quotient_heaps F), (53, (4, false), jca_Pairs_follow F), (60, (1, false), jca_Quotient_lostSet F), (63, (2, false), jca_Pairs_allFit F)] 0 jc_C
set_option maxRecDepth 100000 in
set_option maxHeartbeats 4000000 in
theorem jmet_Pairs_search_48 (F : Nat) (sh : List jxC) (hs : jHas sh jc_C) (σ0 : jxS) (x : Int) (σ' : jxS) (h : Pairs_search F 48 σ0 = some (x, σ')) : jMC yX4_search cX4_search 4 (jrt 0) 4 93 sh σ0 [(jmr 44), (jmr 48)] (jrv 0 x) σ' := by
  refine jMC_of (kd := 0) (by decide) rfl h ?_
  intro X hX
  have hG : jGd X (jE_Pairs_search F) jtb_Pairs_search := jGd_of hX jtk_Pairs_search (jcon jfl_X4_11 (jcon jfl_X4_15 (jcon jfl_X4_31 (jcon jfl_X4_35 (jcon jfl_X4_57 (jcon jfl_X4_67 jnil)))))) jnil jnil (jcon (jsS jlk_X4_25 ⟨rfl, rfl⟩ (jad_Arrays_fill_AIIV F sh hs)) (jcon (jsV jlk_X4_39 ⟨rfl, rfl⟩ (jad_Pairs_listMoves F sh hs)) (jcon (jsV jlk_X4_43 ⟨rfl, rfl⟩ (jad_Pairs_insert F sh hs)) (jcon (jsV jlk_X4_47 ⟨rfl, rfl⟩ (jad_Quotient_heaps F sh hs)) (jcon (jsV jlk_X4_53 ⟨rfl, rfl⟩ (jad_Pairs_follow F sh hs)) (jcon (jsV jlk_X4_60 ⟨rfl, rfl⟩ (jad_Quotient_lostSet F sh hs)) (jcon (jsV jlk_X4_63 ⟨rfl, rfl⟩ (jad_Pairs_allFit F sh hs)) jnil))))))) hs
  have rr107 : ∀ (t0 : Int) (σ : jxS), jRf X (Pairs_search_c107 F 48 t0 σ) 107 [some (jmr 44), some (jmr 48), none, none] [(jmi t0), (jmr 48)] σ := by
    intro  t0 σ
    exact jRf_by (jex_ok hG (cs := []) jnil 74 107 [some (jmr 44), some (jmr 48), none, none] [(jmi t0), (jmr 48)] σ) rfl
  have rr90 : ∀ (σ : jxS), jRf X (Pairs_search_c90 F 48  σ) 90 [some (jmr 44), some (jmr 48), none, none] [] σ := by
    intro   σ
    exact jRf_by (jex_ok hG (cs := [(107, [some (.inr (some 44)), some (.inr (some 48)), none, none], [(.inl 0), (.inr (some 48))], fun xs σ => match xs with
      | [t0] => Pairs_search_c107 F 48 t0 σ
      | _ => none)]) (jcon (jl0 (jl1 (fun y0 => (fun σ => rr107 y0 σ)))) jnil) 74 90 [some (jmr 44), some (jmr 48), none, none] [] σ) rfl
  have rr54 : ∀ (k30 : Int → jxS → Option jxR) (h30 : ∀ v2 σ, jRf X (k30 v2 σ) 30 [some (jmr 44), some (jmr 48), some (jmi v2), none] [] σ) (fu : Nat) (v2 v3 : Int) (σ : jxS), jRf X (Pairs_search_c54 F 48 k30 fu v2 v3 σ) 54 [some (jmr 44), some (jmr 48), some (jmi v2), some (jmi v3)] [] σ := by
    intro k30 h30 fu
    induction fu with
    | zero => intros; exact jRf_none
    | succ fu ih =>
      intro v2 v3 σ
      exact jRf_by (jex_ok hG (cs := [(30, [some (.inr (some 44)), some (.inr (some 48)), some (.inl 0), none], [], fun xs σ => match xs with
      | [v2] => k30 v2 σ
      | _ => none), (54, [some (.inr (some 44)), some (.inr (some 48)), some (.inl 0), some (.inl 0)], [], fun xs σ => match xs with
      | [v2, v3] => (Pairs_search_c54 F 48 k30 fu) v2 v3 σ
      | _ => none)]) (jcon (jl1 (fun y0 => jl0 (fun σ => h30 y0 σ))) (jcon (jl2 (fun y0 y1 => jl0 (fun σ => ih y0 y1 σ))) jnil)) 74 54 [some (jmr 44), some (jmr 48), some (jmi v2), some (jmi v3)] [] σ) rfl
  have rr30 : ∀ (fu : Nat) (v2 : Int) (σ : jxS), jRf X (Pairs_search_c30 F 48 fu v2 σ) 30 [some (jmr 44), some (jmr 48), some (jmi v2), none] [] σ := by
    intro  fu
    induction fu with
    | zero => intros; exact jRf_none
    | succ fu ih =>
      intro v2 σ
      exact jRf_by (jex_ok hG (cs := [(54, [some (.inr (some 44)), some (.inr (some 48)), some (.inl 0), some (.inl 0)], [], fun xs σ => match xs with
      | [v2, v3] => Pairs_search_c54 F 48 (Pairs_search_c30 F 48 fu) F v2 v3 σ
      | _ => none), (90, [some (.inr (some 44)), some (.inr (some 48)), none, none], [], fun xs σ => match xs with
      | [] => Pairs_search_c90 F 48  σ
      | _ => none)]) (jcon (jl2 (fun y0 y1 => jl0 (fun σ => rr54 _ ih F y0 y1 σ))) (jcon (jl0 (jl0 (fun σ => rr90  σ))) jnil)) 74 30 [some (jmr 44), some (jmr 48), some (jmi v2), none] [] σ) rfl
  exact jRf_by (jex_ok hG (cs := [(30, [some (.inr (some 44)), some (.inr (some 48)), some (.inl 0), none], [], fun xs σ => match xs with
      | [v2] => Pairs_search_c30 F 48 F v2 σ
      | _ => none)]) (jcon (jl1 (fun y0 => jl0 (fun σ => rr30 F y0 σ))) jnil) 74 0 [some (jmr 44), some (jmr 48), none, none] [] σ0) rfl
set_option maxRecDepth 100000 in
set_option maxHeartbeats 4000000 in
theorem jmet_Pairs_search_53 (F : Nat) (sh : List jxC) (hs : jHas sh jc_C) (σ0 : jxS) (x : Int) (σ' : jxS) (h : Pairs_search F 53 σ0 = some (x, σ')) : jMC yX4_search cX4_search 4 (jrt 0) 4 93 sh σ0 [(jmr 44), (jmr 53)] (jrv 0 x) σ' := by
  refine jMC_of (kd := 0) (by decide) rfl h ?_
  intro X hX
  have hG : jGd X (jE_Pairs_search F) jtb_Pairs_search := jGd_of hX jtk_Pairs_search (jcon jfl_X4_11 (jcon jfl_X4_15 (jcon jfl_X4_31 (jcon jfl_X4_35 (jcon jfl_X4_57 (jcon jfl_X4_67 jnil)))))) jnil jnil (jcon (jsS jlk_X4_25 ⟨rfl, rfl⟩ (jad_Arrays_fill_AIIV F sh hs)) (jcon (jsV jlk_X4_39 ⟨rfl, rfl⟩ (jad_Pairs_listMoves F sh hs)) (jcon (jsV jlk_X4_43 ⟨rfl, rfl⟩ (jad_Pairs_insert F sh hs)) (jcon (jsV jlk_X4_47 ⟨rfl, rfl⟩ (jad_Quotient_heaps F sh hs)) (jcon (jsV jlk_X4_53 ⟨rfl, rfl⟩ (jad_Pairs_follow F sh hs)) (jcon (jsV jlk_X4_60 ⟨rfl, rfl⟩ (jad_Quotient_lostSet F sh hs)) (jcon (jsV jlk_X4_63 ⟨rfl, rfl⟩ (jad_Pairs_allFit F sh hs)) jnil))))))) hs
  have rr107 : ∀ (t0 : Int) (σ : jxS), jRf X (Pairs_search_c107 F 53 t0 σ) 107 [some (jmr 44), some (jmr 53), none, none] [(jmi t0), (jmr 53)] σ := by
    intro  t0 σ
    exact jRf_by (jex_ok hG (cs := []) jnil 74 107 [some (jmr 44), some (jmr 53), none, none] [(jmi t0), (jmr 53)] σ) rfl
  have rr90 : ∀ (σ : jxS), jRf X (Pairs_search_c90 F 53  σ) 90 [some (jmr 44), some (jmr 53), none, none] [] σ := by
    intro   σ
    exact jRf_by (jex_ok hG (cs := [(107, [some (.inr (some 44)), some (.inr (some 53)), none, none], [(.inl 0), (.inr (some 53))], fun xs σ => match xs with
      | [t0] => Pairs_search_c107 F 53 t0 σ
      | _ => none)]) (jcon (jl0 (jl1 (fun y0 => (fun σ => rr107 y0 σ)))) jnil) 74 90 [some (jmr 44), some (jmr 53), none, none] [] σ) rfl
  have rr54 : ∀ (k30 : Int → jxS → Option jxR) (h30 : ∀ v2 σ, jRf X (k30 v2 σ) 30 [some (jmr 44), some (jmr 53), some (jmi v2), none] [] σ) (fu : Nat) (v2 v3 : Int) (σ : jxS), jRf X (Pairs_search_c54 F 53 k30 fu v2 v3 σ) 54 [some (jmr 44), some (jmr 53), some (jmi v2), some (jmi v3)] [] σ := by
    intro k30 h30 fu
    induction fu with
    | zero => intros; exact jRf_none
    | succ fu ih =>
      intro v2 v3 σ
      exact jRf_by (jex_ok hG (cs := [(30, [some (.inr (some 44)), some (.inr (some 53)), some (.inl 0), none], [], fun xs σ => match xs with
      | [v2] => k30 v2 σ
      | _ => none), (54, [some (.inr (some 44)), some (.inr (some 53)), some (.inl 0), some (.inl 0)], [], fun xs σ => match xs with
      | [v2, v3] => (Pairs_search_c54 F 53 k30 fu) v2 v3 σ
      | _ => none)]) (jcon (jl1 (fun y0 => jl0 (fun σ => h30 y0 σ))) (jcon (jl2 (fun y0 y1 => jl0 (fun σ => ih y0 y1 σ))) jnil)) 74 54 [some (jmr 44), some (jmr 53), some (jmi v2), some (jmi v3)] [] σ) rfl
  have rr30 : ∀ (fu : Nat) (v2 : Int) (σ : jxS), jRf X (Pairs_search_c30 F 53 fu v2 σ) 30 [some (jmr 44), some (jmr 53), some (jmi v2), none] [] σ := by
    intro  fu
    induction fu with
    | zero => intros; exact jRf_none
    | succ fu ih =>
      intro v2 σ
      exact jRf_by (jex_ok hG (cs := [(54, [some (.inr (some 44)), some (.inr (some 53)), some (.inl 0), some (.inl 0)], [], fun xs σ => match xs with
      | [v2, v3] => Pairs_search_c54 F 53 (Pairs_search_c30 F 53 fu) F v2 v3 σ
      | _ => none), (90, [some (.inr (some 44)), some (.inr (some 53)), none, none], [], fun xs σ => match xs with
      | [] => Pairs_search_c90 F 53  σ
      | _ => none)]) (jcon (jl2 (fun y0 y1 => jl0 (fun σ => rr54 _ ih F y0 y1 σ))) (jcon (jl0 (jl0 (fun σ => rr90  σ))) jnil)) 74 30 [some (jmr 44), some (jmr 53), some (jmi v2), none] [] σ) rfl
  exact jRf_by (jex_ok hG (cs := [(30, [some (.inr (some 44)), some (.inr (some 53)), some (.inl 0), none], [], fun xs σ => match xs with
      | [v2] => Pairs_search_c30 F 53 F v2 σ
      | _ => none)]) (jcon (jl1 (fun y0 => jl0 (fun σ => rr30 F y0 σ))) jnil) 74 0 [some (jmr 44), some (jmr 53), none, none] [] σ0) rfl
set_option maxRecDepth 100000 in
set_option maxHeartbeats 4000000 in
theorem jmet_Pairs_search_58 (F : Nat) (sh : List jxC) (hs : jHas sh jc_C) (σ0 : jxS) (x : Int) (σ' : jxS) (h : Pairs_search F 58 σ0 = some (x, σ')) : jMC yX4_search cX4_search 4 (jrt 0) 4 93 sh σ0 [(jmr 44), (jmr 58)] (jrv 0 x) σ' := by
  refine jMC_of (kd := 0) (by decide) rfl h ?_
  intro X hX
  have hG : jGd X (jE_Pairs_search F) jtb_Pairs_search := jGd_of hX jtk_Pairs_search (jcon jfl_X4_11 (jcon jfl_X4_15 (jcon jfl_X4_31 (jcon jfl_X4_35 (jcon jfl_X4_57 (jcon jfl_X4_67 jnil)))))) jnil jnil (jcon (jsS jlk_X4_25 ⟨rfl, rfl⟩ (jad_Arrays_fill_AIIV F sh hs)) (jcon (jsV jlk_X4_39 ⟨rfl, rfl⟩ (jad_Pairs_listMoves F sh hs)) (jcon (jsV jlk_X4_43 ⟨rfl, rfl⟩ (jad_Pairs_insert F sh hs)) (jcon (jsV jlk_X4_47 ⟨rfl, rfl⟩ (jad_Quotient_heaps F sh hs)) (jcon (jsV jlk_X4_53 ⟨rfl, rfl⟩ (jad_Pairs_follow F sh hs)) (jcon (jsV jlk_X4_60 ⟨rfl, rfl⟩ (jad_Quotient_lostSet F sh hs)) (jcon (jsV jlk_X4_63 ⟨rfl, rfl⟩ (jad_Pairs_allFit F sh hs)) jnil))))))) hs
  have rr107 : ∀ (t0 : Int) (σ : jxS), jRf X (Pairs_search_c107 F 58 t0 σ) 107 [some (jmr 44), some (jmr 58), none, none] [(jmi t0), (jmr 58)] σ := by
    intro  t0 σ
    exact jRf_by (jex_ok hG (cs := []) jnil 74 107 [some (jmr 44), some (jmr 58), none, none] [(jmi t0), (jmr 58)] σ) rfl
  have rr90 : ∀ (σ : jxS), jRf X (Pairs_search_c90 F 58  σ) 90 [some (jmr 44), some (jmr 58), none, none] [] σ := by
    intro   σ
    exact jRf_by (jex_ok hG (cs := [(107, [some (.inr (some 44)), some (.inr (some 58)), none, none], [(.inl 0), (.inr (some 58))], fun xs σ => match xs with
      | [t0] => Pairs_search_c107 F 58 t0 σ
      | _ => none)]) (jcon (jl0 (jl1 (fun y0 => (fun σ => rr107 y0 σ)))) jnil) 74 90 [some (jmr 44), some (jmr 58), none, none] [] σ) rfl
  have rr54 : ∀ (k30 : Int → jxS → Option jxR) (h30 : ∀ v2 σ, jRf X (k30 v2 σ) 30 [some (jmr 44), some (jmr 58), some (jmi v2), none] [] σ) (fu : Nat) (v2 v3 : Int) (σ : jxS), jRf X (Pairs_search_c54 F 58 k30 fu v2 v3 σ) 54 [some (jmr 44), some (jmr 58), some (jmi v2), some (jmi v3)] [] σ := by
    intro k30 h30 fu
    induction fu with
    | zero => intros; exact jRf_none
    | succ fu ih =>
      intro v2 v3 σ
      exact jRf_by (jex_ok hG (cs := [(30, [some (.inr (some 44)), some (.inr (some 58)), some (.inl 0), none], [], fun xs σ => match xs with
      | [v2] => k30 v2 σ
      | _ => none), (54, [some (.inr (some 44)), some (.inr (some 58)), some (.inl 0), some (.inl 0)], [], fun xs σ => match xs with
      | [v2, v3] => (Pairs_search_c54 F 58 k30 fu) v2 v3 σ
      | _ => none)]) (jcon (jl1 (fun y0 => jl0 (fun σ => h30 y0 σ))) (jcon (jl2 (fun y0 y1 => jl0 (fun σ => ih y0 y1 σ))) jnil)) 74 54 [some (jmr 44), some (jmr 58), some (jmi v2), some (jmi v3)] [] σ) rfl
  have rr30 : ∀ (fu : Nat) (v2 : Int) (σ : jxS), jRf X (Pairs_search_c30 F 58 fu v2 σ) 30 [some (jmr 44), some (jmr 58), some (jmi v2), none] [] σ := by
    intro  fu
    induction fu with
    | zero => intros; exact jRf_none
    | succ fu ih =>
      intro v2 σ
      exact jRf_by (jex_ok hG (cs := [(54, [some (.inr (some 44)), some (.inr (some 58)), some (.inl 0), some (.inl 0)], [], fun xs σ => match xs with
      | [v2, v3] => Pairs_search_c54 F 58 (Pairs_search_c30 F 58 fu) F v2 v3 σ
      | _ => none), (90, [some (.inr (some 44)), some (.inr (some 58)), none, none], [], fun xs σ => match xs with
      | [] => Pairs_search_c90 F 58  σ
      | _ => none)]) (jcon (jl2 (fun y0 y1 => jl0 (fun σ => rr54 _ ih F y0 y1 σ))) (jcon (jl0 (jl0 (fun σ => rr90  σ))) jnil)) 74 30 [some (jmr 44), some (jmr 58), some (jmi v2), none] [] σ) rfl
  exact jRf_by (jex_ok hG (cs := [(30, [some (.inr (some 44)), some (.inr (some 58)), some (.inl 0), none], [], fun xs σ => match xs with
      | [v2] => Pairs_search_c30 F 58 F v2 σ
      | _ => none)]) (jcon (jl1 (fun y0 => jl0 (fun σ => rr30 F y0 σ))) jnil) 74 0 [some (jmr 44), some (jmr 58), none, none] [] σ0) rfl
set_option maxRecDepth 100000 in
set_option maxHeartbeats 4000000 in
theorem jmet_Pairs_search_63 (F : Nat) (sh : List jxC) (hs : jHas sh jc_C) (σ0 : jxS) (x : Int) (σ' : jxS) (h : Pairs_search F 63 σ0 = some (x, σ')) : jMC yX4_search cX4_search 4 (jrt 0) 4 93 sh σ0 [(jmr 44), (jmr 63)] (jrv 0 x) σ' := by
  refine jMC_of (kd := 0) (by decide) rfl h ?_
  intro X hX
  have hG : jGd X (jE_Pairs_search F) jtb_Pairs_search := jGd_of hX jtk_Pairs_search (jcon jfl_X4_11 (jcon jfl_X4_15 (jcon jfl_X4_31 (jcon jfl_X4_35 (jcon jfl_X4_57 (jcon jfl_X4_67 jnil)))))) jnil jnil (jcon (jsS jlk_X4_25 ⟨rfl, rfl⟩ (jad_Arrays_fill_AIIV F sh hs)) (jcon (jsV jlk_X4_39 ⟨rfl, rfl⟩ (jad_Pairs_listMoves F sh hs)) (jcon (jsV jlk_X4_43 ⟨rfl, rfl⟩ (jad_Pairs_insert F sh hs)) (jcon (jsV jlk_X4_47 ⟨rfl, rfl⟩ (jad_Quotient_heaps F sh hs)) (jcon (jsV jlk_X4_53 ⟨rfl, rfl⟩ (jad_Pairs_follow F sh hs)) (jcon (jsV jlk_X4_60 ⟨rfl, rfl⟩ (jad_Quotient_lostSet F sh hs)) (jcon (jsV jlk_X4_63 ⟨rfl, rfl⟩ (jad_Pairs_allFit F sh hs)) jnil))))))) hs
  have rr107 : ∀ (t0 : Int) (σ : jxS), jRf X (Pairs_search_c107 F 63 t0 σ) 107 [some (jmr 44), some (jmr 63), none, none] [(jmi t0), (jmr 63)] σ := by
    intro  t0 σ
    exact jRf_by (jex_ok hG (cs := []) jnil 74 107 [some (jmr 44), some (jmr 63), none, none] [(jmi t0), (jmr 63)] σ) rfl
  have rr90 : ∀ (σ : jxS), jRf X (Pairs_search_c90 F 63  σ) 90 [some (jmr 44), some (jmr 63), none, none] [] σ := by
    intro   σ
    exact jRf_by (jex_ok hG (cs := [(107, [some (.inr (some 44)), some (.inr (some 63)), none, none], [(.inl 0), (.inr (some 63))], fun xs σ => match xs with
      | [t0] => Pairs_search_c107 F 63 t0 σ
      | _ => none)]) (jcon (jl0 (jl1 (fun y0 => (fun σ => rr107 y0 σ)))) jnil) 74 90 [some (jmr 44), some (jmr 63), none, none] [] σ) rfl
  have rr54 : ∀ (k30 : Int → jxS → Option jxR) (h30 : ∀ v2 σ, jRf X (k30 v2 σ) 30 [some (jmr 44), some (jmr 63), some (jmi v2), none] [] σ) (fu : Nat) (v2 v3 : Int) (σ : jxS), jRf X (Pairs_search_c54 F 63 k30 fu v2 v3 σ) 54 [some (jmr 44), some (jmr 63), some (jmi v2), some (jmi v3)] [] σ := by
    intro k30 h30 fu
    induction fu with
    | zero => intros; exact jRf_none
    | succ fu ih =>
      intro v2 v3 σ
      exact jRf_by (jex_ok hG (cs := [(30, [some (.inr (some 44)), some (.inr (some 63)), some (.inl 0), none], [], fun xs σ => match xs with
      | [v2] => k30 v2 σ
      | _ => none), (54, [some (.inr (some 44)), some (.inr (some 63)), some (.inl 0), some (.inl 0)], [], fun xs σ => match xs with
      | [v2, v3] => (Pairs_search_c54 F 63 k30 fu) v2 v3 σ
      | _ => none)]) (jcon (jl1 (fun y0 => jl0 (fun σ => h30 y0 σ))) (jcon (jl2 (fun y0 y1 => jl0 (fun σ => ih y0 y1 σ))) jnil)) 74 54 [some (jmr 44), some (jmr 63), some (jmi v2), some (jmi v3)] [] σ) rfl
  have rr30 : ∀ (fu : Nat) (v2 : Int) (σ : jxS), jRf X (Pairs_search_c30 F 63 fu v2 σ) 30 [some (jmr 44), some (jmr 63), some (jmi v2), none] [] σ := by
    intro  fu
    induction fu with
    | zero => intros; exact jRf_none
    | succ fu ih =>
      intro v2 σ
      exact jRf_by (jex_ok hG (cs := [(54, [some (.inr (some 44)), some (.inr (some 63)), some (.inl 0), some (.inl 0)], [], fun xs σ => match xs with
      | [v2, v3] => Pairs_search_c54 F 63 (Pairs_search_c30 F 63 fu) F v2 v3 σ
      | _ => none), (90, [some (.inr (some 44)), some (.inr (some 63)), none, none], [], fun xs σ => match xs with
      | [] => Pairs_search_c90 F 63  σ
      | _ => none)]) (jcon (jl2 (fun y0 y1 => jl0 (fun σ => rr54 _ ih F y0 y1 σ))) (jcon (jl0 (jl0 (fun σ => rr90  σ))) jnil)) 74 30 [some (jmr 44), some (jmr 63), some (jmi v2), none] [] σ) rfl
  exact jRf_by (jex_ok hG (cs := [(30, [some (.inr (some 44)), some (.inr (some 63)), some (.inl 0), none], [], fun xs σ => match xs with
      | [v2] => Pairs_search_c30 F 63 F v2 σ
      | _ => none)]) (jcon (jl1 (fun y0 => jl0 (fun σ => rr30 F y0 σ))) jnil) 74 0 [some (jmr 44), some (jmr 63), none, none] [] σ0) rfl
set_option maxRecDepth 100000 in
set_option maxHeartbeats 4000000 in
theorem jmet_Pairs_search_68 (F : Nat) (sh : List jxC) (hs : jHas sh jc_C) (σ0 : jxS) (x : Int) (σ' : jxS) (h : Pairs_search F 68 σ0 = some (x, σ')) : jMC yX4_search cX4_search 4 (jrt 0) 4 93 sh σ0 [(jmr 44), (jmr 68)] (jrv 0 x) σ' := by
  refine jMC_of (kd := 0) (by decide) rfl h ?_
  intro X hX
  have hG : jGd X (jE_Pairs_search F) jtb_Pairs_search := jGd_of hX jtk_Pairs_search (jcon jfl_X4_11 (jcon jfl_X4_15 (jcon jfl_X4_31 (jcon jfl_X4_35 (jcon jfl_X4_57 (jcon jfl_X4_67 jnil)))))) jnil jnil (jcon (jsS jlk_X4_25 ⟨rfl, rfl⟩ (jad_Arrays_fill_AIIV F sh hs)) (jcon (jsV jlk_X4_39 ⟨rfl, rfl⟩ (jad_Pairs_listMoves F sh hs)) (jcon (jsV jlk_X4_43 ⟨rfl, rfl⟩ (jad_Pairs_insert F sh hs)) (jcon (jsV jlk_X4_47 ⟨rfl, rfl⟩ (jad_Quotient_heaps F sh hs)) (jcon (jsV jlk_X4_53 ⟨rfl, rfl⟩ (jad_Pairs_follow F sh hs)) (jcon (jsV jlk_X4_60 ⟨rfl, rfl⟩ (jad_Quotient_lostSet F sh hs)) (jcon (jsV jlk_X4_63 ⟨rfl, rfl⟩ (jad_Pairs_allFit F sh hs)) jnil))))))) hs
  have rr107 : ∀ (t0 : Int) (σ : jxS), jRf X (Pairs_search_c107 F 68 t0 σ) 107 [some (jmr 44), some (jmr 68), none, none] [(jmi t0), (jmr 68)] σ := by
    intro  t0 σ
    exact jRf_by (jex_ok hG (cs := []) jnil 74 107 [some (jmr 44), some (jmr 68), none, none] [(jmi t0), (jmr 68)] σ) rfl
  have rr90 : ∀ (σ : jxS), jRf X (Pairs_search_c90 F 68  σ) 90 [some (jmr 44), some (jmr 68), none, none] [] σ := by
    intro   σ
    exact jRf_by (jex_ok hG (cs := [(107, [some (.inr (some 44)), some (.inr (some 68)), none, none], [(.inl 0), (.inr (some 68))], fun xs σ => match xs with
      | [t0] => Pairs_search_c107 F 68 t0 σ
      | _ => none)]) (jcon (jl0 (jl1 (fun y0 => (fun σ => rr107 y0 σ)))) jnil) 74 90 [some (jmr 44), some (jmr 68), none, none] [] σ) rfl
  have rr54 : ∀ (k30 : Int → jxS → Option jxR) (h30 : ∀ v2 σ, jRf X (k30 v2 σ) 30 [some (jmr 44), some (jmr 68), some (jmi v2), none] [] σ) (fu : Nat) (v2 v3 : Int) (σ : jxS), jRf X (Pairs_search_c54 F 68 k30 fu v2 v3 σ) 54 [some (jmr 44), some (jmr 68), some (jmi v2), some (jmi v3)] [] σ := by
    intro k30 h30 fu
    induction fu with
    | zero => intros; exact jRf_none
    | succ fu ih =>
      intro v2 v3 σ
      exact jRf_by (jex_ok hG (cs := [(30, [some (.inr (some 44)), some (.inr (some 68)), some (.inl 0), none], [], fun xs σ => match xs with
      | [v2] => k30 v2 σ
      | _ => none), (54, [some (.inr (some 44)), some (.inr (some 68)), some (.inl 0), some (.inl 0)], [], fun xs σ => match xs with
      | [v2, v3] => (Pairs_search_c54 F 68 k30 fu) v2 v3 σ
      | _ => none)]) (jcon (jl1 (fun y0 => jl0 (fun σ => h30 y0 σ))) (jcon (jl2 (fun y0 y1 => jl0 (fun σ => ih y0 y1 σ))) jnil)) 74 54 [some (jmr 44), some (jmr 68), some (jmi v2), some (jmi v3)] [] σ) rfl
  have rr30 : ∀ (fu : Nat) (v2 : Int) (σ : jxS), jRf X (Pairs_search_c30 F 68 fu v2 σ) 30 [some (jmr 44), some (jmr 68), some (jmi v2), none] [] σ := by
    intro  fu
    induction fu with
    | zero => intros; exact jRf_none
    | succ fu ih =>
      intro v2 σ
      exact jRf_by (jex_ok hG (cs := [(54, [some (.inr (some 44)), some (.inr (some 68)), some (.inl 0), some (.inl 0)], [], fun xs σ => match xs with
      | [v2, v3] => Pairs_search_c54 F 68 (Pairs_search_c30 F 68 fu) F v2 v3 σ
      | _ => none), (90, [some (.inr (some 44)), some (.inr (some 68)), none, none], [], fun xs σ => match xs with
      | [] => Pairs_search_c90 F 68  σ
      | _ => none)]) (jcon (jl2 (fun y0 y1 => jl0 (fun σ => rr54 _ ih F y0 y1 σ))) (jcon (jl0 (jl0 (fun σ => rr90  σ))) jnil)) 74 30 [some (jmr 44), some (jmr 68), some (jmi v2), none] [] σ) rfl
  exact jRf_by (jex_ok hG (cs := [(30, [some (.inr (some 44)), some (.inr (some 68)), some (.inl 0), none], [], fun xs σ => match xs with
      | [v2] => Pairs_search_c30 F 68 F v2 σ
      | _ => none)]) (jcon (jl1 (fun y0 => jl0 (fun σ => rr30 F y0 σ))) jnil) 74 0 [some (jmr 44), some (jmr 68), none, none] [] σ0) rfl
set_option maxRecDepth 100000 in
set_option maxHeartbeats 4000000 in
theorem jmet_Pairs_search_73 (F : Nat) (sh : List jxC) (hs : jHas sh jc_C) (σ0 : jxS) (x : Int) (σ' : jxS) (h : Pairs_search F 73 σ0 = some (x, σ')) : jMC yX4_search cX4_search 4 (jrt 0) 4 93 sh σ0 [(jmr 44), (jmr 73)] (jrv 0 x) σ' := by
  refine jMC_of (kd := 0) (by decide) rfl h ?_
  intro X hX
  have hG : jGd X (jE_Pairs_search F) jtb_Pairs_search := jGd_of hX jtk_Pairs_search (jcon jfl_X4_11 (jcon jfl_X4_15 (jcon jfl_X4_31 (jcon jfl_X4_35 (jcon jfl_X4_57 (jcon jfl_X4_67 jnil)))))) jnil jnil (jcon (jsS jlk_X4_25 ⟨rfl, rfl⟩ (jad_Arrays_fill_AIIV F sh hs)) (jcon (jsV jlk_X4_39 ⟨rfl, rfl⟩ (jad_Pairs_listMoves F sh hs)) (jcon (jsV jlk_X4_43 ⟨rfl, rfl⟩ (jad_Pairs_insert F sh hs)) (jcon (jsV jlk_X4_47 ⟨rfl, rfl⟩ (jad_Quotient_heaps F sh hs)) (jcon (jsV jlk_X4_53 ⟨rfl, rfl⟩ (jad_Pairs_follow F sh hs)) (jcon (jsV jlk_X4_60 ⟨rfl, rfl⟩ (jad_Quotient_lostSet F sh hs)) (jcon (jsV jlk_X4_63 ⟨rfl, rfl⟩ (jad_Pairs_allFit F sh hs)) jnil))))))) hs
  have rr107 : ∀ (t0 : Int) (σ : jxS), jRf X (Pairs_search_c107 F 73 t0 σ) 107 [some (jmr 44), some (jmr 73), none, none] [(jmi t0), (jmr 73)] σ := by
    intro  t0 σ
    exact jRf_by (jex_ok hG (cs := []) jnil 74 107 [some (jmr 44), some (jmr 73), none, none] [(jmi t0), (jmr 73)] σ) rfl
  have rr90 : ∀ (σ : jxS), jRf X (Pairs_search_c90 F 73  σ) 90 [some (jmr 44), some (jmr 73), none, none] [] σ := by
    intro   σ
    exact jRf_by (jex_ok hG (cs := [(107, [some (.inr (some 44)), some (.inr (some 73)), none, none], [(.inl 0), (.inr (some 73))], fun xs σ => match xs with
      | [t0] => Pairs_search_c107 F 73 t0 σ
      | _ => none)]) (jcon (jl0 (jl1 (fun y0 => (fun σ => rr107 y0 σ)))) jnil) 74 90 [some (jmr 44), some (jmr 73), none, none] [] σ) rfl
  have rr54 : ∀ (k30 : Int → jxS → Option jxR) (h30 : ∀ v2 σ, jRf X (k30 v2 σ) 30 [some (jmr 44), some (jmr 73), some (jmi v2), none] [] σ) (fu : Nat) (v2 v3 : Int) (σ : jxS), jRf X (Pairs_search_c54 F 73 k30 fu v2 v3 σ) 54 [some (jmr 44), some (jmr 73), some (jmi v2), some (jmi v3)] [] σ := by
    intro k30 h30 fu
    induction fu with
    | zero => intros; exact jRf_none
    | succ fu ih =>
      intro v2 v3 σ
      exact jRf_by (jex_ok hG (cs := [(30, [some (.inr (some 44)), some (.inr (some 73)), some (.inl 0), none], [], fun xs σ => match xs with
      | [v2] => k30 v2 σ
      | _ => none), (54, [some (.inr (some 44)), some (.inr (some 73)), some (.inl 0), some (.inl 0)], [], fun xs σ => match xs with
      | [v2, v3] => (Pairs_search_c54 F 73 k30 fu) v2 v3 σ
      | _ => none)]) (jcon (jl1 (fun y0 => jl0 (fun σ => h30 y0 σ))) (jcon (jl2 (fun y0 y1 => jl0 (fun σ => ih y0 y1 σ))) jnil)) 74 54 [some (jmr 44), some (jmr 73), some (jmi v2), some (jmi v3)] [] σ) rfl
  have rr30 : ∀ (fu : Nat) (v2 : Int) (σ : jxS), jRf X (Pairs_search_c30 F 73 fu v2 σ) 30 [some (jmr 44), some (jmr 73), some (jmi v2), none] [] σ := by
    intro  fu
    induction fu with
    | zero => intros; exact jRf_none
    | succ fu ih =>
      intro v2 σ
      exact jRf_by (jex_ok hG (cs := [(54, [some (.inr (some 44)), some (.inr (some 73)), some (.inl 0), some (.inl 0)], [], fun xs σ => match xs with
      | [v2, v3] => Pairs_search_c54 F 73 (Pairs_search_c30 F 73 fu) F v2 v3 σ
      | _ => none), (90, [some (.inr (some 44)), some (.inr (some 73)), none, none], [], fun xs σ => match xs with
      | [] => Pairs_search_c90 F 73  σ
      | _ => none)]) (jcon (jl2 (fun y0 y1 => jl0 (fun σ => rr54 _ ih F y0 y1 σ))) (jcon (jl0 (jl0 (fun σ => rr90  σ))) jnil)) 74 30 [some (jmr 44), some (jmr 73), some (jmi v2), none] [] σ) rfl
  exact jRf_by (jex_ok hG (cs := [(30, [some (.inr (some 44)), some (.inr (some 73)), some (.inl 0), none], [], fun xs σ => match xs with
      | [v2] => Pairs_search_c30 F 73 F v2 σ
      | _ => none)]) (jcon (jl1 (fun y0 => jl0 (fun σ => rr30 F y0 σ))) jnil) 74 0 [some (jmr 44), some (jmr 73), none, none] [] σ0) rfl
theorem jmet_Pairs_search (F : Nat) (q1 : Nat) (hq1 : q1 ∈ jids_Pairs_search_q1) (sh : List jxC) (hs : jHas sh jc_C) (σ0 : jxS) (x : Int) (σ' : jxS) (h : Pairs_search F q1 σ0 = some (x, σ')) : jMC yX4_search cX4_search 4 (jrt 0) 4 93 sh σ0 [(jmr 44), (jmr q1)] (jrv 0 x) σ' := by
  simp only [jids_Pairs_search_q1, List.mem_cons, List.not_mem_nil, or_false] at hq1
  rcases hq1 with rfl | rfl | rfl | rfl | rfl | rfl
  · exact jmet_Pairs_search_48 F sh hs σ0  x σ' h
  · exact jmet_Pairs_search_53 F sh hs σ0  x σ' h
  · exact jmet_Pairs_search_58 F sh hs σ0  x σ' h
  · exact jmet_Pairs_search_63 F sh hs σ0  x σ' h
  · exact jmet_Pairs_search_68 F sh hs σ0  x σ' h
  · exact jmet_Pairs_search_73 F sh hs σ0  x σ' h
theorem jad_Pairs_search (F : Nat) (sh : List jxC) (hs : jHas sh jc_C) : jAdV (jca_Pairs_search F) yX4_search cX4_search 4 0 4 93 1 sh := by
  intro as σ k x σ' h
  unfold jca_Pairs_search at h
  split at h
  · rename_i t0 t1
    obtain ⟨g0, hh1⟩ := jcond h
    obtain rfl := jbeq g0
    obtain ⟨g1, hh2⟩ := jcond hh1
    have g1 := jin_of g1
    obtain ⟨r, h1, h2⟩ := Option.bind_eq_some_iff.mp hh2
    exact ⟨_, _, h2, ⟨_, _, _, _, _, _, rfl, rfl, (hs _ (jkf_in (l := jc_C) (idx := 44) rfl)).1, rfl⟩, jmet_Pairs_search F t1 g1 sh hs σ  r.1 r.2 h1⟩
  · cases h
def jtb_Board_pairsOf : List (Nat × Instr) := [(0, .aload_n 1), (1, .getfield 169), (4, .bipush (-9)), (6, .if_icmp .ne 11), (9, .aload_n 0), (10, .getfield 66), (13, .aload_n 1), (14, .invokevirtual 172), (17, .aload_n 1), (18, .getfield 169), (21, .ireturn)]
theorem jtk_Board_pairsOf : jtok cX0_pairsOf jtb_Board_pairsOf = true := by decide +kernel
set_option maxRecDepth 100000 in
theorem jfl_X0_66 : jFl RX0 66 0 6 := ⟨RX0, TX0, 10, tyX0, rfl, by decide, jin_X0, tyX0_ok, nmX0, jow_X0, (Or.inl (jTB_at 649 rfl rfl))⟩
set_option maxRecDepth 100000 in
theorem jfl_X0_169 : jFl RX0 169 6 8 := ⟨RX6, TX6, 10, tyX6, rfl, by decide, jin_X6, tyX6_ok, nmX6, jow_X6, (Or.inr ⟨"LastLoses", (jNS_at 613 rfl rfl)⟩)⟩
set_option maxRecDepth 100000 in
theorem jlk_X0_172 : jLkV RX0 172 yX4_search cX4_search 4 0 1 := ⟨(jTB_at 1237 rfl rfl), (jTB_at 1238 rfl rfl), (jTB_at 1239 rfl rfl), (jTB_at 127 rfl rfl), jTB_at 1240 rfl rfl, ⟨by decide, by decide, by decide +kernel⟩⟩
def jE_Board_pairsOf (F : Nat) : jxE := jmk [(66, 0, 6), (169, 6, 8)] [] [] [(172, (2, false), jca_Pairs_search F)] 1 jc_C
set_option maxRecDepth 100000 in
set_option maxHeartbeats 4000000 in
theorem jmet_Board_pairsOf_48 (F : Nat) (sh : List jxC) (hs : jHas sh jc_C) (σ0 : jxS) (x : Int) (σ' : jxS) (h : Board_pairsOf F 48 σ0 = some (x, σ')) : jMC yX0_pairsOf cX0_pairsOf 2 (jrt 1) 5 116 sh σ0 [(jmr 9), (jmr 48)] (jrv 1 x) σ' := by
  refine jMC_of (kd := 1) (by decide) rfl h ?_
  intro X hX
  have hG : jGd X (jE_Board_pairsOf F) jtb_Board_pairsOf := jGd_of hX jtk_Board_pairsOf (jcon jfl_X0_66 (jcon jfl_X0_169 jnil)) jnil jnil (jcon (jsV jlk_X0_172 ⟨rfl, rfl⟩ (jad_Pairs_search F sh hs)) jnil) hs
  exact jRf_by (jex_ok hG (cs := []) jnil 14 0 [some (jmr 9), some (jmr 48)] [] σ0) rfl
set_option maxRecDepth 100000 in
set_option maxHeartbeats 4000000 in
theorem jmet_Board_pairsOf_53 (F : Nat) (sh : List jxC) (hs : jHas sh jc_C) (σ0 : jxS) (x : Int) (σ' : jxS) (h : Board_pairsOf F 53 σ0 = some (x, σ')) : jMC yX0_pairsOf cX0_pairsOf 2 (jrt 1) 5 116 sh σ0 [(jmr 9), (jmr 53)] (jrv 1 x) σ' := by
  refine jMC_of (kd := 1) (by decide) rfl h ?_
  intro X hX
  have hG : jGd X (jE_Board_pairsOf F) jtb_Board_pairsOf := jGd_of hX jtk_Board_pairsOf (jcon jfl_X0_66 (jcon jfl_X0_169 jnil)) jnil jnil (jcon (jsV jlk_X0_172 ⟨rfl, rfl⟩ (jad_Pairs_search F sh hs)) jnil) hs
  exact jRf_by (jex_ok hG (cs := []) jnil 14 0 [some (jmr 9), some (jmr 53)] [] σ0) rfl
set_option maxRecDepth 100000 in
set_option maxHeartbeats 4000000 in
theorem jmet_Board_pairsOf_58 (F : Nat) (sh : List jxC) (hs : jHas sh jc_C) (σ0 : jxS) (x : Int) (σ' : jxS) (h : Board_pairsOf F 58 σ0 = some (x, σ')) : jMC yX0_pairsOf cX0_pairsOf 2 (jrt 1) 5 116 sh σ0 [(jmr 9), (jmr 58)] (jrv 1 x) σ' := by
  refine jMC_of (kd := 1) (by decide) rfl h ?_
  intro X hX
  have hG : jGd X (jE_Board_pairsOf F) jtb_Board_pairsOf := jGd_of hX jtk_Board_pairsOf (jcon jfl_X0_66 (jcon jfl_X0_169 jnil)) jnil jnil (jcon (jsV jlk_X0_172 ⟨rfl, rfl⟩ (jad_Pairs_search F sh hs)) jnil) hs
  exact jRf_by (jex_ok hG (cs := []) jnil 14 0 [some (jmr 9), some (jmr 58)] [] σ0) rfl
set_option maxRecDepth 100000 in
set_option maxHeartbeats 4000000 in
theorem jmet_Board_pairsOf_63 (F : Nat) (sh : List jxC) (hs : jHas sh jc_C) (σ0 : jxS) (x : Int) (σ' : jxS) (h : Board_pairsOf F 63 σ0 = some (x, σ')) : jMC yX0_pairsOf cX0_pairsOf 2 (jrt 1) 5 116 sh σ0 [(jmr 9), (jmr 63)] (jrv 1 x) σ' := by
  refine jMC_of (kd := 1) (by decide) rfl h ?_
  intro X hX
  have hG : jGd X (jE_Board_pairsOf F) jtb_Board_pairsOf := jGd_of hX jtk_Board_pairsOf (jcon jfl_X0_66 (jcon jfl_X0_169 jnil)) jnil jnil (jcon (jsV jlk_X0_172 ⟨rfl, rfl⟩ (jad_Pairs_search F sh hs)) jnil) hs
  exact jRf_by (jex_ok hG (cs := []) jnil 14 0 [some (jmr 9), some (jmr 63)] [] σ0) rfl
set_option maxRecDepth 100000 in
set_option maxHeartbeats 4000000 in
theorem jmet_Board_pairsOf_68 (F : Nat) (sh : List jxC) (hs : jHas sh jc_C) (σ0 : jxS) (x : Int) (σ' : jxS) (h : Board_pairsOf F 68 σ0 = some (x, σ')) : jMC yX0_pairsOf cX0_pairsOf 2 (jrt 1) 5 116 sh σ0 [(jmr 9), (jmr 68)] (jrv 1 x) σ' := by
  refine jMC_of (kd := 1) (by decide) rfl h ?_
  intro X hX
  have hG : jGd X (jE_Board_pairsOf F) jtb_Board_pairsOf := jGd_of hX jtk_Board_pairsOf (jcon jfl_X0_66 (jcon jfl_X0_169 jnil)) jnil jnil (jcon (jsV jlk_X0_172 ⟨rfl, rfl⟩ (jad_Pairs_search F sh hs)) jnil) hs
  exact jRf_by (jex_ok hG (cs := []) jnil 14 0 [some (jmr 9), some (jmr 68)] [] σ0) rfl
set_option maxRecDepth 100000 in
set_option maxHeartbeats 4000000 in
theorem jmet_Board_pairsOf_73 (F : Nat) (sh : List jxC) (hs : jHas sh jc_C) (σ0 : jxS) (x : Int) (σ' : jxS) (h : Board_pairsOf F 73 σ0 = some (x, σ')) : jMC yX0_pairsOf cX0_pairsOf 2 (jrt 1) 5 116 sh σ0 [(jmr 9), (jmr 73)] (jrv 1 x) σ' := by
  refine jMC_of (kd := 1) (by decide) rfl h ?_
  intro X hX
  have hG : jGd X (jE_Board_pairsOf F) jtb_Board_pairsOf := jGd_of hX jtk_Board_pairsOf (jcon jfl_X0_66 (jcon jfl_X0_169 jnil)) jnil jnil (jcon (jsV jlk_X0_172 ⟨rfl, rfl⟩ (jad_Pairs_search F sh hs)) jnil) hs
  exact jRf_by (jex_ok hG (cs := []) jnil 14 0 [some (jmr 9), some (jmr 73)] [] σ0) rfl
theorem jmet_Board_pairsOf (F : Nat) (q1 : Nat) (hq1 : q1 ∈ jids_Board_pairsOf_q1) (sh : List jxC) (hs : jHas sh jc_C) (σ0 : jxS) (x : Int) (σ' : jxS) (h : Board_pairsOf F q1 σ0 = some (x, σ')) : jMC yX0_pairsOf cX0_pairsOf 2 (jrt 1) 5 116 sh σ0 [(jmr 9), (jmr q1)] (jrv 1 x) σ' := by
  simp only [jids_Board_pairsOf_q1, List.mem_cons, List.not_mem_nil, or_false] at hq1
  rcases hq1 with rfl | rfl | rfl | rfl | rfl | rfl
  · exact jmet_Board_pairsOf_48 F sh hs σ0  x σ' h
  · exact jmet_Board_pairsOf_53 F sh hs σ0  x σ' h
  · exact jmet_Board_pairsOf_58 F sh hs σ0  x σ' h
  · exact jmet_Board_pairsOf_63 F sh hs σ0  x σ' h
  · exact jmet_Board_pairsOf_68 F sh hs σ0  x σ' h
  · exact jmet_Board_pairsOf_73 F sh hs σ0  x σ' h
theorem jad_Board_pairsOf (F : Nat) (sh : List jxC) (hs : jHas sh jc_C) : jAdV (jca_Board_pairsOf F) yX0_pairsOf cX0_pairsOf 2 1 5 116 1 sh := by
  intro as σ k x σ' h
  unfold jca_Board_pairsOf at h
  split at h
  · rename_i t0 t1
    obtain ⟨g0, hh1⟩ := jcond h
    obtain rfl := jbeq g0
    obtain ⟨g1, hh2⟩ := jcond hh1
    have g1 := jin_of g1
    obtain ⟨r, h1, h2⟩ := Option.bind_eq_some_iff.mp hh2
    exact ⟨_, _, h2, ⟨_, _, _, _, _, _, rfl, rfl, (hs _ (jkf_in (l := jc_C) (idx := 9) rfl)).1, rfl⟩, jmet_Board_pairsOf F t1 g1 sh hs σ  r.1 r.2 h1⟩
  · cases h
def jtb_LL1_pairs : List (Nat × Instr) := [(0, .aload_n 0), (1, .iload_n 1), (2, .invokevirtual 193), (5, .astore_n 2), (6, .aload_n 2), (7, .ifnonnull 5), (10, .iconst (-1)), (11, .ireturn), (12, .aload_n 2), (13, .invokevirtual 200), (16, .ifCond .eq 14), (19, .aload_n 0), (20, .getfield 48), (23, .aload_n 2), (24, .invokevirtual 218), (27, .goto 5), (30, .bipush (-3)), (32, .ireturn)]
theorem jtk_LL1_pairs : jtok cX11_pairs jtb_LL1_pairs = true := by decide +kernel
set_option maxRecDepth 100000 in
theorem jlk_X11_218 : jLkV RX11 218 yX0_pairsOf cX0_pairsOf 2 1 1 := ⟨(jTB_at 1233 rfl rfl), (jTB_at 1234 rfl rfl), (jTB_at 1235 rfl rfl), (jTB_at 120 rfl rfl), jTB_at 1236 rfl rfl, ⟨by decide, by decide, by decide +kernel⟩⟩
def jE_LL1_pairs (F : Nat) : jxE := jmk [(48, 11, 2)] [] [] [(193, (2, false), jca_LL1_quotientOf F), (200, (1, false), jca_Quotient_isKnown F), (218, (2, false), jca_Board_pairsOf F)] 1 jc_L1
set_option maxRecDepth 100000 in
set_option maxHeartbeats 4000000 in
theorem jmet_LL1_pairs (F : Nat) (sh : List jxC) (hs : jHas sh jc_L1) (σ0 : jxS) (v1 : Int) (x : Int) (σ' : jxS) (h : LL1_pairs F σ0 v1 = some (x, σ')) : jMC yX11_pairs cX11_pairs 3 (jrt 1) 7 165 sh σ0 [(jmr 0), (jmi v1)] (jrv 1 x) σ' := by
  refine jMC_of (kd := 1) (by decide) rfl h ?_
  intro X hX
  have hG : jGd X (jE_LL1_pairs F) jtb_LL1_pairs := jGd_of hX jtk_LL1_pairs (jcon jfl_X11_48 jnil) jnil jnil (jcon (jsV jlk_X11_193 ⟨rfl, rfl⟩ (jad_LL1_quotientOf F sh hs)) (jcon (jsV jlk_X11_200 ⟨rfl, rfl⟩ (jad_Quotient_isKnown F sh (jh_L1C hs))) (jcon (jsV jlk_X11_218 ⟨rfl, rfl⟩ (jad_Board_pairsOf F sh (jh_L1C hs))) jnil))) hs
  exact jRf_by (jex_ok hG (cs := []) jnil 21 0 [some (jmr 0), some (jmi v1), none] [] σ0) rfl
theorem jad_LL1_pairs (F : Nat) (sh : List jxC) (hs : jHas sh jc_L1) : jAdV (jca_LL1_pairs F) yX11_pairs cX11_pairs 3 1 7 165 1 sh := by
  intro as σ k x σ' h
  unfold jca_LL1_pairs at h
  split at h
  · rename_i t0 v1
    obtain ⟨g0, hh1⟩ := jcond h
    obtain rfl := jbeq g0
    obtain ⟨r, h1, h2⟩ := Option.bind_eq_some_iff.mp hh1
    exact ⟨_, _, h2, ⟨_, _, _, _, _, _, rfl, rfl, (hs _ (jkf_in (l := jc_L1) (idx := 0) rfl)).1, rfl⟩, jmet_LL1_pairs F  sh hs σ v1 r.1 r.2 h1⟩
  · cases h
def jtb_Quotient_isSteady : List (Nat × Instr) := [(0, .iconst 0), (1, .istore_n 1), (2, .iload_n 1), (3, .aload_n 0), (4, .getfield 37), (7, .if_icmp .ge 65), (10, .iconst 1), (11, .istore_n 2), (12, .iload_n 2), (13, .aload_n 0), (14, .getfield 25), (17, .if_icmp .gt 49), (20, .iconst 1), (21, .istore_n 3), (22, .iload_n 3), (23, .iload_n 2), (24, .if_icmp .ge 36), (27, .aload_n 0), (28, .aload_n 0), (29, .iload_n 1), (30, .iload_n 2), (31, .invokevirtual 83), (34, .iload_n 3), (35, .invokevirtual 83), (38, .aload_n 0), (39, .aload_n 0), (40, .iload_n 1), (41, .iload_n 3), (42, .invokevirtual 83), (45, .iload_n 2), (46, .invokevirtual 83), (49, .if_icmp .eq 5), (52, .iconst 0), (53, .ireturn), (54, .iinc 3 1), (57, .goto (-35)), (60, .iinc 2 1), (63, .goto (-51)), (66, .iinc 1 1), (69, .goto (-67)), (72, .iconst 1), (73, .ireturn)]
theorem jtk_Quotient_isSteady : jtok cX6_isSteady jtb_Quotient_isSteady = true := by decide +kernel
def jE_Quotient_isSteady (F : Nat) : jxE := jmk [(25, 6, 0), (37, 6, 7)] [] [] [(83, (3, false), jca_Quotient_nextOf F)] 4 jc_C
set_option maxRecDepth 100000 in
set_option maxHeartbeats 4000000 in
theorem jmet_Quotient_isSteady_48 (F : Nat) (sh : List jxC) (hs : jHas sh jc_C) (σ0 : jxS) (x : Int) (σ' : jxS) (h : Quotient_isSteady F 48 σ0 = some (x, σ')) : jMC yX6_isSteady cX6_isSteady 4 (jrt 4) 2 44 sh σ0 [(jmr 48)] (jrv 4 x) σ' := by
  refine jMC_of (kd := 4) (by decide) rfl h ?_
  intro X hX
  have hG : jGd X (jE_Quotient_isSteady F) jtb_Quotient_isSteady := jGd_of hX jtk_Quotient_isSteady (jcon jfl_X6_25 (jcon jfl_X6_37 jnil)) jnil jnil (jcon (jsV jlk_X6_83 ⟨rfl, rfl⟩ (jad_Quotient_nextOf F sh hs)) jnil) hs
  have rr22 : ∀ (k2 : Int → jxS → Option jxR) (h2 : ∀ v1 σ, jRf X (k2 v1 σ) 2 [some (jmr 48), some (jmi v1), none, none] [] σ) (k12 : Int → Int → jxS → Option jxR) (h12 : ∀ v1 v2 σ, jRf X (k12 v1 v2 σ) 12 [some (jmr 48), some (jmi v1), some (jmi v2), none] [] σ) (fu : Nat) (v1 v2 v3 : Int) (σ : jxS), jRf X (Quotient_isSteady_c22 F 48 k2 k12 fu v1 v2 v3 σ) 22 [some (jmr 48), some (jmi v1), some (jmi v2), some (jmi v3)] [] σ := by
    intro k2 h2 k12 h12 fu
    induction fu with
    | zero => intros; exact jRf_none
    | succ fu ih =>
      intro v1 v2 v3 σ
      exact jRf_by (jex_ok hG (cs := [(12, [some (.inr (some 48)), some (.inl 0), some (.inl 0), none], [], fun xs σ => match xs with
      | [v1, v2] => k12 v1 v2 σ
      | _ => none), (22, [some (.inr (some 48)), some (.inl 0), some (.inl 0), some (.inl 0)], [], fun xs σ => match xs with
      | [v1, v2, v3] => (Quotient_isSteady_c22 F 48 k2 k12 fu) v1 v2 v3 σ
      | _ => none)]) (jcon (jl2 (fun y0 y1 => jl0 (fun σ => h12 y0 y1 σ))) (jcon (jl3 (fun y0 y1 y2 => jl0 (fun σ => ih y0 y1 y2 σ))) jnil)) 45 22 [some (jmr 48), some (jmi v1), some (jmi v2), some (jmi v3)] [] σ) rfl
  have rr12 : ∀ (k2 : Int → jxS → Option jxR) (h2 : ∀ v1 σ, jRf X (k2 v1 σ) 2 [some (jmr 48), some (jmi v1), none, none] [] σ) (fu : Nat) (v1 v2 : Int) (σ : jxS), jRf X (Quotient_isSteady_c12 F 48 k2 fu v1 v2 σ) 12 [some (jmr 48), some (jmi v1), some (jmi v2), none] [] σ := by
    intro k2 h2 fu
    induction fu with
    | zero => intros; exact jRf_none
    | succ fu ih =>
      intro v1 v2 σ
      exact jRf_by (jex_ok hG (cs := [(2, [some (.inr (some 48)), some (.inl 0), none, none], [], fun xs σ => match xs with
      | [v1] => k2 v1 σ
      | _ => none), (22, [some (.inr (some 48)), some (.inl 0), some (.inl 0), some (.inl 0)], [], fun xs σ => match xs with
      | [v1, v2, v3] => Quotient_isSteady_c22 F 48 k2 (Quotient_isSteady_c12 F 48 k2 fu) F v1 v2 v3 σ
      | _ => none)]) (jcon (jl1 (fun y0 => jl0 (fun σ => h2 y0 σ))) (jcon (jl3 (fun y0 y1 y2 => jl0 (fun σ => rr22 _ h2 _ ih F y0 y1 y2 σ))) jnil)) 45 12 [some (jmr 48), some (jmi v1), some (jmi v2), none] [] σ) rfl
  have rr2 : ∀ (fu : Nat) (v1 : Int) (σ : jxS), jRf X (Quotient_isSteady_c2 F 48 fu v1 σ) 2 [some (jmr 48), some (jmi v1), none, none] [] σ := by
    intro  fu
    induction fu with
    | zero => intros; exact jRf_none
    | succ fu ih =>
      intro v1 σ
      exact jRf_by (jex_ok hG (cs := [(12, [some (.inr (some 48)), some (.inl 0), some (.inl 0), none], [], fun xs σ => match xs with
      | [v1, v2] => Quotient_isSteady_c12 F 48 (Quotient_isSteady_c2 F 48 fu) F v1 v2 σ
      | _ => none)]) (jcon (jl2 (fun y0 y1 => jl0 (fun σ => rr12 _ ih F y0 y1 σ))) jnil) 45 2 [some (jmr 48), some (jmi v1), none, none] [] σ) rfl
  exact jRf_by (jex_ok hG (cs := [(2, [some (.inr (some 48)), some (.inl 0), none, none], [], fun xs σ => match xs with
      | [v1] => Quotient_isSteady_c2 F 48 F v1 σ
      | _ => none)]) (jcon (jl1 (fun y0 => jl0 (fun σ => rr2 F y0 σ))) jnil) 45 0 [some (jmr 48), none, none, none] [] σ0) rfl
set_option maxRecDepth 100000 in
set_option maxHeartbeats 4000000 in
theorem jmet_Quotient_isSteady_53 (F : Nat) (sh : List jxC) (hs : jHas sh jc_C) (σ0 : jxS) (x : Int) (σ' : jxS) (h : Quotient_isSteady F 53 σ0 = some (x, σ')) : jMC yX6_isSteady cX6_isSteady 4 (jrt 4) 2 44 sh σ0 [(jmr 53)] (jrv 4 x) σ' := by
  refine jMC_of (kd := 4) (by decide) rfl h ?_
  intro X hX
  have hG : jGd X (jE_Quotient_isSteady F) jtb_Quotient_isSteady := jGd_of hX jtk_Quotient_isSteady (jcon jfl_X6_25 (jcon jfl_X6_37 jnil)) jnil jnil (jcon (jsV jlk_X6_83 ⟨rfl, rfl⟩ (jad_Quotient_nextOf F sh hs)) jnil) hs
  have rr22 : ∀ (k2 : Int → jxS → Option jxR) (h2 : ∀ v1 σ, jRf X (k2 v1 σ) 2 [some (jmr 53), some (jmi v1), none, none] [] σ) (k12 : Int → Int → jxS → Option jxR) (h12 : ∀ v1 v2 σ, jRf X (k12 v1 v2 σ) 12 [some (jmr 53), some (jmi v1), some (jmi v2), none] [] σ) (fu : Nat) (v1 v2 v3 : Int) (σ : jxS), jRf X (Quotient_isSteady_c22 F 53 k2 k12 fu v1 v2 v3 σ) 22 [some (jmr 53), some (jmi v1), some (jmi v2), some (jmi v3)] [] σ := by
    intro k2 h2 k12 h12 fu
    induction fu with
    | zero => intros; exact jRf_none
    | succ fu ih =>
      intro v1 v2 v3 σ
      exact jRf_by (jex_ok hG (cs := [(12, [some (.inr (some 53)), some (.inl 0), some (.inl 0), none], [], fun xs σ => match xs with
      | [v1, v2] => k12 v1 v2 σ
      | _ => none), (22, [some (.inr (some 53)), some (.inl 0), some (.inl 0), some (.inl 0)], [], fun xs σ => match xs with
      | [v1, v2, v3] => (Quotient_isSteady_c22 F 53 k2 k12 fu) v1 v2 v3 σ
      | _ => none)]) (jcon (jl2 (fun y0 y1 => jl0 (fun σ => h12 y0 y1 σ))) (jcon (jl3 (fun y0 y1 y2 => jl0 (fun σ => ih y0 y1 y2 σ))) jnil)) 45 22 [some (jmr 53), some (jmi v1), some (jmi v2), some (jmi v3)] [] σ) rfl
  have rr12 : ∀ (k2 : Int → jxS → Option jxR) (h2 : ∀ v1 σ, jRf X (k2 v1 σ) 2 [some (jmr 53), some (jmi v1), none, none] [] σ) (fu : Nat) (v1 v2 : Int) (σ : jxS), jRf X (Quotient_isSteady_c12 F 53 k2 fu v1 v2 σ) 12 [some (jmr 53), some (jmi v1), some (jmi v2), none] [] σ := by
    intro k2 h2 fu
    induction fu with
    | zero => intros; exact jRf_none
    | succ fu ih =>
      intro v1 v2 σ
      exact jRf_by (jex_ok hG (cs := [(2, [some (.inr (some 53)), some (.inl 0), none, none], [], fun xs σ => match xs with
      | [v1] => k2 v1 σ
      | _ => none), (22, [some (.inr (some 53)), some (.inl 0), some (.inl 0), some (.inl 0)], [], fun xs σ => match xs with
      | [v1, v2, v3] => Quotient_isSteady_c22 F 53 k2 (Quotient_isSteady_c12 F 53 k2 fu) F v1 v2 v3 σ
      | _ => none)]) (jcon (jl1 (fun y0 => jl0 (fun σ => h2 y0 σ))) (jcon (jl3 (fun y0 y1 y2 => jl0 (fun σ => rr22 _ h2 _ ih F y0 y1 y2 σ))) jnil)) 45 12 [some (jmr 53), some (jmi v1), some (jmi v2), none] [] σ) rfl
  have rr2 : ∀ (fu : Nat) (v1 : Int) (σ : jxS), jRf X (Quotient_isSteady_c2 F 53 fu v1 σ) 2 [some (jmr 53), some (jmi v1), none, none] [] σ := by
    intro  fu
    induction fu with
    | zero => intros; exact jRf_none
    | succ fu ih =>
      intro v1 σ
      exact jRf_by (jex_ok hG (cs := [(12, [some (.inr (some 53)), some (.inl 0), some (.inl 0), none], [], fun xs σ => match xs with
      | [v1, v2] => Quotient_isSteady_c12 F 53 (Quotient_isSteady_c2 F 53 fu) F v1 v2 σ
      | _ => none)]) (jcon (jl2 (fun y0 y1 => jl0 (fun σ => rr12 _ ih F y0 y1 σ))) jnil) 45 2 [some (jmr 53), some (jmi v1), none, none] [] σ) rfl
  exact jRf_by (jex_ok hG (cs := [(2, [some (.inr (some 53)), some (.inl 0), none, none], [], fun xs σ => match xs with
      | [v1] => Quotient_isSteady_c2 F 53 F v1 σ
      | _ => none)]) (jcon (jl1 (fun y0 => jl0 (fun σ => rr2 F y0 σ))) jnil) 45 0 [some (jmr 53), none, none, none] [] σ0) rfl
set_option maxRecDepth 100000 in
set_option maxHeartbeats 4000000 in
theorem jmet_Quotient_isSteady_58 (F : Nat) (sh : List jxC) (hs : jHas sh jc_C) (σ0 : jxS) (x : Int) (σ' : jxS) (h : Quotient_isSteady F 58 σ0 = some (x, σ')) : jMC yX6_isSteady cX6_isSteady 4 (jrt 4) 2 44 sh σ0 [(jmr 58)] (jrv 4 x) σ' := by
  refine jMC_of (kd := 4) (by decide) rfl h ?_
  intro X hX
  have hG : jGd X (jE_Quotient_isSteady F) jtb_Quotient_isSteady := jGd_of hX jtk_Quotient_isSteady (jcon jfl_X6_25 (jcon jfl_X6_37 jnil)) jnil jnil (jcon (jsV jlk_X6_83 ⟨rfl, rfl⟩ (jad_Quotient_nextOf F sh hs)) jnil) hs
  have rr22 : ∀ (k2 : Int → jxS → Option jxR) (h2 : ∀ v1 σ, jRf X (k2 v1 σ) 2 [some (jmr 58), some (jmi v1), none, none] [] σ) (k12 : Int → Int → jxS → Option jxR) (h12 : ∀ v1 v2 σ, jRf X (k12 v1 v2 σ) 12 [some (jmr 58), some (jmi v1), some (jmi v2), none] [] σ) (fu : Nat) (v1 v2 v3 : Int) (σ : jxS), jRf X (Quotient_isSteady_c22 F 58 k2 k12 fu v1 v2 v3 σ) 22 [some (jmr 58), some (jmi v1), some (jmi v2), some (jmi v3)] [] σ := by
    intro k2 h2 k12 h12 fu
    induction fu with
    | zero => intros; exact jRf_none
    | succ fu ih =>
      intro v1 v2 v3 σ
      exact jRf_by (jex_ok hG (cs := [(12, [some (.inr (some 58)), some (.inl 0), some (.inl 0), none], [], fun xs σ => match xs with
      | [v1, v2] => k12 v1 v2 σ
      | _ => none), (22, [some (.inr (some 58)), some (.inl 0), some (.inl 0), some (.inl 0)], [], fun xs σ => match xs with
      | [v1, v2, v3] => (Quotient_isSteady_c22 F 58 k2 k12 fu) v1 v2 v3 σ
      | _ => none)]) (jcon (jl2 (fun y0 y1 => jl0 (fun σ => h12 y0 y1 σ))) (jcon (jl3 (fun y0 y1 y2 => jl0 (fun σ => ih y0 y1 y2 σ))) jnil)) 45 22 [some (jmr 58), some (jmi v1), some (jmi v2), some (jmi v3)] [] σ) rfl
  have rr12 : ∀ (k2 : Int → jxS → Option jxR) (h2 : ∀ v1 σ, jRf X (k2 v1 σ) 2 [some (jmr 58), some (jmi v1), none, none] [] σ) (fu : Nat) (v1 v2 : Int) (σ : jxS), jRf X (Quotient_isSteady_c12 F 58 k2 fu v1 v2 σ) 12 [some (jmr 58), some (jmi v1), some (jmi v2), none] [] σ := by
    intro k2 h2 fu
    induction fu with
    | zero => intros; exact jRf_none
    | succ fu ih =>
      intro v1 v2 σ
      exact jRf_by (jex_ok hG (cs := [(2, [some (.inr (some 58)), some (.inl 0), none, none], [], fun xs σ => match xs with
      | [v1] => k2 v1 σ
      | _ => none), (22, [some (.inr (some 58)), some (.inl 0), some (.inl 0), some (.inl 0)], [], fun xs σ => match xs with
      | [v1, v2, v3] => Quotient_isSteady_c22 F 58 k2 (Quotient_isSteady_c12 F 58 k2 fu) F v1 v2 v3 σ
      | _ => none)]) (jcon (jl1 (fun y0 => jl0 (fun σ => h2 y0 σ))) (jcon (jl3 (fun y0 y1 y2 => jl0 (fun σ => rr22 _ h2 _ ih F y0 y1 y2 σ))) jnil)) 45 12 [some (jmr 58), some (jmi v1), some (jmi v2), none] [] σ) rfl
  have rr2 : ∀ (fu : Nat) (v1 : Int) (σ : jxS), jRf X (Quotient_isSteady_c2 F 58 fu v1 σ) 2 [some (jmr 58), some (jmi v1), none, none] [] σ := by
    intro  fu
    induction fu with
    | zero => intros; exact jRf_none
    | succ fu ih =>
      intro v1 σ
      exact jRf_by (jex_ok hG (cs := [(12, [some (.inr (some 58)), some (.inl 0), some (.inl 0), none], [], fun xs σ => match xs with
      | [v1, v2] => Quotient_isSteady_c12 F 58 (Quotient_isSteady_c2 F 58 fu) F v1 v2 σ
      | _ => none)]) (jcon (jl2 (fun y0 y1 => jl0 (fun σ => rr12 _ ih F y0 y1 σ))) jnil) 45 2 [some (jmr 58), some (jmi v1), none, none] [] σ) rfl
  exact jRf_by (jex_ok hG (cs := [(2, [some (.inr (some 58)), some (.inl 0), none, none], [], fun xs σ => match xs with
      | [v1] => Quotient_isSteady_c2 F 58 F v1 σ
      | _ => none)]) (jcon (jl1 (fun y0 => jl0 (fun σ => rr2 F y0 σ))) jnil) 45 0 [some (jmr 58), none, none, none] [] σ0) rfl
set_option maxRecDepth 100000 in
set_option maxHeartbeats 4000000 in
theorem jmet_Quotient_isSteady_63 (F : Nat) (sh : List jxC) (hs : jHas sh jc_C) (σ0 : jxS) (x : Int) (σ' : jxS) (h : Quotient_isSteady F 63 σ0 = some (x, σ')) : jMC yX6_isSteady cX6_isSteady 4 (jrt 4) 2 44 sh σ0 [(jmr 63)] (jrv 4 x) σ' := by
  refine jMC_of (kd := 4) (by decide) rfl h ?_
  intro X hX
  have hG : jGd X (jE_Quotient_isSteady F) jtb_Quotient_isSteady := jGd_of hX jtk_Quotient_isSteady (jcon jfl_X6_25 (jcon jfl_X6_37 jnil)) jnil jnil (jcon (jsV jlk_X6_83 ⟨rfl, rfl⟩ (jad_Quotient_nextOf F sh hs)) jnil) hs
  have rr22 : ∀ (k2 : Int → jxS → Option jxR) (h2 : ∀ v1 σ, jRf X (k2 v1 σ) 2 [some (jmr 63), some (jmi v1), none, none] [] σ) (k12 : Int → Int → jxS → Option jxR) (h12 : ∀ v1 v2 σ, jRf X (k12 v1 v2 σ) 12 [some (jmr 63), some (jmi v1), some (jmi v2), none] [] σ) (fu : Nat) (v1 v2 v3 : Int) (σ : jxS), jRf X (Quotient_isSteady_c22 F 63 k2 k12 fu v1 v2 v3 σ) 22 [some (jmr 63), some (jmi v1), some (jmi v2), some (jmi v3)] [] σ := by
    intro k2 h2 k12 h12 fu
    induction fu with
    | zero => intros; exact jRf_none
    | succ fu ih =>
      intro v1 v2 v3 σ
      exact jRf_by (jex_ok hG (cs := [(12, [some (.inr (some 63)), some (.inl 0), some (.inl 0), none], [], fun xs σ => match xs with
      | [v1, v2] => k12 v1 v2 σ
      | _ => none), (22, [some (.inr (some 63)), some (.inl 0), some (.inl 0), some (.inl 0)], [], fun xs σ => match xs with
      | [v1, v2, v3] => (Quotient_isSteady_c22 F 63 k2 k12 fu) v1 v2 v3 σ
      | _ => none)]) (jcon (jl2 (fun y0 y1 => jl0 (fun σ => h12 y0 y1 σ))) (jcon (jl3 (fun y0 y1 y2 => jl0 (fun σ => ih y0 y1 y2 σ))) jnil)) 45 22 [some (jmr 63), some (jmi v1), some (jmi v2), some (jmi v3)] [] σ) rfl
  have rr12 : ∀ (k2 : Int → jxS → Option jxR) (h2 : ∀ v1 σ, jRf X (k2 v1 σ) 2 [some (jmr 63), some (jmi v1), none, none] [] σ) (fu : Nat) (v1 v2 : Int) (σ : jxS), jRf X (Quotient_isSteady_c12 F 63 k2 fu v1 v2 σ) 12 [some (jmr 63), some (jmi v1), some (jmi v2), none] [] σ := by
    intro k2 h2 fu
    induction fu with
    | zero => intros; exact jRf_none
    | succ fu ih =>
      intro v1 v2 σ
      exact jRf_by (jex_ok hG (cs := [(2, [some (.inr (some 63)), some (.inl 0), none, none], [], fun xs σ => match xs with
      | [v1] => k2 v1 σ
      | _ => none), (22, [some (.inr (some 63)), some (.inl 0), some (.inl 0), some (.inl 0)], [], fun xs σ => match xs with
      | [v1, v2, v3] => Quotient_isSteady_c22 F 63 k2 (Quotient_isSteady_c12 F 63 k2 fu) F v1 v2 v3 σ
      | _ => none)]) (jcon (jl1 (fun y0 => jl0 (fun σ => h2 y0 σ))) (jcon (jl3 (fun y0 y1 y2 => jl0 (fun σ => rr22 _ h2 _ ih F y0 y1 y2 σ))) jnil)) 45 12 [some (jmr 63), some (jmi v1), some (jmi v2), none] [] σ) rfl
  have rr2 : ∀ (fu : Nat) (v1 : Int) (σ : jxS), jRf X (Quotient_isSteady_c2 F 63 fu v1 σ) 2 [some (jmr 63), some (jmi v1), none, none] [] σ := by
    intro  fu
    induction fu with
    | zero => intros; exact jRf_none
    | succ fu ih =>
      intro v1 σ
      exact jRf_by (jex_ok hG (cs := [(12, [some (.inr (some 63)), some (.inl 0), some (.inl 0), none], [], fun xs σ => match xs with
      | [v1, v2] => Quotient_isSteady_c12 F 63 (Quotient_isSteady_c2 F 63 fu) F v1 v2 σ
      | _ => none)]) (jcon (jl2 (fun y0 y1 => jl0 (fun σ => rr12 _ ih F y0 y1 σ))) jnil) 45 2 [some (jmr 63), some (jmi v1), none, none] [] σ) rfl
  exact jRf_by (jex_ok hG (cs := [(2, [some (.inr (some 63)), some (.inl 0), none, none], [], fun xs σ => match xs with
      | [v1] => Quotient_isSteady_c2 F 63 F v1 σ
      | _ => none)]) (jcon (jl1 (fun y0 => jl0 (fun σ => rr2 F y0 σ))) jnil) 45 0 [some (jmr 63), none, none, none] [] σ0) rfl
set_option maxRecDepth 100000 in
set_option maxHeartbeats 4000000 in
theorem jmet_Quotient_isSteady_68 (F : Nat) (sh : List jxC) (hs : jHas sh jc_C) (σ0 : jxS) (x : Int) (σ' : jxS) (h : Quotient_isSteady F 68 σ0 = some (x, σ')) : jMC yX6_isSteady cX6_isSteady 4 (jrt 4) 2 44 sh σ0 [(jmr 68)] (jrv 4 x) σ' := by
  refine jMC_of (kd := 4) (by decide) rfl h ?_
  intro X hX
  have hG : jGd X (jE_Quotient_isSteady F) jtb_Quotient_isSteady := jGd_of hX jtk_Quotient_isSteady (jcon jfl_X6_25 (jcon jfl_X6_37 jnil)) jnil jnil (jcon (jsV jlk_X6_83 ⟨rfl, rfl⟩ (jad_Quotient_nextOf F sh hs)) jnil) hs
  have rr22 : ∀ (k2 : Int → jxS → Option jxR) (h2 : ∀ v1 σ, jRf X (k2 v1 σ) 2 [some (jmr 68), some (jmi v1), none, none] [] σ) (k12 : Int → Int → jxS → Option jxR) (h12 : ∀ v1 v2 σ, jRf X (k12 v1 v2 σ) 12 [some (jmr 68), some (jmi v1), some (jmi v2), none] [] σ) (fu : Nat) (v1 v2 v3 : Int) (σ : jxS), jRf X (Quotient_isSteady_c22 F 68 k2 k12 fu v1 v2 v3 σ) 22 [some (jmr 68), some (jmi v1), some (jmi v2), some (jmi v3)] [] σ := by
    intro k2 h2 k12 h12 fu
    induction fu with
    | zero => intros; exact jRf_none
    | succ fu ih =>
      intro v1 v2 v3 σ
      exact jRf_by (jex_ok hG (cs := [(12, [some (.inr (some 68)), some (.inl 0), some (.inl 0), none], [], fun xs σ => match xs with
      | [v1, v2] => k12 v1 v2 σ
      | _ => none), (22, [some (.inr (some 68)), some (.inl 0), some (.inl 0), some (.inl 0)], [], fun xs σ => match xs with
      | [v1, v2, v3] => (Quotient_isSteady_c22 F 68 k2 k12 fu) v1 v2 v3 σ
      | _ => none)]) (jcon (jl2 (fun y0 y1 => jl0 (fun σ => h12 y0 y1 σ))) (jcon (jl3 (fun y0 y1 y2 => jl0 (fun σ => ih y0 y1 y2 σ))) jnil)) 45 22 [some (jmr 68), some (jmi v1), some (jmi v2), some (jmi v3)] [] σ) rfl
  have rr12 : ∀ (k2 : Int → jxS → Option jxR) (h2 : ∀ v1 σ, jRf X (k2 v1 σ) 2 [some (jmr 68), some (jmi v1), none, none] [] σ) (fu : Nat) (v1 v2 : Int) (σ : jxS), jRf X (Quotient_isSteady_c12 F 68 k2 fu v1 v2 σ) 12 [some (jmr 68), some (jmi v1), some (jmi v2), none] [] σ := by
    intro k2 h2 fu
    induction fu with
    | zero => intros; exact jRf_none
    | succ fu ih =>
      intro v1 v2 σ
      exact jRf_by (jex_ok hG (cs := [(2, [some (.inr (some 68)), some (.inl 0), none, none], [], fun xs σ => match xs with
      | [v1] => k2 v1 σ
      | _ => none), (22, [some (.inr (some 68)), some (.inl 0), some (.inl 0), some (.inl 0)], [], fun xs σ => match xs with
      | [v1, v2, v3] => Quotient_isSteady_c22 F 68 k2 (Quotient_isSteady_c12 F 68 k2 fu) F v1 v2 v3 σ
      | _ => none)]) (jcon (jl1 (fun y0 => jl0 (fun σ => h2 y0 σ))) (jcon (jl3 (fun y0 y1 y2 => jl0 (fun σ => rr22 _ h2 _ ih F y0 y1 y2 σ))) jnil)) 45 12 [some (jmr 68), some (jmi v1), some (jmi v2), none] [] σ) rfl
  have rr2 : ∀ (fu : Nat) (v1 : Int) (σ : jxS), jRf X (Quotient_isSteady_c2 F 68 fu v1 σ) 2 [some (jmr 68), some (jmi v1), none, none] [] σ := by
    intro  fu
    induction fu with
    | zero => intros; exact jRf_none
    | succ fu ih =>
      intro v1 σ
      exact jRf_by (jex_ok hG (cs := [(12, [some (.inr (some 68)), some (.inl 0), some (.inl 0), none], [], fun xs σ => match xs with
      | [v1, v2] => Quotient_isSteady_c12 F 68 (Quotient_isSteady_c2 F 68 fu) F v1 v2 σ
      | _ => none)]) (jcon (jl2 (fun y0 y1 => jl0 (fun σ => rr12 _ ih F y0 y1 σ))) jnil) 45 2 [some (jmr 68), some (jmi v1), none, none] [] σ) rfl
  exact jRf_by (jex_ok hG (cs := [(2, [some (.inr (some 68)), some (.inl 0), none, none], [], fun xs σ => match xs with
      | [v1] => Quotient_isSteady_c2 F 68 F v1 σ
      | _ => none)]) (jcon (jl1 (fun y0 => jl0 (fun σ => rr2 F y0 σ))) jnil) 45 0 [some (jmr 68), none, none, none] [] σ0) rfl
set_option maxRecDepth 100000 in
set_option maxHeartbeats 4000000 in
theorem jmet_Quotient_isSteady_73 (F : Nat) (sh : List jxC) (hs : jHas sh jc_C) (σ0 : jxS) (x : Int) (σ' : jxS) (h : Quotient_isSteady F 73 σ0 = some (x, σ')) : jMC yX6_isSteady cX6_isSteady 4 (jrt 4) 2 44 sh σ0 [(jmr 73)] (jrv 4 x) σ' := by
  refine jMC_of (kd := 4) (by decide) rfl h ?_
  intro X hX
  have hG : jGd X (jE_Quotient_isSteady F) jtb_Quotient_isSteady := jGd_of hX jtk_Quotient_isSteady (jcon jfl_X6_25 (jcon jfl_X6_37 jnil)) jnil jnil (jcon (jsV jlk_X6_83 ⟨rfl, rfl⟩ (jad_Quotient_nextOf F sh hs)) jnil) hs
  have rr22 : ∀ (k2 : Int → jxS → Option jxR) (h2 : ∀ v1 σ, jRf X (k2 v1 σ) 2 [some (jmr 73), some (jmi v1), none, none] [] σ) (k12 : Int → Int → jxS → Option jxR) (h12 : ∀ v1 v2 σ, jRf X (k12 v1 v2 σ) 12 [some (jmr 73), some (jmi v1), some (jmi v2), none] [] σ) (fu : Nat) (v1 v2 v3 : Int) (σ : jxS), jRf X (Quotient_isSteady_c22 F 73 k2 k12 fu v1 v2 v3 σ) 22 [some (jmr 73), some (jmi v1), some (jmi v2), some (jmi v3)] [] σ := by
    intro k2 h2 k12 h12 fu
    induction fu with
    | zero => intros; exact jRf_none
    | succ fu ih =>
      intro v1 v2 v3 σ
      exact jRf_by (jex_ok hG (cs := [(12, [some (.inr (some 73)), some (.inl 0), some (.inl 0), none], [], fun xs σ => match xs with
      | [v1, v2] => k12 v1 v2 σ
      | _ => none), (22, [some (.inr (some 73)), some (.inl 0), some (.inl 0), some (.inl 0)], [], fun xs σ => match xs with
      | [v1, v2, v3] => (Quotient_isSteady_c22 F 73 k2 k12 fu) v1 v2 v3 σ
      | _ => none)]) (jcon (jl2 (fun y0 y1 => jl0 (fun σ => h12 y0 y1 σ))) (jcon (jl3 (fun y0 y1 y2 => jl0 (fun σ => ih y0 y1 y2 σ))) jnil)) 45 22 [some (jmr 73), some (jmi v1), some (jmi v2), some (jmi v3)] [] σ) rfl
  have rr12 : ∀ (k2 : Int → jxS → Option jxR) (h2 : ∀ v1 σ, jRf X (k2 v1 σ) 2 [some (jmr 73), some (jmi v1), none, none] [] σ) (fu : Nat) (v1 v2 : Int) (σ : jxS), jRf X (Quotient_isSteady_c12 F 73 k2 fu v1 v2 σ) 12 [some (jmr 73), some (jmi v1), some (jmi v2), none] [] σ := by
    intro k2 h2 fu
    induction fu with
    | zero => intros; exact jRf_none
    | succ fu ih =>
      intro v1 v2 σ
      exact jRf_by (jex_ok hG (cs := [(2, [some (.inr (some 73)), some (.inl 0), none, none], [], fun xs σ => match xs with
      | [v1] => k2 v1 σ
      | _ => none), (22, [some (.inr (some 73)), some (.inl 0), some (.inl 0), some (.inl 0)], [], fun xs σ => match xs with
      | [v1, v2, v3] => Quotient_isSteady_c22 F 73 k2 (Quotient_isSteady_c12 F 73 k2 fu) F v1 v2 v3 σ
      | _ => none)]) (jcon (jl1 (fun y0 => jl0 (fun σ => h2 y0 σ))) (jcon (jl3 (fun y0 y1 y2 => jl0 (fun σ => rr22 _ h2 _ ih F y0 y1 y2 σ))) jnil)) 45 12 [some (jmr 73), some (jmi v1), some (jmi v2), none] [] σ) rfl
  have rr2 : ∀ (fu : Nat) (v1 : Int) (σ : jxS), jRf X (Quotient_isSteady_c2 F 73 fu v1 σ) 2 [some (jmr 73), some (jmi v1), none, none] [] σ := by
    intro  fu
    induction fu with
    | zero => intros; exact jRf_none
    | succ fu ih =>
      intro v1 σ
      exact jRf_by (jex_ok hG (cs := [(12, [some (.inr (some 73)), some (.inl 0), some (.inl 0), none], [], fun xs σ => match xs with
      | [v1, v2] => Quotient_isSteady_c12 F 73 (Quotient_isSteady_c2 F 73 fu) F v1 v2 σ
      | _ => none)]) (jcon (jl2 (fun y0 y1 => jl0 (fun σ => rr12 _ ih F y0 y1 σ))) jnil) 45 2 [some (jmr 73), some (jmi v1), none, none] [] σ) rfl
  exact jRf_by (jex_ok hG (cs := [(2, [some (.inr (some 73)), some (.inl 0), none, none], [], fun xs σ => match xs with
      | [v1] => Quotient_isSteady_c2 F 73 F v1 σ
      | _ => none)]) (jcon (jl1 (fun y0 => jl0 (fun σ => rr2 F y0 σ))) jnil) 45 0 [some (jmr 73), none, none, none] [] σ0) rfl
theorem jmet_Quotient_isSteady (F : Nat) (q : Nat) (hq : q ∈ jids_Quotient_isSteady_q) (sh : List jxC) (hs : jHas sh jc_C) (σ0 : jxS) (x : Int) (σ' : jxS) (h : Quotient_isSteady F q σ0 = some (x, σ')) : jMC yX6_isSteady cX6_isSteady 4 (jrt 4) 2 44 sh σ0 [(jmr q)] (jrv 4 x) σ' := by
  simp only [jids_Quotient_isSteady_q, List.mem_cons, List.not_mem_nil, or_false] at hq
  rcases hq with rfl | rfl | rfl | rfl | rfl | rfl
  · exact jmet_Quotient_isSteady_48 F sh hs σ0  x σ' h
  · exact jmet_Quotient_isSteady_53 F sh hs σ0  x σ' h
  · exact jmet_Quotient_isSteady_58 F sh hs σ0  x σ' h
  · exact jmet_Quotient_isSteady_63 F sh hs σ0  x σ' h
  · exact jmet_Quotient_isSteady_68 F sh hs σ0  x σ' h
  · exact jmet_Quotient_isSteady_73 F sh hs σ0  x σ' h
theorem jad_Quotient_isSteady (F : Nat) (sh : List jxC) (hs : jHas sh jc_C) : jAdV (jca_Quotient_isSteady F) yX6_isSteady cX6_isSteady 4 4 2 44 0 sh := by
  intro as σ k x σ' h
  unfold jca_Quotient_isSteady at h
  split at h
  · rename_i t0
    obtain ⟨g0, hh1⟩ := jcond h
    have g0 := jin_of g0
    obtain ⟨r, h1, h2⟩ := Option.bind_eq_some_iff.mp hh1
    exact ⟨_, _, h2, (by obtain ⟨fks, hfk⟩ := jrc_Quotient hs g0; exact ⟨_, _, _, _, _, _, rfl, rfl, hfk, rfl⟩), jmet_Quotient_isSteady F t0 g0 sh hs σ  r.1 r.2 h1⟩
  · cases h
def jtb_Board_proofOf : List (Nat × Instr) := [(0, .aload_n 1), (1, .invokevirtual 176), (4, .ifCond .ne 5), (7, .iconst 0), (8, .ireturn), (9, .aload_n 0), (10, .aload_n 1), (11, .invokevirtual 180), (14, .ifCond .le 14), (17, .aload_n 1), (18, .getfield 184), (21, .ifCond .eq 7), (24, .iconst 2), (25, .goto 4), (28, .iconst 1), (29, .ireturn)]
theorem jtk_Board_proofOf : jtok cX0_proofOf jtb_Board_proofOf = true := by decide +kernel
set_option maxRecDepth 100000 in
theorem jfl_X0_184 : jFl RX0 184 6 9 := ⟨RX6, TX6, 10, tyX6, rfl, by decide, jin_X6, tyX6_ok, nmX6, jow_X6, (Or.inr ⟨"LastLoses", (jNS_at 616 rfl rfl)⟩)⟩
set_option maxRecDepth 100000 in
theorem jlk_X0_176 : jLkV RX0 176 yX6_isSteady cX6_isSteady 4 4 0 := ⟨(jTB_at 1285 rfl rfl), (jTB_at 1286 rfl rfl), (jTB_at 1287 rfl rfl), (jTB_at 128 rfl rfl), jTB_at 1288 rfl rfl, ⟨by decide, by decide, by decide +kernel⟩⟩
set_option maxRecDepth 100000 in
theorem jlk_X0_180 : jLkV RX0 180 yX0_pairsOf cX0_pairsOf 2 1 1 := ⟨(jTB_at 1289 rfl rfl), (jTB_at 1234 rfl rfl), (jTB_at 1235 rfl rfl), (jTB_at 120 rfl rfl), jTB_at 1236 rfl rfl, ⟨by decide, by decide, by decide +kernel⟩⟩
def jE_Board_proofOf (F : Nat) : jxE := jmk [(184, 6, 9)] [] [] [(176, (1, false), jca_Quotient_isSteady F), (180, (2, false), jca_Board_pairsOf F)] 1 jc_C
set_option maxRecDepth 100000 in
set_option maxHeartbeats 4000000 in
theorem jmet_Board_proofOf_48 (F : Nat) (sh : List jxC) (hs : jHas sh jc_C) (σ0 : jxS) (x : Int) (σ' : jxS) (h : Board_proofOf F 48 σ0 = some (x, σ')) : jMC yX0_proofOf cX0_proofOf 2 (jrt 1) 6 137 sh σ0 [(jmr 9), (jmr 48)] (jrv 1 x) σ' := by
  refine jMC_of (kd := 1) (by decide) rfl h ?_
  intro X hX
  have hG : jGd X (jE_Board_proofOf F) jtb_Board_proofOf := jGd_of hX jtk_Board_proofOf (jcon jfl_X0_184 jnil) jnil jnil (jcon (jsV jlk_X0_176 ⟨rfl, rfl⟩ (jad_Quotient_isSteady F sh hs)) (jcon (jsV jlk_X0_180 ⟨rfl, rfl⟩ (jad_Board_pairsOf F sh hs)) jnil)) hs
  exact jRf_by (jex_ok hG (cs := []) jnil 19 0 [some (jmr 9), some (jmr 48)] [] σ0) rfl
set_option maxRecDepth 100000 in
set_option maxHeartbeats 4000000 in
theorem jmet_Board_proofOf_53 (F : Nat) (sh : List jxC) (hs : jHas sh jc_C) (σ0 : jxS) (x : Int) (σ' : jxS) (h : Board_proofOf F 53 σ0 = some (x, σ')) : jMC yX0_proofOf cX0_proofOf 2 (jrt 1) 6 137 sh σ0 [(jmr 9), (jmr 53)] (jrv 1 x) σ' := by
  refine jMC_of (kd := 1) (by decide) rfl h ?_
  intro X hX
  have hG : jGd X (jE_Board_proofOf F) jtb_Board_proofOf := jGd_of hX jtk_Board_proofOf (jcon jfl_X0_184 jnil) jnil jnil (jcon (jsV jlk_X0_176 ⟨rfl, rfl⟩ (jad_Quotient_isSteady F sh hs)) (jcon (jsV jlk_X0_180 ⟨rfl, rfl⟩ (jad_Board_pairsOf F sh hs)) jnil)) hs
  exact jRf_by (jex_ok hG (cs := []) jnil 19 0 [some (jmr 9), some (jmr 53)] [] σ0) rfl
set_option maxRecDepth 100000 in
set_option maxHeartbeats 4000000 in
theorem jmet_Board_proofOf_58 (F : Nat) (sh : List jxC) (hs : jHas sh jc_C) (σ0 : jxS) (x : Int) (σ' : jxS) (h : Board_proofOf F 58 σ0 = some (x, σ')) : jMC yX0_proofOf cX0_proofOf 2 (jrt 1) 6 137 sh σ0 [(jmr 9), (jmr 58)] (jrv 1 x) σ' := by
  refine jMC_of (kd := 1) (by decide) rfl h ?_
  intro X hX
  have hG : jGd X (jE_Board_proofOf F) jtb_Board_proofOf := jGd_of hX jtk_Board_proofOf (jcon jfl_X0_184 jnil) jnil jnil (jcon (jsV jlk_X0_176 ⟨rfl, rfl⟩ (jad_Quotient_isSteady F sh hs)) (jcon (jsV jlk_X0_180 ⟨rfl, rfl⟩ (jad_Board_pairsOf F sh hs)) jnil)) hs
  exact jRf_by (jex_ok hG (cs := []) jnil 19 0 [some (jmr 9), some (jmr 58)] [] σ0) rfl
set_option maxRecDepth 100000 in
set_option maxHeartbeats 4000000 in
theorem jmet_Board_proofOf_63 (F : Nat) (sh : List jxC) (hs : jHas sh jc_C) (σ0 : jxS) (x : Int) (σ' : jxS) (h : Board_proofOf F 63 σ0 = some (x, σ')) : jMC yX0_proofOf cX0_proofOf 2 (jrt 1) 6 137 sh σ0 [(jmr 9), (jmr 63)] (jrv 1 x) σ' := by
  refine jMC_of (kd := 1) (by decide) rfl h ?_
  intro X hX
  have hG : jGd X (jE_Board_proofOf F) jtb_Board_proofOf := jGd_of hX jtk_Board_proofOf (jcon jfl_X0_184 jnil) jnil jnil (jcon (jsV jlk_X0_176 ⟨rfl, rfl⟩ (jad_Quotient_isSteady F sh hs)) (jcon (jsV jlk_X0_180 ⟨rfl, rfl⟩ (jad_Board_pairsOf F sh hs)) jnil)) hs
  exact jRf_by (jex_ok hG (cs := []) jnil 19 0 [some (jmr 9), some (jmr 63)] [] σ0) rfl
set_option maxRecDepth 100000 in
set_option maxHeartbeats 4000000 in
theorem jmet_Board_proofOf_68 (F : Nat) (sh : List jxC) (hs : jHas sh jc_C) (σ0 : jxS) (x : Int) (σ' : jxS) (h : Board_proofOf F 68 σ0 = some (x, σ')) : jMC yX0_proofOf cX0_proofOf 2 (jrt 1) 6 137 sh σ0 [(jmr 9), (jmr 68)] (jrv 1 x) σ' := by
  refine jMC_of (kd := 1) (by decide) rfl h ?_
  intro X hX
  have hG : jGd X (jE_Board_proofOf F) jtb_Board_proofOf := jGd_of hX jtk_Board_proofOf (jcon jfl_X0_184 jnil) jnil jnil (jcon (jsV jlk_X0_176 ⟨rfl, rfl⟩ (jad_Quotient_isSteady F sh hs)) (jcon (jsV jlk_X0_180 ⟨rfl, rfl⟩ (jad_Board_pairsOf F sh hs)) jnil)) hs
  exact jRf_by (jex_ok hG (cs := []) jnil 19 0 [some (jmr 9), some (jmr 68)] [] σ0) rfl
set_option maxRecDepth 100000 in
set_option maxHeartbeats 4000000 in
theorem jmet_Board_proofOf_73 (F : Nat) (sh : List jxC) (hs : jHas sh jc_C) (σ0 : jxS) (x : Int) (σ' : jxS) (h : Board_proofOf F 73 σ0 = some (x, σ')) : jMC yX0_proofOf cX0_proofOf 2 (jrt 1) 6 137 sh σ0 [(jmr 9), (jmr 73)] (jrv 1 x) σ' := by
  refine jMC_of (kd := 1) (by decide) rfl h ?_
  intro X hX
  have hG : jGd X (jE_Board_proofOf F) jtb_Board_proofOf := jGd_of hX jtk_Board_proofOf (jcon jfl_X0_184 jnil) jnil jnil (jcon (jsV jlk_X0_176 ⟨rfl, rfl⟩ (jad_Quotient_isSteady F sh hs)) (jcon (jsV jlk_X0_180 ⟨rfl, rfl⟩ (jad_Board_pairsOf F sh hs)) jnil)) hs
  exact jRf_by (jex_ok hG (cs := []) jnil 19 0 [some (jmr 9), some (jmr 73)] [] σ0) rfl
theorem jmet_Board_proofOf (F : Nat) (q1 : Nat) (hq1 : q1 ∈ jids_Board_proofOf_q1) (sh : List jxC) (hs : jHas sh jc_C) (σ0 : jxS) (x : Int) (σ' : jxS) (h : Board_proofOf F q1 σ0 = some (x, σ')) : jMC yX0_proofOf cX0_proofOf 2 (jrt 1) 6 137 sh σ0 [(jmr 9), (jmr q1)] (jrv 1 x) σ' := by
  simp only [jids_Board_proofOf_q1, List.mem_cons, List.not_mem_nil, or_false] at hq1
  rcases hq1 with rfl | rfl | rfl | rfl | rfl | rfl
  · exact jmet_Board_proofOf_48 F sh hs σ0  x σ' h
  · exact jmet_Board_proofOf_53 F sh hs σ0  x σ' h
  · exact jmet_Board_proofOf_58 F sh hs σ0  x σ' h
  · exact jmet_Board_proofOf_63 F sh hs σ0  x σ' h
  · exact jmet_Board_proofOf_68 F sh hs σ0  x σ' h
  · exact jmet_Board_proofOf_73 F sh hs σ0  x σ' h
theorem jad_Board_proofOf (F : Nat) (sh : List jxC) (hs : jHas sh jc_C) : jAdV (jca_Board_proofOf F) yX0_proofOf cX0_proofOf 2 1 6 137 1 sh := by
  intro as σ k x σ' h
  unfold jca_Board_proofOf at h
  split at h
  · rename_i t0 t1
    obtain ⟨g0, hh1⟩ := jcond h
    obtain rfl := jbeq g0
    obtain ⟨g1, hh2⟩ := jcond hh1
    have g1 := jin_of g1
    obtain ⟨r, h1, h2⟩ := Option.bind_eq_some_iff.mp hh2
    exact ⟨_, _, h2, ⟨_, _, _, _, _, _, rfl, rfl, (hs _ (jkf_in (l := jc_C) (idx := 9) rfl)).1, rfl⟩, jmet_Board_proofOf F t1 g1 sh hs σ  r.1 r.2 h1⟩
  · cases h
def jtb_LL1_proved : List (Nat × Instr) := [(0, .aload_n 0), (1, .iload_n 1), (2, .invokevirtual 193), (5, .astore_n 2), (6, .aload_n 2), (7, .ifnonnull 5), (10, .iconst (-1)), (11, .ireturn), (12, .aload_n 2), (13, .invokevirtual 200), (16, .ifCond .eq 14), (19, .aload_n 0), (20, .getfield 48), (23, .aload_n 2), (24, .invokevirtual 222), (27, .goto 5), (30, .bipush (-3)), (32, .ireturn)]
theorem jtk_LL1_proved : jtok cX11_proved jtb_LL1_proved = true := by decide +kernel
set_option maxRecDepth 100000 in
theorem jlk_X11_222 : jLkV RX11 222 yX0_proofOf cX0_proofOf 2 1 1 := ⟨(jTB_at 1281 rfl rfl), (jTB_at 1282 rfl rfl), (jTB_at 1283 rfl rfl), (jTB_at 120 rfl rfl), jTB_at 1284 rfl rfl, ⟨by decide, by decide, by decide +kernel⟩⟩
def jE_LL1_proved (F : Nat) : jxE := jmk [(48, 11, 2)] [] [] [(193, (2, false), jca_LL1_quotientOf F), (200, (1, false), jca_Quotient_isKnown F), (222, (2, false), jca_Board_proofOf F)] 1 jc_L1
set_option maxRecDepth 100000 in
set_option maxHeartbeats 4000000 in
theorem jmet_LL1_proved (F : Nat) (sh : List jxC) (hs : jHas sh jc_L1) (σ0 : jxS) (v1 : Int) (x : Int) (σ' : jxS) (h : LL1_proved F σ0 v1 = some (x, σ')) : jMC yX11_proved cX11_proved 3 (jrt 1) 7 165 sh σ0 [(jmr 0), (jmi v1)] (jrv 1 x) σ' := by
  refine jMC_of (kd := 1) (by decide) rfl h ?_
  intro X hX
  have hG : jGd X (jE_LL1_proved F) jtb_LL1_proved := jGd_of hX jtk_LL1_proved (jcon jfl_X11_48 jnil) jnil jnil (jcon (jsV jlk_X11_193 ⟨rfl, rfl⟩ (jad_LL1_quotientOf F sh hs)) (jcon (jsV jlk_X11_200 ⟨rfl, rfl⟩ (jad_Quotient_isKnown F sh (jh_L1C hs))) (jcon (jsV jlk_X11_222 ⟨rfl, rfl⟩ (jad_Board_proofOf F sh (jh_L1C hs))) jnil))) hs
  exact jRf_by (jex_ok hG (cs := []) jnil 21 0 [some (jmr 0), some (jmi v1), none] [] σ0) rfl
theorem jad_LL1_proved (F : Nat) (sh : List jxC) (hs : jHas sh jc_L1) : jAdV (jca_LL1_proved F) yX11_proved cX11_proved 3 1 7 165 1 sh := by
  intro as σ k x σ' h
  unfold jca_LL1_proved at h
  split at h
  · rename_i t0 v1
    obtain ⟨g0, hh1⟩ := jcond h
    obtain rfl := jbeq g0
    obtain ⟨r, h1, h2⟩ := Option.bind_eq_some_iff.mp hh1
    exact ⟨_, _, h2, ⟨_, _, _, _, _, _, rfl, rfl, (hs _ (jkf_in (l := jc_L1) (idx := 0) rfl)).1, rfl⟩, jmet_LL1_proved F  sh hs σ v1 r.1 r.2 h1⟩
  · cases h
