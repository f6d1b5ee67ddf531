/-! Contracts: Cycle_seeMoves Cycle_findNimbers Cycle_repeats Cycle_findCycle Cycle_answer LL1_period Positions_firstWith Positions_isPosition Positions_firstPart Positions_endPart Positions_heapOf Positions_restOf Rules_firstMove Rules_packedAt Positions_joinMove Options_list Values_judgeOptions Values_settleTo Values_loses Values_nimberOf Values_isLikeNim Board_firstOdd Positions_beansOf Positions_without Positions_countOf Positions_tally LL1_tallyOrNoSuch -/
def jtb_Cycle_seeMoves : List (Nat × Instr) := [(0, .iload_n 3), (1, .iload_n 2), (2, .ifCond .ne 7), (5, .iconst 1), (6, .goto 4), (9, .iconst 2), (10, .iand), (11, .ifCond .eq 19), (14, .aload_n 0), (15, .getfield 15), (18, .aload_n 0), (19, .getfield 11), (22, .iload_n 2), (23, .iaload), (24, .sipush 255), (27, .iand), (28, .iload_n 1), (29, .iastore), (30, .iload_n 3), (31, .iconst 4), (32, .iand), (33, .ifCond .eq 48), (36, .iconst 1), (37, .istore 4), (39, .iload 4), (41, .iload 4), (43, .iadd), (44, .iload_n 2), (45, .if_icmp .gt 36), (48, .aload_n 0), (49, .getfield 15), (52, .aload_n 0), (53, .getfield 11), (56, .iload 4), (58, .iaload), (59, .aload_n 0), (60, .getfield 11), (63, .iload_n 2), (64, .iload 4), (66, .isub), (67, .iaload), (68, .ixor), (69, .sipush 255), (72, .iand), (73, .iload_n 1), (74, .iastore), (75, .iinc 4 1), (78, .goto (-39)), (81, .return_)]
theorem jtk_Cycle_seeMoves : jtok cX1_seeMoves jtb_Cycle_seeMoves = true := by decide +kernel
set_option maxRecDepth 100000 in
theorem jfl_X1_11 : jFl RX1 11 1 0 := ⟨RX1, TX1, 5, tyX1, rfl, by decide, jin_X1, tyX1_ok, nmX1, jow_X1, (Or.inl (jTB_at 404 rfl rfl))⟩
set_option maxRecDepth 100000 in
theorem jfl_X1_15 : jFl RX1 15 1 1 := ⟨RX1, TX1, 5, tyX1, rfl, by decide, jin_X1, tyX1_ok, nmX1, jow_X1, (Or.inl (jTB_at 405 rfl rfl))⟩
def jE_Cycle_seeMoves (F : Nat) : jxE := jmk [(11, 1, 0), (15, 1, 1)] [] [] [] 0 jc_C
set_option maxRecDepth 100000 in
set_option maxHeartbeats 4000000 in
theorem jmet_Cycle_seeMoves (F : Nat) (sh : List jxC) (hs : jHas sh jc_C) (σ0 : jxS) (v1 : Int) (v2 : Int) (v3 : Int) (x : Int) (σ' : jxS) (h : Cycle_seeMoves F σ0 v1 v2 v3 = some (x, σ')) : jMC yX1_seeMoves cX1_seeMoves 5 (jrt 0) 0 0 sh σ0 [(jmr 19), (jmi v1), (jmi v2), (jmi v3)] (jrv 0 x) σ' := by
  refine jMC_of (kd := 0) (by decide) rfl h ?_
  intro X hX
  have hG : jGd X (jE_Cycle_seeMoves F) jtb_Cycle_seeMoves := jGd_of hX jtk_Cycle_seeMoves (jcon jfl_X1_11 (jcon jfl_X1_15 jnil)) jnil jnil jnil hs
  have rr39 : ∀ (fu : Nat) (v1 v2 v4 : Int) (σ : jxS), jRf X (Cycle_seeMoves_c39 F fu v1 v2 v4 σ) 39 [some (jmr 19), some (jmi v1), some (jmi v2), none, some (jmi v4)] [] σ := by
    intro  fu
    induction fu with
    | zero => intros; exact jRf_none
    | succ fu ih =>
      intro v1 v2 v4 σ
      exact jRf_by (jex_ok hG (cs := [(39, [some (.inr (some 19)), some (.inl 0), some (.inl 0), none, some (.inl 0)], [], fun xs σ => match xs with
      | [v1, v2, v4] => (Cycle_seeMoves_c39 F fu) v1 v2 v4 σ
      | _ => none)]) (jcon (jl3 (fun y0 y1 y2 => jl0 (fun σ => ih y0 y1 y2 σ))) jnil) 52 39 [some (jmr 19), some (jmi v1), some (jmi v2), none, some (jmi v4)] [] σ) rfl
  have rr30 : ∀ (v1 v2 v3 : Int) (σ : jxS), jRf X (Cycle_seeMoves_c30 F v1 v2 v3 σ) 30 [some (jmr 19), some (jmi v1), some (jmi v2), some (jmi v3), none] [] σ := by
    intro  v1 v2 v3 σ
    exact jRf_by (jex_ok hG (cs := [(39, [some (.inr (some 19)), some (.inl 0), some (.inl 0), none, some (.inl 0)], [], fun xs σ => match xs with
      | [v1, v2, v4] => Cycle_seeMoves_c39 F F v1 v2 v4 σ
      | _ => none)]) (jcon (jl3 (fun y0 y1 y2 => jl0 (fun σ => rr39 F y0 y1 y2 σ))) jnil) 52 30 [some (jmr 19), some (jmi v1), some (jmi v2), some (jmi v3), none] [] σ) rfl
  have rr10 : ∀ (v1 v2 v3 t0 t1 : Int) (σ : jxS), jRf X (Cycle_seeMoves_c10 F v1 v2 v3 t0 t1 σ) 10 [some (jmr 19), some (jmi v1), some (jmi v2), some (jmi v3), none] [(jmi t0), (jmi t1)] σ := by
    intro  v1 v2 v3 t0 t1 σ
    exact jRf_by (jex_ok hG (cs := [(30, [some (.inr (some 19)), some (.inl 0), some (.inl 0), some (.inl 0), none], [], fun xs σ => match xs with
      | [v1, v2, v3] => Cycle_seeMoves_c30 F v1 v2 v3 σ
      | _ => none)]) (jcon (jl3 (fun y0 y1 y2 => jl0 (fun σ => rr30 y0 y1 y2 σ))) jnil) 52 10 [some (jmr 19), some (jmi v1), some (jmi v2), some (jmi v3), none] [(jmi t0), (jmi t1)] σ) rfl
  exact jRf_by (jex_ok hG (cs := [(10, [some (.inr (some 19)), some (.inl 0), some (.inl 0), some (.inl 0), none], [(.inl 0), (.inl 0)], fun xs σ => match xs with
      | [v1, v2, v3, t0, t1] => Cycle_seeMoves_c10 F v1 v2 v3 t0 t1 σ
      | _ => none)]) (jcon (jl3 (fun y0 y1 y2 => jl2 (fun y3 y4 => (fun σ => rr10 y0 y1 y2 y3 y4 σ)))) jnil) 52 0 [some (jmr 19), some (jmi v1), some (jmi v2), some (jmi v3), none] [] σ0) rfl
theorem jad_Cycle_seeMoves (F : Nat) (sh : List jxC) (hs : jHas sh jc_C) : jAdV (jca_Cycle_seeMoves F) yX1_seeMoves cX1_seeMoves 5 0 0 0 3 sh := by
  intro as σ k x σ' h
  unfold jca_Cycle_seeMoves at h
  split at h
  · rename_i t0 v1 v2 v3
    obtain ⟨g0, hh1⟩ := jcond h
    obtain rfl := jbeq g0
    obtain ⟨r, h1, h2⟩ := Option.bind_eq_some_iff.mp hh1
    exact ⟨_, _, h2, ⟨_, _, _, _, _, _, rfl, rfl, (hs _ (jkf_in (l := jc_C) (idx := 19) rfl)).1, rfl⟩, jmet_Cycle_seeMoves F  sh hs σ v1 v2 v3 r.1 r.2 h1⟩
  · cases h
def jtb_Cycle_findNimbers : List (Nat × Instr) := [(0, .aload_n 0), (1, .getfield 15), (4, .iconst 0), (5, .invokestatic 43), (8, .iconst 1), (9, .istore_n 2), (10, .iload_n 2), (11, .sipush 160), (14, .if_icmp .gt 85), (17, .iconst 1), (18, .istore_n 3), (19, .iload_n 3), (20, .aload_n 1), (21, .invokevirtual 26), (24, .if_icmp .gt 27), (27, .iload_n 3), (28, .iload_n 2), (29, .if_icmp .gt 22), (32, .aload_n 0), (33, .iload_n 2), (34, .iload_n 2), (35, .iload_n 3), (36, .isub), (37, .aload_n 1), (38, .iload_n 3), (39, .invokevirtual 49), (42, .invokevirtual 53), (45, .iinc 3 1), (48, .goto (-29)), (51, .iconst 0), (52, .istore_n 3), (53, .iconst 0), (54, .istore 4), (56, .iload 4), (58, .sipush 256), (61, .if_icmp .ge 25), (64, .aload_n 0), (65, .getfield 15), (68, .iload 4), (70, .iaload), (71, .iload_n 2), (72, .if_icmp .ne 14), (75, .iload 4), (77, .iconst 1), (78, .iadd), (79, .istore_n 3), (80, .iinc 4 1), (83, .goto (-27)), (86, .aload_n 0), (87, .getfield 11), (90, .iload_n 2), (91, .iload_n 3), (92, .iastore), (93, .iinc 2 1), (96, .goto (-86)), (99, .return_)]
theorem jtk_Cycle_findNimbers : jtok cX1_findNimbers jtb_Cycle_findNimbers = true := by decide +kernel
set_option maxRecDepth 100000 in
theorem jlk_X1_26 : jLkV RX1 26 yX8_digitCount cX8_digitCount 1 1 0 := ⟨(jTB_at 783 rfl rfl), (jTB_at 784 rfl rfl), (jTB_at 785 rfl rfl), (jTB_at 121 rfl rfl), jTB_at 786 rfl rfl, ⟨by decide, by decide, by decide +kernel⟩⟩
set_option maxRecDepth 100000 in
theorem jlk_X1_43 : jLkS RX1 43 yJ7_fill_53178 cJ7_fill_53178 4 0 2 := ⟨Or.inl (jTB_at 782 rfl rfl), (jTB_at 687 rfl rfl), (jTB_at 130 rfl rfl), jTB_at 688 rfl rfl, ⟨by decide, by decide, by decide +kernel⟩⟩
set_option maxRecDepth 100000 in
theorem jlk_X1_49 : jLkV RX1 49 yX8_digitFor cX8_digitFor 2 1 1 := ⟨(jTB_at 787 rfl rfl), (jTB_at 788 rfl rfl), (jTB_at 789 rfl rfl), (jTB_at 121 rfl rfl), jTB_at 790 rfl rfl, ⟨by decide, by decide, by decide +kernel⟩⟩
set_option maxRecDepth 100000 in
theorem jlk_X1_53 : jLkV RX1 53 yX1_seeMoves cX1_seeMoves 5 0 3 := ⟨(jTB_at 791 rfl rfl), (jTB_at 793 rfl rfl), (jTB_at 22 rfl rfl), (jTB_at 122 rfl rfl), jTB_at 794 rfl rfl, ⟨by decide, by decide, by decide +kernel⟩⟩
def jE_Cycle_findNimbers (F : Nat) : jxE := jmk [(11, 1, 0), (15, 1, 1)] [] [] [(26, (1, false), jca_Rules_digitCount F), (43, (2, true), jca_Arrays_fill_AIIV F), (49, (2, false), jca_Rules_digitFor F), (53, (4, false), jca_Cycle_seeMoves F)] 0 jc_C
set_option maxRecDepth 100000 in
set_option maxHeartbeats 4000000 in
theorem jmet_Cycle_findNimbers (F : Nat) (sh : List jxC) (hs : jHas sh jc_C) (σ0 : jxS) (x : Int) (σ' : jxS) (h : Cycle_findNimbers F σ0 = some (x, σ')) : jMC yX1_findNimbers cX1_findNimbers 5 (jrt 0) 1 24 sh σ0 [(jmr 19), (jmr 10)] (jrv 0 x) σ' := by
  refine jMC_of (kd := 0) (by decide) rfl h ?_
  intro X hX
  have hG : jGd X (jE_Cycle_findNimbers F) jtb_Cycle_findNimbers := jGd_of hX jtk_Cycle_findNimbers (jcon jfl_X1_11 (jcon jfl_X1_15 jnil)) jnil jnil (jcon (jsV jlk_X1_26 ⟨rfl, rfl⟩ (jad_Rules_digitCount F sh hs)) (jcon (jsS jlk_X1_43 ⟨rfl, rfl⟩ (jad_Arrays_fill_AIIV F sh hs)) (jcon (jsV jlk_X1_49 ⟨rfl, rfl⟩ (jad_Rules_digitFor F sh hs)) (jcon (jsV jlk_X1_53 ⟨rfl, rfl⟩ (jad_Cycle_seeMoves F sh hs)) jnil)))) hs
  have rr86 : ∀ (k10 : Int → jxS → Option jxR) (h10 : ∀ v2 σ, jRf X (k10 v2 σ) 10 [some (jmr 19), some (jmr 10), some (jmi v2), none, none] [] σ) (v2 v3 : Int) (σ : jxS), jRf X (Cycle_findNimbers_c86 F k10 v2 v3 σ) 86 [some (jmr 19), some (jmr 10), some (jmi v2), some (jmi v3), none] [] σ := by
    intro k10 h10 v2 v3 σ
    exact jRf_by (jex_ok hG (cs := [(10, [some (.inr (some 19)), some (.inr (some 10)), some (.inl 0), none, none], [], fun xs σ => match xs with
      | [v2] => k10 v2 σ
      | _ => none)]) (jcon (jl1 (fun y0 => jl0 (fun σ => h10 y0 σ))) jnil) 59 86 [some (jmr 19), some (jmr 10), some (jmi v2), some (jmi v3), none] [] σ) rfl
  have rr56 : ∀ (k10 : Int → jxS → Option jxR) (h10 : ∀ v2 σ, jRf X (k10 v2 σ) 10 [some (jmr 19), some (jmr 10), some (jmi v2), none, none] [] σ) (fu : Nat) (v2 v3 v4 : Int) (σ : jxS), jRf X (Cycle_findNimbers_c56 F k10 fu v2 v3 v4 σ) 56 [some (jmr 19), some (jmr 10), some (jmi v2), some (jmi v3), some (jmi v4)] [] σ := by
    intro k10 h10 fu
    induction fu with
    | zero => intros; exact jRf_none
    | succ fu ih =>
      intro v2 v3 v4 σ
      exact jRf_by (jex_ok hG (cs := [(56, [some (.inr (some 19)), some (.inr (some 10)), some (.inl 0), some (.inl 0), some (.inl 0)], [], fun xs σ => match xs with
      | [v2, v3, v4] => (Cycle_findNimbers_c56 F k10 fu) v2 v3 v4 σ
      | _ => none), (86, [some (.inr (some 19)), some (.inr (some 10)), some (.inl 0), some (.inl 0), none], [], fun xs σ => match xs with
      | [v2, v3] => Cycle_findNimbers_c86 F k10 v2 v3 σ
      | _ => none)]) (jcon (jl3 (fun y0 y1 y2 => jl0 (fun σ => ih y0 y1 y2 σ))) (jcon (jl2 (fun y0 y1 => jl0 (fun σ => rr86 _ h10 y0 y1 σ))) jnil)) 59 56 [some (jmr 19), some (jmr 10), some (jmi v2), some (jmi v3), some (jmi v4)] [] σ) rfl
  have rr19 : ∀ (k10 : Int → jxS → Option jxR) (h10 : ∀ v2 σ, jRf X (k10 v2 σ) 10 [some (jmr 19), some (jmr 10), some (jmi v2), none, none] [] σ) (fu : Nat) (v2 v3 : Int) (σ : jxS), jRf X (Cycle_findNimbers_c19 F k10 fu v2 v3 σ) 19 [some (jmr 19), some (jmr 10), some (jmi v2), some (jmi v3), none] [] σ := by
    intro k10 h10 fu
    induction fu with
    | zero => intros; exact jRf_none
    | succ fu ih =>
      intro v2 v3 σ
      exact jRf_by (jex_ok hG (cs := [(19, [some (.inr (some 19)), some (.inr (some 10)), some (.inl 0), some (.inl 0), none], [], fun xs σ => match xs with
      | [v2, v3] => (Cycle_findNimbers_c19 F k10 fu) v2 v3 σ
      | _ => none), (56, [some (.inr (some 19)), some (.inr (some 10)), some (.inl 0), some (.inl 0), some (.inl 0)], [], fun xs σ => match xs with
      | [v2, v3, v4] => Cycle_findNimbers_c56 F k10 F v2 v3 v4 σ
      | _ => none)]) (jcon (jl2 (fun y0 y1 => jl0 (fun σ => ih y0 y1 σ))) (jcon (jl3 (fun y0 y1 y2 => jl0 (fun σ => rr56 _ h10 F y0 y1 y2 σ))) jnil)) 59 19 [some (jmr 19), some (jmr 10), some (jmi v2), some (jmi v3), none] [] σ) rfl
  have rr10 : ∀ (fu : Nat) (v2 : Int) (σ : jxS), jRf X (Cycle_findNimbers_c10 F fu v2 σ) 10 [some (jmr 19), some (jmr 10), some (jmi v2), none, none] [] σ := by
    intro  fu
    induction fu with
    | zero => intros; exact jRf_none
    | succ fu ih =>
      intro v2 σ
      exact jRf_by (jex_ok hG (cs := [(19, [some (.inr (some 19)), some (.inr (some 10)), some (.inl 0), some (.inl 0), none], [], fun xs σ => match xs with
      | [v2, v3] => Cycle_findNimbers_c19 F (Cycle_findNimbers_c10 F fu) F v2 v3 σ
      | _ => none)]) (jcon (jl2 (fun y0 y1 => jl0 (fun σ => rr19 _ ih F y0 y1 σ))) jnil) 59 10 [some (jmr 19), some (jmr 10), some (jmi v2), none, none] [] σ) rfl
  exact jRf_by (jex_ok hG (cs := [(10, [some (.inr (some 19)), some (.inr (some 10)), some (.inl 0), none, none], [], fun xs σ => match xs with
      | [v2] => Cycle_findNimbers_c10 F F v2 σ
      | _ => none)]) (jcon (jl1 (fun y0 => jl0 (fun σ => rr10 F y0 σ))) jnil) 59 0 [some (jmr 19), some (jmr 10), none, none, none] [] σ0) rfl
theorem jad_Cycle_findNimbers (F : Nat) (sh : List jxC) (hs : jHas sh jc_C) : jAdV (jca_Cycle_findNimbers F) yX1_findNimbers cX1_findNimbers 5 0 1 24 1 sh := by
  intro as σ k x σ' h
  unfold jca_Cycle_findNimbers at h
  split at h
  · rename_i t0 t1
    obtain ⟨g0, hh1⟩ := jcond h
    obtain rfl := jbeq g0
    obtain ⟨g1, hh2⟩ := jcond hh1
    obtain rfl := jbeq g1
    obtain ⟨r, h1, h2⟩ := Option.bind_eq_some_iff.mp hh2
    exact ⟨_, _, h2, ⟨_, _, _, _, _, _, rfl, rfl, (hs _ (jkf_in (l := jc_C) (idx := 19) rfl)).1, rfl⟩, jmet_Cycle_findNimbers F  sh hs σ  r.1 r.2 h1⟩
  · cases h
def jtb_Cycle_repeats : List (Nat × Instr) := [(0, .iload_n 3), (1, .sipush 160), (4, .iload_n 1), (5, .isub), (6, .invokestatic 61), (9, .istore 4), (11, .iload 4), (13, .iload_n 2), (14, .if_icmp .lt 30), (17, .aload_n 0), (18, .getfield 11), (21, .iload 4), (23, .iload_n 1), (24, .iadd), (25, .iaload), (26, .aload_n 0), (27, .getfield 11), (30, .iload 4), (32, .iaload), (33, .if_icmp .eq 5), (36, .iconst 0), (37, .ireturn), (38, .iinc 4 (-1)), (41, .goto (-30)), (44, .iconst 1), (45, .ireturn)]
theorem jtk_Cycle_repeats : jtok cX1_repeats jtb_Cycle_repeats = true := by decide +kernel
def jE_Cycle_repeats (F : Nat) : jxE := jmk [(11, 1, 0)] [] [] [(61, (2, true), jca_min)] 4 jc_C
set_option maxRecDepth 100000 in
set_option maxHeartbeats 4000000 in
theorem jmet_Cycle_repeats (F : Nat) (sh : List jxC) (hs : jHas sh jc_C) (σ0 : jxS) (v1 : Int) (v2 : Int) (v3 : Int) (x : Int) (σ' : jxS) (h : Cycle_repeats F σ0 v1 v2 v3 = some (x, σ')) : jMC yX1_repeats cX1_repeats 5 (jrt 4) 1 40 sh σ0 [(jmr 19), (jmi v1), (jmi v2), (jmi v3)] (jrv 4 x) σ' := by
  refine jMC_of (kd := 4) (by decide) rfl h ?_
  intro X hX
  have hG : jGd X (jE_Cycle_repeats F) jtb_Cycle_repeats := jGd_of hX jtk_Cycle_repeats (jcon jfl_X1_11 jnil) jnil jnil (jcon (js_min (jTB_at 803 rfl rfl) (by decide) (by decide)) jnil) hs
  have rr11 : ∀ (fu : Nat) (v1 v2 v4 : Int) (σ : jxS), jRf X (Cycle_repeats_c11 F fu v1 v2 v4 σ) 11 [some (jmr 19), some (jmi v1), some (jmi v2), none, some (jmi v4)] [] σ := by
    intro  fu
    induction fu with
    | zero => intros; exact jRf_none
    | succ fu ih =>
      intro v1 v2 v4 σ
      exact jRf_by (jex_ok hG (cs := [(11, [some (.inr (some 19)), some (.inl 0), some (.inl 0), none, some (.inl 0)], [], fun xs σ => match xs with
      | [v1, v2, v4] => (Cycle_repeats_c11 F fu) v1 v2 v4 σ
      | _ => none)]) (jcon (jl3 (fun y0 y1 y2 => jl0 (fun σ => ih y0 y1 y2 σ))) jnil) 29 11 [some (jmr 19), some (jmi v1), some (jmi v2), none, some (jmi v4)] [] σ) rfl
  exact jRf_by (jex_ok hG (cs := [(11, [some (.inr (some 19)), some (.inl 0), some (.inl 0), none, some (.inl 0)], [], fun xs σ => match xs with
      | [v1, v2, v4] => Cycle_repeats_c11 F F v1 v2 v4 σ
      | _ => none)]) (jcon (jl3 (fun y0 y1 y2 => jl0 (fun σ => rr11 F y0 y1 y2 σ))) jnil) 29 0 [some (jmr 19), some (jmi v1), some (jmi v2), some (jmi v3), none] [] σ0) rfl
theorem jad_Cycle_repeats (F : Nat) (sh : List jxC) (hs : jHas sh jc_C) : jAdV (jca_Cycle_repeats F) yX1_repeats cX1_repeats 5 4 1 40 3 sh := by
  intro as σ k x σ' h
  unfold jca_Cycle_repeats at h
  split at h
  · rename_i t0 v1 v2 v3
    obtain ⟨g0, hh1⟩ := jcond h
    obtain rfl := jbeq g0
    obtain ⟨r, h1, h2⟩ := Option.bind_eq_some_iff.mp hh1
    exact ⟨_, _, h2, ⟨_, _, _, _, _, _, rfl, rfl, (hs _ (jkf_in (l := jc_C) (idx := 19) rfl)).1, rfl⟩, jmet_Cycle_repeats F  sh hs σ v1 v2 v3 r.1 r.2 h1⟩
  · cases h
def jtb_Cycle_findCycle : List (Nat × Instr) := [(0, .aload_n 0), (1, .iconst 0), (2, .putfield 36), (5, .aload_n 0), (6, .iconst 0), (7, .putfield 40), (10, .iconst 1), (11, .istore_n 2), (12, .iconst 2), (13, .iconst 2), (14, .iload_n 2), (15, .imul), (16, .iadd), (17, .iload_n 1), (18, .iadd), (19, .sipush 160), (22, .if_icmp .gt 74), (25, .aload_n 0), (26, .getfield 36), (29, .ifCond .ne 67), (32, .iconst 1), (33, .istore_n 3), (34, .iconst 2), (35, .iload_n 3), (36, .imul), (37, .iconst 2), (38, .iload_n 2), (39, .imul), (40, .iadd), (41, .iload_n 1), (42, .iadd), (43, .sipush 160), (46, .if_icmp .gt 44), (49, .aload_n 0), (50, .getfield 36), (53, .ifCond .ne 37), (56, .aload_n 0), (57, .iload_n 2), (58, .iload_n 3), (59, .iconst 2), (60, .iload_n 3), (61, .imul), (62, .iload_n 2), (63, .iadd), (64, .iload_n 1), (65, .iadd), (66, .iconst 1), (67, .isub), (68, .invokevirtual 57), (71, .ifCond .eq 13), (74, .aload_n 0), (75, .iload_n 2), (76, .putfield 36), (79, .aload_n 0), (80, .iload_n 3), (81, .putfield 40), (84, .iinc 3 1), (87, .goto (-53)), (90, .iinc 2 1), (93, .goto (-81)), (96, .return_)]
theorem jtk_Cycle_findCycle : jtok cX1_findCycle jtb_Cycle_findCycle = true := by decide +kernel
set_option maxRecDepth 100000 in
theorem jfl_X1_36 : jFl RX1 36 1 3 := ⟨RX1, TX1, 5, tyX1, rfl, by decide, jin_X1, tyX1_ok, nmX1, jow_X1, (Or.inl (jTB_at 407 rfl rfl))⟩
set_option maxRecDepth 100000 in
theorem jfl_X1_40 : jFl RX1 40 1 4 := ⟨RX1, TX1, 5, tyX1, rfl, by decide, jin_X1, tyX1_ok, nmX1, jow_X1, (Or.inl (jTB_at 408 rfl rfl))⟩
set_option maxRecDepth 100000 in
theorem jlk_X1_57 : jLkV RX1 57 yX1_repeats cX1_repeats 5 4 3 := ⟨(jTB_at 799 rfl rfl), (jTB_at 801 rfl rfl), (jTB_at 24 rfl rfl), (jTB_at 122 rfl rfl), jTB_at 802 rfl rfl, ⟨by decide, by decide, by decide +kernel⟩⟩
def jE_Cycle_findCycle (F : Nat) : jxE := jmk [(36, 1, 3), (40, 1, 4)] [] [] [(57, (4, false), jca_Cycle_repeats F)] 0 jc_C
set_option maxRecDepth 100000 in
set_option maxHeartbeats 4000000 in
theorem jmet_Cycle_findCycle (F : Nat) (sh : List jxC) (hs : jHas sh jc_C) (σ0 : jxS) (v1 : Int) (x : Int) (σ' : jxS) (h : Cycle_findCycle F σ0 v1 = some (x, σ')) : jMC yX1_findCycle cX1_findCycle 4 (jrt 0) 2 64 sh σ0 [(jmr 19), (jmi v1)] (jrv 0 x) σ' := by
  refine jMC_of (kd := 0) (by decide) rfl h ?_
  intro X hX
  have hG : jGd X (jE_Cycle_findCycle F) jtb_Cycle_findCycle := jGd_of hX jtk_Cycle_findCycle (jcon jfl_X1_36 (jcon jfl_X1_40 jnil)) jnil jnil (jcon (jsV jlk_X1_57 ⟨rfl, rfl⟩ (jad_Cycle_repeats F sh hs)) jnil) hs
  have rr34 : ∀ (k12 : Int → Int → jxS → Option jxR) (h12 : ∀ v1 v2 σ, jRf X (k12 v1 v2 σ) 12 [some (jmr 19), some (jmi v1), some (jmi v2), none] [] σ) (fu : Nat) (v1 v2 v3 : Int) (σ : jxS), jRf X (Cycle_findCycle_c34 F k12 fu v1 v2 v3 σ) 34 [some (jmr 19), some (jmi v1), some (jmi v2), some (jmi v3)] [] σ := by
    intro k12 h12 fu
    induction fu with
    | zero => intros; exact jRf_none
    | succ fu ih =>
      intro v1 v2 v3 σ
      exact jRf_by (jex_ok hG (cs := [(12, [some (.inr (some 19)), some (.inl 0), some (.inl 0), none], [], fun xs σ => match xs with
      | [v1, v2] => k12 v1 v2 σ
      | _ => none), (34, [some (.inr (some 19)), some (.inl 0), some (.inl 0), some (.inl 0)], [], fun xs σ => match xs with
      | [v1, v2, v3] => (Cycle_findCycle_c34 F k12 fu) v1 v2 v3 σ
      | _ => none)]) (jcon (jl2 (fun y0 y1 => jl0 (fun σ => h12 y0 y1 σ))) (jcon (jl3 (fun y0 y1 y2 => jl0 (fun σ => ih y0 y1 y2 σ))) jnil)) 64 34 [some (jmr 19), some (jmi v1), some (jmi v2), some (jmi v3)] [] σ) rfl
  have rr12 : ∀ (fu : Nat) (v1 v2 : Int) (σ : jxS), jRf X (Cycle_findCycle_c12 F fu v1 v2 σ) 12 [some (jmr 19), some (jmi v1), some (jmi v2), none] [] σ := by
    intro  fu
    induction fu with
    | zero => intros; exact jRf_none
    | succ fu ih =>
      intro v1 v2 σ
      exact jRf_by (jex_ok hG (cs := [(34, [some (.inr (some 19)), some (.inl 0), some (.inl 0), some (.inl 0)], [], fun xs σ => match xs with
      | [v1, v2, v3] => Cycle_findCycle_c34 F (Cycle_findCycle_c12 F fu) F v1 v2 v3 σ
      | _ => none)]) (jcon (jl3 (fun y0 y1 y2 => jl0 (fun σ => rr34 _ ih F y0 y1 y2 σ))) jnil) 64 12 [some (jmr 19), some (jmi v1), some (jmi v2), none] [] σ) rfl
  exact jRf_by (jex_ok hG (cs := [(12, [some (.inr (some 19)), some (.inl 0), some (.inl 0), none], [], fun xs σ => match xs with
      | [v1, v2] => Cycle_findCycle_c12 F F v1 v2 σ
      | _ => none)]) (jcon (jl2 (fun y0 y1 => jl0 (fun σ => rr12 F y0 y1 σ))) jnil) 64 0 [some (jmr 19), some (jmi v1), none, none] [] σ0) rfl
theorem jad_Cycle_findCycle (F : Nat) (sh : List jxC) (hs : jHas sh jc_C) : jAdV (jca_Cycle_findCycle F) yX1_findCycle cX1_findCycle 4 0 2 64 1 sh := by
  intro as σ k x σ' h
  unfold jca_Cycle_findCycle at h
  split at h
  · rename_i t0 v1
    obtain ⟨g0, hh1⟩ := jcond h
    obtain rfl := jbeq g0
    obtain ⟨r, h1, h2⟩ := Option.bind_eq_some_iff.mp hh1
    exact ⟨_, _, h2, ⟨_, _, _, _, _, _, rfl, rfl, (hs _ (jkf_in (l := jc_C) (idx := 19) rfl)).1, rfl⟩, jmet_Cycle_findCycle F  sh hs σ v1 r.1 r.2 h1⟩
  · cases h
def jtb_Cycle_answer : List (Nat × Instr) := [(0, .aload_n 0), (1, .getfield 18), (4, .ifCond .ne 21), (7, .aload_n 0), (8, .aload_n 1), (9, .invokevirtual 22), (12, .aload_n 0), (13, .aload_n 1), (14, .invokevirtual 26), (17, .invokevirtual 32), (20, .aload_n 0), (21, .iconst 1), (22, .putfield 18), (25, .aload_n 0), (26, .getfield 36), (29, .ifCond .ne 6), (32, .bipush (-2)), (34, .ireturn), (35, .iload_n 2), (36, .ifCond .ne 10), (39, .aload_n 0), (40, .getfield 36), (43, .goto 7), (46, .aload_n 0), (47, .getfield 40), (50, .ireturn)]
theorem jtk_Cycle_answer : jtok cX1_answer jtb_Cycle_answer = true := by decide +kernel
set_option maxRecDepth 100000 in
theorem jlk_X1_22 : jLkV RX1 22 yX1_findNimbers cX1_findNimbers 5 0 1 := ⟨(jTB_at 778 rfl rfl), (jTB_at 780 rfl rfl), (jTB_at 21 rfl rfl), (jTB_at 122 rfl rfl), jTB_at 781 rfl rfl, ⟨by decide, by decide, by decide +kernel⟩⟩
set_option maxRecDepth 100000 in
theorem jlk_X1_32 : jLkV RX1 32 yX1_findCycle cX1_findCycle 4 0 1 := ⟨(jTB_at 795 rfl rfl), (jTB_at 797 rfl rfl), (jTB_at 23 rfl rfl), (jTB_at 122 rfl rfl), jTB_at 798 rfl rfl, ⟨by decide, by decide, by decide +kernel⟩⟩
def jE_Cycle_answer (F : Nat) : jxE := jmk [(18, 1, 2), (36, 1, 3), (40, 1, 4)] [] [] [(22, (2, false), jca_Cycle_findNimbers F), (26, (1, false), jca_Rules_digitCount F), (32, (2, false), jca_Cycle_findCycle F)] 1 jc_C
set_option maxRecDepth 100000 in
set_option maxHeartbeats 4000000 in
theorem jmet_Cycle_answer (F : Nat) (sh : List jxC) (hs : jHas sh jc_C) (σ0 : jxS) (v2 : Int) (x : Int) (σ' : jxS) (h : Cycle_answer F σ0 v2 = some (x, σ')) : jMC yX1_answer cX1_answer 3 (jrt 1) 3 87 sh σ0 [(jmr 19), (jmr 10), (jmi v2)] (jrv 1 x) σ' := by
  refine jMC_of (kd := 1) (by decide) rfl h ?_
  intro X hX
  have hG : jGd X (jE_Cycle_answer F) jtb_Cycle_answer := jGd_of hX jtk_Cycle_answer (jcon jfl_X1_18 (jcon jfl_X1_36 (jcon jfl_X1_40 jnil))) jnil jnil (jcon (jsV jlk_X1_22 ⟨rfl, rfl⟩ (jad_Cycle_findNimbers F sh hs)) (jcon (jsV jlk_X1_26 ⟨rfl, rfl⟩ (jad_Rules_digitCount F sh hs)) (jcon (jsV jlk_X1_32 ⟨rfl, rfl⟩ (jad_Cycle_findCycle F sh hs)) jnil))) hs
  have rr25 : ∀ (v2 : Int) (σ : jxS), jRf X (Cycle_answer_c25 F v2 σ) 25 [some (jmr 19), none, some (jmi v2)] [] σ := by
    intro  v2 σ
    exact jRf_by (jex_ok hG (cs := []) jnil 29 25 [some (jmr 19), none, some (jmi v2)] [] σ) rfl
  exact jRf_by (jex_ok hG (cs := [(25, [some (.inr (some 19)), none, some (.inl 0)], [], fun xs σ => match xs with
      | [v2] => Cycle_answer_c25 F v2 σ
      | _ => none)]) (jcon (jl1 (fun y0 => jl0 (fun σ => rr25 y0 σ))) jnil) 29 0 [some (jmr 19), some (jmr 10), some (jmi v2)] [] σ0) rfl
theorem jad_Cycle_answer (F : Nat) (sh : List jxC) (hs : jHas sh jc_C) : jAdV (jca_Cycle_answer F) yX1_answer cX1_answer 3 1 3 87 2 sh := by
  intro as σ k x σ' h
  unfold jca_Cycle_answer at h
  split at h
  · rename_i t0 t1 v2
    obtain ⟨g0, hh1⟩ := jcond h
    obtain rfl := jbeq g0
    obtain ⟨g1, hh2⟩ := jcond hh1
    obtain rfl := jbeq g1
    obtain ⟨r, h1, h2⟩ := Option.bind_eq_some_iff.mp hh2
    exact ⟨_, _, h2, ⟨_, _, _, _, _, _, rfl, rfl, (hs _ (jkf_in (l := jc_C) (idx := 19) rfl)).1, rfl⟩, jmet_Cycle_answer F  sh hs σ v2 r.1 r.2 h1⟩
  · cases h
def jtb_LL1_period : List (Nat × Instr) := [(0, .aload_n 0), (1, .getfield 48), (4, .ifnull 12), (7, .iload_n 1), (8, .ifCond .lt 8), (11, .iload_n 1), (12, .iconst 1), (13, .if_icmp .le 5), (16, .iconst (-1)), (17, .ireturn), (18, .aload_n 0), (19, .getfield 48), (22, .getfield 62), (25, .invokevirtual 79), (28, .ifCond .le 6), (31, .bipush (-3)), (33, .ireturn), (34, .aload_n 0), (35, .getfield 48), (38, .getfield 82), (41, .aload_n 0), (42, .getfield 48), (45, .getfield 62), (48, .iload_n 1), (49, .invokevirtual 86), (52, .ireturn)]
theorem jtk_LL1_period : jtok cX11_period jtb_LL1_period = true := by decide +kernel
set_option maxRecDepth 100000 in
theorem jfl_X11_82 : jFl RX11 82 0 1 := ⟨RX0, TX0, 10, tyX0, rfl, by decide, jin_X0, tyX0_ok, nmX0, jow_X0, (Or.inr ⟨"LastLoses", (jNS_at 641 rfl rfl)⟩)⟩
set_option maxRecDepth 100000 in
theorem jlk_X11_79 : jLkV RX11 79 yX8_extraLines cX8_extraLines 1 1 0 := ⟨(jTB_at 770 rfl rfl), (jTB_at 771 rfl rfl), (jTB_at 772 rfl rfl), (jTB_at 121 rfl rfl), jTB_at 773 rfl rfl, ⟨by decide, by decide, by decide +kernel⟩⟩
set_option maxRecDepth 100000 in
theorem jlk_X11_86 : jLkV RX11 86 yX1_answer cX1_answer 3 1 2 := ⟨(jTB_at 774 rfl rfl), (jTB_at 775 rfl rfl), (jTB_at 776 rfl rfl), (jTB_at 122 rfl rfl), jTB_at 777 rfl rfl, ⟨by decide, by decide, by decide +kernel⟩⟩
def jE_LL1_period (F : Nat) : jxE := jmk [(48, 11, 2), (62, 0, 0), (82, 0, 1)] [] [] [(79, (1, false), jca_Rules_extraLines F), (86, (3, false), jca_Cycle_answer F)] 1 jc_L1
set_option maxRecDepth 100000 in
set_option maxHeartbeats 4000000 in
theorem jmet_LL1_period (F : Nat) (sh : List jxC) (hs : jHas sh jc_L1) (σ0 : jxS) (v1 : Int) (x : Int) (σ' : jxS) (h : LL1_period F σ0 v1 = some (x, σ')) : jMC yX11_period cX11_period 2 (jrt 1) 4 109 sh σ0 [(jmr 0), (jmi v1)] (jrv 1 x) σ' := by
  refine jMC_of (kd := 1) (by decide) rfl h ?_
  intro X hX
  have hG : jGd X (jE_LL1_period F) jtb_LL1_period := jGd_of hX jtk_LL1_period (jcon jfl_X11_48 (jcon jfl_X11_62 (jcon jfl_X11_82 jnil))) jnil jnil (jcon (jsV jlk_X11_79 ⟨rfl, rfl⟩ (jad_Rules_extraLines F sh (jh_L1C hs))) (jcon (jsV jlk_X11_86 ⟨rfl, rfl⟩ (jad_Cycle_answer F sh (jh_L1C hs))) jnil)) hs
  exact jRf_by (jex_ok hG (cs := []) jnil 29 0 [some (jmr 0), some (jmi v1)] [] σ0) rfl
theorem jad_LL1_period (F : Nat) (sh : List jxC) (hs : jHas sh jc_L1) : jAdV (jca_LL1_period F) yX11_period cX11_period 2 1 4 109 1 sh := by
  intro as σ k x σ' h
  unfold jca_LL1_period at h
  split at h
  · rename_i t0 v1
    obtain ⟨g0, hh1⟩ := jcond h
    obtain rfl := jbeq g0
    obtain ⟨r, h1, h2⟩ := Option.bind_eq_some_iff.mp hh1
    exact ⟨_, _, h2, ⟨_, _, _, _, _, _, rfl, rfl, (hs _ (jkf_in (l := jc_L1) (idx := 0) rfl)).1, rfl⟩, jmet_LL1_period F  sh hs σ v1 r.1 r.2 h1⟩
  · cases h
def jtb_Positions_firstWith : List (Nat × Instr) := [(0, .aload_n 0), (1, .getfield 15), (4, .iconst 0), (5, .iload_n 1), (6, .bipush 23), (8, .invokestatic 77), (11, .invokestatic 82), (14, .iaload), (15, .ireturn)]
theorem jtk_Positions_firstWith : jtok cX5_firstWith jtb_Positions_firstWith = true := by decide +kernel
set_option maxRecDepth 100000 in
theorem jfl_X5_15 : jFl RX5 15 5 1 := ⟨RX5, TX5, 6, tyX5, rfl, by decide, jin_X5, tyX5_ok, nmX5, jow_X5, (Or.inl (jTB_at 470 rfl rfl))⟩
def jE_Positions_firstWith (F : Nat) : jxE := jmk [(15, 5, 1)] [] [] [(77, (2, true), jca_min), (82, (2, true), jca_max)] 1 jc_P
set_option maxRecDepth 100000 in
set_option maxHeartbeats 4000000 in
theorem jmet_Positions_firstWith (F : Nat) (sh : List jxC) (hs : jHas sh jc_P) (σ0 : jxS) (v1 : Int) (x : Int) (σ' : jxS) (h : Positions_firstWith F σ0 v1 = some (x, σ')) : jMC yX5_firstWith cX5_firstWith 2 (jrt 1) 1 40 sh σ0 [(jmr 22), (jmi v1)] (jrv 1 x) σ' := by
  refine jMC_of (kd := 1) (by decide) rfl h ?_
  intro X hX
  have hG : jGd X (jE_Positions_firstWith F) jtb_Positions_firstWith := jGd_of hX jtk_Positions_firstWith (jcon jfl_X5_15 jnil) jnil jnil (jcon (js_min (jTB_at 817 rfl rfl) (by decide) (by decide)) (jcon (js_max (jTB_at 818 rfl rfl) (by decide) (by decide)) jnil)) hs
  exact jRf_by (jex_ok hG (cs := []) jnil 12 0 [some (jmr 22), some (jmi v1)] [] σ0) rfl
theorem jad_Positions_firstWith (F : Nat) (sh : List jxC) (hs : jHas sh jc_P) : jAdV (jca_Positions_firstWith F) yX5_firstWith cX5_firstWith 2 1 1 40 1 sh := by
  intro as σ k x σ' h
  unfold jca_Positions_firstWith at h
  split at h
  · rename_i t0 v1
    obtain ⟨g0, hh1⟩ := jcond h
    obtain rfl := jbeq g0
    obtain ⟨r, h1, h2⟩ := Option.bind_eq_some_iff.mp hh1
    exact ⟨_, _, h2, ⟨_, _, _, _, _, _, rfl, rfl, (hs _ (jkf_in (l := jc_P) (idx := 22) rfl)).1, rfl⟩, jmet_Positions_firstWith F  sh hs σ v1 r.1 r.2 h1⟩
  · cases h
def jtb_Positions_isPosition : List (Nat × Instr) := [(0, .iload_n 0), (1, .ifCond .lt 14), (4, .iload_n 0), (5, .sipush 4224), (8, .if_icmp .ge 7), (11, .iconst 1), (12, .goto 4), (15, .iconst 0), (16, .ireturn)]
theorem jtk_Positions_isPosition : jtok cX5_isPosition jtb_Positions_isPosition = true := by decide +kernel
def jE_Positions_isPosition (F : Nat) : jxE := jmk [] [] [] [] 4 jc_P
set_option maxRecDepth 100000 in
set_option maxHeartbeats 4000000 in
theorem jmet_Positions_isPosition (F : Nat) (sh : List jxC) (hs : jHas sh jc_P) (σ0 : jxS) (v0 : Int) (x : Int) (σ' : jxS) (h : Positions_isPosition F σ0 v0 = some (x, σ')) : jMC yX5_isPosition cX5_isPosition 1 (jrt 4) 0 0 sh σ0 [(jmi v0)] (jrv 4 x) σ' := by
  refine jMC_of (kd := 4) (by decide) rfl h ?_
  intro X hX
  have hG : jGd X (jE_Positions_isPosition F) jtb_Positions_isPosition := jGd_of hX jtk_Positions_isPosition jnil jnil jnil jnil hs
  exact jRf_by (jex_ok hG (cs := []) jnil 12 0 [some (jmi v0)] [] σ0) rfl
theorem jad_Positions_isPosition (F : Nat) (sh : List jxC) (hs : jHas sh jc_P) : jAdS (jca_Positions_isPosition F) yX5_isPosition cX5_isPosition 1 4 0 0 1 sh := by
  intro as σ k x σ' h
  unfold jca_Positions_isPosition at h
  split at h
  · rename_i v0
    obtain ⟨r, h1, h2⟩ := Option.bind_eq_some_iff.mp h
    exact ⟨_, _, h2, rfl, jmet_Positions_isPosition F  sh hs σ v0 r.1 r.2 h1⟩
  · cases h
def jtb_Positions_firstPart : List (Nat × Instr) := [(0, .iload_n 1), (1, .invokestatic 64), (4, .ifCond .eq 12), (7, .aload_n 0), (8, .getfield 24), (11, .iload_n 1), (12, .iaload), (13, .goto 4), (16, .iconst 0), (17, .ireturn)]
theorem jtk_Positions_firstPart : jtok cX5_firstPart jtb_Positions_firstPart = true := by decide +kernel
set_option maxRecDepth 100000 in
theorem jfl_X5_24 : jFl RX5 24 5 4 := ⟨RX5, TX5, 6, tyX5, rfl, by decide, jin_X5, tyX5_ok, nmX5, jow_X5, (Or.inl (jTB_at 473 rfl rfl))⟩
set_option maxRecDepth 100000 in
theorem jlk_X5_64 : jLkS RX5 64 yX5_isPosition cX5_isPosition 1 4 1 := ⟨Or.inl (jTB_at 450 rfl rfl), (jTB_at 451 rfl rfl), (jTB_at 123 rfl rfl), jTB_at 452 rfl rfl, ⟨by decide, by decide, by decide +kernel⟩⟩
def jE_Positions_firstPart (F : Nat) : jxE := jmk [(24, 5, 4)] [] [] [(64, (1, true), jca_Positions_isPosition F)] 1 jc_P
set_option maxRecDepth 100000 in
set_option maxHeartbeats 4000000 in
theorem jmet_Positions_firstPart (F : Nat) (sh : List jxC) (hs : jHas sh jc_P) (σ0 : jxS) (v1 : Int) (x : Int) (σ' : jxS) (h : Positions_firstPart F σ0 v1 = some (x, σ')) : jMC yX5_firstPart cX5_firstPart 2 (jrt 1) 1 20 sh σ0 [(jmr 22), (jmi v1)] (jrv 1 x) σ' := by
  refine jMC_of (kd := 1) (by decide) rfl h ?_
  intro X hX
  have hG : jGd X (jE_Positions_firstPart F) jtb_Positions_firstPart := jGd_of hX jtk_Positions_firstPart (jcon jfl_X5_24 jnil) jnil jnil (jcon (jsS jlk_X5_64 ⟨rfl, rfl⟩ (jad_Positions_isPosition F sh hs)) jnil) hs
  exact jRf_by (jex_ok hG (cs := []) jnil 13 0 [some (jmr 22), some (jmi v1)] [] σ0) rfl
theorem jad_Positions_firstPart (F : Nat) (sh : List jxC) (hs : jHas sh jc_P) : jAdV (jca_Positions_firstPart F) yX5_firstPart cX5_firstPart 2 1 1 20 1 sh := by
  intro as σ k x σ' h
  unfold jca_Positions_firstPart at h
  split at h
  · rename_i t0 v1
    obtain ⟨g0, hh1⟩ := jcond h
    obtain rfl := jbeq g0
    obtain ⟨r, h1, h2⟩ := Option.bind_eq_some_iff.mp hh1
    exact ⟨_, _, h2, ⟨_, _, _, _, _, _, rfl, rfl, (hs _ (jkf_in (l := jc_P) (idx := 22) rfl)).1, rfl⟩, jmet_Positions_firstPart F  sh hs σ v1 r.1 r.2 h1⟩
  · cases h
def jtb_Positions_endPart : List (Nat × Instr) := [(0, .iload_n 1), (1, .invokestatic 64), (4, .ifCond .eq 14), (7, .aload_n 0), (8, .getfield 24), (11, .iload_n 1), (12, .iconst 1), (13, .iadd), (14, .iaload), (15, .goto 4), (18, .iconst 0), (19, .ireturn)]
theorem jtk_Positions_endPart : jtok cX5_endPart jtb_Positions_endPart = true := by decide +kernel
def jE_Positions_endPart (F : Nat) : jxE := jmk [(24, 5, 4)] [] [] [(64, (1, true), jca_Positions_isPosition F)] 1 jc_P
set_option maxRecDepth 100000 in
set_option maxHeartbeats 4000000 in
theorem jmet_Positions_endPart (F : Nat) (sh : List jxC) (hs : jHas sh jc_P) (σ0 : jxS) (v1 : Int) (x : Int) (σ' : jxS) (h : Positions_endPart F σ0 v1 = some (x, σ')) : jMC yX5_endPart cX5_endPart 2 (jrt 1) 1 20 sh σ0 [(jmr 22), (jmi v1)] (jrv 1 x) σ' := by
  refine jMC_of (kd := 1) (by decide) rfl h ?_
  intro X hX
  have hG : jGd X (jE_Positions_endPart F) jtb_Positions_endPart := jGd_of hX jtk_Positions_endPart (jcon jfl_X5_24 jnil) jnil jnil (jcon (jsS jlk_X5_64 ⟨rfl, rfl⟩ (jad_Positions_isPosition F sh hs)) jnil) hs
  exact jRf_by (jex_ok hG (cs := []) jnil 15 0 [some (jmr 22), some (jmi v1)] [] σ0) rfl
theorem jad_Positions_endPart (F : Nat) (sh : List jxC) (hs : jHas sh jc_P) : jAdV (jca_Positions_endPart F) yX5_endPart cX5_endPart 2 1 1 20 1 sh := by
  intro as σ k x σ' h
  unfold jca_Positions_endPart at h
  split at h
  · rename_i t0 v1
    obtain ⟨g0, hh1⟩ := jcond h
    obtain rfl := jbeq g0
    obtain ⟨r, h1, h2⟩ := Option.bind_eq_some_iff.mp hh1
    exact ⟨_, _, h2, ⟨_, _, _, _, _, _, rfl, rfl, (hs _ (jkf_in (l := jc_P) (idx := 22) rfl)).1, rfl⟩, jmet_Positions_endPart F  sh hs σ v1 r.1 r.2 h1⟩
  · cases h
def jtb_Positions_heapOf : List (Nat × Instr) := [(0, .iload_n 1), (1, .ifCond .lt 23), (4, .iload_n 1), (5, .sipush 14202), (8, .if_icmp .ge 16), (11, .aload_n 0), (12, .getfield 27), (15, .iload_n 1), (16, .iaload), (17, .sipush 8192), (20, .idiv), (21, .goto 4), (24, .iconst 0), (25, .ireturn)]
theorem jtk_Positions_heapOf : jtok cX5_heapOf jtb_Positions_heapOf = true := by decide +kernel
set_option maxRecDepth 100000 in
theorem jfl_X5_27 : jFl RX5 27 5 5 := ⟨RX5, TX5, 6, tyX5, rfl, by decide, jin_X5, tyX5_ok, nmX5, jow_X5, (Or.inl (jTB_at 474 rfl rfl))⟩
def jE_Positions_heapOf (F : Nat) : jxE := jmk [(27, 5, 5)] [] [] [] 1 jc_P
set_option maxRecDepth 100000 in
set_option maxHeartbeats 4000000 in
theorem jmet_Positions_heapOf (F : Nat) (sh : List jxC) (hs : jHas sh jc_P) (σ0 : jxS) (v1 : Int) (x : Int) (σ' : jxS) (h : Positions_heapOf F σ0 v1 = some (x, σ')) : jMC yX5_heapOf cX5_heapOf 2 (jrt 1) 0 0 sh σ0 [(jmr 22), (jmi v1)] (jrv 1 x) σ' := by
  refine jMC_of (kd := 1) (by decide) rfl h ?_
  intro X hX
  have hG : jGd X (jE_Positions_heapOf F) jtb_Positions_heapOf := jGd_of hX jtk_Positions_heapOf (jcon jfl_X5_27 jnil) jnil jnil jnil hs
  exact jRf_by (jex_ok hG (cs := []) jnil 17 0 [some (jmr 22), some (jmi v1)] [] σ0) rfl
theorem jad_Positions_heapOf (F : Nat) (sh : List jxC) (hs : jHas sh jc_P) : jAdV (jca_Positions_heapOf F) yX5_heapOf cX5_heapOf 2 1 0 0 1 sh := by
  intro as σ k x σ' h
  unfold jca_Positions_heapOf at h
  split at h
  · rename_i t0 v1
    obtain ⟨g0, hh1⟩ := jcond h
    obtain rfl := jbeq g0
    obtain ⟨r, h1, h2⟩ := Option.bind_eq_some_iff.mp hh1
    exact ⟨_, _, h2, ⟨_, _, _, _, _, _, rfl, rfl, (hs _ (jkf_in (l := jc_P) (idx := 22) rfl)).1, rfl⟩, jmet_Positions_heapOf F  sh hs σ v1 r.1 r.2 h1⟩
  · cases h
def jtb_Positions_restOf : List (Nat × Instr) := [(0, .iload_n 1), (1, .ifCond .lt 23), (4, .iload_n 1), (5, .sipush 14202), (8, .if_icmp .ge 16), (11, .aload_n 0), (12, .getfield 27), (15, .iload_n 1), (16, .iaload), (17, .sipush 8192), (20, .irem), (21, .goto 4), (24, .iconst 0), (25, .ireturn)]
theorem jtk_Positions_restOf : jtok cX5_restOf jtb_Positions_restOf = true := by decide +kernel
def jE_Positions_restOf (F : Nat) : jxE := jmk [(27, 5, 5)] [] [] [] 1 jc_P
set_option maxRecDepth 100000 in
set_option maxHeartbeats 4000000 in
theorem jmet_Positions_restOf (F : Nat) (sh : List jxC) (hs : jHas sh jc_P) (σ0 : jxS) (v1 : Int) (x : Int) (σ' : jxS) (h : Positions_restOf F σ0 v1 = some (x, σ')) : jMC yX5_restOf cX5_restOf 2 (jrt 1) 0 0 sh σ0 [(jmr 22), (jmi v1)] (jrv 1 x) σ' := by
  refine jMC_of (kd := 1) (by decide) rfl h ?_
  intro X hX
  have hG : jGd X (jE_Positions_restOf F) jtb_Positions_restOf := jGd_of hX jtk_Positions_restOf (jcon jfl_X5_27 jnil) jnil jnil jnil hs
  exact jRf_by (jex_ok hG (cs := []) jnil 17 0 [some (jmr 22), some (jmi v1)] [] σ0) rfl
theorem jad_Positions_restOf (F : Nat) (sh : List jxC) (hs : jHas sh jc_P) : jAdV (jca_Positions_restOf F) yX5_restOf cX5_restOf 2 1 0 0 1 sh := by
  intro as σ k x σ' h
  unfold jca_Positions_restOf at h
  split at h
  · rename_i t0 v1
    obtain ⟨g0, hh1⟩ := jcond h
    obtain rfl := jbeq g0
    obtain ⟨r, h1, h2⟩ := Option.bind_eq_some_iff.mp hh1
    exact ⟨_, _, h2, ⟨_, _, _, _, _, _, rfl, rfl, (hs _ (jkf_in (l := jc_P) (idx := 22) rfl)).1, rfl⟩, jmet_Positions_restOf F  sh hs σ v1 r.1 r.2 h1⟩
  · cases h
def jtb_Rules_firstMove : List (Nat × Instr) := [(0, .iload_n 1), (1, .iconst 1), (2, .if_icmp .lt 18), (5, .iload_n 1), (6, .bipush 13), (8, .if_icmp .gt 12), (11, .aload_n 0), (12, .getfield 23), (15, .iload_n 1), (16, .iaload), (17, .goto 4), (20, .iconst 0), (21, .ireturn)]
theorem jtk_Rules_firstMove : jtok cX8_firstMove jtb_Rules_firstMove = true := by decide +kernel
def jE_Rules_firstMove (F : Nat) : jxE := jmk [(23, 8, 3)] [] [] [] 1 jc_C
set_option maxRecDepth 100000 in
set_option maxHeartbeats 4000000 in
theorem jmet_Rules_firstMove (F : Nat) (sh : List jxC) (hs : jHas sh jc_C) (σ0 : jxS) (v1 : Int) (x : Int) (σ' : jxS) (h : Rules_firstMove F σ0 v1 = some (x, σ')) : jMC yX8_firstMove cX8_firstMove 2 (jrt 1) 0 0 sh σ0 [(jmr 10), (jmi v1)] (jrv 1 x) σ' := by
  refine jMC_of (kd := 1) (by decide) rfl h ?_
  intro X hX
  have hG : jGd X (jE_Rules_firstMove F) jtb_Rules_firstMove := jGd_of hX jtk_Rules_firstMove (jcon jfl_X8_23 jnil) jnil jnil jnil hs
  exact jRf_by (jex_ok hG (cs := []) jnil 16 0 [some (jmr 10), some (jmi v1)] [] σ0) rfl
theorem jad_Rules_firstMove (F : Nat) (sh : List jxC) (hs : jHas sh jc_C) : jAdV (jca_Rules_firstMove F) yX8_firstMove cX8_firstMove 2 1 0 0 1 sh := by
  intro as σ k x σ' h
  unfold jca_Rules_firstMove at h
  split at h
  · rename_i t0 v1
    obtain ⟨g0, hh1⟩ := jcond h
    obtain rfl := jbeq g0
    obtain ⟨r, h1, h2⟩ := Option.bind_eq_some_iff.mp hh1
    exact ⟨_, _, h2, ⟨_, _, _, _, _, _, rfl, rfl, (hs _ (jkf_in (l := jc_C) (idx := 10) rfl)).1, rfl⟩, jmet_Rules_firstMove F  sh hs σ v1 r.1 r.2 h1⟩
  · cases h
def jtb_Rules_packedAt : List (Nat × Instr) := [(0, .iload_n 1), (1, .ifCond .lt 19), (4, .iload_n 1), (5, .sipush 203), (8, .if_icmp .ge 12), (11, .aload_n 0), (12, .getfield 26), (15, .iload_n 1), (16, .iaload), (17, .goto 4), (20, .iconst 0), (21, .ireturn)]
theorem jtk_Rules_packedAt : jtok cX8_packedAt jtb_Rules_packedAt = true := by decide +kernel
def jE_Rules_packedAt (F : Nat) : jxE := jmk [(26, 8, 4)] [] [] [] 1 jc_C
set_option maxRecDepth 100000 in
set_option maxHeartbeats 4000000 in
theorem jmet_Rules_packedAt (F : Nat) (sh : List jxC) (hs : jHas sh jc_C) (σ0 : jxS) (v1 : Int) (x : Int) (σ' : jxS) (h : Rules_packedAt F σ0 v1 = some (x, σ')) : jMC yX8_packedAt cX8_packedAt 2 (jrt 1) 0 0 sh σ0 [(jmr 10), (jmi v1)] (jrv 1 x) σ' := by
  refine jMC_of (kd := 1) (by decide) rfl h ?_
  intro X hX
  have hG : jGd X (jE_Rules_packedAt F) jtb_Rules_packedAt := jGd_of hX jtk_Rules_packedAt (jcon jfl_X8_26 jnil) jnil jnil jnil hs
  exact jRf_by (jex_ok hG (cs := []) jnil 15 0 [some (jmr 10), some (jmi v1)] [] σ0) rfl
theorem jad_Rules_packedAt (F : Nat) (sh : List jxC) (hs : jHas sh jc_C) : jAdV (jca_Rules_packedAt F) yX8_packedAt cX8_packedAt 2 1 0 0 1 sh := by
  intro as σ k x σ' h
  unfold jca_Rules_packedAt at h
  split at h
  · rename_i t0 v1
    obtain ⟨g0, hh1⟩ := jcond h
    obtain rfl := jbeq g0
    obtain ⟨r, h1, h2⟩ := Option.bind_eq_some_iff.mp hh1
    exact ⟨_, _, h2, ⟨_, _, _, _, _, _, rfl, rfl, (hs _ (jkf_in (l := jc_C) (idx := 10) rfl)).1, rfl⟩, jmet_Rules_packedAt F  sh hs σ v1 r.1 r.2 h1⟩
  · cases h
def jtb_Positions_joinMove : List (Nat × Instr) := [(0, .iload_n 2), (1, .bipush 13), (3, .idiv), (4, .istore_n 3), (5, .iload_n 2), (6, .bipush 13), (8, .irem), (9, .istore 4), (11, .iload_n 1), (12, .ifCond .lt 31), (15, .iload_n 3), (16, .ifCond .lt 27), (19, .iload 4), (21, .ifCond .lt 22), (24, .iload_n 3), (25, .bipush 12), (27, .if_icmp .gt 16), (30, .iload_n 1), (31, .aload_n 0), (32, .getfield 15), (35, .bipush 23), (37, .iload_n 3), (38, .isub), (39, .iaload), (40, .if_icmp .lt 5), (43, .iconst (-1)), (44, .ireturn), (45, .iload_n 3), (46, .ifCond .ne 7), (49, .iload_n 1), (50, .goto 16), (53, .aload_n 0), (54, .getfield 21), (57, .aload_n 0), (58, .getfield 18), (61, .iload_n 3), (62, .iaload), (63, .iload_n 1), (64, .iadd), (65, .iaload), (66, .istore 5), (68, .iload 5), (70, .aload_n 0), (71, .getfield 15), (74, .bipush 23), (76, .iload 4), (78, .isub), (79, .iaload), (80, .if_icmp .lt 5), (83, .iconst (-1)), (84, .ireturn), (85, .iload 4), (87, .ifCond .ne 8), (90, .iload 5), (92, .goto 18), (95, .aload_n 0), (96, .getfield 21), (99, .aload_n 0), (100, .getfield 18), (103, .iload 4), (105, .iaload), (106, .iload 5), (108, .iadd), (109, .iaload), (110, .ireturn)]
theorem jtk_Positions_joinMove : jtok cX5_joinMove jtb_Positions_joinMove = true := by decide +kernel
set_option maxRecDepth 100000 in
theorem jfl_X5_18 : jFl RX5 18 5 2 := ⟨RX5, TX5, 6, tyX5, rfl, by decide, jin_X5, tyX5_ok, nmX5, jow_X5, (Or.inl (jTB_at 471 rfl rfl))⟩
set_option maxRecDepth 100000 in
theorem jfl_X5_21 : jFl RX5 21 5 3 := ⟨RX5, TX5, 6, tyX5, rfl, by decide, jin_X5, tyX5_ok, nmX5, jow_X5, (Or.inl (jTB_at 472 rfl rfl))⟩
def jE_Positions_joinMove (F : Nat) : jxE := jmk [(15, 5, 1), (18, 5, 2), (21, 5, 3)] [] [] [] 1 jc_P
set_option maxRecDepth 100000 in
set_option maxHeartbeats 4000000 in
theorem jmet_Positions_joinMove (F : Nat) (sh : List jxC) (hs : jHas sh jc_P) (σ0 : jxS) (v1 : Int) (v2 : Int) (x : Int) (σ' : jxS) (h : Positions_joinMove F σ0 v1 v2 = some (x, σ')) : jMC yX5_joinMove cX5_joinMove 6 (jrt 1) 0 0 sh σ0 [(jmr 22), (jmi v1), (jmi v2)] (jrv 1 x) σ' := by
  refine jMC_of (kd := 1) (by decide) rfl h ?_
  intro X hX
  have hG : jGd X (jE_Positions_joinMove F) jtb_Positions_joinMove := jGd_of hX jtk_Positions_joinMove (jcon jfl_X5_15 (jcon jfl_X5_18 (jcon jfl_X5_21 jnil))) jnil jnil jnil hs
  have rr66 : ∀ (v4 t0 : Int) (σ : jxS), jRf X (Positions_joinMove_c66 F v4 t0 σ) 66 [some (jmr 22), none, none, none, some (jmi v4), none] [(jmi t0)] σ := by
    intro  v4 t0 σ
    exact jRf_by (jex_ok hG (cs := []) jnil 68 66 [some (jmr 22), none, none, none, some (jmi v4), none] [(jmi t0)] σ) rfl
  exact jRf_by (jex_ok hG (cs := [(66, [some (.inr (some 22)), none, none, none, some (.inl 0), none], [(.inl 0)], fun xs σ => match xs with
      | [v4, t0] => Positions_joinMove_c66 F v4 t0 σ
      | _ => none)]) (jcon (jl1 (fun y0 => jl1 (fun y1 => (fun σ => rr66 y0 y1 σ)))) jnil) 68 0 [some (jmr 22), some (jmi v1), some (jmi v2), none, none, none] [] σ0) rfl
theorem jad_Positions_joinMove (F : Nat) (sh : List jxC) (hs : jHas sh jc_P) : jAdV (jca_Positions_joinMove F) yX5_joinMove cX5_joinMove 6 1 0 0 2 sh := by
  intro as σ k x σ' h
  unfold jca_Positions_joinMove at h
  split at h
  · rename_i t0 v1 v2
    obtain ⟨g0, hh1⟩ := jcond h
    obtain rfl := jbeq g0
    obtain ⟨r, h1, h2⟩ := Option.bind_eq_some_iff.mp hh1
    exact ⟨_, _, h2, ⟨_, _, _, _, _, _, rfl, rfl, (hs _ (jkf_in (l := jc_P) (idx := 22) rfl)).1, rfl⟩, jmet_Positions_joinMove F  sh hs σ v1 v2 r.1 r.2 h1⟩
  · cases h
def jtb_Options_list : List (Nat × Instr) := [(0, .aload_n 0), (1, .iconst 0), (2, .putfield 28), (5, .aload_n 0), (6, .getfield 20), (9, .iload_n 1), (10, .invokevirtual 32), (13, .istore_n 2), (14, .aload_n 0), (15, .getfield 20), (18, .iload_n 1), (19, .invokevirtual 38), (22, .istore_n 3), (23, .iload_n 3), (24, .iload_n 2), (25, .if_icmp .ge 137), (28, .aload_n 0), (29, .getfield 20), (32, .iload_n 3), (33, .invokevirtual 41), (36, .istore 4), (38, .aload_n 0), (39, .getfield 20), (42, .iload_n 3), (43, .invokevirtual 44), (46, .istore 5), (48, .aload_n 0), (49, .getfield 24), (52, .iload 4), (54, .iconst 1), (55, .iadd), (56, .invokevirtual 47), (59, .istore 6), (61, .aload_n 0), (62, .getfield 24), (65, .iload 4), (67, .invokevirtual 47), (70, .istore 7), (72, .iload 7), (74, .iload 6), (76, .if_icmp .ge 80), (79, .aload_n 0), (80, .getfield 28), (83, .aload_n 0), (84, .getfield 11), (87, .arraylength), (88, .if_icmp .ge 68), (91, .aload_n 0), (92, .getfield 24), (95, .iload 7), (97, .invokevirtual 50), (100, .istore 8), (102, .aload_n 0), (103, .getfield 11), (106, .aload_n 0), (107, .getfield 28), (110, .aload_n 0), (111, .getfield 20), (114, .iload 5), (116, .iload 8), (118, .invokevirtual 53), (121, .iastore), (122, .aload_n 0), (123, .getfield 17), (126, .aload_n 0), (127, .getfield 28), (130, .sipush 1000), (133, .iload 4), (135, .imul), (136, .iload 8), (138, .iadd), (139, .iastore), (140, .aload_n 0), (141, .dup), (142, .getfield 28), (145, .iconst 1), (146, .iadd), (147, .putfield 28), (150, .iinc 7 1), (153, .goto (-81)), (156, .iinc 3 1), (159, .goto (-136)), (162, .return_)]
theorem jtk_Options_list : jtok cX3_list jtb_Options_list = true := by decide +kernel
set_option maxRecDepth 100000 in
theorem jfl_X3_11 : jFl RX3 11 3 2 := ⟨RX3, TX3, 5, tyX3, rfl, by decide, jin_X3, tyX3_ok, nmX3, jow_X3, (Or.inl (jTB_at 526 rfl rfl))⟩
set_option maxRecDepth 100000 in
theorem jfl_X3_17 : jFl RX3 17 3 3 := ⟨RX3, TX3, 5, tyX3, rfl, by decide, jin_X3, tyX3_ok, nmX3, jow_X3, (Or.inl (jTB_at 528 rfl rfl))⟩
set_option maxRecDepth 100000 in
theorem jfl_X3_20 : jFl RX3 20 3 0 := ⟨RX3, TX3, 5, tyX3, rfl, by decide, jin_X3, tyX3_ok, nmX3, jow_X3, (Or.inl (jTB_at 524 rfl rfl))⟩
set_option maxRecDepth 100000 in
theorem jfl_X3_24 : jFl RX3 24 3 1 := ⟨RX3, TX3, 5, tyX3, rfl, by decide, jin_X3, tyX3_ok, nmX3, jow_X3, (Or.inl (jTB_at 525 rfl rfl))⟩
set_option maxRecDepth 100000 in
theorem jfl_X3_28 : jFl RX3 28 3 4 := ⟨RX3, TX3, 5, tyX3, rfl, by decide, jin_X3, tyX3_ok, nmX3, jow_X3, (Or.inl (jTB_at 529 rfl rfl))⟩
set_option maxRecDepth 100000 in
theorem jlk_X3_32 : jLkV RX3 32 yX5_endPart cX5_endPart 2 1 1 := ⟨(jTB_at 839 rfl rfl), (jTB_at 447 rfl rfl), (jTB_at 448 rfl rfl), (jTB_at 123 rfl rfl), jTB_at 449 rfl rfl, ⟨by decide, by decide, by decide +kernel⟩⟩
set_option maxRecDepth 100000 in
theorem jlk_X3_38 : jLkV RX3 38 yX5_firstPart cX5_firstPart 2 1 1 := ⟨(jTB_at 840 rfl rfl), (jTB_at 454 rfl rfl), (jTB_at 455 rfl rfl), (jTB_at 123 rfl rfl), jTB_at 456 rfl rfl, ⟨by decide, by decide, by decide +kernel⟩⟩
set_option maxRecDepth 100000 in
theorem jlk_X3_41 : jLkV RX3 41 yX5_heapOf cX5_heapOf 2 1 1 := ⟨(jTB_at 841 rfl rfl), (jTB_at 458 rfl rfl), (jTB_at 459 rfl rfl), (jTB_at 123 rfl rfl), jTB_at 460 rfl rfl, ⟨by decide, by decide, by decide +kernel⟩⟩
set_option maxRecDepth 100000 in
theorem jlk_X3_44 : jLkV RX3 44 yX5_restOf cX5_restOf 2 1 1 := ⟨(jTB_at 842 rfl rfl), (jTB_at 462 rfl rfl), (jTB_at 463 rfl rfl), (jTB_at 123 rfl rfl), jTB_at 464 rfl rfl, ⟨by decide, by decide, by decide +kernel⟩⟩
set_option maxRecDepth 100000 in
theorem jlk_X3_47 : jLkV RX3 47 yX8_firstMove cX8_firstMove 2 1 1 := ⟨(jTB_at 843 rfl rfl), (jTB_at 844 rfl rfl), (jTB_at 845 rfl rfl), (jTB_at 121 rfl rfl), jTB_at 846 rfl rfl, ⟨by decide, by decide, by decide +kernel⟩⟩
set_option maxRecDepth 100000 in
theorem jlk_X3_50 : jLkV RX3 50 yX8_packedAt cX8_packedAt 2 1 1 := ⟨(jTB_at 847 rfl rfl), (jTB_at 848 rfl rfl), (jTB_at 849 rfl rfl), (jTB_at 121 rfl rfl), jTB_at 850 rfl rfl, ⟨by decide, by decide, by decide +kernel⟩⟩
set_option maxRecDepth 100000 in
theorem jlk_X3_53 : jLkV RX3 53 yX5_joinMove cX5_joinMove 6 1 2 := ⟨(jTB_at 851 rfl rfl), (jTB_at 852 rfl rfl), (jTB_at 853 rfl rfl), (jTB_at 123 rfl rfl), jTB_at 854 rfl rfl, ⟨by decide, by decide, by decide +kernel⟩⟩
def jE_Options_list (F : Nat) : jxE := jmk [(11, 3, 2), (17, 3, 3), (20, 3, 0), (24, 3, 1), (28, 3, 4)] [] [] [(32, (2, false), jca_Positions_endPart F), (38, (2, false), jca_Positions_firstPart F), (41, (2, false), jca_Positions_heapOf F), (44, (2, false), jca_Positions_restOf F), (47, (2, false), jca_Rules_firstMove F), (50, (2, false), jca_Rules_packedAt F), (53, (3, false), jca_Positions_joinMove F)] 0 jc_C
set_option maxRecDepth 100000 in
set_option maxHeartbeats 4000000 in
theorem jmet_Options_list_38 (F : Nat) (sh : List jxC) (hs : jHas sh jc_C) (σ0 : jxS) (v1 : Int) (x : Int) (σ' : jxS) (h : Options_list F 38 σ0 v1 = some (x, σ')) : jMC yX3_list cX3_list 9 (jrt 0) 2 41 sh σ0 [(jmr 38), (jmi v1)] (jrv 0 x) σ' := by
  refine jMC_of (kd := 0) (by decide) rfl h ?_
  intro X hX
  have hG : jGd X (jE_Options_list F) jtb_Options_list := jGd_of hX jtk_Options_list (jcon jfl_X3_11 (jcon jfl_X3_17 (jcon jfl_X3_20 (jcon jfl_X3_24 (jcon jfl_X3_28 jnil))))) jnil jnil (jcon (jsV jlk_X3_32 ⟨rfl, rfl⟩ (jad_Positions_endPart F sh (jh_CP hs))) (jcon (jsV jlk_X3_38 ⟨rfl, rfl⟩ (jad_Positions_firstPart F sh (jh_CP hs))) (jcon (jsV jlk_X3_41 ⟨rfl, rfl⟩ (jad_Positions_heapOf F sh (jh_CP hs))) (jcon (jsV jlk_X3_44 ⟨rfl, rfl⟩ (jad_Positions_restOf F sh (jh_CP hs))) (jcon (jsV jlk_X3_47 ⟨rfl, rfl⟩ (jad_Rules_firstMove F sh hs)) (jcon (jsV jlk_X3_50 ⟨rfl, rfl⟩ (jad_Rules_packedAt F sh hs)) (jcon (jsV jlk_X3_53 ⟨rfl, rfl⟩ (jad_Positions_joinMove F sh (jh_CP hs))) jnil))))))) hs
  have rr72 : ∀ (k23 : Int → Int → jxS → Option jxR) (h23 : ∀ v2 v3 σ, jRf X (k23 v2 v3 σ) 23 [some (jmr 38), none, some (jmi v2), some (jmi v3), none, none, none, none, none] [] σ) (fu : Nat) (v2 v3 v4 v5 v6 v7 : Int) (σ : jxS), jRf X (Options_list_c72 F 38 k23 fu v2 v3 v4 v5 v6 v7 σ) 72 [some (jmr 38), none, some (jmi v2), some (jmi v3), some (jmi v4), some (jmi v5), some (jmi v6), some (jmi v7), none] [] σ := by
    intro k23 h23 fu
    induction fu with
    | zero => intros; exact jRf_none
    | succ fu ih =>
      intro v2 v3 v4 v5 v6 v7 σ
      exact jRf_by (jex_ok hG (cs := [(23, [some (.inr (some 38)), none, some (.inl 0), some (.inl 0), none, none, none, none, none], [], fun xs σ => match xs with
      | [v2, v3] => k23 v2 v3 σ
      | _ => none), (72, [some (.inr (some 38)), none, some (.inl 0), some (.inl 0), some (.inl 0), some (.inl 0), some (.inl 0), some (.inl 0), none], [], fun xs σ => match xs with
      | [v2, v3, v4, v5, v6, v7] => (Options_list_c72 F 38 k23 fu) v2 v3 v4 v5 v6 v7 σ
      | _ => none)]) (jcon (jl2 (fun y0 y1 => jl0 (fun σ => h23 y0 y1 σ))) (jcon (jl6 (fun y0 y1 y2 y3 y4 y5 => jl0 (fun σ => ih y0 y1 y2 y3 y4 y5 σ))) jnil)) 86 72 [some (jmr 38), none, some (jmi v2), some (jmi v3), some (jmi v4), some (jmi v5), some (jmi v6), some (jmi v7), none] [] σ) rfl
  have rr23 : ∀ (fu : Nat) (v2 v3 : Int) (σ : jxS), jRf X (Options_list_c23 F 38 fu v2 v3 σ) 23 [some (jmr 38), none, some (jmi v2), some (jmi v3), none, none, none, none, none] [] σ := by
    intro  fu
    induction fu with
    | zero => intros; exact jRf_none
    | succ fu ih =>
      intro v2 v3 σ
      exact jRf_by (jex_ok hG (cs := [(72, [some (.inr (some 38)), none, some (.inl 0), some (.inl 0), some (.inl 0), some (.inl 0), some (.inl 0), some (.inl 0), none], [], fun xs σ => match xs with
      | [v2, v3, v4, v5, v6, v7] => Options_list_c72 F 38 (Options_list_c23 F 38 fu) F v2 v3 v4 v5 v6 v7 σ
      | _ => none)]) (jcon (jl6 (fun y0 y1 y2 y3 y4 y5 => jl0 (fun σ => rr72 _ ih F y0 y1 y2 y3 y4 y5 σ))) jnil) 86 23 [some (jmr 38), none, some (jmi v2), some (jmi v3), none, none, none, none, none] [] σ) rfl
  exact jRf_by (jex_ok hG (cs := [(23, [some (.inr (some 38)), none, some (.inl 0), some (.inl 0), none, none, none, none, none], [], fun xs σ => match xs with
      | [v2, v3] => Options_list_c23 F 38 F v2 v3 σ
      | _ => none)]) (jcon (jl2 (fun y0 y1 => jl0 (fun σ => rr23 F y0 y1 σ))) jnil) 86 0 [some (jmr 38), some (jmi v1), none, none, none, none, none, none, none] [] σ0) rfl
set_option maxRecDepth 100000 in
set_option maxHeartbeats 4000000 in
theorem jmet_Options_list_41 (F : Nat) (sh : List jxC) (hs : jHas sh jc_C) (σ0 : jxS) (v1 : Int) (x : Int) (σ' : jxS) (h : Options_list F 41 σ0 v1 = some (x, σ')) : jMC yX3_list cX3_list 9 (jrt 0) 2 41 sh σ0 [(jmr 41), (jmi v1)] (jrv 0 x) σ' := by
  refine jMC_of (kd := 0) (by decide) rfl h ?_
  intro X hX
  have hG : jGd X (jE_Options_list F) jtb_Options_list := jGd_of hX jtk_Options_list (jcon jfl_X3_11 (jcon jfl_X3_17 (jcon jfl_X3_20 (jcon jfl_X3_24 (jcon jfl_X3_28 jnil))))) jnil jnil (jcon (jsV jlk_X3_32 ⟨rfl, rfl⟩ (jad_Positions_endPart F sh (jh_CP hs))) (jcon (jsV jlk_X3_38 ⟨rfl, rfl⟩ (jad_Positions_firstPart F sh (jh_CP hs))) (jcon (jsV jlk_X3_41 ⟨rfl, rfl⟩ (jad_Positions_heapOf F sh (jh_CP hs))) (jcon (jsV jlk_X3_44 ⟨rfl, rfl⟩ (jad_Positions_restOf F sh (jh_CP hs))) (jcon (jsV jlk_X3_47 ⟨rfl, rfl⟩ (jad_Rules_firstMove F sh hs)) (jcon (jsV jlk_X3_50 ⟨rfl, rfl⟩ (jad_Rules_packedAt F sh hs)) (jcon (jsV jlk_X3_53 ⟨rfl, rfl⟩ (jad_Positions_joinMove F sh (jh_CP hs))) jnil))))))) hs
  have rr72 : ∀ (k23 : Int → Int → jxS → Option jxR) (h23 : ∀ v2 v3 σ, jRf X (k23 v2 v3 σ) 23 [some (jmr 41), none, some (jmi v2), some (jmi v3), none, none, none, none, none] [] σ) (fu : Nat) (v2 v3 v4 v5 v6 v7 : Int) (σ : jxS), jRf X (Options_list_c72 F 41 k23 fu v2 v3 v4 v5 v6 v7 σ) 72 [some (jmr 41), none, some (jmi v2), some (jmi v3), some (jmi v4), some (jmi v5), some (jmi v6), some (jmi v7), none] [] σ := by
    intro k23 h23 fu
    induction fu with
    | zero => intros; exact jRf_none
    | succ fu ih =>
      intro v2 v3 v4 v5 v6 v7 σ
      exact jRf_by (jex_ok hG (cs := [(23, [some (.inr (some 41)), none, some (.inl 0), some (.inl 0), none, none, none, none, none], [], fun xs σ => match xs with
      | [v2, v3] => k23 v2 v3 σ
      | _ => none), (72, [some (.inr (some 41)), none, some (.inl 0), some (.inl 0), some (.inl 0), some (.inl 0), some (.inl 0), some (.inl 0), none], [], fun xs σ => match xs with
      | [v2, v3, v4, v5, v6, v7] => (Options_list_c72 F 41 k23 fu) v2 v3 v4 v5 v6 v7 σ
      | _ => none)]) (jcon (jl2 (fun y0 y1 => jl0 (fun σ => h23 y0 y1 σ))) (jcon (jl6 (fun y0 y1 y2 y3 y4 y5 => jl0 (fun σ => ih y0 y1 y2 y3 y4 y5 σ))) jnil)) 86 72 [some (jmr 41), none, some (jmi v2), some (jmi v3), some (jmi v4), some (jmi v5), some (jmi v6), some (jmi v7), none] [] σ) rfl
  have rr23 : ∀ (fu : Nat) (v2 v3 : Int) (σ : jxS), jRf X (Options_list_c23 F 41 fu v2 v3 σ) 23 [some (jmr 41), none, some (jmi v2), some (jmi v3), none, none, none, none, none] [] σ := by
    intro  fu
    induction fu with
    | zero => intros; exact jRf_none
    | succ fu ih =>
      intro v2 v3 σ
      exact jRf_by (jex_ok hG (cs := [(72, [some (.inr (some 41)), none, some (.inl 0), some (.inl 0), some (.inl 0), some (.inl 0), some (.inl 0), some (.inl 0), none], [], fun xs σ => match xs with
      | [v2, v3, v4, v5, v6, v7] => Options_list_c72 F 41 (Options_list_c23 F 41 fu) F v2 v3 v4 v5 v6 v7 σ
      | _ => none)]) (jcon (jl6 (fun y0 y1 y2 y3 y4 y5 => jl0 (fun σ => rr72 _ ih F y0 y1 y2 y3 y4 y5 σ))) jnil) 86 23 [some (jmr 41), none, some (jmi v2), some (jmi v3), none, none, none, none, none] [] σ) rfl
  exact jRf_by (jex_ok hG (cs := [(23, [some (.inr (some 41)), none, some (.inl 0), some (.inl 0), none, none, none, none, none], [], fun xs σ => match xs with
      | [v2, v3] => Options_list_c23 F 41 F v2 v3 σ
      | _ => none)]) (jcon (jl2 (fun y0 y1 => jl0 (fun σ => rr23 F y0 y1 σ))) jnil) 86 0 [some (jmr 41), some (jmi v1), none, none, none, none, none, none, none] [] σ0) rfl
theorem jmet_Options_list (F : Nat) (o : Nat) (ho : o ∈ jids_Options_list_o) (sh : List jxC) (hs : jHas sh jc_C) (σ0 : jxS) (v1 : Int) (x : Int) (σ' : jxS) (h : Options_list F o σ0 v1 = some (x, σ')) : jMC yX3_list cX3_list 9 (jrt 0) 2 41 sh σ0 [(jmr o), (jmi v1)] (jrv 0 x) σ' := by
  simp only [jids_Options_list_o, List.mem_cons, List.not_mem_nil, or_false] at ho
  rcases ho with rfl | rfl
  · exact jmet_Options_list_38 F sh hs σ0 v1 x σ' h
  · exact jmet_Options_list_41 F sh hs σ0 v1 x σ' h
theorem jad_Options_list (F : Nat) (sh : List jxC) (hs : jHas sh jc_C) : jAdV (jca_Options_list F) yX3_list cX3_list 9 0 2 41 1 sh := by
  intro as σ k x σ' h
  unfold jca_Options_list at h
  split at h
  · rename_i t0 v1
    obtain ⟨g0, hh1⟩ := jcond h
    have g0 := jin_of g0
    obtain ⟨r, h1, h2⟩ := Option.bind_eq_some_iff.mp hh1
    exact ⟨_, _, h2, (by obtain ⟨fks, hfk⟩ := jrc_Options hs g0; exact ⟨_, _, _, _, _, _, rfl, rfl, hfk, rfl⟩), jmet_Options_list F t0 g0 sh hs σ v1 r.1 r.2 h1⟩
  · cases h
def jtb_Values_judgeOptions : List (Nat × Instr) := [(0, .aload_n 0), (1, .getfield 40), (4, .getfield 67), (7, .astore_n 1), (8, .aload_n 0), (9, .getfield 40), (12, .getfield 70), (15, .istore_n 2), (16, .bipush 44), (18, .istore_n 3), (19, .iconst 0), (20, .istore 4), (22, .iload_n 2), (23, .ifCond .ne 7), (26, .iconst 1), (27, .goto 4), (30, .iconst 0), (31, .istore 5), (33, .iconst 0), (34, .istore 6), (36, .iload 6), (38, .iload_n 2), (39, .if_icmp .ge 70), (42, .iload 6), (44, .aload_n 1), (45, .arraylength), (46, .if_icmp .ge 63), (49, .aload_n 1), (50, .iload 6), (52, .iaload), (53, .istore 7), (55, .iload 7), (57, .ifCond .lt 13), (60, .aload_n 0), (61, .getfield 11), (64, .iload 7), (66, .iaload), (67, .goto 4), (70, .iconst 0), (71, .istore 8), (73, .iload 8), (75, .iload 4), (77, .if_icmp .le 7), (80, .iload 8), (82, .istore 4), (84, .iload 8), (86, .iconst 1), (87, .iand), (88, .ifCond .ne 15), (91, .iconst 1), (92, .istore 5), (94, .iload 8), (96, .iload_n 3), (97, .if_icmp .ge 6), (100, .iload 8), (102, .istore_n 3), (103, .iinc 6 1), (106, .goto (-70)), (109, .iload 5), (111, .ifCond .eq 15), (114, .iload_n 2), (115, .ifCond .ne 7), (118, .iconst 1), (119, .goto 6), (122, .iload_n 3), (123, .iconst 3), (124, .iadd), (125, .ireturn), (126, .iload 4), (128, .bipush (-2)), (130, .iand), (131, .iconst 2), (132, .iadd), (133, .ireturn)]
theorem jtk_Values_judgeOptions : jtok cX10_judgeOptions jtb_Values_judgeOptions = true := by decide +kernel
set_option maxRecDepth 100000 in
theorem jfl_X10_11 : jFl RX10 11 10 3 := ⟨RX10, TX10, 9, tyX10, rfl, by decide, jin_X10, tyX10_ok, nmX10, jow_X10, (Or.inl (jTB_at 546 rfl rfl))⟩
set_option maxRecDepth 100000 in
theorem jfl_X10_40 : jFl RX10 40 10 2 := ⟨RX10, TX10, 9, tyX10, rfl, by decide, jin_X10, tyX10_ok, nmX10, jow_X10, (Or.inl (jTB_at 545 rfl rfl))⟩
set_option maxRecDepth 100000 in
theorem jfl_X10_67 : jFl RX10 67 3 2 := ⟨RX3, TX3, 5, tyX3, rfl, by decide, jin_X3, tyX3_ok, nmX3, jow_X3, (Or.inr ⟨"LastLoses", (jNS_at 527 rfl rfl)⟩)⟩
set_option maxRecDepth 100000 in
theorem jfl_X10_70 : jFl RX10 70 3 4 := ⟨RX3, TX3, 5, tyX3, rfl, by decide, jin_X3, tyX3_ok, nmX3, jow_X3, (Or.inr ⟨"LastLoses", (jNS_at 530 rfl rfl)⟩)⟩
def jE_Values_judgeOptions (F : Nat) : jxE := jmk [(11, 10, 3), (40, 10, 2), (67, 3, 2), (70, 3, 4)] [] [] [] 1 jc_C
set_option maxRecDepth 100000 in
set_option maxHeartbeats 4000000 in
theorem jmet_Values_judgeOptions (F : Nat) (sh : List jxC) (hs : jHas sh jc_C) (σ0 : jxS) (x : Int) (σ' : jxS) (h : Values_judgeOptions F σ0 = some (x, σ')) : jMC yX10_judgeOptions cX10_judgeOptions 9 (jrt 1) 0 0 sh σ0 [(jmr 33)] (jrv 1 x) σ' := by
  refine jMC_of (kd := 1) (by decide) rfl h ?_
  intro X hX
  have hG : jGd X (jE_Values_judgeOptions F) jtb_Values_judgeOptions := jGd_of hX jtk_Values_judgeOptions (jcon jfl_X10_11 (jcon jfl_X10_40 (jcon jfl_X10_67 (jcon jfl_X10_70 jnil)))) jnil jnil jnil hs
  have rr109 : ∀ (v2 v3 v4 v5 : Int) (σ : jxS), jRf X (Values_judgeOptions_c109 F v2 v3 v4 v5 σ) 109 [none, none, some (jmi v2), some (jmi v3), some (jmi v4), some (jmi v5), none, none, none] [] σ := by
    intro  v2 v3 v4 v5 σ
    exact jRf_by (jex_ok hG (cs := []) jnil 77 109 [none, none, some (jmi v2), some (jmi v3), some (jmi v4), some (jmi v5), none, none, none] [] σ) rfl
  have rr84 : ∀ (k36 : Int → Int → Int → Int → Int → jxS → Option jxR) (h36 : ∀ v2 v3 v4 v5 v6 σ, jRf X (k36 v2 v3 v4 v5 v6 σ) 36 [some (jmr 33), some (jmr 39), some (jmi v2), some (jmi v3), some (jmi v4), some (jmi v5), some (jmi v6), none, none] [] σ) (v2 v3 v4 v5 v6 v8 : Int) (σ : jxS), jRf X (Values_judgeOptions_c84 F k36 v2 v3 v4 v5 v6 v8 σ) 84 [some (jmr 33), some (jmr 39), some (jmi v2), some (jmi v3), some (jmi v4), some (jmi v5), some (jmi v6), none, some (jmi v8)] [] σ := by
    intro k36 h36 v2 v3 v4 v5 v6 v8 σ
    exact jRf_by (jex_ok hG (cs := [(36, [some (.inr (some 33)), some (.inr (some 39)), some (.inl 0), some (.inl 0), some (.inl 0), some (.inl 0), some (.inl 0), none, none], [], fun xs σ => match xs with
      | [v2, v3, v4, v5, v6] => k36 v2 v3 v4 v5 v6 σ
      | _ => none)]) (jcon (jl5 (fun y0 y1 y2 y3 y4 => jl0 (fun σ => h36 y0 y1 y2 y3 y4 σ))) jnil) 77 84 [some (jmr 33), some (jmr 39), some (jmi v2), some (jmi v3), some (jmi v4), some (jmi v5), some (jmi v6), none, some (jmi v8)] [] σ) rfl
  have rr71 : ∀ (k36 : Int → Int → Int → Int → Int → jxS → Option jxR) (h36 : ∀ v2 v3 v4 v5 v6 σ, jRf X (k36 v2 v3 v4 v5 v6 σ) 36 [some (jmr 33), some (jmr 39), some (jmi v2), some (jmi v3), some (jmi v4), some (jmi v5), some (jmi v6), none, none] [] σ) (v2 v3 v4 v5 v6 t0 : Int) (σ : jxS), jRf X (Values_judgeOptions_c71 F k36 v2 v3 v4 v5 v6 t0 σ) 71 [some (jmr 33), some (jmr 39), some (jmi v2), some (jmi v3), some (jmi v4), some (jmi v5), some (jmi v6), none, none] [(jmi t0)] σ := by
    intro k36 h36 v2 v3 v4 v5 v6 t0 σ
    exact jRf_by (jex_ok hG (cs := [(84, [some (.inr (some 33)), some (.inr (some 39)), some (.inl 0), some (.inl 0), some (.inl 0), some (.inl 0), some (.inl 0), none, some (.inl 0)], [], fun xs σ => match xs with
      | [v2, v3, v4, v5, v6, v8] => Values_judgeOptions_c84 F k36 v2 v3 v4 v5 v6 v8 σ
      | _ => none)]) (jcon (jl6 (fun y0 y1 y2 y3 y4 y5 => jl0 (fun σ => rr84 _ h36 y0 y1 y2 y3 y4 y5 σ))) jnil) 77 71 [some (jmr 33), some (jmr 39), some (jmi v2), some (jmi v3), some (jmi v4), some (jmi v5), some (jmi v6), none, none] [(jmi t0)] σ) rfl
  have rr36 : ∀ (fu : Nat) (v2 v3 v4 v5 v6 : Int) (σ : jxS), jRf X (Values_judgeOptions_c36 F fu v2 v3 v4 v5 v6 σ) 36 [some (jmr 33), some (jmr 39), some (jmi v2), some (jmi v3), some (jmi v4), some (jmi v5), some (jmi v6), none, none] [] σ := by
    intro  fu
    induction fu with
    | zero => intros; exact jRf_none
    | succ fu ih =>
      intro v2 v3 v4 v5 v6 σ
      exact jRf_by (jex_ok hG (cs := [(71, [some (.inr (some 33)), some (.inr (some 39)), some (.inl 0), some (.inl 0), some (.inl 0), some (.inl 0), some (.inl 0), none, none], [(.inl 0)], fun xs σ => match xs with
      | [v2, v3, v4, v5, v6, t0] => Values_judgeOptions_c71 F (Values_judgeOptions_c36 F fu) v2 v3 v4 v5 v6 t0 σ
      | _ => none), (109, [none, none, some (.inl 0), some (.inl 0), some (.inl 0), some (.inl 0), none, none, none], [], fun xs σ => match xs with
      | [v2, v3, v4, v5] => Values_judgeOptions_c109 F v2 v3 v4 v5 σ
      | _ => none)]) (jcon (jl5 (fun y0 y1 y2 y3 y4 => jl1 (fun y5 => (fun σ => rr71 _ ih y0 y1 y2 y3 y4 y5 σ)))) (jcon (jl4 (fun y0 y1 y2 y3 => jl0 (fun σ => rr109 y0 y1 y2 y3 σ))) jnil)) 77 36 [some (jmr 33), some (jmr 39), some (jmi v2), some (jmi v3), some (jmi v4), some (jmi v5), some (jmi v6), none, none] [] σ) rfl
  exact jRf_by (jex_ok hG (cs := [(36, [some (.inr (some 33)), some (.inr (some 39)), some (.inl 0), some (.inl 0), some (.inl 0), some (.inl 0), some (.inl 0), none, none], [], fun xs σ => match xs with
      | [v2, v3, v4, v5, v6] => Values_judgeOptions_c36 F F v2 v3 v4 v5 v6 σ
      | _ => none)]) (jcon (jl5 (fun y0 y1 y2 y3 y4 => jl0 (fun σ => rr36 F y0 y1 y2 y3 y4 σ))) jnil) 77 0 [some (jmr 33), none, none, none, none, none, none, none, none] [] σ0) rfl
theorem jad_Values_judgeOptions (F : Nat) (sh : List jxC) (hs : jHas sh jc_C) : jAdV (jca_Values_judgeOptions F) yX10_judgeOptions cX10_judgeOptions 9 1 0 0 0 sh := by
  intro as σ k x σ' h
  unfold jca_Values_judgeOptions at h
  split at h
  · rename_i t0
    obtain ⟨g0, hh1⟩ := jcond h
    obtain rfl := jbeq g0
    obtain ⟨r, h1, h2⟩ := Option.bind_eq_some_iff.mp hh1
    exact ⟨_, _, h2, ⟨_, _, _, _, _, _, rfl, rfl, (hs _ (jkf_in (l := jc_C) (idx := 33) rfl)).1, rfl⟩, jmet_Values_judgeOptions F  sh hs σ  r.1 r.2 h1⟩
  · cases h
def jtb_Values_settleTo : List (Nat × Instr) := [(0, .aload_n 0), (1, .getfield 44), (4, .istore_n 2), (5, .iload_n 2), (6, .iload_n 1), (7, .if_icmp .gt 41), (10, .iload_n 2), (11, .sipush 4224), (14, .if_icmp .ge 34), (17, .aload_n 0), (18, .getfield 40), (21, .iload_n 2), (22, .invokevirtual 59), (25, .aload_n 0), (26, .getfield 11), (29, .iload_n 2), (30, .aload_n 0), (31, .invokevirtual 63), (34, .iastore), (35, .aload_n 0), (36, .iload_n 2), (37, .iconst 1), (38, .iadd), (39, .putfield 44), (42, .iinc 2 1), (45, .goto (-40)), (48, .return_)]
theorem jtk_Values_settleTo : jtok cX10_settleTo jtb_Values_settleTo = true := by decide +kernel
set_option maxRecDepth 100000 in
theorem jlk_X10_59 : jLkV RX10 59 yX3_list cX3_list 9 0 1 := ⟨(jTB_at 835 rfl rfl), (jTB_at 836 rfl rfl), (jTB_at 837 rfl rfl), (jTB_at 126 rfl rfl), jTB_at 838 rfl rfl, ⟨by decide, by decide, by decide +kernel⟩⟩
set_option maxRecDepth 100000 in
theorem jlk_X10_63 : jLkV RX10 63 yX10_judgeOptions cX10_judgeOptions 9 1 0 := ⟨(jTB_at 855 rfl rfl), (jTB_at 857 rfl rfl), (jTB_at 26 rfl rfl), (jTB_at 125 rfl rfl), jTB_at 858 rfl rfl, ⟨by decide, by decide, by decide +kernel⟩⟩
def jE_Values_settleTo (F : Nat) : jxE := jmk [(11, 10, 3), (40, 10, 2), (44, 10, 7)] [] [] [(59, (2, false), jca_Options_list F), (63, (1, false), jca_Values_judgeOptions F)] 0 jc_C
set_option maxRecDepth 100000 in
set_option maxHeartbeats 4000000 in
theorem jmet_Values_settleTo (F : Nat) (sh : List jxC) (hs : jHas sh jc_C) (σ0 : jxS) (v1 : Int) (x : Int) (σ' : jxS) (h : Values_settleTo F σ0 v1 = some (x, σ')) : jMC yX10_settleTo cX10_settleTo 3 (jrt 0) 3 69 sh σ0 [(jmr 33), (jmi v1)] (jrv 0 x) σ' := by
  refine jMC_of (kd := 0) (by decide) rfl h ?_
  intro X hX
  have hG : jGd X (jE_Values_settleTo F) jtb_Values_settleTo := jGd_of hX jtk_Values_settleTo (jcon jfl_X10_11 (jcon jfl_X10_40 (jcon jfl_X10_44 jnil))) jnil jnil (jcon (jsV jlk_X10_59 ⟨rfl, rfl⟩ (jad_Options_list F sh hs)) (jcon (jsV jlk_X10_63 ⟨rfl, rfl⟩ (jad_Values_judgeOptions F sh hs)) jnil)) hs
  have rr5 : ∀ (fu : Nat) (v1 v2 : Int) (σ : jxS), jRf X (Values_settleTo_c5 F fu v1 v2 σ) 5 [some (jmr 33), some (jmi v1), some (jmi v2)] [] σ := by
    intro  fu
    induction fu with
    | zero => intros; exact jRf_none
    | succ fu ih =>
      intro v1 v2 σ
      exact jRf_by (jex_ok hG (cs := [(5, [some (.inr (some 33)), some (.inl 0), some (.inl 0)], [], fun xs σ => match xs with
      | [v1, v2] => (Values_settleTo_c5 F fu) v1 v2 σ
      | _ => none)]) (jcon (jl2 (fun y0 y1 => jl0 (fun σ => ih y0 y1 σ))) jnil) 30 5 [some (jmr 33), some (jmi v1), some (jmi v2)] [] σ) rfl
  exact jRf_by (jex_ok hG (cs := [(5, [some (.inr (some 33)), some (.inl 0), some (.inl 0)], [], fun xs σ => match xs with
      | [v1, v2] => Values_settleTo_c5 F F v1 v2 σ
      | _ => none)]) (jcon (jl2 (fun y0 y1 => jl0 (fun σ => rr5 F y0 y1 σ))) jnil) 30 0 [some (jmr 33), some (jmi v1), none] [] σ0) rfl
theorem jad_Values_settleTo (F : Nat) (sh : List jxC) (hs : jHas sh jc_C) : jAdV (jca_Values_settleTo F) yX10_settleTo cX10_settleTo 3 0 3 69 1 sh := by
  intro as σ k x σ' h
  unfold jca_Values_settleTo at h
  split at h
  · rename_i t0 v1
    obtain ⟨g0, hh1⟩ := jcond h
    obtain rfl := jbeq g0
    obtain ⟨r, h1, h2⟩ := Option.bind_eq_some_iff.mp hh1
    exact ⟨_, _, h2, ⟨_, _, _, _, _, _, rfl, rfl, (hs _ (jkf_in (l := jc_C) (idx := 33) rfl)).1, rfl⟩, jmet_Values_settleTo F  sh hs σ v1 r.1 r.2 h1⟩
  · cases h
def jtb_Values_loses : List (Nat × Instr) := [(0, .aload_n 0), (1, .iload_n 1), (2, .invokevirtual 73), (5, .iload_n 1), (6, .invokestatic 76), (9, .ifCond .eq 18), (12, .aload_n 0), (13, .getfield 11), (16, .iload_n 1), (17, .iaload), (18, .iconst 2), (19, .irem), (20, .ifCond .ne 7), (23, .iconst 1), (24, .goto 4), (27, .iconst 0), (28, .ireturn)]
theorem jtk_Values_loses : jtok cX10_loses jtb_Values_loses = true := by decide +kernel
set_option maxRecDepth 100000 in
theorem jlk_X10_73 : jLkV RX10 73 yX10_settleTo cX10_settleTo 3 0 1 := ⟨(jTB_at 831 rfl rfl), (jTB_at 833 rfl rfl), (jTB_at 25 rfl rfl), (jTB_at 125 rfl rfl), jTB_at 834 rfl rfl, ⟨by decide, by decide, by decide +kernel⟩⟩
set_option maxRecDepth 100000 in
theorem jlk_X10_76 : jLkS RX10 76 yX5_isPosition cX5_isPosition 1 4 1 := ⟨Or.inr ⟨"LastLoses", (jNS_at 859 rfl rfl)⟩, (jTB_at 451 rfl rfl), (jTB_at 123 rfl rfl), jTB_at 452 rfl rfl, ⟨by decide, by decide, by decide +kernel⟩⟩
def jE_Values_loses (F : Nat) : jxE := jmk [(11, 10, 3)] [] [] [(73, (2, false), jca_Values_settleTo F), (76, (1, true), jca_Positions_isPosition F)] 4 jc_C
set_option maxRecDepth 100000 in
set_option maxHeartbeats 4000000 in
theorem jmet_Values_loses (F : Nat) (sh : List jxC) (hs : jHas sh jc_C) (σ0 : jxS) (v1 : Int) (x : Int) (σ' : jxS) (h : Values_loses F σ0 v1 = some (x, σ')) : jMC yX10_loses cX10_loses 2 (jrt 4) 4 91 sh σ0 [(jmr 33), (jmi v1)] (jrv 4 x) σ' := by
  refine jMC_of (kd := 4) (by decide) rfl h ?_
  intro X hX
  have hG : jGd X (jE_Values_loses F) jtb_Values_loses := jGd_of hX jtk_Values_loses (jcon jfl_X10_11 jnil) jnil jnil (jcon (jsV jlk_X10_73 ⟨rfl, rfl⟩ (jad_Values_settleTo F sh hs)) (jcon (jsS jlk_X10_76 ⟨rfl, rfl⟩ (jad_Positions_isPosition F sh (jh_CP hs))) jnil)) hs
  exact jRf_by (jex_ok hG (cs := []) jnil 20 0 [some (jmr 33), some (jmi v1)] [] σ0) rfl
theorem jad_Values_loses (F : Nat) (sh : List jxC) (hs : jHas sh jc_C) : jAdV (jca_Values_loses F) yX10_loses cX10_loses 2 4 4 91 1 sh := by
  intro as σ k x σ' h
  unfold jca_Values_loses at h
  split at h
  · rename_i t0 v1
    obtain ⟨g0, hh1⟩ := jcond h
    obtain rfl := jbeq g0
    obtain ⟨r, h1, h2⟩ := Option.bind_eq_some_iff.mp hh1
    exact ⟨_, _, h2, ⟨_, _, _, _, _, _, rfl, rfl, (hs _ (jkf_in (l := jc_C) (idx := 33) rfl)).1, rfl⟩, jmet_Values_loses F  sh hs σ v1 r.1 r.2 h1⟩
  · cases h
def jtb_Values_nimberOf : List (Nat × Instr) := [(0, .iconst 0), (1, .istore_n 2), (2, .iload_n 1), (3, .istore_n 3), (4, .iconst 0), (5, .istore 4), (7, .iload 4), (9, .bipush 22), (11, .if_icmp .ge 52), (14, .iload_n 3), (15, .ifCond .le 48), (18, .aload_n 0), (19, .getfield 27), (22, .iload_n 3), (23, .invokevirtual 112), (26, .istore 5), (28, .iload_n 2), (29, .aload_n 0), (30, .getfield 31), (33, .aload_n 0), (34, .getfield 27), (37, .iload 5), (39, .invokevirtual 115), (42, .invokevirtual 118), (45, .ixor), (46, .istore_n 2), (47, .aload_n 0), (48, .getfield 27), (51, .iload 5), (53, .invokevirtual 121), (56, .istore_n 3), (57, .iinc 4 1), (60, .goto (-53)), (63, .iload_n 2), (64, .ireturn)]
theorem jtk_Values_nimberOf : jtok cX10_nimberOf jtb_Values_nimberOf = true := by decide +kernel
set_option maxRecDepth 100000 in
theorem jfl_X10_27 : jFl RX10 27 10 0 := ⟨RX10, TX10, 9, tyX10, rfl, by decide, jin_X10, tyX10_ok, nmX10, jow_X10, (Or.inl (jTB_at 543 rfl rfl))⟩
set_option maxRecDepth 100000 in
theorem jfl_X10_31 : jFl RX10 31 10 1 := ⟨RX10, TX10, 9, tyX10, rfl, by decide, jin_X10, tyX10_ok, nmX10, jow_X10, (Or.inl (jTB_at 544 rfl rfl))⟩
set_option maxRecDepth 100000 in
theorem jlk_X10_112 : jLkV RX10 112 yX5_firstPart cX5_firstPart 2 1 1 := ⟨(jTB_at 823 rfl rfl), (jTB_at 454 rfl rfl), (jTB_at 455 rfl rfl), (jTB_at 123 rfl rfl), jTB_at 456 rfl rfl, ⟨by decide, by decide, by decide +kernel⟩⟩
set_option maxRecDepth 100000 in
theorem jlk_X10_115 : jLkV RX10 115 yX5_heapOf cX5_heapOf 2 1 1 := ⟨(jTB_at 825 rfl rfl), (jTB_at 458 rfl rfl), (jTB_at 459 rfl rfl), (jTB_at 123 rfl rfl), jTB_at 460 rfl rfl, ⟨by decide, by decide, by decide +kernel⟩⟩
set_option maxRecDepth 100000 in
theorem jlk_X10_118 : jLkV RX10 118 yX8_nimberOf cX8_nimberOf 2 1 1 := ⟨(jTB_at 826 rfl rfl), (jTB_at 763 rfl rfl), (jTB_at 764 rfl rfl), (jTB_at 121 rfl rfl), jTB_at 765 rfl rfl, ⟨by decide, by decide, by decide +kernel⟩⟩
set_option maxRecDepth 100000 in
theorem jlk_X10_121 : jLkV RX10 121 yX5_restOf cX5_restOf 2 1 1 := ⟨(jTB_at 864 rfl rfl), (jTB_at 462 rfl rfl), (jTB_at 463 rfl rfl), (jTB_at 123 rfl rfl), jTB_at 464 rfl rfl, ⟨by decide, by decide, by decide +kernel⟩⟩
def jE_Values_nimberOf (F : Nat) : jxE := jmk [(27, 10, 0), (31, 10, 1)] [] [] [(112, (2, false), jca_Positions_firstPart F), (115, (2, false), jca_Positions_heapOf F), (118, (2, false), jca_Rules_nimberOf F), (121, (2, false), jca_Positions_restOf F)] 1 jc_C
set_option maxRecDepth 100000 in
set_option maxHeartbeats 4000000 in
theorem jmet_Values_nimberOf (F : Nat) (sh : List jxC) (hs : jHas sh jc_C) (σ0 : jxS) (v1 : Int) (x : Int) (σ' : jxS) (h : Values_nimberOf F σ0 v1 = some (x, σ')) : jMC yX10_nimberOf cX10_nimberOf 6 (jrt 1) 2 41 sh σ0 [(jmr 33), (jmi v1)] (jrv 1 x) σ' := by
  refine jMC_of (kd := 1) (by decide) rfl h ?_
  intro X hX
  have hG : jGd X (jE_Values_nimberOf F) jtb_Values_nimberOf := jGd_of hX jtk_Values_nimberOf (jcon jfl_X10_27 (jcon jfl_X10_31 jnil)) jnil jnil (jcon (jsV jlk_X10_112 ⟨rfl, rfl⟩ (jad_Positions_firstPart F sh (jh_CP hs))) (jcon (jsV jlk_X10_115 ⟨rfl, rfl⟩ (jad_Positions_heapOf F sh (jh_CP hs))) (jcon (jsV jlk_X10_118 ⟨rfl, rfl⟩ (jad_Rules_nimberOf F sh hs)) (jcon (jsV jlk_X10_121 ⟨rfl, rfl⟩ (jad_Positions_restOf F sh (jh_CP hs))) jnil)))) hs
  have rr7 : ∀ (fu : Nat) (v2 v3 v4 : Int) (σ : jxS), jRf X (Values_nimberOf_c7 F fu v2 v3 v4 σ) 7 [some (jmr 33), none, some (jmi v2), some (jmi v3), some (jmi v4), none] [] σ := by
    intro  fu
    induction fu with
    | zero => intros; exact jRf_none
    | succ fu ih =>
      intro v2 v3 v4 σ
      exact jRf_by (jex_ok hG (cs := [(7, [some (.inr (some 33)), none, some (.inl 0), some (.inl 0), some (.inl 0), none], [], fun xs σ => match xs with
      | [v2, v3, v4] => (Values_nimberOf_c7 F fu) v2 v3 v4 σ
      | _ => none)]) (jcon (jl3 (fun y0 y1 y2 => jl0 (fun σ => ih y0 y1 y2 σ))) jnil) 38 7 [some (jmr 33), none, some (jmi v2), some (jmi v3), some (jmi v4), none] [] σ) rfl
  exact jRf_by (jex_ok hG (cs := [(7, [some (.inr (some 33)), none, some (.inl 0), some (.inl 0), some (.inl 0), none], [], fun xs σ => match xs with
      | [v2, v3, v4] => Values_nimberOf_c7 F F v2 v3 v4 σ
      | _ => none)]) (jcon (jl3 (fun y0 y1 y2 => jl0 (fun σ => rr7 F y0 y1 y2 σ))) jnil) 38 0 [some (jmr 33), some (jmi v1), none, none, none, none] [] σ0) rfl
theorem jad_Values_nimberOf (F : Nat) (sh : List jxC) (hs : jHas sh jc_C) : jAdV (jca_Values_nimberOf F) yX10_nimberOf cX10_nimberOf 6 1 2 41 1 sh := by
  intro as σ k x σ' h
  unfold jca_Values_nimberOf at h
  split at h
  · rename_i t0 v1
    obtain ⟨g0, hh1⟩ := jcond h
    obtain rfl := jbeq g0
    obtain ⟨r, h1, h2⟩ := Option.bind_eq_some_iff.mp hh1
    exact ⟨_, _, h2, ⟨_, _, _, _, _, _, rfl, rfl, (hs _ (jkf_in (l := jc_C) (idx := 33) rfl)).1, rfl⟩, jmet_Values_nimberOf F  sh hs σ v1 r.1 r.2 h1⟩
  · cases h
def jtb_Values_isLikeNim : List (Nat × Instr) := [(0, .iconst 1), (1, .istore_n 2), (2, .aload_n 0), (3, .getfield 27), (6, .iload_n 1), (7, .invokevirtual 112), (10, .istore_n 3), (11, .iload_n 3), (12, .aload_n 0), (13, .getfield 27), (16, .iload_n 1), (17, .invokevirtual 124), (20, .if_icmp .ge 36), (23, .iload_n 2), (24, .aload_n 0), (25, .getfield 31), (28, .aload_n 0), (29, .getfield 27), (32, .iload_n 3), (33, .invokevirtual 115), (36, .invokevirtual 118), (39, .iconst 2), (40, .if_icmp .ge 7), (43, .iconst 1), (44, .goto 4), (47, .iconst 0), (48, .iand), (49, .istore_n 2), (50, .iinc 3 1), (53, .goto (-42)), (56, .aload_n 0), (57, .iload_n 1), (58, .invokevirtual 84), (61, .aload_n 0), (62, .iload_n 1), (63, .invokevirtual 105), (66, .iload_n 2), (67, .ifCond .eq 7), (70, .iconst 1), (71, .goto 4), (74, .iconst 0), (75, .if_icmp .ne 7), (78, .iconst 1), (79, .goto 4), (82, .iconst 0), (83, .if_icmp .ne 7), (86, .iconst 1), (87, .goto 4), (90, .iconst 0), (91, .ireturn)]
theorem jtk_Values_isLikeNim : jtok cX10_isLikeNim jtb_Values_isLikeNim = true := by decide +kernel
set_option maxRecDepth 100000 in
theorem jlk_X10_84 : jLkV RX10 84 yX10_loses cX10_loses 2 4 1 := ⟨(jTB_at 827 rfl rfl), (jTB_at 828 rfl rfl), (jTB_at 829 rfl rfl), (jTB_at 125 rfl rfl), jTB_at 830 rfl rfl, ⟨by decide, by decide, by decide +kernel⟩⟩
set_option maxRecDepth 100000 in
theorem jlk_X10_105 : jLkV RX10 105 yX10_nimberOf cX10_nimberOf 6 1 1 := ⟨(jTB_at 860 rfl rfl), (jTB_at 861 rfl rfl), (jTB_at 862 rfl rfl), (jTB_at 125 rfl rfl), jTB_at 863 rfl rfl, ⟨by decide, by decide, by decide +kernel⟩⟩
set_option maxRecDepth 100000 in
theorem jlk_X10_124 : jLkV RX10 124 yX5_endPart cX5_endPart 2 1 1 := ⟨(jTB_at 824 rfl rfl), (jTB_at 447 rfl rfl), (jTB_at 448 rfl rfl), (jTB_at 123 rfl rfl), jTB_at 449 rfl rfl, ⟨by decide, by decide, by decide +kernel⟩⟩
def jE_Values_isLikeNim (F : Nat) : jxE := jmk [(27, 10, 0), (31, 10, 1)] [] [] [(84, (2, false), jca_Values_loses F), (105, (2, false), jca_Values_nimberOf F), (112, (2, false), jca_Positions_firstPart F), (115, (2, false), jca_Positions_heapOf F), (118, (2, false), jca_Rules_nimberOf F), (124, (2, false), jca_Positions_endPart F)] 4 jc_C
set_option maxRecDepth 100000 in
set_option maxHeartbeats 4000000 in
theorem jmet_Values_isLikeNim (F : Nat) (sh : List jxC) (hs : jHas sh jc_C) (σ0 : jxS) (v1 : Int) (x : Int) (σ' : jxS) (h : Values_isLikeNim F σ0 v1 = some (x, σ')) : jMC yX10_isLikeNim cX10_isLikeNim 4 (jrt 4) 5 112 sh σ0 [(jmr 33), (jmi v1)] (jrv 4 x) σ' := by
  refine jMC_of (kd := 4) (by decide) rfl h ?_
  intro X hX
  have hG : jGd X (jE_Values_isLikeNim F) jtb_Values_isLikeNim := jGd_of hX jtk_Values_isLikeNim (jcon jfl_X10_27 (jcon jfl_X10_31 jnil)) jnil jnil (jcon (jsV jlk_X10_84 ⟨rfl, rfl⟩ (jad_Values_loses F sh hs)) (jcon (jsV jlk_X10_105 ⟨rfl, rfl⟩ (jad_Values_nimberOf F sh hs)) (jcon (jsV jlk_X10_112 ⟨rfl, rfl⟩ (jad_Positions_firstPart F sh (jh_CP hs))) (jcon (jsV jlk_X10_115 ⟨rfl, rfl⟩ (jad_Positions_heapOf F sh (jh_CP hs))) (jcon (jsV jlk_X10_118 ⟨rfl, rfl⟩ (jad_Rules_nimberOf F sh hs)) (jcon (jsV jlk_X10_124 ⟨rfl, rfl⟩ (jad_Positions_endPart F sh (jh_CP hs))) jnil)))))) hs
  have rr83 : ∀ (t0 t1 : Int) (σ : jxS), jRf X (Values_isLikeNim_c83 F t0 t1 σ) 83 [none, none, none, none] [(jmi t0), (jmi t1)] σ := by
    intro  t0 t1 σ
    exact jRf_by (jex_ok hG (cs := []) jnil 53 83 [none, none, none, none] [(jmi t0), (jmi t1)] σ) rfl
  have rr75 : ∀ (t0 t1 t2 : Int) (σ : jxS), jRf X (Values_isLikeNim_c75 F t0 t1 t2 σ) 75 [none, none, none, none] [(jmi t0), (jmi t1), (jmi t2)] σ := by
    intro  t0 t1 t2 σ
    exact jRf_by (jex_ok hG (cs := [(83, [none, none, none, none], [(.inl 0), (.inl 0)], fun xs σ => match xs with
      | [t0, t1] => Values_isLikeNim_c83 F t0 t1 σ
      | _ => none)]) (jcon (jl0 (jl2 (fun y0 y1 => (fun σ => rr83 y0 y1 σ)))) jnil) 53 75 [none, none, none, none] [(jmi t0), (jmi t1), (jmi t2)] σ) rfl
  have rr11 : ∀ (fu : Nat) (v1 v2 v3 : Int) (σ : jxS), jRf X (Values_isLikeNim_c11 F fu v1 v2 v3 σ) 11 [some (jmr 33), some (jmi v1), some (jmi v2), some (jmi v3)] [] σ := by
    intro  fu
    induction fu with
    | zero => intros; exact jRf_none
    | succ fu ih =>
      intro v1 v2 v3 σ
      exact jRf_by (jex_ok hG (cs := [(11, [some (.inr (some 33)), some (.inl 0), some (.inl 0), some (.inl 0)], [], fun xs σ => match xs with
      | [v1, v2, v3] => (Values_isLikeNim_c11 F fu) v1 v2 v3 σ
      | _ => none), (75, [none, none, none, none], [(.inl 0), (.inl 0), (.inl 0)], fun xs σ => match xs with
      | [t0, t1, t2] => Values_isLikeNim_c75 F t0 t1 t2 σ
      | _ => none)]) (jcon (jl3 (fun y0 y1 y2 => jl0 (fun σ => ih y0 y1 y2 σ))) (jcon (jl0 (jl3 (fun y0 y1 y2 => (fun σ => rr75 y0 y1 y2 σ)))) jnil)) 53 11 [some (jmr 33), some (jmi v1), some (jmi v2), some (jmi v3)] [] σ) rfl
  exact jRf_by (jex_ok hG (cs := [(11, [some (.inr (some 33)), some (.inl 0), some (.inl 0), some (.inl 0)], [], fun xs σ => match xs with
      | [v1, v2, v3] => Values_isLikeNim_c11 F F v1 v2 v3 σ
      | _ => none)]) (jcon (jl3 (fun y0 y1 y2 => jl0 (fun σ => rr11 F y0 y1 y2 σ))) jnil) 53 0 [some (jmr 33), some (jmi v1), none, none] [] σ0) rfl
theorem jad_Values_isLikeNim (F : Nat) (sh : List jxC) (hs : jHas sh jc_C) : jAdV (jca_Values_isLikeNim F) yX10_isLikeNim cX10_isLikeNim 4 4 5 112 1 sh := by
  intro as σ k x σ' h
  unfold jca_Values_isLikeNim at h
  split at h
  · rename_i t0 v1
    obtain ⟨g0, hh1⟩ := jcond h
    obtain rfl := jbeq g0
    obtain ⟨r, h1, h2⟩ := Option.bind_eq_some_iff.mp hh1
    exact ⟨_, _, h2, ⟨_, _, _, _, _, _, rfl, rfl, (hs _ (jkf_in (l := jc_C) (idx := 33) rfl)).1, rfl⟩, jmet_Values_isLikeNim F  sh hs σ v1 r.1 r.2 h1⟩
  · cases h
def jtb_Board_firstOdd : List (Nat × Instr) := [(0, .aload_n 0), (1, .getfield 28), (4, .bipush 13), (6, .invokevirtual 92), (9, .istore_n 1), (10, .iconst 0), (11, .istore_n 2), (12, .iload_n 2), (13, .iload_n 1), (14, .if_icmp .ge 34), (17, .aload_n 0), (18, .getfield 85), (21, .bipush (-2)), (23, .if_icmp .ne 25), (26, .aload_n 0), (27, .getfield 50), (30, .iload_n 2), (31, .invokevirtual 96), (34, .ifCond .ne 8), (37, .aload_n 0), (38, .iload_n 2), (39, .putfield 85), (42, .iinc 2 1), (45, .goto (-33)), (48, .aload_n 0), (49, .getfield 85), (52, .bipush (-2)), (54, .if_icmp .ne 8), (57, .aload_n 0), (58, .iconst (-1)), (59, .putfield 85), (62, .aload_n 0), (63, .getfield 85), (66, .ireturn)]
theorem jtk_Board_firstOdd : jtok cX0_firstOdd jtb_Board_firstOdd = true := by decide +kernel
set_option maxRecDepth 100000 in
theorem jfl_X0_28 : jFl RX0 28 0 2 := ⟨RX0, TX0, 10, tyX0, rfl, by decide, jin_X0, tyX0_ok, nmX0, jow_X0, (Or.inl (jTB_at 642 rfl rfl))⟩
set_option maxRecDepth 100000 in
theorem jlk_X0_92 : jLkV RX0 92 yX5_firstWith cX5_firstWith 2 1 1 := ⟨(jTB_at 813 rfl rfl), (jTB_at 814 rfl rfl), (jTB_at 815 rfl rfl), (jTB_at 123 rfl rfl), jTB_at 816 rfl rfl, ⟨by decide, by decide, by decide +kernel⟩⟩
set_option maxRecDepth 100000 in
theorem jlk_X0_96 : jLkV RX0 96 yX10_isLikeNim cX10_isLikeNim 4 4 1 := ⟨(jTB_at 819 rfl rfl), (jTB_at 820 rfl rfl), (jTB_at 821 rfl rfl), (jTB_at 125 rfl rfl), jTB_at 822 rfl rfl, ⟨by decide, by decide, by decide +kernel⟩⟩
def jE_Board_firstOdd (F : Nat) : jxE := jmk [(28, 0, 2), (50, 0, 4), (85, 0, 8)] [] [] [(92, (2, false), jca_Positions_firstWith F), (96, (2, false), jca_Values_isLikeNim F)] 1 jc_C
set_option maxRecDepth 100000 in
set_option maxHeartbeats 4000000 in
theorem jmet_Board_firstOdd (F : Nat) (sh : List jxC) (hs : jHas sh jc_C) (σ0 : jxS) (x : Int) (σ' : jxS) (h : Board_firstOdd F σ0 = some (x, σ')) : jMC yX0_firstOdd cX0_firstOdd 3 (jrt 1) 6 135 sh σ0 [(jmr 9)] (jrv 1 x) σ' := by
  refine jMC_of (kd := 1) (by decide) rfl h ?_
  intro X hX
  have hG : jGd X (jE_Board_firstOdd F) jtb_Board_firstOdd := jGd_of hX jtk_Board_firstOdd (jcon jfl_X0_28 (jcon jfl_X0_50 (jcon jfl_X0_85 jnil))) jnil jnil (jcon (jsV jlk_X0_92 ⟨rfl, rfl⟩ (jad_Positions_firstWith F sh (jh_CP hs))) (jcon (jsV jlk_X0_96 ⟨rfl, rfl⟩ (jad_Values_isLikeNim F sh hs)) jnil)) hs
  have rr48 : ∀ (σ : jxS), jRf X (Board_firstOdd_c48 F  σ) 48 [some (jmr 9), none, none] [] σ := by
    intro   σ
    exact jRf_by (jex_ok hG (cs := []) jnil 37 48 [some (jmr 9), none, none] [] σ) rfl
  have rr12 : ∀ (fu : Nat) (v1 v2 : Int) (σ : jxS), jRf X (Board_firstOdd_c12 F fu v1 v2 σ) 12 [some (jmr 9), some (jmi v1), some (jmi v2)] [] σ := by
    intro  fu
    induction fu with
    | zero => intros; exact jRf_none
    | succ fu ih =>
      intro v1 v2 σ
      exact jRf_by (jex_ok hG (cs := [(12, [some (.inr (some 9)), some (.inl 0), some (.inl 0)], [], fun xs σ => match xs with
      | [v1, v2] => (Board_firstOdd_c12 F fu) v1 v2 σ
      | _ => none), (48, [some (.inr (some 9)), none, none], [], fun xs σ => match xs with
      | [] => Board_firstOdd_c48 F  σ
      | _ => none)]) (jcon (jl2 (fun y0 y1 => jl0 (fun σ => ih y0 y1 σ))) (jcon (jl0 (jl0 (fun σ => rr48  σ))) jnil)) 37 12 [some (jmr 9), some (jmi v1), some (jmi v2)] [] σ) rfl
  exact jRf_by (jex_ok hG (cs := [(12, [some (.inr (some 9)), some (.inl 0), some (.inl 0)], [], fun xs σ => match xs with
      | [v1, v2] => Board_firstOdd_c12 F F v1 v2 σ
      | _ => none)]) (jcon (jl2 (fun y0 y1 => jl0 (fun σ => rr12 F y0 y1 σ))) jnil) 37 0 [some (jmr 9), none, none] [] σ0) rfl
theorem jad_Board_firstOdd (F : Nat) (sh : List jxC) (hs : jHas sh jc_C) : jAdV (jca_Board_firstOdd F) yX0_firstOdd cX0_firstOdd 3 1 6 135 0 sh := by
  intro as σ k x σ' h
  unfold jca_Board_firstOdd at h
  split at h
  · rename_i t0
    obtain ⟨g0, hh1⟩ := jcond h
    obtain rfl := jbeq g0
    obtain ⟨r, h1, h2⟩ := Option.bind_eq_some_iff.mp hh1
    exact ⟨_, _, h2, ⟨_, _, _, _, _, _, rfl, rfl, (hs _ (jkf_in (l := jc_C) (idx := 9) rfl)).1, rfl⟩, jmet_Board_firstOdd F  sh hs σ  r.1 r.2 h1⟩
  · cases h
def jtb_Positions_beansOf : List (Nat × Instr) := [(0, .iconst 0), (1, .istore_n 2), (2, .iconst 1), (3, .istore_n 3), (4, .iload_n 3), (5, .bipush 22), (7, .if_icmp .gt 21), (10, .iload_n 1), (11, .aload_n 0), (12, .getfield 15), (15, .iload_n 3), (16, .iaload), (17, .if_icmp .lt 11), (20, .iload_n 3), (21, .istore_n 2), (22, .iinc 3 1), (25, .goto (-21)), (28, .iload_n 2), (29, .ireturn)]
theorem jtk_Positions_beansOf : jtok cX5_beansOf jtb_Positions_beansOf = true := by decide +kernel
def jE_Positions_beansOf (F : Nat) : jxE := jmk [(15, 5, 1)] [] [] [] 1 jc_P
set_option maxRecDepth 100000 in
set_option maxHeartbeats 4000000 in
theorem jmet_Positions_beansOf (F : Nat) (sh : List jxC) (hs : jHas sh jc_P) (σ0 : jxS) (v1 : Int) (x : Int) (σ' : jxS) (h : Positions_beansOf F σ0 v1 = some (x, σ')) : jMC yX5_beansOf cX5_beansOf 4 (jrt 1) 0 0 sh σ0 [(jmr 22), (jmi v1)] (jrv 1 x) σ' := by
  refine jMC_of (kd := 1) (by decide) rfl h ?_
  intro X hX
  have hG : jGd X (jE_Positions_beansOf F) jtb_Positions_beansOf := jGd_of hX jtk_Positions_beansOf (jcon jfl_X5_15 jnil) jnil jnil jnil hs
  have rr4 : ∀ (fu : Nat) (v1 v2 v3 : Int) (σ : jxS), jRf X (Positions_beansOf_c4 F fu v1 v2 v3 σ) 4 [some (jmr 22), some (jmi v1), some (jmi v2), some (jmi v3)] [] σ := by
    intro  fu
    induction fu with
    | zero => intros; exact jRf_none
    | succ fu ih =>
      intro v1 v2 v3 σ
      exact jRf_by (jex_ok hG (cs := [(4, [some (.inr (some 22)), some (.inl 0), some (.inl 0), some (.inl 0)], [], fun xs σ => match xs with
      | [v1, v2, v3] => (Positions_beansOf_c4 F fu) v1 v2 v3 σ
      | _ => none)]) (jcon (jl3 (fun y0 y1 y2 => jl0 (fun σ => ih y0 y1 y2 σ))) jnil) 22 4 [some (jmr 22), some (jmi v1), some (jmi v2), some (jmi v3)] [] σ) rfl
  exact jRf_by (jex_ok hG (cs := [(4, [some (.inr (some 22)), some (.inl 0), some (.inl 0), some (.inl 0)], [], fun xs σ => match xs with
      | [v1, v2, v3] => Positions_beansOf_c4 F F v1 v2 v3 σ
      | _ => none)]) (jcon (jl3 (fun y0 y1 y2 => jl0 (fun σ => rr4 F y0 y1 y2 σ))) jnil) 22 0 [some (jmr 22), some (jmi v1), none, none] [] σ0) rfl
theorem jad_Positions_beansOf (F : Nat) (sh : List jxC) (hs : jHas sh jc_P) : jAdV (jca_Positions_beansOf F) yX5_beansOf cX5_beansOf 4 1 0 0 1 sh := by
  intro as σ k x σ' h
  unfold jca_Positions_beansOf at h
  split at h
  · rename_i t0 v1
    obtain ⟨g0, hh1⟩ := jcond h
    obtain rfl := jbeq g0
    obtain ⟨r, h1, h2⟩ := Option.bind_eq_some_iff.mp hh1
    exact ⟨_, _, h2, ⟨_, _, _, _, _, _, rfl, rfl, (hs _ (jkf_in (l := jc_P) (idx := 22) rfl)).1, rfl⟩, jmet_Positions_beansOf F  sh hs σ v1 r.1 r.2 h1⟩
  · cases h
def jtb_Positions_without : List (Nat × Instr) := [(0, .aload_n 0), (1, .iload_n 1), (2, .invokevirtual 52), (5, .istore_n 3), (6, .iload_n 3), (7, .aload_n 0), (8, .iload_n 1), (9, .invokevirtual 48), (12, .if_icmp .ge 24), (15, .aload_n 0), (16, .iload_n 3), (17, .invokevirtual 55), (20, .iload_n 2), (21, .if_icmp .ne 9), (24, .aload_n 0), (25, .iload_n 3), (26, .invokevirtual 58), (29, .ireturn), (30, .iinc 3 1), (33, .goto (-27)), (36, .iconst (-1)), (37, .ireturn)]
theorem jtk_Positions_without : jtok cX5_without jtb_Positions_without = true := by decide +kernel
set_option maxRecDepth 100000 in
theorem jlk_X5_48 : jLkV RX5 48 yX5_endPart cX5_endPart 2 1 1 := ⟨(jTB_at 446 rfl rfl), (jTB_at 447 rfl rfl), (jTB_at 448 rfl rfl), (jTB_at 123 rfl rfl), jTB_at 449 rfl rfl, ⟨by decide, by decide, by decide +kernel⟩⟩
set_option maxRecDepth 100000 in
theorem jlk_X5_52 : jLkV RX5 52 yX5_firstPart cX5_firstPart 2 1 1 := ⟨(jTB_at 453 rfl rfl), (jTB_at 454 rfl rfl), (jTB_at 455 rfl rfl), (jTB_at 123 rfl rfl), jTB_at 456 rfl rfl, ⟨by decide, by decide, by decide +kernel⟩⟩
set_option maxRecDepth 100000 in
theorem jlk_X5_55 : jLkV RX5 55 yX5_heapOf cX5_heapOf 2 1 1 := ⟨(jTB_at 457 rfl rfl), (jTB_at 458 rfl rfl), (jTB_at 459 rfl rfl), (jTB_at 123 rfl rfl), jTB_at 460 rfl rfl, ⟨by decide, by decide, by decide +kernel⟩⟩
set_option maxRecDepth 100000 in
theorem jlk_X5_58 : jLkV RX5 58 yX5_restOf cX5_restOf 2 1 1 := ⟨(jTB_at 461 rfl rfl), (jTB_at 462 rfl rfl), (jTB_at 463 rfl rfl), (jTB_at 123 rfl rfl), jTB_at 464 rfl rfl, ⟨by decide, by decide, by decide +kernel⟩⟩
def jE_Positions_without (F : Nat) : jxE := jmk [] [] [] [(48, (2, false), jca_Positions_endPart F), (52, (2, false), jca_Positions_firstPart F), (55, (2, false), jca_Positions_heapOf F), (58, (2, false), jca_Positions_restOf F)] 1 jc_P
set_option maxRecDepth 100000 in
set_option maxHeartbeats 4000000 in
theorem jmet_Positions_without (F : Nat) (sh : List jxC) (hs : jHas sh jc_P) (σ0 : jxS) (v1 : Int) (v2 : Int) (x : Int) (σ' : jxS) (h : Positions_without F σ0 v1 v2 = some (x, σ')) : jMC yX5_without cX5_without 4 (jrt 1) 2 41 sh σ0 [(jmr 22), (jmi v1), (jmi v2)] (jrv 1 x) σ' := by
  refine jMC_of (kd := 1) (by decide) rfl h ?_
  intro X hX
  have hG : jGd X (jE_Positions_without F) jtb_Positions_without := jGd_of hX jtk_Positions_without jnil jnil jnil (jcon (jsV jlk_X5_48 ⟨rfl, rfl⟩ (jad_Positions_endPart F sh hs)) (jcon (jsV jlk_X5_52 ⟨rfl, rfl⟩ (jad_Positions_firstPart F sh hs)) (jcon (jsV jlk_X5_55 ⟨rfl, rfl⟩ (jad_Positions_heapOf F sh hs)) (jcon (jsV jlk_X5_58 ⟨rfl, rfl⟩ (jad_Positions_restOf F sh hs)) jnil)))) hs
  have rr6 : ∀ (fu : Nat) (v1 v2 v3 : Int) (σ : jxS), jRf X (Positions_without_c6 F fu v1 v2 v3 σ) 6 [some (jmr 22), some (jmi v1), some (jmi v2), some (jmi v3)] [] σ := by
    intro  fu
    induction fu with
    | zero => intros; exact jRf_none
    | succ fu ih =>
      intro v1 v2 v3 σ
      exact jRf_by (jex_ok hG (cs := [(6, [some (.inr (some 22)), some (.inl 0), some (.inl 0), some (.inl 0)], [], fun xs σ => match xs with
      | [v1, v2, v3] => (Positions_without_c6 F fu) v1 v2 v3 σ
      | _ => none)]) (jcon (jl3 (fun y0 y1 y2 => jl0 (fun σ => ih y0 y1 y2 σ))) jnil) 25 6 [some (jmr 22), some (jmi v1), some (jmi v2), some (jmi v3)] [] σ) rfl
  exact jRf_by (jex_ok hG (cs := [(6, [some (.inr (some 22)), some (.inl 0), some (.inl 0), some (.inl 0)], [], fun xs σ => match xs with
      | [v1, v2, v3] => Positions_without_c6 F F v1 v2 v3 σ
      | _ => none)]) (jcon (jl3 (fun y0 y1 y2 => jl0 (fun σ => rr6 F y0 y1 y2 σ))) jnil) 25 0 [some (jmr 22), some (jmi v1), some (jmi v2), none] [] σ0) rfl
theorem jad_Positions_without (F : Nat) (sh : List jxC) (hs : jHas sh jc_P) : jAdV (jca_Positions_without F) yX5_without cX5_without 4 1 2 41 2 sh := by
  intro as σ k x σ' h
  unfold jca_Positions_without at h
  split at h
  · rename_i t0 v1 v2
    obtain ⟨g0, hh1⟩ := jcond h
    obtain rfl := jbeq g0
    obtain ⟨r, h1, h2⟩ := Option.bind_eq_some_iff.mp hh1
    exact ⟨_, _, h2, ⟨_, _, _, _, _, _, rfl, rfl, (hs _ (jkf_in (l := jc_P) (idx := 22) rfl)).1, rfl⟩, jmet_Positions_without F  sh hs σ v1 v2 r.1 r.2 h1⟩
  · cases h
def jtb_Positions_countOf : List (Nat × Instr) := [(0, .iconst 0), (1, .istore_n 3), (2, .aload_n 0), (3, .iload_n 1), (4, .iload_n 2), (5, .invokevirtual 68), (8, .istore 4), (10, .iconst 0), (11, .istore 5), (13, .iload 5), (15, .bipush 22), (17, .if_icmp .ge 26), (20, .iload 4), (22, .ifCond .lt 21), (25, .iinc 3 1), (28, .aload_n 0), (29, .iload 4), (31, .iload_n 2), (32, .invokevirtual 68), (35, .istore 4), (37, .iinc 5 1), (40, .goto (-27)), (43, .iload_n 3), (44, .ireturn)]
theorem jtk_Positions_countOf : jtok cX5_countOf jtb_Positions_countOf = true := by decide +kernel
set_option maxRecDepth 100000 in
theorem jlk_X5_68 : jLkV RX5 68 yX5_without cX5_without 4 1 2 := ⟨(jTB_at 881 rfl rfl), (jTB_at 882 rfl rfl), (jTB_at 883 rfl rfl), (jTB_at 123 rfl rfl), jTB_at 884 rfl rfl, ⟨by decide, by decide, by decide +kernel⟩⟩
def jE_Positions_countOf (F : Nat) : jxE := jmk [] [] [] [(68, (3, false), jca_Positions_without F)] 1 jc_P
set_option maxRecDepth 100000 in
set_option maxHeartbeats 4000000 in
theorem jmet_Positions_countOf (F : Nat) (sh : List jxC) (hs : jHas sh jc_P) (σ0 : jxS) (v1 : Int) (v2 : Int) (x : Int) (σ' : jxS) (h : Positions_countOf F σ0 v1 v2 = some (x, σ')) : jMC yX5_countOf cX5_countOf 6 (jrt 1) 3 64 sh σ0 [(jmr 22), (jmi v1), (jmi v2)] (jrv 1 x) σ' := by
  refine jMC_of (kd := 1) (by decide) rfl h ?_
  intro X hX
  have hG : jGd X (jE_Positions_countOf F) jtb_Positions_countOf := jGd_of hX jtk_Positions_countOf jnil jnil jnil (jcon (jsV jlk_X5_68 ⟨rfl, rfl⟩ (jad_Positions_without F sh hs)) jnil) hs
  have rr13 : ∀ (fu : Nat) (v2 v3 v4 v5 : Int) (σ : jxS), jRf X (Positions_countOf_c13 F fu v2 v3 v4 v5 σ) 13 [some (jmr 22), none, some (jmi v2), some (jmi v3), some (jmi v4), some (jmi v5)] [] σ := by
    intro  fu
    induction fu with
    | zero => intros; exact jRf_none
    | succ fu ih =>
      intro v2 v3 v4 v5 σ
      exact jRf_by (jex_ok hG (cs := [(13, [some (.inr (some 22)), none, some (.inl 0), some (.inl 0), some (.inl 0), some (.inl 0)], [], fun xs σ => match xs with
      | [v2, v3, v4, v5] => (Positions_countOf_c13 F fu) v2 v3 v4 v5 σ
      | _ => none)]) (jcon (jl4 (fun y0 y1 y2 y3 => jl0 (fun σ => ih y0 y1 y2 y3 σ))) jnil) 27 13 [some (jmr 22), none, some (jmi v2), some (jmi v3), some (jmi v4), some (jmi v5)] [] σ) rfl
  exact jRf_by (jex_ok hG (cs := [(13, [some (.inr (some 22)), none, some (.inl 0), some (.inl 0), some (.inl 0), some (.inl 0)], [], fun xs σ => match xs with
      | [v2, v3, v4, v5] => Positions_countOf_c13 F F v2 v3 v4 v5 σ
      | _ => none)]) (jcon (jl4 (fun y0 y1 y2 y3 => jl0 (fun σ => rr13 F y0 y1 y2 y3 σ))) jnil) 27 0 [some (jmr 22), some (jmi v1), some (jmi v2), none, none, none] [] σ0) rfl
theorem jad_Positions_countOf (F : Nat) (sh : List jxC) (hs : jHas sh jc_P) : jAdV (jca_Positions_countOf F) yX5_countOf cX5_countOf 6 1 3 64 2 sh := by
  intro as σ k x σ' h
  unfold jca_Positions_countOf at h
  split at h
  · rename_i t0 v1 v2
    obtain ⟨g0, hh1⟩ := jcond h
    obtain rfl := jbeq g0
    obtain ⟨r, h1, h2⟩ := Option.bind_eq_some_iff.mp hh1
    exact ⟨_, _, h2, ⟨_, _, _, _, _, _, rfl, rfl, (hs _ (jkf_in (l := jc_P) (idx := 22) rfl)).1, rfl⟩, jmet_Positions_countOf F  sh hs σ v1 v2 r.1 r.2 h1⟩
  · cases h
def jtb_Positions_tally : List (Nat × Instr) := [(0, .iload_n 2), (1, .ifCond .ne 11), (4, .aload_n 0), (5, .iload_n 1), (6, .invokevirtual 71), (9, .goto 9), (12, .aload_n 0), (13, .iload_n 1), (14, .iload_n 2), (15, .invokevirtual 74), (18, .ireturn)]
theorem jtk_Positions_tally : jtok cX5_tally jtb_Positions_tally = true := by decide +kernel
set_option maxRecDepth 100000 in
theorem jlk_X5_71 : jLkV RX5 71 yX5_beansOf cX5_beansOf 4 1 1 := ⟨(jTB_at 873 rfl rfl), (jTB_at 874 rfl rfl), (jTB_at 875 rfl rfl), (jTB_at 123 rfl rfl), jTB_at 876 rfl rfl, ⟨by decide, by decide, by decide +kernel⟩⟩
set_option maxRecDepth 100000 in
theorem jlk_X5_74 : jLkV RX5 74 yX5_countOf cX5_countOf 6 1 2 := ⟨(jTB_at 877 rfl rfl), (jTB_at 878 rfl rfl), (jTB_at 879 rfl rfl), (jTB_at 123 rfl rfl), jTB_at 880 rfl rfl, ⟨by decide, by decide, by decide +kernel⟩⟩
def jE_Positions_tally (F : Nat) : jxE := jmk [] [] [] [(71, (2, false), jca_Positions_beansOf F), (74, (3, false), jca_Positions_countOf F)] 1 jc_P
set_option maxRecDepth 100000 in
set_option maxHeartbeats 4000000 in
theorem jmet_Positions_tally (F : Nat) (sh : List jxC) (hs : jHas sh jc_P) (σ0 : jxS) (v1 : Int) (v2 : Int) (x : Int) (σ' : jxS) (h : Positions_tally F σ0 v1 v2 = some (x, σ')) : jMC yX5_tally cX5_tally 3 (jrt 1) 4 89 sh σ0 [(jmr 22), (jmi v1), (jmi v2)] (jrv 1 x) σ' := by
  refine jMC_of (kd := 1) (by decide) rfl h ?_
  intro X hX
  have hG : jGd X (jE_Positions_tally F) jtb_Positions_tally := jGd_of hX jtk_Positions_tally jnil jnil jnil (jcon (jsV jlk_X5_71 ⟨rfl, rfl⟩ (jad_Positions_beansOf F sh hs)) (jcon (jsV jlk_X5_74 ⟨rfl, rfl⟩ (jad_Positions_countOf F sh hs)) jnil)) hs
  exact jRf_by (jex_ok hG (cs := []) jnil 14 0 [some (jmr 22), some (jmi v1), some (jmi v2)] [] σ0) rfl
theorem jad_Positions_tally (F : Nat) (sh : List jxC) (hs : jHas sh jc_P) : jAdV (jca_Positions_tally F) yX5_tally cX5_tally 3 1 4 89 2 sh := by
  intro as σ k x σ' h
  unfold jca_Positions_tally at h
  split at h
  · rename_i t0 v1 v2
    obtain ⟨g0, hh1⟩ := jcond h
    obtain rfl := jbeq g0
    obtain ⟨r, h1, h2⟩ := Option.bind_eq_some_iff.mp hh1
    exact ⟨_, _, h2, ⟨_, _, _, _, _, _, rfl, rfl, (hs _ (jkf_in (l := jc_P) (idx := 22) rfl)).1, rfl⟩, jmet_Positions_tally F  sh hs σ v1 v2 r.1 r.2 h1⟩
  · cases h
def jtb_LL1_tallyOrNoSuch : List (Nat × Instr) := [(0, .aload_n 0), (1, .getfield 48), (4, .ifnull 7), (7, .iload_n 1), (8, .ifCond .ge 8), (11, .bipush (-2)), (13, .goto 15), (16, .aload_n 0), (17, .getfield 48), (20, .getfield 104), (23, .iload_n 1), (24, .iload_n 2), (25, .invokevirtual 153), (28, .ireturn)]
theorem jtk_LL1_tallyOrNoSuch : jtok cX11_tallyOrNoSuch jtb_LL1_tallyOrNoSuch = true := by decide +kernel
set_option maxRecDepth 100000 in
theorem jfl_X11_104 : jFl RX11 104 0 2 := ⟨RX0, TX0, 10, tyX0, rfl, by decide, jin_X0, tyX0_ok, nmX0, jow_X0, (Or.inr ⟨"LastLoses", (jNS_at 643 rfl rfl)⟩)⟩
set_option maxRecDepth 100000 in
theorem jlk_X11_153 : jLkV RX11 153 yX5_tally cX5_tally 3 1 2 := ⟨(jTB_at 869 rfl rfl), (jTB_at 870 rfl rfl), (jTB_at 871 rfl rfl), (jTB_at 123 rfl rfl), jTB_at 872 rfl rfl, ⟨by decide, by decide, by decide +kernel⟩⟩
def jE_LL1_tallyOrNoSuch (F : Nat) : jxE := jmk [(48, 11, 2), (104, 0, 2)] [] [] [(153, (3, false), jca_Positions_tally F)] 1 jc_L1
set_option maxRecDepth 100000 in
set_option maxHeartbeats 4000000 in
theorem jmet_LL1_tallyOrNoSuch (F : Nat) (sh : List jxC) (hs : jHas sh jc_L1) (σ0 : jxS) (v1 : Int) (v2 : Int) (x : Int) (σ' : jxS) (h : LL1_tallyOrNoSuch F σ0 v1 v2 = some (x, σ')) : jMC yX11_tallyOrNoSuch cX11_tallyOrNoSuch 3 (jrt 1) 5 111 sh σ0 [(jmr 0), (jmi v1), (jmi v2)] (jrv 1 x) σ' := by
  refine jMC_of (kd := 1) (by decide) rfl h ?_
  intro X hX
  have hG : jGd X (jE_LL1_tallyOrNoSuch F) jtb_LL1_tallyOrNoSuch := jGd_of hX jtk_LL1_tallyOrNoSuch (jcon jfl_X11_48 (jcon jfl_X11_104 jnil)) jnil jnil (jcon (jsV jlk_X11_153 ⟨rfl, rfl⟩ (jad_Positions_tally F sh (jh_L1P hs))) jnil) hs
  exact jRf_by (jex_ok hG (cs := []) jnil 17 0 [some (jmr 0), some (jmi v1), some (jmi v2)] [] σ0) rfl
theorem jad_LL1_tallyOrNoSuch (F : Nat) (sh : List jxC) (hs : jHas sh jc_L1) : jAdV (jca_LL1_tallyOrNoSuch F) yX11_tallyOrNoSuch cX11_tallyOrNoSuch 3 1 5 111 2 sh := by
  intro as σ k x σ' h
  unfold jca_LL1_tallyOrNoSuch at h
  split at h
  · rename_i t0 v1 v2
    obtain ⟨g0, hh1⟩ := jcond h
    obtain rfl := jbeq g0
    obtain ⟨r, h1, h2⟩ := Option.bind_eq_some_iff.mp hh1
    exact ⟨_, _, h2, ⟨_, _, _, _, _, _, rfl, rfl, (hs _ (jkf_in (l := jc_L1) (idx := 0) rfl)).1, rfl⟩, jmet_LL1_tallyOrNoSuch F  sh hs σ v1 v2 r.1 r.2 h1⟩
  · cases h
