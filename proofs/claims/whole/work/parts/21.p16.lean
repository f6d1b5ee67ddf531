/-! Contracts: Model_nimberOfHeaps Model_isLikeNim Model_genusOf Model_isTame Model_firstOdd Model_partOf Model_told Model_odd Model_wild Model_keepsAct Model_put Model_isMove Model_handNumber Model_move Model_firstReply Model_reply Model_clear Model_undo Model_hand Model_goodMoves Model_state Model_genus Model_playedOn -/
def jtb_Model_nimberOfHeaps : List (Nat × Instr) := [(0, .iconst 0), (1, .istore_n 2), (2, .iconst 1), (3, .istore_n 3), (4, .iload_n 3), (5, .bipush 12), (7, .if_icmp .gt 31), (10, .iload_n 2), (11, .aload_n 1), (12, .iload_n 3), (13, .iaload), (14, .iconst 2), (15, .irem), (16, .iconst 1), (17, .if_icmp .ne 12), (20, .aload_n 0), (21, .getfield 42), (24, .iload_n 3), (25, .iaload), (26, .goto 4), (29, .iconst 0), (30, .ixor), (31, .istore_n 2), (32, .iinc 3 1), (35, .goto (-31)), (38, .iload_n 2), (39, .ireturn)]
theorem jtk_Model_nimberOfHeaps : jtok cX12_nimberOfHeaps jtb_Model_nimberOfHeaps = true := by decide +kernel
def jE_Model_nimberOfHeaps (F : Nat) : jxE := jmk [(42, 12, 20)] [] [] [] 1 jc_M
set_option maxRecDepth 100000 in
set_option maxHeartbeats 4000000 in
theorem jmet_Model_nimberOfHeaps_20 (F : Nat) (sh : List jxC) (hs : jHas sh jc_M) (σ0 : jxS) (x : Int) (σ' : jxS) (h : Model_nimberOfHeaps F 20 σ0 = some (x, σ')) : jMC yX12_nimberOfHeaps cX12_nimberOfHeaps 4 (jrt 1) 0 0 sh σ0 [(jmr 0), (jmr 20)] (jrv 1 x) σ' := by
  refine jMC_of (kd := 1) (by decide) rfl h ?_
  intro X hX
  have hG : jGd X (jE_Model_nimberOfHeaps F) jtb_Model_nimberOfHeaps := jGd_of hX jtk_Model_nimberOfHeaps (jcon jfl_X12_42 jnil) jnil jnil jnil hs
  have rr4 : ∀ (fu : Nat) (v2 v3 : Int) (σ : jxS), jRf X (Model_nimberOfHeaps_c4 F 20 fu v2 v3 σ) 4 [some (jmr 0), some (jmr 20), some (jmi v2), some (jmi v3)] [] σ := by
    intro  fu
    induction fu with
    | zero => intros; exact jRf_none
    | succ fu ih =>
      intro v2 v3 σ
      exact jRf_by (jex_ok hG (cs := [(4, [some (.inr (some 0)), some (.inr (some 20)), some (.inl 0), some (.inl 0)], [], fun xs σ => match xs with
      | [v2, v3] => (Model_nimberOfHeaps_c4 F 20 fu) v2 v3 σ
      | _ => none)]) (jcon (jl2 (fun y0 y1 => jl0 (fun σ => ih y0 y1 σ))) jnil) 30 4 [some (jmr 0), some (jmr 20), some (jmi v2), some (jmi v3)] [] σ) rfl
  exact jRf_by (jex_ok hG (cs := [(4, [some (.inr (some 0)), some (.inr (some 20)), some (.inl 0), some (.inl 0)], [], fun xs σ => match xs with
      | [v2, v3] => Model_nimberOfHeaps_c4 F 20 F v2 v3 σ
      | _ => none)]) (jcon (jl2 (fun y0 y1 => jl0 (fun σ => rr4 F y0 y1 σ))) jnil) 30 0 [some (jmr 0), some (jmr 20), none, none] [] σ0) rfl
set_option maxRecDepth 100000 in
set_option maxHeartbeats 4000000 in
theorem jmet_Model_nimberOfHeaps_24 (F : Nat) (sh : List jxC) (hs : jHas sh jc_M) (σ0 : jxS) (x : Int) (σ' : jxS) (h : Model_nimberOfHeaps F 24 σ0 = some (x, σ')) : jMC yX12_nimberOfHeaps cX12_nimberOfHeaps 4 (jrt 1) 0 0 sh σ0 [(jmr 0), (jmr 24)] (jrv 1 x) σ' := by
  refine jMC_of (kd := 1) (by decide) rfl h ?_
  intro X hX
  have hG : jGd X (jE_Model_nimberOfHeaps F) jtb_Model_nimberOfHeaps := jGd_of hX jtk_Model_nimberOfHeaps (jcon jfl_X12_42 jnil) jnil jnil jnil hs
  have rr4 : ∀ (fu : Nat) (v2 v3 : Int) (σ : jxS), jRf X (Model_nimberOfHeaps_c4 F 24 fu v2 v3 σ) 4 [some (jmr 0), some (jmr 24), some (jmi v2), some (jmi v3)] [] σ := by
    intro  fu
    induction fu with
    | zero => intros; exact jRf_none
    | succ fu ih =>
      intro v2 v3 σ
      exact jRf_by (jex_ok hG (cs := [(4, [some (.inr (some 0)), some (.inr (some 24)), some (.inl 0), some (.inl 0)], [], fun xs σ => match xs with
      | [v2, v3] => (Model_nimberOfHeaps_c4 F 24 fu) v2 v3 σ
      | _ => none)]) (jcon (jl2 (fun y0 y1 => jl0 (fun σ => ih y0 y1 σ))) jnil) 30 4 [some (jmr 0), some (jmr 24), some (jmi v2), some (jmi v3)] [] σ) rfl
  exact jRf_by (jex_ok hG (cs := [(4, [some (.inr (some 0)), some (.inr (some 24)), some (.inl 0), some (.inl 0)], [], fun xs σ => match xs with
      | [v2, v3] => Model_nimberOfHeaps_c4 F 24 F v2 v3 σ
      | _ => none)]) (jcon (jl2 (fun y0 y1 => jl0 (fun σ => rr4 F y0 y1 σ))) jnil) 30 0 [some (jmr 0), some (jmr 24), none, none] [] σ0) rfl
theorem jmet_Model_nimberOfHeaps (F : Nat) (a1 : Nat) (ha1 : a1 ∈ jids_Model_nimberOfHeaps_a1) (sh : List jxC) (hs : jHas sh jc_M) (σ0 : jxS) (x : Int) (σ' : jxS) (h : Model_nimberOfHeaps F a1 σ0 = some (x, σ')) : jMC yX12_nimberOfHeaps cX12_nimberOfHeaps 4 (jrt 1) 0 0 sh σ0 [(jmr 0), (jmr a1)] (jrv 1 x) σ' := by
  simp only [jids_Model_nimberOfHeaps_a1, List.mem_cons, List.not_mem_nil, or_false] at ha1
  rcases ha1 with rfl | rfl
  · exact jmet_Model_nimberOfHeaps_20 F sh hs σ0  x σ' h
  · exact jmet_Model_nimberOfHeaps_24 F sh hs σ0  x σ' h
theorem jad_Model_nimberOfHeaps (F : Nat) (sh : List jxC) (hs : jHas sh jc_M) : jAdV (jca_Model_nimberOfHeaps F) yX12_nimberOfHeaps cX12_nimberOfHeaps 4 1 0 0 1 sh := by
  intro as σ k x σ' h
  unfold jca_Model_nimberOfHeaps at h
  split at h
  · rename_i t0 t1
    obtain ⟨g0, hh1⟩ := jcond h
    obtain rfl := jbeq g0
    obtain ⟨g1, hh2⟩ := jcond hh1
    have g1 := jin_of g1
    obtain ⟨r, h1, h2⟩ := Option.bind_eq_some_iff.mp hh2
    exact ⟨_, _, h2, ⟨_, _, _, _, _, _, rfl, rfl, (hs _ (jkf_in (l := jc_M) (idx := 0) rfl)).1, rfl⟩, jmet_Model_nimberOfHeaps F t1 g1 sh hs σ  r.1 r.2 h1⟩
  · cases h
def jtb_Model_isLikeNim : List (Nat × Instr) := [(0, .iconst 1), (1, .istore_n 3), (2, .iconst 1), (3, .istore 4), (5, .iload 4), (7, .bipush 12), (9, .if_icmp .gt 37), (12, .iload_n 3), (13, .ifCond .eq 25), (16, .aload_n 2), (17, .iload 4), (19, .iaload), (20, .ifCond .eq 14), (23, .aload_n 0), (24, .getfield 42), (27, .iload 4), (29, .iaload), (30, .iconst 2), (31, .if_icmp .ge 7), (34, .iconst 1), (35, .goto 4), (38, .iconst 0), (39, .istore_n 3), (40, .iinc 4 1), (43, .goto (-38)), (46, .aload_n 0), (47, .getfield 54), (50, .iload_n 1), (51, .baload), (52, .aload_n 0), (53, .aload_n 2), (54, .invokevirtual 294), (57, .iload_n 3), (58, .ifCond .eq 7), (61, .iconst 1), (62, .goto 4), (65, .iconst 0), (66, .if_icmp .ne 7), (69, .iconst 1), (70, .goto 4), (73, .iconst 0), (74, .if_icmp .ne 7), (77, .iconst 1), (78, .goto 4), (81, .iconst 0), (82, .ireturn)]
theorem jtk_Model_isLikeNim : jtok cX12_isLikeNim jtb_Model_isLikeNim = true := by decide +kernel
set_option maxRecDepth 100000 in
theorem jlk_X12_294 : jLkV RX12 294 yX12_nimberOfHeaps cX12_nimberOfHeaps 4 1 1 := ⟨(jTB_at 1676 rfl rfl), (jTB_at 1678 rfl rfl), (jTB_at 76 rfl rfl), (jTB_at 115 rfl rfl), jTB_at 1679 rfl rfl, ⟨by decide, by decide, by decide +kernel⟩⟩
def jE_Model_isLikeNim (F : Nat) : jxE := jmk [(42, 12, 20), (54, 12, 25)] [] [] [(294, (2, false), jca_Model_nimberOfHeaps F)] 4 jc_M
set_option maxRecDepth 100000 in
set_option maxHeartbeats 4000000 in
theorem jmet_Model_isLikeNim_20 (F : Nat) (sh : List jxC) (hs : jHas sh jc_M) (σ0 : jxS) (v1 : Int) (x : Int) (σ' : jxS) (h : Model_isLikeNim F 20 σ0 v1 = some (x, σ')) : jMC yX12_isLikeNim cX12_isLikeNim 5 (jrt 4) 1 23 sh σ0 [(jmr 0), (jmi v1), (jmr 20)] (jrv 4 x) σ' := by
  refine jMC_of (kd := 4) (by decide) rfl h ?_
  intro X hX
  have hG : jGd X (jE_Model_isLikeNim F) jtb_Model_isLikeNim := jGd_of hX jtk_Model_isLikeNim (jcon jfl_X12_42 (jcon jfl_X12_54 jnil)) jnil jnil (jcon (jsV jlk_X12_294 ⟨rfl, rfl⟩ (jad_Model_nimberOfHeaps F sh hs)) jnil) hs
  have rr74 : ∀ (t0 t1 : Int) (σ : jxS), jRf X (Model_isLikeNim_c74 F 20 t0 t1 σ) 74 [none, none, none, none, none] [(jmi t0), (jmi t1)] σ := by
    intro  t0 t1 σ
    exact jRf_by (jex_ok hG (cs := []) jnil 49 74 [none, none, none, none, none] [(jmi t0), (jmi t1)] σ) rfl
  have rr66 : ∀ (t0 t1 t2 : Int) (σ : jxS), jRf X (Model_isLikeNim_c66 F 20 t0 t1 t2 σ) 66 [none, none, none, none, none] [(jmi t0), (jmi t1), (jmi t2)] σ := by
    intro  t0 t1 t2 σ
    exact jRf_by (jex_ok hG (cs := [(74, [none, none, none, none, none], [(.inl 0), (.inl 0)], fun xs σ => match xs with
      | [t0, t1] => Model_isLikeNim_c74 F 20 t0 t1 σ
      | _ => none)]) (jcon (jl0 (jl2 (fun y0 y1 => (fun σ => rr74 y0 y1 σ)))) jnil) 49 66 [none, none, none, none, none] [(jmi t0), (jmi t1), (jmi t2)] σ) rfl
  have rr5 : ∀ (fu : Nat) (v1 v3 v4 : Int) (σ : jxS), jRf X (Model_isLikeNim_c5 F 20 fu v1 v3 v4 σ) 5 [some (jmr 0), some (jmi v1), some (jmr 20), some (jmi v3), some (jmi v4)] [] σ := by
    intro  fu
    induction fu with
    | zero => intros; exact jRf_none
    | succ fu ih =>
      intro v1 v3 v4 σ
      exact jRf_by (jex_ok hG (cs := [(5, [some (.inr (some 0)), some (.inl 0), some (.inr (some 20)), some (.inl 0), some (.inl 0)], [], fun xs σ => match xs with
      | [v1, v3, v4] => (Model_isLikeNim_c5 F 20 fu) v1 v3 v4 σ
      | _ => none), (66, [none, none, none, none, none], [(.inl 0), (.inl 0), (.inl 0)], fun xs σ => match xs with
      | [t0, t1, t2] => Model_isLikeNim_c66 F 20 t0 t1 t2 σ
      | _ => none)]) (jcon (jl3 (fun y0 y1 y2 => jl0 (fun σ => ih y0 y1 y2 σ))) (jcon (jl0 (jl3 (fun y0 y1 y2 => (fun σ => rr66 y0 y1 y2 σ)))) jnil)) 49 5 [some (jmr 0), some (jmi v1), some (jmr 20), some (jmi v3), some (jmi v4)] [] σ) rfl
  exact jRf_by (jex_ok hG (cs := [(5, [some (.inr (some 0)), some (.inl 0), some (.inr (some 20)), some (.inl 0), some (.inl 0)], [], fun xs σ => match xs with
      | [v1, v3, v4] => Model_isLikeNim_c5 F 20 F v1 v3 v4 σ
      | _ => none)]) (jcon (jl3 (fun y0 y1 y2 => jl0 (fun σ => rr5 F y0 y1 y2 σ))) jnil) 49 0 [some (jmr 0), some (jmi v1), some (jmr 20), none, none] [] σ0) rfl
set_option maxRecDepth 100000 in
set_option maxHeartbeats 4000000 in
theorem jmet_Model_isLikeNim_24 (F : Nat) (sh : List jxC) (hs : jHas sh jc_M) (σ0 : jxS) (v1 : Int) (x : Int) (σ' : jxS) (h : Model_isLikeNim F 24 σ0 v1 = some (x, σ')) : jMC yX12_isLikeNim cX12_isLikeNim 5 (jrt 4) 1 23 sh σ0 [(jmr 0), (jmi v1), (jmr 24)] (jrv 4 x) σ' := by
  refine jMC_of (kd := 4) (by decide) rfl h ?_
  intro X hX
  have hG : jGd X (jE_Model_isLikeNim F) jtb_Model_isLikeNim := jGd_of hX jtk_Model_isLikeNim (jcon jfl_X12_42 (jcon jfl_X12_54 jnil)) jnil jnil (jcon (jsV jlk_X12_294 ⟨rfl, rfl⟩ (jad_Model_nimberOfHeaps F sh hs)) jnil) hs
  have rr74 : ∀ (t0 t1 : Int) (σ : jxS), jRf X (Model_isLikeNim_c74 F 24 t0 t1 σ) 74 [none, none, none, none, none] [(jmi t0), (jmi t1)] σ := by
    intro  t0 t1 σ
    exact jRf_by (jex_ok hG (cs := []) jnil 49 74 [none, none, none, none, none] [(jmi t0), (jmi t1)] σ) rfl
  have rr66 : ∀ (t0 t1 t2 : Int) (σ : jxS), jRf X (Model_isLikeNim_c66 F 24 t0 t1 t2 σ) 66 [none, none, none, none, none] [(jmi t0), (jmi t1), (jmi t2)] σ := by
    intro  t0 t1 t2 σ
    exact jRf_by (jex_ok hG (cs := [(74, [none, none, none, none, none], [(.inl 0), (.inl 0)], fun xs σ => match xs with
      | [t0, t1] => Model_isLikeNim_c74 F 24 t0 t1 σ
      | _ => none)]) (jcon (jl0 (jl2 (fun y0 y1 => (fun σ => rr74 y0 y1 σ)))) jnil) 49 66 [none, none, none, none, none] [(jmi t0), (jmi t1), (jmi t2)] σ) rfl
  have rr5 : ∀ (fu : Nat) (v1 v3 v4 : Int) (σ : jxS), jRf X (Model_isLikeNim_c5 F 24 fu v1 v3 v4 σ) 5 [some (jmr 0), some (jmi v1), some (jmr 24), some (jmi v3), some (jmi v4)] [] σ := by
    intro  fu
    induction fu with
    | zero => intros; exact jRf_none
    | succ fu ih =>
      intro v1 v3 v4 σ
      exact jRf_by (jex_ok hG (cs := [(5, [some (.inr (some 0)), some (.inl 0), some (.inr (some 24)), some (.inl 0), some (.inl 0)], [], fun xs σ => match xs with
      | [v1, v3, v4] => (Model_isLikeNim_c5 F 24 fu) v1 v3 v4 σ
      | _ => none), (66, [none, none, none, none, none], [(.inl 0), (.inl 0), (.inl 0)], fun xs σ => match xs with
      | [t0, t1, t2] => Model_isLikeNim_c66 F 24 t0 t1 t2 σ
      | _ => none)]) (jcon (jl3 (fun y0 y1 y2 => jl0 (fun σ => ih y0 y1 y2 σ))) (jcon (jl0 (jl3 (fun y0 y1 y2 => (fun σ => rr66 y0 y1 y2 σ)))) jnil)) 49 5 [some (jmr 0), some (jmi v1), some (jmr 24), some (jmi v3), some (jmi v4)] [] σ) rfl
  exact jRf_by (jex_ok hG (cs := [(5, [some (.inr (some 0)), some (.inl 0), some (.inr (some 24)), some (.inl 0), some (.inl 0)], [], fun xs σ => match xs with
      | [v1, v3, v4] => Model_isLikeNim_c5 F 24 F v1 v3 v4 σ
      | _ => none)]) (jcon (jl3 (fun y0 y1 y2 => jl0 (fun σ => rr5 F y0 y1 y2 σ))) jnil) 49 0 [some (jmr 0), some (jmi v1), some (jmr 24), none, none] [] σ0) rfl
theorem jmet_Model_isLikeNim (F : Nat) (a2 : Nat) (ha2 : a2 ∈ jids_Model_isLikeNim_a2) (sh : List jxC) (hs : jHas sh jc_M) (σ0 : jxS) (v1 : Int) (x : Int) (σ' : jxS) (h : Model_isLikeNim F a2 σ0 v1 = some (x, σ')) : jMC yX12_isLikeNim cX12_isLikeNim 5 (jrt 4) 1 23 sh σ0 [(jmr 0), (jmi v1), (jmr a2)] (jrv 4 x) σ' := by
  simp only [jids_Model_isLikeNim_a2, List.mem_cons, List.not_mem_nil, or_false] at ha2
  rcases ha2 with rfl | rfl
  · exact jmet_Model_isLikeNim_20 F sh hs σ0 v1 x σ' h
  · exact jmet_Model_isLikeNim_24 F sh hs σ0 v1 x σ' h
theorem jad_Model_isLikeNim (F : Nat) (sh : List jxC) (hs : jHas sh jc_M) : jAdV (jca_Model_isLikeNim F) yX12_isLikeNim cX12_isLikeNim 5 4 1 23 2 sh := by
  intro as σ k x σ' h
  unfold jca_Model_isLikeNim at h
  split at h
  · rename_i t0 v1 t1
    obtain ⟨g0, hh1⟩ := jcond h
    obtain rfl := jbeq g0
    obtain ⟨g1, hh2⟩ := jcond hh1
    have g1 := jin_of g1
    obtain ⟨r, h1, h2⟩ := Option.bind_eq_some_iff.mp hh2
    exact ⟨_, _, h2, ⟨_, _, _, _, _, _, rfl, rfl, (hs _ (jkf_in (l := jc_M) (idx := 0) rfl)).1, rfl⟩, jmet_Model_isLikeNim F t1 g1 sh hs σ v1 r.1 r.2 h1⟩
  · cases h
def jtb_Model_genusOf : List (Nat × Instr) := [(0, .aload_n 0), (1, .getfield 66), (4, .bipush 6), (6, .iload_n 1), (7, .imul), (8, .iload_n 2), (9, .ifCond .ne 7), (12, .iconst 0), (13, .goto 13), (16, .iload_n 2), (17, .iconst 1), (18, .if_icmp .ne 7), (21, .iconst 3), (22, .goto 4), (25, .iconst 5), (26, .iadd), (27, .iaload), (28, .ireturn)]
theorem jtk_Model_genusOf : jtok cX12_genusOf jtb_Model_genusOf = true := by decide +kernel
def jE_Model_genusOf (F : Nat) : jxE := jmk [(66, 12, 29)] [] [] [] 1 jc_M
set_option maxRecDepth 100000 in
set_option maxHeartbeats 4000000 in
theorem jmet_Model_genusOf (F : Nat) (sh : List jxC) (hs : jHas sh jc_M) (σ0 : jxS) (v1 : Int) (v2 : Int) (x : Int) (σ' : jxS) (h : Model_genusOf F σ0 v1 v2 = some (x, σ')) : jMC yX12_genusOf cX12_genusOf 3 (jrt 1) 0 0 sh σ0 [(jmr 0), (jmi v1), (jmi v2)] (jrv 1 x) σ' := by
  refine jMC_of (kd := 1) (by decide) rfl h ?_
  intro X hX
  have hG : jGd X (jE_Model_genusOf F) jtb_Model_genusOf := jGd_of hX jtk_Model_genusOf (jcon jfl_X12_66 jnil) jnil jnil jnil hs
  exact jRf_by (jex_ok hG (cs := []) jnil 21 0 [some (jmr 0), some (jmi v1), some (jmi v2)] [] σ0) rfl
theorem jad_Model_genusOf (F : Nat) (sh : List jxC) (hs : jHas sh jc_M) : jAdV (jca_Model_genusOf F) yX12_genusOf cX12_genusOf 3 1 0 0 2 sh := by
  intro as σ k x σ' h
  unfold jca_Model_genusOf at h
  split at h
  · rename_i t0 v1 v2
    obtain ⟨g0, hh1⟩ := jcond h
    obtain rfl := jbeq g0
    obtain ⟨r, h1, h2⟩ := Option.bind_eq_some_iff.mp hh1
    exact ⟨_, _, h2, ⟨_, _, _, _, _, _, rfl, rfl, (hs _ (jkf_in (l := jc_M) (idx := 0) rfl)).1, rfl⟩, jmet_Model_genusOf F  sh hs σ v1 v2 r.1 r.2 h1⟩
  · cases h
def jtb_Model_isTame : List (Nat × Instr) := [(0, .aload_n 0), (1, .iload_n 1), (2, .iconst 0), (3, .invokevirtual 290), (6, .istore_n 3), (7, .aload_n 0), (8, .iload_n 1), (9, .iconst 1), (10, .invokevirtual 290), (13, .istore 4), (15, .aload_n 0), (16, .iload_n 1), (17, .iconst 2), (18, .invokevirtual 290), (21, .istore 5), (23, .iload_n 3), (24, .iload_n 2), (25, .if_icmp .ne 17), (28, .iload 4), (30, .iload_n 2), (31, .iconst 2), (32, .ixor), (33, .if_icmp .ne 9), (36, .iload 5), (38, .iload_n 2), (39, .if_icmp .eq 44), (42, .iload_n 2), (43, .ifCond .ne 19), (46, .iload_n 3), (47, .iconst 1), (48, .if_icmp .ne 14), (51, .iload 4), (53, .iconst 2), (54, .if_icmp .ne 8), (57, .iload 5), (59, .ifCond .eq 24), (62, .iload_n 2), (63, .iconst 1), (64, .if_icmp .ne 23), (67, .iload_n 3), (68, .ifCond .ne 19), (71, .iload 4), (73, .iconst 3), (74, .if_icmp .ne 13), (77, .iload 5), (79, .iconst 1), (80, .if_icmp .ne 7), (83, .iconst 1), (84, .goto 4), (87, .iconst 0), (88, .ireturn)]
theorem jtk_Model_isTame : jtok cX12_isTame jtb_Model_isTame = true := by decide +kernel
set_option maxRecDepth 100000 in
theorem jlk_X12_290 : jLkV RX12 290 yX12_genusOf cX12_genusOf 3 1 2 := ⟨(jTB_at 1684 rfl rfl), (jTB_at 1686 rfl rfl), (jTB_at 78 rfl rfl), (jTB_at 115 rfl rfl), jTB_at 1687 rfl rfl, ⟨by decide, by decide, by decide +kernel⟩⟩
def jE_Model_isTame (F : Nat) : jxE := jmk [] [] [] [(290, (3, false), jca_Model_genusOf F)] 4 jc_M
set_option maxRecDepth 100000 in
set_option maxHeartbeats 4000000 in
theorem jmet_Model_isTame (F : Nat) (sh : List jxC) (hs : jHas sh jc_M) (σ0 : jxS) (v1 : Int) (v2 : Int) (x : Int) (σ' : jxS) (h : Model_isTame F σ0 v1 v2 = some (x, σ')) : jMC yX12_isTame cX12_isTame 6 (jrt 4) 1 22 sh σ0 [(jmr 0), (jmi v1), (jmi v2)] (jrv 4 x) σ' := by
  refine jMC_of (kd := 4) (by decide) rfl h ?_
  intro X hX
  have hG : jGd X (jE_Model_isTame F) jtb_Model_isTame := jGd_of hX jtk_Model_isTame jnil jnil jnil (jcon (jsV jlk_X12_290 ⟨rfl, rfl⟩ (jad_Model_genusOf F sh hs)) jnil) hs
  have rr62 : ∀ (v2 v3 v4 v5 : Int) (σ : jxS), jRf X (Model_isTame_c62 F v2 v3 v4 v5 σ) 62 [none, none, some (jmi v2), some (jmi v3), some (jmi v4), some (jmi v5)] [] σ := by
    intro  v2 v3 v4 v5 σ
    exact jRf_by (jex_ok hG (cs := []) jnil 54 62 [none, none, some (jmi v2), some (jmi v3), some (jmi v4), some (jmi v5)] [] σ) rfl
  have rr42 : ∀ (v2 v3 v4 v5 : Int) (σ : jxS), jRf X (Model_isTame_c42 F v2 v3 v4 v5 σ) 42 [none, none, some (jmi v2), some (jmi v3), some (jmi v4), some (jmi v5)] [] σ := by
    intro  v2 v3 v4 v5 σ
    exact jRf_by (jex_ok hG (cs := [(62, [none, none, some (.inl 0), some (.inl 0), some (.inl 0), some (.inl 0)], [], fun xs σ => match xs with
      | [v2, v3, v4, v5] => Model_isTame_c62 F v2 v3 v4 v5 σ
      | _ => none)]) (jcon (jl4 (fun y0 y1 y2 y3 => jl0 (fun σ => rr62 y0 y1 y2 y3 σ))) jnil) 54 42 [none, none, some (jmi v2), some (jmi v3), some (jmi v4), some (jmi v5)] [] σ) rfl
  exact jRf_by (jex_ok hG (cs := [(42, [none, none, some (.inl 0), some (.inl 0), some (.inl 0), some (.inl 0)], [], fun xs σ => match xs with
      | [v2, v3, v4, v5] => Model_isTame_c42 F v2 v3 v4 v5 σ
      | _ => none)]) (jcon (jl4 (fun y0 y1 y2 y3 => jl0 (fun σ => rr42 y0 y1 y2 y3 σ))) jnil) 54 0 [some (jmr 0), some (jmi v1), some (jmi v2), none, none, none] [] σ0) rfl
theorem jad_Model_isTame (F : Nat) (sh : List jxC) (hs : jHas sh jc_M) : jAdV (jca_Model_isTame F) yX12_isTame cX12_isTame 6 4 1 22 2 sh := by
  intro as σ k x σ' h
  unfold jca_Model_isTame at h
  split at h
  · rename_i t0 v1 v2
    obtain ⟨g0, hh1⟩ := jcond h
    obtain rfl := jbeq g0
    obtain ⟨r, h1, h2⟩ := Option.bind_eq_some_iff.mp hh1
    exact ⟨_, _, h2, ⟨_, _, _, _, _, _, rfl, rfl, (hs _ (jkf_in (l := jc_M) (idx := 0) rfl)).1, rfl⟩, jmet_Model_isTame F  sh hs σ v1 v2 r.1 r.2 h1⟩
  · cases h
def jtb_Model_firstOdd : List (Nat × Instr) := [(0, .iconst 0), (1, .istore_n 2), (2, .iload_n 2), (3, .aload_n 0), (4, .getfield 51), (7, .bipush 13), (9, .iaload), (10, .if_icmp .ge 55), (13, .aload_n 0), (14, .iload_n 2), (15, .aload_n 0), (16, .getfield 69), (19, .invokevirtual 276), (22, .iload_n 1), (23, .ifCond .eq 22), (26, .aload_n 0), (27, .iload_n 2), (28, .aload_n 0), (29, .aload_n 0), (30, .getfield 69), (33, .invokevirtual 294), (36, .invokevirtual 297), (39, .ifCond .ne 20), (42, .goto 15), (45, .aload_n 0), (46, .iload_n 2), (47, .aload_n 0), (48, .getfield 69), (51, .invokevirtual 300), (54, .ifCond .ne 5), (57, .iload_n 2), (58, .ireturn), (59, .iinc 2 1), (62, .goto (-60)), (65, .iconst (-1)), (66, .ireturn)]
theorem jtk_Model_firstOdd : jtok cX12_firstOdd jtb_Model_firstOdd = true := by decide +kernel
set_option maxRecDepth 100000 in
theorem jlk_X12_297 : jLkV RX12 297 yX12_isTame cX12_isTame 6 4 2 := ⟨(jTB_at 1680 rfl rfl), (jTB_at 1682 rfl rfl), (jTB_at 77 rfl rfl), (jTB_at 115 rfl rfl), jTB_at 1683 rfl rfl, ⟨by decide, by decide, by decide +kernel⟩⟩
set_option maxRecDepth 100000 in
theorem jlk_X12_300 : jLkV RX12 300 yX12_isLikeNim cX12_isLikeNim 5 4 2 := ⟨(jTB_at 1688 rfl rfl), (jTB_at 1690 rfl rfl), (jTB_at 79 rfl rfl), (jTB_at 115 rfl rfl), jTB_at 1691 rfl rfl, ⟨by decide, by decide, by decide +kernel⟩⟩
def jE_Model_firstOdd (F : Nat) : jxE := jmk [(51, 12, 23), (69, 12, 30)] [] [] [(276, (3, false), jca_Model_laysHeaps F), (294, (2, false), jca_Model_nimberOfHeaps F), (297, (3, false), jca_Model_isTame F), (300, (3, false), jca_Model_isLikeNim F)] 1 jc_M
set_option maxRecDepth 100000 in
set_option maxHeartbeats 4000000 in
theorem jmet_Model_firstOdd (F : Nat) (sh : List jxC) (hs : jHas sh jc_M) (σ0 : jxS) (v1 : Int) (x : Int) (σ' : jxS) (h : Model_firstOdd F σ0 v1 = some (x, σ')) : jMC yX12_firstOdd cX12_firstOdd 3 (jrt 1) 2 47 sh σ0 [(jmr 0), (jmi v1)] (jrv 1 x) σ' := by
  refine jMC_of (kd := 1) (by decide) rfl h ?_
  intro X hX
  have hG : jGd X (jE_Model_firstOdd F) jtb_Model_firstOdd := jGd_of hX jtk_Model_firstOdd (jcon jfl_X12_51 (jcon jfl_X12_69 jnil)) jnil jnil (jcon (jsV jlk_X12_276 ⟨rfl, rfl⟩ (jad_Model_laysHeaps F sh hs)) (jcon (jsV jlk_X12_294 ⟨rfl, rfl⟩ (jad_Model_nimberOfHeaps F sh hs)) (jcon (jsV jlk_X12_297 ⟨rfl, rfl⟩ (jad_Model_isTame F sh hs)) (jcon (jsV jlk_X12_300 ⟨rfl, rfl⟩ (jad_Model_isLikeNim F sh hs)) jnil)))) hs
  have rr2 : ∀ (fu : Nat) (v1 v2 : Int) (σ : jxS), jRf X (Model_firstOdd_c2 F fu v1 v2 σ) 2 [some (jmr 0), some (jmi v1), some (jmi v2)] [] σ := by
    intro  fu
    induction fu with
    | zero => intros; exact jRf_none
    | succ fu ih =>
      intro v1 v2 σ
      exact jRf_by (jex_ok hG (cs := [(2, [some (.inr (some 0)), some (.inl 0), some (.inl 0)], [], fun xs σ => match xs with
      | [v1, v2] => (Model_firstOdd_c2 F fu) v1 v2 σ
      | _ => none)]) (jcon (jl2 (fun y0 y1 => jl0 (fun σ => ih y0 y1 σ))) jnil) 39 2 [some (jmr 0), some (jmi v1), some (jmi v2)] [] σ) rfl
  exact jRf_by (jex_ok hG (cs := [(2, [some (.inr (some 0)), some (.inl 0), some (.inl 0)], [], fun xs σ => match xs with
      | [v1, v2] => Model_firstOdd_c2 F F v1 v2 σ
      | _ => none)]) (jcon (jl2 (fun y0 y1 => jl0 (fun σ => rr2 F y0 y1 σ))) jnil) 39 0 [some (jmr 0), some (jmi v1), none] [] σ0) rfl
theorem jad_Model_firstOdd (F : Nat) (sh : List jxC) (hs : jHas sh jc_M) : jAdV (jca_Model_firstOdd F) yX12_firstOdd cX12_firstOdd 3 1 2 47 1 sh := by
  intro as σ k x σ' h
  unfold jca_Model_firstOdd at h
  split at h
  · rename_i t0 v1
    obtain ⟨g0, hh1⟩ := jcond h
    obtain rfl := jbeq g0
    obtain ⟨r, h1, h2⟩ := Option.bind_eq_some_iff.mp hh1
    exact ⟨_, _, h2, ⟨_, _, _, _, _, _, rfl, rfl, (hs _ (jkf_in (l := jc_M) (idx := 0) rfl)).1, rfl⟩, jmet_Model_firstOdd F  sh hs σ v1 r.1 r.2 h1⟩
  · cases h
def jtb_Model_partOf : List (Nat × Instr) := [(0, .aload_n 0), (1, .iload_n 1), (2, .aload_n 0), (3, .getfield 69), (6, .invokevirtual 276), (9, .iload_n 2), (10, .ifCond .ne 13), (13, .aload_n 0), (14, .getfield 69), (17, .invokestatic 254), (20, .goto 9), (23, .aload_n 0), (24, .getfield 69), (27, .iload_n 2), (28, .iaload), (29, .ireturn)]
theorem jtk_Model_partOf : jtok cX12_partOf jtb_Model_partOf = true := by decide +kernel
def jE_Model_partOf (F : Nat) : jxE := jmk [(69, 12, 30)] [] [] [(254, (1, true), jca_Model_beansOf F), (276, (3, false), jca_Model_laysHeaps F)] 1 jc_M
set_option maxRecDepth 100000 in
set_option maxHeartbeats 4000000 in
theorem jmet_Model_partOf (F : Nat) (sh : List jxC) (hs : jHas sh jc_M) (σ0 : jxS) (v1 : Int) (v2 : Int) (x : Int) (σ' : jxS) (h : Model_partOf F σ0 v1 v2 = some (x, σ')) : jMC yX12_partOf cX12_partOf 3 (jrt 1) 1 26 sh σ0 [(jmr 0), (jmi v1), (jmi v2)] (jrv 1 x) σ' := by
  refine jMC_of (kd := 1) (by decide) rfl h ?_
  intro X hX
  have hG : jGd X (jE_Model_partOf F) jtb_Model_partOf := jGd_of hX jtk_Model_partOf (jcon jfl_X12_69 jnil) jnil jnil (jcon (jsS jlk_X12_254 ⟨rfl, rfl⟩ (jad_Model_beansOf F sh hs)) (jcon (jsV jlk_X12_276 ⟨rfl, rfl⟩ (jad_Model_laysHeaps F sh hs)) jnil)) hs
  exact jRf_by (jex_ok hG (cs := []) jnil 19 0 [some (jmr 0), some (jmi v1), some (jmi v2)] [] σ0) rfl
theorem jad_Model_partOf (F : Nat) (sh : List jxC) (hs : jHas sh jc_M) : jAdV (jca_Model_partOf F) yX12_partOf cX12_partOf 3 1 1 26 2 sh := by
  intro as σ k x σ' h
  unfold jca_Model_partOf at h
  split at h
  · rename_i t0 v1 v2
    obtain ⟨g0, hh1⟩ := jcond h
    obtain rfl := jbeq g0
    obtain ⟨r, h1, h2⟩ := Option.bind_eq_some_iff.mp hh1
    exact ⟨_, _, h2, ⟨_, _, _, _, _, _, rfl, rfl, (hs _ (jkf_in (l := jc_M) (idx := 0) rfl)).1, rfl⟩, jmet_Model_partOf F  sh hs σ v1 v2 r.1 r.2 h1⟩
  · cases h
def jtb_Model_told : List (Nat × Instr) := [(0, .iload_n 1), (1, .ifCond .ge 8), (4, .bipush (-2)), (6, .goto 9), (9, .aload_n 0), (10, .iload_n 1), (11, .iload_n 2), (12, .invokevirtual 312), (15, .ireturn)]
theorem jtk_Model_told : jtok cX12_told jtb_Model_told = true := by decide +kernel
set_option maxRecDepth 100000 in
theorem jlk_X12_312 : jLkV RX12 312 yX12_partOf cX12_partOf 3 1 2 := ⟨(jTB_at 1696 rfl rfl), (jTB_at 1698 rfl rfl), (jTB_at 81 rfl rfl), (jTB_at 115 rfl rfl), jTB_at 1699 rfl rfl, ⟨by decide, by decide, by decide +kernel⟩⟩
def jE_Model_told (F : Nat) : jxE := jmk [] [] [] [(312, (3, false), jca_Model_partOf F)] 1 jc_M
set_option maxRecDepth 100000 in
set_option maxHeartbeats 4000000 in
theorem jmet_Model_told (F : Nat) (sh : List jxC) (hs : jHas sh jc_M) (σ0 : jxS) (v1 : Int) (v2 : Int) (x : Int) (σ' : jxS) (h : Model_told F σ0 v1 v2 = some (x, σ')) : jMC yX12_told cX12_told 3 (jrt 1) 2 48 sh σ0 [(jmr 0), (jmi v1), (jmi v2)] (jrv 1 x) σ' := by
  refine jMC_of (kd := 1) (by decide) rfl h ?_
  intro X hX
  have hG : jGd X (jE_Model_told F) jtb_Model_told := jGd_of hX jtk_Model_told jnil jnil jnil (jcon (jsV jlk_X12_312 ⟨rfl, rfl⟩ (jad_Model_partOf F sh hs)) jnil) hs
  exact jRf_by (jex_ok hG (cs := []) jnil 12 0 [some (jmr 0), some (jmi v1), some (jmi v2)] [] σ0) rfl
theorem jad_Model_told (F : Nat) (sh : List jxC) (hs : jHas sh jc_M) : jAdV (jca_Model_told F) yX12_told cX12_told 3 1 2 48 2 sh := by
  intro as σ k x σ' h
  unfold jca_Model_told at h
  split at h
  · rename_i t0 v1 v2
    obtain ⟨g0, hh1⟩ := jcond h
    obtain rfl := jbeq g0
    obtain ⟨r, h1, h2⟩ := Option.bind_eq_some_iff.mp hh1
    exact ⟨_, _, h2, ⟨_, _, _, _, _, _, rfl, rfl, (hs _ (jkf_in (l := jc_M) (idx := 0) rfl)).1, rfl⟩, jmet_Model_told F  sh hs σ v1 v2 r.1 r.2 h1⟩
  · cases h
def jtb_Model_odd : List (Nat × Instr) := [(0, .aload_n 0), (1, .getfield 212), (4, .ifCond .eq 28), (7, .iload_n 1), (8, .i2l), (9, .lconst 0), (10, .ldc2_w 304), (13, .invokestatic 143), (16, .ifCond .eq 16), (19, .aload_n 0), (20, .aload_n 0), (21, .iconst 0), (22, .invokevirtual 315), (25, .iload_n 1), (26, .invokevirtual 319), (29, .goto 4), (32, .iconst (-1)), (33, .ireturn)]
theorem jtk_Model_odd : jtok cX12_odd jtb_Model_odd = true := by decide +kernel
set_option maxRecDepth 100000 in
theorem jlk_X12_315 : jLkV RX12 315 yX12_firstOdd cX12_firstOdd 3 1 1 := ⟨(jTB_at 1672 rfl rfl), (jTB_at 1674 rfl rfl), (jTB_at 75 rfl rfl), (jTB_at 115 rfl rfl), jTB_at 1675 rfl rfl, ⟨by decide, by decide, by decide +kernel⟩⟩
set_option maxRecDepth 100000 in
theorem jlk_X12_319 : jLkV RX12 319 yX12_told cX12_told 3 1 2 := ⟨(jTB_at 1692 rfl rfl), (jTB_at 1694 rfl rfl), (jTB_at 80 rfl rfl), (jTB_at 115 rfl rfl), jTB_at 1695 rfl rfl, ⟨by decide, by decide, by decide +kernel⟩⟩
def jE_Model_odd (F : Nat) : jxE := jmk [(212, 12, 13)] [(304, jml 12)] [] [(143, (3, true), jca_Model_isIn F), (315, (2, false), jca_Model_firstOdd F), (319, (3, false), jca_Model_told F)] 1 jc_M
set_option maxRecDepth 100000 in
set_option maxHeartbeats 4000000 in
theorem jmet_Model_odd (F : Nat) (sh : List jxC) (hs : jHas sh jc_M) (σ0 : jxS) (v1 : Int) (x : Int) (σ' : jxS) (h : Model_odd F σ0 v1 = some (x, σ')) : jMC yX12_odd cX12_odd 2 (jrt 1) 3 70 sh σ0 [(jmr 0), (jmi v1)] (jrv 1 x) σ' := by
  refine jMC_of (kd := 1) (by decide) rfl h ?_
  intro X hX
  have hG : jGd X (jE_Model_odd F) jtb_Model_odd := jGd_of hX jtk_Model_odd (jcon jfl_X12_212 jnil) (jcon (jTB_at 1651 rfl rfl) jnil) jnil (jcon (jsS jlk_X12_143 ⟨rfl, rfl⟩ (jad_Model_isIn F sh hs)) (jcon (jsV jlk_X12_315 ⟨rfl, rfl⟩ (jad_Model_firstOdd F sh hs)) (jcon (jsV jlk_X12_319 ⟨rfl, rfl⟩ (jad_Model_told F sh hs)) jnil))) hs
  exact jRf_by (jex_ok hG (cs := []) jnil 21 0 [some (jmr 0), some (jmi v1)] [] σ0) rfl
theorem jad_Model_odd (F : Nat) (sh : List jxC) (hs : jHas sh jc_M) : jAdV (jca_Model_odd F) yX12_odd cX12_odd 2 1 3 70 1 sh := by
  intro as σ k x σ' h
  unfold jca_Model_odd at h
  split at h
  · rename_i t0 v1
    obtain ⟨g0, hh1⟩ := jcond h
    obtain rfl := jbeq g0
    obtain ⟨r, h1, h2⟩ := Option.bind_eq_some_iff.mp hh1
    exact ⟨_, _, h2, ⟨_, _, _, _, _, _, rfl, rfl, (hs _ (jkf_in (l := jc_M) (idx := 0) rfl)).1, rfl⟩, jmet_Model_odd F  sh hs σ v1 r.1 r.2 h1⟩
  · cases h
def jtb_Model_wild : List (Nat × Instr) := [(0, .aload_n 0), (1, .getfield 212), (4, .ifCond .eq 28), (7, .iload_n 1), (8, .i2l), (9, .lconst 0), (10, .ldc2_w 304), (13, .invokestatic 143), (16, .ifCond .eq 16), (19, .aload_n 0), (20, .aload_n 0), (21, .iconst 1), (22, .invokevirtual 315), (25, .iload_n 1), (26, .invokevirtual 319), (29, .goto 4), (32, .iconst (-1)), (33, .ireturn)]
theorem jtk_Model_wild : jtok cX12_wild jtb_Model_wild = true := by decide +kernel
def jE_Model_wild (F : Nat) : jxE := jmk [(212, 12, 13)] [(304, jml 12)] [] [(143, (3, true), jca_Model_isIn F), (315, (2, false), jca_Model_firstOdd F), (319, (3, false), jca_Model_told F)] 1 jc_M
set_option maxRecDepth 100000 in
set_option maxHeartbeats 4000000 in
theorem jmet_Model_wild (F : Nat) (sh : List jxC) (hs : jHas sh jc_M) (σ0 : jxS) (v1 : Int) (x : Int) (σ' : jxS) (h : Model_wild F σ0 v1 = some (x, σ')) : jMC yX12_wild cX12_wild 2 (jrt 1) 3 70 sh σ0 [(jmr 0), (jmi v1)] (jrv 1 x) σ' := by
  refine jMC_of (kd := 1) (by decide) rfl h ?_
  intro X hX
  have hG : jGd X (jE_Model_wild F) jtb_Model_wild := jGd_of hX jtk_Model_wild (jcon jfl_X12_212 jnil) (jcon (jTB_at 1651 rfl rfl) jnil) jnil (jcon (jsS jlk_X12_143 ⟨rfl, rfl⟩ (jad_Model_isIn F sh hs)) (jcon (jsV jlk_X12_315 ⟨rfl, rfl⟩ (jad_Model_firstOdd F sh hs)) (jcon (jsV jlk_X12_319 ⟨rfl, rfl⟩ (jad_Model_told F sh hs)) jnil))) hs
  exact jRf_by (jex_ok hG (cs := []) jnil 21 0 [some (jmr 0), some (jmi v1)] [] σ0) rfl
theorem jad_Model_wild (F : Nat) (sh : List jxC) (hs : jHas sh jc_M) : jAdV (jca_Model_wild F) yX12_wild cX12_wild 2 1 3 70 1 sh := by
  intro as σ k x σ' h
  unfold jca_Model_wild at h
  split at h
  · rename_i t0 v1
    obtain ⟨g0, hh1⟩ := jcond h
    obtain rfl := jbeq g0
    obtain ⟨r, h1, h2⟩ := Option.bind_eq_some_iff.mp hh1
    exact ⟨_, _, h2, ⟨_, _, _, _, _, _, rfl, rfl, (hs _ (jkf_in (l := jc_M) (idx := 0) rfl)).1, rfl⟩, jmet_Model_wild F  sh hs σ v1 r.1 r.2 h1⟩
  · cases h
def jtb_Model_keepsAct : List (Nat × Instr) := [(0, .aload_n 0), (1, .getfield 225), (4, .bipush 30), (6, .if_icmp .ne 44), (9, .bipush 13), (11, .istore_n 1), (12, .iload_n 1), (13, .sipush 390), (16, .if_icmp .ge 24), (19, .aload_n 0), (20, .getfield 84), (23, .iload_n 1), (24, .bipush 13), (26, .isub), (27, .aload_n 0), (28, .getfield 84), (31, .iload_n 1), (32, .iaload), (33, .iastore), (34, .iinc 1 1), (37, .goto (-25)), (40, .aload_n 0), (41, .dup), (42, .getfield 225), (45, .iconst 1), (46, .isub), (47, .putfield 225), (50, .iconst 0), (51, .istore_n 1), (52, .iload_n 1), (53, .bipush 13), (55, .if_icmp .ge 29), (58, .aload_n 0), (59, .getfield 84), (62, .bipush 13), (64, .aload_n 0), (65, .getfield 225), (68, .imul), (69, .iload_n 1), (70, .iadd), (71, .aload_n 0), (72, .getfield 81), (75, .iload_n 1), (76, .iaload), (77, .iastore), (78, .iinc 1 1), (81, .goto (-29)), (84, .aload_n 0), (85, .dup), (86, .getfield 225), (89, .iconst 1), (90, .iadd), (91, .putfield 225), (94, .return_)]
theorem jtk_Model_keepsAct : jtok cX12_keepsAct jtb_Model_keepsAct = true := by decide +kernel
set_option maxRecDepth 100000 in
theorem jfl_X12_84 : jFl RX12 84 12 36 := ⟨RX12, TX12, 57, tyX12, rfl, by decide, jin_X12, tyX12_ok, nmX12, jow_X12, (Or.inl (jTB_at 1377 rfl rfl))⟩
def jE_Model_keepsAct (F : Nat) : jxE := jmk [(81, 12, 35), (84, 12, 36), (225, 12, 37)] [] [] [] 0 jc_M
set_option maxRecDepth 100000 in
set_option maxHeartbeats 4000000 in
theorem jmet_Model_keepsAct (F : Nat) (sh : List jxC) (hs : jHas sh jc_M) (σ0 : jxS) (x : Int) (σ' : jxS) (h : Model_keepsAct F σ0 = some (x, σ')) : jMC yX12_keepsAct cX12_keepsAct 2 (jrt 0) 0 0 sh σ0 [(jmr 0)] (jrv 0 x) σ' := by
  refine jMC_of (kd := 0) (by decide) rfl h ?_
  intro X hX
  have hG : jGd X (jE_Model_keepsAct F) jtb_Model_keepsAct := jGd_of hX jtk_Model_keepsAct (jcon jfl_X12_81 (jcon jfl_X12_84 (jcon jfl_X12_225 jnil))) jnil jnil jnil hs
  have rr52 : ∀ (fu : Nat) (v1 : Int) (σ : jxS), jRf X (Model_keepsAct_c52 F fu v1 σ) 52 [some (jmr 0), some (jmi v1)] [] σ := by
    intro  fu
    induction fu with
    | zero => intros; exact jRf_none
    | succ fu ih =>
      intro v1 σ
      exact jRf_by (jex_ok hG (cs := [(52, [some (.inr (some 0)), some (.inl 0)], [], fun xs σ => match xs with
      | [v1] => (Model_keepsAct_c52 F fu) v1 σ
      | _ => none)]) (jcon (jl1 (fun y0 => jl0 (fun σ => ih y0 σ))) jnil) 57 52 [some (jmr 0), some (jmi v1)] [] σ) rfl
  have rr12 : ∀ (fu : Nat) (v1 : Int) (σ : jxS), jRf X (Model_keepsAct_c12 F fu v1 σ) 12 [some (jmr 0), some (jmi v1)] [] σ := by
    intro  fu
    induction fu with
    | zero => intros; exact jRf_none
    | succ fu ih =>
      intro v1 σ
      exact jRf_by (jex_ok hG (cs := [(12, [some (.inr (some 0)), some (.inl 0)], [], fun xs σ => match xs with
      | [v1] => (Model_keepsAct_c12 F fu) v1 σ
      | _ => none), (52, [some (.inr (some 0)), some (.inl 0)], [], fun xs σ => match xs with
      | [v1] => Model_keepsAct_c52 F F v1 σ
      | _ => none)]) (jcon (jl1 (fun y0 => jl0 (fun σ => ih y0 σ))) (jcon (jl1 (fun y0 => jl0 (fun σ => rr52 F y0 σ))) jnil)) 57 12 [some (jmr 0), some (jmi v1)] [] σ) rfl
  exact jRf_by (jex_ok hG (cs := [(12, [some (.inr (some 0)), some (.inl 0)], [], fun xs σ => match xs with
      | [v1] => Model_keepsAct_c12 F F v1 σ
      | _ => none), (52, [some (.inr (some 0)), some (.inl 0)], [], fun xs σ => match xs with
      | [v1] => Model_keepsAct_c52 F F v1 σ
      | _ => none)]) (jcon (jl1 (fun y0 => jl0 (fun σ => rr12 F y0 σ))) (jcon (jl1 (fun y0 => jl0 (fun σ => rr52 F y0 σ))) jnil)) 57 0 [some (jmr 0), none] [] σ0) rfl
theorem jad_Model_keepsAct (F : Nat) (sh : List jxC) (hs : jHas sh jc_M) : jAdV (jca_Model_keepsAct F) yX12_keepsAct cX12_keepsAct 2 0 0 0 0 sh := by
  intro as σ k x σ' h
  unfold jca_Model_keepsAct at h
  split at h
  · rename_i t0
    obtain ⟨g0, hh1⟩ := jcond h
    obtain rfl := jbeq g0
    obtain ⟨r, h1, h2⟩ := Option.bind_eq_some_iff.mp hh1
    exact ⟨_, _, h2, ⟨_, _, _, _, _, _, rfl, rfl, (hs _ (jkf_in (l := jc_M) (idx := 0) rfl)).1, rfl⟩, jmet_Model_keepsAct F  sh hs σ  r.1 r.2 h1⟩
  · cases h
def jtb_Model_put : List (Nat × Instr) := [(0, .aload_n 0), (1, .iload_n 1), (2, .invokevirtual 306), (5, .ifCond .eq 17), (8, .aload_n 0), (9, .getfield 81), (12, .invokestatic 254), (15, .iload_n 1), (16, .iadd), (17, .bipush 22), (19, .if_icmp .le 5), (22, .iconst (-1)), (23, .ireturn), (24, .aload_n 0), (25, .invokevirtual 322), (28, .aload_n 0), (29, .getfield 81), (32, .iload_n 1), (33, .dup2), (34, .iaload), (35, .iconst 1), (36, .iadd), (37, .iastore), (38, .aload_n 0), (39, .getfield 81), (42, .invokestatic 254), (45, .ireturn)]
theorem jtk_Model_put : jtok cX12_put jtb_Model_put = true := by decide +kernel
set_option maxRecDepth 100000 in
theorem jlk_X12_322 : jLkV RX12 322 yX12_keepsAct cX12_keepsAct 2 0 0 := ⟨(jTB_at 1708 rfl rfl), (jTB_at 1710 rfl rfl), (jTB_at 82 rfl rfl), (jTB_at 115 rfl rfl), jTB_at 1711 rfl rfl, ⟨by decide, by decide, by decide +kernel⟩⟩
def jE_Model_put (F : Nat) : jxE := jmk [(81, 12, 35)] [] [] [(254, (1, true), jca_Model_beansOf F), (306, (2, false), jca_Model_isHeap F), (322, (1, false), jca_Model_keepsAct F)] 1 jc_M
set_option maxRecDepth 100000 in
set_option maxHeartbeats 4000000 in
theorem jmet_Model_put (F : Nat) (sh : List jxC) (hs : jHas sh jc_M) (σ0 : jxS) (v1 : Int) (x : Int) (σ' : jxS) (h : Model_put F σ0 v1 = some (x, σ')) : jMC yX12_put cX12_put 2 (jrt 1) 2 46 sh σ0 [(jmr 0), (jmi v1)] (jrv 1 x) σ' := by
  refine jMC_of (kd := 1) (by decide) rfl h ?_
  intro X hX
  have hG : jGd X (jE_Model_put F) jtb_Model_put := jGd_of hX jtk_Model_put (jcon jfl_X12_81 jnil) jnil jnil (jcon (jsS jlk_X12_254 ⟨rfl, rfl⟩ (jad_Model_beansOf F sh hs)) (jcon (jsV jlk_X12_306 ⟨rfl, rfl⟩ (jad_Model_isHeap F sh hs)) (jcon (jsV jlk_X12_322 ⟨rfl, rfl⟩ (jad_Model_keepsAct F sh hs)) jnil))) hs
  exact jRf_by (jex_ok hG (cs := []) jnil 30 0 [some (jmr 0), some (jmi v1)] [] σ0) rfl
theorem jad_Model_put (F : Nat) (sh : List jxC) (hs : jHas sh jc_M) : jAdV (jca_Model_put F) yX12_put cX12_put 2 1 2 46 1 sh := by
  intro as σ k x σ' h
  unfold jca_Model_put at h
  split at h
  · rename_i t0 v1
    obtain ⟨g0, hh1⟩ := jcond h
    obtain rfl := jbeq g0
    obtain ⟨r, h1, h2⟩ := Option.bind_eq_some_iff.mp hh1
    exact ⟨_, _, h2, ⟨_, _, _, _, _, _, rfl, rfl, (hs _ (jkf_in (l := jc_M) (idx := 0) rfl)).1, rfl⟩, jmet_Model_put F  sh hs σ v1 r.1 r.2 h1⟩
  · cases h
def jtb_Model_isMove : List (Nat × Instr) := [(0, .aload_n 0), (1, .iload_n 1), (2, .invokevirtual 306), (5, .ifCond .eq 28), (8, .iload_n 2), (9, .i2l), (10, .lconst 0), (11, .ldc2_w 304), (14, .invokestatic 143), (17, .ifCond .eq 16), (20, .iload_n 3), (21, .i2l), (22, .iload_n 2), (23, .i2l), (24, .ldc2_w 304), (27, .invokestatic 143), (30, .ifCond .ne 5), (33, .iconst 0), (34, .ireturn), (35, .iconst 0), (36, .istore 4), (38, .iload 4), (40, .aload_n 0), (41, .getfield 39), (44, .iload_n 1), (45, .iaload), (46, .if_icmp .ge 32), (49, .aload_n 0), (50, .getfield 36), (53, .bipush 64), (55, .iload_n 1), (56, .imul), (57, .iload 4), (59, .iadd), (60, .iaload), (61, .bipush 13), (63, .iload_n 2), (64, .imul), (65, .iload_n 3), (66, .iadd), (67, .if_icmp .ne 5), (70, .iconst 1), (71, .ireturn), (72, .iinc 4 1), (75, .goto (-37)), (78, .iconst 0), (79, .ireturn)]
theorem jtk_Model_isMove : jtok cX12_isMove jtb_Model_isMove = true := by decide +kernel
def jE_Model_isMove (F : Nat) : jxE := jmk [(36, 12, 18), (39, 12, 19)] [(304, jml 12)] [] [(143, (3, true), jca_Model_isIn F), (306, (2, false), jca_Model_isHeap F)] 4 jc_M
set_option maxRecDepth 100000 in
set_option maxHeartbeats 4000000 in
theorem jmet_Model_isMove (F : Nat) (sh : List jxC) (hs : jHas sh jc_M) (σ0 : jxS) (v1 : Int) (v2 : Int) (v3 : Int) (x : Int) (σ' : jxS) (h : Model_isMove F σ0 v1 v2 v3 = some (x, σ')) : jMC yX12_isMove cX12_isMove 5 (jrt 4) 2 46 sh σ0 [(jmr 0), (jmi v1), (jmi v2), (jmi v3)] (jrv 4 x) σ' := by
  refine jMC_of (kd := 4) (by decide) rfl h ?_
  intro X hX
  have hG : jGd X (jE_Model_isMove F) jtb_Model_isMove := jGd_of hX jtk_Model_isMove (jcon jfl_X12_36 (jcon jfl_X12_39 jnil)) (jcon (jTB_at 1651 rfl rfl) jnil) jnil (jcon (jsS jlk_X12_143 ⟨rfl, rfl⟩ (jad_Model_isIn F sh hs)) (jcon (jsV jlk_X12_306 ⟨rfl, rfl⟩ (jad_Model_isHeap F sh hs)) jnil)) hs
  have rr38 : ∀ (fu : Nat) (v1 v2 v3 v4 : Int) (σ : jxS), jRf X (Model_isMove_c38 F fu v1 v2 v3 v4 σ) 38 [some (jmr 0), some (jmi v1), some (jmi v2), some (jmi v3), some (jmi v4)] [] σ := by
    intro  fu
    induction fu with
    | zero => intros; exact jRf_none
    | succ fu ih =>
      intro v1 v2 v3 v4 σ
      exact jRf_by (jex_ok hG (cs := [(38, [some (.inr (some 0)), some (.inl 0), some (.inl 0), some (.inl 0), some (.inl 0)], [], fun xs σ => match xs with
      | [v1, v2, v3, v4] => (Model_isMove_c38 F fu) v1 v2 v3 v4 σ
      | _ => none)]) (jcon (jl4 (fun y0 y1 y2 y3 => jl0 (fun σ => ih y0 y1 y2 y3 σ))) jnil) 50 38 [some (jmr 0), some (jmi v1), some (jmi v2), some (jmi v3), some (jmi v4)] [] σ) rfl
  exact jRf_by (jex_ok hG (cs := [(38, [some (.inr (some 0)), some (.inl 0), some (.inl 0), some (.inl 0), some (.inl 0)], [], fun xs σ => match xs with
      | [v1, v2, v3, v4] => Model_isMove_c38 F F v1 v2 v3 v4 σ
      | _ => none)]) (jcon (jl4 (fun y0 y1 y2 y3 => jl0 (fun σ => rr38 F y0 y1 y2 y3 σ))) jnil) 50 0 [some (jmr 0), some (jmi v1), some (jmi v2), some (jmi v3), none] [] σ0) rfl
theorem jad_Model_isMove (F : Nat) (sh : List jxC) (hs : jHas sh jc_M) : jAdV (jca_Model_isMove F) yX12_isMove cX12_isMove 5 4 2 46 3 sh := by
  intro as σ k x σ' h
  unfold jca_Model_isMove at h
  split at h
  · rename_i t0 v1 v2 v3
    obtain ⟨g0, hh1⟩ := jcond h
    obtain rfl := jbeq g0
    obtain ⟨r, h1, h2⟩ := Option.bind_eq_some_iff.mp hh1
    exact ⟨_, _, h2, ⟨_, _, _, _, _, _, rfl, rfl, (hs _ (jkf_in (l := jc_M) (idx := 0) rfl)).1, rfl⟩, jmet_Model_isMove F  sh hs σ v1 v2 v3 r.1 r.2 h1⟩
  · cases h
def jtb_Model_handNumber : List (Nat × Instr) := [(0, .aload_n 0), (1, .aload_n 0), (2, .getfield 81), (5, .invokevirtual 266), (8, .ireturn)]
theorem jtk_Model_handNumber : jtok cX12_handNumber jtb_Model_handNumber = true := by decide +kernel
def jE_Model_handNumber (F : Nat) : jxE := jmk [(81, 12, 35)] [] [] [(266, (2, false), jca_Model_numberOf F)] 1 jc_M
set_option maxRecDepth 100000 in
set_option maxHeartbeats 4000000 in
theorem jmet_Model_handNumber (F : Nat) (sh : List jxC) (hs : jHas sh jc_M) (σ0 : jxS) (x : Int) (σ' : jxS) (h : Model_handNumber F σ0 = some (x, σ')) : jMC yX12_handNumber cX12_handNumber 1 (jrt 1) 2 47 sh σ0 [(jmr 0)] (jrv 1 x) σ' := by
  refine jMC_of (kd := 1) (by decide) rfl h ?_
  intro X hX
  have hG : jGd X (jE_Model_handNumber F) jtb_Model_handNumber := jGd_of hX jtk_Model_handNumber (jcon jfl_X12_81 jnil) jnil jnil (jcon (jsV jlk_X12_266 ⟨rfl, rfl⟩ (jad_Model_numberOf F sh hs)) jnil) hs
  exact jRf_by (jex_ok hG (cs := []) jnil 8 0 [some (jmr 0)] [] σ0) rfl
theorem jad_Model_handNumber (F : Nat) (sh : List jxC) (hs : jHas sh jc_M) : jAdV (jca_Model_handNumber F) yX12_handNumber cX12_handNumber 1 1 2 47 0 sh := by
  intro as σ k x σ' h
  unfold jca_Model_handNumber at h
  split at h
  · rename_i t0
    obtain ⟨g0, hh1⟩ := jcond h
    obtain rfl := jbeq g0
    obtain ⟨r, h1, h2⟩ := Option.bind_eq_some_iff.mp hh1
    exact ⟨_, _, h2, ⟨_, _, _, _, _, _, rfl, rfl, (hs _ (jkf_in (l := jc_M) (idx := 0) rfl)).1, rfl⟩, jmet_Model_handNumber F  sh hs σ  r.1 r.2 h1⟩
  · cases h
def jtb_Model_move : List (Nat × Instr) := [(0, .aload_n 0), (1, .iload_n 1), (2, .iload_n 2), (3, .iload_n 3), (4, .invokevirtual 325), (7, .ifCond .eq 12), (10, .aload_n 0), (11, .getfield 81), (14, .iload_n 1), (15, .iaload), (16, .ifCond .ne 5), (19, .iconst (-1)), (20, .ireturn), (21, .aload_n 0), (22, .invokevirtual 322), (25, .aload_n 0), (26, .getfield 81), (29, .iload_n 1), (30, .bipush 13), (32, .iload_n 2), (33, .imul), (34, .iload_n 3), (35, .iadd), (36, .iconst 1), (37, .invokestatic 262), (40, .aload_n 0), (41, .getfield 54), (44, .aload_n 0), (45, .invokevirtual 328), (48, .baload), (49, .ifCond .eq 7), (52, .iconst 0), (53, .goto 4), (56, .iconst 1), (57, .ireturn)]
theorem jtk_Model_move : jtok cX12_move jtb_Model_move = true := by decide +kernel
set_option maxRecDepth 100000 in
theorem jlk_X12_325 : jLkV RX12 325 yX12_isMove cX12_isMove 5 4 3 := ⟨(jTB_at 1716 rfl rfl), (jTB_at 1718 rfl rfl), (jTB_at 83 rfl rfl), (jTB_at 115 rfl rfl), jTB_at 1719 rfl rfl, ⟨by decide, by decide, by decide +kernel⟩⟩
set_option maxRecDepth 100000 in
theorem jlk_X12_328 : jLkV RX12 328 yX12_handNumber cX12_handNumber 1 1 0 := ⟨(jTB_at 1720 rfl rfl), (jTB_at 1722 rfl rfl), (jTB_at 84 rfl rfl), (jTB_at 115 rfl rfl), jTB_at 1723 rfl rfl, ⟨by decide, by decide, by decide +kernel⟩⟩
def jE_Model_move (F : Nat) : jxE := jmk [(54, 12, 25), (81, 12, 35)] [] [] [(262, (4, true), jca_Model_changes F), (322, (1, false), jca_Model_keepsAct F), (325, (4, false), jca_Model_isMove F), (328, (1, false), jca_Model_handNumber F)] 1 jc_M
set_option maxRecDepth 100000 in
set_option maxHeartbeats 4000000 in
theorem jmet_Model_move (F : Nat) (sh : List jxC) (hs : jHas sh jc_M) (σ0 : jxS) (v1 : Int) (v2 : Int) (v3 : Int) (x : Int) (σ' : jxS) (h : Model_move F σ0 v1 v2 v3 = some (x, σ')) : jMC yX12_move cX12_move 4 (jrt 1) 3 70 sh σ0 [(jmr 0), (jmi v1), (jmi v2), (jmi v3)] (jrv 1 x) σ' := by
  refine jMC_of (kd := 1) (by decide) rfl h ?_
  intro X hX
  have hG : jGd X (jE_Model_move F) jtb_Model_move := jGd_of hX jtk_Model_move (jcon jfl_X12_54 (jcon jfl_X12_81 jnil)) jnil jnil (jcon (jsS jlk_X12_262 ⟨rfl, rfl⟩ (jad_Model_changes F sh hs)) (jcon (jsV jlk_X12_322 ⟨rfl, rfl⟩ (jad_Model_keepsAct F sh hs)) (jcon (jsV jlk_X12_325 ⟨rfl, rfl⟩ (jad_Model_isMove F sh hs)) (jcon (jsV jlk_X12_328 ⟨rfl, rfl⟩ (jad_Model_handNumber F sh hs)) jnil)))) hs
  exact jRf_by (jex_ok hG (cs := []) jnil 38 0 [some (jmr 0), some (jmi v1), some (jmi v2), some (jmi v3)] [] σ0) rfl
theorem jad_Model_move (F : Nat) (sh : List jxC) (hs : jHas sh jc_M) : jAdV (jca_Model_move F) yX12_move cX12_move 4 1 3 70 3 sh := by
  intro as σ k x σ' h
  unfold jca_Model_move at h
  split at h
  · rename_i t0 v1 v2 v3
    obtain ⟨g0, hh1⟩ := jcond h
    obtain rfl := jbeq g0
    obtain ⟨r, h1, h2⟩ := Option.bind_eq_some_iff.mp hh1
    exact ⟨_, _, h2, ⟨_, _, _, _, _, _, rfl, rfl, (hs _ (jkf_in (l := jc_M) (idx := 0) rfl)).1, rfl⟩, jmet_Model_move F  sh hs σ v1 v2 v3 r.1 r.2 h1⟩
  · cases h
def jtb_Model_firstReply : List (Nat × Instr) := [(0, .iconst 1), (1, .istore_n 2), (2, .iload_n 2), (3, .bipush 12), (5, .if_icmp .gt 76), (8, .iconst 0), (9, .istore_n 3), (10, .iload_n 3), (11, .aload_n 0), (12, .getfield 39), (15, .iload_n 2), (16, .iaload), (17, .if_icmp .ge 58), (20, .aload_n 1), (21, .iload_n 2), (22, .iaload), (23, .ifCond .le 52), (26, .aload_n 0), (27, .getfield 54), (30, .aload_n 0), (31, .aload_n 1), (32, .iload_n 2), (33, .aload_n 0), (34, .getfield 36), (37, .bipush 64), (39, .iload_n 2), (40, .imul), (41, .iload_n 3), (42, .iadd), (43, .iaload), (44, .invokevirtual 272), (47, .baload), (48, .ifCond .eq 21), (51, .sipush 1000), (54, .iload_n 2), (55, .imul), (56, .aload_n 0), (57, .getfield 36), (60, .bipush 64), (62, .iload_n 2), (63, .imul), (64, .iload_n 3), (65, .iadd), (66, .iaload), (67, .iadd), (68, .ireturn), (69, .iinc 3 1), (72, .goto (-62)), (75, .iinc 2 1), (78, .goto (-76)), (81, .iconst (-1)), (82, .ireturn)]
theorem jtk_Model_firstReply : jtok cX12_firstReply jtb_Model_firstReply = true := by decide +kernel
def jE_Model_firstReply (F : Nat) : jxE := jmk [(36, 12, 18), (39, 12, 19), (54, 12, 25)] [] [] [(272, (4, false), jca_Model_behind F)] 1 jc_M
set_option maxRecDepth 100000 in
set_option maxHeartbeats 4000000 in
theorem jmet_Model_firstReply_24 (F : Nat) (sh : List jxC) (hs : jHas sh jc_M) (σ0 : jxS) (x : Int) (σ' : jxS) (h : Model_firstReply F 24 σ0 = some (x, σ')) : jMC yX12_firstReply cX12_firstReply 4 (jrt 1) 3 71 sh σ0 [(jmr 0), (jmr 24)] (jrv 1 x) σ' := by
  refine jMC_of (kd := 1) (by decide) rfl h ?_
  intro X hX
  have hG : jGd X (jE_Model_firstReply F) jtb_Model_firstReply := jGd_of hX jtk_Model_firstReply (jcon jfl_X12_36 (jcon jfl_X12_39 (jcon jfl_X12_54 jnil))) jnil jnil (jcon (jsV jlk_X12_272 ⟨rfl, rfl⟩ (jad_Model_behind F sh hs)) jnil) hs
  have rr10 : ∀ (k2 : Int → jxS → Option jxR) (h2 : ∀ v2 σ, jRf X (k2 v2 σ) 2 [some (jmr 0), some (jmr 24), some (jmi v2), none] [] σ) (fu : Nat) (v2 v3 : Int) (σ : jxS), jRf X (Model_firstReply_c10 F 24 k2 fu v2 v3 σ) 10 [some (jmr 0), some (jmr 24), some (jmi v2), some (jmi v3)] [] σ := by
    intro k2 h2 fu
    induction fu with
    | zero => intros; exact jRf_none
    | succ fu ih =>
      intro v2 v3 σ
      exact jRf_by (jex_ok hG (cs := [(2, [some (.inr (some 0)), some (.inr (some 24)), some (.inl 0), none], [], fun xs σ => match xs with
      | [v2] => k2 v2 σ
      | _ => none), (10, [some (.inr (some 0)), some (.inr (some 24)), some (.inl 0), some (.inl 0)], [], fun xs σ => match xs with
      | [v2, v3] => (Model_firstReply_c10 F 24 k2 fu) v2 v3 σ
      | _ => none)]) (jcon (jl1 (fun y0 => jl0 (fun σ => h2 y0 σ))) (jcon (jl2 (fun y0 y1 => jl0 (fun σ => ih y0 y1 σ))) jnil)) 55 10 [some (jmr 0), some (jmr 24), some (jmi v2), some (jmi v3)] [] σ) rfl
  have rr2 : ∀ (fu : Nat) (v2 : Int) (σ : jxS), jRf X (Model_firstReply_c2 F 24 fu v2 σ) 2 [some (jmr 0), some (jmr 24), some (jmi v2), none] [] σ := by
    intro  fu
    induction fu with
    | zero => intros; exact jRf_none
    | succ fu ih =>
      intro v2 σ
      exact jRf_by (jex_ok hG (cs := [(10, [some (.inr (some 0)), some (.inr (some 24)), some (.inl 0), some (.inl 0)], [], fun xs σ => match xs with
      | [v2, v3] => Model_firstReply_c10 F 24 (Model_firstReply_c2 F 24 fu) F v2 v3 σ
      | _ => none)]) (jcon (jl2 (fun y0 y1 => jl0 (fun σ => rr10 _ ih F y0 y1 σ))) jnil) 55 2 [some (jmr 0), some (jmr 24), some (jmi v2), none] [] σ) rfl
  exact jRf_by (jex_ok hG (cs := [(2, [some (.inr (some 0)), some (.inr (some 24)), some (.inl 0), none], [], fun xs σ => match xs with
      | [v2] => Model_firstReply_c2 F 24 F v2 σ
      | _ => none)]) (jcon (jl1 (fun y0 => jl0 (fun σ => rr2 F y0 σ))) jnil) 55 0 [some (jmr 0), some (jmr 24), none, none] [] σ0) rfl
theorem jmet_Model_firstReply (F : Nat) (a1 : Nat) (ha1 : a1 ∈ jids_Model_firstReply_a1) (sh : List jxC) (hs : jHas sh jc_M) (σ0 : jxS) (x : Int) (σ' : jxS) (h : Model_firstReply F a1 σ0 = some (x, σ')) : jMC yX12_firstReply cX12_firstReply 4 (jrt 1) 3 71 sh σ0 [(jmr 0), (jmr a1)] (jrv 1 x) σ' := by
  simp only [jids_Model_firstReply_a1, List.mem_cons, List.not_mem_nil, or_false] at ha1
  rcases ha1 with rfl
  · exact jmet_Model_firstReply_24 F sh hs σ0  x σ' h
theorem jad_Model_firstReply (F : Nat) (sh : List jxC) (hs : jHas sh jc_M) : jAdV (jca_Model_firstReply F) yX12_firstReply cX12_firstReply 4 1 3 71 1 sh := by
  intro as σ k x σ' h
  unfold jca_Model_firstReply at h
  split at h
  · rename_i t0 t1
    obtain ⟨g0, hh1⟩ := jcond h
    obtain rfl := jbeq g0
    obtain ⟨g1, hh2⟩ := jcond hh1
    have g1 := jin_of g1
    obtain ⟨r, h1, h2⟩ := Option.bind_eq_some_iff.mp hh2
    exact ⟨_, _, h2, ⟨_, _, _, _, _, _, rfl, rfl, (hs _ (jkf_in (l := jc_M) (idx := 0) rfl)).1, rfl⟩, jmet_Model_firstReply F t1 g1 sh hs σ  r.1 r.2 h1⟩
  · cases h
def jtb_Model_reply : List (Nat × Instr) := [(0, .aload_n 0), (1, .getfield 212), (4, .ifCond .ne 5), (7, .iconst (-1)), (8, .ireturn), (9, .aload_n 0), (10, .aload_n 0), (11, .getfield 81), (14, .invokevirtual 331), (17, .istore_n 1), (18, .iload_n 1), (19, .ifCond .ge 6), (22, .bipush (-2)), (24, .ireturn), (25, .aload_n 0), (26, .invokevirtual 322), (29, .aload_n 0), (30, .getfield 81), (33, .iload_n 1), (34, .sipush 1000), (37, .idiv), (38, .iload_n 1), (39, .sipush 1000), (42, .irem), (43, .iconst 1), (44, .invokestatic 262), (47, .iload_n 1), (48, .ireturn)]
theorem jtk_Model_reply : jtok cX12_reply jtb_Model_reply = true := by decide +kernel
set_option maxRecDepth 100000 in
theorem jlk_X12_331 : jLkV RX12 331 yX12_firstReply cX12_firstReply 4 1 1 := ⟨(jTB_at 1728 rfl rfl), (jTB_at 1730 rfl rfl), (jTB_at 85 rfl rfl), (jTB_at 115 rfl rfl), jTB_at 1731 rfl rfl, ⟨by decide, by decide, by decide +kernel⟩⟩
def jE_Model_reply (F : Nat) : jxE := jmk [(81, 12, 35), (212, 12, 13)] [] [] [(262, (4, true), jca_Model_changes F), (322, (1, false), jca_Model_keepsAct F), (331, (2, false), jca_Model_firstReply F)] 1 jc_M
set_option maxRecDepth 100000 in
set_option maxHeartbeats 4000000 in
theorem jmet_Model_reply (F : Nat) (sh : List jxC) (hs : jHas sh jc_M) (σ0 : jxS) (x : Int) (σ' : jxS) (h : Model_reply F σ0 = some (x, σ')) : jMC yX12_reply cX12_reply 2 (jrt 1) 4 94 sh σ0 [(jmr 0)] (jrv 1 x) σ' := by
  refine jMC_of (kd := 1) (by decide) rfl h ?_
  intro X hX
  have hG : jGd X (jE_Model_reply F) jtb_Model_reply := jGd_of hX jtk_Model_reply (jcon jfl_X12_81 (jcon jfl_X12_212 jnil)) jnil jnil (jcon (jsS jlk_X12_262 ⟨rfl, rfl⟩ (jad_Model_changes F sh hs)) (jcon (jsV jlk_X12_322 ⟨rfl, rfl⟩ (jad_Model_keepsAct F sh hs)) (jcon (jsV jlk_X12_331 ⟨rfl, rfl⟩ (jad_Model_firstReply F sh hs)) jnil))) hs
  exact jRf_by (jex_ok hG (cs := []) jnil 31 0 [some (jmr 0), none] [] σ0) rfl
theorem jad_Model_reply (F : Nat) (sh : List jxC) (hs : jHas sh jc_M) : jAdV (jca_Model_reply F) yX12_reply cX12_reply 2 1 4 94 0 sh := by
  intro as σ k x σ' h
  unfold jca_Model_reply at h
  split at h
  · rename_i t0
    obtain ⟨g0, hh1⟩ := jcond h
    obtain rfl := jbeq g0
    obtain ⟨r, h1, h2⟩ := Option.bind_eq_some_iff.mp hh1
    exact ⟨_, _, h2, ⟨_, _, _, _, _, _, rfl, rfl, (hs _ (jkf_in (l := jc_M) (idx := 0) rfl)).1, rfl⟩, jmet_Model_reply F  sh hs σ  r.1 r.2 h1⟩
  · cases h
def jtb_Model_clear : List (Nat × Instr) := [(0, .aload_n 0), (1, .getfield 81), (4, .invokestatic 254), (7, .istore_n 1), (8, .iload_n 1), (9, .ifCond .ne 5), (12, .iconst (-1)), (13, .ireturn), (14, .aload_n 0), (15, .invokevirtual 322), (18, .iconst 0), (19, .istore_n 2), (20, .iload_n 2), (21, .bipush 13), (23, .if_icmp .ge 16), (26, .aload_n 0), (27, .getfield 81), (30, .iload_n 2), (31, .iconst 0), (32, .iastore), (33, .iinc 2 1), (36, .goto (-16)), (39, .iload_n 1), (40, .ireturn)]
theorem jtk_Model_clear : jtok cX12_clear jtb_Model_clear = true := by decide +kernel
def jE_Model_clear (F : Nat) : jxE := jmk [(81, 12, 35)] [] [] [(254, (1, true), jca_Model_beansOf F), (322, (1, false), jca_Model_keepsAct F)] 1 jc_M
set_option maxRecDepth 100000 in
set_option maxHeartbeats 4000000 in
theorem jmet_Model_clear (F : Nat) (sh : List jxC) (hs : jHas sh jc_M) (σ0 : jxS) (x : Int) (σ' : jxS) (h : Model_clear F σ0 = some (x, σ')) : jMC yX12_clear cX12_clear 3 (jrt 1) 1 22 sh σ0 [(jmr 0)] (jrv 1 x) σ' := by
  refine jMC_of (kd := 1) (by decide) rfl h ?_
  intro X hX
  have hG : jGd X (jE_Model_clear F) jtb_Model_clear := jGd_of hX jtk_Model_clear (jcon jfl_X12_81 jnil) jnil jnil (jcon (jsS jlk_X12_254 ⟨rfl, rfl⟩ (jad_Model_beansOf F sh hs)) (jcon (jsV jlk_X12_322 ⟨rfl, rfl⟩ (jad_Model_keepsAct F sh hs)) jnil)) hs
  have rr20 : ∀ (fu : Nat) (v1 v2 : Int) (σ : jxS), jRf X (Model_clear_c20 F fu v1 v2 σ) 20 [some (jmr 0), some (jmi v1), some (jmi v2)] [] σ := by
    intro  fu
    induction fu with
    | zero => intros; exact jRf_none
    | succ fu ih =>
      intro v1 v2 σ
      exact jRf_by (jex_ok hG (cs := [(20, [some (.inr (some 0)), some (.inl 0), some (.inl 0)], [], fun xs σ => match xs with
      | [v1, v2] => (Model_clear_c20 F fu) v1 v2 σ
      | _ => none)]) (jcon (jl2 (fun y0 y1 => jl0 (fun σ => ih y0 y1 σ))) jnil) 27 20 [some (jmr 0), some (jmi v1), some (jmi v2)] [] σ) rfl
  exact jRf_by (jex_ok hG (cs := [(20, [some (.inr (some 0)), some (.inl 0), some (.inl 0)], [], fun xs σ => match xs with
      | [v1, v2] => Model_clear_c20 F F v1 v2 σ
      | _ => none)]) (jcon (jl2 (fun y0 y1 => jl0 (fun σ => rr20 F y0 y1 σ))) jnil) 27 0 [some (jmr 0), none, none] [] σ0) rfl
theorem jad_Model_clear (F : Nat) (sh : List jxC) (hs : jHas sh jc_M) : jAdV (jca_Model_clear F) yX12_clear cX12_clear 3 1 1 22 0 sh := by
  intro as σ k x σ' h
  unfold jca_Model_clear at h
  split at h
  · rename_i t0
    obtain ⟨g0, hh1⟩ := jcond h
    obtain rfl := jbeq g0
    obtain ⟨r, h1, h2⟩ := Option.bind_eq_some_iff.mp hh1
    exact ⟨_, _, h2, ⟨_, _, _, _, _, _, rfl, rfl, (hs _ (jkf_in (l := jc_M) (idx := 0) rfl)).1, rfl⟩, jmet_Model_clear F  sh hs σ  r.1 r.2 h1⟩
  · cases h
def jtb_Model_undo : List (Nat × Instr) := [(0, .aload_n 0), (1, .getfield 225), (4, .ifCond .ne 5), (7, .iconst (-1)), (8, .ireturn), (9, .aload_n 0), (10, .dup), (11, .getfield 225), (14, .iconst 1), (15, .isub), (16, .putfield 225), (19, .iconst 0), (20, .istore_n 1), (21, .iload_n 1), (22, .bipush 13), (24, .if_icmp .ge 29), (27, .aload_n 0), (28, .getfield 81), (31, .iload_n 1), (32, .aload_n 0), (33, .getfield 84), (36, .bipush 13), (38, .aload_n 0), (39, .getfield 225), (42, .imul), (43, .iload_n 1), (44, .iadd), (45, .iaload), (46, .iastore), (47, .iinc 1 1), (50, .goto (-29)), (53, .aload_n 0), (54, .getfield 225), (57, .ireturn)]
theorem jtk_Model_undo : jtok cX12_undo jtb_Model_undo = true := by decide +kernel
def jE_Model_undo (F : Nat) : jxE := jmk [(81, 12, 35), (84, 12, 36), (225, 12, 37)] [] [] [] 1 jc_M
set_option maxRecDepth 100000 in
set_option maxHeartbeats 4000000 in
theorem jmet_Model_undo (F : Nat) (sh : List jxC) (hs : jHas sh jc_M) (σ0 : jxS) (x : Int) (σ' : jxS) (h : Model_undo F σ0 = some (x, σ')) : jMC yX12_undo cX12_undo 2 (jrt 1) 0 0 sh σ0 [(jmr 0)] (jrv 1 x) σ' := by
  refine jMC_of (kd := 1) (by decide) rfl h ?_
  intro X hX
  have hG : jGd X (jE_Model_undo F) jtb_Model_undo := jGd_of hX jtk_Model_undo (jcon jfl_X12_81 (jcon jfl_X12_84 (jcon jfl_X12_225 jnil))) jnil jnil jnil hs
  have rr21 : ∀ (fu : Nat) (v1 : Int) (σ : jxS), jRf X (Model_undo_c21 F fu v1 σ) 21 [some (jmr 0), some (jmi v1)] [] σ := by
    intro  fu
    induction fu with
    | zero => intros; exact jRf_none
    | succ fu ih =>
      intro v1 σ
      exact jRf_by (jex_ok hG (cs := [(21, [some (.inr (some 0)), some (.inl 0)], [], fun xs σ => match xs with
      | [v1] => (Model_undo_c21 F fu) v1 σ
      | _ => none)]) (jcon (jl1 (fun y0 => jl0 (fun σ => ih y0 σ))) jnil) 37 21 [some (jmr 0), some (jmi v1)] [] σ) rfl
  exact jRf_by (jex_ok hG (cs := [(21, [some (.inr (some 0)), some (.inl 0)], [], fun xs σ => match xs with
      | [v1] => Model_undo_c21 F F v1 σ
      | _ => none)]) (jcon (jl1 (fun y0 => jl0 (fun σ => rr21 F y0 σ))) jnil) 37 0 [some (jmr 0), none] [] σ0) rfl
theorem jad_Model_undo (F : Nat) (sh : List jxC) (hs : jHas sh jc_M) : jAdV (jca_Model_undo F) yX12_undo cX12_undo 2 1 0 0 0 sh := by
  intro as σ k x σ' h
  unfold jca_Model_undo at h
  split at h
  · rename_i t0
    obtain ⟨g0, hh1⟩ := jcond h
    obtain rfl := jbeq g0
    obtain ⟨r, h1, h2⟩ := Option.bind_eq_some_iff.mp hh1
    exact ⟨_, _, h2, ⟨_, _, _, _, _, _, rfl, rfl, (hs _ (jkf_in (l := jc_M) (idx := 0) rfl)).1, rfl⟩, jmet_Model_undo F  sh hs σ  r.1 r.2 h1⟩
  · cases h
def jtb_Model_hand : List (Nat × Instr) := [(0, .iload_n 1), (1, .i2l), (2, .lconst 1), (3, .ldc2_w 304), (6, .invokestatic 143), (9, .ifCond .eq 12), (12, .aload_n 0), (13, .getfield 81), (16, .iload_n 1), (17, .iaload), (18, .goto 18), (21, .iload_n 1), (22, .ifCond .ne 13), (25, .aload_n 0), (26, .getfield 81), (29, .invokestatic 254), (32, .goto 4), (35, .iconst (-1)), (36, .ireturn)]
theorem jtk_Model_hand : jtok cX12_hand jtb_Model_hand = true := by decide +kernel
def jE_Model_hand (F : Nat) : jxE := jmk [(81, 12, 35)] [(304, jml 12)] [] [(143, (3, true), jca_Model_isIn F), (254, (1, true), jca_Model_beansOf F)] 1 jc_M
set_option maxRecDepth 100000 in
set_option maxHeartbeats 4000000 in
theorem jmet_Model_hand (F : Nat) (sh : List jxC) (hs : jHas sh jc_M) (σ0 : jxS) (v1 : Int) (x : Int) (σ' : jxS) (h : Model_hand F σ0 v1 = some (x, σ')) : jMC yX12_hand cX12_hand 2 (jrt 1) 1 25 sh σ0 [(jmr 0), (jmi v1)] (jrv 1 x) σ' := by
  refine jMC_of (kd := 1) (by decide) rfl h ?_
  intro X hX
  have hG : jGd X (jE_Model_hand F) jtb_Model_hand := jGd_of hX jtk_Model_hand (jcon jfl_X12_81 jnil) (jcon (jTB_at 1651 rfl rfl) jnil) jnil (jcon (jsS jlk_X12_143 ⟨rfl, rfl⟩ (jad_Model_isIn F sh hs)) (jcon (jsS jlk_X12_254 ⟨rfl, rfl⟩ (jad_Model_beansOf F sh hs)) jnil)) hs
  exact jRf_by (jex_ok hG (cs := []) jnil 22 0 [some (jmr 0), some (jmi v1)] [] σ0) rfl
theorem jad_Model_hand (F : Nat) (sh : List jxC) (hs : jHas sh jc_M) : jAdV (jca_Model_hand F) yX12_hand cX12_hand 2 1 1 25 1 sh := by
  intro as σ k x σ' h
  unfold jca_Model_hand at h
  split at h
  · rename_i t0 v1
    obtain ⟨g0, hh1⟩ := jcond h
    obtain rfl := jbeq g0
    obtain ⟨r, h1, h2⟩ := Option.bind_eq_some_iff.mp hh1
    exact ⟨_, _, h2, ⟨_, _, _, _, _, _, rfl, rfl, (hs _ (jkf_in (l := jc_M) (idx := 0) rfl)).1, rfl⟩, jmet_Model_hand F  sh hs σ v1 r.1 r.2 h1⟩
  · cases h
def jtb_Model_goodMoves : List (Nat × Instr) := [(0, .iconst 0), (1, .istore_n 1), (2, .iconst 1), (3, .istore_n 2), (4, .iload_n 2), (5, .bipush 12), (7, .if_icmp .gt 77), (10, .iconst 0), (11, .istore_n 3), (12, .iload_n 3), (13, .aload_n 0), (14, .getfield 39), (17, .iload_n 2), (18, .iaload), (19, .if_icmp .ge 59), (22, .aload_n 0), (23, .getfield 81), (26, .iload_n 2), (27, .iaload), (28, .ifCond .le 50), (31, .iload_n 1), (32, .aload_n 0), (33, .getfield 54), (36, .aload_n 0), (37, .aload_n 0), (38, .getfield 81), (41, .iload_n 2), (42, .aload_n 0), (43, .getfield 36), (46, .bipush 64), (48, .iload_n 2), (49, .imul), (50, .iload_n 3), (51, .iadd), (52, .iaload), (53, .invokevirtual 272), (56, .baload), (57, .ifCond .eq 12), (60, .aload_n 0), (61, .getfield 81), (64, .iload_n 2), (65, .iaload), (66, .goto 4), (69, .iconst 0), (70, .iadd), (71, .istore_n 1), (72, .iinc 3 1), (75, .goto (-63)), (78, .iinc 2 1), (81, .goto (-77)), (84, .iload_n 1), (85, .ireturn)]
theorem jtk_Model_goodMoves : jtok cX12_goodMoves jtb_Model_goodMoves = true := by decide +kernel
def jE_Model_goodMoves (F : Nat) : jxE := jmk [(36, 12, 18), (39, 12, 19), (54, 12, 25), (81, 12, 35)] [] [] [(272, (4, false), jca_Model_behind F)] 1 jc_M
set_option maxRecDepth 100000 in
set_option maxHeartbeats 4000000 in
theorem jmet_Model_goodMoves (F : Nat) (sh : List jxC) (hs : jHas sh jc_M) (σ0 : jxS) (x : Int) (σ' : jxS) (h : Model_goodMoves F σ0 = some (x, σ')) : jMC yX12_goodMoves cX12_goodMoves 4 (jrt 1) 3 71 sh σ0 [(jmr 0)] (jrv 1 x) σ' := by
  refine jMC_of (kd := 1) (by decide) rfl h ?_
  intro X hX
  have hG : jGd X (jE_Model_goodMoves F) jtb_Model_goodMoves := jGd_of hX jtk_Model_goodMoves (jcon jfl_X12_36 (jcon jfl_X12_39 (jcon jfl_X12_54 (jcon jfl_X12_81 jnil)))) jnil jnil (jcon (jsV jlk_X12_272 ⟨rfl, rfl⟩ (jad_Model_behind F sh hs)) jnil) hs
  have rr12 : ∀ (k4 : Int → Int → jxS → Option jxR) (h4 : ∀ v1 v2 σ, jRf X (k4 v1 v2 σ) 4 [some (jmr 0), some (jmi v1), some (jmi v2), none] [] σ) (fu : Nat) (v1 v2 v3 : Int) (σ : jxS), jRf X (Model_goodMoves_c12 F k4 fu v1 v2 v3 σ) 12 [some (jmr 0), some (jmi v1), some (jmi v2), some (jmi v3)] [] σ := by
    intro k4 h4 fu
    induction fu with
    | zero => intros; exact jRf_none
    | succ fu ih =>
      intro v1 v2 v3 σ
      exact jRf_by (jex_ok hG (cs := [(4, [some (.inr (some 0)), some (.inl 0), some (.inl 0), none], [], fun xs σ => match xs with
      | [v1, v2] => k4 v1 v2 σ
      | _ => none), (12, [some (.inr (some 0)), some (.inl 0), some (.inl 0), some (.inl 0)], [], fun xs σ => match xs with
      | [v1, v2, v3] => (Model_goodMoves_c12 F k4 fu) v1 v2 v3 σ
      | _ => none)]) (jcon (jl2 (fun y0 y1 => jl0 (fun σ => h4 y0 y1 σ))) (jcon (jl3 (fun y0 y1 y2 => jl0 (fun σ => ih y0 y1 y2 σ))) jnil)) 55 12 [some (jmr 0), some (jmi v1), some (jmi v2), some (jmi v3)] [] σ) rfl
  have rr4 : ∀ (fu : Nat) (v1 v2 : Int) (σ : jxS), jRf X (Model_goodMoves_c4 F fu v1 v2 σ) 4 [some (jmr 0), some (jmi v1), some (jmi v2), none] [] σ := by
    intro  fu
    induction fu with
    | zero => intros; exact jRf_none
    | succ fu ih =>
      intro v1 v2 σ
      exact jRf_by (jex_ok hG (cs := [(12, [some (.inr (some 0)), some (.inl 0), some (.inl 0), some (.inl 0)], [], fun xs σ => match xs with
      | [v1, v2, v3] => Model_goodMoves_c12 F (Model_goodMoves_c4 F fu) F v1 v2 v3 σ
      | _ => none)]) (jcon (jl3 (fun y0 y1 y2 => jl0 (fun σ => rr12 _ ih F y0 y1 y2 σ))) jnil) 55 4 [some (jmr 0), some (jmi v1), some (jmi v2), none] [] σ) rfl
  exact jRf_by (jex_ok hG (cs := [(4, [some (.inr (some 0)), some (.inl 0), some (.inl 0), none], [], fun xs σ => match xs with
      | [v1, v2] => Model_goodMoves_c4 F F v1 v2 σ
      | _ => none)]) (jcon (jl2 (fun y0 y1 => jl0 (fun σ => rr4 F y0 y1 σ))) jnil) 55 0 [some (jmr 0), none, none, none] [] σ0) rfl
theorem jad_Model_goodMoves (F : Nat) (sh : List jxC) (hs : jHas sh jc_M) : jAdV (jca_Model_goodMoves F) yX12_goodMoves cX12_goodMoves 4 1 3 71 0 sh := by
  intro as σ k x σ' h
  unfold jca_Model_goodMoves at h
  split at h
  · rename_i t0
    obtain ⟨g0, hh1⟩ := jcond h
    obtain rfl := jbeq g0
    obtain ⟨r, h1, h2⟩ := Option.bind_eq_some_iff.mp hh1
    exact ⟨_, _, h2, ⟨_, _, _, _, _, _, rfl, rfl, (hs _ (jkf_in (l := jc_M) (idx := 0) rfl)).1, rfl⟩, jmet_Model_goodMoves F  sh hs σ  r.1 r.2 h1⟩
  · cases h
def jtb_Model_state : List (Nat × Instr) := [(0, .aload_n 0), (1, .getfield 212), (4, .ifCond .eq 15), (7, .iload_n 1), (8, .i2l), (9, .lconst 0), (10, .ldc2_w 334), (13, .invokestatic 143), (16, .ifCond .ne 5), (19, .iconst (-1)), (20, .ireturn), (21, .aload_n 0), (22, .invokevirtual 328), (25, .istore_n 2), (26, .iload_n 1), (27, .tableswitch 120 0 7 #[45, 60, 67, 76, 83, 88, 106, 113]), (72, .aload_n 0), (73, .getfield 54), (76, .iload_n 2), (77, .baload), (78, .ifCond .eq 7), (81, .iconst 0), (82, .goto 4), (85, .iconst 1), (86, .ireturn), (87, .aload_n 0), (88, .getfield 57), (91, .iload_n 2), (92, .iaload), (93, .ireturn), (94, .aload_n 0), (95, .aload_n 0), (96, .getfield 81), (99, .invokevirtual 294), (102, .ireturn), (103, .aload_n 0), (104, .iload_n 2), (105, .iconst 0), (106, .invokevirtual 290), (109, .ireturn), (110, .aload_n 0), (111, .invokevirtual 336), (114, .ireturn), (115, .aload_n 0), (116, .iload_n 2), (117, .aload_n 0), (118, .getfield 81), (121, .invokevirtual 300), (124, .ifCond .eq 7), (127, .iconst 1), (128, .goto 4), (131, .iconst 0), (132, .ireturn), (133, .aload_n 0), (134, .getfield 60), (137, .iload_n 2), (138, .iaload), (139, .ireturn), (140, .aload_n 0), (141, .getfield 63), (144, .iload_n 2), (145, .iaload), (146, .ireturn), (147, .aload_n 0), (148, .iload_n 2), (149, .aload_n 0), (150, .aload_n 0), (151, .getfield 81), (154, .invokevirtual 294), (157, .invokevirtual 297), (160, .ifCond .eq 7), (163, .iconst 1), (164, .goto 4), (167, .iconst 0), (168, .ireturn)]
theorem jtk_Model_state : jtok cX12_state jtb_Model_state = true := by decide +kernel
set_option maxRecDepth 100000 in
theorem jlk_X12_336 : jLkV RX12 336 yX12_goodMoves cX12_goodMoves 4 1 0 := ⟨(jTB_at 1749 rfl rfl), (jTB_at 1751 rfl rfl), (jTB_at 86 rfl rfl), (jTB_at 115 rfl rfl), jTB_at 1752 rfl rfl, ⟨by decide, by decide, by decide +kernel⟩⟩
def jE_Model_state (F : Nat) : jxE := jmk [(54, 12, 25), (57, 12, 26), (60, 12, 27), (63, 12, 28), (81, 12, 35), (212, 12, 13)] [(334, jml 8)] [] [(143, (3, true), jca_Model_isIn F), (290, (3, false), jca_Model_genusOf F), (294, (2, false), jca_Model_nimberOfHeaps F), (297, (3, false), jca_Model_isTame F), (300, (3, false), jca_Model_isLikeNim F), (328, (1, false), jca_Model_handNumber F), (336, (1, false), jca_Model_goodMoves F)] 1 jc_M
set_option maxRecDepth 100000 in
set_option maxHeartbeats 4000000 in
theorem jmet_Model_state (F : Nat) (sh : List jxC) (hs : jHas sh jc_M) (σ0 : jxS) (v1 : Int) (x : Int) (σ' : jxS) (h : Model_state F σ0 v1 = some (x, σ')) : jMC yX12_state cX12_state 3 (jrt 1) 4 94 sh σ0 [(jmr 0), (jmi v1)] (jrv 1 x) σ' := by
  refine jMC_of (kd := 1) (by decide) rfl h ?_
  intro X hX
  have hG : jGd X (jE_Model_state F) jtb_Model_state := jGd_of hX jtk_Model_state (jcon jfl_X12_54 (jcon jfl_X12_57 (jcon jfl_X12_60 (jcon jfl_X12_63 (jcon jfl_X12_81 (jcon jfl_X12_212 jnil)))))) (jcon (jTB_at 1748 rfl rfl) jnil) jnil (jcon (jsS jlk_X12_143 ⟨rfl, rfl⟩ (jad_Model_isIn F sh hs)) (jcon (jsV jlk_X12_290 ⟨rfl, rfl⟩ (jad_Model_genusOf F sh hs)) (jcon (jsV jlk_X12_294 ⟨rfl, rfl⟩ (jad_Model_nimberOfHeaps F sh hs)) (jcon (jsV jlk_X12_297 ⟨rfl, rfl⟩ (jad_Model_isTame F sh hs)) (jcon (jsV jlk_X12_300 ⟨rfl, rfl⟩ (jad_Model_isLikeNim F sh hs)) (jcon (jsV jlk_X12_328 ⟨rfl, rfl⟩ (jad_Model_handNumber F sh hs)) (jcon (jsV jlk_X12_336 ⟨rfl, rfl⟩ (jad_Model_goodMoves F sh hs)) jnil))))))) hs
  exact jRf_by (jex_ok hG (cs := []) jnil 78 0 [some (jmr 0), some (jmi v1), none] [] σ0) rfl
theorem jad_Model_state (F : Nat) (sh : List jxC) (hs : jHas sh jc_M) : jAdV (jca_Model_state F) yX12_state cX12_state 3 1 4 94 1 sh := by
  intro as σ k x σ' h
  unfold jca_Model_state at h
  split at h
  · rename_i t0 v1
    obtain ⟨g0, hh1⟩ := jcond h
    obtain rfl := jbeq g0
    obtain ⟨r, h1, h2⟩ := Option.bind_eq_some_iff.mp hh1
    exact ⟨_, _, h2, ⟨_, _, _, _, _, _, rfl, rfl, (hs _ (jkf_in (l := jc_M) (idx := 0) rfl)).1, rfl⟩, jmet_Model_state F  sh hs σ v1 r.1 r.2 h1⟩
  · cases h
def jtb_Model_genus : List (Nat × Instr) := [(0, .aload_n 0), (1, .getfield 212), (4, .ifCond .eq 27), (7, .iload_n 1), (8, .i2l), (9, .lconst 0), (10, .ldc2_w 339), (13, .invokestatic 143), (16, .ifCond .eq 15), (19, .aload_n 0), (20, .aload_n 0), (21, .invokevirtual 328), (24, .iload_n 1), (25, .invokevirtual 290), (28, .goto 4), (31, .iconst (-1)), (32, .ireturn)]
theorem jtk_Model_genus : jtok cX12_genus jtb_Model_genus = true := by decide +kernel
def jE_Model_genus (F : Nat) : jxE := jmk [(212, 12, 13)] [(339, jml 2)] [] [(143, (3, true), jca_Model_isIn F), (290, (3, false), jca_Model_genusOf F), (328, (1, false), jca_Model_handNumber F)] 1 jc_M
set_option maxRecDepth 100000 in
set_option maxHeartbeats 4000000 in
theorem jmet_Model_genus (F : Nat) (sh : List jxC) (hs : jHas sh jc_M) (σ0 : jxS) (v1 : Int) (x : Int) (σ' : jxS) (h : Model_genus F σ0 v1 = some (x, σ')) : jMC yX12_genus cX12_genus 2 (jrt 1) 3 67 sh σ0 [(jmr 0), (jmi v1)] (jrv 1 x) σ' := by
  refine jMC_of (kd := 1) (by decide) rfl h ?_
  intro X hX
  have hG : jGd X (jE_Model_genus F) jtb_Model_genus := jGd_of hX jtk_Model_genus (jcon jfl_X12_212 jnil) (jcon (jTB_at 1757 rfl rfl) jnil) jnil (jcon (jsS jlk_X12_143 ⟨rfl, rfl⟩ (jad_Model_isIn F sh hs)) (jcon (jsV jlk_X12_290 ⟨rfl, rfl⟩ (jad_Model_genusOf F sh hs)) (jcon (jsV jlk_X12_328 ⟨rfl, rfl⟩ (jad_Model_handNumber F sh hs)) jnil))) hs
  exact jRf_by (jex_ok hG (cs := []) jnil 20 0 [some (jmr 0), some (jmi v1)] [] σ0) rfl
theorem jad_Model_genus (F : Nat) (sh : List jxC) (hs : jHas sh jc_M) : jAdV (jca_Model_genus F) yX12_genus cX12_genus 2 1 3 67 1 sh := by
  intro as σ k x σ' h
  unfold jca_Model_genus at h
  split at h
  · rename_i t0 v1
    obtain ⟨g0, hh1⟩ := jcond h
    obtain rfl := jbeq g0
    obtain ⟨r, h1, h2⟩ := Option.bind_eq_some_iff.mp hh1
    exact ⟨_, _, h2, ⟨_, _, _, _, _, _, rfl, rfl, (hs _ (jkf_in (l := jc_M) (idx := 0) rfl)).1, rfl⟩, jmet_Model_genus F  sh hs σ v1 r.1 r.2 h1⟩
  · cases h
def jtb_Model_playedOn : List (Nat × Instr) := [(0, .aload_n 0), (1, .getfield 54), (4, .aload_n 0), (5, .aload_n 0), (6, .getfield 87), (9, .invokevirtual 266), (12, .baload), (13, .ifCond .ne 7), (16, .iconst 1), (17, .goto 4), (20, .iconst 0), (21, .istore_n 1), (22, .iconst (-1)), (23, .istore_n 2), (24, .iconst 0), (25, .istore_n 3), (26, .iconst 1), (27, .istore 4), (29, .iload 4), (31, .bipush 12), (33, .if_icmp .gt 144), (36, .iconst 0), (37, .istore 5), (39, .iload 5), (41, .aload_n 0), (42, .getfield 39), (45, .iload 4), (47, .iaload), (48, .if_icmp .ge 123), (51, .aload_n 0), (52, .getfield 87), (55, .iload 4), (57, .iaload), (58, .ifCond .le 113), (61, .aload_n 0), (62, .aload_n 0), (63, .getfield 87), (66, .iload 4), (68, .aload_n 0), (69, .getfield 36), (72, .bipush 64), (74, .iload 4), (76, .imul), (77, .iload 5), (79, .iadd), (80, .iaload), (81, .invokevirtual 272), (84, .istore 6), (86, .iload_n 1), (87, .ifCond .eq 13), (90, .aload_n 0), (91, .getfield 54), (94, .iload 6), (96, .baload), (97, .ifCond .eq 68), (100, .iload_n 2), (101, .ifCond .lt 35), (104, .iload_n 1), (105, .ifCond .eq 17), (108, .aload_n 0), (109, .getfield 57), (112, .iload 6), (114, .iaload), (115, .iload_n 3), (116, .if_icmp .lt 20), (119, .goto 46), (122, .aload_n 0), (123, .getfield 57), (126, .iload 6), (128, .iaload), (129, .iload_n 3), (130, .if_icmp .gt 6), (133, .goto 32), (136, .sipush 1000), (139, .iload 4), (141, .imul), (142, .aload_n 0), (143, .getfield 36), (146, .bipush 64), (148, .iload 4), (150, .imul), (151, .iload 5), (153, .iadd), (154, .iaload), (155, .iadd), (156, .istore_n 2), (157, .aload_n 0), (158, .getfield 57), (161, .iload 6), (163, .iaload), (164, .istore_n 3), (165, .iinc 5 1), (168, .goto (-129)), (171, .iinc 4 1), (174, .goto (-145)), (177, .iload_n 2), (178, .ireturn)]
theorem jtk_Model_playedOn : jtok cX12_playedOn jtb_Model_playedOn = true := by decide +kernel
set_option maxRecDepth 100000 in
theorem jfl_X12_87 : jFl RX12 87 12 38 := ⟨RX12, TX12, 57, tyX12, rfl, by decide, jin_X12, tyX12_ok, nmX12, jow_X12, (Or.inl (jTB_at 1379 rfl rfl))⟩
def jE_Model_playedOn (F : Nat) : jxE := jmk [(36, 12, 18), (39, 12, 19), (54, 12, 25), (57, 12, 26), (87, 12, 38)] [] [] [(266, (2, false), jca_Model_numberOf F), (272, (4, false), jca_Model_behind F)] 1 jc_M
set_option maxRecDepth 100000 in
set_option maxHeartbeats 4000000 in
theorem jmet_Model_playedOn (F : Nat) (sh : List jxC) (hs : jHas sh jc_M) (σ0 : jxS) (x : Int) (σ' : jxS) (h : Model_playedOn F σ0 = some (x, σ')) : jMC yX12_playedOn cX12_playedOn 7 (jrt 1) 3 71 sh σ0 [(jmr 0)] (jrv 1 x) σ' := by
  refine jMC_of (kd := 1) (by decide) rfl h ?_
  intro X hX
  have hG : jGd X (jE_Model_playedOn F) jtb_Model_playedOn := jGd_of hX jtk_Model_playedOn (jcon jfl_X12_36 (jcon jfl_X12_39 (jcon jfl_X12_54 (jcon jfl_X12_57 (jcon jfl_X12_87 jnil))))) jnil jnil (jcon (jsV jlk_X12_266 ⟨rfl, rfl⟩ (jad_Model_numberOf F sh hs)) (jcon (jsV jlk_X12_272 ⟨rfl, rfl⟩ (jad_Model_behind F sh hs)) jnil)) hs
  have rr136 : ∀ (k29 : Int → Int → Int → Int → jxS → Option jxR) (h29 : ∀ v1 v2 v3 v4 σ, jRf X (k29 v1 v2 v3 v4 σ) 29 [some (jmr 0), some (jmi v1), some (jmi v2), some (jmi v3), some (jmi v4), none, none] [] σ) (k39 : Int → Int → Int → Int → Int → jxS → Option jxR) (h39 : ∀ v1 v2 v3 v4 v5 σ, jRf X (k39 v1 v2 v3 v4 v5 σ) 39 [some (jmr 0), some (jmi v1), some (jmi v2), some (jmi v3), some (jmi v4), some (jmi v5), none] [] σ) (v1 v4 v5 v6 : Int) (σ : jxS), jRf X (Model_playedOn_c136 F k29 k39 v1 v4 v5 v6 σ) 136 [some (jmr 0), some (jmi v1), none, none, some (jmi v4), some (jmi v5), some (jmi v6)] [] σ := by
    intro k29 h29 k39 h39 v1 v4 v5 v6 σ
    exact jRf_by (jex_ok hG (cs := [(39, [some (.inr (some 0)), some (.inl 0), some (.inl 0), some (.inl 0), some (.inl 0), some (.inl 0), none], [], fun xs σ => match xs with
      | [v1, v2, v3, v4, v5] => k39 v1 v2 v3 v4 v5 σ
      | _ => none)]) (jcon (jl5 (fun y0 y1 y2 y3 y4 => jl0 (fun σ => h39 y0 y1 y2 y3 y4 σ))) jnil) 100 136 [some (jmr 0), some (jmi v1), none, none, some (jmi v4), some (jmi v5), some (jmi v6)] [] σ) rfl
  have rr100 : ∀ (k29 : Int → Int → Int → Int → jxS → Option jxR) (h29 : ∀ v1 v2 v3 v4 σ, jRf X (k29 v1 v2 v3 v4 σ) 29 [some (jmr 0), some (jmi v1), some (jmi v2), some (jmi v3), some (jmi v4), none, none] [] σ) (k39 : Int → Int → Int → Int → Int → jxS → Option jxR) (h39 : ∀ v1 v2 v3 v4 v5 σ, jRf X (k39 v1 v2 v3 v4 v5 σ) 39 [some (jmr 0), some (jmi v1), some (jmi v2), some (jmi v3), some (jmi v4), some (jmi v5), none] [] σ) (v1 v2 v3 v4 v5 v6 : Int) (σ : jxS), jRf X (Model_playedOn_c100 F k29 k39 v1 v2 v3 v4 v5 v6 σ) 100 [some (jmr 0), some (jmi v1), some (jmi v2), some (jmi v3), some (jmi v4), some (jmi v5), some (jmi v6)] [] σ := by
    intro k29 h29 k39 h39 v1 v2 v3 v4 v5 v6 σ
    exact jRf_by (jex_ok hG (cs := [(39, [some (.inr (some 0)), some (.inl 0), some (.inl 0), some (.inl 0), some (.inl 0), some (.inl 0), none], [], fun xs σ => match xs with
      | [v1, v2, v3, v4, v5] => k39 v1 v2 v3 v4 v5 σ
      | _ => none), (136, [some (.inr (some 0)), some (.inl 0), none, none, some (.inl 0), some (.inl 0), some (.inl 0)], [], fun xs σ => match xs with
      | [v1, v4, v5, v6] => Model_playedOn_c136 F k29 k39 v1 v4 v5 v6 σ
      | _ => none)]) (jcon (jl5 (fun y0 y1 y2 y3 y4 => jl0 (fun σ => h39 y0 y1 y2 y3 y4 σ))) (jcon (jl4 (fun y0 y1 y2 y3 => jl0 (fun σ => rr136 _ h29 _ h39 y0 y1 y2 y3 σ))) jnil)) 100 100 [some (jmr 0), some (jmi v1), some (jmi v2), some (jmi v3), some (jmi v4), some (jmi v5), some (jmi v6)] [] σ) rfl
  have rr39 : ∀ (k29 : Int → Int → Int → Int → jxS → Option jxR) (h29 : ∀ v1 v2 v3 v4 σ, jRf X (k29 v1 v2 v3 v4 σ) 29 [some (jmr 0), some (jmi v1), some (jmi v2), some (jmi v3), some (jmi v4), none, none] [] σ) (fu : Nat) (v1 v2 v3 v4 v5 : Int) (σ : jxS), jRf X (Model_playedOn_c39 F k29 fu v1 v2 v3 v4 v5 σ) 39 [some (jmr 0), some (jmi v1), some (jmi v2), some (jmi v3), some (jmi v4), some (jmi v5), none] [] σ := by
    intro k29 h29 fu
    induction fu with
    | zero => intros; exact jRf_none
    | succ fu ih =>
      intro v1 v2 v3 v4 v5 σ
      exact jRf_by (jex_ok hG (cs := [(29, [some (.inr (some 0)), some (.inl 0), some (.inl 0), some (.inl 0), some (.inl 0), none, none], [], fun xs σ => match xs with
      | [v1, v2, v3, v4] => k29 v1 v2 v3 v4 σ
      | _ => none), (39, [some (.inr (some 0)), some (.inl 0), some (.inl 0), some (.inl 0), some (.inl 0), some (.inl 0), none], [], fun xs σ => match xs with
      | [v1, v2, v3, v4, v5] => (Model_playedOn_c39 F k29 fu) v1 v2 v3 v4 v5 σ
      | _ => none), (100, [some (.inr (some 0)), some (.inl 0), some (.inl 0), some (.inl 0), some (.inl 0), some (.inl 0), some (.inl 0)], [], fun xs σ => match xs with
      | [v1, v2, v3, v4, v5, v6] => Model_playedOn_c100 F k29 (Model_playedOn_c39 F k29 fu) v1 v2 v3 v4 v5 v6 σ
      | _ => none)]) (jcon (jl4 (fun y0 y1 y2 y3 => jl0 (fun σ => h29 y0 y1 y2 y3 σ))) (jcon (jl5 (fun y0 y1 y2 y3 y4 => jl0 (fun σ => ih y0 y1 y2 y3 y4 σ))) (jcon (jl6 (fun y0 y1 y2 y3 y4 y5 => jl0 (fun σ => rr100 _ h29 _ ih y0 y1 y2 y3 y4 y5 σ))) jnil))) 100 39 [some (jmr 0), some (jmi v1), some (jmi v2), some (jmi v3), some (jmi v4), some (jmi v5), none] [] σ) rfl
  have rr29 : ∀ (fu : Nat) (v1 v2 v3 v4 : Int) (σ : jxS), jRf X (Model_playedOn_c29 F fu v1 v2 v3 v4 σ) 29 [some (jmr 0), some (jmi v1), some (jmi v2), some (jmi v3), some (jmi v4), none, none] [] σ := by
    intro  fu
    induction fu with
    | zero => intros; exact jRf_none
    | succ fu ih =>
      intro v1 v2 v3 v4 σ
      exact jRf_by (jex_ok hG (cs := [(39, [some (.inr (some 0)), some (.inl 0), some (.inl 0), some (.inl 0), some (.inl 0), some (.inl 0), none], [], fun xs σ => match xs with
      | [v1, v2, v3, v4, v5] => Model_playedOn_c39 F (Model_playedOn_c29 F fu) F v1 v2 v3 v4 v5 σ
      | _ => none)]) (jcon (jl5 (fun y0 y1 y2 y3 y4 => jl0 (fun σ => rr39 _ ih F y0 y1 y2 y3 y4 σ))) jnil) 100 29 [some (jmr 0), some (jmi v1), some (jmi v2), some (jmi v3), some (jmi v4), none, none] [] σ) rfl
  have rr21 : ∀ (t0 : Int) (σ : jxS), jRf X (Model_playedOn_c21 F t0 σ) 21 [some (jmr 0), none, none, none, none, none, none] [(jmi t0)] σ := by
    intro  t0 σ
    exact jRf_by (jex_ok hG (cs := [(29, [some (.inr (some 0)), some (.inl 0), some (.inl 0), some (.inl 0), some (.inl 0), none, none], [], fun xs σ => match xs with
      | [v1, v2, v3, v4] => Model_playedOn_c29 F F v1 v2 v3 v4 σ
      | _ => none)]) (jcon (jl4 (fun y0 y1 y2 y3 => jl0 (fun σ => rr29 F y0 y1 y2 y3 σ))) jnil) 100 21 [some (jmr 0), none, none, none, none, none, none] [(jmi t0)] σ) rfl
  exact jRf_by (jex_ok hG (cs := [(21, [some (.inr (some 0)), none, none, none, none, none, none], [(.inl 0)], fun xs σ => match xs with
      | [t0] => Model_playedOn_c21 F t0 σ
      | _ => none)]) (jcon (jl0 (jl1 (fun y0 => (fun σ => rr21 y0 σ)))) jnil) 100 0 [some (jmr 0), none, none, none, none, none, none] [] σ0) rfl
theorem jad_Model_playedOn (F : Nat) (sh : List jxC) (hs : jHas sh jc_M) : jAdV (jca_Model_playedOn F) yX12_playedOn cX12_playedOn 7 1 3 71 0 sh := by
  intro as σ k x σ' h
  unfold jca_Model_playedOn at h
  split at h
  · rename_i t0
    obtain ⟨g0, hh1⟩ := jcond h
    obtain rfl := jbeq g0
    obtain ⟨r, h1, h2⟩ := Option.bind_eq_some_iff.mp hh1
    exact ⟨_, _, h2, ⟨_, _, _, _, _, _, rfl, rfl, (hs _ (jkf_in (l := jc_M) (idx := 0) rfl)).1, rfl⟩, jmet_Model_playedOn F  sh hs σ  r.1 r.2 h1⟩
  · cases h
