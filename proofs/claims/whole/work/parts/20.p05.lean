/-! Contracts: Quotient_elementFor Quotient_build LL1_quotientOf -/
def jtb_Quotient_elementFor : List (Nat × Instr) := [(0, .iconst 0), (1, .istore 4), (3, .iload 4), (5, .aload_n 0), (6, .getfield 37), (9, .if_icmp .ge 31), (12, .iload 4), (14, .bipush 16), (16, .if_icmp .ge 24), (19, .aload_n 0), (20, .getfield 15), (23, .iload 4), (25, .laload), (26, .lload_n 2), (27, .lcmp), (28, .ifCond .ne 6), (31, .iload 4), (33, .ireturn), (34, .iinc 4 1), (37, .goto (-34)), (40, .aload_n 0), (41, .getfield 37), (44, .bipush 16), (46, .if_icmp .lt 5), (49, .iconst (-1)), (50, .ireturn), (51, .aload_n 0), (52, .getfield 9), (55, .aload_n 0), (56, .getfield 37), (59, .iload_n 1), (60, .iastore), (61, .aload_n 0), (62, .getfield 15), (65, .aload_n 0), (66, .getfield 37), (69, .lload_n 2), (70, .lastore), (71, .aload_n 0), (72, .dup), (73, .getfield 37), (76, .iconst 1), (77, .iadd), (78, .putfield 37), (81, .aload_n 0), (82, .getfield 37), (85, .iconst 1), (86, .isub), (87, .ireturn)]
theorem jtk_Quotient_elementFor : jtok cX6_elementFor jtb_Quotient_elementFor = true := by decide +kernel
set_option maxRecDepth 100000 in
theorem jfl_X6_9 : jFl RX6 9 6 3 := ⟨RX6, TX6, 10, tyX6, rfl, by decide, jin_X6, tyX6_ok, nmX6, jow_X6, (Or.inl (jTB_at 606 rfl rfl))⟩
set_option maxRecDepth 100000 in
theorem jfl_X6_15 : jFl RX6 15 6 4 := ⟨RX6, TX6, 10, tyX6, rfl, by decide, jin_X6, tyX6_ok, nmX6, jow_X6, (Or.inl (jTB_at 607 rfl rfl))⟩
def jE_Quotient_elementFor (F : Nat) : jxE := jmk [(9, 6, 3), (15, 6, 4), (37, 6, 7)] [] [] [] 1 jc_C
set_option maxRecDepth 100000 in
set_option maxHeartbeats 4000000 in
theorem jmet_Quotient_elementFor_48 (F : Nat) (sh : List jxC) (hs : jHas sh jc_C) (σ0 : jxS) (v1 : Int) (v2 : Int) (x : Int) (σ' : jxS) (h : Quotient_elementFor F 48 σ0 v1 v2 = some (x, σ')) : jMC yX6_elementFor cX6_elementFor 5 (jrt 1) 0 0 sh σ0 [(jmr 48), (jmi v1), (jml v2)] (jrv 1 x) σ' := by
  refine jMC_of (kd := 1) (by decide) rfl h ?_
  intro X hX
  have hG : jGd X (jE_Quotient_elementFor F) jtb_Quotient_elementFor := jGd_of hX jtk_Quotient_elementFor (jcon jfl_X6_9 (jcon jfl_X6_15 (jcon jfl_X6_37 jnil))) jnil jnil jnil hs
  have rr40 : ∀ (v1 v2 : Int) (σ : jxS), jRf X (Quotient_elementFor_c40 F 48 v1 v2 σ) 40 [some (jmr 48), some (jmi v1), some (jml v2), none, none] [] σ := by
    intro  v1 v2 σ
    exact jRf_by (jex_ok hG (cs := []) jnil 52 40 [some (jmr 48), some (jmi v1), some (jml v2), none, none] [] σ) rfl
  have rr3 : ∀ (fu : Nat) (v1 v2 v4 : Int) (σ : jxS), jRf X (Quotient_elementFor_c3 F 48 fu v1 v2 v4 σ) 3 [some (jmr 48), some (jmi v1), some (jml v2), none, some (jmi v4)] [] σ := by
    intro  fu
    induction fu with
    | zero => intros; exact jRf_none
    | succ fu ih =>
      intro v1 v2 v4 σ
      exact jRf_by (jex_ok hG (cs := [(3, [some (.inr (some 48)), some (.inl 0), some (.inl 1), none, some (.inl 0)], [], fun xs σ => match xs with
      | [v1, v2, v4] => (Quotient_elementFor_c3 F 48 fu) v1 v2 v4 σ
      | _ => none), (40, [some (.inr (some 48)), some (.inl 0), some (.inl 1), none, none], [], fun xs σ => match xs with
      | [v1, v2] => Quotient_elementFor_c40 F 48 v1 v2 σ
      | _ => none)]) (jcon (jl3 (fun y0 y1 y2 => jl0 (fun σ => ih y0 y1 y2 σ))) (jcon (jl2 (fun y0 y1 => jl0 (fun σ => rr40 y0 y1 σ))) jnil)) 52 3 [some (jmr 48), some (jmi v1), some (jml v2), none, some (jmi v4)] [] σ) rfl
  exact jRf_by (jex_ok hG (cs := [(3, [some (.inr (some 48)), some (.inl 0), some (.inl 1), none, some (.inl 0)], [], fun xs σ => match xs with
      | [v1, v2, v4] => Quotient_elementFor_c3 F 48 F v1 v2 v4 σ
      | _ => none)]) (jcon (jl3 (fun y0 y1 y2 => jl0 (fun σ => rr3 F y0 y1 y2 σ))) jnil) 52 0 [some (jmr 48), some (jmi v1), some (jml v2), none, none] [] σ0) rfl
set_option maxRecDepth 100000 in
set_option maxHeartbeats 4000000 in
theorem jmet_Quotient_elementFor_53 (F : Nat) (sh : List jxC) (hs : jHas sh jc_C) (σ0 : jxS) (v1 : Int) (v2 : Int) (x : Int) (σ' : jxS) (h : Quotient_elementFor F 53 σ0 v1 v2 = some (x, σ')) : jMC yX6_elementFor cX6_elementFor 5 (jrt 1) 0 0 sh σ0 [(jmr 53), (jmi v1), (jml v2)] (jrv 1 x) σ' := by
  refine jMC_of (kd := 1) (by decide) rfl h ?_
  intro X hX
  have hG : jGd X (jE_Quotient_elementFor F) jtb_Quotient_elementFor := jGd_of hX jtk_Quotient_elementFor (jcon jfl_X6_9 (jcon jfl_X6_15 (jcon jfl_X6_37 jnil))) jnil jnil jnil hs
  have rr40 : ∀ (v1 v2 : Int) (σ : jxS), jRf X (Quotient_elementFor_c40 F 53 v1 v2 σ) 40 [some (jmr 53), some (jmi v1), some (jml v2), none, none] [] σ := by
    intro  v1 v2 σ
    exact jRf_by (jex_ok hG (cs := []) jnil 52 40 [some (jmr 53), some (jmi v1), some (jml v2), none, none] [] σ) rfl
  have rr3 : ∀ (fu : Nat) (v1 v2 v4 : Int) (σ : jxS), jRf X (Quotient_elementFor_c3 F 53 fu v1 v2 v4 σ) 3 [some (jmr 53), some (jmi v1), some (jml v2), none, some (jmi v4)] [] σ := by
    intro  fu
    induction fu with
    | zero => intros; exact jRf_none
    | succ fu ih =>
      intro v1 v2 v4 σ
      exact jRf_by (jex_ok hG (cs := [(3, [some (.inr (some 53)), some (.inl 0), some (.inl 1), none, some (.inl 0)], [], fun xs σ => match xs with
      | [v1, v2, v4] => (Quotient_elementFor_c3 F 53 fu) v1 v2 v4 σ
      | _ => none), (40, [some (.inr (some 53)), some (.inl 0), some (.inl 1), none, none], [], fun xs σ => match xs with
      | [v1, v2] => Quotient_elementFor_c40 F 53 v1 v2 σ
      | _ => none)]) (jcon (jl3 (fun y0 y1 y2 => jl0 (fun σ => ih y0 y1 y2 σ))) (jcon (jl2 (fun y0 y1 => jl0 (fun σ => rr40 y0 y1 σ))) jnil)) 52 3 [some (jmr 53), some (jmi v1), some (jml v2), none, some (jmi v4)] [] σ) rfl
  exact jRf_by (jex_ok hG (cs := [(3, [some (.inr (some 53)), some (.inl 0), some (.inl 1), none, some (.inl 0)], [], fun xs σ => match xs with
      | [v1, v2, v4] => Quotient_elementFor_c3 F 53 F v1 v2 v4 σ
      | _ => none)]) (jcon (jl3 (fun y0 y1 y2 => jl0 (fun σ => rr3 F y0 y1 y2 σ))) jnil) 52 0 [some (jmr 53), some (jmi v1), some (jml v2), none, none] [] σ0) rfl
set_option maxRecDepth 100000 in
set_option maxHeartbeats 4000000 in
theorem jmet_Quotient_elementFor_58 (F : Nat) (sh : List jxC) (hs : jHas sh jc_C) (σ0 : jxS) (v1 : Int) (v2 : Int) (x : Int) (σ' : jxS) (h : Quotient_elementFor F 58 σ0 v1 v2 = some (x, σ')) : jMC yX6_elementFor cX6_elementFor 5 (jrt 1) 0 0 sh σ0 [(jmr 58), (jmi v1), (jml v2)] (jrv 1 x) σ' := by
  refine jMC_of (kd := 1) (by decide) rfl h ?_
  intro X hX
  have hG : jGd X (jE_Quotient_elementFor F) jtb_Quotient_elementFor := jGd_of hX jtk_Quotient_elementFor (jcon jfl_X6_9 (jcon jfl_X6_15 (jcon jfl_X6_37 jnil))) jnil jnil jnil hs
  have rr40 : ∀ (v1 v2 : Int) (σ : jxS), jRf X (Quotient_elementFor_c40 F 58 v1 v2 σ) 40 [some (jmr 58), some (jmi v1), some (jml v2), none, none] [] σ := by
    intro  v1 v2 σ
    exact jRf_by (jex_ok hG (cs := []) jnil 52 40 [some (jmr 58), some (jmi v1), some (jml v2), none, none] [] σ) rfl
  have rr3 : ∀ (fu : Nat) (v1 v2 v4 : Int) (σ : jxS), jRf X (Quotient_elementFor_c3 F 58 fu v1 v2 v4 σ) 3 [some (jmr 58), some (jmi v1), some (jml v2), none, some (jmi v4)] [] σ := by
    intro  fu
    induction fu with
    | zero => intros; exact jRf_none
    | succ fu ih =>
      intro v1 v2 v4 σ
      exact jRf_by (jex_ok hG (cs := [(3, [some (.inr (some 58)), some (.inl 0), some (.inl 1), none, some (.inl 0)], [], fun xs σ => match xs with
      | [v1, v2, v4] => (Quotient_elementFor_c3 F 58 fu) v1 v2 v4 σ
      | _ => none), (40, [some (.inr (some 58)), some (.inl 0), some (.inl 1), none, none], [], fun xs σ => match xs with
      | [v1, v2] => Quotient_elementFor_c40 F 58 v1 v2 σ
      | _ => none)]) (jcon (jl3 (fun y0 y1 y2 => jl0 (fun σ => ih y0 y1 y2 σ))) (jcon (jl2 (fun y0 y1 => jl0 (fun σ => rr40 y0 y1 σ))) jnil)) 52 3 [some (jmr 58), some (jmi v1), some (jml v2), none, some (jmi v4)] [] σ) rfl
  exact jRf_by (jex_ok hG (cs := [(3, [some (.inr (some 58)), some (.inl 0), some (.inl 1), none, some (.inl 0)], [], fun xs σ => match xs with
      | [v1, v2, v4] => Quotient_elementFor_c3 F 58 F v1 v2 v4 σ
      | _ => none)]) (jcon (jl3 (fun y0 y1 y2 => jl0 (fun σ => rr3 F y0 y1 y2 σ))) jnil) 52 0 [some (jmr 58), some (jmi v1), some (jml v2), none, none] [] σ0) rfl
set_option maxRecDepth 100000 in
set_option maxHeartbeats 4000000 in
theorem jmet_Quotient_elementFor_63 (F : Nat) (sh : List jxC) (hs : jHas sh jc_C) (σ0 : jxS) (v1 : Int) (v2 : Int) (x : Int) (σ' : jxS) (h : Quotient_elementFor F 63 σ0 v1 v2 = some (x, σ')) : jMC yX6_elementFor cX6_elementFor 5 (jrt 1) 0 0 sh σ0 [(jmr 63), (jmi v1), (jml v2)] (jrv 1 x) σ' := by
  refine jMC_of (kd := 1) (by decide) rfl h ?_
  intro X hX
  have hG : jGd X (jE_Quotient_elementFor F) jtb_Quotient_elementFor := jGd_of hX jtk_Quotient_elementFor (jcon jfl_X6_9 (jcon jfl_X6_15 (jcon jfl_X6_37 jnil))) jnil jnil jnil hs
  have rr40 : ∀ (v1 v2 : Int) (σ : jxS), jRf X (Quotient_elementFor_c40 F 63 v1 v2 σ) 40 [some (jmr 63), some (jmi v1), some (jml v2), none, none] [] σ := by
    intro  v1 v2 σ
    exact jRf_by (jex_ok hG (cs := []) jnil 52 40 [some (jmr 63), some (jmi v1), some (jml v2), none, none] [] σ) rfl
  have rr3 : ∀ (fu : Nat) (v1 v2 v4 : Int) (σ : jxS), jRf X (Quotient_elementFor_c3 F 63 fu v1 v2 v4 σ) 3 [some (jmr 63), some (jmi v1), some (jml v2), none, some (jmi v4)] [] σ := by
    intro  fu
    induction fu with
    | zero => intros; exact jRf_none
    | succ fu ih =>
      intro v1 v2 v4 σ
      exact jRf_by (jex_ok hG (cs := [(3, [some (.inr (some 63)), some (.inl 0), some (.inl 1), none, some (.inl 0)], [], fun xs σ => match xs with
      | [v1, v2, v4] => (Quotient_elementFor_c3 F 63 fu) v1 v2 v4 σ
      | _ => none), (40, [some (.inr (some 63)), some (.inl 0), some (.inl 1), none, none], [], fun xs σ => match xs with
      | [v1, v2] => Quotient_elementFor_c40 F 63 v1 v2 σ
      | _ => none)]) (jcon (jl3 (fun y0 y1 y2 => jl0 (fun σ => ih y0 y1 y2 σ))) (jcon (jl2 (fun y0 y1 => jl0 (fun σ => rr40 y0 y1 σ))) jnil)) 52 3 [some (jmr 63), some (jmi v1), some (jml v2), none, some (jmi v4)] [] σ) rfl
  exact jRf_by (jex_ok hG (cs := [(3, [some (.inr (some 63)), some (.inl 0), some (.inl 1), none, some (.inl 0)], [], fun xs σ => match xs with
      | [v1, v2, v4] => Quotient_elementFor_c3 F 63 F v1 v2 v4 σ
      | _ => none)]) (jcon (jl3 (fun y0 y1 y2 => jl0 (fun σ => rr3 F y0 y1 y2 σ))) jnil) 52 0 [some (jmr 63), some (jmi v1), some (jml v2), none, none] [] σ0) rfl
set_option maxRecDepth 100000 in
set_option maxHeartbeats 4000000 in
theorem jmet_Quotient_elementFor_68 (F : Nat) (sh : List jxC) (hs : jHas sh jc_C) (σ0 : jxS) (v1 : Int) (v2 : Int) (x : Int) (σ' : jxS) (h : Quotient_elementFor F 68 σ0 v1 v2 = some (x, σ')) : jMC yX6_elementFor cX6_elementFor 5 (jrt 1) 0 0 sh σ0 [(jmr 68), (jmi v1), (jml v2)] (jrv 1 x) σ' := by
  refine jMC_of (kd := 1) (by decide) rfl h ?_
  intro X hX
  have hG : jGd X (jE_Quotient_elementFor F) jtb_Quotient_elementFor := jGd_of hX jtk_Quotient_elementFor (jcon jfl_X6_9 (jcon jfl_X6_15 (jcon jfl_X6_37 jnil))) jnil jnil jnil hs
  have rr40 : ∀ (v1 v2 : Int) (σ : jxS), jRf X (Quotient_elementFor_c40 F 68 v1 v2 σ) 40 [some (jmr 68), some (jmi v1), some (jml v2), none, none] [] σ := by
    intro  v1 v2 σ
    exact jRf_by (jex_ok hG (cs := []) jnil 52 40 [some (jmr 68), some (jmi v1), some (jml v2), none, none] [] σ) rfl
  have rr3 : ∀ (fu : Nat) (v1 v2 v4 : Int) (σ : jxS), jRf X (Quotient_elementFor_c3 F 68 fu v1 v2 v4 σ) 3 [some (jmr 68), some (jmi v1), some (jml v2), none, some (jmi v4)] [] σ := by
    intro  fu
    induction fu with
    | zero => intros; exact jRf_none
    | succ fu ih =>
      intro v1 v2 v4 σ
      exact jRf_by (jex_ok hG (cs := [(3, [some (.inr (some 68)), some (.inl 0), some (.inl 1), none, some (.inl 0)], [], fun xs σ => match xs with
      | [v1, v2, v4] => (Quotient_elementFor_c3 F 68 fu) v1 v2 v4 σ
      | _ => none), (40, [some (.inr (some 68)), some (.inl 0), some (.inl 1), none, none], [], fun xs σ => match xs with
      | [v1, v2] => Quotient_elementFor_c40 F 68 v1 v2 σ
      | _ => none)]) (jcon (jl3 (fun y0 y1 y2 => jl0 (fun σ => ih y0 y1 y2 σ))) (jcon (jl2 (fun y0 y1 => jl0 (fun σ => rr40 y0 y1 σ))) jnil)) 52 3 [some (jmr 68), some (jmi v1), some (jml v2), none, some (jmi v4)] [] σ) rfl
  exact jRf_by (jex_ok hG (cs := [(3, [some (.inr (some 68)), some (.inl 0), some (.inl 1), none, some (.inl 0)], [], fun xs σ => match xs with
      | [v1, v2, v4] => Quotient_elementFor_c3 F 68 F v1 v2 v4 σ
      | _ => none)]) (jcon (jl3 (fun y0 y1 y2 => jl0 (fun σ => rr3 F y0 y1 y2 σ))) jnil) 52 0 [some (jmr 68), some (jmi v1), some (jml v2), none, none] [] σ0) rfl
set_option maxRecDepth 100000 in
set_option maxHeartbeats 4000000 in
theorem jmet_Quotient_elementFor_73 (F : Nat) (sh : List jxC) (hs : jHas sh jc_C) (σ0 : jxS) (v1 : Int) (v2 : Int) (x : Int) (σ' : jxS) (h : Quotient_elementFor F 73 σ0 v1 v2 = some (x, σ')) : jMC yX6_elementFor cX6_elementFor 5 (jrt 1) 0 0 sh σ0 [(jmr 73), (jmi v1), (jml v2)] (jrv 1 x) σ' := by
  refine jMC_of (kd := 1) (by decide) rfl h ?_
  intro X hX
  have hG : jGd X (jE_Quotient_elementFor F) jtb_Quotient_elementFor := jGd_of hX jtk_Quotient_elementFor (jcon jfl_X6_9 (jcon jfl_X6_15 (jcon jfl_X6_37 jnil))) jnil jnil jnil hs
  have rr40 : ∀ (v1 v2 : Int) (σ : jxS), jRf X (Quotient_elementFor_c40 F 73 v1 v2 σ) 40 [some (jmr 73), some (jmi v1), some (jml v2), none, none] [] σ := by
    intro  v1 v2 σ
    exact jRf_by (jex_ok hG (cs := []) jnil 52 40 [some (jmr 73), some (jmi v1), some (jml v2), none, none] [] σ) rfl
  have rr3 : ∀ (fu : Nat) (v1 v2 v4 : Int) (σ : jxS), jRf X (Quotient_elementFor_c3 F 73 fu v1 v2 v4 σ) 3 [some (jmr 73), some (jmi v1), some (jml v2), none, some (jmi v4)] [] σ := by
    intro  fu
    induction fu with
    | zero => intros; exact jRf_none
    | succ fu ih =>
      intro v1 v2 v4 σ
      exact jRf_by (jex_ok hG (cs := [(3, [some (.inr (some 73)), some (.inl 0), some (.inl 1), none, some (.inl 0)], [], fun xs σ => match xs with
      | [v1, v2, v4] => (Quotient_elementFor_c3 F 73 fu) v1 v2 v4 σ
      | _ => none), (40, [some (.inr (some 73)), some (.inl 0), some (.inl 1), none, none], [], fun xs σ => match xs with
      | [v1, v2] => Quotient_elementFor_c40 F 73 v1 v2 σ
      | _ => none)]) (jcon (jl3 (fun y0 y1 y2 => jl0 (fun σ => ih y0 y1 y2 σ))) (jcon (jl2 (fun y0 y1 => jl0 (fun σ => rr40 y0 y1 σ))) jnil)) 52 3 [some (jmr 73), some (jmi v1), some (jml v2), none, some (jmi v4)] [] σ) rfl
  exact jRf_by (jex_ok hG (cs := [(3, [some (.inr (some 73)), some (.inl 0), some (.inl 1), none, some (.inl 0)], [], fun xs σ => match xs with
      | [v1, v2, v4] => Quotient_elementFor_c3 F 73 F v1 v2 v4 σ
      | _ => none)]) (jcon (jl3 (fun y0 y1 y2 => jl0 (fun σ => rr3 F y0 y1 y2 σ))) jnil) 52 0 [some (jmr 73), some (jmi v1), some (jml v2), none, none] [] σ0) rfl
theorem jmet_Quotient_elementFor (F : Nat) (q : Nat) (hq : q ∈ jids_Quotient_elementFor_q) (sh : List jxC) (hs : jHas sh jc_C) (σ0 : jxS) (v1 : Int) (v2 : Int) (x : Int) (σ' : jxS) (h : Quotient_elementFor F q σ0 v1 v2 = some (x, σ')) : jMC yX6_elementFor cX6_elementFor 5 (jrt 1) 0 0 sh σ0 [(jmr q), (jmi v1), (jml v2)] (jrv 1 x) σ' := by
  simp only [jids_Quotient_elementFor_q, List.mem_cons, List.not_mem_nil, or_false] at hq
  rcases hq with rfl | rfl | rfl | rfl | rfl | rfl
  · exact jmet_Quotient_elementFor_48 F sh hs σ0 v1 v2 x σ' h
  · exact jmet_Quotient_elementFor_53 F sh hs σ0 v1 v2 x σ' h
  · exact jmet_Quotient_elementFor_58 F sh hs σ0 v1 v2 x σ' h
  · exact jmet_Quotient_elementFor_63 F sh hs σ0 v1 v2 x σ' h
  · exact jmet_Quotient_elementFor_68 F sh hs σ0 v1 v2 x σ' h
  · exact jmet_Quotient_elementFor_73 F sh hs σ0 v1 v2 x σ' h
theorem jad_Quotient_elementFor (F : Nat) (sh : List jxC) (hs : jHas sh jc_C) : jAdV (jca_Quotient_elementFor F) yX6_elementFor cX6_elementFor 5 1 0 0 2 sh := by
  intro as σ k x σ' h
  unfold jca_Quotient_elementFor at h
  split at h
  · rename_i t0 v1 v2
    obtain ⟨g0, hh1⟩ := jcond h
    have g0 := jin_of g0
    obtain ⟨r, h1, h2⟩ := Option.bind_eq_some_iff.mp hh1
    exact ⟨_, _, h2, (by obtain ⟨fks, hfk⟩ := jrc_Quotient hs g0; exact ⟨_, _, _, _, _, _, rfl, rfl, hfk, rfl⟩), jmet_Quotient_elementFor F t0 g0 sh hs σ v1 v2 r.1 r.2 h1⟩
  · cases h
def jtb_Quotient_build : List (Nat × Instr) := [(0, .aload_n 0), (1, .getfield 37), (4, .ifCond .eq 4), (7, .return_), (8, .aload_n 0), (9, .getfield 33), (12, .aload_n 0), (13, .getfield 25), (16, .invokevirtual 47), (19, .lstore_n 1), (20, .aload_n 0), (21, .iconst 1), (22, .putfield 37), (25, .aload_n 0), (26, .getfield 9), (29, .iconst 0), (30, .iconst 0), (31, .iastore), (32, .aload_n 0), (33, .getfield 15), (36, .iconst 0), (37, .aload_n 0), (38, .getfield 33), (41, .iconst 0), (42, .invokevirtual 53), (45, .lload_n 1), (46, .land), (47, .lastore), (48, .iconst 0), (49, .istore_n 3), (50, .iload_n 3), (51, .aload_n 0), (52, .getfield 37), (55, .if_icmp .ge 126), (58, .iload_n 3), (59, .bipush 16), (61, .if_icmp .ge 120), (64, .iconst 1), (65, .istore 4), (67, .iload 4), (69, .aload_n 0), (70, .getfield 25), (73, .if_icmp .gt 102), (76, .aload_n 0), (77, .getfield 37), (80, .ifCond .le 95), (83, .aload_n 0), (84, .getfield 29), (87, .aload_n 0), (88, .getfield 9), (91, .iload_n 3), (92, .iaload), (93, .iload 4), (95, .invokevirtual 56), (98, .istore 5), (100, .aload_n 0), (101, .getfield 33), (104, .iload 5), (106, .invokevirtual 62), (109, .istore 6), (111, .iload 6), (113, .ifCond .eq 23), (116, .aload_n 0), (117, .iload 5), (119, .aload_n 0), (120, .getfield 33), (123, .iload 5), (125, .invokevirtual 53), (128, .lload_n 1), (129, .land), (130, .invokevirtual 66), (133, .goto 4), (136, .iconst (-1)), (137, .istore 7), (139, .iload 7), (141, .ifCond .ge 12), (144, .aload_n 0), (145, .bipush (-3)), (147, .putfield 37), (150, .goto 19), (153, .aload_n 0), (154, .getfield 19), (157, .iload_n 3), (158, .bipush 6), (160, .imul), (161, .iload 4), (163, .iadd), (164, .iconst 1), (165, .isub), (166, .iload 7), (168, .iastore), (169, .iinc 4 1), (172, .goto (-105)), (175, .iinc 3 1), (178, .goto (-128)), (181, .return_)]
theorem jtk_Quotient_build : jtok cX6_build jtb_Quotient_build = true := by decide +kernel
set_option maxRecDepth 100000 in
theorem jfl_X6_19 : jFl RX6 19 6 5 := ⟨RX6, TX6, 10, tyX6, rfl, by decide, jin_X6, tyX6_ok, nmX6, jow_X6, (Or.inl (jTB_at 608 rfl rfl))⟩
set_option maxRecDepth 100000 in
theorem jfl_X6_25 : jFl RX6 25 6 0 := ⟨RX6, TX6, 10, tyX6, rfl, by decide, jin_X6, tyX6_ok, nmX6, jow_X6, (Or.inl (jTB_at 603 rfl rfl))⟩
set_option maxRecDepth 100000 in
theorem jfl_X6_29 : jFl RX6 29 6 1 := ⟨RX6, TX6, 10, tyX6, rfl, by decide, jin_X6, tyX6_ok, nmX6, jow_X6, (Or.inl (jTB_at 604 rfl rfl))⟩
set_option maxRecDepth 100000 in
theorem jfl_X6_33 : jFl RX6 33 6 2 := ⟨RX6, TX6, 10, tyX6, rfl, by decide, jin_X6, tyX6_ok, nmX6, jow_X6, (Or.inl (jTB_at 605 rfl rfl))⟩
set_option maxRecDepth 100000 in
theorem jlk_X6_47 : jLkV RX6 47 yX10_testsOf cX10_testsOf 5 2 1 := ⟨(jTB_at 1143 rfl rfl), (jTB_at 1144 rfl rfl), (jTB_at 1145 rfl rfl), (jTB_at 125 rfl rfl), jTB_at 1146 rfl rfl, ⟨by decide, by decide, by decide +kernel⟩⟩
set_option maxRecDepth 100000 in
theorem jlk_X6_53 : jLkV RX6 53 yX10_markOf cX10_markOf 6 2 1 := ⟨(jTB_at 1151 rfl rfl), (jTB_at 1075 rfl rfl), (jTB_at 1076 rfl rfl), (jTB_at 125 rfl rfl), jTB_at 1077 rfl rfl, ⟨by decide, by decide, by decide +kernel⟩⟩
set_option maxRecDepth 100000 in
theorem jlk_X6_56 : jLkV RX6 56 yX5_join cX5_join 3 1 2 := ⟨(jTB_at 1152 rfl rfl), (jTB_at 466 rfl rfl), (jTB_at 467 rfl rfl), (jTB_at 123 rfl rfl), jTB_at 468 rfl rfl, ⟨by decide, by decide, by decide +kernel⟩⟩
set_option maxRecDepth 100000 in
theorem jlk_X6_62 : jLkV RX6 62 yX10_hasMark cX10_hasMark 2 4 1 := ⟨(jTB_at 1153 rfl rfl), (jTB_at 1067 rfl rfl), (jTB_at 1068 rfl rfl), (jTB_at 125 rfl rfl), jTB_at 1069 rfl rfl, ⟨by decide, by decide, by decide +kernel⟩⟩
set_option maxRecDepth 100000 in
theorem jlk_X6_66 : jLkV RX6 66 yX6_elementFor cX6_elementFor 5 1 2 := ⟨(jTB_at 1154 rfl rfl), (jTB_at 1156 rfl rfl), (jTB_at 37 rfl rfl), (jTB_at 128 rfl rfl), jTB_at 1157 rfl rfl, ⟨by decide, by decide, by decide +kernel⟩⟩
def jE_Quotient_build (F : Nat) : jxE := jmk [(9, 6, 3), (15, 6, 4), (19, 6, 5), (25, 6, 0), (29, 6, 1), (33, 6, 2), (37, 6, 7)] [] [] [(47, (2, false), jca_Values_testsOf F), (53, (2, false), jca_Values_markOf F), (56, (3, false), jca_Positions_join F), (62, (2, false), jca_Values_hasMark F), (66, (3, false), jca_Quotient_elementFor F)] 0 jc_C
set_option maxRecDepth 100000 in
set_option maxHeartbeats 4000000 in
theorem jmet_Quotient_build_48 (F : Nat) (sh : List jxC) (hs : jHas sh jc_C) (σ0 : jxS) (x : Int) (σ' : jxS) (h : Quotient_build F 48 σ0 = some (x, σ')) : jMC yX6_build cX6_build 8 (jrt 0) 5 116 sh σ0 [(jmr 48)] (jrv 0 x) σ' := by
  refine jMC_of (kd := 0) (by decide) rfl h ?_
  intro X hX
  have hG : jGd X (jE_Quotient_build F) jtb_Quotient_build := jGd_of hX jtk_Quotient_build (jcon jfl_X6_9 (jcon jfl_X6_15 (jcon jfl_X6_19 (jcon jfl_X6_25 (jcon jfl_X6_29 (jcon jfl_X6_33 (jcon jfl_X6_37 jnil))))))) jnil jnil (jcon (jsV jlk_X6_47 ⟨rfl, rfl⟩ (jad_Values_testsOf F sh hs)) (jcon (jsV jlk_X6_53 ⟨rfl, rfl⟩ (jad_Values_markOf F sh hs)) (jcon (jsV jlk_X6_56 ⟨rfl, rfl⟩ (jad_Positions_join F sh (jh_CP hs))) (jcon (jsV jlk_X6_62 ⟨rfl, rfl⟩ (jad_Values_hasMark F sh hs)) (jcon (jsV jlk_X6_66 ⟨rfl, rfl⟩ (jad_Quotient_elementFor F sh hs)) jnil))))) hs
  have rr137 : ∀ (k50 : Int → Int → jxS → Option jxR) (h50 : ∀ v1 v3 σ, jRf X (k50 v1 v3 σ) 50 [some (jmr 48), some (jml v1), none, some (jmi v3), none, none, none, none] [] σ) (k67 : Int → Int → Int → jxS → Option jxR) (h67 : ∀ v1 v3 v4 σ, jRf X (k67 v1 v3 v4 σ) 67 [some (jmr 48), some (jml v1), none, some (jmi v3), some (jmi v4), none, none, none] [] σ) (v1 v3 v4 t0 : Int) (σ : jxS), jRf X (Quotient_build_c137 F 48 k50 k67 v1 v3 v4 t0 σ) 137 [some (jmr 48), some (jml v1), none, some (jmi v3), some (jmi v4), none, none, none] [(jmi t0)] σ := by
    intro k50 h50 k67 h67 v1 v3 v4 t0 σ
    exact jRf_by (jex_ok hG (cs := [(67, [some (.inr (some 48)), some (.inl 1), none, some (.inl 0), some (.inl 0), none, none, none], [], fun xs σ => match xs with
      | [v1, v3, v4] => k67 v1 v3 v4 σ
      | _ => none)]) (jcon (jl3 (fun y0 y1 y2 => jl0 (fun σ => h67 y0 y1 y2 σ))) jnil) 99 137 [some (jmr 48), some (jml v1), none, some (jmi v3), some (jmi v4), none, none, none] [(jmi t0)] σ) rfl
  have rr67 : ∀ (k50 : Int → Int → jxS → Option jxR) (h50 : ∀ v1 v3 σ, jRf X (k50 v1 v3 σ) 50 [some (jmr 48), some (jml v1), none, some (jmi v3), none, none, none, none] [] σ) (fu : Nat) (v1 v3 v4 : Int) (σ : jxS), jRf X (Quotient_build_c67 F 48 k50 fu v1 v3 v4 σ) 67 [some (jmr 48), some (jml v1), none, some (jmi v3), some (jmi v4), none, none, none] [] σ := by
    intro k50 h50 fu
    induction fu with
    | zero => intros; exact jRf_none
    | succ fu ih =>
      intro v1 v3 v4 σ
      exact jRf_by (jex_ok hG (cs := [(50, [some (.inr (some 48)), some (.inl 1), none, some (.inl 0), none, none, none, none], [], fun xs σ => match xs with
      | [v1, v3] => k50 v1 v3 σ
      | _ => none), (137, [some (.inr (some 48)), some (.inl 1), none, some (.inl 0), some (.inl 0), none, none, none], [(.inl 0)], fun xs σ => match xs with
      | [v1, v3, v4, t0] => Quotient_build_c137 F 48 k50 (Quotient_build_c67 F 48 k50 fu) v1 v3 v4 t0 σ
      | _ => none)]) (jcon (jl2 (fun y0 y1 => jl0 (fun σ => h50 y0 y1 σ))) (jcon (jl3 (fun y0 y1 y2 => jl1 (fun y3 => (fun σ => rr137 _ h50 _ ih y0 y1 y2 y3 σ)))) jnil)) 99 67 [some (jmr 48), some (jml v1), none, some (jmi v3), some (jmi v4), none, none, none] [] σ) rfl
  have rr50 : ∀ (fu : Nat) (v1 v3 : Int) (σ : jxS), jRf X (Quotient_build_c50 F 48 fu v1 v3 σ) 50 [some (jmr 48), some (jml v1), none, some (jmi v3), none, none, none, none] [] σ := by
    intro  fu
    induction fu with
    | zero => intros; exact jRf_none
    | succ fu ih =>
      intro v1 v3 σ
      exact jRf_by (jex_ok hG (cs := [(67, [some (.inr (some 48)), some (.inl 1), none, some (.inl 0), some (.inl 0), none, none, none], [], fun xs σ => match xs with
      | [v1, v3, v4] => Quotient_build_c67 F 48 (Quotient_build_c50 F 48 fu) F v1 v3 v4 σ
      | _ => none)]) (jcon (jl3 (fun y0 y1 y2 => jl0 (fun σ => rr67 _ ih F y0 y1 y2 σ))) jnil) 99 50 [some (jmr 48), some (jml v1), none, some (jmi v3), none, none, none, none] [] σ) rfl
  exact jRf_by (jex_ok hG (cs := [(50, [some (.inr (some 48)), some (.inl 1), none, some (.inl 0), none, none, none, none], [], fun xs σ => match xs with
      | [v1, v3] => Quotient_build_c50 F 48 F v1 v3 σ
      | _ => none)]) (jcon (jl2 (fun y0 y1 => jl0 (fun σ => rr50 F y0 y1 σ))) jnil) 99 0 [some (jmr 48), none, none, none, none, none, none, none] [] σ0) rfl
set_option maxRecDepth 100000 in
set_option maxHeartbeats 4000000 in
theorem jmet_Quotient_build_53 (F : Nat) (sh : List jxC) (hs : jHas sh jc_C) (σ0 : jxS) (x : Int) (σ' : jxS) (h : Quotient_build F 53 σ0 = some (x, σ')) : jMC yX6_build cX6_build 8 (jrt 0) 5 116 sh σ0 [(jmr 53)] (jrv 0 x) σ' := by
  refine jMC_of (kd := 0) (by decide) rfl h ?_
  intro X hX
  have hG : jGd X (jE_Quotient_build F) jtb_Quotient_build := jGd_of hX jtk_Quotient_build (jcon jfl_X6_9 (jcon jfl_X6_15 (jcon jfl_X6_19 (jcon jfl_X6_25 (jcon jfl_X6_29 (jcon jfl_X6_33 (jcon jfl_X6_37 jnil))))))) jnil jnil (jcon (jsV jlk_X6_47 ⟨rfl, rfl⟩ (jad_Values_testsOf F sh hs)) (jcon (jsV jlk_X6_53 ⟨rfl, rfl⟩ (jad_Values_markOf F sh hs)) (jcon (jsV jlk_X6_56 ⟨rfl, rfl⟩ (jad_Positions_join F sh (jh_CP hs))) (jcon (jsV jlk_X6_62 ⟨rfl, rfl⟩ (jad_Values_hasMark F sh hs)) (jcon (jsV jlk_X6_66 ⟨rfl, rfl⟩ (jad_Quotient_elementFor F sh hs)) jnil))))) hs
  have rr137 : ∀ (k50 : Int → Int → jxS → Option jxR) (h50 : ∀ v1 v3 σ, jRf X (k50 v1 v3 σ) 50 [some (jmr 53), some (jml v1), none, some (jmi v3), none, none, none, none] [] σ) (k67 : Int → Int → Int → jxS → Option jxR) (h67 : ∀ v1 v3 v4 σ, jRf X (k67 v1 v3 v4 σ) 67 [some (jmr 53), some (jml v1), none, some (jmi v3), some (jmi v4), none, none, none] [] σ) (v1 v3 v4 t0 : Int) (σ : jxS), jRf X (Quotient_build_c137 F 53 k50 k67 v1 v3 v4 t0 σ) 137 [some (jmr 53), some (jml v1), none, some (jmi v3), some (jmi v4), none, none, none] [(jmi t0)] σ := by
    intro k50 h50 k67 h67 v1 v3 v4 t0 σ
    exact jRf_by (jex_ok hG (cs := [(67, [some (.inr (some 53)), some (.inl 1), none, some (.inl 0), some (.inl 0), none, none, none], [], fun xs σ => match xs with
      | [v1, v3, v4] => k67 v1 v3 v4 σ
      | _ => none)]) (jcon (jl3 (fun y0 y1 y2 => jl0 (fun σ => h67 y0 y1 y2 σ))) jnil) 99 137 [some (jmr 53), some (jml v1), none, some (jmi v3), some (jmi v4), none, none, none] [(jmi t0)] σ) rfl
  have rr67 : ∀ (k50 : Int → Int → jxS → Option jxR) (h50 : ∀ v1 v3 σ, jRf X (k50 v1 v3 σ) 50 [some (jmr 53), some (jml v1), none, some (jmi v3), none, none, none, none] [] σ) (fu : Nat) (v1 v3 v4 : Int) (σ : jxS), jRf X (Quotient_build_c67 F 53 k50 fu v1 v3 v4 σ) 67 [some (jmr 53), some (jml v1), none, some (jmi v3), some (jmi v4), none, none, none] [] σ := by
    intro k50 h50 fu
    induction fu with
    | zero => intros; exact jRf_none
    | succ fu ih =>
      intro v1 v3 v4 σ
      exact jRf_by (jex_ok hG (cs := [(50, [some (.inr (some 53)), some (.inl 1), none, some (.inl 0), none, none, none, none], [], fun xs σ => match xs with
      | [v1, v3] => k50 v1 v3 σ
      | _ => none), (137, [some (.inr (some 53)), some (.inl 1), none, some (.inl 0), some (.inl 0), none, none, none], [(.inl 0)], fun xs σ => match xs with
      | [v1, v3, v4, t0] => Quotient_build_c137 F 53 k50 (Quotient_build_c67 F 53 k50 fu) v1 v3 v4 t0 σ
      | _ => none)]) (jcon (jl2 (fun y0 y1 => jl0 (fun σ => h50 y0 y1 σ))) (jcon (jl3 (fun y0 y1 y2 => jl1 (fun y3 => (fun σ => rr137 _ h50 _ ih y0 y1 y2 y3 σ)))) jnil)) 99 67 [some (jmr 53), some (jml v1), none, some (jmi v3), some (jmi v4), none, none, none] [] σ) rfl
  have rr50 : ∀ (fu : Nat) (v1 v3 : Int) (σ : jxS), jRf X (Quotient_build_c50 F 53 fu v1 v3 σ) 50 [some (jmr 53), some (jml v1), none, some (jmi v3), none, none, none, none] [] σ := by
    intro  fu
    induction fu with
    | zero => intros; exact jRf_none
    | succ fu ih =>
      intro v1 v3 σ
      exact jRf_by (jex_ok hG (cs := [(67, [some (.inr (some 53)), some (.inl 1), none, some (.inl 0), some (.inl 0), none, none, none], [], fun xs σ => match xs with
      | [v1, v3, v4] => Quotient_build_c67 F 53 (Quotient_build_c50 F 53 fu) F v1 v3 v4 σ
      | _ => none)]) (jcon (jl3 (fun y0 y1 y2 => jl0 (fun σ => rr67 _ ih F y0 y1 y2 σ))) jnil) 99 50 [some (jmr 53), some (jml v1), none, some (jmi v3), none, none, none, none] [] σ) rfl
  exact jRf_by (jex_ok hG (cs := [(50, [some (.inr (some 53)), some (.inl 1), none, some (.inl 0), none, none, none, none], [], fun xs σ => match xs with
      | [v1, v3] => Quotient_build_c50 F 53 F v1 v3 σ
      | _ => none)]) (jcon (jl2 (fun y0 y1 => jl0 (fun σ => rr50 F y0 y1 σ))) jnil) 99 0 [some (jmr 53), none, none, none, none, none, none, none] [] σ0) rfl
set_option maxRecDepth 100000 in
set_option maxHeartbeats 4000000 in
theorem jmet_Quotient_build_58 (F : Nat) (sh : List jxC) (hs : jHas sh jc_C) (σ0 : jxS) (x : Int) (σ' : jxS) (h : Quotient_build F 58 σ0 = some (x, σ')) : jMC yX6_build cX6_build 8 (jrt 0) 5 116 sh σ0 [(jmr 58)] (jrv 0 x) σ' := by
  refine jMC_of (kd := 0) (by decide) rfl h ?_
  intro X hX
  have hG : jGd X (jE_Quotient_build F) jtb_Quotient_build := jGd_of hX jtk_Quotient_build (jcon jfl_X6_9 (jcon jfl_X6_15 (jcon jfl_X6_19 (jcon jfl_X6_25 (jcon jfl_X6_29 (jcon jfl_X6_33 (jcon jfl_X6_37 jnil))))))) jnil jnil (jcon (jsV jlk_X6_47 ⟨rfl, rfl⟩ (jad_Values_testsOf F sh hs)) (jcon (jsV jlk_X6_53 ⟨rfl, rfl⟩ (jad_Values_markOf F sh hs)) (jcon (jsV jlk_X6_56 ⟨rfl, rfl⟩ (jad_Positions_join F sh (jh_CP hs))) (jcon (jsV jlk_X6_62 ⟨rfl, rfl⟩ (jad_Values_hasMark F sh hs)) (jcon (jsV jlk_X6_66 ⟨rfl, rfl⟩ (jad_Quotient_elementFor F sh hs)) jnil))))) hs
  have rr137 : ∀ (k50 : Int → Int → jxS → Option jxR) (h50 : ∀ v1 v3 σ, jRf X (k50 v1 v3 σ) 50 [some (jmr 58), some (jml v1), none, some (jmi v3), none, none, none, none] [] σ) (k67 : Int → Int → Int → jxS → Option jxR) (h67 : ∀ v1 v3 v4 σ, jRf X (k67 v1 v3 v4 σ) 67 [some (jmr 58), some (jml v1), none, some (jmi v3), some (jmi v4), none, none, none] [] σ) (v1 v3 v4 t0 : Int) (σ : jxS), jRf X (Quotient_build_c137 F 58 k50 k67 v1 v3 v4 t0 σ) 137 [some (jmr 58), some (jml v1), none, some (jmi v3), some (jmi v4), none, none, none] [(jmi t0)] σ := by
    intro k50 h50 k67 h67 v1 v3 v4 t0 σ
    exact jRf_by (jex_ok hG (cs := [(67, [some (.inr (some 58)), some (.inl 1), none, some (.inl 0), some (.inl 0), none, none, none], [], fun xs σ => match xs with
      | [v1, v3, v4] => k67 v1 v3 v4 σ
      | _ => none)]) (jcon (jl3 (fun y0 y1 y2 => jl0 (fun σ => h67 y0 y1 y2 σ))) jnil) 99 137 [some (jmr 58), some (jml v1), none, some (jmi v3), some (jmi v4), none, none, none] [(jmi t0)] σ) rfl
  have rr67 : ∀ (k50 : Int → Int → jxS → Option jxR) (h50 : ∀ v1 v3 σ, jRf X (k50 v1 v3 σ) 50 [some (jmr 58), some (jml v1), none, some (jmi v3), none, none, none, none] [] σ) (fu : Nat) (v1 v3 v4 : Int) (σ : jxS), jRf X (Quotient_build_c67 F 58 k50 fu v1 v3 v4 σ) 67 [some (jmr 58), some (jml v1), none, some (jmi v3), some (jmi v4), none, none, none] [] σ := by
    intro k50 h50 fu
    induction fu with
    | zero => intros; exact jRf_none
    | succ fu ih =>
      intro v1 v3 v4 σ
      exact jRf_by (jex_ok hG (cs := [(50, [some (.inr (some 58)), some (.inl 1), none, some (.inl 0), none, none, none, none], [], fun xs σ => match xs with
      | [v1, v3] => k50 v1 v3 σ
      | _ => none), (137, [some (.inr (some 58)), some (.inl 1), none, some (.inl 0), some (.inl 0), none, none, none], [(.inl 0)], fun xs σ => match xs with
      | [v1, v3, v4, t0] => Quotient_build_c137 F 58 k50 (Quotient_build_c67 F 58 k50 fu) v1 v3 v4 t0 σ
      | _ => none)]) (jcon (jl2 (fun y0 y1 => jl0 (fun σ => h50 y0 y1 σ))) (jcon (jl3 (fun y0 y1 y2 => jl1 (fun y3 => (fun σ => rr137 _ h50 _ ih y0 y1 y2 y3 σ)))) jnil)) 99 67 [some (jmr 58), some (jml v1), none, some (jmi v3), some (jmi v4), none, none, none] [] σ) rfl
  have rr50 : ∀ (fu : Nat) (v1 v3 : Int) (σ : jxS), jRf X (Quotient_build_c50 F 58 fu v1 v3 σ) 50 [some (jmr 58), some (jml v1), none, some (jmi v3), none, none, none, none] [] σ := by
    intro  fu
    induction fu with
    | zero => intros; exact jRf_none
    | succ fu ih =>
      intro v1 v3 σ
      exact jRf_by (jex_ok hG (cs := [(67, [some (.inr (some 58)), some (.inl 1), none, some (.inl 0), some (.inl 0), none, none, none], [], fun xs σ => match xs with
      | [v1, v3, v4] => Quotient_build_c67 F 58 (Quotient_build_c50 F 58 fu) F v1 v3 v4 σ
      | _ => none)]) (jcon (jl3 (fun y0 y1 y2 => jl0 (fun σ => rr67 _ ih F y0 y1 y2 σ))) jnil) 99 50 [some (jmr 58), some (jml v1), none, some (jmi v3), none, none, none, none] [] σ) rfl
  exact jRf_by (jex_ok hG (cs := [(50, [some (.inr (some 58)), some (.inl 1), none, some (.inl 0), none, none, none, none], [], fun xs σ => match xs with
      | [v1, v3] => Quotient_build_c50 F 58 F v1 v3 σ
      | _ => none)]) (jcon (jl2 (fun y0 y1 => jl0 (fun σ => rr50 F y0 y1 σ))) jnil) 99 0 [some (jmr 58), none, none, none, none, none, none, none] [] σ0) rfl
set_option maxRecDepth 100000 in
set_option maxHeartbeats 4000000 in
theorem jmet_Quotient_build_63 (F : Nat) (sh : List jxC) (hs : jHas sh jc_C) (σ0 : jxS) (x : Int) (σ' : jxS) (h : Quotient_build F 63 σ0 = some (x, σ')) : jMC yX6_build cX6_build 8 (jrt 0) 5 116 sh σ0 [(jmr 63)] (jrv 0 x) σ' := by
  refine jMC_of (kd := 0) (by decide) rfl h ?_
  intro X hX
  have hG : jGd X (jE_Quotient_build F) jtb_Quotient_build := jGd_of hX jtk_Quotient_build (jcon jfl_X6_9 (jcon jfl_X6_15 (jcon jfl_X6_19 (jcon jfl_X6_25 (jcon jfl_X6_29 (jcon jfl_X6_33 (jcon jfl_X6_37 jnil))))))) jnil jnil (jcon (jsV jlk_X6_47 ⟨rfl, rfl⟩ (jad_Values_testsOf F sh hs)) (jcon (jsV jlk_X6_53 ⟨rfl, rfl⟩ (jad_Values_markOf F sh hs)) (jcon (jsV jlk_X6_56 ⟨rfl, rfl⟩ (jad_Positions_join F sh (jh_CP hs))) (jcon (jsV jlk_X6_62 ⟨rfl, rfl⟩ (jad_Values_hasMark F sh hs)) (jcon (jsV jlk_X6_66 ⟨rfl, rfl⟩ (jad_Quotient_elementFor F sh hs)) jnil))))) hs
  have rr137 : ∀ (k50 : Int → Int → jxS → Option jxR) (h50 : ∀ v1 v3 σ, jRf X (k50 v1 v3 σ) 50 [some (jmr 63), some (jml v1), none, some (jmi v3), none, none, none, none] [] σ) (k67 : Int → Int → Int → jxS → Option jxR) (h67 : ∀ v1 v3 v4 σ, jRf X (k67 v1 v3 v4 σ) 67 [some (jmr 63), some (jml v1), none, some (jmi v3), some (jmi v4), none, none, none] [] σ) (v1 v3 v4 t0 : Int) (σ : jxS), jRf X (Quotient_build_c137 F 63 k50 k67 v1 v3 v4 t0 σ) 137 [some (jmr 63), some (jml v1), none, some (jmi v3), some (jmi v4), none, none, none] [(jmi t0)] σ := by
    intro k50 h50 k67 h67 v1 v3 v4 t0 σ
    exact jRf_by (jex_ok hG (cs := [(67, [some (.inr (some 63)), some (.inl 1), none, some (.inl 0), some (.inl 0), none, none, none], [], fun xs σ => match xs with
      | [v1, v3, v4] => k67 v1 v3 v4 σ
      | _ => none)]) (jcon (jl3 (fun y0 y1 y2 => jl0 (fun σ => h67 y0 y1 y2 σ))) jnil) 99 137 [some (jmr 63), some (jml v1), none, some (jmi v3), some (jmi v4), none, none, none] [(jmi t0)] σ) rfl
  have rr67 : ∀ (k50 : Int → Int → jxS → Option jxR) (h50 : ∀ v1 v3 σ, jRf X (k50 v1 v3 σ) 50 [some (jmr 63), some (jml v1), none, some (jmi v3), none, none, none, none] [] σ) (fu : Nat) (v1 v3 v4 : Int) (σ : jxS), jRf X (Quotient_build_c67 F 63 k50 fu v1 v3 v4 σ) 67 [some (jmr 63), some (jml v1), none, some (jmi v3), some (jmi v4), none, none, none] [] σ := by
    intro k50 h50 fu
    induction fu with
    | zero => intros; exact jRf_none
    | succ fu ih =>
      intro v1 v3 v4 σ
      exact jRf_by (jex_ok hG (cs := [(50, [some (.inr (some 63)), some (.inl 1), none, some (.inl 0), none, none, none, none], [], fun xs σ => match xs with
      | [v1, v3] => k50 v1 v3 σ
      | _ => none), (137, [some (.inr (some 63)), some (.inl 1), none, some (.inl 0), some (.inl 0), none, none, none], [(.inl 0)], fun xs σ => match xs with
      | [v1, v3, v4, t0] => Quotient_build_c137 F 63 k50 (Quotient_build_c67 F 63 k50 fu) v1 v3 v4 t0 σ
      | _ => none)]) (jcon (jl2 (fun y0 y1 => jl0 (fun σ => h50 y0 y1 σ))) (jcon (jl3 (fun y0 y1 y2 => jl1 (fun y3 => (fun σ => rr137 _ h50 _ ih y0 y1 y2 y3 σ)))) jnil)) 99 67 [some (jmr 63), some (jml v1), none, some (jmi v3), some (jmi v4), none, none, none] [] σ) rfl
  have rr50 : ∀ (fu : Nat) (v1 v3 : Int) (σ : jxS), jRf X (Quotient_build_c50 F 63 fu v1 v3 σ) 50 [some (jmr 63), some (jml v1), none, some (jmi v3), none, none, none, none] [] σ := by
    intro  fu
    induction fu with
    | zero => intros; exact jRf_none
    | succ fu ih =>
      intro v1 v3 σ
      exact jRf_by (jex_ok hG (cs := [(67, [some (.inr (some 63)), some (.inl 1), none, some (.inl 0), some (.inl 0), none, none, none], [], fun xs σ => match xs with
      | [v1, v3, v4] => Quotient_build_c67 F 63 (Quotient_build_c50 F 63 fu) F v1 v3 v4 σ
      | _ => none)]) (jcon (jl3 (fun y0 y1 y2 => jl0 (fun σ => rr67 _ ih F y0 y1 y2 σ))) jnil) 99 50 [some (jmr 63), some (jml v1), none, some (jmi v3), none, none, none, none] [] σ) rfl
  exact jRf_by (jex_ok hG (cs := [(50, [some (.inr (some 63)), some (.inl 1), none, some (.inl 0), none, none, none, none], [], fun xs σ => match xs with
      | [v1, v3] => Quotient_build_c50 F 63 F v1 v3 σ
      | _ => none)]) (jcon (jl2 (fun y0 y1 => jl0 (fun σ => rr50 F y0 y1 σ))) jnil) 99 0 [some (jmr 63), none, none, none, none, none, none, none] [] σ0) rfl
set_option maxRecDepth 100000 in
set_option maxHeartbeats 4000000 in
theorem jmet_Quotient_build_68 (F : Nat) (sh : List jxC) (hs : jHas sh jc_C) (σ0 : jxS) (x : Int) (σ' : jxS) (h : Quotient_build F 68 σ0 = some (x, σ')) : jMC yX6_build cX6_build 8 (jrt 0) 5 116 sh σ0 [(jmr 68)] (jrv 0 x) σ' := by
  refine jMC_of (kd := 0) (by decide) rfl h ?_
  intro X hX
  have hG : jGd X (jE_Quotient_build F) jtb_Quotient_build := jGd_of hX jtk_Quotient_build (jcon jfl_X6_9 (jcon jfl_X6_15 (jcon jfl_X6_19 (jcon jfl_X6_25 (jcon jfl_X6_29 (jcon jfl_X6_33 (jcon jfl_X6_37 jnil))))))) jnil jnil (jcon (jsV jlk_X6_47 ⟨rfl, rfl⟩ (jad_Values_testsOf F sh hs)) (jcon (jsV jlk_X6_53 ⟨rfl, rfl⟩ (jad_Values_markOf F sh hs)) (jcon (jsV jlk_X6_56 ⟨rfl, rfl⟩ (jad_Positions_join F sh (jh_CP hs))) (jcon (jsV jlk_X6_62 ⟨rfl, rfl⟩ (jad_Values_hasMark F sh hs)) (jcon (jsV jlk_X6_66 ⟨rfl, rfl⟩ (jad_Quotient_elementFor F sh hs)) jnil))))) hs
  have rr137 : ∀ (k50 : Int → Int → jxS → Option jxR) (h50 : ∀ v1 v3 σ, jRf X (k50 v1 v3 σ) 50 [some (jmr 68), some (jml v1), none, some (jmi v3), none, none, none, none] [] σ) (k67 : Int → Int → Int → jxS → Option jxR) (h67 : ∀ v1 v3 v4 σ, jRf X (k67 v1 v3 v4 σ) 67 [some (jmr 68), some (jml v1), none, some (jmi v3), some (jmi v4), none, none, none] [] σ) (v1 v3 v4 t0 : Int) (σ : jxS), jRf X (Quotient_build_c137 F 68 k50 k67 v1 v3 v4 t0 σ) 137 [some (jmr 68), some (jml v1), none, some (jmi v3), some (jmi v4), none, none, none] [(jmi t0)] σ := by
    intro k50 h50 k67 h67 v1 v3 v4 t0 σ
    exact jRf_by (jex_ok hG (cs := [(67, [some (.inr (some 68)), some (.inl 1), none, some (.inl 0), some (.inl 0), none, none, none], [], fun xs σ => match xs with
      | [v1, v3, v4] => k67 v1 v3 v4 σ
      | _ => none)]) (jcon (jl3 (fun y0 y1 y2 => jl0 (fun σ => h67 y0 y1 y2 σ))) jnil) 99 137 [some (jmr 68), some (jml v1), none, some (jmi v3), some (jmi v4), none, none, none] [(jmi t0)] σ) rfl
  have rr67 : ∀ (k50 : Int → Int → jxS → Option jxR) (h50 : ∀ v1 v3 σ, jRf X (k50 v1 v3 σ) 50 [some (jmr 68), some (jml v1), none, some (jmi v3), none, none, none, none] [] σ) (fu : Nat) (v1 v3 v4 : Int) (σ : jxS), jRf X (Quotient_build_c67 F 68 k50 fu v1 v3 v4 σ) 67 [some (jmr 68), some (jml v1), none, some (jmi v3), some (jmi v4), none, none, none] [] σ := by
    intro k50 h50 fu
    induction fu with
    | zero => intros; exact jRf_none
    | succ fu ih =>
      intro v1 v3 v4 σ
      exact jRf_by (jex_ok hG (cs := [(50, [some (.inr (some 68)), some (.inl 1), none, some (.inl 0), none, none, none, none], [], fun xs σ => match xs with
      | [v1, v3] => k50 v1 v3 σ
      | _ => none), (137, [some (.inr (some 68)), some (.inl 1), none, some (.inl 0), some (.inl 0), none, none, none], [(.inl 0)], fun xs σ => match xs with
      | [v1, v3, v4, t0] => Quotient_build_c137 F 68 k50 (Quotient_build_c67 F 68 k50 fu) v1 v3 v4 t0 σ
      | _ => none)]) (jcon (jl2 (fun y0 y1 => jl0 (fun σ => h50 y0 y1 σ))) (jcon (jl3 (fun y0 y1 y2 => jl1 (fun y3 => (fun σ => rr137 _ h50 _ ih y0 y1 y2 y3 σ)))) jnil)) 99 67 [some (jmr 68), some (jml v1), none, some (jmi v3), some (jmi v4), none, none, none] [] σ) rfl
  have rr50 : ∀ (fu : Nat) (v1 v3 : Int) (σ : jxS), jRf X (Quotient_build_c50 F 68 fu v1 v3 σ) 50 [some (jmr 68), some (jml v1), none, some (jmi v3), none, none, none, none] [] σ := by
    intro  fu
    induction fu with
    | zero => intros; exact jRf_none
    | succ fu ih =>
      intro v1 v3 σ
      exact jRf_by (jex_ok hG (cs := [(67, [some (.inr (some 68)), some (.inl 1), none, some (.inl 0), some (.inl 0), none, none, none], [], fun xs σ => match xs with
      | [v1, v3, v4] => Quotient_build_c67 F 68 (Quotient_build_c50 F 68 fu) F v1 v3 v4 σ
      | _ => none)]) (jcon (jl3 (fun y0 y1 y2 => jl0 (fun σ => rr67 _ ih F y0 y1 y2 σ))) jnil) 99 50 [some (jmr 68), some (jml v1), none, some (jmi v3), none, none, none, none] [] σ) rfl
  exact jRf_by (jex_ok hG (cs := [(50, [some (.inr (some 68)), some (.inl 1), none, some (.inl 0), none, none, none, none], [], fun xs σ => match xs with
      | [v1, v3] => Quotient_build_c50 F 68 F v1 v3 σ
      | _ => none)]) (jcon (jl2 (fun y0 y1 => jl0 (fun σ => rr50 F y0 y1 σ))) jnil) 99 0 [some (jmr 68), none, none, none, none, none, none, none] [] σ0) rfl
set_option maxRecDepth 100000 in
set_option maxHeartbeats 4000000 in
theorem jmet_Quotient_build_73 (F : Nat) (sh : List jxC) (hs : jHas sh jc_C) (σ0 : jxS) (x : Int) (σ' : jxS) (h : Quotient_build F 73 σ0 = some (x, σ')) : jMC yX6_build cX6_build 8 (jrt 0) 5 116 sh σ0 [(jmr 73)] (jrv 0 x) σ' := by
  refine jMC_of (kd := 0) (by decide) rfl h ?_
  intro X hX
  have hG : jGd X (jE_Quotient_build F) jtb_Quotient_build := jGd_of hX jtk_Quotient_build (jcon jfl_X6_9 (jcon jfl_X6_15 (jcon jfl_X6_19 (jcon jfl_X6_25 (jcon jfl_X6_29 (jcon jfl_X6_33 (jcon jfl_X6_37 jnil))))))) jnil jnil (jcon (jsV jlk_X6_47 ⟨rfl, rfl⟩ (jad_Values_testsOf F sh hs)) (jcon (jsV jlk_X6_53 ⟨rfl, rfl⟩ (jad_Values_markOf F sh hs)) (jcon (jsV jlk_X6_56 ⟨rfl, rfl⟩ (jad_Positions_join F sh (jh_CP hs))) (jcon (jsV jlk_X6_62 ⟨rfl, rfl⟩ (jad_Values_hasMark F sh hs)) (jcon (jsV jlk_X6_66 ⟨rfl, rfl⟩ (jad_Quotient_elementFor F sh hs)) jnil))))) hs
  have rr137 : ∀ (k50 : Int → Int → jxS → Option jxR) (h50 : ∀ v1 v3 σ, jRf X (k50 v1 v3 σ) 50 [some (jmr 73), some (jml v1), none, some (jmi v3), none, none, none, none] [] σ) (k67 : Int → Int → Int → jxS → Option jxR) (h67 : ∀ v1 v3 v4 σ, jRf X (k67 v1 v3 v4 σ) 67 [some (jmr 73), some (jml v1), none, some (jmi v3), some (jmi v4), none, none, none] [] σ) (v1 v3 v4 t0 : Int) (σ : jxS), jRf X (Quotient_build_c137 F 73 k50 k67 v1 v3 v4 t0 σ) 137 [some (jmr 73), some (jml v1), none, some (jmi v3), some (jmi v4), none, none, none] [(jmi t0)] σ := by
    intro k50 h50 k67 h67 v1 v3 v4 t0 σ
    exact jRf_by (jex_ok hG (cs := [(67, [some (.inr (some 73)), some (.inl 1), none, some (.inl 0), some (.inl 0), none, none, none], [], fun xs σ => match xs with
      | [v1, v3, v4] => k67 v1 v3 v4 σ
      | _ => none)]) (jcon (jl3 (fun y0 y1 y2 => jl0 (fun σ => h67 y0 y1 y2 σ))) jnil) 99 137 [some (jmr 73), some (jml v1), none, some (jmi v3), some (jmi v4), none, none, none] [(jmi t0)] σ) rfl
  have rr67 : ∀ (k50 : Int → Int → jxS → Option jxR) (h50 : ∀ v1 v3 σ, jRf X (k50 v1 v3 σ) 50 [some (jmr 73), some (jml v1), none, some (jmi v3), none, none, none, none] [] σ) (fu : Nat) (v1 v3 v4 : Int) (σ : jxS), jRf X (Quotient_build_c67 F 73 k50 fu v1 v3 v4 σ) 67 [some (jmr 73), some (jml v1), none, some (jmi v3), some (jmi v4), none, none, none] [] σ := by
    intro k50 h50 fu
    induction fu with
    | zero => intros; exact jRf_none
    | succ fu ih =>
      intro v1 v3 v4 σ
      exact jRf_by (jex_ok hG (cs := [(50, [some (.inr (some 73)), some (.inl 1), none, some (.inl 0), none, none, none, none], [], fun xs σ => match xs with
      | [v1, v3] => k50 v1 v3 σ
      | _ => none), (137, [some (.inr (some 73)), some (.inl 1), none, some (.inl 0), some (.inl 0), none, none, none], [(.inl 0)], fun xs σ => match xs with
      | [v1, v3, v4, t0] => Quotient_build_c137 F 73 k50 (Quotient_build_c67 F 73 k50 fu) v1 v3 v4 t0 σ
      | _ => none)]) (jcon (jl2 (fun y0 y1 => jl0 (fun σ => h50 y0 y1 σ))) (jcon (jl3 (fun y0 y1 y2 => jl1 (fun y3 => (fun σ => rr137 _ h50 _ ih y0 y1 y2 y3 σ)))) jnil)) 99 67 [some (jmr 73), some (jml v1), none, some (jmi v3), some (jmi v4), none, none, none] [] σ) rfl
  have rr50 : ∀ (fu : Nat) (v1 v3 : Int) (σ : jxS), jRf X (Quotient_build_c50 F 73 fu v1 v3 σ) 50 [some (jmr 73), some (jml v1), none, some (jmi v3), none, none, none, none] [] σ := by
    intro  fu
    induction fu with
    | zero => intros; exact jRf_none
    | succ fu ih =>
      intro v1 v3 σ
      exact jRf_by (jex_ok hG (cs := [(67, [some (.inr (some 73)), some (.inl 1), none, some (.inl 0), some (.inl 0), none, none, none], [], fun xs σ => match xs with
      | [v1, v3, v4] => Quotient_build_c67 F 73 (Quotient_build_c50 F 73 fu) F v1 v3 v4 σ
      | _ => none)]) (jcon (jl3 (fun y0 y1 y2 => jl0 (fun σ => rr67 _ ih F y0 y1 y2 σ))) jnil) 99 50 [some (jmr 73), some (jml v1), none, some (jmi v3), none, none, none, none] [] σ) rfl
  exact jRf_by (jex_ok hG (cs := [(50, [some (.inr (some 73)), some (.inl 1), none, some (.inl 0), none, none, none, none], [], fun xs σ => match xs with
      | [v1, v3] => Quotient_build_c50 F 73 F v1 v3 σ
      | _ => none)]) (jcon (jl2 (fun y0 y1 => jl0 (fun σ => rr50 F y0 y1 σ))) jnil) 99 0 [some (jmr 73), none, none, none, none, none, none, none] [] σ0) rfl
theorem jmet_Quotient_build (F : Nat) (q : Nat) (hq : q ∈ jids_Quotient_build_q) (sh : List jxC) (hs : jHas sh jc_C) (σ0 : jxS) (x : Int) (σ' : jxS) (h : Quotient_build F q σ0 = some (x, σ')) : jMC yX6_build cX6_build 8 (jrt 0) 5 116 sh σ0 [(jmr q)] (jrv 0 x) σ' := by
  simp only [jids_Quotient_build_q, List.mem_cons, List.not_mem_nil, or_false] at hq
  rcases hq with rfl | rfl | rfl | rfl | rfl | rfl
  · exact jmet_Quotient_build_48 F sh hs σ0  x σ' h
  · exact jmet_Quotient_build_53 F sh hs σ0  x σ' h
  · exact jmet_Quotient_build_58 F sh hs σ0  x σ' h
  · exact jmet_Quotient_build_63 F sh hs σ0  x σ' h
  · exact jmet_Quotient_build_68 F sh hs σ0  x σ' h
  · exact jmet_Quotient_build_73 F sh hs σ0  x σ' h
theorem jad_Quotient_build (F : Nat) (sh : List jxC) (hs : jHas sh jc_C) : jAdV (jca_Quotient_build F) yX6_build cX6_build 8 0 5 116 0 sh := by
  intro as σ k x σ' h
  unfold jca_Quotient_build at h
  split at h
  · rename_i t0
    obtain ⟨g0, hh1⟩ := jcond h
    have g0 := jin_of g0
    obtain ⟨r, h1, h2⟩ := Option.bind_eq_some_iff.mp hh1
    exact ⟨_, _, h2, (by obtain ⟨fks, hfk⟩ := jrc_Quotient hs g0; exact ⟨_, _, _, _, _, _, rfl, rfl, hfk, rfl⟩), jmet_Quotient_build F t0 g0 sh hs σ  r.1 r.2 h1⟩
  · cases h
def jtb_LL1_quotientOf : List (Nat × Instr) := [(0, .aload_n 0), (1, .getfield 48), (4, .ifnull 14), (7, .iload_n 1), (8, .iconst 1), (9, .if_icmp .lt 9), (12, .iload_n 1), (13, .bipush 6), (15, .if_icmp .le 5), (18, .aconst_null), (19, .areturn), (20, .aload_n 0), (21, .getfield 48), (24, .getfield 245), (27, .iload_n 1), (28, .iconst 1), (29, .isub), (30, .aaload), (31, .astore_n 2), (32, .aload_n 2), (33, .ifnull 7), (36, .aload_n 2), (37, .invokevirtual 249), (40, .aload_n 2), (41, .areturn)]
theorem jtk_LL1_quotientOf : jtok cX11_quotientOf jtb_LL1_quotientOf = true := by decide +kernel
set_option maxRecDepth 100000 in
theorem jfl_X11_245 : jFl RX11 245 0 7 := ⟨RX0, TX0, 10, tyX0, rfl, by decide, jin_X0, tyX0_ok, nmX0, jow_X0, (Or.inr ⟨"LastLoses", (jNS_at 651 rfl rfl)⟩)⟩
set_option maxRecDepth 100000 in
theorem jlk_X11_249 : jLkV RX11 249 yX6_build cX6_build 8 0 0 := ⟨(jTB_at 1139 rfl rfl), (jTB_at 1140 rfl rfl), (jTB_at 1141 rfl rfl), (jTB_at 128 rfl rfl), jTB_at 1142 rfl rfl, ⟨by decide, by decide, by decide +kernel⟩⟩
def jE_LL1_quotientOf (F : Nat) : jxE := jmk [(48, 11, 2), (245, 0, 7)] [] [] [(249, (1, false), jca_Quotient_build F)] 3 jc_L1
set_option maxRecDepth 100000 in
set_option maxHeartbeats 4000000 in
theorem jmet_LL1_quotientOf (F : Nat) (sh : List jxC) (hs : jHas sh jc_L1) (σ0 : jxS) (v1 : Int) (x : Int) (σ' : jxS) (h : LL1_quotientOf F σ0 v1 = some (x, σ')) : jMC yX11_quotientOf cX11_quotientOf 3 (jrt 3) 6 143 sh σ0 [(jmr 0), (jmi v1)] (jrv 3 x) σ' := by
  refine jMC_of (kd := 3) (by decide) rfl h ?_
  intro X hX
  have hG : jGd X (jE_LL1_quotientOf F) jtb_LL1_quotientOf := jGd_of hX jtk_LL1_quotientOf (jcon jfl_X11_48 (jcon jfl_X11_245 jnil)) jnil jnil (jcon (jsV jlk_X11_249 ⟨rfl, rfl⟩ (jad_Quotient_build F sh (jh_L1C hs))) jnil) hs
  exact jRf_by (jex_ok hG (cs := []) jnil 28 0 [some (jmr 0), some (jmi v1), none] [] σ0) rfl
theorem jad_LL1_quotientOf (F : Nat) (sh : List jxC) (hs : jHas sh jc_L1) : jAdV (jca_LL1_quotientOf F) yX11_quotientOf cX11_quotientOf 3 3 6 143 1 sh := by
  intro as σ k x σ' h
  unfold jca_LL1_quotientOf at h
  split at h
  · rename_i t0 v1
    obtain ⟨g0, hh1⟩ := jcond h
    obtain rfl := jbeq g0
    obtain ⟨r, h1, h2⟩ := Option.bind_eq_some_iff.mp hh1
    by_cases h0 : r.1 = 0
    · rw [if_pos h0] at h2
      have e := jmet_LL1_quotientOf F  sh hs σ v1 r.1 r.2 h1
      simp only [jrv, if_pos h0] at e
      exact ⟨_, _, h2, ⟨_, _, _, _, _, _, rfl, rfl, (hs _ (jkf_in (l := jc_L1) (idx := 0) rfl)).1, rfl⟩, e⟩
    · rw [if_neg h0] at h2
      obtain ⟨q, hq, h2⟩ := jsel_some h2
      have e := jmet_LL1_quotientOf F  sh hs σ v1 r.1 r.2 h1
      simp only [jrv, if_neg h0] at e
      rw [hq, Int.toNat_natCast] at e
      exact ⟨_, _, h2, ⟨_, _, _, _, _, _, rfl, rfl, (hs _ (jkf_in (l := jc_L1) (idx := 0) rfl)).1, rfl⟩, e⟩
  · cases h
