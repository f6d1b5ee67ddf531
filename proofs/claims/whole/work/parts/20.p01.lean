/-! Contracts: Arrays_fill_AIIV LL_isHeap LL_isHeapOrAll Rules_learnLine Rules_allows Rules_listMoves LL_leastMissing Rules_judgeHeap Rules_learn Cycle_forget Hand_empty Arrays_fill_AJJV Values_forget Quotient_forget Board_begin LL1_game Rules_moveCount LL1_moves Rules_moveAt LL1_option Rules_nimberOf LL1_nimber Rules_extraLines Rules_digitCount Rules_digitFor -/
def jtb_Arrays_fill_AIIV : List (Nat × Instr) := [(0, .iconst 0), (1, .istore_n 2), (2, .aload_n 0), (3, .arraylength), (4, .istore_n 3), (5, .iload_n 2), (6, .iload_n 3), (7, .if_icmp .ge 13), (10, .aload_n 0), (11, .iload_n 2), (12, .iload_n 1), (13, .iastore), (14, .iinc 2 1), (17, .goto (-12)), (20, .return_)]
theorem jtk_Arrays_fill_AIIV : jtok cJ7_fill_53178 jtb_Arrays_fill_AIIV = true := by decide +kernel
def jE_Arrays_fill_AIIV (F : Nat) : jxE := jmk [] [] [] [] 0 jc_C
set_option maxRecDepth 100000 in
set_option maxHeartbeats 4000000 in
theorem jmet_Arrays_fill_AIIV_12 (F : Nat) (sh : List jxC) (hs : jHas sh jc_C) (σ0 : jxS) (v1 : Int) (x : Int) (σ' : jxS) (h : Arrays_fill_AIIV F 12 σ0 v1 = some (x, σ')) : jMC yJ7_fill_53178 cJ7_fill_53178 4 (jrt 0) 0 0 sh σ0 [(jmr 12), (jmi v1)] (jrv 0 x) σ' := by
  refine jMC_of (kd := 0) (by decide) rfl h ?_
  intro X hX
  have hG : jGd X (jE_Arrays_fill_AIIV F) jtb_Arrays_fill_AIIV := jGd_of hX jtk_Arrays_fill_AIIV jnil jnil jnil jnil hs
  have rr5 : ∀ (fu : Nat) (v1 v2 v3 : Int) (σ : jxS), jRf X (Arrays_fill_AIIV_c5 F 12 fu v1 v2 v3 σ) 5 [some (jmr 12), some (jmi v1), some (jmi v2), some (jmi v3)] [] σ := by
    intro  fu
    induction fu with
    | zero => intros; exact jRf_none
    | succ fu ih =>
      intro v1 v2 v3 σ
      exact jRf_by (jex_ok hG (cs := [(5, [some (.inr (some 12)), some (.inl 0), some (.inl 0), some (.inl 0)], [], fun xs σ => match xs with
      | [v1, v2, v3] => (Arrays_fill_AIIV_c5 F 12 fu) v1 v2 v3 σ
      | _ => none)]) (jcon (jl3 (fun y0 y1 y2 => jl0 (fun σ => ih y0 y1 y2 σ))) jnil) 18 5 [some (jmr 12), some (jmi v1), some (jmi v2), some (jmi v3)] [] σ) rfl
  exact jRf_by (jex_ok hG (cs := [(5, [some (.inr (some 12)), some (.inl 0), some (.inl 0), some (.inl 0)], [], fun xs σ => match xs with
      | [v1, v2, v3] => Arrays_fill_AIIV_c5 F 12 F v1 v2 v3 σ
      | _ => none)]) (jcon (jl3 (fun y0 y1 y2 => jl0 (fun σ => rr5 F y0 y1 y2 σ))) jnil) 18 0 [some (jmr 12), some (jmi v1), none, none] [] σ0) rfl
set_option maxRecDepth 100000 in
set_option maxHeartbeats 4000000 in
theorem jmet_Arrays_fill_AIIV_13 (F : Nat) (sh : List jxC) (hs : jHas sh jc_C) (σ0 : jxS) (v1 : Int) (x : Int) (σ' : jxS) (h : Arrays_fill_AIIV F 13 σ0 v1 = some (x, σ')) : jMC yJ7_fill_53178 cJ7_fill_53178 4 (jrt 0) 0 0 sh σ0 [(jmr 13), (jmi v1)] (jrv 0 x) σ' := by
  refine jMC_of (kd := 0) (by decide) rfl h ?_
  intro X hX
  have hG : jGd X (jE_Arrays_fill_AIIV F) jtb_Arrays_fill_AIIV := jGd_of hX jtk_Arrays_fill_AIIV jnil jnil jnil jnil hs
  have rr5 : ∀ (fu : Nat) (v1 v2 v3 : Int) (σ : jxS), jRf X (Arrays_fill_AIIV_c5 F 13 fu v1 v2 v3 σ) 5 [some (jmr 13), some (jmi v1), some (jmi v2), some (jmi v3)] [] σ := by
    intro  fu
    induction fu with
    | zero => intros; exact jRf_none
    | succ fu ih =>
      intro v1 v2 v3 σ
      exact jRf_by (jex_ok hG (cs := [(5, [some (.inr (some 13)), some (.inl 0), some (.inl 0), some (.inl 0)], [], fun xs σ => match xs with
      | [v1, v2, v3] => (Arrays_fill_AIIV_c5 F 13 fu) v1 v2 v3 σ
      | _ => none)]) (jcon (jl3 (fun y0 y1 y2 => jl0 (fun σ => ih y0 y1 y2 σ))) jnil) 18 5 [some (jmr 13), some (jmi v1), some (jmi v2), some (jmi v3)] [] σ) rfl
  exact jRf_by (jex_ok hG (cs := [(5, [some (.inr (some 13)), some (.inl 0), some (.inl 0), some (.inl 0)], [], fun xs σ => match xs with
      | [v1, v2, v3] => Arrays_fill_AIIV_c5 F 13 F v1 v2 v3 σ
      | _ => none)]) (jcon (jl3 (fun y0 y1 y2 => jl0 (fun σ => rr5 F y0 y1 y2 σ))) jnil) 18 0 [some (jmr 13), some (jmi v1), none, none] [] σ0) rfl
set_option maxRecDepth 100000 in
set_option maxHeartbeats 4000000 in
theorem jmet_Arrays_fill_AIIV_21 (F : Nat) (sh : List jxC) (hs : jHas sh jc_C) (σ0 : jxS) (v1 : Int) (x : Int) (σ' : jxS) (h : Arrays_fill_AIIV F 21 σ0 v1 = some (x, σ')) : jMC yJ7_fill_53178 cJ7_fill_53178 4 (jrt 0) 0 0 sh σ0 [(jmr 21), (jmi v1)] (jrv 0 x) σ' := by
  refine jMC_of (kd := 0) (by decide) rfl h ?_
  intro X hX
  have hG : jGd X (jE_Arrays_fill_AIIV F) jtb_Arrays_fill_AIIV := jGd_of hX jtk_Arrays_fill_AIIV jnil jnil jnil jnil hs
  have rr5 : ∀ (fu : Nat) (v1 v2 v3 : Int) (σ : jxS), jRf X (Arrays_fill_AIIV_c5 F 21 fu v1 v2 v3 σ) 5 [some (jmr 21), some (jmi v1), some (jmi v2), some (jmi v3)] [] σ := by
    intro  fu
    induction fu with
    | zero => intros; exact jRf_none
    | succ fu ih =>
      intro v1 v2 v3 σ
      exact jRf_by (jex_ok hG (cs := [(5, [some (.inr (some 21)), some (.inl 0), some (.inl 0), some (.inl 0)], [], fun xs σ => match xs with
      | [v1, v2, v3] => (Arrays_fill_AIIV_c5 F 21 fu) v1 v2 v3 σ
      | _ => none)]) (jcon (jl3 (fun y0 y1 y2 => jl0 (fun σ => ih y0 y1 y2 σ))) jnil) 18 5 [some (jmr 21), some (jmi v1), some (jmi v2), some (jmi v3)] [] σ) rfl
  exact jRf_by (jex_ok hG (cs := [(5, [some (.inr (some 21)), some (.inl 0), some (.inl 0), some (.inl 0)], [], fun xs σ => match xs with
      | [v1, v2, v3] => Arrays_fill_AIIV_c5 F 21 F v1 v2 v3 σ
      | _ => none)]) (jcon (jl3 (fun y0 y1 y2 => jl0 (fun σ => rr5 F y0 y1 y2 σ))) jnil) 18 0 [some (jmr 21), some (jmi v1), none, none] [] σ0) rfl
set_option maxRecDepth 100000 in
set_option maxHeartbeats 4000000 in
theorem jmet_Arrays_fill_AIIV_31 (F : Nat) (sh : List jxC) (hs : jHas sh jc_C) (σ0 : jxS) (v1 : Int) (x : Int) (σ' : jxS) (h : Arrays_fill_AIIV F 31 σ0 v1 = some (x, σ')) : jMC yJ7_fill_53178 cJ7_fill_53178 4 (jrt 0) 0 0 sh σ0 [(jmr 31), (jmi v1)] (jrv 0 x) σ' := by
  refine jMC_of (kd := 0) (by decide) rfl h ?_
  intro X hX
  have hG : jGd X (jE_Arrays_fill_AIIV F) jtb_Arrays_fill_AIIV := jGd_of hX jtk_Arrays_fill_AIIV jnil jnil jnil jnil hs
  have rr5 : ∀ (fu : Nat) (v1 v2 v3 : Int) (σ : jxS), jRf X (Arrays_fill_AIIV_c5 F 31 fu v1 v2 v3 σ) 5 [some (jmr 31), some (jmi v1), some (jmi v2), some (jmi v3)] [] σ := by
    intro  fu
    induction fu with
    | zero => intros; exact jRf_none
    | succ fu ih =>
      intro v1 v2 v3 σ
      exact jRf_by (jex_ok hG (cs := [(5, [some (.inr (some 31)), some (.inl 0), some (.inl 0), some (.inl 0)], [], fun xs σ => match xs with
      | [v1, v2, v3] => (Arrays_fill_AIIV_c5 F 31 fu) v1 v2 v3 σ
      | _ => none)]) (jcon (jl3 (fun y0 y1 y2 => jl0 (fun σ => ih y0 y1 y2 σ))) jnil) 18 5 [some (jmr 31), some (jmi v1), some (jmi v2), some (jmi v3)] [] σ) rfl
  exact jRf_by (jex_ok hG (cs := [(5, [some (.inr (some 31)), some (.inl 0), some (.inl 0), some (.inl 0)], [], fun xs σ => match xs with
      | [v1, v2, v3] => Arrays_fill_AIIV_c5 F 31 F v1 v2 v3 σ
      | _ => none)]) (jcon (jl3 (fun y0 y1 y2 => jl0 (fun σ => rr5 F y0 y1 y2 σ))) jnil) 18 0 [some (jmr 31), some (jmi v1), none, none] [] σ0) rfl
set_option maxRecDepth 100000 in
set_option maxHeartbeats 4000000 in
theorem jmet_Arrays_fill_AIIV_36 (F : Nat) (sh : List jxC) (hs : jHas sh jc_C) (σ0 : jxS) (v1 : Int) (x : Int) (σ' : jxS) (h : Arrays_fill_AIIV F 36 σ0 v1 = some (x, σ')) : jMC yJ7_fill_53178 cJ7_fill_53178 4 (jrt 0) 0 0 sh σ0 [(jmr 36), (jmi v1)] (jrv 0 x) σ' := by
  refine jMC_of (kd := 0) (by decide) rfl h ?_
  intro X hX
  have hG : jGd X (jE_Arrays_fill_AIIV F) jtb_Arrays_fill_AIIV := jGd_of hX jtk_Arrays_fill_AIIV jnil jnil jnil jnil hs
  have rr5 : ∀ (fu : Nat) (v1 v2 v3 : Int) (σ : jxS), jRf X (Arrays_fill_AIIV_c5 F 36 fu v1 v2 v3 σ) 5 [some (jmr 36), some (jmi v1), some (jmi v2), some (jmi v3)] [] σ := by
    intro  fu
    induction fu with
    | zero => intros; exact jRf_none
    | succ fu ih =>
      intro v1 v2 v3 σ
      exact jRf_by (jex_ok hG (cs := [(5, [some (.inr (some 36)), some (.inl 0), some (.inl 0), some (.inl 0)], [], fun xs σ => match xs with
      | [v1, v2, v3] => (Arrays_fill_AIIV_c5 F 36 fu) v1 v2 v3 σ
      | _ => none)]) (jcon (jl3 (fun y0 y1 y2 => jl0 (fun σ => ih y0 y1 y2 σ))) jnil) 18 5 [some (jmr 36), some (jmi v1), some (jmi v2), some (jmi v3)] [] σ) rfl
  exact jRf_by (jex_ok hG (cs := [(5, [some (.inr (some 36)), some (.inl 0), some (.inl 0), some (.inl 0)], [], fun xs σ => match xs with
      | [v1, v2, v3] => Arrays_fill_AIIV_c5 F 36 F v1 v2 v3 σ
      | _ => none)]) (jcon (jl3 (fun y0 y1 y2 => jl0 (fun σ => rr5 F y0 y1 y2 σ))) jnil) 18 0 [some (jmr 36), some (jmi v1), none, none] [] σ0) rfl
set_option maxRecDepth 100000 in
set_option maxHeartbeats 4000000 in
theorem jmet_Arrays_fill_AIIV_46 (F : Nat) (sh : List jxC) (hs : jHas sh jc_C) (σ0 : jxS) (v1 : Int) (x : Int) (σ' : jxS) (h : Arrays_fill_AIIV F 46 σ0 v1 = some (x, σ')) : jMC yJ7_fill_53178 cJ7_fill_53178 4 (jrt 0) 0 0 sh σ0 [(jmr 46), (jmi v1)] (jrv 0 x) σ' := by
  refine jMC_of (kd := 0) (by decide) rfl h ?_
  intro X hX
  have hG : jGd X (jE_Arrays_fill_AIIV F) jtb_Arrays_fill_AIIV := jGd_of hX jtk_Arrays_fill_AIIV jnil jnil jnil jnil hs
  have rr5 : ∀ (fu : Nat) (v1 v2 v3 : Int) (σ : jxS), jRf X (Arrays_fill_AIIV_c5 F 46 fu v1 v2 v3 σ) 5 [some (jmr 46), some (jmi v1), some (jmi v2), some (jmi v3)] [] σ := by
    intro  fu
    induction fu with
    | zero => intros; exact jRf_none
    | succ fu ih =>
      intro v1 v2 v3 σ
      exact jRf_by (jex_ok hG (cs := [(5, [some (.inr (some 46)), some (.inl 0), some (.inl 0), some (.inl 0)], [], fun xs σ => match xs with
      | [v1, v2, v3] => (Arrays_fill_AIIV_c5 F 46 fu) v1 v2 v3 σ
      | _ => none)]) (jcon (jl3 (fun y0 y1 y2 => jl0 (fun σ => ih y0 y1 y2 σ))) jnil) 18 5 [some (jmr 46), some (jmi v1), some (jmi v2), some (jmi v3)] [] σ) rfl
  exact jRf_by (jex_ok hG (cs := [(5, [some (.inr (some 46)), some (.inl 0), some (.inl 0), some (.inl 0)], [], fun xs σ => match xs with
      | [v1, v2, v3] => Arrays_fill_AIIV_c5 F 46 F v1 v2 v3 σ
      | _ => none)]) (jcon (jl3 (fun y0 y1 y2 => jl0 (fun σ => rr5 F y0 y1 y2 σ))) jnil) 18 0 [some (jmr 46), some (jmi v1), none, none] [] σ0) rfl
set_option maxRecDepth 100000 in
set_option maxHeartbeats 4000000 in
theorem jmet_Arrays_fill_AIIV_52 (F : Nat) (sh : List jxC) (hs : jHas sh jc_C) (σ0 : jxS) (v1 : Int) (x : Int) (σ' : jxS) (h : Arrays_fill_AIIV F 52 σ0 v1 = some (x, σ')) : jMC yJ7_fill_53178 cJ7_fill_53178 4 (jrt 0) 0 0 sh σ0 [(jmr 52), (jmi v1)] (jrv 0 x) σ' := by
  refine jMC_of (kd := 0) (by decide) rfl h ?_
  intro X hX
  have hG : jGd X (jE_Arrays_fill_AIIV F) jtb_Arrays_fill_AIIV := jGd_of hX jtk_Arrays_fill_AIIV jnil jnil jnil jnil hs
  have rr5 : ∀ (fu : Nat) (v1 v2 v3 : Int) (σ : jxS), jRf X (Arrays_fill_AIIV_c5 F 52 fu v1 v2 v3 σ) 5 [some (jmr 52), some (jmi v1), some (jmi v2), some (jmi v3)] [] σ := by
    intro  fu
    induction fu with
    | zero => intros; exact jRf_none
    | succ fu ih =>
      intro v1 v2 v3 σ
      exact jRf_by (jex_ok hG (cs := [(5, [some (.inr (some 52)), some (.inl 0), some (.inl 0), some (.inl 0)], [], fun xs σ => match xs with
      | [v1, v2, v3] => (Arrays_fill_AIIV_c5 F 52 fu) v1 v2 v3 σ
      | _ => none)]) (jcon (jl3 (fun y0 y1 y2 => jl0 (fun σ => ih y0 y1 y2 σ))) jnil) 18 5 [some (jmr 52), some (jmi v1), some (jmi v2), some (jmi v3)] [] σ) rfl
  exact jRf_by (jex_ok hG (cs := [(5, [some (.inr (some 52)), some (.inl 0), some (.inl 0), some (.inl 0)], [], fun xs σ => match xs with
      | [v1, v2, v3] => Arrays_fill_AIIV_c5 F 52 F v1 v2 v3 σ
      | _ => none)]) (jcon (jl3 (fun y0 y1 y2 => jl0 (fun σ => rr5 F y0 y1 y2 σ))) jnil) 18 0 [some (jmr 52), some (jmi v1), none, none] [] σ0) rfl
set_option maxRecDepth 100000 in
set_option maxHeartbeats 4000000 in
theorem jmet_Arrays_fill_AIIV_57 (F : Nat) (sh : List jxC) (hs : jHas sh jc_C) (σ0 : jxS) (v1 : Int) (x : Int) (σ' : jxS) (h : Arrays_fill_AIIV F 57 σ0 v1 = some (x, σ')) : jMC yJ7_fill_53178 cJ7_fill_53178 4 (jrt 0) 0 0 sh σ0 [(jmr 57), (jmi v1)] (jrv 0 x) σ' := by
  refine jMC_of (kd := 0) (by decide) rfl h ?_
  intro X hX
  have hG : jGd X (jE_Arrays_fill_AIIV F) jtb_Arrays_fill_AIIV := jGd_of hX jtk_Arrays_fill_AIIV jnil jnil jnil jnil hs
  have rr5 : ∀ (fu : Nat) (v1 v2 v3 : Int) (σ : jxS), jRf X (Arrays_fill_AIIV_c5 F 57 fu v1 v2 v3 σ) 5 [some (jmr 57), some (jmi v1), some (jmi v2), some (jmi v3)] [] σ := by
    intro  fu
    induction fu with
    | zero => intros; exact jRf_none
    | succ fu ih =>
      intro v1 v2 v3 σ
      exact jRf_by (jex_ok hG (cs := [(5, [some (.inr (some 57)), some (.inl 0), some (.inl 0), some (.inl 0)], [], fun xs σ => match xs with
      | [v1, v2, v3] => (Arrays_fill_AIIV_c5 F 57 fu) v1 v2 v3 σ
      | _ => none)]) (jcon (jl3 (fun y0 y1 y2 => jl0 (fun σ => ih y0 y1 y2 σ))) jnil) 18 5 [some (jmr 57), some (jmi v1), some (jmi v2), some (jmi v3)] [] σ) rfl
  exact jRf_by (jex_ok hG (cs := [(5, [some (.inr (some 57)), some (.inl 0), some (.inl 0), some (.inl 0)], [], fun xs σ => match xs with
      | [v1, v2, v3] => Arrays_fill_AIIV_c5 F 57 F v1 v2 v3 σ
      | _ => none)]) (jcon (jl3 (fun y0 y1 y2 => jl0 (fun σ => rr5 F y0 y1 y2 σ))) jnil) 18 0 [some (jmr 57), some (jmi v1), none, none] [] σ0) rfl
set_option maxRecDepth 100000 in
set_option maxHeartbeats 4000000 in
theorem jmet_Arrays_fill_AIIV_62 (F : Nat) (sh : List jxC) (hs : jHas sh jc_C) (σ0 : jxS) (v1 : Int) (x : Int) (σ' : jxS) (h : Arrays_fill_AIIV F 62 σ0 v1 = some (x, σ')) : jMC yJ7_fill_53178 cJ7_fill_53178 4 (jrt 0) 0 0 sh σ0 [(jmr 62), (jmi v1)] (jrv 0 x) σ' := by
  refine jMC_of (kd := 0) (by decide) rfl h ?_
  intro X hX
  have hG : jGd X (jE_Arrays_fill_AIIV F) jtb_Arrays_fill_AIIV := jGd_of hX jtk_Arrays_fill_AIIV jnil jnil jnil jnil hs
  have rr5 : ∀ (fu : Nat) (v1 v2 v3 : Int) (σ : jxS), jRf X (Arrays_fill_AIIV_c5 F 62 fu v1 v2 v3 σ) 5 [some (jmr 62), some (jmi v1), some (jmi v2), some (jmi v3)] [] σ := by
    intro  fu
    induction fu with
    | zero => intros; exact jRf_none
    | succ fu ih =>
      intro v1 v2 v3 σ
      exact jRf_by (jex_ok hG (cs := [(5, [some (.inr (some 62)), some (.inl 0), some (.inl 0), some (.inl 0)], [], fun xs σ => match xs with
      | [v1, v2, v3] => (Arrays_fill_AIIV_c5 F 62 fu) v1 v2 v3 σ
      | _ => none)]) (jcon (jl3 (fun y0 y1 y2 => jl0 (fun σ => ih y0 y1 y2 σ))) jnil) 18 5 [some (jmr 62), some (jmi v1), some (jmi v2), some (jmi v3)] [] σ) rfl
  exact jRf_by (jex_ok hG (cs := [(5, [some (.inr (some 62)), some (.inl 0), some (.inl 0), some (.inl 0)], [], fun xs σ => match xs with
      | [v1, v2, v3] => Arrays_fill_AIIV_c5 F 62 F v1 v2 v3 σ
      | _ => none)]) (jcon (jl3 (fun y0 y1 y2 => jl0 (fun σ => rr5 F y0 y1 y2 σ))) jnil) 18 0 [some (jmr 62), some (jmi v1), none, none] [] σ0) rfl
set_option maxRecDepth 100000 in
set_option maxHeartbeats 4000000 in
theorem jmet_Arrays_fill_AIIV_67 (F : Nat) (sh : List jxC) (hs : jHas sh jc_C) (σ0 : jxS) (v1 : Int) (x : Int) (σ' : jxS) (h : Arrays_fill_AIIV F 67 σ0 v1 = some (x, σ')) : jMC yJ7_fill_53178 cJ7_fill_53178 4 (jrt 0) 0 0 sh σ0 [(jmr 67), (jmi v1)] (jrv 0 x) σ' := by
  refine jMC_of (kd := 0) (by decide) rfl h ?_
  intro X hX
  have hG : jGd X (jE_Arrays_fill_AIIV F) jtb_Arrays_fill_AIIV := jGd_of hX jtk_Arrays_fill_AIIV jnil jnil jnil jnil hs
  have rr5 : ∀ (fu : Nat) (v1 v2 v3 : Int) (σ : jxS), jRf X (Arrays_fill_AIIV_c5 F 67 fu v1 v2 v3 σ) 5 [some (jmr 67), some (jmi v1), some (jmi v2), some (jmi v3)] [] σ := by
    intro  fu
    induction fu with
    | zero => intros; exact jRf_none
    | succ fu ih =>
      intro v1 v2 v3 σ
      exact jRf_by (jex_ok hG (cs := [(5, [some (.inr (some 67)), some (.inl 0), some (.inl 0), some (.inl 0)], [], fun xs σ => match xs with
      | [v1, v2, v3] => (Arrays_fill_AIIV_c5 F 67 fu) v1 v2 v3 σ
      | _ => none)]) (jcon (jl3 (fun y0 y1 y2 => jl0 (fun σ => ih y0 y1 y2 σ))) jnil) 18 5 [some (jmr 67), some (jmi v1), some (jmi v2), some (jmi v3)] [] σ) rfl
  exact jRf_by (jex_ok hG (cs := [(5, [some (.inr (some 67)), some (.inl 0), some (.inl 0), some (.inl 0)], [], fun xs σ => match xs with
      | [v1, v2, v3] => Arrays_fill_AIIV_c5 F 67 F v1 v2 v3 σ
      | _ => none)]) (jcon (jl3 (fun y0 y1 y2 => jl0 (fun σ => rr5 F y0 y1 y2 σ))) jnil) 18 0 [some (jmr 67), some (jmi v1), none, none] [] σ0) rfl
set_option maxRecDepth 100000 in
set_option maxHeartbeats 4000000 in
theorem jmet_Arrays_fill_AIIV_72 (F : Nat) (sh : List jxC) (hs : jHas sh jc_C) (σ0 : jxS) (v1 : Int) (x : Int) (σ' : jxS) (h : Arrays_fill_AIIV F 72 σ0 v1 = some (x, σ')) : jMC yJ7_fill_53178 cJ7_fill_53178 4 (jrt 0) 0 0 sh σ0 [(jmr 72), (jmi v1)] (jrv 0 x) σ' := by
  refine jMC_of (kd := 0) (by decide) rfl h ?_
  intro X hX
  have hG : jGd X (jE_Arrays_fill_AIIV F) jtb_Arrays_fill_AIIV := jGd_of hX jtk_Arrays_fill_AIIV jnil jnil jnil jnil hs
  have rr5 : ∀ (fu : Nat) (v1 v2 v3 : Int) (σ : jxS), jRf X (Arrays_fill_AIIV_c5 F 72 fu v1 v2 v3 σ) 5 [some (jmr 72), some (jmi v1), some (jmi v2), some (jmi v3)] [] σ := by
    intro  fu
    induction fu with
    | zero => intros; exact jRf_none
    | succ fu ih =>
      intro v1 v2 v3 σ
      exact jRf_by (jex_ok hG (cs := [(5, [some (.inr (some 72)), some (.inl 0), some (.inl 0), some (.inl 0)], [], fun xs σ => match xs with
      | [v1, v2, v3] => (Arrays_fill_AIIV_c5 F 72 fu) v1 v2 v3 σ
      | _ => none)]) (jcon (jl3 (fun y0 y1 y2 => jl0 (fun σ => ih y0 y1 y2 σ))) jnil) 18 5 [some (jmr 72), some (jmi v1), some (jmi v2), some (jmi v3)] [] σ) rfl
  exact jRf_by (jex_ok hG (cs := [(5, [some (.inr (some 72)), some (.inl 0), some (.inl 0), some (.inl 0)], [], fun xs σ => match xs with
      | [v1, v2, v3] => Arrays_fill_AIIV_c5 F 72 F v1 v2 v3 σ
      | _ => none)]) (jcon (jl3 (fun y0 y1 y2 => jl0 (fun σ => rr5 F y0 y1 y2 σ))) jnil) 18 0 [some (jmr 72), some (jmi v1), none, none] [] σ0) rfl
set_option maxRecDepth 100000 in
set_option maxHeartbeats 4000000 in
theorem jmet_Arrays_fill_AIIV_77 (F : Nat) (sh : List jxC) (hs : jHas sh jc_C) (σ0 : jxS) (v1 : Int) (x : Int) (σ' : jxS) (h : Arrays_fill_AIIV F 77 σ0 v1 = some (x, σ')) : jMC yJ7_fill_53178 cJ7_fill_53178 4 (jrt 0) 0 0 sh σ0 [(jmr 77), (jmi v1)] (jrv 0 x) σ' := by
  refine jMC_of (kd := 0) (by decide) rfl h ?_
  intro X hX
  have hG : jGd X (jE_Arrays_fill_AIIV F) jtb_Arrays_fill_AIIV := jGd_of hX jtk_Arrays_fill_AIIV jnil jnil jnil jnil hs
  have rr5 : ∀ (fu : Nat) (v1 v2 v3 : Int) (σ : jxS), jRf X (Arrays_fill_AIIV_c5 F 77 fu v1 v2 v3 σ) 5 [some (jmr 77), some (jmi v1), some (jmi v2), some (jmi v3)] [] σ := by
    intro  fu
    induction fu with
    | zero => intros; exact jRf_none
    | succ fu ih =>
      intro v1 v2 v3 σ
      exact jRf_by (jex_ok hG (cs := [(5, [some (.inr (some 77)), some (.inl 0), some (.inl 0), some (.inl 0)], [], fun xs σ => match xs with
      | [v1, v2, v3] => (Arrays_fill_AIIV_c5 F 77 fu) v1 v2 v3 σ
      | _ => none)]) (jcon (jl3 (fun y0 y1 y2 => jl0 (fun σ => ih y0 y1 y2 σ))) jnil) 18 5 [some (jmr 77), some (jmi v1), some (jmi v2), some (jmi v3)] [] σ) rfl
  exact jRf_by (jex_ok hG (cs := [(5, [some (.inr (some 77)), some (.inl 0), some (.inl 0), some (.inl 0)], [], fun xs σ => match xs with
      | [v1, v2, v3] => Arrays_fill_AIIV_c5 F 77 F v1 v2 v3 σ
      | _ => none)]) (jcon (jl3 (fun y0 y1 y2 => jl0 (fun σ => rr5 F y0 y1 y2 σ))) jnil) 18 0 [some (jmr 77), some (jmi v1), none, none] [] σ0) rfl
theorem jmet_Arrays_fill_AIIV (F : Nat) (a0 : Nat) (ha0 : a0 ∈ jids_Arrays_fill_AIIV_a0) (sh : List jxC) (hs : jHas sh jc_C) (σ0 : jxS) (v1 : Int) (x : Int) (σ' : jxS) (h : Arrays_fill_AIIV F a0 σ0 v1 = some (x, σ')) : jMC yJ7_fill_53178 cJ7_fill_53178 4 (jrt 0) 0 0 sh σ0 [(jmr a0), (jmi v1)] (jrv 0 x) σ' := by
  simp only [jids_Arrays_fill_AIIV_a0, List.mem_cons, List.not_mem_nil, or_false] at ha0
  rcases ha0 with rfl | rfl | rfl | rfl | rfl | rfl | rfl | rfl | rfl | rfl | rfl | rfl
  · exact jmet_Arrays_fill_AIIV_12 F sh hs σ0 v1 x σ' h
  · exact jmet_Arrays_fill_AIIV_13 F sh hs σ0 v1 x σ' h
  · exact jmet_Arrays_fill_AIIV_21 F sh hs σ0 v1 x σ' h
  · exact jmet_Arrays_fill_AIIV_31 F sh hs σ0 v1 x σ' h
  · exact jmet_Arrays_fill_AIIV_36 F sh hs σ0 v1 x σ' h
  · exact jmet_Arrays_fill_AIIV_46 F sh hs σ0 v1 x σ' h
  · exact jmet_Arrays_fill_AIIV_52 F sh hs σ0 v1 x σ' h
  · exact jmet_Arrays_fill_AIIV_57 F sh hs σ0 v1 x σ' h
  · exact jmet_Arrays_fill_AIIV_62 F sh hs σ0 v1 x σ' h
  · exact jmet_Arrays_fill_AIIV_67 F sh hs σ0 v1 x σ' h
  · exact jmet_Arrays_fill_AIIV_72 F sh hs σ0 v1 x σ' h
  · exact jmet_Arrays_fill_AIIV_77 F sh hs σ0 v1 x σ' h
theorem jad_Arrays_fill_AIIV (F : Nat) (sh : List jxC) (hs : jHas sh jc_C) : jAdS (jca_Arrays_fill_AIIV F) yJ7_fill_53178 cJ7_fill_53178 4 0 0 0 2 sh := by
  intro as σ k x σ' h
  unfold jca_Arrays_fill_AIIV at h
  split at h
  · rename_i t0 v1
    obtain ⟨g0, hh1⟩ := jcond h
    have g0 := jin_of g0
    obtain ⟨r, h1, h2⟩ := Option.bind_eq_some_iff.mp hh1
    exact ⟨_, _, h2, rfl, jmet_Arrays_fill_AIIV F t0 g0 sh hs σ v1 r.1 r.2 h1⟩
  · cases h
def jtb_LL_isHeap : List (Nat × Instr) := [(0, .iload_n 0), (1, .iconst 1), (2, .if_icmp .lt 13), (5, .iload_n 0), (6, .bipush 12), (8, .if_icmp .gt 7), (11, .iconst 1), (12, .goto 4), (15, .iconst 0), (16, .ireturn)]
theorem jtk_LL_isHeap : jtok cX11_isHeap jtb_LL_isHeap = true := by decide +kernel
def jE_LL_isHeap (F : Nat) : jxE := jmk [] [] [] [] 4 jc_E
set_option maxRecDepth 100000 in
set_option maxHeartbeats 4000000 in
theorem jmet_LL_isHeap (F : Nat) (sh : List jxC) (hs : jHas sh jc_E) (σ0 : jxS) (v0 : Int) (x : Int) (σ' : jxS) (h : LL_isHeap F σ0 v0 = some (x, σ')) : jMC yX11_isHeap cX11_isHeap 1 (jrt 4) 0 0 sh σ0 [(jmi v0)] (jrv 4 x) σ' := by
  refine jMC_of (kd := 4) (by decide) rfl h ?_
  intro X hX
  have hG : jGd X (jE_LL_isHeap F) jtb_LL_isHeap := jGd_of hX jtk_LL_isHeap jnil jnil jnil jnil hs
  exact jRf_by (jex_ok hG (cs := []) jnil 13 0 [some (jmi v0)] [] σ0) rfl
theorem jad_LL_isHeap (F : Nat) (sh : List jxC) (hs : jHas sh jc_E) : jAdS (jca_LL_isHeap F) yX11_isHeap cX11_isHeap 1 4 0 0 1 sh := by
  intro as σ k x σ' h
  unfold jca_LL_isHeap at h
  split at h
  · rename_i v0
    obtain ⟨r, h1, h2⟩ := Option.bind_eq_some_iff.mp h
    exact ⟨_, _, h2, rfl, jmet_LL_isHeap F  sh hs σ v0 r.1 r.2 h1⟩
  · cases h
def jtb_LL_isHeapOrAll : List (Nat × Instr) := [(0, .iload_n 0), (1, .ifCond .lt 13), (4, .iload_n 0), (5, .bipush 12), (7, .if_icmp .gt 7), (10, .iconst 1), (11, .goto 4), (14, .iconst 0), (15, .ireturn)]
theorem jtk_LL_isHeapOrAll : jtok cX11_isHeapOrAll jtb_LL_isHeapOrAll = true := by decide +kernel
def jE_LL_isHeapOrAll (F : Nat) : jxE := jmk [] [] [] [] 4 jc_E
set_option maxRecDepth 100000 in
set_option maxHeartbeats 4000000 in
theorem jmet_LL_isHeapOrAll (F : Nat) (sh : List jxC) (hs : jHas sh jc_E) (σ0 : jxS) (v0 : Int) (x : Int) (σ' : jxS) (h : LL_isHeapOrAll F σ0 v0 = some (x, σ')) : jMC yX11_isHeapOrAll cX11_isHeapOrAll 1 (jrt 4) 0 0 sh σ0 [(jmi v0)] (jrv 4 x) σ' := by
  refine jMC_of (kd := 4) (by decide) rfl h ?_
  intro X hX
  have hG : jGd X (jE_LL_isHeapOrAll F) jtb_LL_isHeapOrAll := jGd_of hX jtk_LL_isHeapOrAll jnil jnil jnil jnil hs
  exact jRf_by (jex_ok hG (cs := []) jnil 12 0 [some (jmi v0)] [] σ0) rfl
theorem jad_LL_isHeapOrAll (F : Nat) (sh : List jxC) (hs : jHas sh jc_E) : jAdS (jca_LL_isHeapOrAll F) yX11_isHeapOrAll cX11_isHeapOrAll 1 4 0 0 1 sh := by
  intro as σ k x σ' h
  unfold jca_LL_isHeapOrAll at h
  split at h
  · rename_i v0
    obtain ⟨r, h1, h2⟩ := Option.bind_eq_some_iff.mp h
    exact ⟨_, _, h2, rfl, jmet_LL_isHeapOrAll F  sh hs σ v0 r.1 r.2 h1⟩
  · cases h
def jtb_Rules_learnLine : List (Nat × Instr) := [(0, .iload_n 1), (1, .iconst 3), (2, .if_icmp .ne 22), (5, .iload_n 2), (6, .invokestatic 87), (9, .ifCond .eq 15), (12, .aload_n 0), (13, .getfield 17), (16, .iload_n 2), (17, .dup2), (18, .iaload), (19, .iconst 1), (20, .iload_n 3), (21, .ishl), (22, .ior), (23, .iastore), (24, .iload_n 3), (25, .iload 4), (27, .invokestatic 91), (30, .istore 5), (32, .iload_n 3), (33, .iload 4), (35, .invokestatic 97), (38, .istore 6), (40, .iload_n 1), (41, .iconst 2), (42, .if_icmp .ne 37), (45, .iload_n 2), (46, .invokestatic 87), (49, .ifCond .eq 30), (52, .iload 5), (54, .invokestatic 100), (57, .ifCond .eq 22), (60, .aload_n 0), (61, .getfield 20), (64, .iload_n 2), (65, .bipush 13), (67, .imul), (68, .iload 5), (70, .iadd), (71, .dup2), (72, .iaload), (73, .iconst 1), (74, .iload 6), (76, .ishl), (77, .ior), (78, .iastore), (79, .return_)]
theorem jtk_Rules_learnLine : jtok cX8_learnLine jtb_Rules_learnLine = true := by decide +kernel
set_option maxRecDepth 100000 in
theorem jfl_X8_17 : jFl RX8 17 8 1 := ⟨RX8, TX8, 10, tyX8, rfl, by decide, jin_X8, tyX8_ok, nmX8, jow_X8, (Or.inl (jTB_at 367 rfl rfl))⟩
set_option maxRecDepth 100000 in
theorem jfl_X8_20 : jFl RX8 20 8 2 := ⟨RX8, TX8, 10, tyX8, rfl, by decide, jin_X8, tyX8_ok, nmX8, jow_X8, (Or.inl (jTB_at 368 rfl rfl))⟩
set_option maxRecDepth 100000 in
theorem jlk_X8_87 : jLkS RX8 87 yX11_isHeap cX11_isHeap 1 4 1 := ⟨Or.inr ⟨"LastLoses", (jNS_at 693 rfl rfl)⟩, (jTB_at 694 rfl rfl), (jTB_at 112 rfl rfl), jTB_at 695 rfl rfl, ⟨by decide, by decide, by decide +kernel⟩⟩
set_option maxRecDepth 100000 in
theorem jlk_X8_100 : jLkS RX8 100 yX11_isHeapOrAll cX11_isHeapOrAll 1 4 1 := ⟨Or.inr ⟨"LastLoses", (jNS_at 702 rfl rfl)⟩, (jTB_at 703 rfl rfl), (jTB_at 112 rfl rfl), jTB_at 704 rfl rfl, ⟨by decide, by decide, by decide +kernel⟩⟩
def jE_Rules_learnLine (F : Nat) : jxE := jmk [(17, 8, 1), (20, 8, 2)] [] [] [(87, (1, true), jca_LL_isHeap F), (91, (2, true), jca_min), (97, (2, true), jca_max), (100, (1, true), jca_LL_isHeapOrAll F)] 0 jc_C
set_option maxRecDepth 100000 in
set_option maxHeartbeats 4000000 in
theorem jmet_Rules_learnLine (F : Nat) (sh : List jxC) (hs : jHas sh jc_C) (σ0 : jxS) (v1 : Int) (v2 : Int) (v3 : Int) (v4 : Int) (x : Int) (σ' : jxS) (h : Rules_learnLine F σ0 v1 v2 v3 v4 = some (x, σ')) : jMC yX8_learnLine cX8_learnLine 7 (jrt 0) 1 40 sh σ0 [(jmr 10), (jmi v1), (jmi v2), (jmi v3), (jmi v4)] (jrv 0 x) σ' := by
  refine jMC_of (kd := 0) (by decide) rfl h ?_
  intro X hX
  have hG : jGd X (jE_Rules_learnLine F) jtb_Rules_learnLine := jGd_of hX jtk_Rules_learnLine (jcon jfl_X8_17 (jcon jfl_X8_20 jnil)) jnil jnil (jcon (jsS jlk_X8_87 ⟨rfl, rfl⟩ (jad_LL_isHeap F sh jh_E)) (jcon (js_min (jTB_at 696 rfl rfl) (by decide) (by decide)) (jcon (js_max (jTB_at 699 rfl rfl) (by decide) (by decide)) (jcon (jsS jlk_X8_100 ⟨rfl, rfl⟩ (jad_LL_isHeapOrAll F sh jh_E)) jnil)))) hs
  have rr24 : ∀ (v1 v2 v3 v4 : Int) (σ : jxS), jRf X (Rules_learnLine_c24 F v1 v2 v3 v4 σ) 24 [some (jmr 10), some (jmi v1), some (jmi v2), some (jmi v3), some (jmi v4), none, none] [] σ := by
    intro  v1 v2 v3 v4 σ
    exact jRf_by (jex_ok hG (cs := []) jnil 51 24 [some (jmr 10), some (jmi v1), some (jmi v2), some (jmi v3), some (jmi v4), none, none] [] σ) rfl
  exact jRf_by (jex_ok hG (cs := [(24, [some (.inr (some 10)), some (.inl 0), some (.inl 0), some (.inl 0), some (.inl 0), none, none], [], fun xs σ => match xs with
      | [v1, v2, v3, v4] => Rules_learnLine_c24 F v1 v2 v3 v4 σ
      | _ => none)]) (jcon (jl4 (fun y0 y1 y2 y3 => jl0 (fun σ => rr24 y0 y1 y2 y3 σ))) jnil) 51 0 [some (jmr 10), some (jmi v1), some (jmi v2), some (jmi v3), some (jmi v4), none, none] [] σ0) rfl
theorem jad_Rules_learnLine (F : Nat) (sh : List jxC) (hs : jHas sh jc_C) : jAdV (jca_Rules_learnLine F) yX8_learnLine cX8_learnLine 7 0 1 40 4 sh := by
  intro as σ k x σ' h
  unfold jca_Rules_learnLine at h
  split at h
  · rename_i t0 v1 v2 v3 v4
    obtain ⟨g0, hh1⟩ := jcond h
    obtain rfl := jbeq g0
    obtain ⟨r, h1, h2⟩ := Option.bind_eq_some_iff.mp hh1
    exact ⟨_, _, h2, ⟨_, _, _, _, _, _, rfl, rfl, (hs _ (jkf_in (l := jc_C) (idx := 10) rfl)).1, rfl⟩, jmet_Rules_learnLine F  sh hs σ v1 v2 v3 v4 r.1 r.2 h1⟩
  · cases h
def jtb_Rules_allows : List (Nat × Instr) := [(0, .aload_n 0), (1, .getfield 20), (4, .iload_n 1), (5, .bipush 13), (7, .imul), (8, .iload_n 2), (9, .iadd), (10, .iaload), (11, .iload_n 3), (12, .ishr), (13, .iconst 1), (14, .iand), (15, .iconst 1), (16, .if_icmp .ne 5), (19, .iconst 1), (20, .ireturn), (21, .iload_n 1), (22, .iload_n 2), (23, .isub), (24, .iload_n 3), (25, .isub), (26, .istore 4), (28, .iload 4), (30, .iconst 1), (31, .if_icmp .lt 22), (34, .iload 4), (36, .aload_n 0), (37, .getfield 42), (40, .if_icmp .gt 13), (43, .iload 4), (45, .aload_n 0), (46, .getfield 11), (49, .arraylength), (50, .if_icmp .le 5), (53, .iconst 0), (54, .ireturn), (55, .iload_n 3), (56, .ifCond .ne 7), (59, .iconst 1), (60, .goto 12), (63, .iload_n 2), (64, .ifCond .ne 7), (67, .iconst 2), (68, .goto 4), (71, .iconst 4), (72, .istore 5), (74, .aload_n 0), (75, .getfield 17), (78, .iload_n 1), (79, .iaload), (80, .iload 4), (82, .ishr), (83, .iconst 1), (84, .iand), (85, .ifCond .ne 22), (88, .aload_n 0), (89, .getfield 11), (92, .iload 4), (94, .iconst 1), (95, .isub), (96, .iaload), (97, .iload 5), (99, .iand), (100, .ifCond .eq 7), (103, .iconst 1), (104, .goto 4), (107, .iconst 0), (108, .ireturn)]
theorem jtk_Rules_allows : jtok cX8_allows jtb_Rules_allows = true := by decide +kernel
set_option maxRecDepth 100000 in
theorem jfl_X8_11 : jFl RX8 11 8 0 := ⟨RX8, TX8, 10, tyX8, rfl, by decide, jin_X8, tyX8_ok, nmX8, jow_X8, (Or.inl (jTB_at 366 rfl rfl))⟩
set_option maxRecDepth 100000 in
theorem jfl_X8_42 : jFl RX8 42 8 8 := ⟨RX8, TX8, 10, tyX8, rfl, by decide, jin_X8, tyX8_ok, nmX8, jow_X8, (Or.inl (jTB_at 374 rfl rfl))⟩
def jE_Rules_allows (F : Nat) : jxE := jmk [(11, 8, 0), (17, 8, 1), (20, 8, 2), (42, 8, 8)] [] [] [] 4 jc_C
set_option maxRecDepth 100000 in
set_option maxHeartbeats 4000000 in
theorem jmet_Rules_allows (F : Nat) (sh : List jxC) (hs : jHas sh jc_C) (σ0 : jxS) (v1 : Int) (v2 : Int) (v3 : Int) (x : Int) (σ' : jxS) (h : Rules_allows F σ0 v1 v2 v3 = some (x, σ')) : jMC yX8_allows cX8_allows 6 (jrt 4) 0 0 sh σ0 [(jmr 10), (jmi v1), (jmi v2), (jmi v3)] (jrv 4 x) σ' := by
  refine jMC_of (kd := 4) (by decide) rfl h ?_
  intro X hX
  have hG : jGd X (jE_Rules_allows F) jtb_Rules_allows := jGd_of hX jtk_Rules_allows (jcon jfl_X8_11 (jcon jfl_X8_17 (jcon jfl_X8_20 (jcon jfl_X8_42 jnil)))) jnil jnil jnil hs
  have rr72 : ∀ (v1 v4 t0 : Int) (σ : jxS), jRf X (Rules_allows_c72 F v1 v4 t0 σ) 72 [some (jmr 10), some (jmi v1), none, none, some (jmi v4), none] [(jmi t0)] σ := by
    intro  v1 v4 t0 σ
    exact jRf_by (jex_ok hG (cs := []) jnil 71 72 [some (jmr 10), some (jmi v1), none, none, some (jmi v4), none] [(jmi t0)] σ) rfl
  exact jRf_by (jex_ok hG (cs := [(72, [some (.inr (some 10)), some (.inl 0), none, none, some (.inl 0), none], [(.inl 0)], fun xs σ => match xs with
      | [v1, v4, t0] => Rules_allows_c72 F v1 v4 t0 σ
      | _ => none)]) (jcon (jl2 (fun y0 y1 => jl1 (fun y2 => (fun σ => rr72 y0 y1 y2 σ)))) jnil) 71 0 [some (jmr 10), some (jmi v1), some (jmi v2), some (jmi v3), none, none] [] σ0) rfl
theorem jad_Rules_allows (F : Nat) (sh : List jxC) (hs : jHas sh jc_C) : jAdV (jca_Rules_allows F) yX8_allows cX8_allows 6 4 0 0 3 sh := by
  intro as σ k x σ' h
  unfold jca_Rules_allows at h
  split at h
  · rename_i t0 v1 v2 v3
    obtain ⟨g0, hh1⟩ := jcond h
    obtain rfl := jbeq g0
    obtain ⟨r, h1, h2⟩ := Option.bind_eq_some_iff.mp hh1
    exact ⟨_, _, h2, ⟨_, _, _, _, _, _, rfl, rfl, (hs _ (jkf_in (l := jc_C) (idx := 10) rfl)).1, rfl⟩, jmet_Rules_allows F  sh hs σ v1 v2 v3 r.1 r.2 h1⟩
  · cases h
def jtb_Rules_listMoves : List (Nat × Instr) := [(0, .iconst 0), (1, .istore_n 1), (2, .iconst 1), (3, .istore_n 2), (4, .iload_n 2), (5, .bipush 12), (7, .if_icmp .gt 88), (10, .aload_n 0), (11, .getfield 23), (14, .iload_n 2), (15, .iload_n 1), (16, .iastore), (17, .iload_n 2), (18, .iconst 1), (19, .isub), (20, .istore_n 3), (21, .iload_n 3), (22, .ifCond .lt 67), (25, .iconst 0), (26, .istore 4), (28, .iload 4), (30, .iload 4), (32, .iadd), (33, .iload_n 3), (34, .if_icmp .gt 49), (37, .aload_n 0), (38, .iload_n 2), (39, .iload 4), (41, .iload_n 3), (42, .iload 4), (44, .isub), (45, .invokevirtual 103), (48, .ifCond .eq 29), (51, .iload_n 1), (52, .sipush 203), (55, .if_icmp .ge 22), (58, .aload_n 0), (59, .getfield 26), (62, .iload_n 1), (63, .bipush 13), (65, .iload 4), (67, .imul), (68, .iload_n 3), (69, .iadd), (70, .iload 4), (72, .isub), (73, .iastore), (74, .iinc 1 1), (77, .iinc 4 1), (80, .goto (-52)), (83, .iinc 3 (-1)), (86, .goto (-65)), (89, .iinc 2 1), (92, .goto (-88)), (95, .aload_n 0), (96, .getfield 23), (99, .bipush 13), (101, .iload_n 1), (102, .iastore), (103, .return_)]
theorem jtk_Rules_listMoves : jtok cX8_listMoves jtb_Rules_listMoves = true := by decide +kernel
set_option maxRecDepth 100000 in
theorem jfl_X8_23 : jFl RX8 23 8 3 := ⟨RX8, TX8, 10, tyX8, rfl, by decide, jin_X8, tyX8_ok, nmX8, jow_X8, (Or.inl (jTB_at 369 rfl rfl))⟩
set_option maxRecDepth 100000 in
theorem jfl_X8_26 : jFl RX8 26 8 4 := ⟨RX8, TX8, 10, tyX8, rfl, by decide, jin_X8, tyX8_ok, nmX8, jow_X8, (Or.inl (jTB_at 370 rfl rfl))⟩
set_option maxRecDepth 100000 in
theorem jlk_X8_103 : jLkV RX8 103 yX8_allows cX8_allows 6 4 3 := ⟨(jTB_at 709 rfl rfl), (jTB_at 711 rfl rfl), (jTB_at 19 rfl rfl), (jTB_at 121 rfl rfl), jTB_at 712 rfl rfl, ⟨by decide, by decide, by decide +kernel⟩⟩
def jE_Rules_listMoves (F : Nat) : jxE := jmk [(23, 8, 3), (26, 8, 4)] [] [] [(103, (4, false), jca_Rules_allows F)] 0 jc_C
set_option maxRecDepth 100000 in
set_option maxHeartbeats 4000000 in
theorem jmet_Rules_listMoves (F : Nat) (sh : List jxC) (hs : jHas sh jc_C) (σ0 : jxS) (x : Int) (σ' : jxS) (h : Rules_listMoves F σ0 = some (x, σ')) : jMC yX8_listMoves cX8_listMoves 5 (jrt 0) 1 25 sh σ0 [(jmr 10)] (jrv 0 x) σ' := by
  refine jMC_of (kd := 0) (by decide) rfl h ?_
  intro X hX
  have hG : jGd X (jE_Rules_listMoves F) jtb_Rules_listMoves := jGd_of hX jtk_Rules_listMoves (jcon jfl_X8_23 (jcon jfl_X8_26 jnil)) jnil jnil (jcon (jsV jlk_X8_103 ⟨rfl, rfl⟩ (jad_Rules_allows F sh hs)) jnil) hs
  have rr28 : ∀ (k4 : Int → Int → jxS → Option jxR) (h4 : ∀ v1 v2 σ, jRf X (k4 v1 v2 σ) 4 [some (jmr 10), some (jmi v1), some (jmi v2), none, none] [] σ) (k21 : Int → Int → Int → jxS → Option jxR) (h21 : ∀ v1 v2 v3 σ, jRf X (k21 v1 v2 v3 σ) 21 [some (jmr 10), some (jmi v1), some (jmi v2), some (jmi v3), none] [] σ) (fu : Nat) (v1 v2 v3 v4 : Int) (σ : jxS), jRf X (Rules_listMoves_c28 F k4 k21 fu v1 v2 v3 v4 σ) 28 [some (jmr 10), some (jmi v1), some (jmi v2), some (jmi v3), some (jmi v4)] [] σ := by
    intro k4 h4 k21 h21 fu
    induction fu with
    | zero => intros; exact jRf_none
    | succ fu ih =>
      intro v1 v2 v3 v4 σ
      exact jRf_by (jex_ok hG (cs := [(21, [some (.inr (some 10)), some (.inl 0), some (.inl 0), some (.inl 0), none], [], fun xs σ => match xs with
      | [v1, v2, v3] => k21 v1 v2 v3 σ
      | _ => none), (28, [some (.inr (some 10)), some (.inl 0), some (.inl 0), some (.inl 0), some (.inl 0)], [], fun xs σ => match xs with
      | [v1, v2, v3, v4] => (Rules_listMoves_c28 F k4 k21 fu) v1 v2 v3 v4 σ
      | _ => none)]) (jcon (jl3 (fun y0 y1 y2 => jl0 (fun σ => h21 y0 y1 y2 σ))) (jcon (jl4 (fun y0 y1 y2 y3 => jl0 (fun σ => ih y0 y1 y2 y3 σ))) jnil)) 63 28 [some (jmr 10), some (jmi v1), some (jmi v2), some (jmi v3), some (jmi v4)] [] σ) rfl
  have rr21 : ∀ (k4 : Int → Int → jxS → Option jxR) (h4 : ∀ v1 v2 σ, jRf X (k4 v1 v2 σ) 4 [some (jmr 10), some (jmi v1), some (jmi v2), none, none] [] σ) (fu : Nat) (v1 v2 v3 : Int) (σ : jxS), jRf X (Rules_listMoves_c21 F k4 fu v1 v2 v3 σ) 21 [some (jmr 10), some (jmi v1), some (jmi v2), some (jmi v3), none] [] σ := by
    intro k4 h4 fu
    induction fu with
    | zero => intros; exact jRf_none
    | succ fu ih =>
      intro v1 v2 v3 σ
      exact jRf_by (jex_ok hG (cs := [(4, [some (.inr (some 10)), some (.inl 0), some (.inl 0), none, none], [], fun xs σ => match xs with
      | [v1, v2] => k4 v1 v2 σ
      | _ => none), (28, [some (.inr (some 10)), some (.inl 0), some (.inl 0), some (.inl 0), some (.inl 0)], [], fun xs σ => match xs with
      | [v1, v2, v3, v4] => Rules_listMoves_c28 F k4 (Rules_listMoves_c21 F k4 fu) F v1 v2 v3 v4 σ
      | _ => none)]) (jcon (jl2 (fun y0 y1 => jl0 (fun σ => h4 y0 y1 σ))) (jcon (jl4 (fun y0 y1 y2 y3 => jl0 (fun σ => rr28 _ h4 _ ih F y0 y1 y2 y3 σ))) jnil)) 63 21 [some (jmr 10), some (jmi v1), some (jmi v2), some (jmi v3), none] [] σ) rfl
  have rr4 : ∀ (fu : Nat) (v1 v2 : Int) (σ : jxS), jRf X (Rules_listMoves_c4 F fu v1 v2 σ) 4 [some (jmr 10), some (jmi v1), some (jmi v2), none, none] [] σ := by
    intro  fu
    induction fu with
    | zero => intros; exact jRf_none
    | succ fu ih =>
      intro v1 v2 σ
      exact jRf_by (jex_ok hG (cs := [(21, [some (.inr (some 10)), some (.inl 0), some (.inl 0), some (.inl 0), none], [], fun xs σ => match xs with
      | [v1, v2, v3] => Rules_listMoves_c21 F (Rules_listMoves_c4 F fu) F v1 v2 v3 σ
      | _ => none)]) (jcon (jl3 (fun y0 y1 y2 => jl0 (fun σ => rr21 _ ih F y0 y1 y2 σ))) jnil) 63 4 [some (jmr 10), some (jmi v1), some (jmi v2), none, none] [] σ) rfl
  exact jRf_by (jex_ok hG (cs := [(4, [some (.inr (some 10)), some (.inl 0), some (.inl 0), none, none], [], fun xs σ => match xs with
      | [v1, v2] => Rules_listMoves_c4 F F v1 v2 σ
      | _ => none)]) (jcon (jl2 (fun y0 y1 => jl0 (fun σ => rr4 F y0 y1 σ))) jnil) 63 0 [some (jmr 10), none, none, none, none] [] σ0) rfl
theorem jad_Rules_listMoves (F : Nat) (sh : List jxC) (hs : jHas sh jc_C) : jAdV (jca_Rules_listMoves F) yX8_listMoves cX8_listMoves 5 0 1 25 0 sh := by
  intro as σ k x σ' h
  unfold jca_Rules_listMoves at h
  split at h
  · rename_i t0
    obtain ⟨g0, hh1⟩ := jcond h
    obtain rfl := jbeq g0
    obtain ⟨r, h1, h2⟩ := Option.bind_eq_some_iff.mp hh1
    exact ⟨_, _, h2, ⟨_, _, _, _, _, _, rfl, rfl, (hs _ (jkf_in (l := jc_C) (idx := 10) rfl)).1, rfl⟩, jmet_Rules_listMoves F  sh hs σ  r.1 r.2 h1⟩
  · cases h
def jtb_LL_leastMissing : List (Nat × Instr) := [(0, .iconst 0), (1, .istore_n 1), (2, .iconst 0), (3, .istore_n 2), (4, .iload_n 2), (5, .bipush 31), (7, .if_icmp .ge 22), (10, .iload_n 0), (11, .iload_n 2), (12, .ishr), (13, .iconst 1), (14, .iand), (15, .iconst 1), (16, .if_icmp .ne 13), (19, .iload_n 2), (20, .iconst 1), (21, .iadd), (22, .istore_n 1), (23, .iinc 2 1), (26, .goto (-22)), (29, .iload_n 1), (30, .ireturn)]
theorem jtk_LL_leastMissing : jtok cX11_leastMissing jtb_LL_leastMissing = true := by decide +kernel
def jE_LL_leastMissing (F : Nat) : jxE := jmk [] [] [] [] 1 jc_E
set_option maxRecDepth 100000 in
set_option maxHeartbeats 4000000 in
theorem jmet_LL_leastMissing (F : Nat) (sh : List jxC) (hs : jHas sh jc_E) (σ0 : jxS) (v0 : Int) (x : Int) (σ' : jxS) (h : LL_leastMissing F σ0 v0 = some (x, σ')) : jMC yX11_leastMissing cX11_leastMissing 3 (jrt 1) 0 0 sh σ0 [(jmi v0)] (jrv 1 x) σ' := by
  refine jMC_of (kd := 1) (by decide) rfl h ?_
  intro X hX
  have hG : jGd X (jE_LL_leastMissing F) jtb_LL_leastMissing := jGd_of hX jtk_LL_leastMissing jnil jnil jnil jnil hs
  have rr4 : ∀ (fu : Nat) (v0 v1 v2 : Int) (σ : jxS), jRf X (LL_leastMissing_c4 F fu v0 v1 v2 σ) 4 [some (jmi v0), some (jmi v1), some (jmi v2)] [] σ := by
    intro  fu
    induction fu with
    | zero => intros; exact jRf_none
    | succ fu ih =>
      intro v0 v1 v2 σ
      exact jRf_by (jex_ok hG (cs := [(4, [some (.inl 0), some (.inl 0), some (.inl 0)], [], fun xs σ => match xs with
      | [v0, v1, v2] => (LL_leastMissing_c4 F fu) v0 v1 v2 σ
      | _ => none)]) (jcon (jl3 (fun y0 y1 y2 => jl0 (fun σ => ih y0 y1 y2 σ))) jnil) 25 4 [some (jmi v0), some (jmi v1), some (jmi v2)] [] σ) rfl
  exact jRf_by (jex_ok hG (cs := [(4, [some (.inl 0), some (.inl 0), some (.inl 0)], [], fun xs σ => match xs with
      | [v0, v1, v2] => LL_leastMissing_c4 F F v0 v1 v2 σ
      | _ => none)]) (jcon (jl3 (fun y0 y1 y2 => jl0 (fun σ => rr4 F y0 y1 y2 σ))) jnil) 25 0 [some (jmi v0), none, none] [] σ0) rfl
theorem jad_LL_leastMissing (F : Nat) (sh : List jxC) (hs : jHas sh jc_E) : jAdS (jca_LL_leastMissing F) yX11_leastMissing cX11_leastMissing 3 1 0 0 1 sh := by
  intro as σ k x σ' h
  unfold jca_LL_leastMissing at h
  split at h
  · rename_i v0
    obtain ⟨r, h1, h2⟩ := Option.bind_eq_some_iff.mp h
    exact ⟨_, _, h2, rfl, jmet_LL_leastMissing F  sh hs σ v0 r.1 r.2 h1⟩
  · cases h
def jtb_Rules_judgeHeap : List (Nat × Instr) := [(0, .iconst 0), (1, .istore_n 2), (2, .bipush 22), (4, .istore_n 3), (5, .iconst 0), (6, .istore 4), (8, .aload_n 0), (9, .getfield 23), (12, .iload_n 1), (13, .iaload), (14, .istore 5), (16, .iload 5), (18, .aload_n 0), (19, .getfield 23), (22, .iload_n 1), (23, .iconst 1), (24, .iadd), (25, .iaload), (26, .if_icmp .ge 99), (29, .aload_n 0), (30, .getfield 26), (33, .iload 5), (35, .iaload), (36, .bipush 13), (38, .idiv), (39, .istore 6), (41, .aload_n 0), (42, .getfield 26), (45, .iload 5), (47, .iaload), (48, .bipush 13), (50, .irem), (51, .istore 7), (53, .iload_n 2), (54, .iconst 1), (55, .aload_n 0), (56, .getfield 29), (59, .iload 6), (61, .iaload), (62, .aload_n 0), (63, .getfield 29), (66, .iload 7), (68, .iaload), (69, .ixor), (70, .ishl), (71, .ior), (72, .istore_n 2), (73, .iload_n 3), (74, .iconst 1), (75, .aload_n 0), (76, .getfield 32), (79, .iload 6), (81, .iaload), (82, .iadd), (83, .aload_n 0), (84, .getfield 32), (87, .iload 7), (89, .iaload), (90, .iadd), (91, .invokestatic 91), (94, .istore_n 3), (95, .iload 4), (97, .iconst 1), (98, .aload_n 0), (99, .getfield 35), (102, .iload 6), (104, .iaload), (105, .iadd), (106, .aload_n 0), (107, .getfield 35), (110, .iload 7), (112, .iaload), (113, .iadd), (114, .invokestatic 97), (117, .istore 4), (119, .iinc 5 1), (122, .goto (-106)), (125, .aload_n 0), (126, .getfield 29), (129, .iload_n 1), (130, .iload_n 2), (131, .invokestatic 107), (134, .iastore), (135, .aload_n 0), (136, .getfield 32), (139, .iload_n 1), (140, .iload 4), (142, .ifCond .ne 7), (145, .iconst 0), (146, .goto 4), (149, .iload_n 3), (150, .iastore), (151, .aload_n 0), (152, .getfield 35), (155, .iload_n 1), (156, .iload 4), (158, .iastore), (159, .return_)]
theorem jtk_Rules_judgeHeap : jtok cX8_judgeHeap jtb_Rules_judgeHeap = true := by decide +kernel
set_option maxRecDepth 100000 in
theorem jfl_X8_29 : jFl RX8 29 8 5 := ⟨RX8, TX8, 10, tyX8, rfl, by decide, jin_X8, tyX8_ok, nmX8, jow_X8, (Or.inl (jTB_at 371 rfl rfl))⟩
set_option maxRecDepth 100000 in
theorem jfl_X8_32 : jFl RX8 32 8 6 := ⟨RX8, TX8, 10, tyX8, rfl, by decide, jin_X8, tyX8_ok, nmX8, jow_X8, (Or.inl (jTB_at 372 rfl rfl))⟩
set_option maxRecDepth 100000 in
theorem jfl_X8_35 : jFl RX8 35 8 7 := ⟨RX8, TX8, 10, tyX8, rfl, by decide, jin_X8, tyX8_ok, nmX8, jow_X8, (Or.inl (jTB_at 373 rfl rfl))⟩
set_option maxRecDepth 100000 in
theorem jlk_X8_107 : jLkS RX8 107 yX11_leastMissing cX11_leastMissing 3 1 1 := ⟨Or.inr ⟨"LastLoses", (jNS_at 717 rfl rfl)⟩, (jTB_at 718 rfl rfl), (jTB_at 112 rfl rfl), jTB_at 719 rfl rfl, ⟨by decide, by decide, by decide +kernel⟩⟩
def jE_Rules_judgeHeap (F : Nat) : jxE := jmk [(23, 8, 3), (26, 8, 4), (29, 8, 5), (32, 8, 6), (35, 8, 7)] [] [] [(91, (2, true), jca_min), (97, (2, true), jca_max), (107, (1, true), jca_LL_leastMissing F)] 0 jc_C
set_option maxRecDepth 100000 in
set_option maxHeartbeats 4000000 in
theorem jmet_Rules_judgeHeap (F : Nat) (sh : List jxC) (hs : jHas sh jc_C) (σ0 : jxS) (v1 : Int) (x : Int) (σ' : jxS) (h : Rules_judgeHeap F σ0 v1 = some (x, σ')) : jMC yX8_judgeHeap cX8_judgeHeap 8 (jrt 0) 1 40 sh σ0 [(jmr 10), (jmi v1)] (jrv 0 x) σ' := by
  refine jMC_of (kd := 0) (by decide) rfl h ?_
  intro X hX
  have hG : jGd X (jE_Rules_judgeHeap F) jtb_Rules_judgeHeap := jGd_of hX jtk_Rules_judgeHeap (jcon jfl_X8_23 (jcon jfl_X8_26 (jcon jfl_X8_29 (jcon jfl_X8_32 (jcon jfl_X8_35 jnil))))) jnil jnil (jcon (js_min (jTB_at 696 rfl rfl) (by decide) (by decide)) (jcon (js_max (jTB_at 699 rfl rfl) (by decide) (by decide)) (jcon (jsS jlk_X8_107 ⟨rfl, rfl⟩ (jad_LL_leastMissing F sh jh_E)) jnil))) hs
  have rr150 : ∀ (v1 v4 t0 t1 : Int) (σ : jxS), jRf X (Rules_judgeHeap_c150 F v1 v4 t0 t1 σ) 150 [some (jmr 10), some (jmi v1), none, none, some (jmi v4), none, none, none] [(jmi t0), (jmi t1), (jmr 17)] σ := by
    intro  v1 v4 t0 t1 σ
    exact jRf_by (jex_ok hG (cs := []) jnil 101 150 [some (jmr 10), some (jmi v1), none, none, some (jmi v4), none, none, none] [(jmi t0), (jmi t1), (jmr 17)] σ) rfl
  have rr16 : ∀ (fu : Nat) (v1 v2 v3 v4 v5 : Int) (σ : jxS), jRf X (Rules_judgeHeap_c16 F fu v1 v2 v3 v4 v5 σ) 16 [some (jmr 10), some (jmi v1), some (jmi v2), some (jmi v3), some (jmi v4), some (jmi v5), none, none] [] σ := by
    intro  fu
    induction fu with
    | zero => intros; exact jRf_none
    | succ fu ih =>
      intro v1 v2 v3 v4 v5 σ
      exact jRf_by (jex_ok hG (cs := [(16, [some (.inr (some 10)), some (.inl 0), some (.inl 0), some (.inl 0), some (.inl 0), some (.inl 0), none, none], [], fun xs σ => match xs with
      | [v1, v2, v3, v4, v5] => (Rules_judgeHeap_c16 F fu) v1 v2 v3 v4 v5 σ
      | _ => none), (150, [some (.inr (some 10)), some (.inl 0), none, none, some (.inl 0), none, none, none], [(.inl 0), (.inl 0), (.inr (some 17))], fun xs σ => match xs with
      | [v1, v4, t0, t1] => Rules_judgeHeap_c150 F v1 v4 t0 t1 σ
      | _ => none)]) (jcon (jl5 (fun y0 y1 y2 y3 y4 => jl0 (fun σ => ih y0 y1 y2 y3 y4 σ))) (jcon (jl2 (fun y0 y1 => jl2 (fun y2 y3 => (fun σ => rr150 y0 y1 y2 y3 σ)))) jnil)) 101 16 [some (jmr 10), some (jmi v1), some (jmi v2), some (jmi v3), some (jmi v4), some (jmi v5), none, none] [] σ) rfl
  exact jRf_by (jex_ok hG (cs := [(16, [some (.inr (some 10)), some (.inl 0), some (.inl 0), some (.inl 0), some (.inl 0), some (.inl 0), none, none], [], fun xs σ => match xs with
      | [v1, v2, v3, v4, v5] => Rules_judgeHeap_c16 F F v1 v2 v3 v4 v5 σ
      | _ => none)]) (jcon (jl5 (fun y0 y1 y2 y3 y4 => jl0 (fun σ => rr16 F y0 y1 y2 y3 y4 σ))) jnil) 101 0 [some (jmr 10), some (jmi v1), none, none, none, none, none, none] [] σ0) rfl
theorem jad_Rules_judgeHeap (F : Nat) (sh : List jxC) (hs : jHas sh jc_C) : jAdV (jca_Rules_judgeHeap F) yX8_judgeHeap cX8_judgeHeap 8 0 1 40 1 sh := by
  intro as σ k x σ' h
  unfold jca_Rules_judgeHeap at h
  split at h
  · rename_i t0 v1
    obtain ⟨g0, hh1⟩ := jcond h
    obtain rfl := jbeq g0
    obtain ⟨r, h1, h2⟩ := Option.bind_eq_some_iff.mp hh1
    exact ⟨_, _, h2, ⟨_, _, _, _, _, _, rfl, rfl, (hs _ (jkf_in (l := jc_C) (idx := 10) rfl)).1, rfl⟩, jmet_Rules_judgeHeap F  sh hs σ v1 r.1 r.2 h1⟩
  · cases h
def jtb_Rules_learn : List (Nat × Instr) := [(0, .aload_n 0), (1, .aload_n 1), (2, .getfield 38), (5, .putfield 42), (8, .aload_n 0), (9, .aload_n 1), (10, .getfield 45), (13, .iconst 1), (14, .isub), (15, .putfield 48), (18, .aload_n 1), (19, .getfield 51), (22, .iconst 0), (23, .aload_n 0), (24, .getfield 11), (27, .iconst 0), (28, .aload_n 0), (29, .getfield 11), (32, .arraylength), (33, .invokestatic 52), (36, .aload_n 0), (37, .getfield 17), (40, .iconst 0), (41, .invokestatic 58), (44, .aload_n 0), (45, .getfield 20), (48, .iconst 0), (49, .invokestatic 58), (52, .iconst 0), (53, .istore_n 2), (54, .iload_n 2), (55, .aload_n 1), (56, .getfield 45), (59, .if_icmp .ge 43), (62, .iload_n 2), (63, .bipush 16), (65, .if_icmp .ge 37), (68, .aload_n 0), (69, .aload_n 1), (70, .getfield 64), (73, .iload_n 2), (74, .iaload), (75, .aload_n 1), (76, .getfield 67), (79, .iload_n 2), (80, .iaload), (81, .aload_n 1), (82, .getfield 70), (85, .iload_n 2), (86, .iaload), (87, .aload_n 1), (88, .getfield 73), (91, .iload_n 2), (92, .iaload), (93, .invokevirtual 76), (96, .iinc 2 1), (99, .goto (-45)), (102, .aload_n 0), (103, .invokevirtual 80), (106, .iconst 1), (107, .istore_n 2), (108, .iload_n 2), (109, .bipush 12), (111, .if_icmp .gt 14), (114, .aload_n 0), (115, .iload_n 2), (116, .invokevirtual 83), (119, .iinc 2 1), (122, .goto (-14)), (125, .return_)]
theorem jtk_Rules_learn : jtok cX8_learn jtb_Rules_learn = true := by decide +kernel
set_option maxRecDepth 100000 in
theorem jfl_X8_38 : jFl RX8 38 7 6 := ⟨RX7, TX7, 10, tyX7, rfl, by decide, jin_X7, tyX7_ok, nmX7, jow_X7, (Or.inr ⟨"LastLoses", (jNS_at 171 rfl rfl)⟩)⟩
set_option maxRecDepth 100000 in
theorem jfl_X8_45 : jFl RX8 45 7 7 := ⟨RX7, TX7, 10, tyX7, rfl, by decide, jin_X7, tyX7_ok, nmX7, jow_X7, (Or.inr ⟨"LastLoses", (jNS_at 173 rfl rfl)⟩)⟩
set_option maxRecDepth 100000 in
theorem jfl_X8_48 : jFl RX8 48 8 9 := ⟨RX8, TX8, 10, tyX8, rfl, by decide, jin_X8, tyX8_ok, nmX8, jow_X8, (Or.inl (jTB_at 375 rfl rfl))⟩
set_option maxRecDepth 100000 in
theorem jfl_X8_51 : jFl RX8 51 7 1 := ⟨RX7, TX7, 10, tyX7, rfl, by decide, jin_X7, tyX7_ok, nmX7, jow_X7, (Or.inr ⟨"LastLoses", (jNS_at 162 rfl rfl)⟩)⟩
set_option maxRecDepth 100000 in
theorem jfl_X8_64 : jFl RX8 64 7 2 := ⟨RX7, TX7, 10, tyX7, rfl, by decide, jin_X7, tyX7_ok, nmX7, jow_X7, (Or.inr ⟨"LastLoses", (jNS_at 164 rfl rfl)⟩)⟩
set_option maxRecDepth 100000 in
theorem jfl_X8_67 : jFl RX8 67 7 3 := ⟨RX7, TX7, 10, tyX7, rfl, by decide, jin_X7, tyX7_ok, nmX7, jow_X7, (Or.inr ⟨"LastLoses", (jNS_at 166 rfl rfl)⟩)⟩
set_option maxRecDepth 100000 in
theorem jfl_X8_70 : jFl RX8 70 7 4 := ⟨RX7, TX7, 10, tyX7, rfl, by decide, jin_X7, tyX7_ok, nmX7, jow_X7, (Or.inr ⟨"LastLoses", (jNS_at 168 rfl rfl)⟩)⟩
set_option maxRecDepth 100000 in
theorem jfl_X8_73 : jFl RX8 73 7 5 := ⟨RX7, TX7, 10, tyX7, rfl, by decide, jin_X7, tyX7_ok, nmX7, jow_X7, (Or.inr ⟨"LastLoses", (jNS_at 170 rfl rfl)⟩)⟩
set_option maxRecDepth 100000 in
theorem jlk_X8_58 : jLkS RX8 58 yJ7_fill_53178 cJ7_fill_53178 4 0 2 := ⟨Or.inl (jTB_at 686 rfl rfl), (jTB_at 687 rfl rfl), (jTB_at 130 rfl rfl), jTB_at 688 rfl rfl, ⟨by decide, by decide, by decide +kernel⟩⟩
set_option maxRecDepth 100000 in
theorem jlk_X8_76 : jLkV RX8 76 yX8_learnLine cX8_learnLine 7 0 4 := ⟨(jTB_at 689 rfl rfl), (jTB_at 691 rfl rfl), (jTB_at 17 rfl rfl), (jTB_at 121 rfl rfl), jTB_at 692 rfl rfl, ⟨by decide, by decide, by decide +kernel⟩⟩
set_option maxRecDepth 100000 in
theorem jlk_X8_80 : jLkV RX8 80 yX8_listMoves cX8_listMoves 5 0 0 := ⟨(jTB_at 705 rfl rfl), (jTB_at 707 rfl rfl), (jTB_at 18 rfl rfl), (jTB_at 121 rfl rfl), jTB_at 708 rfl rfl, ⟨by decide, by decide, by decide +kernel⟩⟩
set_option maxRecDepth 100000 in
theorem jlk_X8_83 : jLkV RX8 83 yX8_judgeHeap cX8_judgeHeap 8 0 1 := ⟨(jTB_at 713 rfl rfl), (jTB_at 715 rfl rfl), (jTB_at 20 rfl rfl), (jTB_at 121 rfl rfl), jTB_at 716 rfl rfl, ⟨by decide, by decide, by decide +kernel⟩⟩
def jE_Rules_learn (F : Nat) : jxE := jmk [(11, 8, 0), (17, 8, 1), (20, 8, 2), (38, 7, 6), (42, 8, 8), (45, 7, 7), (48, 8, 9), (51, 7, 1), (64, 7, 2), (67, 7, 3), (70, 7, 4), (73, 7, 5)] [] [] [(52, (5, true), jca_copy), (58, (2, true), jca_Arrays_fill_AIIV F), (76, (5, false), jca_Rules_learnLine F), (80, (1, false), jca_Rules_listMoves F), (83, (2, false), jca_Rules_judgeHeap F)] 0 jc_C
set_option maxRecDepth 100000 in
set_option maxHeartbeats 4000000 in
theorem jmet_Rules_learn (F : Nat) (sh : List jxC) (hs : jHas sh jc_C) (σ0 : jxS) (x : Int) (σ' : jxS) (h : Rules_learn F σ0 = some (x, σ')) : jMC yX8_learn cX8_learn 3 (jrt 0) 2 67 sh σ0 [(jmr 10), (jmr 3)] (jrv 0 x) σ' := by
  refine jMC_of (kd := 0) (by decide) rfl h ?_
  intro X hX
  have hG : jGd X (jE_Rules_learn F) jtb_Rules_learn := jGd_of hX jtk_Rules_learn (jcon jfl_X8_11 (jcon jfl_X8_17 (jcon jfl_X8_20 (jcon jfl_X8_38 (jcon jfl_X8_42 (jcon jfl_X8_45 (jcon jfl_X8_48 (jcon jfl_X8_51 (jcon jfl_X8_64 (jcon jfl_X8_67 (jcon jfl_X8_70 (jcon jfl_X8_73 jnil)))))))))))) jnil jnil (jcon (js_copy hs (by decide) (by decide)) (jcon (jsS jlk_X8_58 ⟨rfl, rfl⟩ (jad_Arrays_fill_AIIV F sh hs)) (jcon (jsV jlk_X8_76 ⟨rfl, rfl⟩ (jad_Rules_learnLine F sh hs)) (jcon (jsV jlk_X8_80 ⟨rfl, rfl⟩ (jad_Rules_listMoves F sh hs)) (jcon (jsV jlk_X8_83 ⟨rfl, rfl⟩ (jad_Rules_judgeHeap F sh hs)) jnil))))) hs
  have rr108 : ∀ (fu : Nat) (v2 : Int) (σ : jxS), jRf X (Rules_learn_c108 F fu v2 σ) 108 [some (jmr 10), none, some (jmi v2)] [] σ := by
    intro  fu
    induction fu with
    | zero => intros; exact jRf_none
    | succ fu ih =>
      intro v2 σ
      exact jRf_by (jex_ok hG (cs := [(108, [some (.inr (some 10)), none, some (.inl 0)], [], fun xs σ => match xs with
      | [v2] => (Rules_learn_c108 F fu) v2 σ
      | _ => none)]) (jcon (jl1 (fun y0 => jl0 (fun σ => ih y0 σ))) jnil) 73 108 [some (jmr 10), none, some (jmi v2)] [] σ) rfl
  have rr102 : ∀ (σ : jxS), jRf X (Rules_learn_c102 F  σ) 102 [some (jmr 10), none, none] [] σ := by
    intro   σ
    exact jRf_by (jex_ok hG (cs := [(108, [some (.inr (some 10)), none, some (.inl 0)], [], fun xs σ => match xs with
      | [v2] => Rules_learn_c108 F F v2 σ
      | _ => none)]) (jcon (jl1 (fun y0 => jl0 (fun σ => rr108 F y0 σ))) jnil) 73 102 [some (jmr 10), none, none] [] σ) rfl
  have rr54 : ∀ (fu : Nat) (v2 : Int) (σ : jxS), jRf X (Rules_learn_c54 F fu v2 σ) 54 [some (jmr 10), some (jmr 3), some (jmi v2)] [] σ := by
    intro  fu
    induction fu with
    | zero => intros; exact jRf_none
    | succ fu ih =>
      intro v2 σ
      exact jRf_by (jex_ok hG (cs := [(54, [some (.inr (some 10)), some (.inr (some 3)), some (.inl 0)], [], fun xs σ => match xs with
      | [v2] => (Rules_learn_c54 F fu) v2 σ
      | _ => none), (102, [some (.inr (some 10)), none, none], [], fun xs σ => match xs with
      | [] => Rules_learn_c102 F  σ
      | _ => none)]) (jcon (jl1 (fun y0 => jl0 (fun σ => ih y0 σ))) (jcon (jl0 (jl0 (fun σ => rr102  σ))) jnil)) 73 54 [some (jmr 10), some (jmr 3), some (jmi v2)] [] σ) rfl
  exact jRf_by (jex_ok hG (cs := [(54, [some (.inr (some 10)), some (.inr (some 3)), some (.inl 0)], [], fun xs σ => match xs with
      | [v2] => Rules_learn_c54 F F v2 σ
      | _ => none)]) (jcon (jl1 (fun y0 => jl0 (fun σ => rr54 F y0 σ))) jnil) 73 0 [some (jmr 10), some (jmr 3), none] [] σ0) rfl
theorem jad_Rules_learn (F : Nat) (sh : List jxC) (hs : jHas sh jc_C) : jAdV (jca_Rules_learn F) yX8_learn cX8_learn 3 0 2 67 1 sh := by
  intro as σ k x σ' h
  unfold jca_Rules_learn at h
  split at h
  · rename_i t0 t1
    obtain ⟨g0, hh1⟩ := jcond h
    obtain rfl := jbeq g0
    obtain ⟨g1, hh2⟩ := jcond hh1
    obtain rfl := jbeq g1
    obtain ⟨r, h1, h2⟩ := Option.bind_eq_some_iff.mp hh2
    exact ⟨_, _, h2, ⟨_, _, _, _, _, _, rfl, rfl, (hs _ (jkf_in (l := jc_C) (idx := 10) rfl)).1, rfl⟩, jmet_Rules_learn F  sh hs σ  r.1 r.2 h1⟩
  · cases h
def jtb_Cycle_forget : List (Nat × Instr) := [(0, .aload_n 0), (1, .iconst 0), (2, .putfield 18), (5, .return_)]
theorem jtk_Cycle_forget : jtok cX1_forget jtb_Cycle_forget = true := by decide +kernel
set_option maxRecDepth 100000 in
theorem jfl_X1_18 : jFl RX1 18 1 2 := ⟨RX1, TX1, 5, tyX1, rfl, by decide, jin_X1, tyX1_ok, nmX1, jow_X1, (Or.inl (jTB_at 406 rfl rfl))⟩
def jE_Cycle_forget (F : Nat) : jxE := jmk [(18, 1, 2)] [] [] [] 0 jc_C
set_option maxRecDepth 100000 in
set_option maxHeartbeats 4000000 in
theorem jmet_Cycle_forget (F : Nat) (sh : List jxC) (hs : jHas sh jc_C) (σ0 : jxS) (x : Int) (σ' : jxS) (h : Cycle_forget F σ0 = some (x, σ')) : jMC yX1_forget cX1_forget 1 (jrt 0) 0 0 sh σ0 [(jmr 19)] (jrv 0 x) σ' := by
  refine jMC_of (kd := 0) (by decide) rfl h ?_
  intro X hX
  have hG : jGd X (jE_Cycle_forget F) jtb_Cycle_forget := jGd_of hX jtk_Cycle_forget (jcon jfl_X1_18 jnil) jnil jnil jnil hs
  exact jRf_by (jex_ok hG (cs := []) jnil 7 0 [some (jmr 19)] [] σ0) rfl
theorem jad_Cycle_forget (F : Nat) (sh : List jxC) (hs : jHas sh jc_C) : jAdV (jca_Cycle_forget F) yX1_forget cX1_forget 1 0 0 0 0 sh := by
  intro as σ k x σ' h
  unfold jca_Cycle_forget at h
  split at h
  · rename_i t0
    obtain ⟨g0, hh1⟩ := jcond h
    obtain rfl := jbeq g0
    obtain ⟨r, h1, h2⟩ := Option.bind_eq_some_iff.mp hh1
    exact ⟨_, _, h2, ⟨_, _, _, _, _, _, rfl, rfl, (hs _ (jkf_in (l := jc_C) (idx := 19) rfl)).1, rfl⟩, jmet_Cycle_forget F  sh hs σ  r.1 r.2 h1⟩
  · cases h
def jtb_Hand_empty : List (Nat × Instr) := [(0, .aload_n 0), (1, .iconst 0), (2, .putfield 18), (5, .aload_n 0), (6, .iconst 0), (7, .putfield 22), (10, .aload_n 0), (11, .iconst 0), (12, .putfield 25), (15, .aload_n 0), (16, .getfield 15), (19, .iconst (-1)), (20, .invokestatic 28), (23, .return_)]
theorem jtk_Hand_empty : jtok cX2_empty jtb_Hand_empty = true := by decide +kernel
set_option maxRecDepth 100000 in
theorem jfl_X2_15 : jFl RX2 15 2 1 := ⟨RX2, TX2, 5, tyX2, rfl, by decide, jin_X2, tyX2_ok, nmX2, jow_X2, (Or.inl (jTB_at 495 rfl rfl))⟩
set_option maxRecDepth 100000 in
theorem jfl_X2_18 : jFl RX2 18 2 2 := ⟨RX2, TX2, 5, tyX2, rfl, by decide, jin_X2, tyX2_ok, nmX2, jow_X2, (Or.inl (jTB_at 496 rfl rfl))⟩
set_option maxRecDepth 100000 in
theorem jfl_X2_22 : jFl RX2 22 2 3 := ⟨RX2, TX2, 5, tyX2, rfl, by decide, jin_X2, tyX2_ok, nmX2, jow_X2, (Or.inl (jTB_at 497 rfl rfl))⟩
set_option maxRecDepth 100000 in
theorem jfl_X2_25 : jFl RX2 25 2 4 := ⟨RX2, TX2, 5, tyX2, rfl, by decide, jin_X2, tyX2_ok, nmX2, jow_X2, (Or.inl (jTB_at 498 rfl rfl))⟩
set_option maxRecDepth 100000 in
theorem jlk_X2_28 : jLkS RX2 28 yJ7_fill_53178 cJ7_fill_53178 4 0 2 := ⟨Or.inl (jTB_at 728 rfl rfl), (jTB_at 687 rfl rfl), (jTB_at 130 rfl rfl), jTB_at 688 rfl rfl, ⟨by decide, by decide, by decide +kernel⟩⟩
def jE_Hand_empty (F : Nat) : jxE := jmk [(15, 2, 1), (18, 2, 2), (22, 2, 3), (25, 2, 4)] [] [] [(28, (2, true), jca_Arrays_fill_AIIV F)] 0 jc_C
set_option maxRecDepth 100000 in
set_option maxHeartbeats 4000000 in
theorem jmet_Hand_empty (F : Nat) (sh : List jxC) (hs : jHas sh jc_C) (σ0 : jxS) (x : Int) (σ' : jxS) (h : Hand_empty F σ0 = some (x, σ')) : jMC yX2_empty cX2_empty 1 (jrt 0) 1 23 sh σ0 [(jmr 29)] (jrv 0 x) σ' := by
  refine jMC_of (kd := 0) (by decide) rfl h ?_
  intro X hX
  have hG : jGd X (jE_Hand_empty F) jtb_Hand_empty := jGd_of hX jtk_Hand_empty (jcon jfl_X2_15 (jcon jfl_X2_18 (jcon jfl_X2_22 (jcon jfl_X2_25 jnil)))) jnil jnil (jcon (jsS jlk_X2_28 ⟨rfl, rfl⟩ (jad_Arrays_fill_AIIV F sh hs)) jnil) hs
  exact jRf_by (jex_ok hG (cs := []) jnil 17 0 [some (jmr 29)] [] σ0) rfl
theorem jad_Hand_empty (F : Nat) (sh : List jxC) (hs : jHas sh jc_C) : jAdV (jca_Hand_empty F) yX2_empty cX2_empty 1 0 1 23 0 sh := by
  intro as σ k x σ' h
  unfold jca_Hand_empty at h
  split at h
  · rename_i t0
    obtain ⟨g0, hh1⟩ := jcond h
    obtain rfl := jbeq g0
    obtain ⟨r, h1, h2⟩ := Option.bind_eq_some_iff.mp hh1
    exact ⟨_, _, h2, ⟨_, _, _, _, _, _, rfl, rfl, (hs _ (jkf_in (l := jc_C) (idx := 29) rfl)).1, rfl⟩, jmet_Hand_empty F  sh hs σ  r.1 r.2 h1⟩
  · cases h
def jtb_Arrays_fill_AJJV : List (Nat × Instr) := [(0, .iconst 0), (1, .istore_n 3), (2, .aload_n 0), (3, .arraylength), (4, .istore 4), (6, .iload_n 3), (7, .iload 4), (9, .if_icmp .ge 13), (12, .aload_n 0), (13, .iload_n 3), (14, .lload_n 1), (15, .lastore), (16, .iinc 3 1), (19, .goto (-13)), (22, .return_)]
theorem jtk_Arrays_fill_AJJV : jtok cJ7_fill_d0a16 jtb_Arrays_fill_AJJV = true := by decide +kernel
def jE_Arrays_fill_AJJV (F : Nat) : jxE := jmk [] [] [] [] 0 jc_C
set_option maxRecDepth 100000 in
set_option maxHeartbeats 4000000 in
theorem jmet_Arrays_fill_AJJV_37 (F : Nat) (sh : List jxC) (hs : jHas sh jc_C) (σ0 : jxS) (v1 : Int) (x : Int) (σ' : jxS) (h : Arrays_fill_AJJV F 37 σ0 v1 = some (x, σ')) : jMC yJ7_fill_d0a16 cJ7_fill_d0a16 5 (jrt 0) 0 0 sh σ0 [(jmr 37), (jml v1)] (jrv 0 x) σ' := by
  refine jMC_of (kd := 0) (by decide) rfl h ?_
  intro X hX
  have hG : jGd X (jE_Arrays_fill_AJJV F) jtb_Arrays_fill_AJJV := jGd_of hX jtk_Arrays_fill_AJJV jnil jnil jnil jnil hs
  have rr6 : ∀ (fu : Nat) (v1 v3 v4 : Int) (σ : jxS), jRf X (Arrays_fill_AJJV_c6 F 37 fu v1 v3 v4 σ) 6 [some (jmr 37), some (jml v1), none, some (jmi v3), some (jmi v4)] [] σ := by
    intro  fu
    induction fu with
    | zero => intros; exact jRf_none
    | succ fu ih =>
      intro v1 v3 v4 σ
      exact jRf_by (jex_ok hG (cs := [(6, [some (.inr (some 37)), some (.inl 1), none, some (.inl 0), some (.inl 0)], [], fun xs σ => match xs with
      | [v1, v3, v4] => (Arrays_fill_AJJV_c6 F 37 fu) v1 v3 v4 σ
      | _ => none)]) (jcon (jl3 (fun y0 y1 y2 => jl0 (fun σ => ih y0 y1 y2 σ))) jnil) 18 6 [some (jmr 37), some (jml v1), none, some (jmi v3), some (jmi v4)] [] σ) rfl
  exact jRf_by (jex_ok hG (cs := [(6, [some (.inr (some 37)), some (.inl 1), none, some (.inl 0), some (.inl 0)], [], fun xs σ => match xs with
      | [v1, v3, v4] => Arrays_fill_AJJV_c6 F 37 F v1 v3 v4 σ
      | _ => none)]) (jcon (jl3 (fun y0 y1 y2 => jl0 (fun σ => rr6 F y0 y1 y2 σ))) jnil) 18 0 [some (jmr 37), some (jml v1), none, none, none] [] σ0) rfl
theorem jmet_Arrays_fill_AJJV (F : Nat) (a0 : Nat) (ha0 : a0 ∈ jids_Arrays_fill_AJJV_a0) (sh : List jxC) (hs : jHas sh jc_C) (σ0 : jxS) (v1 : Int) (x : Int) (σ' : jxS) (h : Arrays_fill_AJJV F a0 σ0 v1 = some (x, σ')) : jMC yJ7_fill_d0a16 cJ7_fill_d0a16 5 (jrt 0) 0 0 sh σ0 [(jmr a0), (jml v1)] (jrv 0 x) σ' := by
  simp only [jids_Arrays_fill_AJJV_a0, List.mem_cons, List.not_mem_nil, or_false] at ha0
  rcases ha0 with rfl
  · exact jmet_Arrays_fill_AJJV_37 F sh hs σ0 v1 x σ' h
theorem jad_Arrays_fill_AJJV (F : Nat) (sh : List jxC) (hs : jHas sh jc_C) : jAdS (jca_Arrays_fill_AJJV F) yJ7_fill_d0a16 cJ7_fill_d0a16 5 0 0 0 2 sh := by
  intro as σ k x σ' h
  unfold jca_Arrays_fill_AJJV at h
  split at h
  · rename_i t0 v1
    obtain ⟨g0, hh1⟩ := jcond h
    have g0 := jin_of g0
    obtain ⟨r, h1, h2⟩ := Option.bind_eq_some_iff.mp hh1
    exact ⟨_, _, h2, rfl, jmet_Arrays_fill_AJJV F t0 g0 sh hs σ v1 r.1 r.2 h1⟩
  · cases h
def jtb_Values_forget : List (Nat × Instr) := [(0, .aload_n 0), (1, .iconst 0), (2, .putfield 44), (5, .aload_n 0), (6, .iconst 0), (7, .putfield 48), (10, .aload_n 0), (11, .getfield 23), (14, .ldc2_w 51), (17, .invokestatic 53), (20, .return_)]
theorem jtk_Values_forget : jtok cX10_forget jtb_Values_forget = true := by decide +kernel
set_option maxRecDepth 100000 in
theorem jfl_X10_23 : jFl RX10 23 10 6 := ⟨RX10, TX10, 9, tyX10, rfl, by decide, jin_X10, tyX10_ok, nmX10, jow_X10, (Or.inl (jTB_at 549 rfl rfl))⟩
set_option maxRecDepth 100000 in
theorem jfl_X10_44 : jFl RX10 44 10 7 := ⟨RX10, TX10, 9, tyX10, rfl, by decide, jin_X10, tyX10_ok, nmX10, jow_X10, (Or.inl (jTB_at 550 rfl rfl))⟩
set_option maxRecDepth 100000 in
theorem jfl_X10_48 : jFl RX10 48 10 8 := ⟨RX10, TX10, 9, tyX10, rfl, by decide, jin_X10, tyX10_ok, nmX10, jow_X10, (Or.inl (jTB_at 551 rfl rfl))⟩
set_option maxRecDepth 100000 in
theorem jlk_X10_53 : jLkS RX10 53 yJ7_fill_d0a16 cJ7_fill_d0a16 5 0 2 := ⟨Or.inl (jTB_at 734 rfl rfl), (jTB_at 735 rfl rfl), (jTB_at 130 rfl rfl), jTB_at 736 rfl rfl, ⟨by decide, by decide, by decide +kernel⟩⟩
def jE_Values_forget (F : Nat) : jxE := jmk [(23, 10, 6), (44, 10, 7), (48, 10, 8)] [(51, jml (-1))] [] [(53, (2, true), jca_Arrays_fill_AJJV F)] 0 jc_C
set_option maxRecDepth 100000 in
set_option maxHeartbeats 4000000 in
theorem jmet_Values_forget (F : Nat) (sh : List jxC) (hs : jHas sh jc_C) (σ0 : jxS) (x : Int) (σ' : jxS) (h : Values_forget F σ0 = some (x, σ')) : jMC yX10_forget cX10_forget 1 (jrt 0) 1 24 sh σ0 [(jmr 33)] (jrv 0 x) σ' := by
  refine jMC_of (kd := 0) (by decide) rfl h ?_
  intro X hX
  have hG : jGd X (jE_Values_forget F) jtb_Values_forget := jGd_of hX jtk_Values_forget (jcon jfl_X10_23 (jcon jfl_X10_44 (jcon jfl_X10_48 jnil))) (jcon (jTB_at 733 rfl rfl) jnil) jnil (jcon (jsS jlk_X10_53 ⟨rfl, rfl⟩ (jad_Arrays_fill_AJJV F sh hs)) jnil) hs
  exact jRf_by (jex_ok hG (cs := []) jnil 14 0 [some (jmr 33)] [] σ0) rfl
theorem jad_Values_forget (F : Nat) (sh : List jxC) (hs : jHas sh jc_C) : jAdV (jca_Values_forget F) yX10_forget cX10_forget 1 0 1 24 0 sh := by
  intro as σ k x σ' h
  unfold jca_Values_forget at h
  split at h
  · rename_i t0
    obtain ⟨g0, hh1⟩ := jcond h
    obtain rfl := jbeq g0
    obtain ⟨r, h1, h2⟩ := Option.bind_eq_some_iff.mp hh1
    exact ⟨_, _, h2, ⟨_, _, _, _, _, _, rfl, rfl, (hs _ (jkf_in (l := jc_C) (idx := 33) rfl)).1, rfl⟩, jmet_Values_forget F  sh hs σ  r.1 r.2 h1⟩
  · cases h
def jtb_Quotient_forget : List (Nat × Instr) := [(0, .aload_n 0), (1, .iconst 0), (2, .putfield 37), (5, .aload_n 0), (6, .bipush (-9)), (8, .putfield 40), (11, .aload_n 0), (12, .iconst 0), (13, .putfield 43), (16, .return_)]
theorem jtk_Quotient_forget : jtok cX6_forget jtb_Quotient_forget = true := by decide +kernel
set_option maxRecDepth 100000 in
theorem jfl_X6_37 : jFl RX6 37 6 7 := ⟨RX6, TX6, 10, tyX6, rfl, by decide, jin_X6, tyX6_ok, nmX6, jow_X6, (Or.inl (jTB_at 610 rfl rfl))⟩
set_option maxRecDepth 100000 in
theorem jfl_X6_40 : jFl RX6 40 6 8 := ⟨RX6, TX6, 10, tyX6, rfl, by decide, jin_X6, tyX6_ok, nmX6, jow_X6, (Or.inl (jTB_at 611 rfl rfl))⟩
set_option maxRecDepth 100000 in
theorem jfl_X6_43 : jFl RX6 43 6 9 := ⟨RX6, TX6, 10, tyX6, rfl, by decide, jin_X6, tyX6_ok, nmX6, jow_X6, (Or.inl (jTB_at 614 rfl rfl))⟩
def jE_Quotient_forget (F : Nat) : jxE := jmk [(37, 6, 7), (40, 6, 8), (43, 6, 9)] [] [] [] 0 jc_C
set_option maxRecDepth 100000 in
set_option maxHeartbeats 4000000 in
theorem jmet_Quotient_forget_48 (F : Nat) (sh : List jxC) (hs : jHas sh jc_C) (σ0 : jxS) (x : Int) (σ' : jxS) (h : Quotient_forget F 48 σ0 = some (x, σ')) : jMC yX6_forget cX6_forget 1 (jrt 0) 0 0 sh σ0 [(jmr 48)] (jrv 0 x) σ' := by
  refine jMC_of (kd := 0) (by decide) rfl h ?_
  intro X hX
  have hG : jGd X (jE_Quotient_forget F) jtb_Quotient_forget := jGd_of hX jtk_Quotient_forget (jcon jfl_X6_37 (jcon jfl_X6_40 (jcon jfl_X6_43 jnil))) jnil jnil jnil hs
  exact jRf_by (jex_ok hG (cs := []) jnil 13 0 [some (jmr 48)] [] σ0) rfl
set_option maxRecDepth 100000 in
set_option maxHeartbeats 4000000 in
theorem jmet_Quotient_forget_53 (F : Nat) (sh : List jxC) (hs : jHas sh jc_C) (σ0 : jxS) (x : Int) (σ' : jxS) (h : Quotient_forget F 53 σ0 = some (x, σ')) : jMC yX6_forget cX6_forget 1 (jrt 0) 0 0 sh σ0 [(jmr 53)] (jrv 0 x) σ' := by
  refine jMC_of (kd := 0) (by decide) rfl h ?_
  intro X hX
  have hG : jGd X (jE_Quotient_forget F) jtb_Quotient_forget := jGd_of hX jtk_Quotient_forget (jcon jfl_X6_37 (jcon jfl_X6_40 (jcon jfl_X6_43 jnil))) jnil jnil jnil hs
  exact jRf_by (jex_ok hG (cs := []) jnil 13 0 [some (jmr 53)] [] σ0) rfl
set_option maxRecDepth 100000 in
set_option maxHeartbeats 4000000 in
theorem jmet_Quotient_forget_58 (F : Nat) (sh : List jxC) (hs : jHas sh jc_C) (σ0 : jxS) (x : Int) (σ' : jxS) (h : Quotient_forget F 58 σ0 = some (x, σ')) : jMC yX6_forget cX6_forget 1 (jrt 0) 0 0 sh σ0 [(jmr 58)] (jrv 0 x) σ' := by
  refine jMC_of (kd := 0) (by decide) rfl h ?_
  intro X hX
  have hG : jGd X (jE_Quotient_forget F) jtb_Quotient_forget := jGd_of hX jtk_Quotient_forget (jcon jfl_X6_37 (jcon jfl_X6_40 (jcon jfl_X6_43 jnil))) jnil jnil jnil hs
  exact jRf_by (jex_ok hG (cs := []) jnil 13 0 [some (jmr 58)] [] σ0) rfl
set_option maxRecDepth 100000 in
set_option maxHeartbeats 4000000 in
theorem jmet_Quotient_forget_63 (F : Nat) (sh : List jxC) (hs : jHas sh jc_C) (σ0 : jxS) (x : Int) (σ' : jxS) (h : Quotient_forget F 63 σ0 = some (x, σ')) : jMC yX6_forget cX6_forget 1 (jrt 0) 0 0 sh σ0 [(jmr 63)] (jrv 0 x) σ' := by
  refine jMC_of (kd := 0) (by decide) rfl h ?_
  intro X hX
  have hG : jGd X (jE_Quotient_forget F) jtb_Quotient_forget := jGd_of hX jtk_Quotient_forget (jcon jfl_X6_37 (jcon jfl_X6_40 (jcon jfl_X6_43 jnil))) jnil jnil jnil hs
  exact jRf_by (jex_ok hG (cs := []) jnil 13 0 [some (jmr 63)] [] σ0) rfl
set_option maxRecDepth 100000 in
set_option maxHeartbeats 4000000 in
theorem jmet_Quotient_forget_68 (F : Nat) (sh : List jxC) (hs : jHas sh jc_C) (σ0 : jxS) (x : Int) (σ' : jxS) (h : Quotient_forget F 68 σ0 = some (x, σ')) : jMC yX6_forget cX6_forget 1 (jrt 0) 0 0 sh σ0 [(jmr 68)] (jrv 0 x) σ' := by
  refine jMC_of (kd := 0) (by decide) rfl h ?_
  intro X hX
  have hG : jGd X (jE_Quotient_forget F) jtb_Quotient_forget := jGd_of hX jtk_Quotient_forget (jcon jfl_X6_37 (jcon jfl_X6_40 (jcon jfl_X6_43 jnil))) jnil jnil jnil hs
  exact jRf_by (jex_ok hG (cs := []) jnil 13 0 [some (jmr 68)] [] σ0) rfl
set_option maxRecDepth 100000 in
set_option maxHeartbeats 4000000 in
theorem jmet_Quotient_forget_73 (F : Nat) (sh : List jxC) (hs : jHas sh jc_C) (σ0 : jxS) (x : Int) (σ' : jxS) (h : Quotient_forget F 73 σ0 = some (x, σ')) : jMC yX6_forget cX6_forget 1 (jrt 0) 0 0 sh σ0 [(jmr 73)] (jrv 0 x) σ' := by
  refine jMC_of (kd := 0) (by decide) rfl h ?_
  intro X hX
  have hG : jGd X (jE_Quotient_forget F) jtb_Quotient_forget := jGd_of hX jtk_Quotient_forget (jcon jfl_X6_37 (jcon jfl_X6_40 (jcon jfl_X6_43 jnil))) jnil jnil jnil hs
  exact jRf_by (jex_ok hG (cs := []) jnil 13 0 [some (jmr 73)] [] σ0) rfl
theorem jmet_Quotient_forget (F : Nat) (q : Nat) (hq : q ∈ jids_Quotient_forget_q) (sh : List jxC) (hs : jHas sh jc_C) (σ0 : jxS) (x : Int) (σ' : jxS) (h : Quotient_forget F q σ0 = some (x, σ')) : jMC yX6_forget cX6_forget 1 (jrt 0) 0 0 sh σ0 [(jmr q)] (jrv 0 x) σ' := by
  simp only [jids_Quotient_forget_q, List.mem_cons, List.not_mem_nil, or_false] at hq
  rcases hq with rfl | rfl | rfl | rfl | rfl | rfl
  · exact jmet_Quotient_forget_48 F sh hs σ0  x σ' h
  · exact jmet_Quotient_forget_53 F sh hs σ0  x σ' h
  · exact jmet_Quotient_forget_58 F sh hs σ0  x σ' h
  · exact jmet_Quotient_forget_63 F sh hs σ0  x σ' h
  · exact jmet_Quotient_forget_68 F sh hs σ0  x σ' h
  · exact jmet_Quotient_forget_73 F sh hs σ0  x σ' h
theorem jad_Quotient_forget (F : Nat) (sh : List jxC) (hs : jHas sh jc_C) : jAdV (jca_Quotient_forget F) yX6_forget cX6_forget 1 0 0 0 0 sh := by
  intro as σ k x σ' h
  unfold jca_Quotient_forget at h
  split at h
  · rename_i t0
    obtain ⟨g0, hh1⟩ := jcond h
    have g0 := jin_of g0
    obtain ⟨r, h1, h2⟩ := Option.bind_eq_some_iff.mp hh1
    exact ⟨_, _, h2, (by obtain ⟨fks, hfk⟩ := jrc_Quotient hs g0; exact ⟨_, _, _, _, _, _, rfl, rfl, hfk, rfl⟩), jmet_Quotient_forget F t0 g0 sh hs σ  r.1 r.2 h1⟩
  · cases h
def jtb_Board_begin : List (Nat × Instr) := [(0, .aload_n 0), (1, .getfield 12), (4, .aload_n 1), (5, .invokevirtual 73), (8, .aload_n 0), (9, .getfield 21), (12, .invokevirtual 77), (15, .aload_n 0), (16, .getfield 35), (19, .invokevirtual 80), (22, .aload_n 0), (23, .getfield 50), (26, .invokevirtual 83), (29, .iconst 0), (30, .istore_n 2), (31, .iload_n 2), (32, .bipush 6), (34, .if_icmp .ge 27), (37, .aload_n 0), (38, .getfield 41), (41, .iload_n 2), (42, .aaload), (43, .ifnull 12), (46, .aload_n 0), (47, .getfield 41), (50, .iload_n 2), (51, .aaload), (52, .invokevirtual 84), (55, .iinc 2 1), (58, .goto (-27)), (61, .aload_n 0), (62, .bipush (-2)), (64, .putfield 85), (67, .aload_n 0), (68, .bipush (-2)), (70, .putfield 89), (73, .return_)]
theorem jtk_Board_begin : jtok cX0_begin jtb_Board_begin = true := by decide +kernel
set_option maxRecDepth 100000 in
theorem jfl_X0_12 : jFl RX0 12 0 0 := ⟨RX0, TX0, 10, tyX0, rfl, by decide, jin_X0, tyX0_ok, nmX0, jow_X0, (Or.inl (jTB_at 638 rfl rfl))⟩
set_option maxRecDepth 100000 in
theorem jfl_X0_21 : jFl RX0 21 0 1 := ⟨RX0, TX0, 10, tyX0, rfl, by decide, jin_X0, tyX0_ok, nmX0, jow_X0, (Or.inl (jTB_at 640 rfl rfl))⟩
set_option maxRecDepth 100000 in
theorem jfl_X0_35 : jFl RX0 35 0 3 := ⟨RX0, TX0, 10, tyX0, rfl, by decide, jin_X0, tyX0_ok, nmX0, jow_X0, (Or.inl (jTB_at 644 rfl rfl))⟩
set_option maxRecDepth 100000 in
theorem jfl_X0_41 : jFl RX0 41 0 7 := ⟨RX0, TX0, 10, tyX0, rfl, by decide, jin_X0, tyX0_ok, nmX0, jow_X0, (Or.inl (jTB_at 650 rfl rfl))⟩
set_option maxRecDepth 100000 in
theorem jfl_X0_50 : jFl RX0 50 0 4 := ⟨RX0, TX0, 10, tyX0, rfl, by decide, jin_X0, tyX0_ok, nmX0, jow_X0, (Or.inl (jTB_at 646 rfl rfl))⟩
set_option maxRecDepth 100000 in
theorem jfl_X0_85 : jFl RX0 85 0 8 := ⟨RX0, TX0, 10, tyX0, rfl, by decide, jin_X0, tyX0_ok, nmX0, jow_X0, (Or.inl (jTB_at 652 rfl rfl))⟩
set_option maxRecDepth 100000 in
theorem jfl_X0_89 : jFl RX0 89 0 9 := ⟨RX0, TX0, 10, tyX0, rfl, by decide, jin_X0, tyX0_ok, nmX0, jow_X0, (Or.inl (jTB_at 653 rfl rfl))⟩
set_option maxRecDepth 100000 in
theorem jlk_X0_73 : jLkV RX0 73 yX8_learn cX8_learn 3 0 1 := ⟨(jTB_at 679 rfl rfl), (jTB_at 680 rfl rfl), (jTB_at 681 rfl rfl), (jTB_at 121 rfl rfl), jTB_at 682 rfl rfl, ⟨by decide, by decide, by decide +kernel⟩⟩
set_option maxRecDepth 100000 in
theorem jlk_X0_77 : jLkV RX0 77 yX1_forget cX1_forget 1 0 0 := ⟨(jTB_at 720 rfl rfl), (jTB_at 721 rfl rfl), (jTB_at 722 rfl rfl), (jTB_at 122 rfl rfl), jTB_at 723 rfl rfl, ⟨by decide, by decide, by decide +kernel⟩⟩
set_option maxRecDepth 100000 in
theorem jlk_X0_80 : jLkV RX0 80 yX2_empty cX2_empty 1 0 0 := ⟨(jTB_at 724 rfl rfl), (jTB_at 725 rfl rfl), (jTB_at 726 rfl rfl), (jTB_at 124 rfl rfl), jTB_at 727 rfl rfl, ⟨by decide, by decide, by decide +kernel⟩⟩
set_option maxRecDepth 100000 in
theorem jlk_X0_83 : jLkV RX0 83 yX10_forget cX10_forget 1 0 0 := ⟨(jTB_at 729 rfl rfl), (jTB_at 730 rfl rfl), (jTB_at 731 rfl rfl), (jTB_at 125 rfl rfl), jTB_at 732 rfl rfl, ⟨by decide, by decide, by decide +kernel⟩⟩
set_option maxRecDepth 100000 in
theorem jlk_X0_84 : jLkV RX0 84 yX6_forget cX6_forget 1 0 0 := ⟨(jTB_at 737 rfl rfl), (jTB_at 738 rfl rfl), (jTB_at 739 rfl rfl), (jTB_at 128 rfl rfl), jTB_at 740 rfl rfl, ⟨by decide, by decide, by decide +kernel⟩⟩
def jE_Board_begin (F : Nat) : jxE := jmk [(12, 0, 0), (21, 0, 1), (35, 0, 3), (41, 0, 7), (50, 0, 4), (85, 0, 8), (89, 0, 9)] [] [] [(73, (2, false), jca_Rules_learn F), (77, (1, false), jca_Cycle_forget F), (80, (1, false), jca_Hand_empty F), (83, (1, false), jca_Values_forget F), (84, (1, false), jca_Quotient_forget F)] 0 jc_C
set_option maxRecDepth 100000 in
set_option maxHeartbeats 4000000 in
theorem jmet_Board_begin (F : Nat) (sh : List jxC) (hs : jHas sh jc_C) (σ0 : jxS) (x : Int) (σ' : jxS) (h : Board_begin F σ0 = some (x, σ')) : jMC yX0_begin cX0_begin 3 (jrt 0) 3 89 sh σ0 [(jmr 9), (jmr 3)] (jrv 0 x) σ' := by
  refine jMC_of (kd := 0) (by decide) rfl h ?_
  intro X hX
  have hG : jGd X (jE_Board_begin F) jtb_Board_begin := jGd_of hX jtk_Board_begin (jcon jfl_X0_12 (jcon jfl_X0_21 (jcon jfl_X0_35 (jcon jfl_X0_41 (jcon jfl_X0_50 (jcon jfl_X0_85 (jcon jfl_X0_89 jnil))))))) jnil jnil (jcon (jsV jlk_X0_73 ⟨rfl, rfl⟩ (jad_Rules_learn F sh hs)) (jcon (jsV jlk_X0_77 ⟨rfl, rfl⟩ (jad_Cycle_forget F sh hs)) (jcon (jsV jlk_X0_80 ⟨rfl, rfl⟩ (jad_Hand_empty F sh hs)) (jcon (jsV jlk_X0_83 ⟨rfl, rfl⟩ (jad_Values_forget F sh hs)) (jcon (jsV jlk_X0_84 ⟨rfl, rfl⟩ (jad_Quotient_forget F sh hs)) jnil))))) hs
  have rr31 : ∀ (fu : Nat) (v2 : Int) (σ : jxS), jRf X (Board_begin_c31 F fu v2 σ) 31 [some (jmr 9), none, some (jmi v2)] [] σ := by
    intro  fu
    induction fu with
    | zero => intros; exact jRf_none
    | succ fu ih =>
      intro v2 σ
      exact jRf_by (jex_ok hG (cs := [(31, [some (.inr (some 9)), none, some (.inl 0)], [], fun xs σ => match xs with
      | [v2] => (Board_begin_c31 F fu) v2 σ
      | _ => none)]) (jcon (jl1 (fun y0 => jl0 (fun σ => ih y0 σ))) jnil) 40 31 [some (jmr 9), none, some (jmi v2)] [] σ) rfl
  exact jRf_by (jex_ok hG (cs := [(31, [some (.inr (some 9)), none, some (.inl 0)], [], fun xs σ => match xs with
      | [v2] => Board_begin_c31 F F v2 σ
      | _ => none)]) (jcon (jl1 (fun y0 => jl0 (fun σ => rr31 F y0 σ))) jnil) 40 0 [some (jmr 9), some (jmr 3), none] [] σ0) rfl
theorem jad_Board_begin (F : Nat) (sh : List jxC) (hs : jHas sh jc_C) : jAdV (jca_Board_begin F) yX0_begin cX0_begin 3 0 3 89 1 sh := by
  intro as σ k x σ' h
  unfold jca_Board_begin at h
  split at h
  · rename_i t0 t1
    obtain ⟨g0, hh1⟩ := jcond h
    obtain rfl := jbeq g0
    obtain ⟨g1, hh2⟩ := jcond hh1
    obtain rfl := jbeq g1
    obtain ⟨r, h1, h2⟩ := Option.bind_eq_some_iff.mp hh2
    exact ⟨_, _, h2, ⟨_, _, _, _, _, _, rfl, rfl, (hs _ (jkf_in (l := jc_C) (idx := 9) rfl)).1, rfl⟩, jmet_Board_begin F  sh hs σ  r.1 r.2 h1⟩
  · cases h
def jtb_LL1_game : List (Nat × Instr) := [(0, .aload_n 0), (1, .getfield 21), (4, .invokevirtual 45), (7, .istore_n 1), (8, .aload_n 0), (9, .getfield 10), (12, .iconst 0), (13, .invokevirtual 41), (16, .pop), (17, .iload_n 1), (18, .ifCond .le 32), (21, .aload_n 0), (22, .getfield 48), (25, .ifnonnull 14), (39, .aload_n 0), (40, .getfield 48), (43, .aload_n 0), (44, .getfield 21), (47, .invokevirtual 55), (50, .iload_n 1), (51, .ireturn)]
theorem jtk_LL1_game : jtok cX11_game jtb_LL1_game = true := by decide +kernel
set_option maxRecDepth 100000 in
theorem jfl_X11_21 : jFl RX11 21 11 1 := ⟨RX11, TX11, 4, tyX11, rfl, by decide, jin_X11, tyX11_ok, nmX11, jow_X11, (Or.inl (jTB_at 199 rfl rfl))⟩
set_option maxRecDepth 100000 in
theorem jfl_X11_48 : jFl RX11 48 11 2 := ⟨RX11, TX11, 4, tyX11, rfl, by decide, jin_X11, tyX11_ok, nmX11, jow_X11, (Or.inl (jTB_at 200 rfl rfl))⟩
set_option maxRecDepth 100000 in
theorem jlk_X11_45 : jLkV RX11 45 yX7_readText cX7_readText 3 1 0 := ⟨(jTB_at 239 rfl rfl), (jTB_at 240 rfl rfl), (jTB_at 241 rfl rfl), (jTB_at 114 rfl rfl), jTB_at 242 rfl rfl, ⟨by decide, by decide, by decide +kernel⟩⟩
set_option maxRecDepth 100000 in
theorem jlk_X11_55 : jLkV RX11 55 yX0_begin cX0_begin 3 0 1 := ⟨(jTB_at 675 rfl rfl), (jTB_at 676 rfl rfl), (jTB_at 677 rfl rfl), (jTB_at 120 rfl rfl), jTB_at 678 rfl rfl, ⟨by decide, by decide, by decide +kernel⟩⟩
def jE_LL1_game (F : Nat) : jxE := jmk [(10, 11, 0), (21, 11, 1), (48, 11, 2)] [] [] [(41, (2, false), jca_Tape_cutTo F), (45, (1, false), jca_Reader_readText F), (55, (2, false), jca_Board_begin F)] 1 jc_L1
set_option maxRecDepth 100000 in
set_option maxHeartbeats 4000000 in
theorem jmet_LL1_game (F : Nat) (sh : List jxC) (hs : jHas sh jc_L1) (σ0 : jxS) (x : Int) (σ' : jxS) (h : LL1_game F σ0 = some (x, σ')) : jMC yX11_game cX11_game 2 (jrt 1) 8 189 sh σ0 [(jmr 0)] (jrv 1 x) σ' := by
  refine jMC_of (kd := 1) (by decide) rfl h ?_
  intro X hX
  have hG : jGd X (jE_LL1_game F) jtb_LL1_game := jGd_of hX jtk_LL1_game (jcon jfl_X11_10 (jcon jfl_X11_21 (jcon jfl_X11_48 jnil))) jnil jnil (jcon (jsV jlk_X11_41 ⟨rfl, rfl⟩ (jad_Tape_cutTo F sh (jh_L1T hs))) (jcon (jsV jlk_X11_45 ⟨rfl, rfl⟩ (jad_Reader_readText F sh (jh_L1T hs))) (jcon (jsV jlk_X11_55 ⟨rfl, rfl⟩ (jad_Board_begin F sh (jh_L1C hs))) jnil))) hs
  have rr39 : ∀ (v1 : Int) (σ : jxS), jRf X (LL1_game_c39 F v1 σ) 39 [some (jmr 0), some (jmi v1)] [] σ := by
    intro  v1 σ
    exact jRf_by (jex_ok hG (cs := []) jnil 29 39 [some (jmr 0), some (jmi v1)] [] σ) rfl
  exact jRf_by (jex_ok hG (cs := [(39, [some (.inr (some 0)), some (.inl 0)], [], fun xs σ => match xs with
      | [v1] => LL1_game_c39 F v1 σ
      | _ => none)]) (jcon (jl1 (fun y0 => jl0 (fun σ => rr39 y0 σ))) jnil) 29 0 [some (jmr 0), none] [] σ0) rfl
theorem jad_LL1_game (F : Nat) (sh : List jxC) (hs : jHas sh jc_L1) : jAdV (jca_LL1_game F) yX11_game cX11_game 2 1 8 189 0 sh := by
  intro as σ k x σ' h
  unfold jca_LL1_game at h
  split at h
  · rename_i t0
    obtain ⟨g0, hh1⟩ := jcond h
    obtain rfl := jbeq g0
    obtain ⟨r, h1, h2⟩ := Option.bind_eq_some_iff.mp hh1
    exact ⟨_, _, h2, ⟨_, _, _, _, _, _, rfl, rfl, (hs _ (jkf_in (l := jc_L1) (idx := 0) rfl)).1, rfl⟩, jmet_LL1_game F  sh hs σ  r.1 r.2 h1⟩
  · cases h
def jtb_Rules_moveCount : List (Nat × Instr) := [(0, .iload_n 1), (1, .invokestatic 87), (4, .ifCond .eq 21), (7, .aload_n 0), (8, .getfield 23), (11, .iload_n 1), (12, .iconst 1), (13, .iadd), (14, .iaload), (15, .aload_n 0), (16, .getfield 23), (19, .iload_n 1), (20, .iaload), (21, .isub), (22, .goto 4), (25, .iconst 0), (26, .ireturn)]
theorem jtk_Rules_moveCount : jtok cX8_moveCount jtb_Rules_moveCount = true := by decide +kernel
def jE_Rules_moveCount (F : Nat) : jxE := jmk [(23, 8, 3)] [] [] [(87, (1, true), jca_LL_isHeap F)] 1 jc_C
set_option maxRecDepth 100000 in
set_option maxHeartbeats 4000000 in
theorem jmet_Rules_moveCount (F : Nat) (sh : List jxC) (hs : jHas sh jc_C) (σ0 : jxS) (v1 : Int) (x : Int) (σ' : jxS) (h : Rules_moveCount F σ0 v1 = some (x, σ')) : jMC yX8_moveCount cX8_moveCount 2 (jrt 1) 1 20 sh σ0 [(jmr 10), (jmi v1)] (jrv 1 x) σ' := by
  refine jMC_of (kd := 1) (by decide) rfl h ?_
  intro X hX
  have hG : jGd X (jE_Rules_moveCount F) jtb_Rules_moveCount := jGd_of hX jtk_Rules_moveCount (jcon jfl_X8_23 jnil) jnil jnil (jcon (jsS jlk_X8_87 ⟨rfl, rfl⟩ (jad_LL_isHeap F sh jh_E)) jnil) hs
  exact jRf_by (jex_ok hG (cs := []) jnil 20 0 [some (jmr 10), some (jmi v1)] [] σ0) rfl
theorem jad_Rules_moveCount (F : Nat) (sh : List jxC) (hs : jHas sh jc_C) : jAdV (jca_Rules_moveCount F) yX8_moveCount cX8_moveCount 2 1 1 20 1 sh := by
  intro as σ k x σ' h
  unfold jca_Rules_moveCount at h
  split at h
  · rename_i t0 v1
    obtain ⟨g0, hh1⟩ := jcond h
    obtain rfl := jbeq g0
    obtain ⟨r, h1, h2⟩ := Option.bind_eq_some_iff.mp hh1
    exact ⟨_, _, h2, ⟨_, _, _, _, _, _, rfl, rfl, (hs _ (jkf_in (l := jc_C) (idx := 10) rfl)).1, rfl⟩, jmet_Rules_moveCount F  sh hs σ v1 r.1 r.2 h1⟩
  · cases h
def jtb_LL1_moves : List (Nat × Instr) := [(0, .aload_n 0), (1, .getfield 48), (4, .ifnull 10), (7, .iload_n 1), (8, .invokestatic 59), (11, .ifCond .ne 7), (14, .iconst (-1)), (15, .goto 14), (18, .aload_n 0), (19, .getfield 48), (22, .getfield 62), (25, .iload_n 1), (26, .invokevirtual 66), (29, .ireturn)]
theorem jtk_LL1_moves : jtok cX11_moves jtb_LL1_moves = true := by decide +kernel
set_option maxRecDepth 100000 in
theorem jfl_X11_62 : jFl RX11 62 0 0 := ⟨RX0, TX0, 10, tyX0, rfl, by decide, jin_X0, tyX0_ok, nmX0, jow_X0, (Or.inr ⟨"LastLoses", (jNS_at 639 rfl rfl)⟩)⟩
set_option maxRecDepth 100000 in
theorem jlk_X11_59 : jLkS RX11 59 yX11_isHeap cX11_isHeap 1 4 1 := ⟨Or.inl (jTB_at 745 rfl rfl), (jTB_at 694 rfl rfl), (jTB_at 112 rfl rfl), jTB_at 695 rfl rfl, ⟨by decide, by decide, by decide +kernel⟩⟩
set_option maxRecDepth 100000 in
theorem jlk_X11_66 : jLkV RX11 66 yX8_moveCount cX8_moveCount 2 1 1 := ⟨(jTB_at 746 rfl rfl), (jTB_at 747 rfl rfl), (jTB_at 748 rfl rfl), (jTB_at 121 rfl rfl), jTB_at 749 rfl rfl, ⟨by decide, by decide, by decide +kernel⟩⟩
def jE_LL1_moves (F : Nat) : jxE := jmk [(48, 11, 2), (62, 0, 0)] [] [] [(59, (1, true), jca_LL_isHeap F), (66, (2, false), jca_Rules_moveCount F)] 1 jc_L1
set_option maxRecDepth 100000 in
set_option maxHeartbeats 4000000 in
theorem jmet_LL1_moves (F : Nat) (sh : List jxC) (hs : jHas sh jc_L1) (σ0 : jxS) (v1 : Int) (x : Int) (σ' : jxS) (h : LL1_moves F σ0 v1 = some (x, σ')) : jMC yX11_moves cX11_moves 2 (jrt 1) 2 41 sh σ0 [(jmr 0), (jmi v1)] (jrv 1 x) σ' := by
  refine jMC_of (kd := 1) (by decide) rfl h ?_
  intro X hX
  have hG : jGd X (jE_LL1_moves F) jtb_LL1_moves := jGd_of hX jtk_LL1_moves (jcon jfl_X11_48 (jcon jfl_X11_62 jnil)) jnil jnil (jcon (jsS jlk_X11_59 ⟨rfl, rfl⟩ (jad_LL_isHeap F sh jh_E)) (jcon (jsV jlk_X11_66 ⟨rfl, rfl⟩ (jad_Rules_moveCount F sh (jh_L1C hs))) jnil)) hs
  exact jRf_by (jex_ok hG (cs := []) jnil 17 0 [some (jmr 0), some (jmi v1)] [] σ0) rfl
theorem jad_LL1_moves (F : Nat) (sh : List jxC) (hs : jHas sh jc_L1) : jAdV (jca_LL1_moves F) yX11_moves cX11_moves 2 1 2 41 1 sh := by
  intro as σ k x σ' h
  unfold jca_LL1_moves at h
  split at h
  · rename_i t0 v1
    obtain ⟨g0, hh1⟩ := jcond h
    obtain rfl := jbeq g0
    obtain ⟨r, h1, h2⟩ := Option.bind_eq_some_iff.mp hh1
    exact ⟨_, _, h2, ⟨_, _, _, _, _, _, rfl, rfl, (hs _ (jkf_in (l := jc_L1) (idx := 0) rfl)).1, rfl⟩, jmet_LL1_moves F  sh hs σ v1 r.1 r.2 h1⟩
  · cases h
def jtb_Rules_moveAt : List (Nat × Instr) := [(0, .iload_n 1), (1, .invokestatic 87), (4, .ifCond .eq 26), (7, .iload_n 2), (8, .ifCond .lt 22), (11, .iload_n 2), (12, .aload_n 0), (13, .getfield 23), (16, .iload_n 1), (17, .iconst 1), (18, .iadd), (19, .iaload), (20, .aload_n 0), (21, .getfield 23), (24, .iload_n 1), (25, .iaload), (26, .isub), (27, .if_icmp .lt 5), (30, .iconst (-1)), (31, .ireturn), (32, .aload_n 0), (33, .getfield 26), (36, .aload_n 0), (37, .getfield 23), (40, .iload_n 1), (41, .iaload), (42, .iload_n 2), (43, .iadd), (44, .iaload), (45, .ireturn)]
theorem jtk_Rules_moveAt : jtok cX8_moveAt jtb_Rules_moveAt = true := by decide +kernel
def jE_Rules_moveAt (F : Nat) : jxE := jmk [(23, 8, 3), (26, 8, 4)] [] [] [(87, (1, true), jca_LL_isHeap F)] 1 jc_C
set_option maxRecDepth 100000 in
set_option maxHeartbeats 4000000 in
theorem jmet_Rules_moveAt (F : Nat) (sh : List jxC) (hs : jHas sh jc_C) (σ0 : jxS) (v1 : Int) (v2 : Int) (x : Int) (σ' : jxS) (h : Rules_moveAt F σ0 v1 v2 = some (x, σ')) : jMC yX8_moveAt cX8_moveAt 3 (jrt 1) 1 20 sh σ0 [(jmr 10), (jmi v1), (jmi v2)] (jrv 1 x) σ' := by
  refine jMC_of (kd := 1) (by decide) rfl h ?_
  intro X hX
  have hG : jGd X (jE_Rules_moveAt F) jtb_Rules_moveAt := jGd_of hX jtk_Rules_moveAt (jcon jfl_X8_23 (jcon jfl_X8_26 jnil)) jnil jnil (jcon (jsS jlk_X8_87 ⟨rfl, rfl⟩ (jad_LL_isHeap F sh jh_E)) jnil) hs
  exact jRf_by (jex_ok hG (cs := []) jnil 33 0 [some (jmr 10), some (jmi v1), some (jmi v2)] [] σ0) rfl
theorem jad_Rules_moveAt (F : Nat) (sh : List jxC) (hs : jHas sh jc_C) : jAdV (jca_Rules_moveAt F) yX8_moveAt cX8_moveAt 3 1 1 20 2 sh := by
  intro as σ k x σ' h
  unfold jca_Rules_moveAt at h
  split at h
  · rename_i t0 v1 v2
    obtain ⟨g0, hh1⟩ := jcond h
    obtain rfl := jbeq g0
    obtain ⟨r, h1, h2⟩ := Option.bind_eq_some_iff.mp hh1
    exact ⟨_, _, h2, ⟨_, _, _, _, _, _, rfl, rfl, (hs _ (jkf_in (l := jc_C) (idx := 10) rfl)).1, rfl⟩, jmet_Rules_moveAt F  sh hs σ v1 v2 r.1 r.2 h1⟩
  · cases h
def jtb_LL1_option : List (Nat × Instr) := [(0, .aload_n 0), (1, .getfield 48), (4, .ifnull 19), (7, .iload_n 1), (8, .invokestatic 59), (11, .ifCond .eq 12), (14, .iload_n 3), (15, .ifCond .lt 8), (18, .iload_n 3), (19, .iconst 1), (20, .if_icmp .le 5), (23, .iconst (-1)), (24, .ireturn), (25, .aload_n 0), (26, .getfield 48), (29, .getfield 62), (32, .iload_n 1), (33, .iload_n 2), (34, .invokevirtual 72), (37, .istore 4), (39, .iload 4), (41, .ifCond .ge 5), (44, .iconst (-1)), (45, .ireturn), (46, .iload_n 3), (47, .ifCond .ne 11), (50, .iload 4), (52, .bipush 13), (54, .idiv), (55, .goto 8), (58, .iload 4), (60, .bipush 13), (62, .irem), (63, .ireturn)]
theorem jtk_LL1_option : jtok cX11_option jtb_LL1_option = true := by decide +kernel
set_option maxRecDepth 100000 in
theorem jlk_X11_72 : jLkV RX11 72 yX8_moveAt cX8_moveAt 3 1 2 := ⟨(jTB_at 754 rfl rfl), (jTB_at 755 rfl rfl), (jTB_at 756 rfl rfl), (jTB_at 121 rfl rfl), jTB_at 757 rfl rfl, ⟨by decide, by decide, by decide +kernel⟩⟩
def jE_LL1_option (F : Nat) : jxE := jmk [(48, 11, 2), (62, 0, 0)] [] [] [(59, (1, true), jca_LL_isHeap F), (72, (3, false), jca_Rules_moveAt F)] 1 jc_L1
set_option maxRecDepth 100000 in
set_option maxHeartbeats 4000000 in
theorem jmet_LL1_option (F : Nat) (sh : List jxC) (hs : jHas sh jc_L1) (σ0 : jxS) (v1 : Int) (v2 : Int) (v3 : Int) (x : Int) (σ' : jxS) (h : LL1_option F σ0 v1 v2 v3 = some (x, σ')) : jMC yX11_option cX11_option 5 (jrt 1) 2 42 sh σ0 [(jmr 0), (jmi v1), (jmi v2), (jmi v3)] (jrv 1 x) σ' := by
  refine jMC_of (kd := 1) (by decide) rfl h ?_
  intro X hX
  have hG : jGd X (jE_LL1_option F) jtb_LL1_option := jGd_of hX jtk_LL1_option (jcon jfl_X11_48 (jcon jfl_X11_62 jnil)) jnil jnil (jcon (jsS jlk_X11_59 ⟨rfl, rfl⟩ (jad_LL_isHeap F sh jh_E)) (jcon (jsV jlk_X11_72 ⟨rfl, rfl⟩ (jad_Rules_moveAt F sh (jh_L1C hs))) jnil)) hs
  exact jRf_by (jex_ok hG (cs := []) jnil 37 0 [some (jmr 0), some (jmi v1), some (jmi v2), some (jmi v3), none] [] σ0) rfl
theorem jad_LL1_option (F : Nat) (sh : List jxC) (hs : jHas sh jc_L1) : jAdV (jca_LL1_option F) yX11_option cX11_option 5 1 2 42 3 sh := by
  intro as σ k x σ' h
  unfold jca_LL1_option at h
  split at h
  · rename_i t0 v1 v2 v3
    obtain ⟨g0, hh1⟩ := jcond h
    obtain rfl := jbeq g0
    obtain ⟨r, h1, h2⟩ := Option.bind_eq_some_iff.mp hh1
    exact ⟨_, _, h2, ⟨_, _, _, _, _, _, rfl, rfl, (hs _ (jkf_in (l := jc_L1) (idx := 0) rfl)).1, rfl⟩, jmet_LL1_option F  sh hs σ v1 v2 v3 r.1 r.2 h1⟩
  · cases h
def jtb_Rules_nimberOf : List (Nat × Instr) := [(0, .iload_n 1), (1, .invokestatic 87), (4, .ifCond .eq 12), (7, .aload_n 0), (8, .getfield 29), (11, .iload_n 1), (12, .iaload), (13, .goto 4), (16, .iconst 0), (17, .ireturn)]
theorem jtk_Rules_nimberOf : jtok cX8_nimberOf jtb_Rules_nimberOf = true := by decide +kernel
def jE_Rules_nimberOf (F : Nat) : jxE := jmk [(29, 8, 5)] [] [] [(87, (1, true), jca_LL_isHeap F)] 1 jc_C
set_option maxRecDepth 100000 in
set_option maxHeartbeats 4000000 in
theorem jmet_Rules_nimberOf (F : Nat) (sh : List jxC) (hs : jHas sh jc_C) (σ0 : jxS) (v1 : Int) (x : Int) (σ' : jxS) (h : Rules_nimberOf F σ0 v1 = some (x, σ')) : jMC yX8_nimberOf cX8_nimberOf 2 (jrt 1) 1 20 sh σ0 [(jmr 10), (jmi v1)] (jrv 1 x) σ' := by
  refine jMC_of (kd := 1) (by decide) rfl h ?_
  intro X hX
  have hG : jGd X (jE_Rules_nimberOf F) jtb_Rules_nimberOf := jGd_of hX jtk_Rules_nimberOf (jcon jfl_X8_29 jnil) jnil jnil (jcon (jsS jlk_X8_87 ⟨rfl, rfl⟩ (jad_LL_isHeap F sh jh_E)) jnil) hs
  exact jRf_by (jex_ok hG (cs := []) jnil 13 0 [some (jmr 10), some (jmi v1)] [] σ0) rfl
theorem jad_Rules_nimberOf (F : Nat) (sh : List jxC) (hs : jHas sh jc_C) : jAdV (jca_Rules_nimberOf F) yX8_nimberOf cX8_nimberOf 2 1 1 20 1 sh := by
  intro as σ k x σ' h
  unfold jca_Rules_nimberOf at h
  split at h
  · rename_i t0 v1
    obtain ⟨g0, hh1⟩ := jcond h
    obtain rfl := jbeq g0
    obtain ⟨r, h1, h2⟩ := Option.bind_eq_some_iff.mp hh1
    exact ⟨_, _, h2, ⟨_, _, _, _, _, _, rfl, rfl, (hs _ (jkf_in (l := jc_C) (idx := 10) rfl)).1, rfl⟩, jmet_Rules_nimberOf F  sh hs σ v1 r.1 r.2 h1⟩
  · cases h
def jtb_LL1_nimber : List (Nat × Instr) := [(0, .aload_n 0), (1, .getfield 48), (4, .ifnull 10), (7, .iload_n 1), (8, .invokestatic 59), (11, .ifCond .ne 7), (14, .iconst (-1)), (15, .goto 14), (18, .aload_n 0), (19, .getfield 48), (22, .getfield 62), (25, .iload_n 1), (26, .invokevirtual 76), (29, .ireturn)]
theorem jtk_LL1_nimber : jtok cX11_nimber jtb_LL1_nimber = true := by decide +kernel
set_option maxRecDepth 100000 in
theorem jlk_X11_76 : jLkV RX11 76 yX8_nimberOf cX8_nimberOf 2 1 1 := ⟨(jTB_at 762 rfl rfl), (jTB_at 763 rfl rfl), (jTB_at 764 rfl rfl), (jTB_at 121 rfl rfl), jTB_at 765 rfl rfl, ⟨by decide, by decide, by decide +kernel⟩⟩
def jE_LL1_nimber (F : Nat) : jxE := jmk [(48, 11, 2), (62, 0, 0)] [] [] [(59, (1, true), jca_LL_isHeap F), (76, (2, false), jca_Rules_nimberOf F)] 1 jc_L1
set_option maxRecDepth 100000 in
set_option maxHeartbeats 4000000 in
theorem jmet_LL1_nimber (F : Nat) (sh : List jxC) (hs : jHas sh jc_L1) (σ0 : jxS) (v1 : Int) (x : Int) (σ' : jxS) (h : LL1_nimber F σ0 v1 = some (x, σ')) : jMC yX11_nimber cX11_nimber 2 (jrt 1) 2 41 sh σ0 [(jmr 0), (jmi v1)] (jrv 1 x) σ' := by
  refine jMC_of (kd := 1) (by decide) rfl h ?_
  intro X hX
  have hG : jGd X (jE_LL1_nimber F) jtb_LL1_nimber := jGd_of hX jtk_LL1_nimber (jcon jfl_X11_48 (jcon jfl_X11_62 jnil)) jnil jnil (jcon (jsS jlk_X11_59 ⟨rfl, rfl⟩ (jad_LL_isHeap F sh jh_E)) (jcon (jsV jlk_X11_76 ⟨rfl, rfl⟩ (jad_Rules_nimberOf F sh (jh_L1C hs))) jnil)) hs
  exact jRf_by (jex_ok hG (cs := []) jnil 17 0 [some (jmr 0), some (jmi v1)] [] σ0) rfl
theorem jad_LL1_nimber (F : Nat) (sh : List jxC) (hs : jHas sh jc_L1) : jAdV (jca_LL1_nimber F) yX11_nimber cX11_nimber 2 1 2 41 1 sh := by
  intro as σ k x σ' h
  unfold jca_LL1_nimber at h
  split at h
  · rename_i t0 v1
    obtain ⟨g0, hh1⟩ := jcond h
    obtain rfl := jbeq g0
    obtain ⟨r, h1, h2⟩ := Option.bind_eq_some_iff.mp hh1
    exact ⟨_, _, h2, ⟨_, _, _, _, _, _, rfl, rfl, (hs _ (jkf_in (l := jc_L1) (idx := 0) rfl)).1, rfl⟩, jmet_LL1_nimber F  sh hs σ v1 r.1 r.2 h1⟩
  · cases h
def jtb_Rules_extraLines : List (Nat × Instr) := [(0, .aload_n 0), (1, .getfield 48), (4, .ireturn)]
theorem jtk_Rules_extraLines : jtok cX8_extraLines jtb_Rules_extraLines = true := by decide +kernel
def jE_Rules_extraLines (F : Nat) : jxE := jmk [(48, 8, 9)] [] [] [] 1 jc_C
set_option maxRecDepth 100000 in
set_option maxHeartbeats 4000000 in
theorem jmet_Rules_extraLines (F : Nat) (sh : List jxC) (hs : jHas sh jc_C) (σ0 : jxS) (x : Int) (σ' : jxS) (h : Rules_extraLines F σ0 = some (x, σ')) : jMC yX8_extraLines cX8_extraLines 1 (jrt 1) 0 0 sh σ0 [(jmr 10)] (jrv 1 x) σ' := by
  refine jMC_of (kd := 1) (by decide) rfl h ?_
  intro X hX
  have hG : jGd X (jE_Rules_extraLines F) jtb_Rules_extraLines := jGd_of hX jtk_Rules_extraLines (jcon jfl_X8_48 jnil) jnil jnil jnil hs
  exact jRf_by (jex_ok hG (cs := []) jnil 6 0 [some (jmr 10)] [] σ0) rfl
theorem jad_Rules_extraLines (F : Nat) (sh : List jxC) (hs : jHas sh jc_C) : jAdV (jca_Rules_extraLines F) yX8_extraLines cX8_extraLines 1 1 0 0 0 sh := by
  intro as σ k x σ' h
  unfold jca_Rules_extraLines at h
  split at h
  · rename_i t0
    obtain ⟨g0, hh1⟩ := jcond h
    obtain rfl := jbeq g0
    obtain ⟨r, h1, h2⟩ := Option.bind_eq_some_iff.mp hh1
    exact ⟨_, _, h2, ⟨_, _, _, _, _, _, rfl, rfl, (hs _ (jkf_in (l := jc_C) (idx := 10) rfl)).1, rfl⟩, jmet_Rules_extraLines F  sh hs σ  r.1 r.2 h1⟩
  · cases h
def jtb_Rules_digitCount : List (Nat × Instr) := [(0, .aload_n 0), (1, .getfield 42), (4, .ireturn)]
theorem jtk_Rules_digitCount : jtok cX8_digitCount jtb_Rules_digitCount = true := by decide +kernel
def jE_Rules_digitCount (F : Nat) : jxE := jmk [(42, 8, 8)] [] [] [] 1 jc_C
set_option maxRecDepth 100000 in
set_option maxHeartbeats 4000000 in
theorem jmet_Rules_digitCount (F : Nat) (sh : List jxC) (hs : jHas sh jc_C) (σ0 : jxS) (x : Int) (σ' : jxS) (h : Rules_digitCount F σ0 = some (x, σ')) : jMC yX8_digitCount cX8_digitCount 1 (jrt 1) 0 0 sh σ0 [(jmr 10)] (jrv 1 x) σ' := by
  refine jMC_of (kd := 1) (by decide) rfl h ?_
  intro X hX
  have hG : jGd X (jE_Rules_digitCount F) jtb_Rules_digitCount := jGd_of hX jtk_Rules_digitCount (jcon jfl_X8_42 jnil) jnil jnil jnil hs
  exact jRf_by (jex_ok hG (cs := []) jnil 6 0 [some (jmr 10)] [] σ0) rfl
theorem jad_Rules_digitCount (F : Nat) (sh : List jxC) (hs : jHas sh jc_C) : jAdV (jca_Rules_digitCount F) yX8_digitCount cX8_digitCount 1 1 0 0 0 sh := by
  intro as σ k x σ' h
  unfold jca_Rules_digitCount at h
  split at h
  · rename_i t0
    obtain ⟨g0, hh1⟩ := jcond h
    obtain rfl := jbeq g0
    obtain ⟨r, h1, h2⟩ := Option.bind_eq_some_iff.mp hh1
    exact ⟨_, _, h2, ⟨_, _, _, _, _, _, rfl, rfl, (hs _ (jkf_in (l := jc_C) (idx := 10) rfl)).1, rfl⟩, jmet_Rules_digitCount F  sh hs σ  r.1 r.2 h1⟩
  · cases h
def jtb_Rules_digitFor : List (Nat × Instr) := [(0, .iload_n 1), (1, .iconst 1), (2, .if_icmp .lt 31), (5, .iload_n 1), (6, .aload_n 0), (7, .getfield 42), (10, .if_icmp .gt 23), (13, .iload_n 1), (14, .aload_n 0), (15, .getfield 11), (18, .arraylength), (19, .if_icmp .gt 14), (22, .aload_n 0), (23, .getfield 11), (26, .iload_n 1), (27, .iconst 1), (28, .isub), (29, .iaload), (30, .goto 4), (33, .iconst 0), (34, .ireturn)]
theorem jtk_Rules_digitFor : jtok cX8_digitFor jtb_Rules_digitFor = true := by decide +kernel
def jE_Rules_digitFor (F : Nat) : jxE := jmk [(11, 8, 0), (42, 8, 8)] [] [] [] 1 jc_C
set_option maxRecDepth 100000 in
set_option maxHeartbeats 4000000 in
theorem jmet_Rules_digitFor (F : Nat) (sh : List jxC) (hs : jHas sh jc_C) (σ0 : jxS) (v1 : Int) (x : Int) (σ' : jxS) (h : Rules_digitFor F σ0 v1 = some (x, σ')) : jMC yX8_digitFor cX8_digitFor 2 (jrt 1) 0 0 sh σ0 [(jmr 10), (jmi v1)] (jrv 1 x) σ' := by
  refine jMC_of (kd := 1) (by decide) rfl h ?_
  intro X hX
  have hG : jGd X (jE_Rules_digitFor F) jtb_Rules_digitFor := jGd_of hX jtk_Rules_digitFor (jcon jfl_X8_11 (jcon jfl_X8_42 jnil)) jnil jnil jnil hs
  exact jRf_by (jex_ok hG (cs := []) jnil 24 0 [some (jmr 10), some (jmi v1)] [] σ0) rfl
theorem jad_Rules_digitFor (F : Nat) (sh : List jxC) (hs : jHas sh jc_C) : jAdV (jca_Rules_digitFor F) yX8_digitFor cX8_digitFor 2 1 0 0 1 sh := by
  intro as σ k x σ' h
  unfold jca_Rules_digitFor at h
  split at h
  · rename_i t0 v1
    obtain ⟨g0, hh1⟩ := jcond h
    obtain rfl := jbeq g0
    obtain ⟨r, h1, h2⟩ := Option.bind_eq_some_iff.mp hh1
    exact ⟨_, _, h2, ⟨_, _, _, _, _, _, rfl, rfl, (hs _ (jkf_in (l := jc_C) (idx := 10) rfl)).1, rfl⟩, jmet_Rules_digitFor F  sh hs σ v1 r.1 r.2 h1⟩
  · cases h
