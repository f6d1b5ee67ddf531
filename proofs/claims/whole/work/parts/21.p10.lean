/-! Contracts: Quotient_isAlike -/
def jtb_Quotient_isAlike : List (Nat × Instr) := [(0, .aload_n 1), (1, .getfield 37), (4, .aload_n 0), (5, .getfield 37), (8, .if_icmp .ne 14), (11, .aload_n 1), (12, .invokevirtual 89), (15, .aload_n 0), (16, .invokevirtual 89), (19, .if_icmp .eq 5), (22, .iconst 0), (23, .ireturn), (24, .iconst 0), (25, .istore_n 2), (26, .iload_n 2), (27, .aload_n 0), (28, .getfield 37), (31, .if_icmp .ge 42), (34, .iconst 1), (35, .istore_n 3), (36, .iload_n 3), (37, .aload_n 0), (38, .getfield 25), (41, .if_icmp .gt 26), (44, .aload_n 0), (45, .iload_n 2), (46, .iload_n 3), (47, .invokevirtual 83), (50, .aload_n 1), (51, .iload_n 2), (52, .iload_n 3), (53, .invokevirtual 83), (56, .if_icmp .eq 5), (59, .iconst 0), (60, .ireturn), (61, .iinc 3 1), (64, .goto (-28)), (67, .iinc 2 1), (70, .goto (-44)), (73, .iconst 1), (74, .ireturn)]
theorem jtk_Quotient_isAlike : jtok cX6_isAlike jtb_Quotient_isAlike = true := by decide +kernel
def jE_Quotient_isAlike (F : Nat) : jxE := jmk [(25, 6, 0), (37, 6, 7)] [] [] [(83, (3, false), jca_Quotient_nextOf F), (89, (1, false), jca_Quotient_lostSet F)] 4 jc_C
set_option maxRecDepth 100000 in
set_option maxHeartbeats 4000000 in
theorem jmet_Quotient_isAlike_90_90 (F : Nat) (sh : List jxC) (hs : jHas sh jc_C) (σ0 : jxS) (x : Int) (σ' : jxS) (h : Quotient_isAlike F 90 90 σ0 = some (x, σ')) : jMC yX6_isAlike cX6_isAlike 4 (jrt 4) 2 44 sh σ0 [(jmr 90), (jmr 90)] (jrv 4 x) σ' := by
  refine jMC_of (kd := 4) (by decide) rfl h ?_
  intro X hX
  have hG : jGd X (jE_Quotient_isAlike F) jtb_Quotient_isAlike := jGd_of hX jtk_Quotient_isAlike (jcon jfl_X6_25 (jcon jfl_X6_37 jnil)) jnil jnil (jcon (jsV jlk_X6_83 ⟨rfl, rfl⟩ (jad_Quotient_nextOf F sh hs)) (jcon (jsV jlk_X6_89 ⟨rfl, rfl⟩ (jad_Quotient_lostSet F sh hs)) jnil)) hs
  have rr36 : ∀ (k26 : Int → jxS → Option jxR) (h26 : ∀ v2 σ, jRf X (k26 v2 σ) 26 [some (jmr 90), some (jmr 90), some (jmi v2), none] [] σ) (fu : Nat) (v2 v3 : Int) (σ : jxS), jRf X (Quotient_isAlike_c36 F 90 90 k26 fu v2 v3 σ) 36 [some (jmr 90), some (jmr 90), some (jmi v2), some (jmi v3)] [] σ := by
    intro k26 h26 fu
    induction fu with
    | zero => intros; exact jRf_none
    | succ fu ih =>
      intro v2 v3 σ
      exact jRf_by (jex_ok hG (cs := [(26, [some (.inr (some 90)), some (.inr (some 90)), some (.inl 0), none], [], fun xs σ => match xs with
      | [v2] => k26 v2 σ
      | _ => none), (36, [some (.inr (some 90)), some (.inr (some 90)), some (.inl 0), some (.inl 0)], [], fun xs σ => match xs with
      | [v2, v3] => (Quotient_isAlike_c36 F 90 90 k26 fu) v2 v3 σ
      | _ => none)]) (jcon (jl1 (fun y0 => jl0 (fun σ => h26 y0 σ))) (jcon (jl2 (fun y0 y1 => jl0 (fun σ => ih y0 y1 σ))) jnil)) 44 36 [some (jmr 90), some (jmr 90), some (jmi v2), some (jmi v3)] [] σ) rfl
  have rr26 : ∀ (fu : Nat) (v2 : Int) (σ : jxS), jRf X (Quotient_isAlike_c26 F 90 90 fu v2 σ) 26 [some (jmr 90), some (jmr 90), some (jmi v2), none] [] σ := by
    intro  fu
    induction fu with
    | zero => intros; exact jRf_none
    | succ fu ih =>
      intro v2 σ
      exact jRf_by (jex_ok hG (cs := [(36, [some (.inr (some 90)), some (.inr (some 90)), some (.inl 0), some (.inl 0)], [], fun xs σ => match xs with
      | [v2, v3] => Quotient_isAlike_c36 F 90 90 (Quotient_isAlike_c26 F 90 90 fu) F v2 v3 σ
      | _ => none)]) (jcon (jl2 (fun y0 y1 => jl0 (fun σ => rr36 _ ih F y0 y1 σ))) jnil) 44 26 [some (jmr 90), some (jmr 90), some (jmi v2), none] [] σ) rfl
  exact jRf_by (jex_ok hG (cs := [(26, [some (.inr (some 90)), some (.inr (some 90)), some (.inl 0), none], [], fun xs σ => match xs with
      | [v2] => Quotient_isAlike_c26 F 90 90 F v2 σ
      | _ => none)]) (jcon (jl1 (fun y0 => jl0 (fun σ => rr26 F y0 σ))) jnil) 44 0 [some (jmr 90), some (jmr 90), none, none] [] σ0) rfl
set_option maxRecDepth 100000 in
set_option maxHeartbeats 4000000 in
theorem jmet_Quotient_isAlike_90_95 (F : Nat) (sh : List jxC) (hs : jHas sh jc_C) (σ0 : jxS) (x : Int) (σ' : jxS) (h : Quotient_isAlike F 90 95 σ0 = some (x, σ')) : jMC yX6_isAlike cX6_isAlike 4 (jrt 4) 2 44 sh σ0 [(jmr 90), (jmr 95)] (jrv 4 x) σ' := by
  refine jMC_of (kd := 4) (by decide) rfl h ?_
  intro X hX
  have hG : jGd X (jE_Quotient_isAlike F) jtb_Quotient_isAlike := jGd_of hX jtk_Quotient_isAlike (jcon jfl_X6_25 (jcon jfl_X6_37 jnil)) jnil jnil (jcon (jsV jlk_X6_83 ⟨rfl, rfl⟩ (jad_Quotient_nextOf F sh hs)) (jcon (jsV jlk_X6_89 ⟨rfl, rfl⟩ (jad_Quotient_lostSet F sh hs)) jnil)) hs
  have rr36 : ∀ (k26 : Int → jxS → Option jxR) (h26 : ∀ v2 σ, jRf X (k26 v2 σ) 26 [some (jmr 90), some (jmr 95), some (jmi v2), none] [] σ) (fu : Nat) (v2 v3 : Int) (σ : jxS), jRf X (Quotient_isAlike_c36 F 90 95 k26 fu v2 v3 σ) 36 [some (jmr 90), some (jmr 95), some (jmi v2), some (jmi v3)] [] σ := by
    intro k26 h26 fu
    induction fu with
    | zero => intros; exact jRf_none
    | succ fu ih =>
      intro v2 v3 σ
      exact jRf_by (jex_ok hG (cs := [(26, [some (.inr (some 90)), some (.inr (some 95)), some (.inl 0), none], [], fun xs σ => match xs with
      | [v2] => k26 v2 σ
      | _ => none), (36, [some (.inr (some 90)), some (.inr (some 95)), some (.inl 0), some (.inl 0)], [], fun xs σ => match xs with
      | [v2, v3] => (Quotient_isAlike_c36 F 90 95 k26 fu) v2 v3 σ
      | _ => none)]) (jcon (jl1 (fun y0 => jl0 (fun σ => h26 y0 σ))) (jcon (jl2 (fun y0 y1 => jl0 (fun σ => ih y0 y1 σ))) jnil)) 44 36 [some (jmr 90), some (jmr 95), some (jmi v2), some (jmi v3)] [] σ) rfl
  have rr26 : ∀ (fu : Nat) (v2 : Int) (σ : jxS), jRf X (Quotient_isAlike_c26 F 90 95 fu v2 σ) 26 [some (jmr 90), some (jmr 95), some (jmi v2), none] [] σ := by
    intro  fu
    induction fu with
    | zero => intros; exact jRf_none
    | succ fu ih =>
      intro v2 σ
      exact jRf_by (jex_ok hG (cs := [(36, [some (.inr (some 90)), some (.inr (some 95)), some (.inl 0), some (.inl 0)], [], fun xs σ => match xs with
      | [v2, v3] => Quotient_isAlike_c36 F 90 95 (Quotient_isAlike_c26 F 90 95 fu) F v2 v3 σ
      | _ => none)]) (jcon (jl2 (fun y0 y1 => jl0 (fun σ => rr36 _ ih F y0 y1 σ))) jnil) 44 26 [some (jmr 90), some (jmr 95), some (jmi v2), none] [] σ) rfl
  exact jRf_by (jex_ok hG (cs := [(26, [some (.inr (some 90)), some (.inr (some 95)), some (.inl 0), none], [], fun xs σ => match xs with
      | [v2] => Quotient_isAlike_c26 F 90 95 F v2 σ
      | _ => none)]) (jcon (jl1 (fun y0 => jl0 (fun σ => rr26 F y0 σ))) jnil) 44 0 [some (jmr 90), some (jmr 95), none, none] [] σ0) rfl
set_option maxRecDepth 100000 in
set_option maxHeartbeats 4000000 in
theorem jmet_Quotient_isAlike_90_100 (F : Nat) (sh : List jxC) (hs : jHas sh jc_C) (σ0 : jxS) (x : Int) (σ' : jxS) (h : Quotient_isAlike F 90 100 σ0 = some (x, σ')) : jMC yX6_isAlike cX6_isAlike 4 (jrt 4) 2 44 sh σ0 [(jmr 90), (jmr 100)] (jrv 4 x) σ' := by
  refine jMC_of (kd := 4) (by decide) rfl h ?_
  intro X hX
  have hG : jGd X (jE_Quotient_isAlike F) jtb_Quotient_isAlike := jGd_of hX jtk_Quotient_isAlike (jcon jfl_X6_25 (jcon jfl_X6_37 jnil)) jnil jnil (jcon (jsV jlk_X6_83 ⟨rfl, rfl⟩ (jad_Quotient_nextOf F sh hs)) (jcon (jsV jlk_X6_89 ⟨rfl, rfl⟩ (jad_Quotient_lostSet F sh hs)) jnil)) hs
  have rr36 : ∀ (k26 : Int → jxS → Option jxR) (h26 : ∀ v2 σ, jRf X (k26 v2 σ) 26 [some (jmr 90), some (jmr 100), some (jmi v2), none] [] σ) (fu : Nat) (v2 v3 : Int) (σ : jxS), jRf X (Quotient_isAlike_c36 F 90 100 k26 fu v2 v3 σ) 36 [some (jmr 90), some (jmr 100), some (jmi v2), some (jmi v3)] [] σ := by
    intro k26 h26 fu
    induction fu with
    | zero => intros; exact jRf_none
    | succ fu ih =>
      intro v2 v3 σ
      exact jRf_by (jex_ok hG (cs := [(26, [some (.inr (some 90)), some (.inr (some 100)), some (.inl 0), none], [], fun xs σ => match xs with
      | [v2] => k26 v2 σ
      | _ => none), (36, [some (.inr (some 90)), some (.inr (some 100)), some (.inl 0), some (.inl 0)], [], fun xs σ => match xs with
      | [v2, v3] => (Quotient_isAlike_c36 F 90 100 k26 fu) v2 v3 σ
      | _ => none)]) (jcon (jl1 (fun y0 => jl0 (fun σ => h26 y0 σ))) (jcon (jl2 (fun y0 y1 => jl0 (fun σ => ih y0 y1 σ))) jnil)) 44 36 [some (jmr 90), some (jmr 100), some (jmi v2), some (jmi v3)] [] σ) rfl
  have rr26 : ∀ (fu : Nat) (v2 : Int) (σ : jxS), jRf X (Quotient_isAlike_c26 F 90 100 fu v2 σ) 26 [some (jmr 90), some (jmr 100), some (jmi v2), none] [] σ := by
    intro  fu
    induction fu with
    | zero => intros; exact jRf_none
    | succ fu ih =>
      intro v2 σ
      exact jRf_by (jex_ok hG (cs := [(36, [some (.inr (some 90)), some (.inr (some 100)), some (.inl 0), some (.inl 0)], [], fun xs σ => match xs with
      | [v2, v3] => Quotient_isAlike_c36 F 90 100 (Quotient_isAlike_c26 F 90 100 fu) F v2 v3 σ
      | _ => none)]) (jcon (jl2 (fun y0 y1 => jl0 (fun σ => rr36 _ ih F y0 y1 σ))) jnil) 44 26 [some (jmr 90), some (jmr 100), some (jmi v2), none] [] σ) rfl
  exact jRf_by (jex_ok hG (cs := [(26, [some (.inr (some 90)), some (.inr (some 100)), some (.inl 0), none], [], fun xs σ => match xs with
      | [v2] => Quotient_isAlike_c26 F 90 100 F v2 σ
      | _ => none)]) (jcon (jl1 (fun y0 => jl0 (fun σ => rr26 F y0 σ))) jnil) 44 0 [some (jmr 90), some (jmr 100), none, none] [] σ0) rfl
set_option maxRecDepth 100000 in
set_option maxHeartbeats 4000000 in
theorem jmet_Quotient_isAlike_90_105 (F : Nat) (sh : List jxC) (hs : jHas sh jc_C) (σ0 : jxS) (x : Int) (σ' : jxS) (h : Quotient_isAlike F 90 105 σ0 = some (x, σ')) : jMC yX6_isAlike cX6_isAlike 4 (jrt 4) 2 44 sh σ0 [(jmr 90), (jmr 105)] (jrv 4 x) σ' := by
  refine jMC_of (kd := 4) (by decide) rfl h ?_
  intro X hX
  have hG : jGd X (jE_Quotient_isAlike F) jtb_Quotient_isAlike := jGd_of hX jtk_Quotient_isAlike (jcon jfl_X6_25 (jcon jfl_X6_37 jnil)) jnil jnil (jcon (jsV jlk_X6_83 ⟨rfl, rfl⟩ (jad_Quotient_nextOf F sh hs)) (jcon (jsV jlk_X6_89 ⟨rfl, rfl⟩ (jad_Quotient_lostSet F sh hs)) jnil)) hs
  have rr36 : ∀ (k26 : Int → jxS → Option jxR) (h26 : ∀ v2 σ, jRf X (k26 v2 σ) 26 [some (jmr 90), some (jmr 105), some (jmi v2), none] [] σ) (fu : Nat) (v2 v3 : Int) (σ : jxS), jRf X (Quotient_isAlike_c36 F 90 105 k26 fu v2 v3 σ) 36 [some (jmr 90), some (jmr 105), some (jmi v2), some (jmi v3)] [] σ := by
    intro k26 h26 fu
    induction fu with
    | zero => intros; exact jRf_none
    | succ fu ih =>
      intro v2 v3 σ
      exact jRf_by (jex_ok hG (cs := [(26, [some (.inr (some 90)), some (.inr (some 105)), some (.inl 0), none], [], fun xs σ => match xs with
      | [v2] => k26 v2 σ
      | _ => none), (36, [some (.inr (some 90)), some (.inr (some 105)), some (.inl 0), some (.inl 0)], [], fun xs σ => match xs with
      | [v2, v3] => (Quotient_isAlike_c36 F 90 105 k26 fu) v2 v3 σ
      | _ => none)]) (jcon (jl1 (fun y0 => jl0 (fun σ => h26 y0 σ))) (jcon (jl2 (fun y0 y1 => jl0 (fun σ => ih y0 y1 σ))) jnil)) 44 36 [some (jmr 90), some (jmr 105), some (jmi v2), some (jmi v3)] [] σ) rfl
  have rr26 : ∀ (fu : Nat) (v2 : Int) (σ : jxS), jRf X (Quotient_isAlike_c26 F 90 105 fu v2 σ) 26 [some (jmr 90), some (jmr 105), some (jmi v2), none] [] σ := by
    intro  fu
    induction fu with
    | zero => intros; exact jRf_none
    | succ fu ih =>
      intro v2 σ
      exact jRf_by (jex_ok hG (cs := [(36, [some (.inr (some 90)), some (.inr (some 105)), some (.inl 0), some (.inl 0)], [], fun xs σ => match xs with
      | [v2, v3] => Quotient_isAlike_c36 F 90 105 (Quotient_isAlike_c26 F 90 105 fu) F v2 v3 σ
      | _ => none)]) (jcon (jl2 (fun y0 y1 => jl0 (fun σ => rr36 _ ih F y0 y1 σ))) jnil) 44 26 [some (jmr 90), some (jmr 105), some (jmi v2), none] [] σ) rfl
  exact jRf_by (jex_ok hG (cs := [(26, [some (.inr (some 90)), some (.inr (some 105)), some (.inl 0), none], [], fun xs σ => match xs with
      | [v2] => Quotient_isAlike_c26 F 90 105 F v2 σ
      | _ => none)]) (jcon (jl1 (fun y0 => jl0 (fun σ => rr26 F y0 σ))) jnil) 44 0 [some (jmr 90), some (jmr 105), none, none] [] σ0) rfl
set_option maxRecDepth 100000 in
set_option maxHeartbeats 4000000 in
theorem jmet_Quotient_isAlike_90_110 (F : Nat) (sh : List jxC) (hs : jHas sh jc_C) (σ0 : jxS) (x : Int) (σ' : jxS) (h : Quotient_isAlike F 90 110 σ0 = some (x, σ')) : jMC yX6_isAlike cX6_isAlike 4 (jrt 4) 2 44 sh σ0 [(jmr 90), (jmr 110)] (jrv 4 x) σ' := by
  refine jMC_of (kd := 4) (by decide) rfl h ?_
  intro X hX
  have hG : jGd X (jE_Quotient_isAlike F) jtb_Quotient_isAlike := jGd_of hX jtk_Quotient_isAlike (jcon jfl_X6_25 (jcon jfl_X6_37 jnil)) jnil jnil (jcon (jsV jlk_X6_83 ⟨rfl, rfl⟩ (jad_Quotient_nextOf F sh hs)) (jcon (jsV jlk_X6_89 ⟨rfl, rfl⟩ (jad_Quotient_lostSet F sh hs)) jnil)) hs
  have rr36 : ∀ (k26 : Int → jxS → Option jxR) (h26 : ∀ v2 σ, jRf X (k26 v2 σ) 26 [some (jmr 90), some (jmr 110), some (jmi v2), none] [] σ) (fu : Nat) (v2 v3 : Int) (σ : jxS), jRf X (Quotient_isAlike_c36 F 90 110 k26 fu v2 v3 σ) 36 [some (jmr 90), some (jmr 110), some (jmi v2), some (jmi v3)] [] σ := by
    intro k26 h26 fu
    induction fu with
    | zero => intros; exact jRf_none
    | succ fu ih =>
      intro v2 v3 σ
      exact jRf_by (jex_ok hG (cs := [(26, [some (.inr (some 90)), some (.inr (some 110)), some (.inl 0), none], [], fun xs σ => match xs with
      | [v2] => k26 v2 σ
      | _ => none), (36, [some (.inr (some 90)), some (.inr (some 110)), some (.inl 0), some (.inl 0)], [], fun xs σ => match xs with
      | [v2, v3] => (Quotient_isAlike_c36 F 90 110 k26 fu) v2 v3 σ
      | _ => none)]) (jcon (jl1 (fun y0 => jl0 (fun σ => h26 y0 σ))) (jcon (jl2 (fun y0 y1 => jl0 (fun σ => ih y0 y1 σ))) jnil)) 44 36 [some (jmr 90), some (jmr 110), some (jmi v2), some (jmi v3)] [] σ) rfl
  have rr26 : ∀ (fu : Nat) (v2 : Int) (σ : jxS), jRf X (Quotient_isAlike_c26 F 90 110 fu v2 σ) 26 [some (jmr 90), some (jmr 110), some (jmi v2), none] [] σ := by
    intro  fu
    induction fu with
    | zero => intros; exact jRf_none
    | succ fu ih =>
      intro v2 σ
      exact jRf_by (jex_ok hG (cs := [(36, [some (.inr (some 90)), some (.inr (some 110)), some (.inl 0), some (.inl 0)], [], fun xs σ => match xs with
      | [v2, v3] => Quotient_isAlike_c36 F 90 110 (Quotient_isAlike_c26 F 90 110 fu) F v2 v3 σ
      | _ => none)]) (jcon (jl2 (fun y0 y1 => jl0 (fun σ => rr36 _ ih F y0 y1 σ))) jnil) 44 26 [some (jmr 90), some (jmr 110), some (jmi v2), none] [] σ) rfl
  exact jRf_by (jex_ok hG (cs := [(26, [some (.inr (some 90)), some (.inr (some 110)), some (.inl 0), none], [], fun xs σ => match xs with
      | [v2] => Quotient_isAlike_c26 F 90 110 F v2 σ
      | _ => none)]) (jcon (jl1 (fun y0 => jl0 (fun σ => rr26 F y0 σ))) jnil) 44 0 [some (jmr 90), some (jmr 110), none, none] [] σ0) rfl
set_option maxRecDepth 100000 in
set_option maxHeartbeats 4000000 in
theorem jmet_Quotient_isAlike_90_115 (F : Nat) (sh : List jxC) (hs : jHas sh jc_C) (σ0 : jxS) (x : Int) (σ' : jxS) (h : Quotient_isAlike F 90 115 σ0 = some (x, σ')) : jMC yX6_isAlike cX6_isAlike 4 (jrt 4) 2 44 sh σ0 [(jmr 90), (jmr 115)] (jrv 4 x) σ' := by
  refine jMC_of (kd := 4) (by decide) rfl h ?_
  intro X hX
  have hG : jGd X (jE_Quotient_isAlike F) jtb_Quotient_isAlike := jGd_of hX jtk_Quotient_isAlike (jcon jfl_X6_25 (jcon jfl_X6_37 jnil)) jnil jnil (jcon (jsV jlk_X6_83 ⟨rfl, rfl⟩ (jad_Quotient_nextOf F sh hs)) (jcon (jsV jlk_X6_89 ⟨rfl, rfl⟩ (jad_Quotient_lostSet F sh hs)) jnil)) hs
  have rr36 : ∀ (k26 : Int → jxS → Option jxR) (h26 : ∀ v2 σ, jRf X (k26 v2 σ) 26 [some (jmr 90), some (jmr 115), some (jmi v2), none] [] σ) (fu : Nat) (v2 v3 : Int) (σ : jxS), jRf X (Quotient_isAlike_c36 F 90 115 k26 fu v2 v3 σ) 36 [some (jmr 90), some (jmr 115), some (jmi v2), some (jmi v3)] [] σ := by
    intro k26 h26 fu
    induction fu with
    | zero => intros; exact jRf_none
    | succ fu ih =>
      intro v2 v3 σ
      exact jRf_by (jex_ok hG (cs := [(26, [some (.inr (some 90)), some (.inr (some 115)), some (.inl 0), none], [], fun xs σ => match xs with
      | [v2] => k26 v2 σ
      | _ => none), (36, [some (.inr (some 90)), some (.inr (some 115)), some (.inl 0), some (.inl 0)], [], fun xs σ => match xs with
      | [v2, v3] => (Quotient_isAlike_c36 F 90 115 k26 fu) v2 v3 σ
      | _ => none)]) (jcon (jl1 (fun y0 => jl0 (fun σ => h26 y0 σ))) (jcon (jl2 (fun y0 y1 => jl0 (fun σ => ih y0 y1 σ))) jnil)) 44 36 [some (jmr 90), some (jmr 115), some (jmi v2), some (jmi v3)] [] σ) rfl
  have rr26 : ∀ (fu : Nat) (v2 : Int) (σ : jxS), jRf X (Quotient_isAlike_c26 F 90 115 fu v2 σ) 26 [some (jmr 90), some (jmr 115), some (jmi v2), none] [] σ := by
    intro  fu
    induction fu with
    | zero => intros; exact jRf_none
    | succ fu ih =>
      intro v2 σ
      exact jRf_by (jex_ok hG (cs := [(36, [some (.inr (some 90)), some (.inr (some 115)), some (.inl 0), some (.inl 0)], [], fun xs σ => match xs with
      | [v2, v3] => Quotient_isAlike_c36 F 90 115 (Quotient_isAlike_c26 F 90 115 fu) F v2 v3 σ
      | _ => none)]) (jcon (jl2 (fun y0 y1 => jl0 (fun σ => rr36 _ ih F y0 y1 σ))) jnil) 44 26 [some (jmr 90), some (jmr 115), some (jmi v2), none] [] σ) rfl
  exact jRf_by (jex_ok hG (cs := [(26, [some (.inr (some 90)), some (.inr (some 115)), some (.inl 0), none], [], fun xs σ => match xs with
      | [v2] => Quotient_isAlike_c26 F 90 115 F v2 σ
      | _ => none)]) (jcon (jl1 (fun y0 => jl0 (fun σ => rr26 F y0 σ))) jnil) 44 0 [some (jmr 90), some (jmr 115), none, none] [] σ0) rfl
set_option maxRecDepth 100000 in
set_option maxHeartbeats 4000000 in
theorem jmet_Quotient_isAlike_95_90 (F : Nat) (sh : List jxC) (hs : jHas sh jc_C) (σ0 : jxS) (x : Int) (σ' : jxS) (h : Quotient_isAlike F 95 90 σ0 = some (x, σ')) : jMC yX6_isAlike cX6_isAlike 4 (jrt 4) 2 44 sh σ0 [(jmr 95), (jmr 90)] (jrv 4 x) σ' := by
  refine jMC_of (kd := 4) (by decide) rfl h ?_
  intro X hX
  have hG : jGd X (jE_Quotient_isAlike F) jtb_Quotient_isAlike := jGd_of hX jtk_Quotient_isAlike (jcon jfl_X6_25 (jcon jfl_X6_37 jnil)) jnil jnil (jcon (jsV jlk_X6_83 ⟨rfl, rfl⟩ (jad_Quotient_nextOf F sh hs)) (jcon (jsV jlk_X6_89 ⟨rfl, rfl⟩ (jad_Quotient_lostSet F sh hs)) jnil)) hs
  have rr36 : ∀ (k26 : Int → jxS → Option jxR) (h26 : ∀ v2 σ, jRf X (k26 v2 σ) 26 [some (jmr 95), some (jmr 90), some (jmi v2), none] [] σ) (fu : Nat) (v2 v3 : Int) (σ : jxS), jRf X (Quotient_isAlike_c36 F 95 90 k26 fu v2 v3 σ) 36 [some (jmr 95), some (jmr 90), some (jmi v2), some (jmi v3)] [] σ := by
    intro k26 h26 fu
    induction fu with
    | zero => intros; exact jRf_none
    | succ fu ih =>
      intro v2 v3 σ
      exact jRf_by (jex_ok hG (cs := [(26, [some (.inr (some 95)), some (.inr (some 90)), some (.inl 0), none], [], fun xs σ => match xs with
      | [v2] => k26 v2 σ
      | _ => none), (36, [some (.inr (some 95)), some (.inr (some 90)), some (.inl 0), some (.inl 0)], [], fun xs σ => match xs with
      | [v2, v3] => (Quotient_isAlike_c36 F 95 90 k26 fu) v2 v3 σ
      | _ => none)]) (jcon (jl1 (fun y0 => jl0 (fun σ => h26 y0 σ))) (jcon (jl2 (fun y0 y1 => jl0 (fun σ => ih y0 y1 σ))) jnil)) 44 36 [some (jmr 95), some (jmr 90), some (jmi v2), some (jmi v3)] [] σ) rfl
  have rr26 : ∀ (fu : Nat) (v2 : Int) (σ : jxS), jRf X (Quotient_isAlike_c26 F 95 90 fu v2 σ) 26 [some (jmr 95), some (jmr 90), some (jmi v2), none] [] σ := by
    intro  fu
    induction fu with
    | zero => intros; exact jRf_none
    | succ fu ih =>
      intro v2 σ
      exact jRf_by (jex_ok hG (cs := [(36, [some (.inr (some 95)), some (.inr (some 90)), some (.inl 0), some (.inl 0)], [], fun xs σ => match xs with
      | [v2, v3] => Quotient_isAlike_c36 F 95 90 (Quotient_isAlike_c26 F 95 90 fu) F v2 v3 σ
      | _ => none)]) (jcon (jl2 (fun y0 y1 => jl0 (fun σ => rr36 _ ih F y0 y1 σ))) jnil) 44 26 [some (jmr 95), some (jmr 90), some (jmi v2), none] [] σ) rfl
  exact jRf_by (jex_ok hG (cs := [(26, [some (.inr (some 95)), some (.inr (some 90)), some (.inl 0), none], [], fun xs σ => match xs with
      | [v2] => Quotient_isAlike_c26 F 95 90 F v2 σ
      | _ => none)]) (jcon (jl1 (fun y0 => jl0 (fun σ => rr26 F y0 σ))) jnil) 44 0 [some (jmr 95), some (jmr 90), none, none] [] σ0) rfl
set_option maxRecDepth 100000 in
set_option maxHeartbeats 4000000 in
theorem jmet_Quotient_isAlike_95_95 (F : Nat) (sh : List jxC) (hs : jHas sh jc_C) (σ0 : jxS) (x : Int) (σ' : jxS) (h : Quotient_isAlike F 95 95 σ0 = some (x, σ')) : jMC yX6_isAlike cX6_isAlike 4 (jrt 4) 2 44 sh σ0 [(jmr 95), (jmr 95)] (jrv 4 x) σ' := by
  refine jMC_of (kd := 4) (by decide) rfl h ?_
  intro X hX
  have hG : jGd X (jE_Quotient_isAlike F) jtb_Quotient_isAlike := jGd_of hX jtk_Quotient_isAlike (jcon jfl_X6_25 (jcon jfl_X6_37 jnil)) jnil jnil (jcon (jsV jlk_X6_83 ⟨rfl, rfl⟩ (jad_Quotient_nextOf F sh hs)) (jcon (jsV jlk_X6_89 ⟨rfl, rfl⟩ (jad_Quotient_lostSet F sh hs)) jnil)) hs
  have rr36 : ∀ (k26 : Int → jxS → Option jxR) (h26 : ∀ v2 σ, jRf X (k26 v2 σ) 26 [some (jmr 95), some (jmr 95), some (jmi v2), none] [] σ) (fu : Nat) (v2 v3 : Int) (σ : jxS), jRf X (Quotient_isAlike_c36 F 95 95 k26 fu v2 v3 σ) 36 [some (jmr 95), some (jmr 95), some (jmi v2), some (jmi v3)] [] σ := by
    intro k26 h26 fu
    induction fu with
    | zero => intros; exact jRf_none
    | succ fu ih =>
      intro v2 v3 σ
      exact jRf_by (jex_ok hG (cs := [(26, [some (.inr (some 95)), some (.inr (some 95)), some (.inl 0), none], [], fun xs σ => match xs with
      | [v2] => k26 v2 σ
      | _ => none), (36, [some (.inr (some 95)), some (.inr (some 95)), some (.inl 0), some (.inl 0)], [], fun xs σ => match xs with
      | [v2, v3] => (Quotient_isAlike_c36 F 95 95 k26 fu) v2 v3 σ
      | _ => none)]) (jcon (jl1 (fun y0 => jl0 (fun σ => h26 y0 σ))) (jcon (jl2 (fun y0 y1 => jl0 (fun σ => ih y0 y1 σ))) jnil)) 44 36 [some (jmr 95), some (jmr 95), some (jmi v2), some (jmi v3)] [] σ) rfl
  have rr26 : ∀ (fu : Nat) (v2 : Int) (σ : jxS), jRf X (Quotient_isAlike_c26 F 95 95 fu v2 σ) 26 [some (jmr 95), some (jmr 95), some (jmi v2), none] [] σ := by
    intro  fu
    induction fu with
    | zero => intros; exact jRf_none
    | succ fu ih =>
      intro v2 σ
      exact jRf_by (jex_ok hG (cs := [(36, [some (.inr (some 95)), some (.inr (some 95)), some (.inl 0), some (.inl 0)], [], fun xs σ => match xs with
      | [v2, v3] => Quotient_isAlike_c36 F 95 95 (Quotient_isAlike_c26 F 95 95 fu) F v2 v3 σ
      | _ => none)]) (jcon (jl2 (fun y0 y1 => jl0 (fun σ => rr36 _ ih F y0 y1 σ))) jnil) 44 26 [some (jmr 95), some (jmr 95), some (jmi v2), none] [] σ) rfl
  exact jRf_by (jex_ok hG (cs := [(26, [some (.inr (some 95)), some (.inr (some 95)), some (.inl 0), none], [], fun xs σ => match xs with
      | [v2] => Quotient_isAlike_c26 F 95 95 F v2 σ
      | _ => none)]) (jcon (jl1 (fun y0 => jl0 (fun σ => rr26 F y0 σ))) jnil) 44 0 [some (jmr 95), some (jmr 95), none, none] [] σ0) rfl
set_option maxRecDepth 100000 in
set_option maxHeartbeats 4000000 in
theorem jmet_Quotient_isAlike_95_100 (F : Nat) (sh : List jxC) (hs : jHas sh jc_C) (σ0 : jxS) (x : Int) (σ' : jxS) (h : Quotient_isAlike F 95 100 σ0 = some (x, σ')) : jMC yX6_isAlike cX6_isAlike 4 (jrt 4) 2 44 sh σ0 [(jmr 95), (jmr 100)] (jrv 4 x) σ' := by
  refine jMC_of (kd := 4) (by decide) rfl h ?_
  intro X hX
  have hG : jGd X (jE_Quotient_isAlike F) jtb_Quotient_isAlike := jGd_of hX jtk_Quotient_isAlike (jcon jfl_X6_25 (jcon jfl_X6_37 jnil)) jnil jnil (jcon (jsV jlk_X6_83 ⟨rfl, rfl⟩ (jad_Quotient_nextOf F sh hs)) (jcon (jsV jlk_X6_89 ⟨rfl, rfl⟩ (jad_Quotient_lostSet F sh hs)) jnil)) hs
  have rr36 : ∀ (k26 : Int → jxS → Option jxR) (h26 : ∀ v2 σ, jRf X (k26 v2 σ) 26 [some (jmr 95), some (jmr 100), some (jmi v2), none] [] σ) (fu : Nat) (v2 v3 : Int) (σ : jxS), jRf X (Quotient_isAlike_c36 F 95 100 k26 fu v2 v3 σ) 36 [some (jmr 95), some (jmr 100), some (jmi v2), some (jmi v3)] [] σ := by
    intro k26 h26 fu
    induction fu with
    | zero => intros; exact jRf_none
    | succ fu ih =>
      intro v2 v3 σ
      exact jRf_by (jex_ok hG (cs := [(26, [some (.inr (some 95)), some (.inr (some 100)), some (.inl 0), none], [], fun xs σ => match xs with
      | [v2] => k26 v2 σ
      | _ => none), (36, [some (.inr (some 95)), some (.inr (some 100)), some (.inl 0), some (.inl 0)], [], fun xs σ => match xs with
      | [v2, v3] => (Quotient_isAlike_c36 F 95 100 k26 fu) v2 v3 σ
      | _ => none)]) (jcon (jl1 (fun y0 => jl0 (fun σ => h26 y0 σ))) (jcon (jl2 (fun y0 y1 => jl0 (fun σ => ih y0 y1 σ))) jnil)) 44 36 [some (jmr 95), some (jmr 100), some (jmi v2), some (jmi v3)] [] σ) rfl
  have rr26 : ∀ (fu : Nat) (v2 : Int) (σ : jxS), jRf X (Quotient_isAlike_c26 F 95 100 fu v2 σ) 26 [some (jmr 95), some (jmr 100), some (jmi v2), none] [] σ := by
    intro  fu
    induction fu with
    | zero => intros; exact jRf_none
    | succ fu ih =>
      intro v2 σ
      exact jRf_by (jex_ok hG (cs := [(36, [some (.inr (some 95)), some (.inr (some 100)), some (.inl 0), some (.inl 0)], [], fun xs σ => match xs with
      | [v2, v3] => Quotient_isAlike_c36 F 95 100 (Quotient_isAlike_c26 F 95 100 fu) F v2 v3 σ
      | _ => none)]) (jcon (jl2 (fun y0 y1 => jl0 (fun σ => rr36 _ ih F y0 y1 σ))) jnil) 44 26 [some (jmr 95), some (jmr 100), some (jmi v2), none] [] σ) rfl
  exact jRf_by (jex_ok hG (cs := [(26, [some (.inr (some 95)), some (.inr (some 100)), some (.inl 0), none], [], fun xs σ => match xs with
      | [v2] => Quotient_isAlike_c26 F 95 100 F v2 σ
      | _ => none)]) (jcon (jl1 (fun y0 => jl0 (fun σ => rr26 F y0 σ))) jnil) 44 0 [some (jmr 95), some (jmr 100), none, none] [] σ0) rfl
set_option maxRecDepth 100000 in
set_option maxHeartbeats 4000000 in
theorem jmet_Quotient_isAlike_95_105 (F : Nat) (sh : List jxC) (hs : jHas sh jc_C) (σ0 : jxS) (x : Int) (σ' : jxS) (h : Quotient_isAlike F 95 105 σ0 = some (x, σ')) : jMC yX6_isAlike cX6_isAlike 4 (jrt 4) 2 44 sh σ0 [(jmr 95), (jmr 105)] (jrv 4 x) σ' := by
  refine jMC_of (kd := 4) (by decide) rfl h ?_
  intro X hX
  have hG : jGd X (jE_Quotient_isAlike F) jtb_Quotient_isAlike := jGd_of hX jtk_Quotient_isAlike (jcon jfl_X6_25 (jcon jfl_X6_37 jnil)) jnil jnil (jcon (jsV jlk_X6_83 ⟨rfl, rfl⟩ (jad_Quotient_nextOf F sh hs)) (jcon (jsV jlk_X6_89 ⟨rfl, rfl⟩ (jad_Quotient_lostSet F sh hs)) jnil)) hs
  have rr36 : ∀ (k26 : Int → jxS → Option jxR) (h26 : ∀ v2 σ, jRf X (k26 v2 σ) 26 [some (jmr 95), some (jmr 105), some (jmi v2), none] [] σ) (fu : Nat) (v2 v3 : Int) (σ : jxS), jRf X (Quotient_isAlike_c36 F 95 105 k26 fu v2 v3 σ) 36 [some (jmr 95), some (jmr 105), some (jmi v2), some (jmi v3)] [] σ := by
    intro k26 h26 fu
    induction fu with
    | zero => intros; exact jRf_none
    | succ fu ih =>
      intro v2 v3 σ
      exact jRf_by (jex_ok hG (cs := [(26, [some (.inr (some 95)), some (.inr (some 105)), some (.inl 0), none], [], fun xs σ => match xs with
      | [v2] => k26 v2 σ
      | _ => none), (36, [some (.inr (some 95)), some (.inr (some 105)), some (.inl 0), some (.inl 0)], [], fun xs σ => match xs with
      | [v2, v3] => (Quotient_isAlike_c36 F 95 105 k26 fu) v2 v3 σ
      | _ => none)]) (jcon (jl1 (fun y0 => jl0 (fun σ => h26 y0 σ))) (jcon (jl2 (fun y0 y1 => jl0 (fun σ => ih y0 y1 σ))) jnil)) 44 36 [some (jmr 95), some (jmr 105), some (jmi v2), some (jmi v3)] [] σ) rfl
  have rr26 : ∀ (fu : Nat) (v2 : Int) (σ : jxS), jRf X (Quotient_isAlike_c26 F 95 105 fu v2 σ) 26 [some (jmr 95), some (jmr 105), some (jmi v2), none] [] σ := by
    intro  fu
    induction fu with
    | zero => intros; exact jRf_none
    | succ fu ih =>
      intro v2 σ
      exact jRf_by (jex_ok hG (cs := [(36, [some (.inr (some 95)), some (.inr (some 105)), some (.inl 0), some (.inl 0)], [], fun xs σ => match xs with
      | [v2, v3] => Quotient_isAlike_c36 F 95 105 (Quotient_isAlike_c26 F 95 105 fu) F v2 v3 σ
      | _ => none)]) (jcon (jl2 (fun y0 y1 => jl0 (fun σ => rr36 _ ih F y0 y1 σ))) jnil) 44 26 [some (jmr 95), some (jmr 105), some (jmi v2), none] [] σ) rfl
  exact jRf_by (jex_ok hG (cs := [(26, [some (.inr (some 95)), some (.inr (some 105)), some (.inl 0), none], [], fun xs σ => match xs with
      | [v2] => Quotient_isAlike_c26 F 95 105 F v2 σ
      | _ => none)]) (jcon (jl1 (fun y0 => jl0 (fun σ => rr26 F y0 σ))) jnil) 44 0 [some (jmr 95), some (jmr 105), none, none] [] σ0) rfl
set_option maxRecDepth 100000 in
set_option maxHeartbeats 4000000 in
theorem jmet_Quotient_isAlike_95_110 (F : Nat) (sh : List jxC) (hs : jHas sh jc_C) (σ0 : jxS) (x : Int) (σ' : jxS) (h : Quotient_isAlike F 95 110 σ0 = some (x, σ')) : jMC yX6_isAlike cX6_isAlike 4 (jrt 4) 2 44 sh σ0 [(jmr 95), (jmr 110)] (jrv 4 x) σ' := by
  refine jMC_of (kd := 4) (by decide) rfl h ?_
  intro X hX
  have hG : jGd X (jE_Quotient_isAlike F) jtb_Quotient_isAlike := jGd_of hX jtk_Quotient_isAlike (jcon jfl_X6_25 (jcon jfl_X6_37 jnil)) jnil jnil (jcon (jsV jlk_X6_83 ⟨rfl, rfl⟩ (jad_Quotient_nextOf F sh hs)) (jcon (jsV jlk_X6_89 ⟨rfl, rfl⟩ (jad_Quotient_lostSet F sh hs)) jnil)) hs
  have rr36 : ∀ (k26 : Int → jxS → Option jxR) (h26 : ∀ v2 σ, jRf X (k26 v2 σ) 26 [some (jmr 95), some (jmr 110), some (jmi v2), none] [] σ) (fu : Nat) (v2 v3 : Int) (σ : jxS), jRf X (Quotient_isAlike_c36 F 95 110 k26 fu v2 v3 σ) 36 [some (jmr 95), some (jmr 110), some (jmi v2), some (jmi v3)] [] σ := by
    intro k26 h26 fu
    induction fu with
    | zero => intros; exact jRf_none
    | succ fu ih =>
      intro v2 v3 σ
      exact jRf_by (jex_ok hG (cs := [(26, [some (.inr (some 95)), some (.inr (some 110)), some (.inl 0), none], [], fun xs σ => match xs with
      | [v2] => k26 v2 σ
      | _ => none), (36, [some (.inr (some 95)), some (.inr (some 110)), some (.inl 0), some (.inl 0)], [], fun xs σ => match xs with
      | [v2, v3] => (Quotient_isAlike_c36 F 95 110 k26 fu) v2 v3 σ
      | _ => none)]) (jcon (jl1 (fun y0 => jl0 (fun σ => h26 y0 σ))) (jcon (jl2 (fun y0 y1 => jl0 (fun σ => ih y0 y1 σ))) jnil)) 44 36 [some (jmr 95), some (jmr 110), some (jmi v2), some (jmi v3)] [] σ) rfl
  have rr26 : ∀ (fu : Nat) (v2 : Int) (σ : jxS), jRf X (Quotient_isAlike_c26 F 95 110 fu v2 σ) 26 [some (jmr 95), some (jmr 110), some (jmi v2), none] [] σ := by
    intro  fu
    induction fu with
    | zero => intros; exact jRf_none
    | succ fu ih =>
      intro v2 σ
      exact jRf_by (jex_ok hG (cs := [(36, [some (.inr (some 95)), some (.inr (some 110)), some (.inl 0), some (.inl 0)], [], fun xs σ => match xs with
      | [v2, v3] => Quotient_isAlike_c36 F 95 110 (Quotient_isAlike_c26 F 95 110 fu) F v2 v3 σ
      | _ => none)]) (jcon (jl2 (fun y0 y1 => jl0 (fun σ => rr36 _ ih F y0 y1 σ))) jnil) 44 26 [some (jmr 95), some (jmr 110), some (jmi v2), none] [] σ) rfl
  exact jRf_by (jex_ok hG (cs := [(26, [some (.inr (some 95)), some (.inr (some 110)), some (.inl 0), none], [], fun xs σ => match xs with
      | [v2] => Quotient_isAlike_c26 F 95 110 F v2 σ
      | _ => none)]) (jcon (jl1 (fun y0 => jl0 (fun σ => rr26 F y0 σ))) jnil) 44 0 [some (jmr 95), some (jmr 110), none, none] [] σ0) rfl
set_option maxRecDepth 100000 in
set_option maxHeartbeats 4000000 in
theorem jmet_Quotient_isAlike_95_115 (F : Nat) (sh : List jxC) (hs : jHas sh jc_C) (σ0 : jxS) (x : Int) (σ' : jxS) (h : Quotient_isAlike F 95 115 σ0 = some (x, σ')) : jMC yX6_isAlike cX6_isAlike 4 (jrt 4) 2 44 sh σ0 [(jmr 95), (jmr 115)] (jrv 4 x) σ' := by
  refine jMC_of (kd := 4) (by decide) rfl h ?_
  intro X hX
  have hG : jGd X (jE_Quotient_isAlike F) jtb_Quotient_isAlike := jGd_of hX jtk_Quotient_isAlike (jcon jfl_X6_25 (jcon jfl_X6_37 jnil)) jnil jnil (jcon (jsV jlk_X6_83 ⟨rfl, rfl⟩ (jad_Quotient_nextOf F sh hs)) (jcon (jsV jlk_X6_89 ⟨rfl, rfl⟩ (jad_Quotient_lostSet F sh hs)) jnil)) hs
  have rr36 : ∀ (k26 : Int → jxS → Option jxR) (h26 : ∀ v2 σ, jRf X (k26 v2 σ) 26 [some (jmr 95), some (jmr 115), some (jmi v2), none] [] σ) (fu : Nat) (v2 v3 : Int) (σ : jxS), jRf X (Quotient_isAlike_c36 F 95 115 k26 fu v2 v3 σ) 36 [some (jmr 95), some (jmr 115), some (jmi v2), some (jmi v3)] [] σ := by
    intro k26 h26 fu
    induction fu with
    | zero => intros; exact jRf_none
    | succ fu ih =>
      intro v2 v3 σ
      exact jRf_by (jex_ok hG (cs := [(26, [some (.inr (some 95)), some (.inr (some 115)), some (.inl 0), none], [], fun xs σ => match xs with
      | [v2] => k26 v2 σ
      | _ => none), (36, [some (.inr (some 95)), some (.inr (some 115)), some (.inl 0), some (.inl 0)], [], fun xs σ => match xs with
      | [v2, v3] => (Quotient_isAlike_c36 F 95 115 k26 fu) v2 v3 σ
      | _ => none)]) (jcon (jl1 (fun y0 => jl0 (fun σ => h26 y0 σ))) (jcon (jl2 (fun y0 y1 => jl0 (fun σ => ih y0 y1 σ))) jnil)) 44 36 [some (jmr 95), some (jmr 115), some (jmi v2), some (jmi v3)] [] σ) rfl
  have rr26 : ∀ (fu : Nat) (v2 : Int) (σ : jxS), jRf X (Quotient_isAlike_c26 F 95 115 fu v2 σ) 26 [some (jmr 95), some (jmr 115), some (jmi v2), none] [] σ := by
    intro  fu
    induction fu with
    | zero => intros; exact jRf_none
    | succ fu ih =>
      intro v2 σ
      exact jRf_by (jex_ok hG (cs := [(36, [some (.inr (some 95)), some (.inr (some 115)), some (.inl 0), some (.inl 0)], [], fun xs σ => match xs with
      | [v2, v3] => Quotient_isAlike_c36 F 95 115 (Quotient_isAlike_c26 F 95 115 fu) F v2 v3 σ
      | _ => none)]) (jcon (jl2 (fun y0 y1 => jl0 (fun σ => rr36 _ ih F y0 y1 σ))) jnil) 44 26 [some (jmr 95), some (jmr 115), some (jmi v2), none] [] σ) rfl
  exact jRf_by (jex_ok hG (cs := [(26, [some (.inr (some 95)), some (.inr (some 115)), some (.inl 0), none], [], fun xs σ => match xs with
      | [v2] => Quotient_isAlike_c26 F 95 115 F v2 σ
      | _ => none)]) (jcon (jl1 (fun y0 => jl0 (fun σ => rr26 F y0 σ))) jnil) 44 0 [some (jmr 95), some (jmr 115), none, none] [] σ0) rfl
set_option maxRecDepth 100000 in
set_option maxHeartbeats 4000000 in
theorem jmet_Quotient_isAlike_100_90 (F : Nat) (sh : List jxC) (hs : jHas sh jc_C) (σ0 : jxS) (x : Int) (σ' : jxS) (h : Quotient_isAlike F 100 90 σ0 = some (x, σ')) : jMC yX6_isAlike cX6_isAlike 4 (jrt 4) 2 44 sh σ0 [(jmr 100), (jmr 90)] (jrv 4 x) σ' := by
  refine jMC_of (kd := 4) (by decide) rfl h ?_
  intro X hX
  have hG : jGd X (jE_Quotient_isAlike F) jtb_Quotient_isAlike := jGd_of hX jtk_Quotient_isAlike (jcon jfl_X6_25 (jcon jfl_X6_37 jnil)) jnil jnil (jcon (jsV jlk_X6_83 ⟨rfl, rfl⟩ (jad_Quotient_nextOf F sh hs)) (jcon (jsV jlk_X6_89 ⟨rfl, rfl⟩ (jad_Quotient_lostSet F sh hs)) jnil)) hs
  have rr36 : ∀ (k26 : Int → jxS → Option jxR) (h26 : ∀ v2 σ, jRf X (k26 v2 σ) 26 [some (jmr 100), some (jmr 90), some (jmi v2), none] [] σ) (fu : Nat) (v2 v3 : Int) (σ : jxS), jRf X (Quotient_isAlike_c36 F 100 90 k26 fu v2 v3 σ) 36 [some (jmr 100), some (jmr 90), some (jmi v2), some (jmi v3)] [] σ := by
    intro k26 h26 fu
    induction fu with
    | zero => intros; exact jRf_none
    | succ fu ih =>
      intro v2 v3 σ
      exact jRf_by (jex_ok hG (cs := [(26, [some (.inr (some 100)), some (.inr (some 90)), some (.inl 0), none], [], fun xs σ => match xs with
      | [v2] => k26 v2 σ
      | _ => none), (36, [some (.inr (some 100)), some (.inr (some 90)), some (.inl 0), some (.inl 0)], [], fun xs σ => match xs with
      | [v2, v3] => (Quotient_isAlike_c36 F 100 90 k26 fu) v2 v3 σ
      | _ => none)]) (jcon (jl1 (fun y0 => jl0 (fun σ => h26 y0 σ))) (jcon (jl2 (fun y0 y1 => jl0 (fun σ => ih y0 y1 σ))) jnil)) 44 36 [some (jmr 100), some (jmr 90), some (jmi v2), some (jmi v3)] [] σ) rfl
  have rr26 : ∀ (fu : Nat) (v2 : Int) (σ : jxS), jRf X (Quotient_isAlike_c26 F 100 90 fu v2 σ) 26 [some (jmr 100), some (jmr 90), some (jmi v2), none] [] σ := by
    intro  fu
    induction fu with
    | zero => intros; exact jRf_none
    | succ fu ih =>
      intro v2 σ
      exact jRf_by (jex_ok hG (cs := [(36, [some (.inr (some 100)), some (.inr (some 90)), some (.inl 0), some (.inl 0)], [], fun xs σ => match xs with
      | [v2, v3] => Quotient_isAlike_c36 F 100 90 (Quotient_isAlike_c26 F 100 90 fu) F v2 v3 σ
      | _ => none)]) (jcon (jl2 (fun y0 y1 => jl0 (fun σ => rr36 _ ih F y0 y1 σ))) jnil) 44 26 [some (jmr 100), some (jmr 90), some (jmi v2), none] [] σ) rfl
  exact jRf_by (jex_ok hG (cs := [(26, [some (.inr (some 100)), some (.inr (some 90)), some (.inl 0), none], [], fun xs σ => match xs with
      | [v2] => Quotient_isAlike_c26 F 100 90 F v2 σ
      | _ => none)]) (jcon (jl1 (fun y0 => jl0 (fun σ => rr26 F y0 σ))) jnil) 44 0 [some (jmr 100), some (jmr 90), none, none] [] σ0) rfl
set_option maxRecDepth 100000 in
set_option maxHeartbeats 4000000 in
theorem jmet_Quotient_isAlike_100_95 (F : Nat) (sh : List jxC) (hs : jHas sh jc_C) (σ0 : jxS) (x : Int) (σ' : jxS) (h : Quotient_isAlike F 100 95 σ0 = some (x, σ')) : jMC yX6_isAlike cX6_isAlike 4 (jrt 4) 2 44 sh σ0 [(jmr 100), (jmr 95)] (jrv 4 x) σ' := by
  refine jMC_of (kd := 4) (by decide) rfl h ?_
  intro X hX
  have hG : jGd X (jE_Quotient_isAlike F) jtb_Quotient_isAlike := jGd_of hX jtk_Quotient_isAlike (jcon jfl_X6_25 (jcon jfl_X6_37 jnil)) jnil jnil (jcon (jsV jlk_X6_83 ⟨rfl, rfl⟩ (jad_Quotient_nextOf F sh hs)) (jcon (jsV jlk_X6_89 ⟨rfl, rfl⟩ (jad_Quotient_lostSet F sh hs)) jnil)) hs
  have rr36 : ∀ (k26 : Int → jxS → Option jxR) (h26 : ∀ v2 σ, jRf X (k26 v2 σ) 26 [some (jmr 100), some (jmr 95), some (jmi v2), none] [] σ) (fu : Nat) (v2 v3 : Int) (σ : jxS), jRf X (Quotient_isAlike_c36 F 100 95 k26 fu v2 v3 σ) 36 [some (jmr 100), some (jmr 95), some (jmi v2), some (jmi v3)] [] σ := by
    intro k26 h26 fu
    induction fu with
    | zero => intros; exact jRf_none
    | succ fu ih =>
      intro v2 v3 σ
      exact jRf_by (jex_ok hG (cs := [(26, [some (.inr (some 100)), some (.inr (some 95)), some (.inl 0), none], [], fun xs σ => match xs with
      | [v2] => k26 v2 σ
      | _ => none), (36, [some (.inr (some 100)), some (.inr (some 95)), some (.inl 0), some (.inl 0)], [], fun xs σ => match xs with
      | [v2, v3] => (Quotient_isAlike_c36 F 100 95 k26 fu) v2 v3 σ
      | _ => none)]) (jcon (jl1 (fun y0 => jl0 (fun σ => h26 y0 σ))) (jcon (jl2 (fun y0 y1 => jl0 (fun σ => ih y0 y1 σ))) jnil)) 44 36 [some (jmr 100), some (jmr 95), some (jmi v2), some (jmi v3)] [] σ) rfl
  have rr26 : ∀ (fu : Nat) (v2 : Int) (σ : jxS), jRf X (Quotient_isAlike_c26 F 100 95 fu v2 σ) 26 [some (jmr 100), some (jmr 95), some (jmi v2), none] [] σ := by
    intro  fu
    induction fu with
    | zero => intros; exact jRf_none
    | succ fu ih =>
      intro v2 σ
      exact jRf_by (jex_ok hG (cs := [(36, [some (.inr (some 100)), some (.inr (some 95)), some (.inl 0), some (.inl 0)], [], fun xs σ => match xs with
      | [v2, v3] => Quotient_isAlike_c36 F 100 95 (Quotient_isAlike_c26 F 100 95 fu) F v2 v3 σ
      | _ => none)]) (jcon (jl2 (fun y0 y1 => jl0 (fun σ => rr36 _ ih F y0 y1 σ))) jnil) 44 26 [some (jmr 100), some (jmr 95), some (jmi v2), none] [] σ) rfl
  exact jRf_by (jex_ok hG (cs := [(26, [some (.inr (some 100)), some (.inr (some 95)), some (.inl 0), none], [], fun xs σ => match xs with
      | [v2] => Quotient_isAlike_c26 F 100 95 F v2 σ
      | _ => none)]) (jcon (jl1 (fun y0 => jl0 (fun σ => rr26 F y0 σ))) jnil) 44 0 [some (jmr 100), some (jmr 95), none, none] [] σ0) rfl
set_option maxRecDepth 100000 in
set_option maxHeartbeats 4000000 in
theorem jmet_Quotient_isAlike_100_100 (F : Nat) (sh : List jxC) (hs : jHas sh jc_C) (σ0 : jxS) (x : Int) (σ' : jxS) (h : Quotient_isAlike F 100 100 σ0 = some (x, σ')) : jMC yX6_isAlike cX6_isAlike 4 (jrt 4) 2 44 sh σ0 [(jmr 100), (jmr 100)] (jrv 4 x) σ' := by
  refine jMC_of (kd := 4) (by decide) rfl h ?_
  intro X hX
  have hG : jGd X (jE_Quotient_isAlike F) jtb_Quotient_isAlike := jGd_of hX jtk_Quotient_isAlike (jcon jfl_X6_25 (jcon jfl_X6_37 jnil)) jnil jnil (jcon (jsV jlk_X6_83 ⟨rfl, rfl⟩ (jad_Quotient_nextOf F sh hs)) (jcon (jsV jlk_X6_89 ⟨rfl, rfl⟩ (jad_Quotient_lostSet F sh hs)) jnil)) hs
  have rr36 : ∀ (k26 : Int → jxS → Option jxR) (h26 : ∀ v2 σ, jRf X (k26 v2 σ) 26 [some (jmr 100), some (jmr 100), some (jmi v2), none] [] σ) (fu : Nat) (v2 v3 : Int) (σ : jxS), jRf X (Quotient_isAlike_c36 F 100 100 k26 fu v2 v3 σ) 36 [some (jmr 100), some (jmr 100), some (jmi v2), some (jmi v3)] [] σ := by
    intro k26 h26 fu
    induction fu with
    | zero => intros; exact jRf_none
    | succ fu ih =>
      intro v2 v3 σ
      exact jRf_by (jex_ok hG (cs := [(26, [some (.inr (some 100)), some (.inr (some 100)), some (.inl 0), none], [], fun xs σ => match xs with
      | [v2] => k26 v2 σ
      | _ => none), (36, [some (.inr (some 100)), some (.inr (some 100)), some (.inl 0), some (.inl 0)], [], fun xs σ => match xs with
      | [v2, v3] => (Quotient_isAlike_c36 F 100 100 k26 fu) v2 v3 σ
      | _ => none)]) (jcon (jl1 (fun y0 => jl0 (fun σ => h26 y0 σ))) (jcon (jl2 (fun y0 y1 => jl0 (fun σ => ih y0 y1 σ))) jnil)) 44 36 [some (jmr 100), some (jmr 100), some (jmi v2), some (jmi v3)] [] σ) rfl
  have rr26 : ∀ (fu : Nat) (v2 : Int) (σ : jxS), jRf X (Quotient_isAlike_c26 F 100 100 fu v2 σ) 26 [some (jmr 100), some (jmr 100), some (jmi v2), none] [] σ := by
    intro  fu
    induction fu with
    | zero => intros; exact jRf_none
    | succ fu ih =>
      intro v2 σ
      exact jRf_by (jex_ok hG (cs := [(36, [some (.inr (some 100)), some (.inr (some 100)), some (.inl 0), some (.inl 0)], [], fun xs σ => match xs with
      | [v2, v3] => Quotient_isAlike_c36 F 100 100 (Quotient_isAlike_c26 F 100 100 fu) F v2 v3 σ
      | _ => none)]) (jcon (jl2 (fun y0 y1 => jl0 (fun σ => rr36 _ ih F y0 y1 σ))) jnil) 44 26 [some (jmr 100), some (jmr 100), some (jmi v2), none] [] σ) rfl
  exact jRf_by (jex_ok hG (cs := [(26, [some (.inr (some 100)), some (.inr (some 100)), some (.inl 0), none], [], fun xs σ => match xs with
      | [v2] => Quotient_isAlike_c26 F 100 100 F v2 σ
      | _ => none)]) (jcon (jl1 (fun y0 => jl0 (fun σ => rr26 F y0 σ))) jnil) 44 0 [some (jmr 100), some (jmr 100), none, none] [] σ0) rfl
set_option maxRecDepth 100000 in
set_option maxHeartbeats 4000000 in
theorem jmet_Quotient_isAlike_100_105 (F : Nat) (sh : List jxC) (hs : jHas sh jc_C) (σ0 : jxS) (x : Int) (σ' : jxS) (h : Quotient_isAlike F 100 105 σ0 = some (x, σ')) : jMC yX6_isAlike cX6_isAlike 4 (jrt 4) 2 44 sh σ0 [(jmr 100), (jmr 105)] (jrv 4 x) σ' := by
  refine jMC_of (kd := 4) (by decide) rfl h ?_
  intro X hX
  have hG : jGd X (jE_Quotient_isAlike F) jtb_Quotient_isAlike := jGd_of hX jtk_Quotient_isAlike (jcon jfl_X6_25 (jcon jfl_X6_37 jnil)) jnil jnil (jcon (jsV jlk_X6_83 ⟨rfl, rfl⟩ (jad_Quotient_nextOf F sh hs)) (jcon (jsV jlk_X6_89 ⟨rfl, rfl⟩ (jad_Quotient_lostSet F sh hs)) jnil)) hs
  have rr36 : ∀ (k26 : Int → jxS → Option jxR) (h26 : ∀ v2 σ, jRf X (k26 v2 σ) 26 [some (jmr 100), some (jmr 105), some (jmi v2), none] [] σ) (fu : Nat) (v2 v3 : Int) (σ : jxS), jRf X (Quotient_isAlike_c36 F 100 105 k26 fu v2 v3 σ) 36 [some (jmr 100), some (jmr 105), some (jmi v2), some (jmi v3)] [] σ := by
    intro k26 h26 fu
    induction fu with
    | zero => intros; exact jRf_none
    | succ fu ih =>
      intro v2 v3 σ
      exact jRf_by (jex_ok hG (cs := [(26, [some (.inr (some 100)), some (.inr (some 105)), some (.inl 0), none], [], fun xs σ => match xs with
      | [v2] => k26 v2 σ
      | _ => none), (36, [some (.inr (some 100)), some (.inr (some 105)), some (.inl 0), some (.inl 0)], [], fun xs σ => match xs with
      | [v2, v3] => (Quotient_isAlike_c36 F 100 105 k26 fu) v2 v3 σ
      | _ => none)]) (jcon (jl1 (fun y0 => jl0 (fun σ => h26 y0 σ))) (jcon (jl2 (fun y0 y1 => jl0 (fun σ => ih y0 y1 σ))) jnil)) 44 36 [some (jmr 100), some (jmr 105), some (jmi v2), some (jmi v3)] [] σ) rfl
  have rr26 : ∀ (fu : Nat) (v2 : Int) (σ : jxS), jRf X (Quotient_isAlike_c26 F 100 105 fu v2 σ) 26 [some (jmr 100), some (jmr 105), some (jmi v2), none] [] σ := by
    intro  fu
    induction fu with
    | zero => intros; exact jRf_none
    | succ fu ih =>
      intro v2 σ
      exact jRf_by (jex_ok hG (cs := [(36, [some (.inr (some 100)), some (.inr (some 105)), some (.inl 0), some (.inl 0)], [], fun xs σ => match xs with
      | [v2, v3] => Quotient_isAlike_c36 F 100 105 (Quotient_isAlike_c26 F 100 105 fu) F v2 v3 σ
      | _ => none)]) (jcon (jl2 (fun y0 y1 => jl0 (fun σ => rr36 _ ih F y0 y1 σ))) jnil) 44 26 [some (jmr 100), some (jmr 105), some (jmi v2), none] [] σ) rfl
  exact jRf_by (jex_ok hG (cs := [(26, [some (.inr (some 100)), some (.inr (some 105)), some (.inl 0), none], [], fun xs σ => match xs with
      | [v2] => Quotient_isAlike_c26 F 100 105 F v2 σ
      | _ => none)]) (jcon (jl1 (fun y0 => jl0 (fun σ => rr26 F y0 σ))) jnil) 44 0 [some (jmr 100), some (jmr 105), none, none] [] σ0) rfl
set_option maxRecDepth 100000 in
set_option maxHeartbeats 4000000 in
theorem jmet_Quotient_isAlike_100_110 (F : Nat) (sh : List jxC) (hs : jHas sh jc_C) (σ0 : jxS) (x : Int) (σ' : jxS) (h : Quotient_isAlike F 100 110 σ0 = some (x, σ')) : jMC yX6_isAlike cX6_isAlike 4 (jrt 4) 2 44 sh σ0 [(jmr 100), (jmr 110)] (jrv 4 x) σ' := by
  refine jMC_of (kd := 4) (by decide) rfl h ?_
  intro X hX
  have hG : jGd X (jE_Quotient_isAlike F) jtb_Quotient_isAlike := jGd_of hX jtk_Quotient_isAlike (jcon jfl_X6_25 (jcon jfl_X6_37 jnil)) jnil jnil (jcon (jsV jlk_X6_83 ⟨rfl, rfl⟩ (jad_Quotient_nextOf F sh hs)) (jcon (jsV jlk_X6_89 ⟨rfl, rfl⟩ (jad_Quotient_lostSet F sh hs)) jnil)) hs
  have rr36 : ∀ (k26 : Int → jxS → Option jxR) (h26 : ∀ v2 σ, jRf X (k26 v2 σ) 26 [some (jmr 100), some (jmr 110), some (jmi v2), none] [] σ) (fu : Nat) (v2 v3 : Int) (σ : jxS), jRf X (Quotient_isAlike_c36 F 100 110 k26 fu v2 v3 σ) 36 [some (jmr 100), some (jmr 110), some (jmi v2), some (jmi v3)] [] σ := by
    intro k26 h26 fu
    induction fu with
    | zero => intros; exact jRf_none
    | succ fu ih =>
      intro v2 v3 σ
      exact jRf_by (jex_ok hG (cs := [(26, [some (.inr (some 100)), some (.inr (some 110)), some (.inl 0), none], [], fun xs σ => match xs with
      | [v2] => k26 v2 σ
      | _ => none), (36, [some (.inr (some 100)), some (.inr (some 110)), some (.inl 0), some (.inl 0)], [], fun xs σ => match xs with
      | [v2, v3] => (Quotient_isAlike_c36 F 100 110 k26 fu) v2 v3 σ
      | _ => none)]) (jcon (jl1 (fun y0 => jl0 (fun σ => h26 y0 σ))) (jcon (jl2 (fun y0 y1 => jl0 (fun σ => ih y0 y1 σ))) jnil)) 44 36 [some (jmr 100), some (jmr 110), some (jmi v2), some (jmi v3)] [] σ) rfl
  have rr26 : ∀ (fu : Nat) (v2 : Int) (σ : jxS), jRf X (Quotient_isAlike_c26 F 100 110 fu v2 σ) 26 [some (jmr 100), some (jmr 110), some (jmi v2), none] [] σ := by
    intro  fu
    induction fu with
    | zero => intros; exact jRf_none
    | succ fu ih =>
      intro v2 σ
      exact jRf_by (jex_ok hG (cs := [(36, [some (.inr (some 100)), some (.inr (some 110)), some (.inl 0), some (.inl 0)], [], fun xs σ => match xs with
      | [v2, v3] => Quotient_isAlike_c36 F 100 110 (Quotient_isAlike_c26 F 100 110 fu) F v2 v3 σ
      | _ => none)]) (jcon (jl2 (fun y0 y1 => jl0 (fun σ => rr36 _ ih F y0 y1 σ))) jnil) 44 26 [some (jmr 100), some (jmr 110), some (jmi v2), none] [] σ) rfl
  exact jRf_by (jex_ok hG (cs := [(26, [some (.inr (some 100)), some (.inr (some 110)), some (.inl 0), none], [], fun xs σ => match xs with
      | [v2] => Quotient_isAlike_c26 F 100 110 F v2 σ
      | _ => none)]) (jcon (jl1 (fun y0 => jl0 (fun σ => rr26 F y0 σ))) jnil) 44 0 [some (jmr 100), some (jmr 110), none, none] [] σ0) rfl
set_option maxRecDepth 100000 in
set_option maxHeartbeats 4000000 in
theorem jmet_Quotient_isAlike_100_115 (F : Nat) (sh : List jxC) (hs : jHas sh jc_C) (σ0 : jxS) (x : Int) (σ' : jxS) (h : Quotient_isAlike F 100 115 σ0 = some (x, σ')) : jMC yX6_isAlike cX6_isAlike 4 (jrt 4) 2 44 sh σ0 [(jmr 100), (jmr 115)] (jrv 4 x) σ' := by
  refine jMC_of (kd := 4) (by decide) rfl h ?_
  intro X hX
  have hG : jGd X (jE_Quotient_isAlike F) jtb_Quotient_isAlike := jGd_of hX jtk_Quotient_isAlike (jcon jfl_X6_25 (jcon jfl_X6_37 jnil)) jnil jnil (jcon (jsV jlk_X6_83 ⟨rfl, rfl⟩ (jad_Quotient_nextOf F sh hs)) (jcon (jsV jlk_X6_89 ⟨rfl, rfl⟩ (jad_Quotient_lostSet F sh hs)) jnil)) hs
  have rr36 : ∀ (k26 : Int → jxS → Option jxR) (h26 : ∀ v2 σ, jRf X (k26 v2 σ) 26 [some (jmr 100), some (jmr 115), some (jmi v2), none] [] σ) (fu : Nat) (v2 v3 : Int) (σ : jxS), jRf X (Quotient_isAlike_c36 F 100 115 k26 fu v2 v3 σ) 36 [some (jmr 100), some (jmr 115), some (jmi v2), some (jmi v3)] [] σ := by
    intro k26 h26 fu
    induction fu with
    | zero => intros; exact jRf_none
    | succ fu ih =>
      intro v2 v3 σ
      exact jRf_by (jex_ok hG (cs := [(26, [some (.inr (some 100)), some (.inr (some 115)), some (.inl 0), none], [], fun xs σ => match xs with
      | [v2] => k26 v2 σ
      | _ => none), (36, [some (.inr (some 100)), some (.inr (some 115)), some (.inl 0), some (.inl 0)], [], fun xs σ => match xs with
      | [v2, v3] => (Quotient_isAlike_c36 F 100 115 k26 fu) v2 v3 σ
      | _ => none)]) (jcon (jl1 (fun y0 => jl0 (fun σ => h26 y0 σ))) (jcon (jl2 (fun y0 y1 => jl0 (fun σ => ih y0 y1 σ))) jnil)) 44 36 [some (jmr 100), some (jmr 115), some (jmi v2), some (jmi v3)] [] σ) rfl
  have rr26 : ∀ (fu : Nat) (v2 : Int) (σ : jxS), jRf X (Quotient_isAlike_c26 F 100 115 fu v2 σ) 26 [some (jmr 100), some (jmr 115), some (jmi v2), none] [] σ := by
    intro  fu
    induction fu with
    | zero => intros; exact jRf_none
    | succ fu ih =>
      intro v2 σ
      exact jRf_by (jex_ok hG (cs := [(36, [some (.inr (some 100)), some (.inr (some 115)), some (.inl 0), some (.inl 0)], [], fun xs σ => match xs with
      | [v2, v3] => Quotient_isAlike_c36 F 100 115 (Quotient_isAlike_c26 F 100 115 fu) F v2 v3 σ
      | _ => none)]) (jcon (jl2 (fun y0 y1 => jl0 (fun σ => rr36 _ ih F y0 y1 σ))) jnil) 44 26 [some (jmr 100), some (jmr 115), some (jmi v2), none] [] σ) rfl
  exact jRf_by (jex_ok hG (cs := [(26, [some (.inr (some 100)), some (.inr (some 115)), some (.inl 0), none], [], fun xs σ => match xs with
      | [v2] => Quotient_isAlike_c26 F 100 115 F v2 σ
      | _ => none)]) (jcon (jl1 (fun y0 => jl0 (fun σ => rr26 F y0 σ))) jnil) 44 0 [some (jmr 100), some (jmr 115), none, none] [] σ0) rfl
set_option maxRecDepth 100000 in
set_option maxHeartbeats 4000000 in
theorem jmet_Quotient_isAlike_105_90 (F : Nat) (sh : List jxC) (hs : jHas sh jc_C) (σ0 : jxS) (x : Int) (σ' : jxS) (h : Quotient_isAlike F 105 90 σ0 = some (x, σ')) : jMC yX6_isAlike cX6_isAlike 4 (jrt 4) 2 44 sh σ0 [(jmr 105), (jmr 90)] (jrv 4 x) σ' := by
  refine jMC_of (kd := 4) (by decide) rfl h ?_
  intro X hX
  have hG : jGd X (jE_Quotient_isAlike F) jtb_Quotient_isAlike := jGd_of hX jtk_Quotient_isAlike (jcon jfl_X6_25 (jcon jfl_X6_37 jnil)) jnil jnil (jcon (jsV jlk_X6_83 ⟨rfl, rfl⟩ (jad_Quotient_nextOf F sh hs)) (jcon (jsV jlk_X6_89 ⟨rfl, rfl⟩ (jad_Quotient_lostSet F sh hs)) jnil)) hs
  have rr36 : ∀ (k26 : Int → jxS → Option jxR) (h26 : ∀ v2 σ, jRf X (k26 v2 σ) 26 [some (jmr 105), some (jmr 90), some (jmi v2), none] [] σ) (fu : Nat) (v2 v3 : Int) (σ : jxS), jRf X (Quotient_isAlike_c36 F 105 90 k26 fu v2 v3 σ) 36 [some (jmr 105), some (jmr 90), some (jmi v2), some (jmi v3)] [] σ := by
    intro k26 h26 fu
    induction fu with
    | zero => intros; exact jRf_none
    | succ fu ih =>
      intro v2 v3 σ
      exact jRf_by (jex_ok hG (cs := [(26, [some (.inr (some 105)), some (.inr (some 90)), some (.inl 0), none], [], fun xs σ => match xs with
      | [v2] => k26 v2 σ
      | _ => none), (36, [some (.inr (some 105)), some (.inr (some 90)), some (.inl 0), some (.inl 0)], [], fun xs σ => match xs with
      | [v2, v3] => (Quotient_isAlike_c36 F 105 90 k26 fu) v2 v3 σ
      | _ => none)]) (jcon (jl1 (fun y0 => jl0 (fun σ => h26 y0 σ))) (jcon (jl2 (fun y0 y1 => jl0 (fun σ => ih y0 y1 σ))) jnil)) 44 36 [some (jmr 105), some (jmr 90), some (jmi v2), some (jmi v3)] [] σ) rfl
  have rr26 : ∀ (fu : Nat) (v2 : Int) (σ : jxS), jRf X (Quotient_isAlike_c26 F 105 90 fu v2 σ) 26 [some (jmr 105), some (jmr 90), some (jmi v2), none] [] σ := by
    intro  fu
    induction fu with
    | zero => intros; exact jRf_none
    | succ fu ih =>
      intro v2 σ
      exact jRf_by (jex_ok hG (cs := [(36, [some (.inr (some 105)), some (.inr (some 90)), some (.inl 0), some (.inl 0)], [], fun xs σ => match xs with
      | [v2, v3] => Quotient_isAlike_c36 F 105 90 (Quotient_isAlike_c26 F 105 90 fu) F v2 v3 σ
      | _ => none)]) (jcon (jl2 (fun y0 y1 => jl0 (fun σ => rr36 _ ih F y0 y1 σ))) jnil) 44 26 [some (jmr 105), some (jmr 90), some (jmi v2), none] [] σ) rfl
  exact jRf_by (jex_ok hG (cs := [(26, [some (.inr (some 105)), some (.inr (some 90)), some (.inl 0), none], [], fun xs σ => match xs with
      | [v2] => Quotient_isAlike_c26 F 105 90 F v2 σ
      | _ => none)]) (jcon (jl1 (fun y0 => jl0 (fun σ => rr26 F y0 σ))) jnil) 44 0 [some (jmr 105), some (jmr 90), none, none] [] σ0) rfl
set_option maxRecDepth 100000 in
set_option maxHeartbeats 4000000 in
theorem jmet_Quotient_isAlike_105_95 (F : Nat) (sh : List jxC) (hs : jHas sh jc_C) (σ0 : jxS) (x : Int) (σ' : jxS) (h : Quotient_isAlike F 105 95 σ0 = some (x, σ')) : jMC yX6_isAlike cX6_isAlike 4 (jrt 4) 2 44 sh σ0 [(jmr 105), (jmr 95)] (jrv 4 x) σ' := by
  refine jMC_of (kd := 4) (by decide) rfl h ?_
  intro X hX
  have hG : jGd X (jE_Quotient_isAlike F) jtb_Quotient_isAlike := jGd_of hX jtk_Quotient_isAlike (jcon jfl_X6_25 (jcon jfl_X6_37 jnil)) jnil jnil (jcon (jsV jlk_X6_83 ⟨rfl, rfl⟩ (jad_Quotient_nextOf F sh hs)) (jcon (jsV jlk_X6_89 ⟨rfl, rfl⟩ (jad_Quotient_lostSet F sh hs)) jnil)) hs
  have rr36 : ∀ (k26 : Int → jxS → Option jxR) (h26 : ∀ v2 σ, jRf X (k26 v2 σ) 26 [some (jmr 105), some (jmr 95), some (jmi v2), none] [] σ) (fu : Nat) (v2 v3 : Int) (σ : jxS), jRf X (Quotient_isAlike_c36 F 105 95 k26 fu v2 v3 σ) 36 [some (jmr 105), some (jmr 95), some (jmi v2), some (jmi v3)] [] σ := by
    intro k26 h26 fu
    induction fu with
    | zero => intros; exact jRf_none
    | succ fu ih =>
      intro v2 v3 σ
      exact jRf_by (jex_ok hG (cs := [(26, [some (.inr (some 105)), some (.inr (some 95)), some (.inl 0), none], [], fun xs σ => match xs with
      | [v2] => k26 v2 σ
      | _ => none), (36, [some (.inr (some 105)), some (.inr (some 95)), some (.inl 0), some (.inl 0)], [], fun xs σ => match xs with
      | [v2, v3] => (Quotient_isAlike_c36 F 105 95 k26 fu) v2 v3 σ
      | _ => none)]) (jcon (jl1 (fun y0 => jl0 (fun σ => h26 y0 σ))) (jcon (jl2 (fun y0 y1 => jl0 (fun σ => ih y0 y1 σ))) jnil)) 44 36 [some (jmr 105), some (jmr 95), some (jmi v2), some (jmi v3)] [] σ) rfl
  have rr26 : ∀ (fu : Nat) (v2 : Int) (σ : jxS), jRf X (Quotient_isAlike_c26 F 105 95 fu v2 σ) 26 [some (jmr 105), some (jmr 95), some (jmi v2), none] [] σ := by
    intro  fu
    induction fu with
    | zero => intros; exact jRf_none
    | succ fu ih =>
      intro v2 σ
      exact jRf_by (jex_ok hG (cs := [(36, [some (.inr (some 105)), some (.inr (some 95)), some (.inl 0), some (.inl 0)], [], fun xs σ => match xs with
      | [v2, v3] => Quotient_isAlike_c36 F 105 95 (Quotient_isAlike_c26 F 105 95 fu) F v2 v3 σ
      | _ => none)]) (jcon (jl2 (fun y0 y1 => jl0 (fun σ => rr36 _ ih F y0 y1 σ))) jnil) 44 26 [some (jmr 105), some (jmr 95), some (jmi v2), none] [] σ) rfl
  exact jRf_by (jex_ok hG (cs := [(26, [some (.inr (some 105)), some (.inr (some 95)), some (.inl 0), none], [], fun xs σ => match xs with
      | [v2] => Quotient_isAlike_c26 F 105 95 F v2 σ
      | _ => none)]) (jcon (jl1 (fun y0 => jl0 (fun σ => rr26 F y0 σ))) jnil) 44 0 [some (jmr 105), some (jmr 95), none, none] [] σ0) rfl
set_option maxRecDepth 100000 in
set_option maxHeartbeats 4000000 in
theorem jmet_Quotient_isAlike_105_100 (F : Nat) (sh : List jxC) (hs : jHas sh jc_C) (σ0 : jxS) (x : Int) (σ' : jxS) (h : Quotient_isAlike F 105 100 σ0 = some (x, σ')) : jMC yX6_isAlike cX6_isAlike 4 (jrt 4) 2 44 sh σ0 [(jmr 105), (jmr 100)] (jrv 4 x) σ' := by
  refine jMC_of (kd := 4) (by decide) rfl h ?_
  intro X hX
  have hG : jGd X (jE_Quotient_isAlike F) jtb_Quotient_isAlike := jGd_of hX jtk_Quotient_isAlike (jcon jfl_X6_25 (jcon jfl_X6_37 jnil)) jnil jnil (jcon (jsV jlk_X6_83 ⟨rfl, rfl⟩ (jad_Quotient_nextOf F sh hs)) (jcon (jsV jlk_X6_89 ⟨rfl, rfl⟩ (jad_Quotient_lostSet F sh hs)) jnil)) hs
  have rr36 : ∀ (k26 : Int → jxS → Option jxR) (h26 : ∀ v2 σ, jRf X (k26 v2 σ) 26 [some (jmr 105), some (jmr 100), some (jmi v2), none] [] σ) (fu : Nat) (v2 v3 : Int) (σ : jxS), jRf X (Quotient_isAlike_c36 F 105 100 k26 fu v2 v3 σ) 36 [some (jmr 105), some (jmr 100), some (jmi v2), some (jmi v3)] [] σ := by
    intro k26 h26 fu
    induction fu with
    | zero => intros; exact jRf_none
    | succ fu ih =>
      intro v2 v3 σ
      exact jRf_by (jex_ok hG (cs := [(26, [some (.inr (some 105)), some (.inr (some 100)), some (.inl 0), none], [], fun xs σ => match xs with
      | [v2] => k26 v2 σ
      | _ => none), (36, [some (.inr (some 105)), some (.inr (some 100)), some (.inl 0), some (.inl 0)], [], fun xs σ => match xs with
      | [v2, v3] => (Quotient_isAlike_c36 F 105 100 k26 fu) v2 v3 σ
      | _ => none)]) (jcon (jl1 (fun y0 => jl0 (fun σ => h26 y0 σ))) (jcon (jl2 (fun y0 y1 => jl0 (fun σ => ih y0 y1 σ))) jnil)) 44 36 [some (jmr 105), some (jmr 100), some (jmi v2), some (jmi v3)] [] σ) rfl
  have rr26 : ∀ (fu : Nat) (v2 : Int) (σ : jxS), jRf X (Quotient_isAlike_c26 F 105 100 fu v2 σ) 26 [some (jmr 105), some (jmr 100), some (jmi v2), none] [] σ := by
    intro  fu
    induction fu with
    | zero => intros; exact jRf_none
    | succ fu ih =>
      intro v2 σ
      exact jRf_by (jex_ok hG (cs := [(36, [some (.inr (some 105)), some (.inr (some 100)), some (.inl 0), some (.inl 0)], [], fun xs σ => match xs with
      | [v2, v3] => Quotient_isAlike_c36 F 105 100 (Quotient_isAlike_c26 F 105 100 fu) F v2 v3 σ
      | _ => none)]) (jcon (jl2 (fun y0 y1 => jl0 (fun σ => rr36 _ ih F y0 y1 σ))) jnil) 44 26 [some (jmr 105), some (jmr 100), some (jmi v2), none] [] σ) rfl
  exact jRf_by (jex_ok hG (cs := [(26, [some (.inr (some 105)), some (.inr (some 100)), some (.inl 0), none], [], fun xs σ => match xs with
      | [v2] => Quotient_isAlike_c26 F 105 100 F v2 σ
      | _ => none)]) (jcon (jl1 (fun y0 => jl0 (fun σ => rr26 F y0 σ))) jnil) 44 0 [some (jmr 105), some (jmr 100), none, none] [] σ0) rfl
set_option maxRecDepth 100000 in
set_option maxHeartbeats 4000000 in
theorem jmet_Quotient_isAlike_105_105 (F : Nat) (sh : List jxC) (hs : jHas sh jc_C) (σ0 : jxS) (x : Int) (σ' : jxS) (h : Quotient_isAlike F 105 105 σ0 = some (x, σ')) : jMC yX6_isAlike cX6_isAlike 4 (jrt 4) 2 44 sh σ0 [(jmr 105), (jmr 105)] (jrv 4 x) σ' := by
  refine jMC_of (kd := 4) (by decide) rfl h ?_
  intro X hX
  have hG : jGd X (jE_Quotient_isAlike F) jtb_Quotient_isAlike := jGd_of hX jtk_Quotient_isAlike (jcon jfl_X6_25 (jcon jfl_X6_37 jnil)) jnil jnil (jcon (jsV jlk_X6_83 ⟨rfl, rfl⟩ (jad_Quotient_nextOf F sh hs)) (jcon (jsV jlk_X6_89 ⟨rfl, rfl⟩ (jad_Quotient_lostSet F sh hs)) jnil)) hs
  have rr36 : ∀ (k26 : Int → jxS → Option jxR) (h26 : ∀ v2 σ, jRf X (k26 v2 σ) 26 [some (jmr 105), some (jmr 105), some (jmi v2), none] [] σ) (fu : Nat) (v2 v3 : Int) (σ : jxS), jRf X (Quotient_isAlike_c36 F 105 105 k26 fu v2 v3 σ) 36 [some (jmr 105), some (jmr 105), some (jmi v2), some (jmi v3)] [] σ := by
    intro k26 h26 fu
    induction fu with
    | zero => intros; exact jRf_none
    | succ fu ih =>
      intro v2 v3 σ
      exact jRf_by (jex_ok hG (cs := [(26, [some (.inr (some 105)), some (.inr (some 105)), some (.inl 0), none], [], fun xs σ => match xs with
      | [v2] => k26 v2 σ
      | _ => none), (36, [some (.inr (some 105)), some (.inr (some 105)), some (.inl 0), some (.inl 0)], [], fun xs σ => match xs with
      | [v2, v3] => (Quotient_isAlike_c36 F 105 105 k26 fu) v2 v3 σ
      | _ => none)]) (jcon (jl1 (fun y0 => jl0 (fun σ => h26 y0 σ))) (jcon (jl2 (fun y0 y1 => jl0 (fun σ => ih y0 y1 σ))) jnil)) 44 36 [some (jmr 105), some (jmr 105), some (jmi v2), some (jmi v3)] [] σ) rfl
  have rr26 : ∀ (fu : Nat) (v2 : Int) (σ : jxS), jRf X (Quotient_isAlike_c26 F 105 105 fu v2 σ) 26 [some (jmr 105), some (jmr 105), some (jmi v2), none] [] σ := by
    intro  fu
    induction fu with
    | zero => intros; exact jRf_none
    | succ fu ih =>
      intro v2 σ
      exact jRf_by (jex_ok hG (cs := [(36, [some (.inr (some 105)), some (.inr (some 105)), some (.inl 0), some (.inl 0)], [], fun xs σ => match xs with
      | [v2, v3] => Quotient_isAlike_c36 F 105 105 (Quotient_isAlike_c26 F 105 105 fu) F v2 v3 σ
      | _ => none)]) (jcon (jl2 (fun y0 y1 => jl0 (fun σ => rr36 _ ih F y0 y1 σ))) jnil) 44 26 [some (jmr 105), some (jmr 105), some (jmi v2), none] [] σ) rfl
  exact jRf_by (jex_ok hG (cs := [(26, [some (.inr (some 105)), some (.inr (some 105)), some (.inl 0), none], [], fun xs σ => match xs with
      | [v2] => Quotient_isAlike_c26 F 105 105 F v2 σ
      | _ => none)]) (jcon (jl1 (fun y0 => jl0 (fun σ => rr26 F y0 σ))) jnil) 44 0 [some (jmr 105), some (jmr 105), none, none] [] σ0) rfl
set_option maxRecDepth 100000 in
set_option maxHeartbeats 4000000 in
theorem jmet_Quotient_isAlike_105_110 (F : Nat) (sh : List jxC) (hs : jHas sh jc_C) (σ0 : jxS) (x : Int) (σ' : jxS) (h : Quotient_isAlike F 105 110 σ0 = some (x, σ')) : jMC yX6_isAlike cX6_isAlike 4 (jrt 4) 2 44 sh σ0 [(jmr 105), (jmr 110)] (jrv 4 x) σ' := by
  refine jMC_of (kd := 4) (by decide) rfl h ?_
  intro X hX
  have hG : jGd X (jE_Quotient_isAlike F) jtb_Quotient_isAlike := jGd_of hX jtk_Quotient_isAlike (jcon jfl_X6_25 (jcon jfl_X6_37 jnil)) jnil jnil (jcon (jsV jlk_X6_83 ⟨rfl, rfl⟩ (jad_Quotient_nextOf F sh hs)) (jcon (jsV jlk_X6_89 ⟨rfl, rfl⟩ (jad_Quotient_lostSet F sh hs)) jnil)) hs
  have rr36 : ∀ (k26 : Int → jxS → Option jxR) (h26 : ∀ v2 σ, jRf X (k26 v2 σ) 26 [some (jmr 105), some (jmr 110), some (jmi v2), none] [] σ) (fu : Nat) (v2 v3 : Int) (σ : jxS), jRf X (Quotient_isAlike_c36 F 105 110 k26 fu v2 v3 σ) 36 [some (jmr 105), some (jmr 110), some (jmi v2), some (jmi v3)] [] σ := by
    intro k26 h26 fu
    induction fu with
    | zero => intros; exact jRf_none
    | succ fu ih =>
      intro v2 v3 σ
      exact jRf_by (jex_ok hG (cs := [(26, [some (.inr (some 105)), some (.inr (some 110)), some (.inl 0), none], [], fun xs σ => match xs with
      | [v2] => k26 v2 σ
      | _ => none), (36, [some (.inr (some 105)), some (.inr (some 110)), some (.inl 0), some (.inl 0)], [], fun xs σ => match xs with
      | [v2, v3] => (Quotient_isAlike_c36 F 105 110 k26 fu) v2 v3 σ
      | _ => none)]) (jcon (jl1 (fun y0 => jl0 (fun σ => h26 y0 σ))) (jcon (jl2 (fun y0 y1 => jl0 (fun σ => ih y0 y1 σ))) jnil)) 44 36 [some (jmr 105), some (jmr 110), some (jmi v2), some (jmi v3)] [] σ) rfl
  have rr26 : ∀ (fu : Nat) (v2 : Int) (σ : jxS), jRf X (Quotient_isAlike_c26 F 105 110 fu v2 σ) 26 [some (jmr 105), some (jmr 110), some (jmi v2), none] [] σ := by
    intro  fu
    induction fu with
    | zero => intros; exact jRf_none
    | succ fu ih =>
      intro v2 σ
      exact jRf_by (jex_ok hG (cs := [(36, [some (.inr (some 105)), some (.inr (some 110)), some (.inl 0), some (.inl 0)], [], fun xs σ => match xs with
      | [v2, v3] => Quotient_isAlike_c36 F 105 110 (Quotient_isAlike_c26 F 105 110 fu) F v2 v3 σ
      | _ => none)]) (jcon (jl2 (fun y0 y1 => jl0 (fun σ => rr36 _ ih F y0 y1 σ))) jnil) 44 26 [some (jmr 105), some (jmr 110), some (jmi v2), none] [] σ) rfl
  exact jRf_by (jex_ok hG (cs := [(26, [some (.inr (some 105)), some (.inr (some 110)), some (.inl 0), none], [], fun xs σ => match xs with
      | [v2] => Quotient_isAlike_c26 F 105 110 F v2 σ
      | _ => none)]) (jcon (jl1 (fun y0 => jl0 (fun σ => rr26 F y0 σ))) jnil) 44 0 [some (jmr 105), some (jmr 110), none, none] [] σ0) rfl
set_option maxRecDepth 100000 in
set_option maxHeartbeats 4000000 in
theorem jmet_Quotient_isAlike_105_115 (F : Nat) (sh : List jxC) (hs : jHas sh jc_C) (σ0 : jxS) (x : Int) (σ' : jxS) (h : Quotient_isAlike F 105 115 σ0 = some (x, σ')) : jMC yX6_isAlike cX6_isAlike 4 (jrt 4) 2 44 sh σ0 [(jmr 105), (jmr 115)] (jrv 4 x) σ' := by
  refine jMC_of (kd := 4) (by decide) rfl h ?_
  intro X hX
  have hG : jGd X (jE_Quotient_isAlike F) jtb_Quotient_isAlike := jGd_of hX jtk_Quotient_isAlike (jcon jfl_X6_25 (jcon jfl_X6_37 jnil)) jnil jnil (jcon (jsV jlk_X6_83 ⟨rfl, rfl⟩ (jad_Quotient_nextOf F sh hs)) (jcon (jsV jlk_X6_89 ⟨rfl, rfl⟩ (jad_Quotient_lostSet F sh hs)) jnil)) hs
  have rr36 : ∀ (k26 : Int → jxS → Option jxR) (h26 : ∀ v2 σ, jRf X (k26 v2 σ) 26 [some (jmr 105), some (jmr 115), some (jmi v2), none] [] σ) (fu : Nat) (v2 v3 : Int) (σ : jxS), jRf X (Quotient_isAlike_c36 F 105 115 k26 fu v2 v3 σ) 36 [some (jmr 105), some (jmr 115), some (jmi v2), some (jmi v3)] [] σ := by
    intro k26 h26 fu
    induction fu with
    | zero => intros; exact jRf_none
    | succ fu ih =>
      intro v2 v3 σ
      exact jRf_by (jex_ok hG (cs := [(26, [some (.inr (some 105)), some (.inr (some 115)), some (.inl 0), none], [], fun xs σ => match xs with
      | [v2] => k26 v2 σ
      | _ => none), (36, [some (.inr (some 105)), some (.inr (some 115)), some (.inl 0), some (.inl 0)], [], fun xs σ => match xs with
      | [v2, v3] => (Quotient_isAlike_c36 F 105 115 k26 fu) v2 v3 σ
      | _ => none)]) (jcon (jl1 (fun y0 => jl0 (fun σ => h26 y0 σ))) (jcon (jl2 (fun y0 y1 => jl0 (fun σ => ih y0 y1 σ))) jnil)) 44 36 [some (jmr 105), some (jmr 115), some (jmi v2), some (jmi v3)] [] σ) rfl
  have rr26 : ∀ (fu : Nat) (v2 : Int) (σ : jxS), jRf X (Quotient_isAlike_c26 F 105 115 fu v2 σ) 26 [some (jmr 105), some (jmr 115), some (jmi v2), none] [] σ := by
    intro  fu
    induction fu with
    | zero => intros; exact jRf_none
    | succ fu ih =>
      intro v2 σ
      exact jRf_by (jex_ok hG (cs := [(36, [some (.inr (some 105)), some (.inr (some 115)), some (.inl 0), some (.inl 0)], [], fun xs σ => match xs with
      | [v2, v3] => Quotient_isAlike_c36 F 105 115 (Quotient_isAlike_c26 F 105 115 fu) F v2 v3 σ
      | _ => none)]) (jcon (jl2 (fun y0 y1 => jl0 (fun σ => rr36 _ ih F y0 y1 σ))) jnil) 44 26 [some (jmr 105), some (jmr 115), some (jmi v2), none] [] σ) rfl
  exact jRf_by (jex_ok hG (cs := [(26, [some (.inr (some 105)), some (.inr (some 115)), some (.inl 0), none], [], fun xs σ => match xs with
      | [v2] => Quotient_isAlike_c26 F 105 115 F v2 σ
      | _ => none)]) (jcon (jl1 (fun y0 => jl0 (fun σ => rr26 F y0 σ))) jnil) 44 0 [some (jmr 105), some (jmr 115), none, none] [] σ0) rfl
set_option maxRecDepth 100000 in
set_option maxHeartbeats 4000000 in
theorem jmet_Quotient_isAlike_110_90 (F : Nat) (sh : List jxC) (hs : jHas sh jc_C) (σ0 : jxS) (x : Int) (σ' : jxS) (h : Quotient_isAlike F 110 90 σ0 = some (x, σ')) : jMC yX6_isAlike cX6_isAlike 4 (jrt 4) 2 44 sh σ0 [(jmr 110), (jmr 90)] (jrv 4 x) σ' := by
  refine jMC_of (kd := 4) (by decide) rfl h ?_
  intro X hX
  have hG : jGd X (jE_Quotient_isAlike F) jtb_Quotient_isAlike := jGd_of hX jtk_Quotient_isAlike (jcon jfl_X6_25 (jcon jfl_X6_37 jnil)) jnil jnil (jcon (jsV jlk_X6_83 ⟨rfl, rfl⟩ (jad_Quotient_nextOf F sh hs)) (jcon (jsV jlk_X6_89 ⟨rfl, rfl⟩ (jad_Quotient_lostSet F sh hs)) jnil)) hs
  have rr36 : ∀ (k26 : Int → jxS → Option jxR) (h26 : ∀ v2 σ, jRf X (k26 v2 σ) 26 [some (jmr 110), some (jmr 90), some (jmi v2), none] [] σ) (fu : Nat) (v2 v3 : Int) (σ : jxS), jRf X (Quotient_isAlike_c36 F 110 90 k26 fu v2 v3 σ) 36 [some (jmr 110), some (jmr 90), some (jmi v2), some (jmi v3)] [] σ := by
    intro k26 h26 fu
    induction fu with
    | zero => intros; exact jRf_none
    | succ fu ih =>
      intro v2 v3 σ
      exact jRf_by (jex_ok hG (cs := [(26, [some (.inr (some 110)), some (.inr (some 90)), some (.inl 0), none], [], fun xs σ => match xs with
      | [v2] => k26 v2 σ
      | _ => none), (36, [some (.inr (some 110)), some (.inr (some 90)), some (.inl 0), some (.inl 0)], [], fun xs σ => match xs with
      | [v2, v3] => (Quotient_isAlike_c36 F 110 90 k26 fu) v2 v3 σ
      | _ => none)]) (jcon (jl1 (fun y0 => jl0 (fun σ => h26 y0 σ))) (jcon (jl2 (fun y0 y1 => jl0 (fun σ => ih y0 y1 σ))) jnil)) 44 36 [some (jmr 110), some (jmr 90), some (jmi v2), some (jmi v3)] [] σ) rfl
  have rr26 : ∀ (fu : Nat) (v2 : Int) (σ : jxS), jRf X (Quotient_isAlike_c26 F 110 90 fu v2 σ) 26 [some (jmr 110), some (jmr 90), some (jmi v2), none] [] σ := by
    intro  fu
    induction fu with
    | zero => intros; exact jRf_none
    | succ fu ih =>
      intro v2 σ
      exact jRf_by (jex_ok hG (cs := [(36, [some (.inr (some 110)), some (.inr (some 90)), some (.inl 0), some (.inl 0)], [], fun xs σ => match xs with
      | [v2, v3] => Quotient_isAlike_c36 F 110 90 (Quotient_isAlike_c26 F 110 90 fu) F v2 v3 σ
      | _ => none)]) (jcon (jl2 (fun y0 y1 => jl0 (fun σ => rr36 _ ih F y0 y1 σ))) jnil) 44 26 [some (jmr 110), some (jmr 90), some (jmi v2), none] [] σ) rfl
  exact jRf_by (jex_ok hG (cs := [(26, [some (.inr (some 110)), some (.inr (some 90)), some (.inl 0), none], [], fun xs σ => match xs with
      | [v2] => Quotient_isAlike_c26 F 110 90 F v2 σ
      | _ => none)]) (jcon (jl1 (fun y0 => jl0 (fun σ => rr26 F y0 σ))) jnil) 44 0 [some (jmr 110), some (jmr 90), none, none] [] σ0) rfl
set_option maxRecDepth 100000 in
set_option maxHeartbeats 4000000 in
theorem jmet_Quotient_isAlike_110_95 (F : Nat) (sh : List jxC) (hs : jHas sh jc_C) (σ0 : jxS) (x : Int) (σ' : jxS) (h : Quotient_isAlike F 110 95 σ0 = some (x, σ')) : jMC yX6_isAlike cX6_isAlike 4 (jrt 4) 2 44 sh σ0 [(jmr 110), (jmr 95)] (jrv 4 x) σ' := by
  refine jMC_of (kd := 4) (by decide) rfl h ?_
  intro X hX
  have hG : jGd X (jE_Quotient_isAlike F) jtb_Quotient_isAlike := jGd_of hX jtk_Quotient_isAlike (jcon jfl_X6_25 (jcon jfl_X6_37 jnil)) jnil jnil (jcon (jsV jlk_X6_83 ⟨rfl, rfl⟩ (jad_Quotient_nextOf F sh hs)) (jcon (jsV jlk_X6_89 ⟨rfl, rfl⟩ (jad_Quotient_lostSet F sh hs)) jnil)) hs
  have rr36 : ∀ (k26 : Int → jxS → Option jxR) (h26 : ∀ v2 σ, jRf X (k26 v2 σ) 26 [some (jmr 110), some (jmr 95), some (jmi v2), none] [] σ) (fu : Nat) (v2 v3 : Int) (σ : jxS), jRf X (Quotient_isAlike_c36 F 110 95 k26 fu v2 v3 σ) 36 [some (jmr 110), some (jmr 95), some (jmi v2), some (jmi v3)] [] σ := by
    intro k26 h26 fu
    induction fu with
    | zero => intros; exact jRf_none
    | succ fu ih =>
      intro v2 v3 σ
      exact jRf_by (jex_ok hG (cs := [(26, [some (.inr (some 110)), some (.inr (some 95)), some (.inl 0), none], [], fun xs σ => match xs with
      | [v2] => k26 v2 σ
      | _ => none), (36, [some (.inr (some 110)), some (.inr (some 95)), some (.inl 0), some (.inl 0)], [], fun xs σ => match xs with
      | [v2, v3] => (Quotient_isAlike_c36 F 110 95 k26 fu) v2 v3 σ
      | _ => none)]) (jcon (jl1 (fun y0 => jl0 (fun σ => h26 y0 σ))) (jcon (jl2 (fun y0 y1 => jl0 (fun σ => ih y0 y1 σ))) jnil)) 44 36 [some (jmr 110), some (jmr 95), some (jmi v2), some (jmi v3)] [] σ) rfl
  have rr26 : ∀ (fu : Nat) (v2 : Int) (σ : jxS), jRf X (Quotient_isAlike_c26 F 110 95 fu v2 σ) 26 [some (jmr 110), some (jmr 95), some (jmi v2), none] [] σ := by
    intro  fu
    induction fu with
    | zero => intros; exact jRf_none
    | succ fu ih =>
      intro v2 σ
      exact jRf_by (jex_ok hG (cs := [(36, [some (.inr (some 110)), some (.inr (some 95)), some (.inl 0), some (.inl 0)], [], fun xs σ => match xs with
      | [v2, v3] => Quotient_isAlike_c36 F 110 95 (Quotient_isAlike_c26 F 110 95 fu) F v2 v3 σ
      | _ => none)]) (jcon (jl2 (fun y0 y1 => jl0 (fun σ => rr36 _ ih F y0 y1 σ))) jnil) 44 26 [some (jmr 110), some (jmr 95), some (jmi v2), none] [] σ) rfl
  exact jRf_by (jex_ok hG (cs := [(26, [some (.inr (some 110)), some (.inr (some 95)), some (.inl 0), none], [], fun xs σ => match xs with
      | [v2] => Quotient_isAlike_c26 F 110 95 F v2 σ
      | _ => none)]) (jcon (jl1 (fun y0 => jl0 (fun σ => rr26 F y0 σ))) jnil) 44 0 [some (jmr 110), some (jmr 95), none, none] [] σ0) rfl
set_option maxRecDepth 100000 in
set_option maxHeartbeats 4000000 in
theorem jmet_Quotient_isAlike_110_100 (F : Nat) (sh : List jxC) (hs : jHas sh jc_C) (σ0 : jxS) (x : Int) (σ' : jxS) (h : Quotient_isAlike F 110 100 σ0 = some (x, σ')) : jMC yX6_isAlike cX6_isAlike 4 (jrt 4) 2 44 sh σ0 [(jmr 110), (jmr 100)] (jrv 4 x) σ' := by
  refine jMC_of (kd := 4) (by decide) rfl h ?_
  intro X hX
  have hG : jGd X (jE_Quotient_isAlike F) jtb_Quotient_isAlike := jGd_of hX jtk_Quotient_isAlike (jcon jfl_X6_25 (jcon jfl_X6_37 jnil)) jnil jnil (jcon (jsV jlk_X6_83 ⟨rfl, rfl⟩ (jad_Quotient_nextOf F sh hs)) (jcon (jsV jlk_X6_89 ⟨rfl, rfl⟩ (jad_Quotient_lostSet F sh hs)) jnil)) hs
  have rr36 : ∀ (k26 : Int → jxS → Option jxR) (h26 : ∀ v2 σ, jRf X (k26 v2 σ) 26 [some (jmr 110), some (jmr 100), some (jmi v2), none] [] σ) (fu : Nat) (v2 v3 : Int) (σ : jxS), jRf X (Quotient_isAlike_c36 F 110 100 k26 fu v2 v3 σ) 36 [some (jmr 110), some (jmr 100), some (jmi v2), some (jmi v3)] [] σ := by
    intro k26 h26 fu
    induction fu with
    | zero => intros; exact jRf_none
    | succ fu ih =>
      intro v2 v3 σ
      exact jRf_by (jex_ok hG (cs := [(26, [some (.inr (some 110)), some (.inr (some 100)), some (.inl 0), none], [], fun xs σ => match xs with
      | [v2] => k26 v2 σ
      | _ => none), (36, [some (.inr (some 110)), some (.inr (some 100)), some (.inl 0), some (.inl 0)], [], fun xs σ => match xs with
      | [v2, v3] => (Quotient_isAlike_c36 F 110 100 k26 fu) v2 v3 σ
      | _ => none)]) (jcon (jl1 (fun y0 => jl0 (fun σ => h26 y0 σ))) (jcon (jl2 (fun y0 y1 => jl0 (fun σ => ih y0 y1 σ))) jnil)) 44 36 [some (jmr 110), some (jmr 100), some (jmi v2), some (jmi v3)] [] σ) rfl
  have rr26 : ∀ (fu : Nat) (v2 : Int) (σ : jxS), jRf X (Quotient_isAlike_c26 F 110 100 fu v2 σ) 26 [some (jmr 110), some (jmr 100), some (jmi v2), none] [] σ := by
    intro  fu
    induction fu with
    | zero => intros; exact jRf_none
    | succ fu ih =>
      intro v2 σ
      exact jRf_by (jex_ok hG (cs := [(36, [some (.inr (some 110)), some (.inr (some 100)), some (.inl 0), some (.inl 0)], [], fun xs σ => match xs with
      | [v2, v3] => Quotient_isAlike_c36 F 110 100 (Quotient_isAlike_c26 F 110 100 fu) F v2 v3 σ
      | _ => none)]) (jcon (jl2 (fun y0 y1 => jl0 (fun σ => rr36 _ ih F y0 y1 σ))) jnil) 44 26 [some (jmr 110), some (jmr 100), some (jmi v2), none] [] σ) rfl
  exact jRf_by (jex_ok hG (cs := [(26, [some (.inr (some 110)), some (.inr (some 100)), some (.inl 0), none], [], fun xs σ => match xs with
      | [v2] => Quotient_isAlike_c26 F 110 100 F v2 σ
      | _ => none)]) (jcon (jl1 (fun y0 => jl0 (fun σ => rr26 F y0 σ))) jnil) 44 0 [some (jmr 110), some (jmr 100), none, none] [] σ0) rfl
set_option maxRecDepth 100000 in
set_option maxHeartbeats 4000000 in
theorem jmet_Quotient_isAlike_110_105 (F : Nat) (sh : List jxC) (hs : jHas sh jc_C) (σ0 : jxS) (x : Int) (σ' : jxS) (h : Quotient_isAlike F 110 105 σ0 = some (x, σ')) : jMC yX6_isAlike cX6_isAlike 4 (jrt 4) 2 44 sh σ0 [(jmr 110), (jmr 105)] (jrv 4 x) σ' := by
  refine jMC_of (kd := 4) (by decide) rfl h ?_
  intro X hX
  have hG : jGd X (jE_Quotient_isAlike F) jtb_Quotient_isAlike := jGd_of hX jtk_Quotient_isAlike (jcon jfl_X6_25 (jcon jfl_X6_37 jnil)) jnil jnil (jcon (jsV jlk_X6_83 ⟨rfl, rfl⟩ (jad_Quotient_nextOf F sh hs)) (jcon (jsV jlk_X6_89 ⟨rfl, rfl⟩ (jad_Quotient_lostSet F sh hs)) jnil)) hs
  have rr36 : ∀ (k26 : Int → jxS → Option jxR) (h26 : ∀ v2 σ, jRf X (k26 v2 σ) 26 [some (jmr 110), some (jmr 105), some (jmi v2), none] [] σ) (fu : Nat) (v2 v3 : Int) (σ : jxS), jRf X (Quotient_isAlike_c36 F 110 105 k26 fu v2 v3 σ) 36 [some (jmr 110), some (jmr 105), some (jmi v2), some (jmi v3)] [] σ := by
    intro k26 h26 fu
    induction fu with
    | zero => intros; exact jRf_none
    | succ fu ih =>
      intro v2 v3 σ
      exact jRf_by (jex_ok hG (cs := [(26, [some (.inr (some 110)), some (.inr (some 105)), some (.inl 0), none], [], fun xs σ => match xs with
      | [v2] => k26 v2 σ
      | _ => none), (36, [some (.inr (some 110)), some (.inr (some 105)), some (.inl 0), some (.inl 0)], [], fun xs σ => match xs with
      | [v2, v3] => (Quotient_isAlike_c36 F 110 105 k26 fu) v2 v3 σ
      | _ => none)]) (jcon (jl1 (fun y0 => jl0 (fun σ => h26 y0 σ))) (jcon (jl2 (fun y0 y1 => jl0 (fun σ => ih y0 y1 σ))) jnil)) 44 36 [some (jmr 110), some (jmr 105), some (jmi v2), some (jmi v3)] [] σ) rfl
  have rr26 : ∀ (fu : Nat) (v2 : Int) (σ : jxS), jRf X (Quotient_isAlike_c26 F 110 105 fu v2 σ) 26 [some (jmr 110), some (jmr 105), some (jmi v2), none] [] σ := by
    intro  fu
    induction fu with
    | zero => intros; exact jRf_none
    | succ fu ih =>
      intro v2 σ
      exact jRf_by (jex_ok hG (cs := [(36, [some (.inr (some 110)), some (.inr (some 105)), some (.inl 0), some (.inl 0)], [], fun xs σ => match xs with
      | [v2, v3] => Quotient_isAlike_c36 F 110 105 (Quotient_isAlike_c26 F 110 105 fu) F v2 v3 σ
      | _ => none)]) (jcon (jl2 (fun y0 y1 => jl0 (fun σ => rr36 _ ih F y0 y1 σ))) jnil) 44 26 [some (jmr 110), some (jmr 105), some (jmi v2), none] [] σ) rfl
  exact jRf_by (jex_ok hG (cs := [(26, [some (.inr (some 110)), some (.inr (some 105)), some (.inl 0), none], [], fun xs σ => match xs with
      | [v2] => Quotient_isAlike_c26 F 110 105 F v2 σ
      | _ => none)]) (jcon (jl1 (fun y0 => jl0 (fun σ => rr26 F y0 σ))) jnil) 44 0 [some (jmr 110), some (jmr 105), none, none] [] σ0) rfl
set_option maxRecDepth 100000 in
set_option maxHeartbeats 4000000 in
theorem jmet_Quotient_isAlike_110_110 (F : Nat) (sh : List jxC) (hs : jHas sh jc_C) (σ0 : jxS) (x : Int) (σ' : jxS) (h : Quotient_isAlike F 110 110 σ0 = some (x, σ')) : jMC yX6_isAlike cX6_isAlike 4 (jrt 4) 2 44 sh σ0 [(jmr 110), (jmr 110)] (jrv 4 x) σ' := by
  refine jMC_of (kd := 4) (by decide) rfl h ?_
  intro X hX
  have hG : jGd X (jE_Quotient_isAlike F) jtb_Quotient_isAlike := jGd_of hX jtk_Quotient_isAlike (jcon jfl_X6_25 (jcon jfl_X6_37 jnil)) jnil jnil (jcon (jsV jlk_X6_83 ⟨rfl, rfl⟩ (jad_Quotient_nextOf F sh hs)) (jcon (jsV jlk_X6_89 ⟨rfl, rfl⟩ (jad_Quotient_lostSet F sh hs)) jnil)) hs
  have rr36 : ∀ (k26 : Int → jxS → Option jxR) (h26 : ∀ v2 σ, jRf X (k26 v2 σ) 26 [some (jmr 110), some (jmr 110), some (jmi v2), none] [] σ) (fu : Nat) (v2 v3 : Int) (σ : jxS), jRf X (Quotient_isAlike_c36 F 110 110 k26 fu v2 v3 σ) 36 [some (jmr 110), some (jmr 110), some (jmi v2), some (jmi v3)] [] σ := by
    intro k26 h26 fu
    induction fu with
    | zero => intros; exact jRf_none
    | succ fu ih =>
      intro v2 v3 σ
      exact jRf_by (jex_ok hG (cs := [(26, [some (.inr (some 110)), some (.inr (some 110)), some (.inl 0), none], [], fun xs σ => match xs with
      | [v2] => k26 v2 σ
      | _ => none), (36, [some (.inr (some 110)), some (.inr (some 110)), some (.inl 0), some (.inl 0)], [], fun xs σ => match xs with
      | [v2, v3] => (Quotient_isAlike_c36 F 110 110 k26 fu) v2 v3 σ
      | _ => none)]) (jcon (jl1 (fun y0 => jl0 (fun σ => h26 y0 σ))) (jcon (jl2 (fun y0 y1 => jl0 (fun σ => ih y0 y1 σ))) jnil)) 44 36 [some (jmr 110), some (jmr 110), some (jmi v2), some (jmi v3)] [] σ) rfl
  have rr26 : ∀ (fu : Nat) (v2 : Int) (σ : jxS), jRf X (Quotient_isAlike_c26 F 110 110 fu v2 σ) 26 [some (jmr 110), some (jmr 110), some (jmi v2), none] [] σ := by
    intro  fu
    induction fu with
    | zero => intros; exact jRf_none
    | succ fu ih =>
      intro v2 σ
      exact jRf_by (jex_ok hG (cs := [(36, [some (.inr (some 110)), some (.inr (some 110)), some (.inl 0), some (.inl 0)], [], fun xs σ => match xs with
      | [v2, v3] => Quotient_isAlike_c36 F 110 110 (Quotient_isAlike_c26 F 110 110 fu) F v2 v3 σ
      | _ => none)]) (jcon (jl2 (fun y0 y1 => jl0 (fun σ => rr36 _ ih F y0 y1 σ))) jnil) 44 26 [some (jmr 110), some (jmr 110), some (jmi v2), none] [] σ) rfl
  exact jRf_by (jex_ok hG (cs := [(26, [some (.inr (some 110)), some (.inr (some 110)), some (.inl 0), none], [], fun xs σ => match xs with
      | [v2] => Quotient_isAlike_c26 F 110 110 F v2 σ
      | _ => none)]) (jcon (jl1 (fun y0 => jl0 (fun σ => rr26 F y0 σ))) jnil) 44 0 [some (jmr 110), some (jmr 110), none, none] [] σ0) rfl
set_option maxRecDepth 100000 in
set_option maxHeartbeats 4000000 in
theorem jmet_Quotient_isAlike_110_115 (F : Nat) (sh : List jxC) (hs : jHas sh jc_C) (σ0 : jxS) (x : Int) (σ' : jxS) (h : Quotient_isAlike F 110 115 σ0 = some (x, σ')) : jMC yX6_isAlike cX6_isAlike 4 (jrt 4) 2 44 sh σ0 [(jmr 110), (jmr 115)] (jrv 4 x) σ' := by
  refine jMC_of (kd := 4) (by decide) rfl h ?_
  intro X hX
  have hG : jGd X (jE_Quotient_isAlike F) jtb_Quotient_isAlike := jGd_of hX jtk_Quotient_isAlike (jcon jfl_X6_25 (jcon jfl_X6_37 jnil)) jnil jnil (jcon (jsV jlk_X6_83 ⟨rfl, rfl⟩ (jad_Quotient_nextOf F sh hs)) (jcon (jsV jlk_X6_89 ⟨rfl, rfl⟩ (jad_Quotient_lostSet F sh hs)) jnil)) hs
  have rr36 : ∀ (k26 : Int → jxS → Option jxR) (h26 : ∀ v2 σ, jRf X (k26 v2 σ) 26 [some (jmr 110), some (jmr 115), some (jmi v2), none] [] σ) (fu : Nat) (v2 v3 : Int) (σ : jxS), jRf X (Quotient_isAlike_c36 F 110 115 k26 fu v2 v3 σ) 36 [some (jmr 110), some (jmr 115), some (jmi v2), some (jmi v3)] [] σ := by
    intro k26 h26 fu
    induction fu with
    | zero => intros; exact jRf_none
    | succ fu ih =>
      intro v2 v3 σ
      exact jRf_by (jex_ok hG (cs := [(26, [some (.inr (some 110)), some (.inr (some 115)), some (.inl 0), none], [], fun xs σ => match xs with
      | [v2] => k26 v2 σ
      | _ => none), (36, [some (.inr (some 110)), some (.inr (some 115)), some (.inl 0), some (.inl 0)], [], fun xs σ => match xs with
      | [v2, v3] => (Quotient_isAlike_c36 F 110 115 k26 fu) v2 v3 σ
      | _ => none)]) (jcon (jl1 (fun y0 => jl0 (fun σ => h26 y0 σ))) (jcon (jl2 (fun y0 y1 => jl0 (fun σ => ih y0 y1 σ))) jnil)) 44 36 [some (jmr 110), some (jmr 115), some (jmi v2), some (jmi v3)] [] σ) rfl
  have rr26 : ∀ (fu : Nat) (v2 : Int) (σ : jxS), jRf X (Quotient_isAlike_c26 F 110 115 fu v2 σ) 26 [some (jmr 110), some (jmr 115), some (jmi v2), none] [] σ := by
    intro  fu
    induction fu with
    | zero => intros; exact jRf_none
    | succ fu ih =>
      intro v2 σ
      exact jRf_by (jex_ok hG (cs := [(36, [some (.inr (some 110)), some (.inr (some 115)), some (.inl 0), some (.inl 0)], [], fun xs σ => match xs with
      | [v2, v3] => Quotient_isAlike_c36 F 110 115 (Quotient_isAlike_c26 F 110 115 fu) F v2 v3 σ
      | _ => none)]) (jcon (jl2 (fun y0 y1 => jl0 (fun σ => rr36 _ ih F y0 y1 σ))) jnil) 44 26 [some (jmr 110), some (jmr 115), some (jmi v2), none] [] σ) rfl
  exact jRf_by (jex_ok hG (cs := [(26, [some (.inr (some 110)), some (.inr (some 115)), some (.inl 0), none], [], fun xs σ => match xs with
      | [v2] => Quotient_isAlike_c26 F 110 115 F v2 σ
      | _ => none)]) (jcon (jl1 (fun y0 => jl0 (fun σ => rr26 F y0 σ))) jnil) 44 0 [some (jmr 110), some (jmr 115), none, none] [] σ0) rfl
set_option maxRecDepth 100000 in
set_option maxHeartbeats 4000000 in
theorem jmet_Quotient_isAlike_115_90 (F : Nat) (sh : List jxC) (hs : jHas sh jc_C) (σ0 : jxS) (x : Int) (σ' : jxS) (h : Quotient_isAlike F 115 90 σ0 = some (x, σ')) : jMC yX6_isAlike cX6_isAlike 4 (jrt 4) 2 44 sh σ0 [(jmr 115), (jmr 90)] (jrv 4 x) σ' := by
  refine jMC_of (kd := 4) (by decide) rfl h ?_
  intro X hX
  have hG : jGd X (jE_Quotient_isAlike F) jtb_Quotient_isAlike := jGd_of hX jtk_Quotient_isAlike (jcon jfl_X6_25 (jcon jfl_X6_37 jnil)) jnil jnil (jcon (jsV jlk_X6_83 ⟨rfl, rfl⟩ (jad_Quotient_nextOf F sh hs)) (jcon (jsV jlk_X6_89 ⟨rfl, rfl⟩ (jad_Quotient_lostSet F sh hs)) jnil)) hs
  have rr36 : ∀ (k26 : Int → jxS → Option jxR) (h26 : ∀ v2 σ, jRf X (k26 v2 σ) 26 [some (jmr 115), some (jmr 90), some (jmi v2), none] [] σ) (fu : Nat) (v2 v3 : Int) (σ : jxS), jRf X (Quotient_isAlike_c36 F 115 90 k26 fu v2 v3 σ) 36 [some (jmr 115), some (jmr 90), some (jmi v2), some (jmi v3)] [] σ := by
    intro k26 h26 fu
    induction fu with
    | zero => intros; exact jRf_none
    | succ fu ih =>
      intro v2 v3 σ
      exact jRf_by (jex_ok hG (cs := [(26, [some (.inr (some 115)), some (.inr (some 90)), some (.inl 0), none], [], fun xs σ => match xs with
      | [v2] => k26 v2 σ
      | _ => none), (36, [some (.inr (some 115)), some (.inr (some 90)), some (.inl 0), some (.inl 0)], [], fun xs σ => match xs with
      | [v2, v3] => (Quotient_isAlike_c36 F 115 90 k26 fu) v2 v3 σ
      | _ => none)]) (jcon (jl1 (fun y0 => jl0 (fun σ => h26 y0 σ))) (jcon (jl2 (fun y0 y1 => jl0 (fun σ => ih y0 y1 σ))) jnil)) 44 36 [some (jmr 115), some (jmr 90), some (jmi v2), some (jmi v3)] [] σ) rfl
  have rr26 : ∀ (fu : Nat) (v2 : Int) (σ : jxS), jRf X (Quotient_isAlike_c26 F 115 90 fu v2 σ) 26 [some (jmr 115), some (jmr 90), some (jmi v2), none] [] σ := by
    intro  fu
    induction fu with
    | zero => intros; exact jRf_none
    | succ fu ih =>
      intro v2 σ
      exact jRf_by (jex_ok hG (cs := [(36, [some (.inr (some 115)), some (.inr (some 90)), some (.inl 0), some (.inl 0)], [], fun xs σ => match xs with
      | [v2, v3] => Quotient_isAlike_c36 F 115 90 (Quotient_isAlike_c26 F 115 90 fu) F v2 v3 σ
      | _ => none)]) (jcon (jl2 (fun y0 y1 => jl0 (fun σ => rr36 _ ih F y0 y1 σ))) jnil) 44 26 [some (jmr 115), some (jmr 90), some (jmi v2), none] [] σ) rfl
  exact jRf_by (jex_ok hG (cs := [(26, [some (.inr (some 115)), some (.inr (some 90)), some (.inl 0), none], [], fun xs σ => match xs with
      | [v2] => Quotient_isAlike_c26 F 115 90 F v2 σ
      | _ => none)]) (jcon (jl1 (fun y0 => jl0 (fun σ => rr26 F y0 σ))) jnil) 44 0 [some (jmr 115), some (jmr 90), none, none] [] σ0) rfl
set_option maxRecDepth 100000 in
set_option maxHeartbeats 4000000 in
theorem jmet_Quotient_isAlike_115_95 (F : Nat) (sh : List jxC) (hs : jHas sh jc_C) (σ0 : jxS) (x : Int) (σ' : jxS) (h : Quotient_isAlike F 115 95 σ0 = some (x, σ')) : jMC yX6_isAlike cX6_isAlike 4 (jrt 4) 2 44 sh σ0 [(jmr 115), (jmr 95)] (jrv 4 x) σ' := by
  refine jMC_of (kd := 4) (by decide) rfl h ?_
  intro X hX
  have hG : jGd X (jE_Quotient_isAlike F) jtb_Quotient_isAlike := jGd_of hX jtk_Quotient_isAlike (jcon jfl_X6_25 (jcon jfl_X6_37 jnil)) jnil jnil (jcon (jsV jlk_X6_83 ⟨rfl, rfl⟩ (jad_Quotient_nextOf F sh hs)) (jcon (jsV jlk_X6_89 ⟨rfl, rfl⟩ (jad_Quotient_lostSet F sh hs)) jnil)) hs
  have rr36 : ∀ (k26 : Int → jxS → Option jxR) (h26 : ∀ v2 σ, jRf X (k26 v2 σ) 26 [some (jmr 115), some (jmr 95), some (jmi v2), none] [] σ) (fu : Nat) (v2 v3 : Int) (σ : jxS), jRf X (Quotient_isAlike_c36 F 115 95 k26 fu v2 v3 σ) 36 [some (jmr 115), some (jmr 95), some (jmi v2), some (jmi v3)] [] σ := by
    intro k26 h26 fu
    induction fu with
    | zero => intros; exact jRf_none
    | succ fu ih =>
      intro v2 v3 σ
      exact jRf_by (jex_ok hG (cs := [(26, [some (.inr (some 115)), some (.inr (some 95)), some (.inl 0), none], [], fun xs σ => match xs with
      | [v2] => k26 v2 σ
      | _ => none), (36, [some (.inr (some 115)), some (.inr (some 95)), some (.inl 0), some (.inl 0)], [], fun xs σ => match xs with
      | [v2, v3] => (Quotient_isAlike_c36 F 115 95 k26 fu) v2 v3 σ
      | _ => none)]) (jcon (jl1 (fun y0 => jl0 (fun σ => h26 y0 σ))) (jcon (jl2 (fun y0 y1 => jl0 (fun σ => ih y0 y1 σ))) jnil)) 44 36 [some (jmr 115), some (jmr 95), some (jmi v2), some (jmi v3)] [] σ) rfl
  have rr26 : ∀ (fu : Nat) (v2 : Int) (σ : jxS), jRf X (Quotient_isAlike_c26 F 115 95 fu v2 σ) 26 [some (jmr 115), some (jmr 95), some (jmi v2), none] [] σ := by
    intro  fu
    induction fu with
    | zero => intros; exact jRf_none
    | succ fu ih =>
      intro v2 σ
      exact jRf_by (jex_ok hG (cs := [(36, [some (.inr (some 115)), some (.inr (some 95)), some (.inl 0), some (.inl 0)], [], fun xs σ => match xs with
      | [v2, v3] => Quotient_isAlike_c36 F 115 95 (Quotient_isAlike_c26 F 115 95 fu) F v2 v3 σ
      | _ => none)]) (jcon (jl2 (fun y0 y1 => jl0 (fun σ => rr36 _ ih F y0 y1 σ))) jnil) 44 26 [some (jmr 115), some (jmr 95), some (jmi v2), none] [] σ) rfl
  exact jRf_by (jex_ok hG (cs := [(26, [some (.inr (some 115)), some (.inr (some 95)), some (.inl 0), none], [], fun xs σ => match xs with
      | [v2] => Quotient_isAlike_c26 F 115 95 F v2 σ
      | _ => none)]) (jcon (jl1 (fun y0 => jl0 (fun σ => rr26 F y0 σ))) jnil) 44 0 [some (jmr 115), some (jmr 95), none, none] [] σ0) rfl
set_option maxRecDepth 100000 in
set_option maxHeartbeats 4000000 in
theorem jmet_Quotient_isAlike_115_100 (F : Nat) (sh : List jxC) (hs : jHas sh jc_C) (σ0 : jxS) (x : Int) (σ' : jxS) (h : Quotient_isAlike F 115 100 σ0 = some (x, σ')) : jMC yX6_isAlike cX6_isAlike 4 (jrt 4) 2 44 sh σ0 [(jmr 115), (jmr 100)] (jrv 4 x) σ' := by
  refine jMC_of (kd := 4) (by decide) rfl h ?_
  intro X hX
  have hG : jGd X (jE_Quotient_isAlike F) jtb_Quotient_isAlike := jGd_of hX jtk_Quotient_isAlike (jcon jfl_X6_25 (jcon jfl_X6_37 jnil)) jnil jnil (jcon (jsV jlk_X6_83 ⟨rfl, rfl⟩ (jad_Quotient_nextOf F sh hs)) (jcon (jsV jlk_X6_89 ⟨rfl, rfl⟩ (jad_Quotient_lostSet F sh hs)) jnil)) hs
  have rr36 : ∀ (k26 : Int → jxS → Option jxR) (h26 : ∀ v2 σ, jRf X (k26 v2 σ) 26 [some (jmr 115), some (jmr 100), some (jmi v2), none] [] σ) (fu : Nat) (v2 v3 : Int) (σ : jxS), jRf X (Quotient_isAlike_c36 F 115 100 k26 fu v2 v3 σ) 36 [some (jmr 115), some (jmr 100), some (jmi v2), some (jmi v3)] [] σ := by
    intro k26 h26 fu
    induction fu with
    | zero => intros; exact jRf_none
    | succ fu ih =>
      intro v2 v3 σ
      exact jRf_by (jex_ok hG (cs := [(26, [some (.inr (some 115)), some (.inr (some 100)), some (.inl 0), none], [], fun xs σ => match xs with
      | [v2] => k26 v2 σ
      | _ => none), (36, [some (.inr (some 115)), some (.inr (some 100)), some (.inl 0), some (.inl 0)], [], fun xs σ => match xs with
      | [v2, v3] => (Quotient_isAlike_c36 F 115 100 k26 fu) v2 v3 σ
      | _ => none)]) (jcon (jl1 (fun y0 => jl0 (fun σ => h26 y0 σ))) (jcon (jl2 (fun y0 y1 => jl0 (fun σ => ih y0 y1 σ))) jnil)) 44 36 [some (jmr 115), some (jmr 100), some (jmi v2), some (jmi v3)] [] σ) rfl
  have rr26 : ∀ (fu : Nat) (v2 : Int) (σ : jxS), jRf X (Quotient_isAlike_c26 F 115 100 fu v2 σ) 26 [some (jmr 115), some (jmr 100), some (jmi v2), none] [] σ := by
    intro  fu
    induction fu with
    | zero => intros; exact jRf_none
    | succ fu ih =>
      intro v2 σ
      exact jRf_by (jex_ok hG (cs := [(36, [some (.inr (some 115)), some (.inr (some 100)), some (.inl 0), some (.inl 0)], [], fun xs σ => match xs with
      | [v2, v3] => Quotient_isAlike_c36 F 115 100 (Quotient_isAlike_c26 F 115 100 fu) F v2 v3 σ
      | _ => none)]) (jcon (jl2 (fun y0 y1 => jl0 (fun σ => rr36 _ ih F y0 y1 σ))) jnil) 44 26 [some (jmr 115), some (jmr 100), some (jmi v2), none] [] σ) rfl
  exact jRf_by (jex_ok hG (cs := [(26, [some (.inr (some 115)), some (.inr (some 100)), some (.inl 0), none], [], fun xs σ => match xs with
      | [v2] => Quotient_isAlike_c26 F 115 100 F v2 σ
      | _ => none)]) (jcon (jl1 (fun y0 => jl0 (fun σ => rr26 F y0 σ))) jnil) 44 0 [some (jmr 115), some (jmr 100), none, none] [] σ0) rfl
set_option maxRecDepth 100000 in
set_option maxHeartbeats 4000000 in
theorem jmet_Quotient_isAlike_115_105 (F : Nat) (sh : List jxC) (hs : jHas sh jc_C) (σ0 : jxS) (x : Int) (σ' : jxS) (h : Quotient_isAlike F 115 105 σ0 = some (x, σ')) : jMC yX6_isAlike cX6_isAlike 4 (jrt 4) 2 44 sh σ0 [(jmr 115), (jmr 105)] (jrv 4 x) σ' := by
  refine jMC_of (kd := 4) (by decide) rfl h ?_
  intro X hX
  have hG : jGd X (jE_Quotient_isAlike F) jtb_Quotient_isAlike := jGd_of hX jtk_Quotient_isAlike (jcon jfl_X6_25 (jcon jfl_X6_37 jnil)) jnil jnil (jcon (jsV jlk_X6_83 ⟨rfl, rfl⟩ (jad_Quotient_nextOf F sh hs)) (jcon (jsV jlk_X6_89 ⟨rfl, rfl⟩ (jad_Quotient_lostSet F sh hs)) jnil)) hs
  have rr36 : ∀ (k26 : Int → jxS → Option jxR) (h26 : ∀ v2 σ, jRf X (k26 v2 σ) 26 [some (jmr 115), some (jmr 105), some (jmi v2), none] [] σ) (fu : Nat) (v2 v3 : Int) (σ : jxS), jRf X (Quotient_isAlike_c36 F 115 105 k26 fu v2 v3 σ) 36 [some (jmr 115), some (jmr 105), some (jmi v2), some (jmi v3)] [] σ := by
    intro k26 h26 fu
    induction fu with
    | zero => intros; exact jRf_none
    | succ fu ih =>
      intro v2 v3 σ
      exact jRf_by (jex_ok hG (cs := [(26, [some (.inr (some 115)), some (.inr (some 105)), some (.inl 0), none], [], fun xs σ => match xs with
      | [v2] => k26 v2 σ
      | _ => none), (36, [some (.inr (some 115)), some (.inr (some 105)), some (.inl 0), some (.inl 0)], [], fun xs σ => match xs with
      | [v2, v3] => (Quotient_isAlike_c36 F 115 105 k26 fu) v2 v3 σ
      | _ => none)]) (jcon (jl1 (fun y0 => jl0 (fun σ => h26 y0 σ))) (jcon (jl2 (fun y0 y1 => jl0 (fun σ => ih y0 y1 σ))) jnil)) 44 36 [some (jmr 115), some (jmr 105), some (jmi v2), some (jmi v3)] [] σ) rfl
  have rr26 : ∀ (fu : Nat) (v2 : Int) (σ : jxS), jRf X (Quotient_isAlike_c26 F 115 105 fu v2 σ) 26 [some (jmr 115), some (jmr 105), some (jmi v2), none] [] σ := by
    intro  fu
    induction fu with
    | zero => intros; exact jRf_none
    | succ fu ih =>
      intro v2 σ
      exact jRf_by (jex_ok hG (cs := [(36, [some (.inr (some 115)), some (.inr (some 105)), some (.inl 0), some (.inl 0)], [], fun xs σ => match xs with
      | [v2, v3] => Quotient_isAlike_c36 F 115 105 (Quotient_isAlike_c26 F 115 105 fu) F v2 v3 σ
      | _ => none)]) (jcon (jl2 (fun y0 y1 => jl0 (fun σ => rr36 _ ih F y0 y1 σ))) jnil) 44 26 [some (jmr 115), some (jmr 105), some (jmi v2), none] [] σ) rfl
  exact jRf_by (jex_ok hG (cs := [(26, [some (.inr (some 115)), some (.inr (some 105)), some (.inl 0), none], [], fun xs σ => match xs with
      | [v2] => Quotient_isAlike_c26 F 115 105 F v2 σ
      | _ => none)]) (jcon (jl1 (fun y0 => jl0 (fun σ => rr26 F y0 σ))) jnil) 44 0 [some (jmr 115), some (jmr 105), none, none] [] σ0) rfl
set_option maxRecDepth 100000 in
set_option maxHeartbeats 4000000 in
theorem jmet_Quotient_isAlike_115_110 (F : Nat) (sh : List jxC) (hs : jHas sh jc_C) (σ0 : jxS) (x : Int) (σ' : jxS) (h : Quotient_isAlike F 115 110 σ0 = some (x, σ')) : jMC yX6_isAlike cX6_isAlike 4 (jrt 4) 2 44 sh σ0 [(jmr 115), (jmr 110)] (jrv 4 x) σ' := by
  refine jMC_of (kd := 4) (by decide) rfl h ?_
  intro X hX
  have hG : jGd X (jE_Quotient_isAlike F) jtb_Quotient_isAlike := jGd_of hX jtk_Quotient_isAlike (jcon jfl_X6_25 (jcon jfl_X6_37 jnil)) jnil jnil (jcon (jsV jlk_X6_83 ⟨rfl, rfl⟩ (jad_Quotient_nextOf F sh hs)) (jcon (jsV jlk_X6_89 ⟨rfl, rfl⟩ (jad_Quotient_lostSet F sh hs)) jnil)) hs
  have rr36 : ∀ (k26 : Int → jxS → Option jxR) (h26 : ∀ v2 σ, jRf X (k26 v2 σ) 26 [some (jmr 115), some (jmr 110), some (jmi v2), none] [] σ) (fu : Nat) (v2 v3 : Int) (σ : jxS), jRf X (Quotient_isAlike_c36 F 115 110 k26 fu v2 v3 σ) 36 [some (jmr 115), some (jmr 110), some (jmi v2), some (jmi v3)] [] σ := by
    intro k26 h26 fu
    induction fu with
    | zero => intros; exact jRf_none
    | succ fu ih =>
      intro v2 v3 σ
      exact jRf_by (jex_ok hG (cs := [(26, [some (.inr (some 115)), some (.inr (some 110)), some (.inl 0), none], [], fun xs σ => match xs with
      | [v2] => k26 v2 σ
      | _ => none), (36, [some (.inr (some 115)), some (.inr (some 110)), some (.inl 0), some (.inl 0)], [], fun xs σ => match xs with
      | [v2, v3] => (Quotient_isAlike_c36 F 115 110 k26 fu) v2 v3 σ
      | _ => none)]) (jcon (jl1 (fun y0 => jl0 (fun σ => h26 y0 σ))) (jcon (jl2 (fun y0 y1 => jl0 (fun σ => ih y0 y1 σ))) jnil)) 44 36 [some (jmr 115), some (jmr 110), some (jmi v2), some (jmi v3)] [] σ) rfl
  have rr26 : ∀ (fu : Nat) (v2 : Int) (σ : jxS), jRf X (Quotient_isAlike_c26 F 115 110 fu v2 σ) 26 [some (jmr 115), some (jmr 110), some (jmi v2), none] [] σ := by
    intro  fu
    induction fu with
    | zero => intros; exact jRf_none
    | succ fu ih =>
      intro v2 σ
      exact jRf_by (jex_ok hG (cs := [(36, [some (.inr (some 115)), some (.inr (some 110)), some (.inl 0), some (.inl 0)], [], fun xs σ => match xs with
      | [v2, v3] => Quotient_isAlike_c36 F 115 110 (Quotient_isAlike_c26 F 115 110 fu) F v2 v3 σ
      | _ => none)]) (jcon (jl2 (fun y0 y1 => jl0 (fun σ => rr36 _ ih F y0 y1 σ))) jnil) 44 26 [some (jmr 115), some (jmr 110), some (jmi v2), none] [] σ) rfl
  exact jRf_by (jex_ok hG (cs := [(26, [some (.inr (some 115)), some (.inr (some 110)), some (.inl 0), none], [], fun xs σ => match xs with
      | [v2] => Quotient_isAlike_c26 F 115 110 F v2 σ
      | _ => none)]) (jcon (jl1 (fun y0 => jl0 (fun σ => rr26 F y0 σ))) jnil) 44 0 [some (jmr 115), some (jmr 110), none, none] [] σ0) rfl
set_option maxRecDepth 100000 in
set_option maxHeartbeats 4000000 in
theorem jmet_Quotient_isAlike_115_115 (F : Nat) (sh : List jxC) (hs : jHas sh jc_C) (σ0 : jxS) (x : Int) (σ' : jxS) (h : Quotient_isAlike F 115 115 σ0 = some (x, σ')) : jMC yX6_isAlike cX6_isAlike 4 (jrt 4) 2 44 sh σ0 [(jmr 115), (jmr 115)] (jrv 4 x) σ' := by
  refine jMC_of (kd := 4) (by decide) rfl h ?_
  intro X hX
  have hG : jGd X (jE_Quotient_isAlike F) jtb_Quotient_isAlike := jGd_of hX jtk_Quotient_isAlike (jcon jfl_X6_25 (jcon jfl_X6_37 jnil)) jnil jnil (jcon (jsV jlk_X6_83 ⟨rfl, rfl⟩ (jad_Quotient_nextOf F sh hs)) (jcon (jsV jlk_X6_89 ⟨rfl, rfl⟩ (jad_Quotient_lostSet F sh hs)) jnil)) hs
  have rr36 : ∀ (k26 : Int → jxS → Option jxR) (h26 : ∀ v2 σ, jRf X (k26 v2 σ) 26 [some (jmr 115), some (jmr 115), some (jmi v2), none] [] σ) (fu : Nat) (v2 v3 : Int) (σ : jxS), jRf X (Quotient_isAlike_c36 F 115 115 k26 fu v2 v3 σ) 36 [some (jmr 115), some (jmr 115), some (jmi v2), some (jmi v3)] [] σ := by
    intro k26 h26 fu
    induction fu with
    | zero => intros; exact jRf_none
    | succ fu ih =>
      intro v2 v3 σ
      exact jRf_by (jex_ok hG (cs := [(26, [some (.inr (some 115)), some (.inr (some 115)), some (.inl 0), none], [], fun xs σ => match xs with
      | [v2] => k26 v2 σ
      | _ => none), (36, [some (.inr (some 115)), some (.inr (some 115)), some (.inl 0), some (.inl 0)], [], fun xs σ => match xs with
      | [v2, v3] => (Quotient_isAlike_c36 F 115 115 k26 fu) v2 v3 σ
      | _ => none)]) (jcon (jl1 (fun y0 => jl0 (fun σ => h26 y0 σ))) (jcon (jl2 (fun y0 y1 => jl0 (fun σ => ih y0 y1 σ))) jnil)) 44 36 [some (jmr 115), some (jmr 115), some (jmi v2), some (jmi v3)] [] σ) rfl
  have rr26 : ∀ (fu : Nat) (v2 : Int) (σ : jxS), jRf X (Quotient_isAlike_c26 F 115 115 fu v2 σ) 26 [some (jmr 115), some (jmr 115), some (jmi v2), none] [] σ := by
    intro  fu
    induction fu with
    | zero => intros; exact jRf_none
    | succ fu ih =>
      intro v2 σ
      exact jRf_by (jex_ok hG (cs := [(36, [some (.inr (some 115)), some (.inr (some 115)), some (.inl 0), some (.inl 0)], [], fun xs σ => match xs with
      | [v2, v3] => Quotient_isAlike_c36 F 115 115 (Quotient_isAlike_c26 F 115 115 fu) F v2 v3 σ
      | _ => none)]) (jcon (jl2 (fun y0 y1 => jl0 (fun σ => rr36 _ ih F y0 y1 σ))) jnil) 44 26 [some (jmr 115), some (jmr 115), some (jmi v2), none] [] σ) rfl
  exact jRf_by (jex_ok hG (cs := [(26, [some (.inr (some 115)), some (.inr (some 115)), some (.inl 0), none], [], fun xs σ => match xs with
      | [v2] => Quotient_isAlike_c26 F 115 115 F v2 σ
      | _ => none)]) (jcon (jl1 (fun y0 => jl0 (fun σ => rr26 F y0 σ))) jnil) 44 0 [some (jmr 115), some (jmr 115), none, none] [] σ0) rfl
theorem jmet_Quotient_isAlike (F : Nat) (q : Nat) (hq : q ∈ jids_Quotient_isAlike_q) (q1 : Nat) (hq1 : q1 ∈ jids_Quotient_isAlike_q1) (sh : List jxC) (hs : jHas sh jc_C) (σ0 : jxS) (x : Int) (σ' : jxS) (h : Quotient_isAlike F q q1 σ0 = some (x, σ')) : jMC yX6_isAlike cX6_isAlike 4 (jrt 4) 2 44 sh σ0 [(jmr q), (jmr q1)] (jrv 4 x) σ' := by
  simp only [jids_Quotient_isAlike_q, List.mem_cons, List.not_mem_nil, or_false] at hq
  simp only [jids_Quotient_isAlike_q1, List.mem_cons, List.not_mem_nil, or_false] at hq1
  rcases hq with rfl | rfl | rfl | rfl | rfl | rfl <;> rcases hq1 with rfl | rfl | rfl | rfl | rfl | rfl
  · exact jmet_Quotient_isAlike_90_90 F sh hs σ0  x σ' h
  · exact jmet_Quotient_isAlike_90_95 F sh hs σ0  x σ' h
  · exact jmet_Quotient_isAlike_90_100 F sh hs σ0  x σ' h
  · exact jmet_Quotient_isAlike_90_105 F sh hs σ0  x σ' h
  · exact jmet_Quotient_isAlike_90_110 F sh hs σ0  x σ' h
  · exact jmet_Quotient_isAlike_90_115 F sh hs σ0  x σ' h
  · exact jmet_Quotient_isAlike_95_90 F sh hs σ0  x σ' h
  · exact jmet_Quotient_isAlike_95_95 F sh hs σ0  x σ' h
  · exact jmet_Quotient_isAlike_95_100 F sh hs σ0  x σ' h
  · exact jmet_Quotient_isAlike_95_105 F sh hs σ0  x σ' h
  · exact jmet_Quotient_isAlike_95_110 F sh hs σ0  x σ' h
  · exact jmet_Quotient_isAlike_95_115 F sh hs σ0  x σ' h
  · exact jmet_Quotient_isAlike_100_90 F sh hs σ0  x σ' h
  · exact jmet_Quotient_isAlike_100_95 F sh hs σ0  x σ' h
  · exact jmet_Quotient_isAlike_100_100 F sh hs σ0  x σ' h
  · exact jmet_Quotient_isAlike_100_105 F sh hs σ0  x σ' h
  · exact jmet_Quotient_isAlike_100_110 F sh hs σ0  x σ' h
  · exact jmet_Quotient_isAlike_100_115 F sh hs σ0  x σ' h
  · exact jmet_Quotient_isAlike_105_90 F sh hs σ0  x σ' h
  · exact jmet_Quotient_isAlike_105_95 F sh hs σ0  x σ' h
  · exact jmet_Quotient_isAlike_105_100 F sh hs σ0  x σ' h
  · exact jmet_Quotient_isAlike_105_105 F sh hs σ0  x σ' h
  · exact jmet_Quotient_isAlike_105_110 F sh hs σ0  x σ' h
  · exact jmet_Quotient_isAlike_105_115 F sh hs σ0  x σ' h
  · exact jmet_Quotient_isAlike_110_90 F sh hs σ0  x σ' h
  · exact jmet_Quotient_isAlike_110_95 F sh hs σ0  x σ' h
  · exact jmet_Quotient_isAlike_110_100 F sh hs σ0  x σ' h
  · exact jmet_Quotient_isAlike_110_105 F sh hs σ0  x σ' h
  · exact jmet_Quotient_isAlike_110_110 F sh hs σ0  x σ' h
  · exact jmet_Quotient_isAlike_110_115 F sh hs σ0  x σ' h
  · exact jmet_Quotient_isAlike_115_90 F sh hs σ0  x σ' h
  · exact jmet_Quotient_isAlike_115_95 F sh hs σ0  x σ' h
  · exact jmet_Quotient_isAlike_115_100 F sh hs σ0  x σ' h
  · exact jmet_Quotient_isAlike_115_105 F sh hs σ0  x σ' h
  · exact jmet_Quotient_isAlike_115_110 F sh hs σ0  x σ' h
  · exact jmet_Quotient_isAlike_115_115 F sh hs σ0  x σ' h
theorem jad_Quotient_isAlike (F : Nat) (sh : List jxC) (hs : jHas sh jc_C) : jAdV (jca_Quotient_isAlike F) yX6_isAlike cX6_isAlike 4 4 2 44 1 sh := by
  intro as σ k x σ' h
  unfold jca_Quotient_isAlike at h
  split at h
  · rename_i t0 t1
    obtain ⟨g0, hh1⟩ := jcond h
    have g0 := jin_of g0
    obtain ⟨g1, hh2⟩ := jcond hh1
    have g1 := jin_of g1
    obtain ⟨r, h1, h2⟩ := Option.bind_eq_some_iff.mp hh2
    exact ⟨_, _, h2, (by obtain ⟨fks, hfk⟩ := jrc_Quotient hs g0; exact ⟨_, _, _, _, _, _, rfl, rfl, hfk, rfl⟩), jmet_Quotient_isAlike F t0 g0 t1 g1 sh hs σ  r.1 r.2 h1⟩
  · cases h
