/-! Contracts: Quotient_isAlike -/
def jtb_Quotient_isAlike : List (Nat × Instr) := [(0, .aload_n 1), (1, .getfield 37), (4, .aload_n 0), (5, .getfield 37), (8, .if_icmp .ne 14), (11, .aload_n 1), (12, .invokevirtual 89), (15, .aload_n 0), (16, .invokevirtual 89), (19, .if_icmp .eq 5), (22, .iconst 0), (23, .ireturn), (24, .iconst 0), (25, .istore_n 2), (26, .iload_n 2), (27, .aload_n 0), (28, .getfield 37), (31, .if_icmp .ge 42), (34, .iconst 1), (35, .istore_n 3), (36, .iload_n 3), (37, .aload_n 0), (38, .getfield 25), (41, .if_icmp .gt 26), (44, .aload_n 0), (45, .iload_n 2), (46, .iload_n 3), (47, .invokevirtual 83), (50, .aload_n 1), (51, .iload_n 2), (52, .iload_n 3), (53, .invokevirtual 83), (56, .if_icmp .eq 5), (59, .iconst 0), (60, .ireturn), (61, .iinc 3 1), (64, .goto (-28)), (67, .iinc 2 1), (70, .goto (-44)), (73, .iconst 1), (74, .ireturn)]
theorem jtk_Quotient_isAlike : jtok cX6_isAlike jtb_Quotient_isAlike = true := by decide +kernel
def jE_Quotient_isAlike (F : Nat) : jxE := jmk [(25, 6, 0), (37, 6, 7)] [] [] [(83, (3, false), jca_Quotient_nextOf F), (89, (1, false), jca_Quotient_lostSet F)] 4 jc_C
set_option maxRecDepth 100000 in
set_option maxHeartbeats 4000000 in
theorem jmet_Quotient_isAlike_48_48 (F : Nat) (sh : List jxC) (hs : jHas sh jc_C) (σ0 : jxS) (x : Int) (σ' : jxS) (h : Quotient_isAlike F 48 48 σ0 = some (x, σ')) : jMC yX6_isAlike cX6_isAlike 4 (jrt 4) 2 44 sh σ0 [(jmr 48), (jmr 48)] (jrv 4 x) σ' := by
  refine jMC_of (kd := 4) (by decide) rfl h ?_
  intro X hX
  have hG : jGd X (jE_Quotient_isAlike F) jtb_Quotient_isAlike := jGd_of hX jtk_Quotient_isAlike (jcon jfl_X6_25 (jcon jfl_X6_37 jnil)) jnil jnil (jcon (jsV jlk_X6_83 ⟨rfl, rfl⟩ (jad_Quotient_nextOf F sh hs)) (jcon (jsV jlk_X6_89 ⟨rfl, rfl⟩ (jad_Quotient_lostSet F sh hs)) jnil)) hs
  have rr36 : ∀ (k26 : Int → jxS → Option jxR) (h26 : ∀ v2 σ, jRf X (k26 v2 σ) 26 [some (jmr 48), some (jmr 48), some (jmi v2), none] [] σ) (fu : Nat) (v2 v3 : Int) (σ : jxS), jRf X (Quotient_isAlike_c36 F 48 48 k26 fu v2 v3 σ) 36 [some (jmr 48), some (jmr 48), some (jmi v2), some (jmi v3)] [] σ := by
    intro k26 h26 fu
    induction fu with
    | zero => intros; exact jRf_none
    | succ fu ih =>
      intro v2 v3 σ
      exact jRf_by (jex_ok hG (cs := [(26, [some (.inr (some 48)), some (.inr (some 48)), some (.inl 0), none], [], fun xs σ => match xs with
      | [v2] => k26 v2 σ
      | _ => none), (36, [some (.inr (some 48)), some (.inr (some 48)), some (.inl 0), some (.inl 0)], [], fun xs σ => match xs with
      | [v2, v3] => (Quotient_isAlike_c36 F 48 48 k26 fu) v2 v3 σ
      | _ => none)]) (jcon (jl1 (fun y0 => jl0 (fun σ => h26 y0 σ))) (jcon (jl2 (fun y0 y1 => jl0 (fun σ => ih y0 y1 σ))) jnil)) 44 36 [some (jmr 48), some (jmr 48), some (jmi v2), some (jmi v3)] [] σ) rfl
  have rr26 : ∀ (fu : Nat) (v2 : Int) (σ : jxS), jRf X (Quotient_isAlike_c26 F 48 48 fu v2 σ) 26 [some (jmr 48), some (jmr 48), some (jmi v2), none] [] σ := by
    intro  fu
    induction fu with
    | zero => intros; exact jRf_none
    | succ fu ih =>
      intro v2 σ
      exact jRf_by (jex_ok hG (cs := [(36, [some (.inr (some 48)), some (.inr (some 48)), some (.inl 0), some (.inl 0)], [], fun xs σ => match xs with
      | [v2, v3] => Quotient_isAlike_c36 F 48 48 (Quotient_isAlike_c26 F 48 48 fu) F v2 v3 σ
      | _ => none)]) (jcon (jl2 (fun y0 y1 => jl0 (fun σ => rr36 _ ih F y0 y1 σ))) jnil) 44 26 [some (jmr 48), some (jmr 48), some (jmi v2), none] [] σ) rfl
  exact jRf_by (jex_ok hG (cs := [(26, [some (.inr (some 48)), some (.inr (some 48)), some (.inl 0), none], [], fun xs σ => match xs with
      | [v2] => Quotient_isAlike_c26 F 48 48 F v2 σ
      | _ => none)]) (jcon (jl1 (fun y0 => jl0 (fun σ => rr26 F y0 σ))) jnil) 44 0 [some (jmr 48), some (jmr 48), none, none] [] σ0) rfl
set_option maxRecDepth 100000 in
set_option maxHeartbeats 4000000 in
theorem jmet_Quotient_isAlike_48_53 (F : Nat) (sh : List jxC) (hs : jHas sh jc_C) (σ0 : jxS) (x : Int) (σ' : jxS) (h : Quotient_isAlike F 48 53 σ0 = some (x, σ')) : jMC yX6_isAlike cX6_isAlike 4 (jrt 4) 2 44 sh σ0 [(jmr 48), (jmr 53)] (jrv 4 x) σ' := by
  refine jMC_of (kd := 4) (by decide) rfl h ?_
  intro X hX
  have hG : jGd X (jE_Quotient_isAlike F) jtb_Quotient_isAlike := jGd_of hX jtk_Quotient_isAlike (jcon jfl_X6_25 (jcon jfl_X6_37 jnil)) jnil jnil (jcon (jsV jlk_X6_83 ⟨rfl, rfl⟩ (jad_Quotient_nextOf F sh hs)) (jcon (jsV jlk_X6_89 ⟨rfl, rfl⟩ (jad_Quotient_lostSet F sh hs)) jnil)) hs
  have rr36 : ∀ (k26 : Int → jxS → Option jxR) (h26 : ∀ v2 σ, jRf X (k26 v2 σ) 26 [some (jmr 48), some (jmr 53), some (jmi v2), none] [] σ) (fu : Nat) (v2 v3 : Int) (σ : jxS), jRf X (Quotient_isAlike_c36 F 48 53 k26 fu v2 v3 σ) 36 [some (jmr 48), some (jmr 53), some (jmi v2), some (jmi v3)] [] σ := by
    intro k26 h26 fu
    induction fu with
    | zero => intros; exact jRf_none
    | succ fu ih =>
      intro v2 v3 σ
      exact jRf_by (jex_ok hG (cs := [(26, [some (.inr (some 48)), some (.inr (some 53)), some (.inl 0), none], [], fun xs σ => match xs with
      | [v2] => k26 v2 σ
      | _ => none), (36, [some (.inr (some 48)), some (.inr (some 53)), some (.inl 0), some (.inl 0)], [], fun xs σ => match xs with
      | [v2, v3] => (Quotient_isAlike_c36 F 48 53 k26 fu) v2 v3 σ
      | _ => none)]) (jcon (jl1 (fun y0 => jl0 (fun σ => h26 y0 σ))) (jcon (jl2 (fun y0 y1 => jl0 (fun σ => ih y0 y1 σ))) jnil)) 44 36 [some (jmr 48), some (jmr 53), some (jmi v2), some (jmi v3)] [] σ) rfl
  have rr26 : ∀ (fu : Nat) (v2 : Int) (σ : jxS), jRf X (Quotient_isAlike_c26 F 48 53 fu v2 σ) 26 [some (jmr 48), some (jmr 53), some (jmi v2), none] [] σ := by
    intro  fu
    induction fu with
    | zero => intros; exact jRf_none
    | succ fu ih =>
      intro v2 σ
      exact jRf_by (jex_ok hG (cs := [(36, [some (.inr (some 48)), some (.inr (some 53)), some (.inl 0), some (.inl 0)], [], fun xs σ => match xs with
      | [v2, v3] => Quotient_isAlike_c36 F 48 53 (Quotient_isAlike_c26 F 48 53 fu) F v2 v3 σ
      | _ => none)]) (jcon (jl2 (fun y0 y1 => jl0 (fun σ => rr36 _ ih F y0 y1 σ))) jnil) 44 26 [some (jmr 48), some (jmr 53), some (jmi v2), none] [] σ) rfl
  exact jRf_by (jex_ok hG (cs := [(26, [some (.inr (some 48)), some (.inr (some 53)), some (.inl 0), none], [], fun xs σ => match xs with
      | [v2] => Quotient_isAlike_c26 F 48 53 F v2 σ
      | _ => none)]) (jcon (jl1 (fun y0 => jl0 (fun σ => rr26 F y0 σ))) jnil) 44 0 [some (jmr 48), some (jmr 53), none, none] [] σ0) rfl
set_option maxRecDepth 100000 in
set_option maxHeartbeats 4000000 in
theorem jmet_Quotient_isAlike_48_58 (F : Nat) (sh : List jxC) (hs : jHas sh jc_C) (σ0 : jxS) (x : Int) (σ' : jxS) (h : Quotient_isAlike F 48 58 σ0 = some (x, σ')) : jMC yX6_isAlike cX6_isAlike 4 (jrt 4) 2 44 sh σ0 [(jmr 48), (jmr 58)] (jrv 4 x) σ' := by
  refine jMC_of (kd := 4) (by decide) rfl h ?_
  intro X hX
  have hG : jGd X (jE_Quotient_isAlike F) jtb_Quotient_isAlike := jGd_of hX jtk_Quotient_isAlike (jcon jfl_X6_25 (jcon jfl_X6_37 jnil)) jnil jnil (jcon (jsV jlk_X6_83 ⟨rfl, rfl⟩ (jad_Quotient_nextOf F sh hs)) (jcon (jsV jlk_X6_89 ⟨rfl, rfl⟩ (jad_Quotient_lostSet F sh hs)) jnil)) hs
  have rr36 : ∀ (k26 : Int → jxS → Option jxR) (h26 : ∀ v2 σ, jRf X (k26 v2 σ) 26 [some (jmr 48), some (jmr 58), some (jmi v2), none] [] σ) (fu : Nat) (v2 v3 : Int) (σ : jxS), jRf X (Quotient_isAlike_c36 F 48 58 k26 fu v2 v3 σ) 36 [some (jmr 48), some (jmr 58), some (jmi v2), some (jmi v3)] [] σ := by
    intro k26 h26 fu
    induction fu with
    | zero => intros; exact jRf_none
    | succ fu ih =>
      intro v2 v3 σ
      exact jRf_by (jex_ok hG (cs := [(26, [some (.inr (some 48)), some (.inr (some 58)), some (.inl 0), none], [], fun xs σ => match xs with
      | [v2] => k26 v2 σ
      | _ => none), (36, [some (.inr (some 48)), some (.inr (some 58)), some (.inl 0), some (.inl 0)], [], fun xs σ => match xs with
      | [v2, v3] => (Quotient_isAlike_c36 F 48 58 k26 fu) v2 v3 σ
      | _ => none)]) (jcon (jl1 (fun y0 => jl0 (fun σ => h26 y0 σ))) (jcon (jl2 (fun y0 y1 => jl0 (fun σ => ih y0 y1 σ))) jnil)) 44 36 [some (jmr 48), some (jmr 58), some (jmi v2), some (jmi v3)] [] σ) rfl
  have rr26 : ∀ (fu : Nat) (v2 : Int) (σ : jxS), jRf X (Quotient_isAlike_c26 F 48 58 fu v2 σ) 26 [some (jmr 48), some (jmr 58), some (jmi v2), none] [] σ := by
    intro  fu
    induction fu with
    | zero => intros; exact jRf_none
    | succ fu ih =>
      intro v2 σ
      exact jRf_by (jex_ok hG (cs := [(36, [some (.inr (some 48)), some (.inr (some 58)), some (.inl 0), some (.inl 0)], [], fun xs σ => match xs with
      | [v2, v3] => Quotient_isAlike_c36 F 48 58 (Quotient_isAlike_c26 F 48 58 fu) F v2 v3 σ
      | _ => none)]) (jcon (jl2 (fun y0 y1 => jl0 (fun σ => rr36 _ ih F y0 y1 σ))) jnil) 44 26 [some (jmr 48), some (jmr 58), some (jmi v2), none] [] σ) rfl
  exact jRf_by (jex_ok hG (cs := [(26, [some (.inr (some 48)), some (.inr (some 58)), some (.inl 0), none], [], fun xs σ => match xs with
      | [v2] => Quotient_isAlike_c26 F 48 58 F v2 σ
      | _ => none)]) (jcon (jl1 (fun y0 => jl0 (fun σ => rr26 F y0 σ))) jnil) 44 0 [some (jmr 48), some (jmr 58), none, none] [] σ0) rfl
set_option maxRecDepth 100000 in
set_option maxHeartbeats 4000000 in
theorem jmet_Quotient_isAlike_48_63 (F : Nat) (sh : List jxC) (hs : jHas sh jc_C) (σ0 : jxS) (x : Int) (σ' : jxS) (h : Quotient_isAlike F 48 63 σ0 = some (x, σ')) : jMC yX6_isAlike cX6_isAlike 4 (jrt 4) 2 44 sh σ0 [(jmr 48), (jmr 63)] (jrv 4 x) σ' := by
  refine jMC_of (kd := 4) (by decide) rfl h ?_
  intro X hX
  have hG : jGd X (jE_Quotient_isAlike F) jtb_Quotient_isAlike := jGd_of hX jtk_Quotient_isAlike (jcon jfl_X6_25 (jcon jfl_X6_37 jnil)) jnil jnil (jcon (jsV jlk_X6_83 ⟨rfl, rfl⟩ (jad_Quotient_nextOf F sh hs)) (jcon (jsV jlk_X6_89 ⟨rfl, rfl⟩ (jad_Quotient_lostSet F sh hs)) jnil)) hs
  have rr36 : ∀ (k26 : Int → jxS → Option jxR) (h26 : ∀ v2 σ, jRf X (k26 v2 σ) 26 [some (jmr 48), some (jmr 63), some (jmi v2), none] [] σ) (fu : Nat) (v2 v3 : Int) (σ : jxS), jRf X (Quotient_isAlike_c36 F 48 63 k26 fu v2 v3 σ) 36 [some (jmr 48), some (jmr 63), some (jmi v2), some (jmi v3)] [] σ := by
    intro k26 h26 fu
    induction fu with
    | zero => intros; exact jRf_none
    | succ fu ih =>
      intro v2 v3 σ
      exact jRf_by (jex_ok hG (cs := [(26, [some (.inr (some 48)), some (.inr (some 63)), some (.inl 0), none], [], fun xs σ => match xs with
      | [v2] => k26 v2 σ
      | _ => none), (36, [some (.inr (some 48)), some (.inr (some 63)), some (.inl 0), some (.inl 0)], [], fun xs σ => match xs with
      | [v2, v3] => (Quotient_isAlike_c36 F 48 63 k26 fu) v2 v3 σ
      | _ => none)]) (jcon (jl1 (fun y0 => jl0 (fun σ => h26 y0 σ))) (jcon (jl2 (fun y0 y1 => jl0 (fun σ => ih y0 y1 σ))) jnil)) 44 36 [some (jmr 48), some (jmr 63), some (jmi v2), some (jmi v3)] [] σ) rfl
  have rr26 : ∀ (fu : Nat) (v2 : Int) (σ : jxS), jRf X (Quotient_isAlike_c26 F 48 63 fu v2 σ) 26 [some (jmr 48), some (jmr 63), some (jmi v2), none] [] σ := by
    intro  fu
    induction fu with
    | zero => intros; exact jRf_none
    | succ fu ih =>
      intro v2 σ
      exact jRf_by (jex_ok hG (cs := [(36, [some (.inr (some 48)), some (.inr (some 63)), some (.inl 0), some (.inl 0)], [], fun xs σ => match xs with
      | [v2, v3] => Quotient_isAlike_c36 F 48 63 (Quotient_isAlike_c26 F 48 63 fu) F v2 v3 σ
      | _ => none)]) (jcon (jl2 (fun y0 y1 => jl0 (fun σ => rr36 _ ih F y0 y1 σ))) jnil) 44 26 [some (jmr 48), some (jmr 63), some (jmi v2), none] [] σ) rfl
  exact jRf_by (jex_ok hG (cs := [(26, [some (.inr (some 48)), some (.inr (some 63)), some (.inl 0), none], [], fun xs σ => match xs with
      | [v2] => Quotient_isAlike_c26 F 48 63 F v2 σ
      | _ => none)]) (jcon (jl1 (fun y0 => jl0 (fun σ => rr26 F y0 σ))) jnil) 44 0 [some (jmr 48), some (jmr 63), none, none] [] σ0) rfl
set_option maxRecDepth 100000 in
set_option maxHeartbeats 4000000 in
theorem jmet_Quotient_isAlike_48_68 (F : Nat) (sh : List jxC) (hs : jHas sh jc_C) (σ0 : jxS) (x : Int) (σ' : jxS) (h : Quotient_isAlike F 48 68 σ0 = some (x, σ')) : jMC yX6_isAlike cX6_isAlike 4 (jrt 4) 2 44 sh σ0 [(jmr 48), (jmr 68)] (jrv 4 x) σ' := by
  refine jMC_of (kd := 4) (by decide) rfl h ?_
  intro X hX
  have hG : jGd X (jE_Quotient_isAlike F) jtb_Quotient_isAlike := jGd_of hX jtk_Quotient_isAlike (jcon jfl_X6_25 (jcon jfl_X6_37 jnil)) jnil jnil (jcon (jsV jlk_X6_83 ⟨rfl, rfl⟩ (jad_Quotient_nextOf F sh hs)) (jcon (jsV jlk_X6_89 ⟨rfl, rfl⟩ (jad_Quotient_lostSet F sh hs)) jnil)) hs
  have rr36 : ∀ (k26 : Int → jxS → Option jxR) (h26 : ∀ v2 σ, jRf X (k26 v2 σ) 26 [some (jmr 48), some (jmr 68), some (jmi v2), none] [] σ) (fu : Nat) (v2 v3 : Int) (σ : jxS), jRf X (Quotient_isAlike_c36 F 48 68 k26 fu v2 v3 σ) 36 [some (jmr 48), some (jmr 68), some (jmi v2), some (jmi v3)] [] σ := by
    intro k26 h26 fu
    induction fu with
    | zero => intros; exact jRf_none
    | succ fu ih =>
      intro v2 v3 σ
      exact jRf_by (jex_ok hG (cs := [(26, [some (.inr (some 48)), some (.inr (some 68)), some (.inl 0), none], [], fun xs σ => match xs with
      | [v2] => k26 v2 σ
      | _ => none), (36, [some (.inr (some 48)), some (.inr (some 68)), some (.inl 0), some (.inl 0)], [], fun xs σ => match xs with
      | [v2, v3] => (Quotient_isAlike_c36 F 48 68 k26 fu) v2 v3 σ
      | _ => none)]) (jcon (jl1 (fun y0 => jl0 (fun σ => h26 y0 σ))) (jcon (jl2 (fun y0 y1 => jl0 (fun σ => ih y0 y1 σ))) jnil)) 44 36 [some (jmr 48), some (jmr 68), some (jmi v2), some (jmi v3)] [] σ) rfl
  have rr26 : ∀ (fu : Nat) (v2 : Int) (σ : jxS), jRf X (Quotient_isAlike_c26 F 48 68 fu v2 σ) 26 [some (jmr 48), some (jmr 68), some (jmi v2), none] [] σ := by
    intro  fu
    induction fu with
    | zero => intros; exact jRf_none
    | succ fu ih =>
      intro v2 σ
      exact jRf_by (jex_ok hG (cs := [(36, [some (.inr (some 48)), some (.inr (some 68)), some (.inl 0), some (.inl 0)], [], fun xs σ => match xs with
      | [v2, v3] => Quotient_isAlike_c36 F 48 68 (Quotient_isAlike_c26 F 48 68 fu) F v2 v3 σ
      | _ => none)]) (jcon (jl2 (fun y0 y1 => jl0 (fun σ => rr36 _ ih F y0 y1 σ))) jnil) 44 26 [some (jmr 48), some (jmr 68), some (jmi v2), none] [] σ) rfl
  exact jRf_by (jex_ok hG (cs := [(26, [some (.inr (some 48)), some (.inr (some 68)), some (.inl 0), none], [], fun xs σ => match xs with
      | [v2] => Quotient_isAlike_c26 F 48 68 F v2 σ
      | _ => none)]) (jcon (jl1 (fun y0 => jl0 (fun σ => rr26 F y0 σ))) jnil) 44 0 [some (jmr 48), some (jmr 68), none, none] [] σ0) rfl
set_option maxRecDepth 100000 in
set_option maxHeartbeats 4000000 in
theorem jmet_Quotient_isAlike_48_73 (F : Nat) (sh : List jxC) (hs : jHas sh jc_C) (σ0 : jxS) (x : Int) (σ' : jxS) (h : Quotient_isAlike F 48 73 σ0 = some (x, σ')) : jMC yX6_isAlike cX6_isAlike 4 (jrt 4) 2 44 sh σ0 [(jmr 48), (jmr 73)] (jrv 4 x) σ' := by
  refine jMC_of (kd := 4) (by decide) rfl h ?_
  intro X hX
  have hG : jGd X (jE_Quotient_isAlike F) jtb_Quotient_isAlike := jGd_of hX jtk_Quotient_isAlike (jcon jfl_X6_25 (jcon jfl_X6_37 jnil)) jnil jnil (jcon (jsV jlk_X6_83 ⟨rfl, rfl⟩ (jad_Quotient_nextOf F sh hs)) (jcon (jsV jlk_X6_89 ⟨rfl, rfl⟩ (jad_Quotient_lostSet F sh hs)) jnil)) hs
  have rr36 : ∀ (k26 : Int → jxS → Option jxR) (h26 : ∀ v2 σ, jRf X (k26 v2 σ) 26 [some (jmr 48), some (jmr 73), some (jmi v2), none] [] σ) (fu : Nat) (v2 v3 : Int) (σ : jxS), jRf X (Quotient_isAlike_c36 F 48 73 k26 fu v2 v3 σ) 36 [some (jmr 48), some (jmr 73), some (jmi v2), some (jmi v3)] [] σ := by
    intro k26 h26 fu
    induction fu with
    | zero => intros; exact jRf_none
    | succ fu ih =>
      intro v2 v3 σ
      exact jRf_by (jex_ok hG (cs := [(26, [some (.inr (some 48)), some (.inr (some 73)), some (.inl 0), none], [], fun xs σ => match xs with
      | [v2] => k26 v2 σ
      | _ => none), (36, [some (.inr (some 48)), some (.inr (some 73)), some (.inl 0), some (.inl 0)], [], fun xs σ => match xs with
      | [v2, v3] => (Quotient_isAlike_c36 F 48 73 k26 fu) v2 v3 σ
      | _ => none)]) (jcon (jl1 (fun y0 => jl0 (fun σ => h26 y0 σ))) (jcon (jl2 (fun y0 y1 => jl0 (fun σ => ih y0 y1 σ))) jnil)) 44 36 [some (jmr 48), some (jmr 73), some (jmi v2), some (jmi v3)] [] σ) rfl
  have rr26 : ∀ (fu : Nat) (v2 : Int) (σ : jxS), jRf X (Quotient_isAlike_c26 F 48 73 fu v2 σ) 26 [some (jmr 48), some (jmr 73), some (jmi v2), none] [] σ := by
    intro  fu
    induction fu with
    | zero => intros; exact jRf_none
    | succ fu ih =>
      intro v2 σ
      exact jRf_by (jex_ok hG (cs := [(36, [some (.inr (some 48)), some (.inr (some 73)), some (.inl 0), some (.inl 0)], [], fun xs σ => match xs with
      | [v2, v3] => Quotient_isAlike_c36 F 48 73 (Quotient_isAlike_c26 F 48 73 fu) F v2 v3 σ
      | _ => none)]) (jcon (jl2 (fun y0 y1 => jl0 (fun σ => rr36 _ ih F y0 y1 σ))) jnil) 44 26 [some (jmr 48), some (jmr 73), some (jmi v2), none] [] σ) rfl
  exact jRf_by (jex_ok hG (cs := [(26, [some (.inr (some 48)), some (.inr (some 73)), some (.inl 0), none], [], fun xs σ => match xs with
      | [v2] => Quotient_isAlike_c26 F 48 73 F v2 σ
      | _ => none)]) (jcon (jl1 (fun y0 => jl0 (fun σ => rr26 F y0 σ))) jnil) 44 0 [some (jmr 48), some (jmr 73), none, none] [] σ0) rfl
set_option maxRecDepth 100000 in
set_option maxHeartbeats 4000000 in
theorem jmet_Quotient_isAlike_53_48 (F : Nat) (sh : List jxC) (hs : jHas sh jc_C) (σ0 : jxS) (x : Int) (σ' : jxS) (h : Quotient_isAlike F 53 48 σ0 = some (x, σ')) : jMC yX6_isAlike cX6_isAlike 4 (jrt 4) 2 44 sh σ0 [(jmr 53), (jmr 48)] (jrv 4 x) σ' := by
  refine jMC_of (kd := 4) (by decide) rfl h ?_
  intro X hX
  have hG : jGd X (jE_Quotient_isAlike F) jtb_Quotient_isAlike := jGd_of hX jtk_Quotient_isAlike (jcon jfl_X6_25 (jcon jfl_X6_37 jnil)) jnil jnil (jcon (jsV jlk_X6_83 ⟨rfl, rfl⟩ (jad_Quotient_nextOf F sh hs)) (jcon (jsV jlk_X6_89 ⟨rfl, rfl⟩ (jad_Quotient_lostSet F sh hs)) jnil)) hs
  have rr36 : ∀ (k26 : Int → jxS → Option jxR) (h26 : ∀ v2 σ, jRf X (k26 v2 σ) 26 [some (jmr 53), some (jmr 48), some (jmi v2), none] [] σ) (fu : Nat) (v2 v3 : Int) (σ : jxS), jRf X (Quotient_isAlike_c36 F 53 48 k26 fu v2 v3 σ) 36 [some (jmr 53), some (jmr 48), some (jmi v2), some (jmi v3)] [] σ := by
    intro k26 h26 fu
    induction fu with
    | zero => intros; exact jRf_none
    | succ fu ih =>
      intro v2 v3 σ
      exact jRf_by (jex_ok hG (cs := [(26, [some (.inr (some 53)), some (.inr (some 48)), some (.inl 0), none], [], fun xs σ => match xs with
      | [v2] => k26 v2 σ
      | _ => none), (36, [some (.inr (some 53)), some (.inr (some 48)), some (.inl 0), some (.inl 0)], [], fun xs σ => match xs with
      | [v2, v3] => (Quotient_isAlike_c36 F 53 48 k26 fu) v2 v3 σ
      | _ => none)]) (jcon (jl1 (fun y0 => jl0 (fun σ => h26 y0 σ))) (jcon (jl2 (fun y0 y1 => jl0 (fun σ => ih y0 y1 σ))) jnil)) 44 36 [some (jmr 53), some (jmr 48), some (jmi v2), some (jmi v3)] [] σ) rfl
  have rr26 : ∀ (fu : Nat) (v2 : Int) (σ : jxS), jRf X (Quotient_isAlike_c26 F 53 48 fu v2 σ) 26 [some (jmr 53), some (jmr 48), some (jmi v2), none] [] σ := by
    intro  fu
    induction fu with
    | zero => intros; exact jRf_none
    | succ fu ih =>
      intro v2 σ
      exact jRf_by (jex_ok hG (cs := [(36, [some (.inr (some 53)), some (.inr (some 48)), some (.inl 0), some (.inl 0)], [], fun xs σ => match xs with
      | [v2, v3] => Quotient_isAlike_c36 F 53 48 (Quotient_isAlike_c26 F 53 48 fu) F v2 v3 σ
      | _ => none)]) (jcon (jl2 (fun y0 y1 => jl0 (fun σ => rr36 _ ih F y0 y1 σ))) jnil) 44 26 [some (jmr 53), some (jmr 48), some (jmi v2), none] [] σ) rfl
  exact jRf_by (jex_ok hG (cs := [(26, [some (.inr (some 53)), some (.inr (some 48)), some (.inl 0), none], [], fun xs σ => match xs with
      | [v2] => Quotient_isAlike_c26 F 53 48 F v2 σ
      | _ => none)]) (jcon (jl1 (fun y0 => jl0 (fun σ => rr26 F y0 σ))) jnil) 44 0 [some (jmr 53), some (jmr 48), none, none] [] σ0) rfl
set_option maxRecDepth 100000 in
set_option maxHeartbeats 4000000 in
theorem jmet_Quotient_isAlike_53_53 (F : Nat) (sh : List jxC) (hs : jHas sh jc_C) (σ0 : jxS) (x : Int) (σ' : jxS) (h : Quotient_isAlike F 53 53 σ0 = some (x, σ')) : jMC yX6_isAlike cX6_isAlike 4 (jrt 4) 2 44 sh σ0 [(jmr 53), (jmr 53)] (jrv 4 x) σ' := by
  refine jMC_of (kd := 4) (by decide) rfl h ?_
  intro X hX
  have hG : jGd X (jE_Quotient_isAlike F) jtb_Quotient_isAlike := jGd_of hX jtk_Quotient_isAlike (jcon jfl_X6_25 (jcon jfl_X6_37 jnil)) jnil jnil (jcon (jsV jlk_X6_83 ⟨rfl, rfl⟩ (jad_Quotient_nextOf F sh hs)) (jcon (jsV jlk_X6_89 ⟨rfl, rfl⟩ (jad_Quotient_lostSet F sh hs)) jnil)) hs
  have rr36 : ∀ (k26 : Int → jxS → Option jxR) (h26 : ∀ v2 σ, jRf X (k26 v2 σ) 26 [some (jmr 53), some (jmr 53), some (jmi v2), none] [] σ) (fu : Nat) (v2 v3 : Int) (σ : jxS), jRf X (Quotient_isAlike_c36 F 53 53 k26 fu v2 v3 σ) 36 [some (jmr 53), some (jmr 53), some (jmi v2), some (jmi v3)] [] σ := by
    intro k26 h26 fu
    induction fu with
    | zero => intros; exact jRf_none
    | succ fu ih =>
      intro v2 v3 σ
      exact jRf_by (jex_ok hG (cs := [(26, [some (.inr (some 53)), some (.inr (some 53)), some (.inl 0), none], [], fun xs σ => match xs with
      | [v2] => k26 v2 σ
      | _ => none), (36, [some (.inr (some 53)), some (.inr (some 53)), some (.inl 0), some (.inl 0)], [], fun xs σ => match xs with
      | [v2, v3] => (Quotient_isAlike_c36 F 53 53 k26 fu) v2 v3 σ
      | _ => none)]) (jcon (jl1 (fun y0 => jl0 (fun σ => h26 y0 σ))) (jcon (jl2 (fun y0 y1 => jl0 (fun σ => ih y0 y1 σ))) jnil)) 44 36 [some (jmr 53), some (jmr 53), some (jmi v2), some (jmi v3)] [] σ) rfl
  have rr26 : ∀ (fu : Nat) (v2 : Int) (σ : jxS), jRf X (Quotient_isAlike_c26 F 53 53 fu v2 σ) 26 [some (jmr 53), some (jmr 53), some (jmi v2), none] [] σ := by
    intro  fu
    induction fu with
    | zero => intros; exact jRf_none
    | succ fu ih =>
      intro v2 σ
      exact jRf_by (jex_ok hG (cs := [(36, [some (.inr (some 53)), some (.inr (some 53)), some (.inl 0), some (.inl 0)], [], fun xs σ => match xs with
      | [v2, v3] => Quotient_isAlike_c36 F 53 53 (Quotient_isAlike_c26 F 53 53 fu) F v2 v3 σ
      | _ => none)]) (jcon (jl2 (fun y0 y1 => jl0 (fun σ => rr36 _ ih F y0 y1 σ))) jnil) 44 26 [some (jmr 53), some (jmr 53), some (jmi v2), none] [] σ) rfl
  exact jRf_by (jex_ok hG (cs := [(26, [some (.inr (some 53)), some (.inr (some 53)), some (.inl 0), none], [], fun xs σ => match xs with
      | [v2] => Quotient_isAlike_c26 F 53 53 F v2 σ
      | _ => none)]) (jcon (jl1 (fun y0 => jl0 (fun σ => rr26 F y0 σ))) jnil) 44 0 [some (jmr 53), some (jmr 53), none, none] [] σ0) rfl
set_option maxRecDepth 100000 in
set_option maxHeartbeats 4000000 in
theorem jmet_Quotient_isAlike_53_58 (F : Nat) (sh : List jxC) (hs : jHas sh jc_C) (σ0 : jxS) (x : Int) (σ' : jxS) (h : Quotient_isAlike F 53 58 σ0 = some (x, σ')) : jMC yX6_isAlike cX6_isAlike 4 (jrt 4) 2 44 sh σ0 [(jmr 53), (jmr 58)] (jrv 4 x) σ' := by
  refine jMC_of (kd := 4) (by decide) rfl h ?_
  intro X hX
  have hG : jGd X (jE_Quotient_isAlike F) jtb_Quotient_isAlike := jGd_of hX jtk_Quotient_isAlike (jcon jfl_X6_25 (jcon jfl_X6_37 jnil)) jnil jnil (jcon (jsV jlk_X6_83 ⟨rfl, rfl⟩ (jad_Quotient_nextOf F sh hs)) (jcon (jsV jlk_X6_89 ⟨rfl, rfl⟩ (jad_Quotient_lostSet F sh hs)) jnil)) hs
  have rr36 : ∀ (k26 : Int → jxS → Option jxR) (h26 : ∀ v2 σ, jRf X (k26 v2 σ) 26 [some (jmr 53), some (jmr 58), some (jmi v2), none] [] σ) (fu : Nat) (v2 v3 : Int) (σ : jxS), jRf X (Quotient_isAlike_c36 F 53 58 k26 fu v2 v3 σ) 36 [some (jmr 53), some (jmr 58), some (jmi v2), some (jmi v3)] [] σ := by
    intro k26 h26 fu
    induction fu with
    | zero => intros; exact jRf_none
    | succ fu ih =>
      intro v2 v3 σ
      exact jRf_by (jex_ok hG (cs := [(26, [some (.inr (some 53)), some (.inr (some 58)), some (.inl 0), none], [], fun xs σ => match xs with
      | [v2] => k26 v2 σ
      | _ => none), (36, [some (.inr (some 53)), some (.inr (some 58)), some (.inl 0), some (.inl 0)], [], fun xs σ => match xs with
      | [v2, v3] => (Quotient_isAlike_c36 F 53 58 k26 fu) v2 v3 σ
      | _ => none)]) (jcon (jl1 (fun y0 => jl0 (fun σ => h26 y0 σ))) (jcon (jl2 (fun y0 y1 => jl0 (fun σ => ih y0 y1 σ))) jnil)) 44 36 [some (jmr 53), some (jmr 58), some (jmi v2), some (jmi v3)] [] σ) rfl
  have rr26 : ∀ (fu : Nat) (v2 : Int) (σ : jxS), jRf X (Quotient_isAlike_c26 F 53 58 fu v2 σ) 26 [some (jmr 53), some (jmr 58), some (jmi v2), none] [] σ := by
    intro  fu
    induction fu with
    | zero => intros; exact jRf_none
    | succ fu ih =>
      intro v2 σ
      exact jRf_by (jex_ok hG (cs := [(36, [some (.inr (some 53)), some (.inr (some 58)), some (.inl 0), some (.inl 0)], [], fun xs σ => match xs with
      | [v2, v3] => Quotient_isAlike_c36 F 53 58 (Quotient_isAlike_c26 F 53 58 fu) F v2 v3 σ
      | _ => none)]) (jcon (jl2 (fun y0 y1 => jl0 (fun σ => rr36 _ ih F y0 y1 σ))) jnil) 44 26 [some (jmr 53), some (jmr 58), some (jmi v2), none] [] σ) rfl
  exact jRf_by (jex_ok hG (cs := [(26, [some (.inr (some 53)), some (.inr (some 58)), some (.inl 0), none], [], fun xs σ => match xs with
      | [v2] => Quotient_isAlike_c26 F 53 58 F v2 σ
      | _ => none)]) (jcon (jl1 (fun y0 => jl0 (fun σ => rr26 F y0 σ))) jnil) 44 0 [some (jmr 53), some (jmr 58), none, none] [] σ0) rfl
set_option maxRecDepth 100000 in
set_option maxHeartbeats 4000000 in
theorem jmet_Quotient_isAlike_53_63 (F : Nat) (sh : List jxC) (hs : jHas sh jc_C) (σ0 : jxS) (x : Int) (σ' : jxS) (h : Quotient_isAlike F 53 63 σ0 = some (x, σ')) : jMC yX6_isAlike cX6_isAlike 4 (jrt 4) 2 44 sh σ0 [(jmr 53), (jmr 63)] (jrv 4 x) σ' := by
  refine jMC_of (kd := 4) (by decide) rfl h ?_
  intro X hX
  have hG : jGd X (jE_Quotient_isAlike F) jtb_Quotient_isAlike := jGd_of hX jtk_Quotient_isAlike (jcon jfl_X6_25 (jcon jfl_X6_37 jnil)) jnil jnil (jcon (jsV jlk_X6_83 ⟨rfl, rfl⟩ (jad_Quotient_nextOf F sh hs)) (jcon (jsV jlk_X6_89 ⟨rfl, rfl⟩ (jad_Quotient_lostSet F sh hs)) jnil)) hs
  have rr36 : ∀ (k26 : Int → jxS → Option jxR) (h26 : ∀ v2 σ, jRf X (k26 v2 σ) 26 [some (jmr 53), some (jmr 63), some (jmi v2), none] [] σ) (fu : Nat) (v2 v3 : Int) (σ : jxS), jRf X (Quotient_isAlike_c36 F 53 63 k26 fu v2 v3 σ) 36 [some (jmr 53), some (jmr 63), some (jmi v2), some (jmi v3)] [] σ := by
    intro k26 h26 fu
    induction fu with
    | zero => intros; exact jRf_none
    | succ fu ih =>
      intro v2 v3 σ
      exact jRf_by (jex_ok hG (cs := [(26, [some (.inr (some 53)), some (.inr (some 63)), some (.inl 0), none], [], fun xs σ => match xs with
      | [v2] => k26 v2 σ
      | _ => none), (36, [some (.inr (some 53)), some (.inr (some 63)), some (.inl 0), some (.inl 0)], [], fun xs σ => match xs with
      | [v2, v3] => (Quotient_isAlike_c36 F 53 63 k26 fu) v2 v3 σ
      | _ => none)]) (jcon (jl1 (fun y0 => jl0 (fun σ => h26 y0 σ))) (jcon (jl2 (fun y0 y1 => jl0 (fun σ => ih y0 y1 σ))) jnil)) 44 36 [some (jmr 53), some (jmr 63), some (jmi v2), some (jmi v3)] [] σ) rfl
  have rr26 : ∀ (fu : Nat) (v2 : Int) (σ : jxS), jRf X (Quotient_isAlike_c26 F 53 63 fu v2 σ) 26 [some (jmr 53), some (jmr 63), some (jmi v2), none] [] σ := by
    intro  fu
    induction fu with
    | zero => intros; exact jRf_none
    | succ fu ih =>
      intro v2 σ
      exact jRf_by (jex_ok hG (cs := [(36, [some (.inr (some 53)), some (.inr (some 63)), some (.inl 0), some (.inl 0)], [], fun xs σ => match xs with
      | [v2, v3] => Quotient_isAlike_c36 F 53 63 (Quotient_isAlike_c26 F 53 63 fu) F v2 v3 σ
      | _ => none)]) (jcon (jl2 (fun y0 y1 => jl0 (fun σ => rr36 _ ih F y0 y1 σ))) jnil) 44 26 [some (jmr 53), some (jmr 63), some (jmi v2), none] [] σ) rfl
  exact jRf_by (jex_ok hG (cs := [(26, [some (.inr (some 53)), some (.inr (some 63)), some (.inl 0), none], [], fun xs σ => match xs with
      | [v2] => Quotient_isAlike_c26 F 53 63 F v2 σ
      | _ => none)]) (jcon (jl1 (fun y0 => jl0 (fun σ => rr26 F y0 σ))) jnil) 44 0 [some (jmr 53), some (jmr 63), none, none] [] σ0) rfl
set_option maxRecDepth 100000 in
set_option maxHeartbeats 4000000 in
theorem jmet_Quotient_isAlike_53_68 (F : Nat) (sh : List jxC) (hs : jHas sh jc_C) (σ0 : jxS) (x : Int) (σ' : jxS) (h : Quotient_isAlike F 53 68 σ0 = some (x, σ')) : jMC yX6_isAlike cX6_isAlike 4 (jrt 4) 2 44 sh σ0 [(jmr 53), (jmr 68)] (jrv 4 x) σ' := by
  refine jMC_of (kd := 4) (by decide) rfl h ?_
  intro X hX
  have hG : jGd X (jE_Quotient_isAlike F) jtb_Quotient_isAlike := jGd_of hX jtk_Quotient_isAlike (jcon jfl_X6_25 (jcon jfl_X6_37 jnil)) jnil jnil (jcon (jsV jlk_X6_83 ⟨rfl, rfl⟩ (jad_Quotient_nextOf F sh hs)) (jcon (jsV jlk_X6_89 ⟨rfl, rfl⟩ (jad_Quotient_lostSet F sh hs)) jnil)) hs
  have rr36 : ∀ (k26 : Int → jxS → Option jxR) (h26 : ∀ v2 σ, jRf X (k26 v2 σ) 26 [some (jmr 53), some (jmr 68), some (jmi v2), none] [] σ) (fu : Nat) (v2 v3 : Int) (σ : jxS), jRf X (Quotient_isAlike_c36 F 53 68 k26 fu v2 v3 σ) 36 [some (jmr 53), some (jmr 68), some (jmi v2), some (jmi v3)] [] σ := by
    intro k26 h26 fu
    induction fu with
    | zero => intros; exact jRf_none
    | succ fu ih =>
      intro v2 v3 σ
      exact jRf_by (jex_ok hG (cs := [(26, [some (.inr (some 53)), some (.inr (some 68)), some (.inl 0), none], [], fun xs σ => match xs with
      | [v2] => k26 v2 σ
      | _ => none), (36, [some (.inr (some 53)), some (.inr (some 68)), some (.inl 0), some (.inl 0)], [], fun xs σ => match xs with
      | [v2, v3] => (Quotient_isAlike_c36 F 53 68 k26 fu) v2 v3 σ
      | _ => none)]) (jcon (jl1 (fun y0 => jl0 (fun σ => h26 y0 σ))) (jcon (jl2 (fun y0 y1 => jl0 (fun σ => ih y0 y1 σ))) jnil)) 44 36 [some (jmr 53), some (jmr 68), some (jmi v2), some (jmi v3)] [] σ) rfl
  have rr26 : ∀ (fu : Nat) (v2 : Int) (σ : jxS), jRf X (Quotient_isAlike_c26 F 53 68 fu v2 σ) 26 [some (jmr 53), some (jmr 68), some (jmi v2), none] [] σ := by
    intro  fu
    induction fu with
    | zero => intros; exact jRf_none
    | succ fu ih =>
      intro v2 σ
      exact jRf_by (jex_ok hG (cs := [(36, [some (.inr (some 53)), some (.inr (some 68)), some (.inl 0), some (.inl 0)], [], fun xs σ => match xs with
      | [v2, v3] => Quotient_isAlike_c36 F 53 68 (Quotient_isAlike_c26 F 53 68 fu) F v2 v3 σ
      | _ => none)]) (jcon (jl2 (fun y0 y1 => jl0 (fun σ => rr36 _ ih F y0 y1 σ))) jnil) 44 26 [some (jmr 53), some (jmr 68), some (jmi v2), none] [] σ) rfl
  exact jRf_by (jex_ok hG (cs := [(26, [some (.inr (some 53)), some (.inr (some 68)), some (.inl 0), none], [], fun xs σ => match xs with
      | [v2] => Quotient_isAlike_c26 F 53 68 F v2 σ
      | _ => none)]) (jcon (jl1 (fun y0 => jl0 (fun σ => rr26 F y0 σ))) jnil) 44 0 [some (jmr 53), some (jmr 68), none, none] [] σ0) rfl
set_option maxRecDepth 100000 in
set_option maxHeartbeats 4000000 in
theorem jmet_Quotient_isAlike_53_73 (F : Nat) (sh : List jxC) (hs : jHas sh jc_C) (σ0 : jxS) (x : Int) (σ' : jxS) (h : Quotient_isAlike F 53 73 σ0 = some (x, σ')) : jMC yX6_isAlike cX6_isAlike 4 (jrt 4) 2 44 sh σ0 [(jmr 53), (jmr 73)] (jrv 4 x) σ' := by
  refine jMC_of (kd := 4) (by decide) rfl h ?_
  intro X hX
  have hG : jGd X (jE_Quotient_isAlike F) jtb_Quotient_isAlike := jGd_of hX jtk_Quotient_isAlike (jcon jfl_X6_25 (jcon jfl_X6_37 jnil)) jnil jnil (jcon (jsV jlk_X6_83 ⟨rfl, rfl⟩ (jad_Quotient_nextOf F sh hs)) (jcon (jsV jlk_X6_89 ⟨rfl, rfl⟩ (jad_Quotient_lostSet F sh hs)) jnil)) hs
  have rr36 : ∀ (k26 : Int → jxS → Option jxR) (h26 : ∀ v2 σ, jRf X (k26 v2 σ) 26 [some (jmr 53), some (jmr 73), some (jmi v2), none] [] σ) (fu : Nat) (v2 v3 : Int) (σ : jxS), jRf X (Quotient_isAlike_c36 F 53 73 k26 fu v2 v3 σ) 36 [some (jmr 53), some (jmr 73), some (jmi v2), some (jmi v3)] [] σ := by
    intro k26 h26 fu
    induction fu with
    | zero => intros; exact jRf_none
    | succ fu ih =>
      intro v2 v3 σ
      exact jRf_by (jex_ok hG (cs := [(26, [some (.inr (some 53)), some (.inr (some 73)), some (.inl 0), none], [], fun xs σ => match xs with
      | [v2] => k26 v2 σ
      | _ => none), (36, [some (.inr (some 53)), some (.inr (some 73)), some (.inl 0), some (.inl 0)], [], fun xs σ => match xs with
      | [v2, v3] => (Quotient_isAlike_c36 F 53 73 k26 fu) v2 v3 σ
      | _ => none)]) (jcon (jl1 (fun y0 => jl0 (fun σ => h26 y0 σ))) (jcon (jl2 (fun y0 y1 => jl0 (fun σ => ih y0 y1 σ))) jnil)) 44 36 [some (jmr 53), some (jmr 73), some (jmi v2), some (jmi v3)] [] σ) rfl
  have rr26 : ∀ (fu : Nat) (v2 : Int) (σ : jxS), jRf X (Quotient_isAlike_c26 F 53 73 fu v2 σ) 26 [some (jmr 53), some (jmr 73), some (jmi v2), none] [] σ := by
    intro  fu
    induction fu with
    | zero => intros; exact jRf_none
    | succ fu ih =>
      intro v2 σ
      exact jRf_by (jex_ok hG (cs := [(36, [some (.inr (some 53)), some (.inr (some 73)), some (.inl 0), some (.inl 0)], [], fun xs σ => match xs with
      | [v2, v3] => Quotient_isAlike_c36 F 53 73 (Quotient_isAlike_c26 F 53 73 fu) F v2 v3 σ
      | _ => none)]) (jcon (jl2 (fun y0 y1 => jl0 (fun σ => rr36 _ ih F y0 y1 σ))) jnil) 44 26 [some (jmr 53), some (jmr 73), some (jmi v2), none] [] σ) rfl
  exact jRf_by (jex_ok hG (cs := [(26, [some (.inr (some 53)), some (.inr (some 73)), some (.inl 0), none], [], fun xs σ => match xs with
      | [v2] => Quotient_isAlike_c26 F 53 73 F v2 σ
      | _ => none)]) (jcon (jl1 (fun y0 => jl0 (fun σ => rr26 F y0 σ))) jnil) 44 0 [some (jmr 53), some (jmr 73), none, none] [] σ0) rfl
set_option maxRecDepth 100000 in
set_option maxHeartbeats 4000000 in
theorem jmet_Quotient_isAlike_58_48 (F : Nat) (sh : List jxC) (hs : jHas sh jc_C) (σ0 : jxS) (x : Int) (σ' : jxS) (h : Quotient_isAlike F 58 48 σ0 = some (x, σ')) : jMC yX6_isAlike cX6_isAlike 4 (jrt 4) 2 44 sh σ0 [(jmr 58), (jmr 48)] (jrv 4 x) σ' := by
  refine jMC_of (kd := 4) (by decide) rfl h ?_
  intro X hX
  have hG : jGd X (jE_Quotient_isAlike F) jtb_Quotient_isAlike := jGd_of hX jtk_Quotient_isAlike (jcon jfl_X6_25 (jcon jfl_X6_37 jnil)) jnil jnil (jcon (jsV jlk_X6_83 ⟨rfl, rfl⟩ (jad_Quotient_nextOf F sh hs)) (jcon (jsV jlk_X6_89 ⟨rfl, rfl⟩ (jad_Quotient_lostSet F sh hs)) jnil)) hs
  have rr36 : ∀ (k26 : Int → jxS → Option jxR) (h26 : ∀ v2 σ, jRf X (k26 v2 σ) 26 [some (jmr 58), some (jmr 48), some (jmi v2), none] [] σ) (fu : Nat) (v2 v3 : Int) (σ : jxS), jRf X (Quotient_isAlike_c36 F 58 48 k26 fu v2 v3 σ) 36 [some (jmr 58), some (jmr 48), some (jmi v2), some (jmi v3)] [] σ := by
    intro k26 h26 fu
    induction fu with
    | zero => intros; exact jRf_none
    | succ fu ih =>
      intro v2 v3 σ
      exact jRf_by (jex_ok hG (cs := [(26, [some (.inr (some 58)), some (.inr (some 48)), some (.inl 0), none], [], fun xs σ => match xs with
      | [v2] => k26 v2 σ
      | _ => none), (36, [some (.inr (some 58)), some (.inr (some 48)), some (.inl 0), some (.inl 0)], [], fun xs σ => match xs with
      | [v2, v3] => (Quotient_isAlike_c36 F 58 48 k26 fu) v2 v3 σ
      | _ => none)]) (jcon (jl1 (fun y0 => jl0 (fun σ => h26 y0 σ))) (jcon (jl2 (fun y0 y1 => jl0 (fun σ => ih y0 y1 σ))) jnil)) 44 36 [some (jmr 58), some (jmr 48), some (jmi v2), some (jmi v3)] [] σ) rfl
  have rr26 : ∀ (fu : Nat) (v2 : Int) (σ : jxS), jRf X (Quotient_isAlike_c26 F 58 48 fu v2 σ) 26 [some (jmr 58), some (jmr 48), some (jmi v2), none] [] σ := by
    intro  fu
    induction fu with
    | zero => intros; exact jRf_none
    | succ fu ih =>
      intro v2 σ
      exact jRf_by (jex_ok hG (cs := [(36, [some (.inr (some 58)), some (.inr (some 48)), some (.inl 0), some (.inl 0)], [], fun xs σ => match xs with
      | [v2, v3] => Quotient_isAlike_c36 F 58 48 (Quotient_isAlike_c26 F 58 48 fu) F v2 v3 σ
      | _ => none)]) (jcon (jl2 (fun y0 y1 => jl0 (fun σ => rr36 _ ih F y0 y1 σ))) jnil) 44 26 [some (jmr 58), some (jmr 48), some (jmi v2), none] [] σ) rfl
  exact jRf_by (jex_ok hG (cs := [(26, [some (.inr (some 58)), some (.inr (some 48)), some (.inl 0), none], [], fun xs σ => match xs with
      | [v2] => Quotient_isAlike_c26 F 58 48 F v2 σ
      | _ => none)]) (jcon (jl1 (fun y0 => jl0 (fun σ => rr26 F y0 σ))) jnil) 44 0 [some (jmr 58), some (jmr 48), none, none] [] σ0) rfl
set_option maxRecDepth 100000 in
set_option maxHeartbeats 4000000 in
theorem jmet_Quotient_isAlike_58_53 (F : Nat) (sh : List jxC) (hs : jHas sh jc_C) (σ0 : jxS) (x : Int) (σ' : jxS) (h : Quotient_isAlike F 58 53 σ0 = some (x, σ')) : jMC yX6_isAlike cX6_isAlike 4 (jrt 4) 2 44 sh σ0 [(jmr 58), (jmr 53)] (jrv 4 x) σ' := by
  refine jMC_of (kd := 4) (by decide) rfl h ?_
  intro X hX
  have hG : jGd X (jE_Quotient_isAlike F) jtb_Quotient_isAlike := jGd_of hX jtk_Quotient_isAlike (jcon jfl_X6_25 (jcon jfl_X6_37 jnil)) jnil jnil (jcon (jsV jlk_X6_83 ⟨rfl, rfl⟩ (jad_Quotient_nextOf F sh hs)) (jcon (jsV jlk_X6_89 ⟨rfl, rfl⟩ (jad_Quotient_lostSet F sh hs)) jnil)) hs
  have rr36 : ∀ (k26 : Int → jxS → Option jxR) (h26 : ∀ v2 σ, jRf X (k26 v2 σ) 26 [some (jmr 58), some (jmr 53), some (jmi v2), none] [] σ) (fu : Nat) (v2 v3 : Int) (σ : jxS), jRf X (Quotient_isAlike_c36 F 58 53 k26 fu v2 v3 σ) 36 [some (jmr 58), some (jmr 53), some (jmi v2), some (jmi v3)] [] σ := by
    intro k26 h26 fu
    induction fu with
    | zero => intros; exact jRf_none
    | succ fu ih =>
      intro v2 v3 σ
      exact jRf_by (jex_ok hG (cs := [(26, [some (.inr (some 58)), some (.inr (some 53)), some (.inl 0), none], [], fun xs σ => match xs with
      | [v2] => k26 v2 σ
      | _ => none), (36, [some (.inr (some 58)), some (.inr (some 53)), some (.inl 0), some (.inl 0)], [], fun xs σ => match xs with
      | [v2, v3] => (Quotient_isAlike_c36 F 58 53 k26 fu) v2 v3 σ
      | _ => none)]) (jcon (jl1 (fun y0 => jl0 (fun σ => h26 y0 σ))) (jcon (jl2 (fun y0 y1 => jl0 (fun σ => ih y0 y1 σ))) jnil)) 44 36 [some (jmr 58), some (jmr 53), some (jmi v2), some (jmi v3)] [] σ) rfl
  have rr26 : ∀ (fu : Nat) (v2 : Int) (σ : jxS), jRf X (Quotient_isAlike_c26 F 58 53 fu v2 σ) 26 [some (jmr 58), some (jmr 53), some (jmi v2), none] [] σ := by
    intro  fu
    induction fu with
    | zero => intros; exact jRf_none
    | succ fu ih =>
      intro v2 σ
      exact jRf_by (jex_ok hG (cs := [(36, [some (.inr (some 58)), some (.inr (some 53)), some (.inl 0), some (.inl 0)], [], fun xs σ => match xs with
      | [v2, v3] => Quotient_isAlike_c36 F 58 53 (Quotient_isAlike_c26 F 58 53 fu) F v2 v3 σ
      | _ => none)]) (jcon (jl2 (fun y0 y1 => jl0 (fun σ => rr36 _ ih F y0 y1 σ))) jnil) 44 26 [some (jmr 58), some (jmr 53), some (jmi v2), none] [] σ) rfl
  exact jRf_by (jex_ok hG (cs := [(26, [some (.inr (some 58)), some (.inr (some 53)), some (.inl 0), none], [], fun xs σ => match xs with
      | [v2] => Quotient_isAlike_c26 F 58 53 F v2 σ
      | _ => none)]) (jcon (jl1 (fun y0 => jl0 (fun σ => rr26 F y0 σ))) jnil) 44 0 [some (jmr 58), some (jmr 53), none, none] [] σ0) rfl
set_option maxRecDepth 100000 in
set_option maxHeartbeats 4000000 in
theorem jmet_Quotient_isAlike_58_58 (F : Nat) (sh : List jxC) (hs : jHas sh jc_C) (σ0 : jxS) (x : Int) (σ' : jxS) (h : Quotient_isAlike F 58 58 σ0 = some (x, σ')) : jMC yX6_isAlike cX6_isAlike 4 (jrt 4) 2 44 sh σ0 [(jmr 58), (jmr 58)] (jrv 4 x) σ' := by
  refine jMC_of (kd := 4) (by decide) rfl h ?_
  intro X hX
  have hG : jGd X (jE_Quotient_isAlike F) jtb_Quotient_isAlike := jGd_of hX jtk_Quotient_isAlike (jcon jfl_X6_25 (jcon jfl_X6_37 jnil)) jnil jnil (jcon (jsV jlk_X6_83 ⟨rfl, rfl⟩ (jad_Quotient_nextOf F sh hs)) (jcon (jsV jlk_X6_89 ⟨rfl, rfl⟩ (jad_Quotient_lostSet F sh hs)) jnil)) hs
  have rr36 : ∀ (k26 : Int → jxS → Option jxR) (h26 : ∀ v2 σ, jRf X (k26 v2 σ) 26 [some (jmr 58), some (jmr 58), some (jmi v2), none] [] σ) (fu : Nat) (v2 v3 : Int) (σ : jxS), jRf X (Quotient_isAlike_c36 F 58 58 k26 fu v2 v3 σ) 36 [some (jmr 58), some (jmr 58), some (jmi v2), some (jmi v3)] [] σ := by
    intro k26 h26 fu
    induction fu with
    | zero => intros; exact jRf_none
    | succ fu ih =>
      intro v2 v3 σ
      exact jRf_by (jex_ok hG (cs := [(26, [some (.inr (some 58)), some (.inr (some 58)), some (.inl 0), none], [], fun xs σ => match xs with
      | [v2] => k26 v2 σ
      | _ => none), (36, [some (.inr (some 58)), some (.inr (some 58)), some (.inl 0), some (.inl 0)], [], fun xs σ => match xs with
      | [v2, v3] => (Quotient_isAlike_c36 F 58 58 k26 fu) v2 v3 σ
      | _ => none)]) (jcon (jl1 (fun y0 => jl0 (fun σ => h26 y0 σ))) (jcon (jl2 (fun y0 y1 => jl0 (fun σ => ih y0 y1 σ))) jnil)) 44 36 [some (jmr 58), some (jmr 58), some (jmi v2), some (jmi v3)] [] σ) rfl
  have rr26 : ∀ (fu : Nat) (v2 : Int) (σ : jxS), jRf X (Quotient_isAlike_c26 F 58 58 fu v2 σ) 26 [some (jmr 58), some (jmr 58), some (jmi v2), none] [] σ := by
    intro  fu
    induction fu with
    | zero => intros; exact jRf_none
    | succ fu ih =>
      intro v2 σ
      exact jRf_by (jex_ok hG (cs := [(36, [some (.inr (some 58)), some (.inr (some 58)), some (.inl 0), some (.inl 0)], [], fun xs σ => match xs with
      | [v2, v3] => Quotient_isAlike_c36 F 58 58 (Quotient_isAlike_c26 F 58 58 fu) F v2 v3 σ
      | _ => none)]) (jcon (jl2 (fun y0 y1 => jl0 (fun σ => rr36 _ ih F y0 y1 σ))) jnil) 44 26 [some (jmr 58), some (jmr 58), some (jmi v2), none] [] σ) rfl
  exact jRf_by (jex_ok hG (cs := [(26, [some (.inr (some 58)), some (.inr (some 58)), some (.inl 0), none], [], fun xs σ => match xs with
      | [v2] => Quotient_isAlike_c26 F 58 58 F v2 σ
      | _ => none)]) (jcon (jl1 (fun y0 => jl0 (fun σ => rr26 F y0 σ))) jnil) 44 0 [some (jmr 58), some (jmr 58), none, none] [] σ0) rfl
set_option maxRecDepth 100000 in
set_option maxHeartbeats 4000000 in
theorem jmet_Quotient_isAlike_58_63 (F : Nat) (sh : List jxC) (hs : jHas sh jc_C) (σ0 : jxS) (x : Int) (σ' : jxS) (h : Quotient_isAlike F 58 63 σ0 = some (x, σ')) : jMC yX6_isAlike cX6_isAlike 4 (jrt 4) 2 44 sh σ0 [(jmr 58), (jmr 63)] (jrv 4 x) σ' := by
  refine jMC_of (kd := 4) (by decide) rfl h ?_
  intro X hX
  have hG : jGd X (jE_Quotient_isAlike F) jtb_Quotient_isAlike := jGd_of hX jtk_Quotient_isAlike (jcon jfl_X6_25 (jcon jfl_X6_37 jnil)) jnil jnil (jcon (jsV jlk_X6_83 ⟨rfl, rfl⟩ (jad_Quotient_nextOf F sh hs)) (jcon (jsV jlk_X6_89 ⟨rfl, rfl⟩ (jad_Quotient_lostSet F sh hs)) jnil)) hs
  have rr36 : ∀ (k26 : Int → jxS → Option jxR) (h26 : ∀ v2 σ, jRf X (k26 v2 σ) 26 [some (jmr 58), some (jmr 63), some (jmi v2), none] [] σ) (fu : Nat) (v2 v3 : Int) (σ : jxS), jRf X (Quotient_isAlike_c36 F 58 63 k26 fu v2 v3 σ) 36 [some (jmr 58), some (jmr 63), some (jmi v2), some (jmi v3)] [] σ := by
    intro k26 h26 fu
    induction fu with
    | zero => intros; exact jRf_none
    | succ fu ih =>
      intro v2 v3 σ
      exact jRf_by (jex_ok hG (cs := [(26, [some (.inr (some 58)), some (.inr (some 63)), some (.inl 0), none], [], fun xs σ => match xs with
      | [v2] => k26 v2 σ
      | _ => none), (36, [some (.inr (some 58)), some (.inr (some 63)), some (.inl 0), some (.inl 0)], [], fun xs σ => match xs with
      | [v2, v3] => (Quotient_isAlike_c36 F 58 63 k26 fu) v2 v3 σ
      | _ => none)]) (jcon (jl1 (fun y0 => jl0 (fun σ => h26 y0 σ))) (jcon (jl2 (fun y0 y1 => jl0 (fun σ => ih y0 y1 σ))) jnil)) 44 36 [some (jmr 58), some (jmr 63), some (jmi v2), some (jmi v3)] [] σ) rfl
  have rr26 : ∀ (fu : Nat) (v2 : Int) (σ : jxS), jRf X (Quotient_isAlike_c26 F 58 63 fu v2 σ) 26 [some (jmr 58), some (jmr 63), some (jmi v2), none] [] σ := by
    intro  fu
    induction fu with
    | zero => intros; exact jRf_none
    | succ fu ih =>
      intro v2 σ
      exact jRf_by (jex_ok hG (cs := [(36, [some (.inr (some 58)), some (.inr (some 63)), some (.inl 0), some (.inl 0)], [], fun xs σ => match xs with
      | [v2, v3] => Quotient_isAlike_c36 F 58 63 (Quotient_isAlike_c26 F 58 63 fu) F v2 v3 σ
      | _ => none)]) (jcon (jl2 (fun y0 y1 => jl0 (fun σ => rr36 _ ih F y0 y1 σ))) jnil) 44 26 [some (jmr 58), some (jmr 63), some (jmi v2), none] [] σ) rfl
  exact jRf_by (jex_ok hG (cs := [(26, [some (.inr (some 58)), some (.inr (some 63)), some (.inl 0), none], [], fun xs σ => match xs with
      | [v2] => Quotient_isAlike_c26 F 58 63 F v2 σ
      | _ => none)]) (jcon (jl1 (fun y0 => jl0 (fun σ => rr26 F y0 σ))) jnil) 44 0 [some (jmr 58), some (jmr 63), none, none] [] σ0) rfl
set_option maxRecDepth 100000 in
set_option maxHeartbeats 4000000 in
theorem jmet_Quotient_isAlike_58_68 (F : Nat) (sh : List jxC) (hs : jHas sh jc_C) (σ0 : jxS) (x : Int) (σ' : jxS) (h : Quotient_isAlike F 58 68 σ0 = some (x, σ')) : jMC yX6_isAlike cX6_isAlike 4 (jrt 4) 2 44 sh σ0 [(jmr 58), (jmr 68)] (jrv 4 x) σ' := by
  refine jMC_of (kd := 4) (by decide) rfl h ?_
  intro X hX
  have hG : jGd X (jE_Quotient_isAlike F) jtb_Quotient_isAlike := jGd_of hX jtk_Quotient_isAlike (jcon jfl_X6_25 (jcon jfl_X6_37 jnil)) jnil jnil (jcon (jsV jlk_X6_83 ⟨rfl, rfl⟩ (jad_Quotient_nextOf F sh hs)) (jcon (jsV jlk_X6_89 ⟨rfl, rfl⟩ (jad_Quotient_lostSet F sh hs)) jnil)) hs
  have rr36 : ∀ (k26 : Int → jxS → Option jxR) (h26 : ∀ v2 σ, jRf X (k26 v2 σ) 26 [some (jmr 58), some (jmr 68), some (jmi v2), none] [] σ) (fu : Nat) (v2 v3 : Int) (σ : jxS), jRf X (Quotient_isAlike_c36 F 58 68 k26 fu v2 v3 σ) 36 [some (jmr 58), some (jmr 68), some (jmi v2), some (jmi v3)] [] σ := by
    intro k26 h26 fu
    induction fu with
    | zero => intros; exact jRf_none
    | succ fu ih =>
      intro v2 v3 σ
      exact jRf_by (jex_ok hG (cs := [(26, [some (.inr (some 58)), some (.inr (some 68)), some (.inl 0), none], [], fun xs σ => match xs with
      | [v2] => k26 v2 σ
      | _ => none), (36, [some (.inr (some 58)), some (.inr (some 68)), some (.inl 0), some (.inl 0)], [], fun xs σ => match xs with
      | [v2, v3] => (Quotient_isAlike_c36 F 58 68 k26 fu) v2 v3 σ
      | _ => none)]) (jcon (jl1 (fun y0 => jl0 (fun σ => h26 y0 σ))) (jcon (jl2 (fun y0 y1 => jl0 (fun σ => ih y0 y1 σ))) jnil)) 44 36 [some (jmr 58), some (jmr 68), some (jmi v2), some (jmi v3)] [] σ) rfl
  have rr26 : ∀ (fu : Nat) (v2 : Int) (σ : jxS), jRf X (Quotient_isAlike_c26 F 58 68 fu v2 σ) 26 [some (jmr 58), some (jmr 68), some (jmi v2), none] [] σ := by
    intro  fu
    induction fu with
    | zero => intros; exact jRf_none
    | succ fu ih =>
      intro v2 σ
      exact jRf_by (jex_ok hG (cs := [(36, [some (.inr (some 58)), some (.inr (some 68)), some (.inl 0), some (.inl 0)], [], fun xs σ => match xs with
      | [v2, v3] => Quotient_isAlike_c36 F 58 68 (Quotient_isAlike_c26 F 58 68 fu) F v2 v3 σ
      | _ => none)]) (jcon (jl2 (fun y0 y1 => jl0 (fun σ => rr36 _ ih F y0 y1 σ))) jnil) 44 26 [some (jmr 58), some (jmr 68), some (jmi v2), none] [] σ) rfl
  exact jRf_by (jex_ok hG (cs := [(26, [some (.inr (some 58)), some (.inr (some 68)), some (.inl 0), none], [], fun xs σ => match xs with
      | [v2] => Quotient_isAlike_c26 F 58 68 F v2 σ
      | _ => none)]) (jcon (jl1 (fun y0 => jl0 (fun σ => rr26 F y0 σ))) jnil) 44 0 [some (jmr 58), some (jmr 68), none, none] [] σ0) rfl
set_option maxRecDepth 100000 in
set_option maxHeartbeats 4000000 in
theorem jmet_Quotient_isAlike_58_73 (F : Nat) (sh : List jxC) (hs : jHas sh jc_C) (σ0 : jxS) (x : Int) (σ' : jxS) (h : Quotient_isAlike F 58 73 σ0 = some (x, σ')) : jMC yX6_isAlike cX6_isAlike 4 (jrt 4) 2 44 sh σ0 [(jmr 58), (jmr 73)] (jrv 4 x) σ' := by
  refine jMC_of (kd := 4) (by decide) rfl h ?_
  intro X hX
  have hG : jGd X (jE_Quotient_isAlike F) jtb_Quotient_isAlike := jGd_of hX jtk_Quotient_isAlike (jcon jfl_X6_25 (jcon jfl_X6_37 jnil)) jnil jnil (jcon (jsV jlk_X6_83 ⟨rfl, rfl⟩ (jad_Quotient_nextOf F sh hs)) (jcon (jsV jlk_X6_89 ⟨rfl, rfl⟩ (jad_Quotient_lostSet F sh hs)) jnil)) hs
  have rr36 : ∀ (k26 : Int → jxS → Option jxR) (h26 : ∀ v2 σ, jRf X (k26 v2 σ) 26 [some (jmr 58), some (jmr 73), some (jmi v2), none] [] σ) (fu : Nat) (v2 v3 : Int) (σ : jxS), jRf X (Quotient_isAlike_c36 F 58 73 k26 fu v2 v3 σ) 36 [some (jmr 58), some (jmr 73), some (jmi v2), some (jmi v3)] [] σ := by
    intro k26 h26 fu
    induction fu with
    | zero => intros; exact jRf_none
    | succ fu ih =>
      intro v2 v3 σ
      exact jRf_by (jex_ok hG (cs := [(26, [some (.inr (some 58)), some (.inr (some 73)), some (.inl 0), none], [], fun xs σ => match xs with
      | [v2] => k26 v2 σ
      | _ => none), (36, [some (.inr (some 58)), some (.inr (some 73)), some (.inl 0), some (.inl 0)], [], fun xs σ => match xs with
      | [v2, v3] => (Quotient_isAlike_c36 F 58 73 k26 fu) v2 v3 σ
      | _ => none)]) (jcon (jl1 (fun y0 => jl0 (fun σ => h26 y0 σ))) (jcon (jl2 (fun y0 y1 => jl0 (fun σ => ih y0 y1 σ))) jnil)) 44 36 [some (jmr 58), some (jmr 73), some (jmi v2), some (jmi v3)] [] σ) rfl
  have rr26 : ∀ (fu : Nat) (v2 : Int) (σ : jxS), jRf X (Quotient_isAlike_c26 F 58 73 fu v2 σ) 26 [some (jmr 58), some (jmr 73), some (jmi v2), none] [] σ := by
    intro  fu
    induction fu with
    | zero => intros; exact jRf_none
    | succ fu ih =>
      intro v2 σ
      exact jRf_by (jex_ok hG (cs := [(36, [some (.inr (some 58)), some (.inr (some 73)), some (.inl 0), some (.inl 0)], [], fun xs σ => match xs with
      | [v2, v3] => Quotient_isAlike_c36 F 58 73 (Quotient_isAlike_c26 F 58 73 fu) F v2 v3 σ
      | _ => none)]) (jcon (jl2 (fun y0 y1 => jl0 (fun σ => rr36 _ ih F y0 y1 σ))) jnil) 44 26 [some (jmr 58), some (jmr 73), some (jmi v2), none] [] σ) rfl
  exact jRf_by (jex_ok hG (cs := [(26, [some (.inr (some 58)), some (.inr (some 73)), some (.inl 0), none], [], fun xs σ => match xs with
      | [v2] => Quotient_isAlike_c26 F 58 73 F v2 σ
      | _ => none)]) (jcon (jl1 (fun y0 => jl0 (fun σ => rr26 F y0 σ))) jnil) 44 0 [some (jmr 58), some (jmr 73), none, none] [] σ0) rfl
set_option maxRecDepth 100000 in
set_option maxHeartbeats 4000000 in
theorem jmet_Quotient_isAlike_63_48 (F : Nat) (sh : List jxC) (hs : jHas sh jc_C) (σ0 : jxS) (x : Int) (σ' : jxS) (h : Quotient_isAlike F 63 48 σ0 = some (x, σ')) : jMC yX6_isAlike cX6_isAlike 4 (jrt 4) 2 44 sh σ0 [(jmr 63), (jmr 48)] (jrv 4 x) σ' := by
  refine jMC_of (kd := 4) (by decide) rfl h ?_
  intro X hX
  have hG : jGd X (jE_Quotient_isAlike F) jtb_Quotient_isAlike := jGd_of hX jtk_Quotient_isAlike (jcon jfl_X6_25 (jcon jfl_X6_37 jnil)) jnil jnil (jcon (jsV jlk_X6_83 ⟨rfl, rfl⟩ (jad_Quotient_nextOf F sh hs)) (jcon (jsV jlk_X6_89 ⟨rfl, rfl⟩ (jad_Quotient_lostSet F sh hs)) jnil)) hs
  have rr36 : ∀ (k26 : Int → jxS → Option jxR) (h26 : ∀ v2 σ, jRf X (k26 v2 σ) 26 [some (jmr 63), some (jmr 48), some (jmi v2), none] [] σ) (fu : Nat) (v2 v3 : Int) (σ : jxS), jRf X (Quotient_isAlike_c36 F 63 48 k26 fu v2 v3 σ) 36 [some (jmr 63), some (jmr 48), some (jmi v2), some (jmi v3)] [] σ := by
    intro k26 h26 fu
    induction fu with
    | zero => intros; exact jRf_none
    | succ fu ih =>
      intro v2 v3 σ
      exact jRf_by (jex_ok hG (cs := [(26, [some (.inr (some 63)), some (.inr (some 48)), some (.inl 0), none], [], fun xs σ => match xs with
      | [v2] => k26 v2 σ
      | _ => none), (36, [some (.inr (some 63)), some (.inr (some 48)), some (.inl 0), some (.inl 0)], [], fun xs σ => match xs with
      | [v2, v3] => (Quotient_isAlike_c36 F 63 48 k26 fu) v2 v3 σ
      | _ => none)]) (jcon (jl1 (fun y0 => jl0 (fun σ => h26 y0 σ))) (jcon (jl2 (fun y0 y1 => jl0 (fun σ => ih y0 y1 σ))) jnil)) 44 36 [some (jmr 63), some (jmr 48), some (jmi v2), some (jmi v3)] [] σ) rfl
  have rr26 : ∀ (fu : Nat) (v2 : Int) (σ : jxS), jRf X (Quotient_isAlike_c26 F 63 48 fu v2 σ) 26 [some (jmr 63), some (jmr 48), some (jmi v2), none] [] σ := by
    intro  fu
    induction fu with
    | zero => intros; exact jRf_none
    | succ fu ih =>
      intro v2 σ
      exact jRf_by (jex_ok hG (cs := [(36, [some (.inr (some 63)), some (.inr (some 48)), some (.inl 0), some (.inl 0)], [], fun xs σ => match xs with
      | [v2, v3] => Quotient_isAlike_c36 F 63 48 (Quotient_isAlike_c26 F 63 48 fu) F v2 v3 σ
      | _ => none)]) (jcon (jl2 (fun y0 y1 => jl0 (fun σ => rr36 _ ih F y0 y1 σ))) jnil) 44 26 [some (jmr 63), some (jmr 48), some (jmi v2), none] [] σ) rfl
  exact jRf_by (jex_ok hG (cs := [(26, [some (.inr (some 63)), some (.inr (some 48)), some (.inl 0), none], [], fun xs σ => match xs with
      | [v2] => Quotient_isAlike_c26 F 63 48 F v2 σ
      | _ => none)]) (jcon (jl1 (fun y0 => jl0 (fun σ => rr26 F y0 σ))) jnil) 44 0 [some (jmr 63), some (jmr 48), none, none] [] σ0) rfl
set_option maxRecDepth 100000 in
set_option maxHeartbeats 4000000 in
theorem jmet_Quotient_isAlike_63_53 (F : Nat) (sh : List jxC) (hs : jHas sh jc_C) (σ0 : jxS) (x : Int) (σ' : jxS) (h : Quotient_isAlike F 63 53 σ0 = some (x, σ')) : jMC yX6_isAlike cX6_isAlike 4 (jrt 4) 2 44 sh σ0 [(jmr 63), (jmr 53)] (jrv 4 x) σ' := by
  refine jMC_of (kd := 4) (by decide) rfl h ?_
  intro X hX
  have hG : jGd X (jE_Quotient_isAlike F) jtb_Quotient_isAlike := jGd_of hX jtk_Quotient_isAlike (jcon jfl_X6_25 (jcon jfl_X6_37 jnil)) jnil jnil (jcon (jsV jlk_X6_83 ⟨rfl, rfl⟩ (jad_Quotient_nextOf F sh hs)) (jcon (jsV jlk_X6_89 ⟨rfl, rfl⟩ (jad_Quotient_lostSet F sh hs)) jnil)) hs
  have rr36 : ∀ (k26 : Int → jxS → Option jxR) (h26 : ∀ v2 σ, jRf X (k26 v2 σ) 26 [some (jmr 63), some (jmr 53), some (jmi v2), none] [] σ) (fu : Nat) (v2 v3 : Int) (σ : jxS), jRf X (Quotient_isAlike_c36 F 63 53 k26 fu v2 v3 σ) 36 [some (jmr 63), some (jmr 53), some (jmi v2), some (jmi v3)] [] σ := by
    intro k26 h26 fu
    induction fu with
    | zero => intros; exact jRf_none
    | succ fu ih =>
      intro v2 v3 σ
      exact jRf_by (jex_ok hG (cs := [(26, [some (.inr (some 63)), some (.inr (some 53)), some (.inl 0), none], [], fun xs σ => match xs with
      | [v2] => k26 v2 σ
      | _ => none), (36, [some (.inr (some 63)), some (.inr (some 53)), some (.inl 0), some (.inl 0)], [], fun xs σ => match xs with
      | [v2, v3] => (Quotient_isAlike_c36 F 63 53 k26 fu) v2 v3 σ
      | _ => none)]) (jcon (jl1 (fun y0 => jl0 (fun σ => h26 y0 σ))) (jcon (jl2 (fun y0 y1 => jl0 (fun σ => ih y0 y1 σ))) jnil)) 44 36 [some (jmr 63), some (jmr 53), some (jmi v2), some (jmi v3)] [] σ) rfl
  have rr26 : ∀ (fu : Nat) (v2 : Int) (σ : jxS), jRf X (Quotient_isAlike_c26 F 63 53 fu v2 σ) 26 [some (jmr 63), some (jmr 53), some (jmi v2), none] [] σ := by
    intro  fu
    induction fu with
    | zero => intros; exact jRf_none
    | succ fu ih =>
      intro v2 σ
      exact jRf_by (jex_ok hG (cs := [(36, [some (.inr (some 63)), some (.inr (some 53)), some (.inl 0), some (.inl 0)], [], fun xs σ => match xs with
      | [v2, v3] => Quotient_isAlike_c36 F 63 53 (Quotient_isAlike_c26 F 63 53 fu) F v2 v3 σ
      | _ => none)]) (jcon (jl2 (fun y0 y1 => jl0 (fun σ => rr36 _ ih F y0 y1 σ))) jnil) 44 26 [some (jmr 63), some (jmr 53), some (jmi v2), none] [] σ) rfl
  exact jRf_by (jex_ok hG (cs := [(26, [some (.inr (some 63)), some (.inr (some 53)), some (.inl 0), none], [], fun xs σ => match xs with
      | [v2] => Quotient_isAlike_c26 F 63 53 F v2 σ
      | _ => none)]) (jcon (jl1 (fun y0 => jl0 (fun σ => rr26 F y0 σ))) jnil) 44 0 [some (jmr 63), some (jmr 53), none, none] [] σ0) rfl
set_option maxRecDepth 100000 in
set_option maxHeartbeats 4000000 in
theorem jmet_Quotient_isAlike_63_58 (F : Nat) (sh : List jxC) (hs : jHas sh jc_C) (σ0 : jxS) (x : Int) (σ' : jxS) (h : Quotient_isAlike F 63 58 σ0 = some (x, σ')) : jMC yX6_isAlike cX6_isAlike 4 (jrt 4) 2 44 sh σ0 [(jmr 63), (jmr 58)] (jrv 4 x) σ' := by
  refine jMC_of (kd := 4) (by decide) rfl h ?_
  intro X hX
  have hG : jGd X (jE_Quotient_isAlike F) jtb_Quotient_isAlike := jGd_of hX jtk_Quotient_isAlike (jcon jfl_X6_25 (jcon jfl_X6_37 jnil)) jnil jnil (jcon (jsV jlk_X6_83 ⟨rfl, rfl⟩ (jad_Quotient_nextOf F sh hs)) (jcon (jsV jlk_X6_89 ⟨rfl, rfl⟩ (jad_Quotient_lostSet F sh hs)) jnil)) hs
  have rr36 : ∀ (k26 : Int → jxS → Option jxR) (h26 : ∀ v2 σ, jRf X (k26 v2 σ) 26 [some (jmr 63), some (jmr 58), some (jmi v2), none] [] σ) (fu : Nat) (v2 v3 : Int) (σ : jxS), jRf X (Quotient_isAlike_c36 F 63 58 k26 fu v2 v3 σ) 36 [some (jmr 63), some (jmr 58), some (jmi v2), some (jmi v3)] [] σ := by
    intro k26 h26 fu
    induction fu with
    | zero => intros; exact jRf_none
    | succ fu ih =>
      intro v2 v3 σ
      exact jRf_by (jex_ok hG (cs := [(26, [some (.inr (some 63)), some (.inr (some 58)), some (.inl 0), none], [], fun xs σ => match xs with
      | [v2] => k26 v2 σ
      | _ => none), (36, [some (.inr (some 63)), some (.inr (some 58)), some (.inl 0), some (.inl 0)], [], fun xs σ => match xs with
      | [v2, v3] => (Quotient_isAlike_c36 F 63 58 k26 fu) v2 v3 σ
      | _ => none)]) (jcon (jl1 (fun y0 => jl0 (fun σ => h26 y0 σ))) (jcon (jl2 (fun y0 y1 => jl0 (fun σ => ih y0 y1 σ))) jnil)) 44 36 [some (jmr 63), some (jmr 58), some (jmi v2), some (jmi v3)] [] σ) rfl
  have rr26 : ∀ (fu : Nat) (v2 : Int) (σ : jxS), jRf X (Quotient_isAlike_c26 F 63 58 fu v2 σ) 26 [some (jmr 63), some (jmr 58), some (jmi v2), none] [] σ := by
    intro  fu
    induction fu with
    | zero => intros; exact jRf_none
    | succ fu ih =>
      intro v2 σ
      exact jRf_by (jex_ok hG (cs := [(36, [some (.inr (some 63)), some (.inr (some 58)), some (.inl 0), some (.inl 0)], [], fun xs σ => match xs with
      | [v2, v3] => Quotient_isAlike_c36 F 63 58 (Quotient_isAlike_c26 F 63 58 fu) F v2 v3 σ
      | _ => none)]) (jcon (jl2 (fun y0 y1 => jl0 (fun σ => rr36 _ ih F y0 y1 σ))) jnil) 44 26 [some (jmr 63), some (jmr 58), some (jmi v2), none] [] σ) rfl
  exact jRf_by (jex_ok hG (cs := [(26, [some (.inr (some 63)), some (.inr (some 58)), some (.inl 0), none], [], fun xs σ => match xs with
      | [v2] => Quotient_isAlike_c26 F 63 58 F v2 σ
      | _ => none)]) (jcon (jl1 (fun y0 => jl0 (fun σ => rr26 F y0 σ))) jnil) 44 0 [some (jmr 63), some (jmr 58), none, none] [] σ0) rfl
set_option maxRecDepth 100000 in
set_option maxHeartbeats 4000000 in
theorem jmet_Quotient_isAlike_63_63 (F : Nat) (sh : List jxC) (hs : jHas sh jc_C) (σ0 : jxS) (x : Int) (σ' : jxS) (h : Quotient_isAlike F 63 63 σ0 = some (x, σ')) : jMC yX6_isAlike cX6_isAlike 4 (jrt 4) 2 44 sh σ0 [(jmr 63), (jmr 63)] (jrv 4 x) σ' := by
  refine jMC_of (kd := 4) (by decide) rfl h ?_
  intro X hX
  have hG : jGd X (jE_Quotient_isAlike F) jtb_Quotient_isAlike := jGd_of hX jtk_Quotient_isAlike (jcon jfl_X6_25 (jcon jfl_X6_37 jnil)) jnil jnil (jcon (jsV jlk_X6_83 ⟨rfl, rfl⟩ (jad_Quotient_nextOf F sh hs)) (jcon (jsV jlk_X6_89 ⟨rfl, rfl⟩ (jad_Quotient_lostSet F sh hs)) jnil)) hs
  have rr36 : ∀ (k26 : Int → jxS → Option jxR) (h26 : ∀ v2 σ, jRf X (k26 v2 σ) 26 [some (jmr 63), some (jmr 63), some (jmi v2), none] [] σ) (fu : Nat) (v2 v3 : Int) (σ : jxS), jRf X (Quotient_isAlike_c36 F 63 63 k26 fu v2 v3 σ) 36 [some (jmr 63), some (jmr 63), some (jmi v2), some (jmi v3)] [] σ := by
    intro k26 h26 fu
    induction fu with
    | zero => intros; exact jRf_none
    | succ fu ih =>
      intro v2 v3 σ
      exact jRf_by (jex_ok hG (cs := [(26, [some (.inr (some 63)), some (.inr (some 63)), some (.inl 0), none], [], fun xs σ => match xs with
      | [v2] => k26 v2 σ
      | _ => none), (36, [some (.inr (some 63)), some (.inr (some 63)), some (.inl 0), some (.inl 0)], [], fun xs σ => match xs with
      | [v2, v3] => (Quotient_isAlike_c36 F 63 63 k26 fu) v2 v3 σ
      | _ => none)]) (jcon (jl1 (fun y0 => jl0 (fun σ => h26 y0 σ))) (jcon (jl2 (fun y0 y1 => jl0 (fun σ => ih y0 y1 σ))) jnil)) 44 36 [some (jmr 63), some (jmr 63), some (jmi v2), some (jmi v3)] [] σ) rfl
  have rr26 : ∀ (fu : Nat) (v2 : Int) (σ : jxS), jRf X (Quotient_isAlike_c26 F 63 63 fu v2 σ) 26 [some (jmr 63), some (jmr 63), some (jmi v2), none] [] σ := by
    intro  fu
    induction fu with
    | zero => intros; exact jRf_none
    | succ fu ih =>
      intro v2 σ
      exact jRf_by (jex_ok hG (cs := [(36, [some (.inr (some 63)), some (.inr (some 63)), some (.inl 0), some (.inl 0)], [], fun xs σ => match xs with
      | [v2, v3] => Quotient_isAlike_c36 F 63 63 (Quotient_isAlike_c26 F 63 63 fu) F v2 v3 σ
      | _ => none)]) (jcon (jl2 (fun y0 y1 => jl0 (fun σ => rr36 _ ih F y0 y1 σ))) jnil) 44 26 [some (jmr 63), some (jmr 63), some (jmi v2), none] [] σ) rfl
  exact jRf_by (jex_ok hG (cs := [(26, [some (.inr (some 63)), some (.inr (some 63)), some (.inl 0), none], [], fun xs σ => match xs with
      | [v2] => Quotient_isAlike_c26 F 63 63 F v2 σ
      | _ => none)]) (jcon (jl1 (fun y0 => jl0 (fun σ => rr26 F y0 σ))) jnil) 44 0 [some (jmr 63), some (jmr 63), none, none] [] σ0) rfl
set_option maxRecDepth 100000 in
set_option maxHeartbeats 4000000 in
theorem jmet_Quotient_isAlike_63_68 (F : Nat) (sh : List jxC) (hs : jHas sh jc_C) (σ0 : jxS) (x : Int) (σ' : jxS) (h : Quotient_isAlike F 63 68 σ0 = some (x, σ')) : jMC yX6_isAlike cX6_isAlike 4 (jrt 4) 2 44 sh σ0 [(jmr 63), (jmr 68)] (jrv 4 x) σ' := by
  refine jMC_of (kd := 4) (by decide) rfl h ?_
  intro X hX
  have hG : jGd X (jE_Quotient_isAlike F) jtb_Quotient_isAlike := jGd_of hX jtk_Quotient_isAlike (jcon jfl_X6_25 (jcon jfl_X6_37 jnil)) jnil jnil (jcon (jsV jlk_X6_83 ⟨rfl, rfl⟩ (jad_Quotient_nextOf F sh hs)) (jcon (jsV jlk_X6_89 ⟨rfl, rfl⟩ (jad_Quotient_lostSet F sh hs)) jnil)) hs
  have rr36 : ∀ (k26 : Int → jxS → Option jxR) (h26 : ∀ v2 σ, jRf X (k26 v2 σ) 26 [some (jmr 63), some (jmr 68), some (jmi v2), none] [] σ) (fu : Nat) (v2 v3 : Int) (σ : jxS), jRf X (Quotient_isAlike_c36 F 63 68 k26 fu v2 v3 σ) 36 [some (jmr 63), some (jmr 68), some (jmi v2), some (jmi v3)] [] σ := by
    intro k26 h26 fu
    induction fu with
    | zero => intros; exact jRf_none
    | succ fu ih =>
      intro v2 v3 σ
      exact jRf_by (jex_ok hG (cs := [(26, [some (.inr (some 63)), some (.inr (some 68)), some (.inl 0), none], [], fun xs σ => match xs with
      | [v2] => k26 v2 σ
      | _ => none), (36, [some (.inr (some 63)), some (.inr (some 68)), some (.inl 0), some (.inl 0)], [], fun xs σ => match xs with
      | [v2, v3] => (Quotient_isAlike_c36 F 63 68 k26 fu) v2 v3 σ
      | _ => none)]) (jcon (jl1 (fun y0 => jl0 (fun σ => h26 y0 σ))) (jcon (jl2 (fun y0 y1 => jl0 (fun σ => ih y0 y1 σ))) jnil)) 44 36 [some (jmr 63), some (jmr 68), some (jmi v2), some (jmi v3)] [] σ) rfl
  have rr26 : ∀ (fu : Nat) (v2 : Int) (σ : jxS), jRf X (Quotient_isAlike_c26 F 63 68 fu v2 σ) 26 [some (jmr 63), some (jmr 68), some (jmi v2), none] [] σ := by
    intro  fu
    induction fu with
    | zero => intros; exact jRf_none
    | succ fu ih =>
      intro v2 σ
      exact jRf_by (jex_ok hG (cs := [(36, [some (.inr (some 63)), some (.inr (some 68)), some (.inl 0), some (.inl 0)], [], fun xs σ => match xs with
      | [v2, v3] => Quotient_isAlike_c36 F 63 68 (Quotient_isAlike_c26 F 63 68 fu) F v2 v3 σ
      | _ => none)]) (jcon (jl2 (fun y0 y1 => jl0 (fun σ => rr36 _ ih F y0 y1 σ))) jnil) 44 26 [some (jmr 63), some (jmr 68), some (jmi v2), none] [] σ) rfl
  exact jRf_by (jex_ok hG (cs := [(26, [some (.inr (some 63)), some (.inr (some 68)), some (.inl 0), none], [], fun xs σ => match xs with
      | [v2] => Quotient_isAlike_c26 F 63 68 F v2 σ
      | _ => none)]) (jcon (jl1 (fun y0 => jl0 (fun σ => rr26 F y0 σ))) jnil) 44 0 [some (jmr 63), some (jmr 68), none, none] [] σ0) rfl
set_option maxRecDepth 100000 in
set_option maxHeartbeats 4000000 in
theorem jmet_Quotient_isAlike_63_73 (F : Nat) (sh : List jxC) (hs : jHas sh jc_C) (σ0 : jxS) (x : Int) (σ' : jxS) (h : Quotient_isAlike F 63 73 σ0 = some (x, σ')) : jMC yX6_isAlike cX6_isAlike 4 (jrt 4) 2 44 sh σ0 [(jmr 63), (jmr 73)] (jrv 4 x) σ' := by
  refine jMC_of (kd := 4) (by decide) rfl h ?_
  intro X hX
  have hG : jGd X (jE_Quotient_isAlike F) jtb_Quotient_isAlike := jGd_of hX jtk_Quotient_isAlike (jcon jfl_X6_25 (jcon jfl_X6_37 jnil)) jnil jnil (jcon (jsV jlk_X6_83 ⟨rfl, rfl⟩ (jad_Quotient_nextOf F sh hs)) (jcon (jsV jlk_X6_89 ⟨rfl, rfl⟩ (jad_Quotient_lostSet F sh hs)) jnil)) hs
  have rr36 : ∀ (k26 : Int → jxS → Option jxR) (h26 : ∀ v2 σ, jRf X (k26 v2 σ) 26 [some (jmr 63), some (jmr 73), some (jmi v2), none] [] σ) (fu : Nat) (v2 v3 : Int) (σ : jxS), jRf X (Quotient_isAlike_c36 F 63 73 k26 fu v2 v3 σ) 36 [some (jmr 63), some (jmr 73), some (jmi v2), some (jmi v3)] [] σ := by
    intro k26 h26 fu
    induction fu with
    | zero => intros; exact jRf_none
    | succ fu ih =>
      intro v2 v3 σ
      exact jRf_by (jex_ok hG (cs := [(26, [some (.inr (some 63)), some (.inr (some 73)), some (.inl 0), none], [], fun xs σ => match xs with
      | [v2] => k26 v2 σ
      | _ => none), (36, [some (.inr (some 63)), some (.inr (some 73)), some (.inl 0), some (.inl 0)], [], fun xs σ => match xs with
      | [v2, v3] => (Quotient_isAlike_c36 F 63 73 k26 fu) v2 v3 σ
      | _ => none)]) (jcon (jl1 (fun y0 => jl0 (fun σ => h26 y0 σ))) (jcon (jl2 (fun y0 y1 => jl0 (fun σ => ih y0 y1 σ))) jnil)) 44 36 [some (jmr 63), some (jmr 73), some (jmi v2), some (jmi v3)] [] σ) rfl
  have rr26 : ∀ (fu : Nat) (v2 : Int) (σ : jxS), jRf X (Quotient_isAlike_c26 F 63 73 fu v2 σ) 26 [some (jmr 63), some (jmr 73), some (jmi v2), none] [] σ := by
    intro  fu
    induction fu with
    | zero => intros; exact jRf_none
    | succ fu ih =>
      intro v2 σ
      exact jRf_by (jex_ok hG (cs := [(36, [some (.inr (some 63)), some (.inr (some 73)), some (.inl 0), some (.inl 0)], [], fun xs σ => match xs with
      | [v2, v3] => Quotient_isAlike_c36 F 63 73 (Quotient_isAlike_c26 F 63 73 fu) F v2 v3 σ
      | _ => none)]) (jcon (jl2 (fun y0 y1 => jl0 (fun σ => rr36 _ ih F y0 y1 σ))) jnil) 44 26 [some (jmr 63), some (jmr 73), some (jmi v2), none] [] σ) rfl
  exact jRf_by (jex_ok hG (cs := [(26, [some (.inr (some 63)), some (.inr (some 73)), some (.inl 0), none], [], fun xs σ => match xs with
      | [v2] => Quotient_isAlike_c26 F 63 73 F v2 σ
      | _ => none)]) (jcon (jl1 (fun y0 => jl0 (fun σ => rr26 F y0 σ))) jnil) 44 0 [some (jmr 63), some (jmr 73), none, none] [] σ0) rfl
set_option maxRecDepth 100000 in
set_option maxHeartbeats 4000000 in
theorem jmet_Quotient_isAlike_68_48 (F : Nat) (sh : List jxC) (hs : jHas sh jc_C) (σ0 : jxS) (x : Int) (σ' : jxS) (h : Quotient_isAlike F 68 48 σ0 = some (x, σ')) : jMC yX6_isAlike cX6_isAlike 4 (jrt 4) 2 44 sh σ0 [(jmr 68), (jmr 48)] (jrv 4 x) σ' := by
  refine jMC_of (kd := 4) (by decide) rfl h ?_
  intro X hX
  have hG : jGd X (jE_Quotient_isAlike F) jtb_Quotient_isAlike := jGd_of hX jtk_Quotient_isAlike (jcon jfl_X6_25 (jcon jfl_X6_37 jnil)) jnil jnil (jcon (jsV jlk_X6_83 ⟨rfl, rfl⟩ (jad_Quotient_nextOf F sh hs)) (jcon (jsV jlk_X6_89 ⟨rfl, rfl⟩ (jad_Quotient_lostSet F sh hs)) jnil)) hs
  have rr36 : ∀ (k26 : Int → jxS → Option jxR) (h26 : ∀ v2 σ, jRf X (k26 v2 σ) 26 [some (jmr 68), some (jmr 48), some (jmi v2), none] [] σ) (fu : Nat) (v2 v3 : Int) (σ : jxS), jRf X (Quotient_isAlike_c36 F 68 48 k26 fu v2 v3 σ) 36 [some (jmr 68), some (jmr 48), some (jmi v2), some (jmi v3)] [] σ := by
    intro k26 h26 fu
    induction fu with
    | zero => intros; exact jRf_none
    | succ fu ih =>
      intro v2 v3 σ
      exact jRf_by (jex_ok hG (cs := [(26, [some (.inr (some 68)), some (.inr (some 48)), some (.inl 0), none], [], fun xs σ => match xs with
      | [v2] => k26 v2 σ
      | _ => none), (36, [some (.inr (some 68)), some (.inr (some 48)), some (.inl 0), some (.inl 0)], [], fun xs σ => match xs with
      | [v2, v3] => (Quotient_isAlike_c36 F 68 48 k26 fu) v2 v3 σ
      | _ => none)]) (jcon (jl1 (fun y0 => jl0 (fun σ => h26 y0 σ))) (jcon (jl2 (fun y0 y1 => jl0 (fun σ => ih y0 y1 σ))) jnil)) 44 36 [some (jmr 68), some (jmr 48), some (jmi v2), some (jmi v3)] [] σ) rfl
  have rr26 : ∀ (fu : Nat) (v2 : Int) (σ : jxS), jRf X (Quotient_isAlike_c26 F 68 48 fu v2 σ) 26 [some (jmr 68), some (jmr 48), some (jmi v2), none] [] σ := by
    intro  fu
    induction fu with
    | zero => intros; exact jRf_none
    | succ fu ih =>
      intro v2 σ
      exact jRf_by (jex_ok hG (cs := [(36, [some (.inr (some 68)), some (.inr (some 48)), some (.inl 0), some (.inl 0)], [], fun xs σ => match xs with
      | [v2, v3] => Quotient_isAlike_c36 F 68 48 (Quotient_isAlike_c26 F 68 48 fu) F v2 v3 σ
      | _ => none)]) (jcon (jl2 (fun y0 y1 => jl0 (fun σ => rr36 _ ih F y0 y1 σ))) jnil) 44 26 [some (jmr 68), some (jmr 48), some (jmi v2), none] [] σ) rfl
  exact jRf_by (jex_ok hG (cs := [(26, [some (.inr (some 68)), some (.inr (some 48)), some (.inl 0), none], [], fun xs σ => match xs with
      | [v2] => Quotient_isAlike_c26 F 68 48 F v2 σ
      | _ => none)]) (jcon (jl1 (fun y0 => jl0 (fun σ => rr26 F y0 σ))) jnil) 44 0 [some (jmr 68), some (jmr 48), none, none] [] σ0) rfl
set_option maxRecDepth 100000 in
set_option maxHeartbeats 4000000 in
theorem jmet_Quotient_isAlike_68_53 (F : Nat) (sh : List jxC) (hs : jHas sh jc_C) (σ0 : jxS) (x : Int) (σ' : jxS) (h : Quotient_isAlike F 68 53 σ0 = some (x, σ')) : jMC yX6_isAlike cX6_isAlike 4 (jrt 4) 2 44 sh σ0 [(jmr 68), (jmr 53)] (jrv 4 x) σ' := by
  refine jMC_of (kd := 4) (by decide) rfl h ?_
  intro X hX
  have hG : jGd X (jE_Quotient_isAlike F) jtb_Quotient_isAlike := jGd_of hX jtk_Quotient_isAlike (jcon jfl_X6_25 (jcon jfl_X6_37 jnil)) jnil jnil (jcon (jsV jlk_X6_83 ⟨rfl, rfl⟩ (jad_Quotient_nextOf F sh hs)) (jcon (jsV jlk_X6_89 ⟨rfl, rfl⟩ (jad_Quotient_lostSet F sh hs)) jnil)) hs
  have rr36 : ∀ (k26 : Int → jxS → Option jxR) (h26 : ∀ v2 σ, jRf X (k26 v2 σ) 26 [some (jmr 68), some (jmr 53), some (jmi v2), none] [] σ) (fu : Nat) (v2 v3 : Int) (σ : jxS), jRf X (Quotient_isAlike_c36 F 68 53 k26 fu v2 v3 σ) 36 [some (jmr 68), some (jmr 53), some (jmi v2), some (jmi v3)] [] σ := by
    intro k26 h26 fu
    induction fu with
    | zero => intros; exact jRf_none
    | succ fu ih =>
      intro v2 v3 σ
      exact jRf_by (jex_ok hG (cs := [(26, [some (.inr (some 68)), some (.inr (some 53)), some (.inl 0), none], [], fun xs σ => match xs with
      | [v2] => k26 v2 σ
      | _ => none), (36, [some (.inr (some 68)), some (.inr (some 53)), some (.inl 0), some (.inl 0)], [], fun xs σ => match xs with
      | [v2, v3] => (Quotient_isAlike_c36 F 68 53 k26 fu) v2 v3 σ
      | _ => none)]) (jcon (jl1 (fun y0 => jl0 (fun σ => h26 y0 σ))) (jcon (jl2 (fun y0 y1 => jl0 (fun σ => ih y0 y1 σ))) jnil)) 44 36 [some (jmr 68), some (jmr 53), some (jmi v2), some (jmi v3)] [] σ) rfl
  have rr26 : ∀ (fu : Nat) (v2 : Int) (σ : jxS), jRf X (Quotient_isAlike_c26 F 68 53 fu v2 σ) 26 [some (jmr 68), some (jmr 53), some (jmi v2), none] [] σ := by
    intro  fu
    induction fu with
    | zero => intros; exact jRf_none
    | succ fu ih =>
      intro v2 σ
      exact jRf_by (jex_ok hG (cs := [(36, [some (.inr (some 68)), some (.inr (some 53)), some (.inl 0), some (.inl 0)], [], fun xs σ => match xs with
      | [v2, v3] => Quotient_isAlike_c36 F 68 53 (Quotient_isAlike_c26 F 68 53 fu) F v2 v3 σ
      | _ => none)]) (jcon (jl2 (fun y0 y1 => jl0 (fun σ => rr36 _ ih F y0 y1 σ))) jnil) 44 26 [some (jmr 68), some (jmr 53), some (jmi v2), none] [] σ) rfl
  exact jRf_by (jex_ok hG (cs := [(26, [some (.inr (some 68)), some (.inr (some 53)), some (.inl 0), none], [], fun xs σ => match xs with
      | [v2] => Quotient_isAlike_c26 F 68 53 F v2 σ
      | _ => none)]) (jcon (jl1 (fun y0 => jl0 (fun σ => rr26 F y0 σ))) jnil) 44 0 [some (jmr 68), some (jmr 53), none, none] [] σ0) rfl
set_option maxRecDepth 100000 in
set_option maxHeartbeats 4000000 in
theorem jmet_Quotient_isAlike_68_58 (F : Nat) (sh : List jxC) (hs : jHas sh jc_C) (σ0 : jxS) (x : Int) (σ' : jxS) (h : Quotient_isAlike F 68 58 σ0 = some (x, σ')) : jMC yX6_isAlike cX6_isAlike 4 (jrt 4) 2 44 sh σ0 [(jmr 68), (jmr 58)] (jrv 4 x) σ' := by
  refine jMC_of (kd := 4) (by decide) rfl h ?_
  intro X hX
  have hG : jGd X (jE_Quotient_isAlike F) jtb_Quotient_isAlike := jGd_of hX jtk_Quotient_isAlike (jcon jfl_X6_25 (jcon jfl_X6_37 jnil)) jnil jnil (jcon (jsV jlk_X6_83 ⟨rfl, rfl⟩ (jad_Quotient_nextOf F sh hs)) (jcon (jsV jlk_X6_89 ⟨rfl, rfl⟩ (jad_Quotient_lostSet F sh hs)) jnil)) hs
  have rr36 : ∀ (k26 : Int → jxS → Option jxR) (h26 : ∀ v2 σ, jRf X (k26 v2 σ) 26 [some (jmr 68), some (jmr 58), some (jmi v2), none] [] σ) (fu : Nat) (v2 v3 : Int) (σ : jxS), jRf X (Quotient_isAlike_c36 F 68 58 k26 fu v2 v3 σ) 36 [some (jmr 68), some (jmr 58), some (jmi v2), some (jmi v3)] [] σ := by
    intro k26 h26 fu
    induction fu with
    | zero => intros; exact jRf_none
    | succ fu ih =>
      intro v2 v3 σ
      exact jRf_by (jex_ok hG (cs := [(26, [some (.inr (some 68)), some (.inr (some 58)), some (.inl 0), none], [], fun xs σ => match xs with
      | [v2] => k26 v2 σ
      | _ => none), (36, [some (.inr (some 68)), some (.inr (some 58)), some (.inl 0), some (.inl 0)], [], fun xs σ => match xs with
      | [v2, v3] => (Quotient_isAlike_c36 F 68 58 k26 fu) v2 v3 σ
      | _ => none)]) (jcon (jl1 (fun y0 => jl0 (fun σ => h26 y0 σ))) (jcon (jl2 (fun y0 y1 => jl0 (fun σ => ih y0 y1 σ))) jnil)) 44 36 [some (jmr 68), some (jmr 58), some (jmi v2), some (jmi v3)] [] σ) rfl
  have rr26 : ∀ (fu : Nat) (v2 : Int) (σ : jxS), jRf X (Quotient_isAlike_c26 F 68 58 fu v2 σ) 26 [some (jmr 68), some (jmr 58), some (jmi v2), none] [] σ := by
    intro  fu
    induction fu with
    | zero => intros; exact jRf_none
    | succ fu ih =>
      intro v2 σ
      exact jRf_by (jex_ok hG (cs := [(36, [some (.inr (some 68)), some (.inr (some 58)), some (.inl 0), some (.inl 0)], [], fun xs σ => match xs with
      | [v2, v3] => Quotient_isAlike_c36 F 68 58 (Quotient_isAlike_c26 F 68 58 fu) F v2 v3 σ
      | _ => none)]) (jcon (jl2 (fun y0 y1 => jl0 (fun σ => rr36 _ ih F y0 y1 σ))) jnil) 44 26 [some (jmr 68), some (jmr 58), some (jmi v2), none] [] σ) rfl
  exact jRf_by (jex_ok hG (cs := [(26, [some (.inr (some 68)), some (.inr (some 58)), some (.inl 0), none], [], fun xs σ => match xs with
      | [v2] => Quotient_isAlike_c26 F 68 58 F v2 σ
      | _ => none)]) (jcon (jl1 (fun y0 => jl0 (fun σ => rr26 F y0 σ))) jnil) 44 0 [some (jmr 68), some (jmr 58), none, none] [] σ0) rfl
set_option maxRecDepth 100000 in
set_option maxHeartbeats 4000000 in
theorem jmet_Quotient_isAlike_68_63 (F : Nat) (sh : List jxC) (hs : jHas sh jc_C) (σ0 : jxS) (x : Int) (σ' : jxS) (h : Quotient_isAlike F 68 63 σ0 = some (x, σ')) : jMC yX6_isAlike cX6_isAlike 4 (jrt 4) 2 44 sh σ0 [(jmr 68), (jmr 63)] (jrv 4 x) σ' := by
  refine jMC_of (kd := 4) (by decide) rfl h ?_
  intro X hX
  have hG : jGd X (jE_Quotient_isAlike F) jtb_Quotient_isAlike := jGd_of hX jtk_Quotient_isAlike (jcon jfl_X6_25 (jcon jfl_X6_37 jnil)) jnil jnil (jcon (jsV jlk_X6_83 ⟨rfl, rfl⟩ (jad_Quotient_nextOf F sh hs)) (jcon (jsV jlk_X6_89 ⟨rfl, rfl⟩ (jad_Quotient_lostSet F sh hs)) jnil)) hs
  have rr36 : ∀ (k26 : Int → jxS → Option jxR) (h26 : ∀ v2 σ, jRf X (k26 v2 σ) 26 [some (jmr 68), some (jmr 63), some (jmi v2), none] [] σ) (fu : Nat) (v2 v3 : Int) (σ : jxS), jRf X (Quotient_isAlike_c36 F 68 63 k26 fu v2 v3 σ) 36 [some (jmr 68), some (jmr 63), some (jmi v2), some (jmi v3)] [] σ := by
    intro k26 h26 fu
    induction fu with
    | zero => intros; exact jRf_none
    | succ fu ih =>
      intro v2 v3 σ
      exact jRf_by (jex_ok hG (cs := [(26, [some (.inr (some 68)), some (.inr (some 63)), some (.inl 0), none], [], fun xs σ => match xs with
      | [v2] => k26 v2 σ
      | _ => none), (36, [some (.inr (some 68)), some (.inr (some 63)), some (.inl 0), some (.inl 0)], [], fun xs σ => match xs with
      | [v2, v3] => (Quotient_isAlike_c36 F 68 63 k26 fu) v2 v3 σ
      | _ => none)]) (jcon (jl1 (fun y0 => jl0 (fun σ => h26 y0 σ))) (jcon (jl2 (fun y0 y1 => jl0 (fun σ => ih y0 y1 σ))) jnil)) 44 36 [some (jmr 68), some (jmr 63), some (jmi v2), some (jmi v3)] [] σ) rfl
  have rr26 : ∀ (fu : Nat) (v2 : Int) (σ : jxS), jRf X (Quotient_isAlike_c26 F 68 63 fu v2 σ) 26 [some (jmr 68), some (jmr 63), some (jmi v2), none] [] σ := by
    intro  fu
    induction fu with
    | zero => intros; exact jRf_none
    | succ fu ih =>
      intro v2 σ
      exact jRf_by (jex_ok hG (cs := [(36, [some (.inr (some 68)), some (.inr (some 63)), some (.inl 0), some (.inl 0)], [], fun xs σ => match xs with
      | [v2, v3] => Quotient_isAlike_c36 F 68 63 (Quotient_isAlike_c26 F 68 63 fu) F v2 v3 σ
      | _ => none)]) (jcon (jl2 (fun y0 y1 => jl0 (fun σ => rr36 _ ih F y0 y1 σ))) jnil) 44 26 [some (jmr 68), some (jmr 63), some (jmi v2), none] [] σ) rfl
  exact jRf_by (jex_ok hG (cs := [(26, [some (.inr (some 68)), some (.inr (some 63)), some (.inl 0), none], [], fun xs σ => match xs with
      | [v2] => Quotient_isAlike_c26 F 68 63 F v2 σ
      | _ => none)]) (jcon (jl1 (fun y0 => jl0 (fun σ => rr26 F y0 σ))) jnil) 44 0 [some (jmr 68), some (jmr 63), none, none] [] σ0) rfl
set_option maxRecDepth 100000 in
set_option maxHeartbeats 4000000 in
theorem jmet_Quotient_isAlike_68_68 (F : Nat) (sh : List jxC) (hs : jHas sh jc_C) (σ0 : jxS) (x : Int) (σ' : jxS) (h : Quotient_isAlike F 68 68 σ0 = some (x, σ')) : jMC yX6_isAlike cX6_isAlike 4 (jrt 4) 2 44 sh σ0 [(jmr 68), (jmr 68)] (jrv 4 x) σ' := by
  refine jMC_of (kd := 4) (by decide) rfl h ?_
  intro X hX
  have hG : jGd X (jE_Quotient_isAlike F) jtb_Quotient_isAlike := jGd_of hX jtk_Quotient_isAlike (jcon jfl_X6_25 (jcon jfl_X6_37 jnil)) jnil jnil (jcon (jsV jlk_X6_83 ⟨rfl, rfl⟩ (jad_Quotient_nextOf F sh hs)) (jcon (jsV jlk_X6_89 ⟨rfl, rfl⟩ (jad_Quotient_lostSet F sh hs)) jnil)) hs
  have rr36 : ∀ (k26 : Int → jxS → Option jxR) (h26 : ∀ v2 σ, jRf X (k26 v2 σ) 26 [some (jmr 68), some (jmr 68), some (jmi v2), none] [] σ) (fu : Nat) (v2 v3 : Int) (σ : jxS), jRf X (Quotient_isAlike_c36 F 68 68 k26 fu v2 v3 σ) 36 [some (jmr 68), some (jmr 68), some (jmi v2), some (jmi v3)] [] σ := by
    intro k26 h26 fu
    induction fu with
    | zero => intros; exact jRf_none
    | succ fu ih =>
      intro v2 v3 σ
      exact jRf_by (jex_ok hG (cs := [(26, [some (.inr (some 68)), some (.inr (some 68)), some (.inl 0), none], [], fun xs σ => match xs with
      | [v2] => k26 v2 σ
      | _ => none), (36, [some (.inr (some 68)), some (.inr (some 68)), some (.inl 0), some (.inl 0)], [], fun xs σ => match xs with
      | [v2, v3] => (Quotient_isAlike_c36 F 68 68 k26 fu) v2 v3 σ
      | _ => none)]) (jcon (jl1 (fun y0 => jl0 (fun σ => h26 y0 σ))) (jcon (jl2 (fun y0 y1 => jl0 (fun σ => ih y0 y1 σ))) jnil)) 44 36 [some (jmr 68), some (jmr 68), some (jmi v2), some (jmi v3)] [] σ) rfl
  have rr26 : ∀ (fu : Nat) (v2 : Int) (σ : jxS), jRf X (Quotient_isAlike_c26 F 68 68 fu v2 σ) 26 [some (jmr 68), some (jmr 68), some (jmi v2), none] [] σ := by
    intro  fu
    induction fu with
    | zero => intros; exact jRf_none
    | succ fu ih =>
      intro v2 σ
      exact jRf_by (jex_ok hG (cs := [(36, [some (.inr (some 68)), some (.inr (some 68)), some (.inl 0), some (.inl 0)], [], fun xs σ => match xs with
      | [v2, v3] => Quotient_isAlike_c36 F 68 68 (Quotient_isAlike_c26 F 68 68 fu) F v2 v3 σ
      | _ => none)]) (jcon (jl2 (fun y0 y1 => jl0 (fun σ => rr36 _ ih F y0 y1 σ))) jnil) 44 26 [some (jmr 68), some (jmr 68), some (jmi v2), none] [] σ) rfl
  exact jRf_by (jex_ok hG (cs := [(26, [some (.inr (some 68)), some (.inr (some 68)), some (.inl 0), none], [], fun xs σ => match xs with
      | [v2] => Quotient_isAlike_c26 F 68 68 F v2 σ
      | _ => none)]) (jcon (jl1 (fun y0 => jl0 (fun σ => rr26 F y0 σ))) jnil) 44 0 [some (jmr 68), some (jmr 68), none, none] [] σ0) rfl
set_option maxRecDepth 100000 in
set_option maxHeartbeats 4000000 in
theorem jmet_Quotient_isAlike_68_73 (F : Nat) (sh : List jxC) (hs : jHas sh jc_C) (σ0 : jxS) (x : Int) (σ' : jxS) (h : Quotient_isAlike F 68 73 σ0 = some (x, σ')) : jMC yX6_isAlike cX6_isAlike 4 (jrt 4) 2 44 sh σ0 [(jmr 68), (jmr 73)] (jrv 4 x) σ' := by
  refine jMC_of (kd := 4) (by decide) rfl h ?_
  intro X hX
  have hG : jGd X (jE_Quotient_isAlike F) jtb_Quotient_isAlike := jGd_of hX jtk_Quotient_isAlike (jcon jfl_X6_25 (jcon jfl_X6_37 jnil)) jnil jnil (jcon (jsV jlk_X6_83 ⟨rfl, rfl⟩ (jad_Quotient_nextOf F sh hs)) (jcon (jsV jlk_X6_89 ⟨rfl, rfl⟩ (jad_Quotient_lostSet F sh hs)) jnil)) hs
  have rr36 : ∀ (k26 : Int → jxS → Option jxR) (h26 : ∀ v2 σ, jRf X (k26 v2 σ) 26 [some (jmr 68), some (jmr 73), some (jmi v2), none] [] σ) (fu : Nat) (v2 v3 : Int) (σ : jxS), jRf X (Quotient_isAlike_c36 F 68 73 k26 fu v2 v3 σ) 36 [some (jmr 68), some (jmr 73), some (jmi v2), some (jmi v3)] [] σ := by
    intro k26 h26 fu
    induction fu with
    | zero => intros; exact jRf_none
    | succ fu ih =>
      intro v2 v3 σ
      exact jRf_by (jex_ok hG (cs := [(26, [some (.inr (some 68)), some (.inr (some 73)), some (.inl 0), none], [], fun xs σ => match xs with
      | [v2] => k26 v2 σ
      | _ => none), (36, [some (.inr (some 68)), some (.inr (some 73)), some (.inl 0), some (.inl 0)], [], fun xs σ => match xs with
      | [v2, v3] => (Quotient_isAlike_c36 F 68 73 k26 fu) v2 v3 σ
      | _ => none)]) (jcon (jl1 (fun y0 => jl0 (fun σ => h26 y0 σ))) (jcon (jl2 (fun y0 y1 => jl0 (fun σ => ih y0 y1 σ))) jnil)) 44 36 [some (jmr 68), some (jmr 73), some (jmi v2), some (jmi v3)] [] σ) rfl
  have rr26 : ∀ (fu : Nat) (v2 : Int) (σ : jxS), jRf X (Quotient_isAlike_c26 F 68 73 fu v2 σ) 26 [some (jmr 68), some (jmr 73), some (jmi v2), none] [] σ := by
    intro  fu
    induction fu with
    | zero => intros; exact jRf_none
    | succ fu ih =>
      intro v2 σ
      exact jRf_by (jex_ok hG (cs := [(36, [some (.inr (some 68)), some (.inr (some 73)), some (.inl 0), some (.inl 0)], [], fun xs σ => match xs with
      | [v2, v3] => Quotient_isAlike_c36 F 68 73 (Quotient_isAlike_c26 F 68 73 fu) F v2 v3 σ
      | _ => none)]) (jcon (jl2 (fun y0 y1 => jl0 (fun σ => rr36 _ ih F y0 y1 σ))) jnil) 44 26 [some (jmr 68), some (jmr 73), some (jmi v2), none] [] σ) rfl
  exact jRf_by (jex_ok hG (cs := [(26, [some (.inr (some 68)), some (.inr (some 73)), some (.inl 0), none], [], fun xs σ => match xs with
      | [v2] => Quotient_isAlike_c26 F 68 73 F v2 σ
      | _ => none)]) (jcon (jl1 (fun y0 => jl0 (fun σ => rr26 F y0 σ))) jnil) 44 0 [some (jmr 68), some (jmr 73), none, none] [] σ0) rfl
set_option maxRecDepth 100000 in
set_option maxHeartbeats 4000000 in
theorem jmet_Quotient_isAlike_73_48 (F : Nat) (sh : List jxC) (hs : jHas sh jc_C) (σ0 : jxS) (x : Int) (σ' : jxS) (h : Quotient_isAlike F 73 48 σ0 = some (x, σ')) : jMC yX6_isAlike cX6_isAlike 4 (jrt 4) 2 44 sh σ0 [(jmr 73), (jmr 48)] (jrv 4 x) σ' := by
  refine jMC_of (kd := 4) (by decide) rfl h ?_
  intro X hX
  have hG : jGd X (jE_Quotient_isAlike F) jtb_Quotient_isAlike := jGd_of hX jtk_Quotient_isAlike (jcon jfl_X6_25 (jcon jfl_X6_37 jnil)) jnil jnil (jcon (jsV jlk_X6_83 ⟨rfl, rfl⟩ (jad_Quotient_nextOf F sh hs)) (jcon (jsV jlk_X6_89 ⟨rfl, rfl⟩ (jad_Quotient_lostSet F sh hs)) jnil)) hs
  have rr36 : ∀ (k26 : Int → jxS → Option jxR) (h26 : ∀ v2 σ, jRf X (k26 v2 σ) 26 [some (jmr 73), some (jmr 48), some (jmi v2), none] [] σ) (fu : Nat) (v2 v3 : Int) (σ : jxS), jRf X (Quotient_isAlike_c36 F 73 48 k26 fu v2 v3 σ) 36 [some (jmr 73), some (jmr 48), some (jmi v2), some (jmi v3)] [] σ := by
    intro k26 h26 fu
    induction fu with
    | zero => intros; exact jRf_none
    | succ fu ih =>
      intro v2 v3 σ
      exact jRf_by (jex_ok hG (cs := [(26, [some (.inr (some 73)), some (.inr (some 48)), some (.inl 0), none], [], fun xs σ => match xs with
      | [v2] => k26 v2 σ
      | _ => none), (36, [some (.inr (some 73)), some (.inr (some 48)), some (.inl 0), some (.inl 0)], [], fun xs σ => match xs with
      | [v2, v3] => (Quotient_isAlike_c36 F 73 48 k26 fu) v2 v3 σ
      | _ => none)]) (jcon (jl1 (fun y0 => jl0 (fun σ => h26 y0 σ))) (jcon (jl2 (fun y0 y1 => jl0 (fun σ => ih y0 y1 σ))) jnil)) 44 36 [some (jmr 73), some (jmr 48), some (jmi v2), some (jmi v3)] [] σ) rfl
  have rr26 : ∀ (fu : Nat) (v2 : Int) (σ : jxS), jRf X (Quotient_isAlike_c26 F 73 48 fu v2 σ) 26 [some (jmr 73), some (jmr 48), some (jmi v2), none] [] σ := by
    intro  fu
    induction fu with
    | zero => intros; exact jRf_none
    | succ fu ih =>
      intro v2 σ
      exact jRf_by (jex_ok hG (cs := [(36, [some (.inr (some 73)), some (.inr (some 48)), some (.inl 0), some (.inl 0)], [], fun xs σ => match xs with
      | [v2, v3] => Quotient_isAlike_c36 F 73 48 (Quotient_isAlike_c26 F 73 48 fu) F v2 v3 σ
      | _ => none)]) (jcon (jl2 (fun y0 y1 => jl0 (fun σ => rr36 _ ih F y0 y1 σ))) jnil) 44 26 [some (jmr 73), some (jmr 48), some (jmi v2), none] [] σ) rfl
  exact jRf_by (jex_ok hG (cs := [(26, [some (.inr (some 73)), some (.inr (some 48)), some (.inl 0), none], [], fun xs σ => match xs with
      | [v2] => Quotient_isAlike_c26 F 73 48 F v2 σ
      | _ => none)]) (jcon (jl1 (fun y0 => jl0 (fun σ => rr26 F y0 σ))) jnil) 44 0 [some (jmr 73), some (jmr 48), none, none] [] σ0) rfl
set_option maxRecDepth 100000 in
set_option maxHeartbeats 4000000 in
theorem jmet_Quotient_isAlike_73_53 (F : Nat) (sh : List jxC) (hs : jHas sh jc_C) (σ0 : jxS) (x : Int) (σ' : jxS) (h : Quotient_isAlike F 73 53 σ0 = some (x, σ')) : jMC yX6_isAlike cX6_isAlike 4 (jrt 4) 2 44 sh σ0 [(jmr 73), (jmr 53)] (jrv 4 x) σ' := by
  refine jMC_of (kd := 4) (by decide) rfl h ?_
  intro X hX
  have hG : jGd X (jE_Quotient_isAlike F) jtb_Quotient_isAlike := jGd_of hX jtk_Quotient_isAlike (jcon jfl_X6_25 (jcon jfl_X6_37 jnil)) jnil jnil (jcon (jsV jlk_X6_83 ⟨rfl, rfl⟩ (jad_Quotient_nextOf F sh hs)) (jcon (jsV jlk_X6_89 ⟨rfl, rfl⟩ (jad_Quotient_lostSet F sh hs)) jnil)) hs
  have rr36 : ∀ (k26 : Int → jxS → Option jxR) (h26 : ∀ v2 σ, jRf X (k26 v2 σ) 26 [some (jmr 73), some (jmr 53), some (jmi v2), none] [] σ) (fu : Nat) (v2 v3 : Int) (σ : jxS), jRf X (Quotient_isAlike_c36 F 73 53 k26 fu v2 v3 σ) 36 [some (jmr 73), some (jmr 53), some (jmi v2), some (jmi v3)] [] σ := by
    intro k26 h26 fu
    induction fu with
    | zero => intros; exact jRf_none
    | succ fu ih =>
      intro v2 v3 σ
      exact jRf_by (jex_ok hG (cs := [(26, [some (.inr (some 73)), some (.inr (some 53)), some (.inl 0), none], [], fun xs σ => match xs with
      | [v2] => k26 v2 σ
      | _ => none), (36, [some (.inr (some 73)), some (.inr (some 53)), some (.inl 0), some (.inl 0)], [], fun xs σ => match xs with
      | [v2, v3] => (Quotient_isAlike_c36 F 73 53 k26 fu) v2 v3 σ
      | _ => none)]) (jcon (jl1 (fun y0 => jl0 (fun σ => h26 y0 σ))) (jcon (jl2 (fun y0 y1 => jl0 (fun σ => ih y0 y1 σ))) jnil)) 44 36 [some (jmr 73), some (jmr 53), some (jmi v2), some (jmi v3)] [] σ) rfl
  have rr26 : ∀ (fu : Nat) (v2 : Int) (σ : jxS), jRf X (Quotient_isAlike_c26 F 73 53 fu v2 σ) 26 [some (jmr 73), some (jmr 53), some (jmi v2), none] [] σ := by
    intro  fu
    induction fu with
    | zero => intros; exact jRf_none
    | succ fu ih =>
      intro v2 σ
      exact jRf_by (jex_ok hG (cs := [(36, [some (.inr (some 73)), some (.inr (some 53)), some (.inl 0), some (.inl 0)], [], fun xs σ => match xs with
      | [v2, v3] => Quotient_isAlike_c36 F 73 53 (Quotient_isAlike_c26 F 73 53 fu) F v2 v3 σ
      | _ => none)]) (jcon (jl2 (fun y0 y1 => jl0 (fun σ => rr36 _ ih F y0 y1 σ))) jnil) 44 26 [some (jmr 73), some (jmr 53), some (jmi v2), none] [] σ) rfl
  exact jRf_by (jex_ok hG (cs := [(26, [some (.inr (some 73)), some (.inr (some 53)), some (.inl 0), none], [], fun xs σ => match xs with
      | [v2] => Quotient_isAlike_c26 F 73 53 F v2 σ
      | _ => none)]) (jcon (jl1 (fun y0 => jl0 (fun σ => rr26 F y0 σ))) jnil) 44 0 [some (jmr 73), some (jmr 53), none, none] [] σ0) rfl
set_option maxRecDepth 100000 in
set_option maxHeartbeats 4000000 in
theorem jmet_Quotient_isAlike_73_58 (F : Nat) (sh : List jxC) (hs : jHas sh jc_C) (σ0 : jxS) (x : Int) (σ' : jxS) (h : Quotient_isAlike F 73 58 σ0 = some (x, σ')) : jMC yX6_isAlike cX6_isAlike 4 (jrt 4) 2 44 sh σ0 [(jmr 73), (jmr 58)] (jrv 4 x) σ' := by
  refine jMC_of (kd := 4) (by decide) rfl h ?_
  intro X hX
  have hG : jGd X (jE_Quotient_isAlike F) jtb_Quotient_isAlike := jGd_of hX jtk_Quotient_isAlike (jcon jfl_X6_25 (jcon jfl_X6_37 jnil)) jnil jnil (jcon (jsV jlk_X6_83 ⟨rfl, rfl⟩ (jad_Quotient_nextOf F sh hs)) (jcon (jsV jlk_X6_89 ⟨rfl, rfl⟩ (jad_Quotient_lostSet F sh hs)) jnil)) hs
  have rr36 : ∀ (k26 : Int → jxS → Option jxR) (h26 : ∀ v2 σ, jRf X (k26 v2 σ) 26 [some (jmr 73), some (jmr 58), some (jmi v2), none] [] σ) (fu : Nat) (v2 v3 : Int) (σ : jxS), jRf X (Quotient_isAlike_c36 F 73 58 k26 fu v2 v3 σ) 36 [some (jmr 73), some (jmr 58), some (jmi v2), some (jmi v3)] [] σ := by
    intro k26 h26 fu
    induction fu with
    | zero => intros; exact jRf_none
    | succ fu ih =>
      intro v2 v3 σ
      exact jRf_by (jex_ok hG (cs := [(26, [some (.inr (some 73)), some (.inr (some 58)), some (.inl 0), none], [], fun xs σ => match xs with
      | [v2] => k26 v2 σ
      | _ => none), (36, [some (.inr (some 73)), some (.inr (some 58)), some (.inl 0), some (.inl 0)], [], fun xs σ => match xs with
      | [v2, v3] => (Quotient_isAlike_c36 F 73 58 k26 fu) v2 v3 σ
      | _ => none)]) (jcon (jl1 (fun y0 => jl0 (fun σ => h26 y0 σ))) (jcon (jl2 (fun y0 y1 => jl0 (fun σ => ih y0 y1 σ))) jnil)) 44 36 [some (jmr 73), some (jmr 58), some (jmi v2), some (jmi v3)] [] σ) rfl
  have rr26 : ∀ (fu : Nat) (v2 : Int) (σ : jxS), jRf X (Quotient_isAlike_c26 F 73 58 fu v2 σ) 26 [some (jmr 73), some (jmr 58), some (jmi v2), none] [] σ := by
    intro  fu
    induction fu with
    | zero => intros; exact jRf_none
    | succ fu ih =>
      intro v2 σ
      exact jRf_by (jex_ok hG (cs := [(36, [some (.inr (some 73)), some (.inr (some 58)), some (.inl 0), some (.inl 0)], [], fun xs σ => match xs with
      | [v2, v3] => Quotient_isAlike_c36 F 73 58 (Quotient_isAlike_c26 F 73 58 fu) F v2 v3 σ
      | _ => none)]) (jcon (jl2 (fun y0 y1 => jl0 (fun σ => rr36 _ ih F y0 y1 σ))) jnil) 44 26 [some (jmr 73), some (jmr 58), some (jmi v2), none] [] σ) rfl
  exact jRf_by (jex_ok hG (cs := [(26, [some (.inr (some 73)), some (.inr (some 58)), some (.inl 0), none], [], fun xs σ => match xs with
      | [v2] => Quotient_isAlike_c26 F 73 58 F v2 σ
      | _ => none)]) (jcon (jl1 (fun y0 => jl0 (fun σ => rr26 F y0 σ))) jnil) 44 0 [some (jmr 73), some (jmr 58), none, none] [] σ0) rfl
set_option maxRecDepth 100000 in
set_option maxHeartbeats 4000000 in
theorem jmet_Quotient_isAlike_73_63 (F : Nat) (sh : List jxC) (hs : jHas sh jc_C) (σ0 : jxS) (x : Int) (σ' : jxS) (h : Quotient_isAlike F 73 63 σ0 = some (x, σ')) : jMC yX6_isAlike cX6_isAlike 4 (jrt 4) 2 44 sh σ0 [(jmr 73), (jmr 63)] (jrv 4 x) σ' := by
  refine jMC_of (kd := 4) (by decide) rfl h ?_
  intro X hX
  have hG : jGd X (jE_Quotient_isAlike F) jtb_Quotient_isAlike := jGd_of hX jtk_Quotient_isAlike (jcon jfl_X6_25 (jcon jfl_X6_37 jnil)) jnil jnil (jcon (jsV jlk_X6_83 ⟨rfl, rfl⟩ (jad_Quotient_nextOf F sh hs)) (jcon (jsV jlk_X6_89 ⟨rfl, rfl⟩ (jad_Quotient_lostSet F sh hs)) jnil)) hs
  have rr36 : ∀ (k26 : Int → jxS → Option jxR) (h26 : ∀ v2 σ, jRf X (k26 v2 σ) 26 [some (jmr 73), some (jmr 63), some (jmi v2), none] [] σ) (fu : Nat) (v2 v3 : Int) (σ : jxS), jRf X (Quotient_isAlike_c36 F 73 63 k26 fu v2 v3 σ) 36 [some (jmr 73), some (jmr 63), some (jmi v2), some (jmi v3)] [] σ := by
    intro k26 h26 fu
    induction fu with
    | zero => intros; exact jRf_none
    | succ fu ih =>
      intro v2 v3 σ
      exact jRf_by (jex_ok hG (cs := [(26, [some (.inr (some 73)), some (.inr (some 63)), some (.inl 0), none], [], fun xs σ => match xs with
      | [v2] => k26 v2 σ
      | _ => none), (36, [some (.inr (some 73)), some (.inr (some 63)), some (.inl 0), some (.inl 0)], [], fun xs σ => match xs with
      | [v2, v3] => (Quotient_isAlike_c36 F 73 63 k26 fu) v2 v3 σ
      | _ => none)]) (jcon (jl1 (fun y0 => jl0 (fun σ => h26 y0 σ))) (jcon (jl2 (fun y0 y1 => jl0 (fun σ => ih y0 y1 σ))) jnil)) 44 36 [some (jmr 73), some (jmr 63), some (jmi v2), some (jmi v3)] [] σ) rfl
  have rr26 : ∀ (fu : Nat) (v2 : Int) (σ : jxS), jRf X (Quotient_isAlike_c26 F 73 63 fu v2 σ) 26 [some (jmr 73), some (jmr 63), some (jmi v2), none] [] σ := by
    intro  fu
    induction fu with
    | zero => intros; exact jRf_none
    | succ fu ih =>
      intro v2 σ
      exact jRf_by (jex_ok hG (cs := [(36, [some (.inr (some 73)), some (.inr (some 63)), some (.inl 0), some (.inl 0)], [], fun xs σ => match xs with
      | [v2, v3] => Quotient_isAlike_c36 F 73 63 (Quotient_isAlike_c26 F 73 63 fu) F v2 v3 σ
      | _ => none)]) (jcon (jl2 (fun y0 y1 => jl0 (fun σ => rr36 _ ih F y0 y1 σ))) jnil) 44 26 [some (jmr 73), some (jmr 63), some (jmi v2), none] [] σ) rfl
  exact jRf_by (jex_ok hG (cs := [(26, [some (.inr (some 73)), some (.inr (some 63)), some (.inl 0), none], [], fun xs σ => match xs with
      | [v2] => Quotient_isAlike_c26 F 73 63 F v2 σ
      | _ => none)]) (jcon (jl1 (fun y0 => jl0 (fun σ => rr26 F y0 σ))) jnil) 44 0 [some (jmr 73), some (jmr 63), none, none] [] σ0) rfl
set_option maxRecDepth 100000 in
set_option maxHeartbeats 4000000 in
theorem jmet_Quotient_isAlike_73_68 (F : Nat) (sh : List jxC) (hs : jHas sh jc_C) (σ0 : jxS) (x : Int) (σ' : jxS) (h : Quotient_isAlike F 73 68 σ0 = some (x, σ')) : jMC yX6_isAlike cX6_isAlike 4 (jrt 4) 2 44 sh σ0 [(jmr 73), (jmr 68)] (jrv 4 x) σ' := by
  refine jMC_of (kd := 4) (by decide) rfl h ?_
  intro X hX
  have hG : jGd X (jE_Quotient_isAlike F) jtb_Quotient_isAlike := jGd_of hX jtk_Quotient_isAlike (jcon jfl_X6_25 (jcon jfl_X6_37 jnil)) jnil jnil (jcon (jsV jlk_X6_83 ⟨rfl, rfl⟩ (jad_Quotient_nextOf F sh hs)) (jcon (jsV jlk_X6_89 ⟨rfl, rfl⟩ (jad_Quotient_lostSet F sh hs)) jnil)) hs
  have rr36 : ∀ (k26 : Int → jxS → Option jxR) (h26 : ∀ v2 σ, jRf X (k26 v2 σ) 26 [some (jmr 73), some (jmr 68), some (jmi v2), none] [] σ) (fu : Nat) (v2 v3 : Int) (σ : jxS), jRf X (Quotient_isAlike_c36 F 73 68 k26 fu v2 v3 σ) 36 [some (jmr 73), some (jmr 68), some (jmi v2), some (jmi v3)] [] σ := by
    intro k26 h26 fu
    induction fu with
    | zero => intros; exact jRf_none
    | succ fu ih =>
      intro v2 v3 σ
      exact jRf_by (jex_ok hG (cs := [(26, [some (.inr (some 73)), some (.inr (some 68)), some (.inl 0), none], [], fun xs σ => match xs with
      | [v2] => k26 v2 σ
      | _ => none), (36, [some (.inr (some 73)), some (.inr (some 68)), some (.inl 0), some (.inl 0)], [], fun xs σ => match xs with
      | [v2, v3] => (Quotient_isAlike_c36 F 73 68 k26 fu) v2 v3 σ
      | _ => none)]) (jcon (jl1 (fun y0 => jl0 (fun σ => h26 y0 σ))) (jcon (jl2 (fun y0 y1 => jl0 (fun σ => ih y0 y1 σ))) jnil)) 44 36 [some (jmr 73), some (jmr 68), some (jmi v2), some (jmi v3)] [] σ) rfl
  have rr26 : ∀ (fu : Nat) (v2 : Int) (σ : jxS), jRf X (Quotient_isAlike_c26 F 73 68 fu v2 σ) 26 [some (jmr 73), some (jmr 68), some (jmi v2), none] [] σ := by
    intro  fu
    induction fu with
    | zero => intros; exact jRf_none
    | succ fu ih =>
      intro v2 σ
      exact jRf_by (jex_ok hG (cs := [(36, [some (.inr (some 73)), some (.inr (some 68)), some (.inl 0), some (.inl 0)], [], fun xs σ => match xs with
      | [v2, v3] => Quotient_isAlike_c36 F 73 68 (Quotient_isAlike_c26 F 73 68 fu) F v2 v3 σ
      | _ => none)]) (jcon (jl2 (fun y0 y1 => jl0 (fun σ => rr36 _ ih F y0 y1 σ))) jnil) 44 26 [some (jmr 73), some (jmr 68), some (jmi v2), none] [] σ) rfl
  exact jRf_by (jex_ok hG (cs := [(26, [some (.inr (some 73)), some (.inr (some 68)), some (.inl 0), none], [], fun xs σ => match xs with
      | [v2] => Quotient_isAlike_c26 F 73 68 F v2 σ
      | _ => none)]) (jcon (jl1 (fun y0 => jl0 (fun σ => rr26 F y0 σ))) jnil) 44 0 [some (jmr 73), some (jmr 68), none, none] [] σ0) rfl
set_option maxRecDepth 100000 in
set_option maxHeartbeats 4000000 in
theorem jmet_Quotient_isAlike_73_73 (F : Nat) (sh : List jxC) (hs : jHas sh jc_C) (σ0 : jxS) (x : Int) (σ' : jxS) (h : Quotient_isAlike F 73 73 σ0 = some (x, σ')) : jMC yX6_isAlike cX6_isAlike 4 (jrt 4) 2 44 sh σ0 [(jmr 73), (jmr 73)] (jrv 4 x) σ' := by
  refine jMC_of (kd := 4) (by decide) rfl h ?_
  intro X hX
  have hG : jGd X (jE_Quotient_isAlike F) jtb_Quotient_isAlike := jGd_of hX jtk_Quotient_isAlike (jcon jfl_X6_25 (jcon jfl_X6_37 jnil)) jnil jnil (jcon (jsV jlk_X6_83 ⟨rfl, rfl⟩ (jad_Quotient_nextOf F sh hs)) (jcon (jsV jlk_X6_89 ⟨rfl, rfl⟩ (jad_Quotient_lostSet F sh hs)) jnil)) hs
  have rr36 : ∀ (k26 : Int → jxS → Option jxR) (h26 : ∀ v2 σ, jRf X (k26 v2 σ) 26 [some (jmr 73), some (jmr 73), some (jmi v2), none] [] σ) (fu : Nat) (v2 v3 : Int) (σ : jxS), jRf X (Quotient_isAlike_c36 F 73 73 k26 fu v2 v3 σ) 36 [some (jmr 73), some (jmr 73), some (jmi v2), some (jmi v3)] [] σ := by
    intro k26 h26 fu
    induction fu with
    | zero => intros; exact jRf_none
    | succ fu ih =>
      intro v2 v3 σ
      exact jRf_by (jex_ok hG (cs := [(26, [some (.inr (some 73)), some (.inr (some 73)), some (.inl 0), none], [], fun xs σ => match xs with
      | [v2] => k26 v2 σ
      | _ => none), (36, [some (.inr (some 73)), some (.inr (some 73)), some (.inl 0), some (.inl 0)], [], fun xs σ => match xs with
      | [v2, v3] => (Quotient_isAlike_c36 F 73 73 k26 fu) v2 v3 σ
      | _ => none)]) (jcon (jl1 (fun y0 => jl0 (fun σ => h26 y0 σ))) (jcon (jl2 (fun y0 y1 => jl0 (fun σ => ih y0 y1 σ))) jnil)) 44 36 [some (jmr 73), some (jmr 73), some (jmi v2), some (jmi v3)] [] σ) rfl
  have rr26 : ∀ (fu : Nat) (v2 : Int) (σ : jxS), jRf X (Quotient_isAlike_c26 F 73 73 fu v2 σ) 26 [some (jmr 73), some (jmr 73), some (jmi v2), none] [] σ := by
    intro  fu
    induction fu with
    | zero => intros; exact jRf_none
    | succ fu ih =>
      intro v2 σ
      exact jRf_by (jex_ok hG (cs := [(36, [some (.inr (some 73)), some (.inr (some 73)), some (.inl 0), some (.inl 0)], [], fun xs σ => match xs with
      | [v2, v3] => Quotient_isAlike_c36 F 73 73 (Quotient_isAlike_c26 F 73 73 fu) F v2 v3 σ
      | _ => none)]) (jcon (jl2 (fun y0 y1 => jl0 (fun σ => rr36 _ ih F y0 y1 σ))) jnil) 44 26 [some (jmr 73), some (jmr 73), some (jmi v2), none] [] σ) rfl
  exact jRf_by (jex_ok hG (cs := [(26, [some (.inr (some 73)), some (.inr (some 73)), some (.inl 0), none], [], fun xs σ => match xs with
      | [v2] => Quotient_isAlike_c26 F 73 73 F v2 σ
      | _ => none)]) (jcon (jl1 (fun y0 => jl0 (fun σ => rr26 F y0 σ))) jnil) 44 0 [some (jmr 73), some (jmr 73), none, none] [] σ0) rfl
theorem jmet_Quotient_isAlike (F : Nat) (q : Nat) (hq : q ∈ jids_Quotient_isAlike_q) (q1 : Nat) (hq1 : q1 ∈ jids_Quotient_isAlike_q1) (sh : List jxC) (hs : jHas sh jc_C) (σ0 : jxS) (x : Int) (σ' : jxS) (h : Quotient_isAlike F q q1 σ0 = some (x, σ')) : jMC yX6_isAlike cX6_isAlike 4 (jrt 4) 2 44 sh σ0 [(jmr q), (jmr q1)] (jrv 4 x) σ' := by
  simp only [jids_Quotient_isAlike_q, List.mem_cons, List.not_mem_nil, or_false] at hq
  simp only [jids_Quotient_isAlike_q1, List.mem_cons, List.not_mem_nil, or_false] at hq1
  rcases hq with rfl | rfl | rfl | rfl | rfl | rfl <;> rcases hq1 with rfl | rfl | rfl | rfl | rfl | rfl
  · exact jmet_Quotient_isAlike_48_48 F sh hs σ0  x σ' h
  · exact jmet_Quotient_isAlike_48_53 F sh hs σ0  x σ' h
  · exact jmet_Quotient_isAlike_48_58 F sh hs σ0  x σ' h
  · exact jmet_Quotient_isAlike_48_63 F sh hs σ0  x σ' h
  · exact jmet_Quotient_isAlike_48_68 F sh hs σ0  x σ' h
  · exact jmet_Quotient_isAlike_48_73 F sh hs σ0  x σ' h
  · exact jmet_Quotient_isAlike_53_48 F sh hs σ0  x σ' h
  · exact jmet_Quotient_isAlike_53_53 F sh hs σ0  x σ' h
  · exact jmet_Quotient_isAlike_53_58 F sh hs σ0  x σ' h
  · exact jmet_Quotient_isAlike_53_63 F sh hs σ0  x σ' h
  · exact jmet_Quotient_isAlike_53_68 F sh hs σ0  x σ' h
  · exact jmet_Quotient_isAlike_53_73 F sh hs σ0  x σ' h
  · exact jmet_Quotient_isAlike_58_48 F sh hs σ0  x σ' h
  · exact jmet_Quotient_isAlike_58_53 F sh hs σ0  x σ' h
  · exact jmet_Quotient_isAlike_58_58 F sh hs σ0  x σ' h
  · exact jmet_Quotient_isAlike_58_63 F sh hs σ0  x σ' h
  · exact jmet_Quotient_isAlike_58_68 F sh hs σ0  x σ' h
  · exact jmet_Quotient_isAlike_58_73 F sh hs σ0  x σ' h
  · exact jmet_Quotient_isAlike_63_48 F sh hs σ0  x σ' h
  · exact jmet_Quotient_isAlike_63_53 F sh hs σ0  x σ' h
  · exact jmet_Quotient_isAlike_63_58 F sh hs σ0  x σ' h
  · exact jmet_Quotient_isAlike_63_63 F sh hs σ0  x σ' h
  · exact jmet_Quotient_isAlike_63_68 F sh hs σ0  x σ' h
  · exact jmet_Quotient_isAlike_63_73 F sh hs σ0  x σ' h
  · exact jmet_Quotient_isAlike_68_48 F sh hs σ0  x σ' h
  · exact jmet_Quotient_isAlike_68_53 F sh hs σ0  x σ' h
  · exact jmet_Quotient_isAlike_68_58 F sh hs σ0  x σ' h
  · exact jmet_Quotient_isAlike_68_63 F sh hs σ0  x σ' h
  · exact jmet_Quotient_isAlike_68_68 F sh hs σ0  x σ' h
  · exact jmet_Quotient_isAlike_68_73 F sh hs σ0  x σ' h
  · exact jmet_Quotient_isAlike_73_48 F sh hs σ0  x σ' h
  · exact jmet_Quotient_isAlike_73_53 F sh hs σ0  x σ' h
  · exact jmet_Quotient_isAlike_73_58 F sh hs σ0  x σ' h
  · exact jmet_Quotient_isAlike_73_63 F sh hs σ0  x σ' h
  · exact jmet_Quotient_isAlike_73_68 F sh hs σ0  x σ' h
  · exact jmet_Quotient_isAlike_73_73 F sh hs σ0  x σ' h
theorem jad_Quotient_isAlike (F : Nat) (sh : List jxC) (hs : jHas sh jc_C) : jAdV (jca_Quotient_isAlike F) yX6_isAlike cX6_isAlike 4 4 2 44 1 sh := by
  intro as σ k x σ' h
  unfold jca_Quotient_isAlike at h
  split at h
  · rename_i t0 t1
    obtain ⟨g0, hh1⟩ := jcond h
    have g0 := jin_of g0
    obtain ⟨g1, hh2⟩ := jcond hh1
    have g1 := jin_of g1
    obtain ⟨r, h1, h2⟩ := Option.bind_eq_some_iff.mp hh2
    exact ⟨_, _, h2, (by obtain ⟨fks, hfk⟩ := jrc_Quotient hs g0; exact ⟨_, _, _, _, _, _, rfl, rfl, hfk, rfl⟩), jmet_Quotient_isAlike F t0 g0 t1 g1 sh hs σ  r.1 r.2 h1⟩
  · cases h
