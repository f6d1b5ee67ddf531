/-! Contracts: Quotient_reachOf Quotient_kernel Quotient_units Quotient_idle Quotient_setOf LL1_sets Quotient_heaps Pairs_movesOf -/
def jtb_Quotient_reachOf : List (Nat × Instr) := [(0, .iconst 0), (1, .istore_n 2), (2, .iconst 0), (3, .istore_n 3), (4, .iload_n 3), (5, .aload_n 0), (6, .getfield 37), (9, .if_icmp .ge 20), (12, .iload_n 2), (13, .iconst 1), (14, .aload_n 0), (15, .iload_n 1), (16, .iload_n 3), (17, .invokevirtual 102), (20, .ishl), (21, .ior), (22, .istore_n 2), (23, .iinc 3 1), (26, .goto (-22)), (29, .iload_n 2), (30, .ireturn)]
theorem jtk_Quotient_reachOf : jtok cX6_reachOf jtb_Quotient_reachOf = true := by decide +kernel
set_option maxRecDepth 100000 in
theorem jlk_X6_102 : jLkV RX6 102 yX6_product cX6_product 7 1 2 := ⟨(jTB_at 1220 rfl rfl), (jTB_at 1192 rfl rfl), (jTB_at 1193 rfl rfl), (jTB_at 128 rfl rfl), jTB_at 1194 rfl rfl, ⟨by decide, by decide, by decide +kernel⟩⟩
def jE_Quotient_reachOf (F : Nat) : jxE := jmk [(37, 6, 7)] [] [] [(102, (3, false), jca_Quotient_product F)] 1 jc_C
set_option maxRecDepth 100000 in
set_option maxHeartbeats 4000000 in
theorem jmet_Quotient_reachOf_48 (F : Nat) (sh : List jxC) (hs : jHas sh jc_C) (σ0 : jxS) (v1 : Int) (x : Int) (σ' : jxS) (h : Quotient_reachOf F 48 σ0 v1 = some (x, σ')) : jMC yX6_reachOf cX6_reachOf 4 (jrt 1) 3 70 sh σ0 [(jmr 48), (jmi v1)] (jrv 1 x) σ' := by
  refine jMC_of (kd := 1) (by decide) rfl h ?_
  intro X hX
  have hG : jGd X (jE_Quotient_reachOf F) jtb_Quotient_reachOf := jGd_of hX jtk_Quotient_reachOf (jcon jfl_X6_37 jnil) jnil jnil (jcon (jsV jlk_X6_102 ⟨rfl, rfl⟩ (jad_Quotient_product F sh hs)) jnil) hs
  have rr4 : ∀ (fu : Nat) (v1 v2 v3 : Int) (σ : jxS), jRf X (Quotient_reachOf_c4 F 48 fu v1 v2 v3 σ) 4 [some (jmr 48), some (jmi v1), some (jmi v2), some (jmi v3)] [] σ := by
    intro  fu
    induction fu with
    | zero => intros; exact jRf_none
    | succ fu ih =>
      intro v1 v2 v3 σ
      exact jRf_by (jex_ok hG (cs := [(4, [some (.inr (some 48)), some (.inl 0), some (.inl 0), some (.inl 0)], [], fun xs σ => match xs with
      | [v1, v2, v3] => (Quotient_reachOf_c4 F 48 fu) v1 v2 v3 σ
      | _ => none)]) (jcon (jl3 (fun y0 y1 y2 => jl0 (fun σ => ih y0 y1 y2 σ))) jnil) 24 4 [some (jmr 48), some (jmi v1), some (jmi v2), some (jmi v3)] [] σ) rfl
  exact jRf_by (jex_ok hG (cs := [(4, [some (.inr (some 48)), some (.inl 0), some (.inl 0), some (.inl 0)], [], fun xs σ => match xs with
      | [v1, v2, v3] => Quotient_reachOf_c4 F 48 F v1 v2 v3 σ
      | _ => none)]) (jcon (jl3 (fun y0 y1 y2 => jl0 (fun σ => rr4 F y0 y1 y2 σ))) jnil) 24 0 [some (jmr 48), some (jmi v1), none, none] [] σ0) rfl
set_option maxRecDepth 100000 in
set_option maxHeartbeats 4000000 in
theorem jmet_Quotient_reachOf_53 (F : Nat) (sh : List jxC) (hs : jHas sh jc_C) (σ0 : jxS) (v1 : Int) (x : Int) (σ' : jxS) (h : Quotient_reachOf F 53 σ0 v1 = some (x, σ')) : jMC yX6_reachOf cX6_reachOf 4 (jrt 1) 3 70 sh σ0 [(jmr 53), (jmi v1)] (jrv 1 x) σ' := by
  refine jMC_of (kd := 1) (by decide) rfl h ?_
  intro X hX
  have hG : jGd X (jE_Quotient_reachOf F) jtb_Quotient_reachOf := jGd_of hX jtk_Quotient_reachOf (jcon jfl_X6_37 jnil) jnil jnil (jcon (jsV jlk_X6_102 ⟨rfl, rfl⟩ (jad_Quotient_product F sh hs)) jnil) hs
  have rr4 : ∀ (fu : Nat) (v1 v2 v3 : Int) (σ : jxS), jRf X (Quotient_reachOf_c4 F 53 fu v1 v2 v3 σ) 4 [some (jmr 53), some (jmi v1), some (jmi v2), some (jmi v3)] [] σ := by
    intro  fu
    induction fu with
    | zero => intros; exact jRf_none
    | succ fu ih =>
      intro v1 v2 v3 σ
      exact jRf_by (jex_ok hG (cs := [(4, [some (.inr (some 53)), some (.inl 0), some (.inl 0), some (.inl 0)], [], fun xs σ => match xs with
      | [v1, v2, v3] => (Quotient_reachOf_c4 F 53 fu) v1 v2 v3 σ
      | _ => none)]) (jcon (jl3 (fun y0 y1 y2 => jl0 (fun σ => ih y0 y1 y2 σ))) jnil) 24 4 [some (jmr 53), some (jmi v1), some (jmi v2), some (jmi v3)] [] σ) rfl
  exact jRf_by (jex_ok hG (cs := [(4, [some (.inr (some 53)), some (.inl 0), some (.inl 0), some (.inl 0)], [], fun xs σ => match xs with
      | [v1, v2, v3] => Quotient_reachOf_c4 F 53 F v1 v2 v3 σ
      | _ => none)]) (jcon (jl3 (fun y0 y1 y2 => jl0 (fun σ => rr4 F y0 y1 y2 σ))) jnil) 24 0 [some (jmr 53), some (jmi v1), none, none] [] σ0) rfl
set_option maxRecDepth 100000 in
set_option maxHeartbeats 4000000 in
theorem jmet_Quotient_reachOf_58 (F : Nat) (sh : List jxC) (hs : jHas sh jc_C) (σ0 : jxS) (v1 : Int) (x : Int) (σ' : jxS) (h : Quotient_reachOf F 58 σ0 v1 = some (x, σ')) : jMC yX6_reachOf cX6_reachOf 4 (jrt 1) 3 70 sh σ0 [(jmr 58), (jmi v1)] (jrv 1 x) σ' := by
  refine jMC_of (kd := 1) (by decide) rfl h ?_
  intro X hX
  have hG : jGd X (jE_Quotient_reachOf F) jtb_Quotient_reachOf := jGd_of hX jtk_Quotient_reachOf (jcon jfl_X6_37 jnil) jnil jnil (jcon (jsV jlk_X6_102 ⟨rfl, rfl⟩ (jad_Quotient_product F sh hs)) jnil) hs
  have rr4 : ∀ (fu : Nat) (v1 v2 v3 : Int) (σ : jxS), jRf X (Quotient_reachOf_c4 F 58 fu v1 v2 v3 σ) 4 [some (jmr 58), some (jmi v1), some (jmi v2), some (jmi v3)] [] σ := by
    intro  fu
    induction fu with
    | zero => intros; exact jRf_none
    | succ fu ih =>
      intro v1 v2 v3 σ
      exact jRf_by (jex_ok hG (cs := [(4, [some (.inr (some 58)), some (.inl 0), some (.inl 0), some (.inl 0)], [], fun xs σ => match xs with
      | [v1, v2, v3] => (Quotient_reachOf_c4 F 58 fu) v1 v2 v3 σ
      | _ => none)]) (jcon (jl3 (fun y0 y1 y2 => jl0 (fun σ => ih y0 y1 y2 σ))) jnil) 24 4 [some (jmr 58), some (jmi v1), some (jmi v2), some (jmi v3)] [] σ) rfl
  exact jRf_by (jex_ok hG (cs := [(4, [some (.inr (some 58)), some (.inl 0), some (.inl 0), some (.inl 0)], [], fun xs σ => match xs with
      | [v1, v2, v3] => Quotient_reachOf_c4 F 58 F v1 v2 v3 σ
      | _ => none)]) (jcon (jl3 (fun y0 y1 y2 => jl0 (fun σ => rr4 F y0 y1 y2 σ))) jnil) 24 0 [some (jmr 58), some (jmi v1), none, none] [] σ0) rfl
set_option maxRecDepth 100000 in
set_option maxHeartbeats 4000000 in
theorem jmet_Quotient_reachOf_63 (F : Nat) (sh : List jxC) (hs : jHas sh jc_C) (σ0 : jxS) (v1 : Int) (x : Int) (σ' : jxS) (h : Quotient_reachOf F 63 σ0 v1 = some (x, σ')) : jMC yX6_reachOf cX6_reachOf 4 (jrt 1) 3 70 sh σ0 [(jmr 63), (jmi v1)] (jrv 1 x) σ' := by
  refine jMC_of (kd := 1) (by decide) rfl h ?_
  intro X hX
  have hG : jGd X (jE_Quotient_reachOf F) jtb_Quotient_reachOf := jGd_of hX jtk_Quotient_reachOf (jcon jfl_X6_37 jnil) jnil jnil (jcon (jsV jlk_X6_102 ⟨rfl, rfl⟩ (jad_Quotient_product F sh hs)) jnil) hs
  have rr4 : ∀ (fu : Nat) (v1 v2 v3 : Int) (σ : jxS), jRf X (Quotient_reachOf_c4 F 63 fu v1 v2 v3 σ) 4 [some (jmr 63), some (jmi v1), some (jmi v2), some (jmi v3)] [] σ := by
    intro  fu
    induction fu with
    | zero => intros; exact jRf_none
    | succ fu ih =>
      intro v1 v2 v3 σ
      exact jRf_by (jex_ok hG (cs := [(4, [some (.inr (some 63)), some (.inl 0), some (.inl 0), some (.inl 0)], [], fun xs σ => match xs with
      | [v1, v2, v3] => (Quotient_reachOf_c4 F 63 fu) v1 v2 v3 σ
      | _ => none)]) (jcon (jl3 (fun y0 y1 y2 => jl0 (fun σ => ih y0 y1 y2 σ))) jnil) 24 4 [some (jmr 63), some (jmi v1), some (jmi v2), some (jmi v3)] [] σ) rfl
  exact jRf_by (jex_ok hG (cs := [(4, [some (.inr (some 63)), some (.inl 0), some (.inl 0), some (.inl 0)], [], fun xs σ => match xs with
      | [v1, v2, v3] => Quotient_reachOf_c4 F 63 F v1 v2 v3 σ
      | _ => none)]) (jcon (jl3 (fun y0 y1 y2 => jl0 (fun σ => rr4 F y0 y1 y2 σ))) jnil) 24 0 [some (jmr 63), some (jmi v1), none, none] [] σ0) rfl
set_option maxRecDepth 100000 in
set_option maxHeartbeats 4000000 in
theorem jmet_Quotient_reachOf_68 (F : Nat) (sh : List jxC) (hs : jHas sh jc_C) (σ0 : jxS) (v1 : Int) (x : Int) (σ' : jxS) (h : Quotient_reachOf F 68 σ0 v1 = some (x, σ')) : jMC yX6_reachOf cX6_reachOf 4 (jrt 1) 3 70 sh σ0 [(jmr 68), (jmi v1)] (jrv 1 x) σ' := by
  refine jMC_of (kd := 1) (by decide) rfl h ?_
  intro X hX
  have hG : jGd X (jE_Quotient_reachOf F) jtb_Quotient_reachOf := jGd_of hX jtk_Quotient_reachOf (jcon jfl_X6_37 jnil) jnil jnil (jcon (jsV jlk_X6_102 ⟨rfl, rfl⟩ (jad_Quotient_product F sh hs)) jnil) hs
  have rr4 : ∀ (fu : Nat) (v1 v2 v3 : Int) (σ : jxS), jRf X (Quotient_reachOf_c4 F 68 fu v1 v2 v3 σ) 4 [some (jmr 68), some (jmi v1), some (jmi v2), some (jmi v3)] [] σ := by
    intro  fu
    induction fu with
    | zero => intros; exact jRf_none
    | succ fu ih =>
      intro v1 v2 v3 σ
      exact jRf_by (jex_ok hG (cs := [(4, [some (.inr (some 68)), some (.inl 0), some (.inl 0), some (.inl 0)], [], fun xs σ => match xs with
      | [v1, v2, v3] => (Quotient_reachOf_c4 F 68 fu) v1 v2 v3 σ
      | _ => none)]) (jcon (jl3 (fun y0 y1 y2 => jl0 (fun σ => ih y0 y1 y2 σ))) jnil) 24 4 [some (jmr 68), some (jmi v1), some (jmi v2), some (jmi v3)] [] σ) rfl
  exact jRf_by (jex_ok hG (cs := [(4, [some (.inr (some 68)), some (.inl 0), some (.inl 0), some (.inl 0)], [], fun xs σ => match xs with
      | [v1, v2, v3] => Quotient_reachOf_c4 F 68 F v1 v2 v3 σ
      | _ => none)]) (jcon (jl3 (fun y0 y1 y2 => jl0 (fun σ => rr4 F y0 y1 y2 σ))) jnil) 24 0 [some (jmr 68), some (jmi v1), none, none] [] σ0) rfl
set_option maxRecDepth 100000 in
set_option maxHeartbeats 4000000 in
theorem jmet_Quotient_reachOf_73 (F : Nat) (sh : List jxC) (hs : jHas sh jc_C) (σ0 : jxS) (v1 : Int) (x : Int) (σ' : jxS) (h : Quotient_reachOf F 73 σ0 v1 = some (x, σ')) : jMC yX6_reachOf cX6_reachOf 4 (jrt 1) 3 70 sh σ0 [(jmr 73), (jmi v1)] (jrv 1 x) σ' := by
  refine jMC_of (kd := 1) (by decide) rfl h ?_
  intro X hX
  have hG : jGd X (jE_Quotient_reachOf F) jtb_Quotient_reachOf := jGd_of hX jtk_Quotient_reachOf (jcon jfl_X6_37 jnil) jnil jnil (jcon (jsV jlk_X6_102 ⟨rfl, rfl⟩ (jad_Quotient_product F sh hs)) jnil) hs
  have rr4 : ∀ (fu : Nat) (v1 v2 v3 : Int) (σ : jxS), jRf X (Quotient_reachOf_c4 F 73 fu v1 v2 v3 σ) 4 [some (jmr 73), some (jmi v1), some (jmi v2), some (jmi v3)] [] σ := by
    intro  fu
    induction fu with
    | zero => intros; exact jRf_none
    | succ fu ih =>
      intro v1 v2 v3 σ
      exact jRf_by (jex_ok hG (cs := [(4, [some (.inr (some 73)), some (.inl 0), some (.inl 0), some (.inl 0)], [], fun xs σ => match xs with
      | [v1, v2, v3] => (Quotient_reachOf_c4 F 73 fu) v1 v2 v3 σ
      | _ => none)]) (jcon (jl3 (fun y0 y1 y2 => jl0 (fun σ => ih y0 y1 y2 σ))) jnil) 24 4 [some (jmr 73), some (jmi v1), some (jmi v2), some (jmi v3)] [] σ) rfl
  exact jRf_by (jex_ok hG (cs := [(4, [some (.inr (some 73)), some (.inl 0), some (.inl 0), some (.inl 0)], [], fun xs σ => match xs with
      | [v1, v2, v3] => Quotient_reachOf_c4 F 73 F v1 v2 v3 σ
      | _ => none)]) (jcon (jl3 (fun y0 y1 y2 => jl0 (fun σ => rr4 F y0 y1 y2 σ))) jnil) 24 0 [some (jmr 73), some (jmi v1), none, none] [] σ0) rfl
theorem jmet_Quotient_reachOf (F : Nat) (q : Nat) (hq : q ∈ jids_Quotient_reachOf_q) (sh : List jxC) (hs : jHas sh jc_C) (σ0 : jxS) (v1 : Int) (x : Int) (σ' : jxS) (h : Quotient_reachOf F q σ0 v1 = some (x, σ')) : jMC yX6_reachOf cX6_reachOf 4 (jrt 1) 3 70 sh σ0 [(jmr q), (jmi v1)] (jrv 1 x) σ' := by
  simp only [jids_Quotient_reachOf_q, List.mem_cons, List.not_mem_nil, or_false] at hq
  rcases hq with rfl | rfl | rfl | rfl | rfl | rfl
  · exact jmet_Quotient_reachOf_48 F sh hs σ0 v1 x σ' h
  · exact jmet_Quotient_reachOf_53 F sh hs σ0 v1 x σ' h
  · exact jmet_Quotient_reachOf_58 F sh hs σ0 v1 x σ' h
  · exact jmet_Quotient_reachOf_63 F sh hs σ0 v1 x σ' h
  · exact jmet_Quotient_reachOf_68 F sh hs σ0 v1 x σ' h
  · exact jmet_Quotient_reachOf_73 F sh hs σ0 v1 x σ' h
theorem jad_Quotient_reachOf (F : Nat) (sh : List jxC) (hs : jHas sh jc_C) : jAdV (jca_Quotient_reachOf F) yX6_reachOf cX6_reachOf 4 1 3 70 1 sh := by
  intro as σ k x σ' h
  unfold jca_Quotient_reachOf at h
  split at h
  · rename_i t0 v1
    obtain ⟨g0, hh1⟩ := jcond h
    have g0 := jin_of g0
    obtain ⟨r, h1, h2⟩ := Option.bind_eq_some_iff.mp hh1
    exact ⟨_, _, h2, (by obtain ⟨fks, hfk⟩ := jrc_Quotient hs g0; exact ⟨_, _, _, _, _, _, rfl, rfl, hfk, rfl⟩), jmet_Quotient_reachOf F t0 g0 sh hs σ v1 r.1 r.2 h1⟩
  · cases h
def jtb_Quotient_kernel : List (Nat × Instr) := [(0, .iconst 1), (1, .aload_n 0), (2, .getfield 37), (5, .ishl), (6, .iconst 1), (7, .isub), (8, .istore_n 1), (9, .iconst 0), (10, .istore_n 2), (11, .iload_n 2), (12, .aload_n 0), (13, .getfield 37), (16, .if_icmp .ge 17), (19, .iload_n 1), (20, .aload_n 0), (21, .iload_n 2), (22, .invokevirtual 105), (25, .iand), (26, .istore_n 1), (27, .iinc 2 1), (30, .goto (-19)), (33, .iload_n 1), (34, .ireturn)]
theorem jtk_Quotient_kernel : jtok cX6_kernel jtb_Quotient_kernel = true := by decide +kernel
set_option maxRecDepth 100000 in
theorem jlk_X6_105 : jLkV RX6 105 yX6_reachOf cX6_reachOf 4 1 1 := ⟨(jTB_at 1216 rfl rfl), (jTB_at 1218 rfl rfl), (jTB_at 39 rfl rfl), (jTB_at 128 rfl rfl), jTB_at 1219 rfl rfl, ⟨by decide, by decide, by decide +kernel⟩⟩
def jE_Quotient_kernel (F : Nat) : jxE := jmk [(37, 6, 7)] [] [] [(105, (2, false), jca_Quotient_reachOf F)] 1 jc_C
set_option maxRecDepth 100000 in
set_option maxHeartbeats 4000000 in
theorem jmet_Quotient_kernel_48 (F : Nat) (sh : List jxC) (hs : jHas sh jc_C) (σ0 : jxS) (x : Int) (σ' : jxS) (h : Quotient_kernel F 48 σ0 = some (x, σ')) : jMC yX6_kernel cX6_kernel 3 (jrt 1) 4 93 sh σ0 [(jmr 48)] (jrv 1 x) σ' := by
  refine jMC_of (kd := 1) (by decide) rfl h ?_
  intro X hX
  have hG : jGd X (jE_Quotient_kernel F) jtb_Quotient_kernel := jGd_of hX jtk_Quotient_kernel (jcon jfl_X6_37 jnil) jnil jnil (jcon (jsV jlk_X6_105 ⟨rfl, rfl⟩ (jad_Quotient_reachOf F sh hs)) jnil) hs
  have rr11 : ∀ (fu : Nat) (v1 v2 : Int) (σ : jxS), jRf X (Quotient_kernel_c11 F 48 fu v1 v2 σ) 11 [some (jmr 48), some (jmi v1), some (jmi v2)] [] σ := by
    intro  fu
    induction fu with
    | zero => intros; exact jRf_none
    | succ fu ih =>
      intro v1 v2 σ
      exact jRf_by (jex_ok hG (cs := [(11, [some (.inr (some 48)), some (.inl 0), some (.inl 0)], [], fun xs σ => match xs with
      | [v1, v2] => (Quotient_kernel_c11 F 48 fu) v1 v2 σ
      | _ => none)]) (jcon (jl2 (fun y0 y1 => jl0 (fun σ => ih y0 y1 σ))) jnil) 26 11 [some (jmr 48), some (jmi v1), some (jmi v2)] [] σ) rfl
  exact jRf_by (jex_ok hG (cs := [(11, [some (.inr (some 48)), some (.inl 0), some (.inl 0)], [], fun xs σ => match xs with
      | [v1, v2] => Quotient_kernel_c11 F 48 F v1 v2 σ
      | _ => none)]) (jcon (jl2 (fun y0 y1 => jl0 (fun σ => rr11 F y0 y1 σ))) jnil) 26 0 [some (jmr 48), none, none] [] σ0) rfl
set_option maxRecDepth 100000 in
set_option maxHeartbeats 4000000 in
theorem jmet_Quotient_kernel_53 (F : Nat) (sh : List jxC) (hs : jHas sh jc_C) (σ0 : jxS) (x : Int) (σ' : jxS) (h : Quotient_kernel F 53 σ0 = some (x, σ')) : jMC yX6_kernel cX6_kernel 3 (jrt 1) 4 93 sh σ0 [(jmr 53)] (jrv 1 x) σ' := by
  refine jMC_of (kd := 1) (by decide) rfl h ?_
  intro X hX
  have hG : jGd X (jE_Quotient_kernel F) jtb_Quotient_kernel := jGd_of hX jtk_Quotient_kernel (jcon jfl_X6_37 jnil) jnil jnil (jcon (jsV jlk_X6_105 ⟨rfl, rfl⟩ (jad_Quotient_reachOf F sh hs)) jnil) hs
  have rr11 : ∀ (fu : Nat) (v1 v2 : Int) (σ : jxS), jRf X (Quotient_kernel_c11 F 53 fu v1 v2 σ) 11 [some (jmr 53), some (jmi v1), some (jmi v2)] [] σ := by
    intro  fu
    induction fu with
    | zero => intros; exact jRf_none
    | succ fu ih =>
      intro v1 v2 σ
      exact jRf_by (jex_ok hG (cs := [(11, [some (.inr (some 53)), some (.inl 0), some (.inl 0)], [], fun xs σ => match xs with
      | [v1, v2] => (Quotient_kernel_c11 F 53 fu) v1 v2 σ
      | _ => none)]) (jcon (jl2 (fun y0 y1 => jl0 (fun σ => ih y0 y1 σ))) jnil) 26 11 [some (jmr 53), some (jmi v1), some (jmi v2)] [] σ) rfl
  exact jRf_by (jex_ok hG (cs := [(11, [some (.inr (some 53)), some (.inl 0), some (.inl 0)], [], fun xs σ => match xs with
      | [v1, v2] => Quotient_kernel_c11 F 53 F v1 v2 σ
      | _ => none)]) (jcon (jl2 (fun y0 y1 => jl0 (fun σ => rr11 F y0 y1 σ))) jnil) 26 0 [some (jmr 53), none, none] [] σ0) rfl
set_option maxRecDepth 100000 in
set_option maxHeartbeats 4000000 in
theorem jmet_Quotient_kernel_58 (F : Nat) (sh : List jxC) (hs : jHas sh jc_C) (σ0 : jxS) (x : Int) (σ' : jxS) (h : Quotient_kernel F 58 σ0 = some (x, σ')) : jMC yX6_kernel cX6_kernel 3 (jrt 1) 4 93 sh σ0 [(jmr 58)] (jrv 1 x) σ' := by
  refine jMC_of (kd := 1) (by decide) rfl h ?_
  intro X hX
  have hG : jGd X (jE_Quotient_kernel F) jtb_Quotient_kernel := jGd_of hX jtk_Quotient_kernel (jcon jfl_X6_37 jnil) jnil jnil (jcon (jsV jlk_X6_105 ⟨rfl, rfl⟩ (jad_Quotient_reachOf F sh hs)) jnil) hs
  have rr11 : ∀ (fu : Nat) (v1 v2 : Int) (σ : jxS), jRf X (Quotient_kernel_c11 F 58 fu v1 v2 σ) 11 [some (jmr 58), some (jmi v1), some (jmi v2)] [] σ := by
    intro  fu
    induction fu with
    | zero => intros; exact jRf_none
    | succ fu ih =>
      intro v1 v2 σ
      exact jRf_by (jex_ok hG (cs := [(11, [some (.inr (some 58)), some (.inl 0), some (.inl 0)], [], fun xs σ => match xs with
      | [v1, v2] => (Quotient_kernel_c11 F 58 fu) v1 v2 σ
      | _ => none)]) (jcon (jl2 (fun y0 y1 => jl0 (fun σ => ih y0 y1 σ))) jnil) 26 11 [some (jmr 58), some (jmi v1), some (jmi v2)] [] σ) rfl
  exact jRf_by (jex_ok hG (cs := [(11, [some (.inr (some 58)), some (.inl 0), some (.inl 0)], [], fun xs σ => match xs with
      | [v1, v2] => Quotient_kernel_c11 F 58 F v1 v2 σ
      | _ => none)]) (jcon (jl2 (fun y0 y1 => jl0 (fun σ => rr11 F y0 y1 σ))) jnil) 26 0 [some (jmr 58), none, none] [] σ0) rfl
set_option maxRecDepth 100000 in
set_option maxHeartbeats 4000000 in
theorem jmet_Quotient_kernel_63 (F : Nat) (sh : List jxC) (hs : jHas sh jc_C) (σ0 : jxS) (x : Int) (σ' : jxS) (h : Quotient_kernel F 63 σ0 = some (x, σ')) : jMC yX6_kernel cX6_kernel 3 (jrt 1) 4 93 sh σ0 [(jmr 63)] (jrv 1 x) σ' := by
  refine jMC_of (kd := 1) (by decide) rfl h ?_
  intro X hX
  have hG : jGd X (jE_Quotient_kernel F) jtb_Quotient_kernel := jGd_of hX jtk_Quotient_kernel (jcon jfl_X6_37 jnil) jnil jnil (jcon (jsV jlk_X6_105 ⟨rfl, rfl⟩ (jad_Quotient_reachOf F sh hs)) jnil) hs
  have rr11 : ∀ (fu : Nat) (v1 v2 : Int) (σ : jxS), jRf X (Quotient_kernel_c11 F 63 fu v1 v2 σ) 11 [some (jmr 63), some (jmi v1), some (jmi v2)] [] σ := by
    intro  fu
    induction fu with
    | zero => intros; exact jRf_none
    | succ fu ih =>
      intro v1 v2 σ
      exact jRf_by (jex_ok hG (cs := [(11, [some (.inr (some 63)), some (.inl 0), some (.inl 0)], [], fun xs σ => match xs with
      | [v1, v2] => (Quotient_kernel_c11 F 63 fu) v1 v2 σ
      | _ => none)]) (jcon (jl2 (fun y0 y1 => jl0 (fun σ => ih y0 y1 σ))) jnil) 26 11 [some (jmr 63), some (jmi v1), some (jmi v2)] [] σ) rfl
  exact jRf_by (jex_ok hG (cs := [(11, [some (.inr (some 63)), some (.inl 0), some (.inl 0)], [], fun xs σ => match xs with
      | [v1, v2] => Quotient_kernel_c11 F 63 F v1 v2 σ
      | _ => none)]) (jcon (jl2 (fun y0 y1 => jl0 (fun σ => rr11 F y0 y1 σ))) jnil) 26 0 [some (jmr 63), none, none] [] σ0) rfl
set_option maxRecDepth 100000 in
set_option maxHeartbeats 4000000 in
theorem jmet_Quotient_kernel_68 (F : Nat) (sh : List jxC) (hs : jHas sh jc_C) (σ0 : jxS) (x : Int) (σ' : jxS) (h : Quotient_kernel F 68 σ0 = some (x, σ')) : jMC yX6_kernel cX6_kernel 3 (jrt 1) 4 93 sh σ0 [(jmr 68)] (jrv 1 x) σ' := by
  refine jMC_of (kd := 1) (by decide) rfl h ?_
  intro X hX
  have hG : jGd X (jE_Quotient_kernel F) jtb_Quotient_kernel := jGd_of hX jtk_Quotient_kernel (jcon jfl_X6_37 jnil) jnil jnil (jcon (jsV jlk_X6_105 ⟨rfl, rfl⟩ (jad_Quotient_reachOf F sh hs)) jnil) hs
  have rr11 : ∀ (fu : Nat) (v1 v2 : Int) (σ : jxS), jRf X (Quotient_kernel_c11 F 68 fu v1 v2 σ) 11 [some (jmr 68), some (jmi v1), some (jmi v2)] [] σ := by
    intro  fu
    induction fu with
    | zero => intros; exact jRf_none
    | succ fu ih =>
      intro v1 v2 σ
      exact jRf_by (jex_ok hG (cs := [(11, [some (.inr (some 68)), some (.inl 0), some (.inl 0)], [], fun xs σ => match xs with
      | [v1, v2] => (Quotient_kernel_c11 F 68 fu) v1 v2 σ
      | _ => none)]) (jcon (jl2 (fun y0 y1 => jl0 (fun σ => ih y0 y1 σ))) jnil) 26 11 [some (jmr 68), some (jmi v1), some (jmi v2)] [] σ) rfl
  exact jRf_by (jex_ok hG (cs := [(11, [some (.inr (some 68)), some (.inl 0), some (.inl 0)], [], fun xs σ => match xs with
      | [v1, v2] => Quotient_kernel_c11 F 68 F v1 v2 σ
      | _ => none)]) (jcon (jl2 (fun y0 y1 => jl0 (fun σ => rr11 F y0 y1 σ))) jnil) 26 0 [some (jmr 68), none, none] [] σ0) rfl
set_option maxRecDepth 100000 in
set_option maxHeartbeats 4000000 in
theorem jmet_Quotient_kernel_73 (F : Nat) (sh : List jxC) (hs : jHas sh jc_C) (σ0 : jxS) (x : Int) (σ' : jxS) (h : Quotient_kernel F 73 σ0 = some (x, σ')) : jMC yX6_kernel cX6_kernel 3 (jrt 1) 4 93 sh σ0 [(jmr 73)] (jrv 1 x) σ' := by
  refine jMC_of (kd := 1) (by decide) rfl h ?_
  intro X hX
  have hG : jGd X (jE_Quotient_kernel F) jtb_Quotient_kernel := jGd_of hX jtk_Quotient_kernel (jcon jfl_X6_37 jnil) jnil jnil (jcon (jsV jlk_X6_105 ⟨rfl, rfl⟩ (jad_Quotient_reachOf F sh hs)) jnil) hs
  have rr11 : ∀ (fu : Nat) (v1 v2 : Int) (σ : jxS), jRf X (Quotient_kernel_c11 F 73 fu v1 v2 σ) 11 [some (jmr 73), some (jmi v1), some (jmi v2)] [] σ := by
    intro  fu
    induction fu with
    | zero => intros; exact jRf_none
    | succ fu ih =>
      intro v1 v2 σ
      exact jRf_by (jex_ok hG (cs := [(11, [some (.inr (some 73)), some (.inl 0), some (.inl 0)], [], fun xs σ => match xs with
      | [v1, v2] => (Quotient_kernel_c11 F 73 fu) v1 v2 σ
      | _ => none)]) (jcon (jl2 (fun y0 y1 => jl0 (fun σ => ih y0 y1 σ))) jnil) 26 11 [some (jmr 73), some (jmi v1), some (jmi v2)] [] σ) rfl
  exact jRf_by (jex_ok hG (cs := [(11, [some (.inr (some 73)), some (.inl 0), some (.inl 0)], [], fun xs σ => match xs with
      | [v1, v2] => Quotient_kernel_c11 F 73 F v1 v2 σ
      | _ => none)]) (jcon (jl2 (fun y0 y1 => jl0 (fun σ => rr11 F y0 y1 σ))) jnil) 26 0 [some (jmr 73), none, none] [] σ0) rfl
theorem jmet_Quotient_kernel (F : Nat) (q : Nat) (hq : q ∈ jids_Quotient_kernel_q) (sh : List jxC) (hs : jHas sh jc_C) (σ0 : jxS) (x : Int) (σ' : jxS) (h : Quotient_kernel F q σ0 = some (x, σ')) : jMC yX6_kernel cX6_kernel 3 (jrt 1) 4 93 sh σ0 [(jmr q)] (jrv 1 x) σ' := by
  simp only [jids_Quotient_kernel_q, List.mem_cons, List.not_mem_nil, or_false] at hq
  rcases hq with rfl | rfl | rfl | rfl | rfl | rfl
  · exact jmet_Quotient_kernel_48 F sh hs σ0  x σ' h
  · exact jmet_Quotient_kernel_53 F sh hs σ0  x σ' h
  · exact jmet_Quotient_kernel_58 F sh hs σ0  x σ' h
  · exact jmet_Quotient_kernel_63 F sh hs σ0  x σ' h
  · exact jmet_Quotient_kernel_68 F sh hs σ0  x σ' h
  · exact jmet_Quotient_kernel_73 F sh hs σ0  x σ' h
theorem jad_Quotient_kernel (F : Nat) (sh : List jxC) (hs : jHas sh jc_C) : jAdV (jca_Quotient_kernel F) yX6_kernel cX6_kernel 3 1 4 93 0 sh := by
  intro as σ k x σ' h
  unfold jca_Quotient_kernel at h
  split at h
  · rename_i t0
    obtain ⟨g0, hh1⟩ := jcond h
    have g0 := jin_of g0
    obtain ⟨r, h1, h2⟩ := Option.bind_eq_some_iff.mp hh1
    exact ⟨_, _, h2, (by obtain ⟨fks, hfk⟩ := jrc_Quotient hs g0; exact ⟨_, _, _, _, _, _, rfl, rfl, hfk, rfl⟩), jmet_Quotient_kernel F t0 g0 sh hs σ  r.1 r.2 h1⟩
  · cases h
def jtb_Quotient_units : List (Nat × Instr) := [(0, .iconst 0), (1, .istore_n 1), (2, .iconst 0), (3, .istore_n 2), (4, .iload_n 2), (5, .aload_n 0), (6, .getfield 37), (9, .if_icmp .ge 26), (12, .aload_n 0), (13, .iload_n 2), (14, .invokevirtual 105), (17, .iconst 1), (18, .iand), (19, .iconst 1), (20, .if_icmp .ne 9), (23, .iload_n 1), (24, .iconst 1), (25, .iload_n 2), (26, .ishl), (27, .ior), (28, .istore_n 1), (29, .iinc 2 1), (32, .goto (-28)), (35, .iload_n 1), (36, .ireturn)]
theorem jtk_Quotient_units : jtok cX6_units jtb_Quotient_units = true := by decide +kernel
def jE_Quotient_units (F : Nat) : jxE := jmk [(37, 6, 7)] [] [] [(105, (2, false), jca_Quotient_reachOf F)] 1 jc_C
set_option maxRecDepth 100000 in
set_option maxHeartbeats 4000000 in
theorem jmet_Quotient_units_48 (F : Nat) (sh : List jxC) (hs : jHas sh jc_C) (σ0 : jxS) (x : Int) (σ' : jxS) (h : Quotient_units F 48 σ0 = some (x, σ')) : jMC yX6_units cX6_units 3 (jrt 1) 4 93 sh σ0 [(jmr 48)] (jrv 1 x) σ' := by
  refine jMC_of (kd := 1) (by decide) rfl h ?_
  intro X hX
  have hG : jGd X (jE_Quotient_units F) jtb_Quotient_units := jGd_of hX jtk_Quotient_units (jcon jfl_X6_37 jnil) jnil jnil (jcon (jsV jlk_X6_105 ⟨rfl, rfl⟩ (jad_Quotient_reachOf F sh hs)) jnil) hs
  have rr4 : ∀ (fu : Nat) (v1 v2 : Int) (σ : jxS), jRf X (Quotient_units_c4 F 48 fu v1 v2 σ) 4 [some (jmr 48), some (jmi v1), some (jmi v2)] [] σ := by
    intro  fu
    induction fu with
    | zero => intros; exact jRf_none
    | succ fu ih =>
      intro v1 v2 σ
      exact jRf_by (jex_ok hG (cs := [(4, [some (.inr (some 48)), some (.inl 0), some (.inl 0)], [], fun xs σ => match xs with
      | [v1, v2] => (Quotient_units_c4 F 48 fu) v1 v2 σ
      | _ => none)]) (jcon (jl2 (fun y0 y1 => jl0 (fun σ => ih y0 y1 σ))) jnil) 28 4 [some (jmr 48), some (jmi v1), some (jmi v2)] [] σ) rfl
  exact jRf_by (jex_ok hG (cs := [(4, [some (.inr (some 48)), some (.inl 0), some (.inl 0)], [], fun xs σ => match xs with
      | [v1, v2] => Quotient_units_c4 F 48 F v1 v2 σ
      | _ => none)]) (jcon (jl2 (fun y0 y1 => jl0 (fun σ => rr4 F y0 y1 σ))) jnil) 28 0 [some (jmr 48), none, none] [] σ0) rfl
set_option maxRecDepth 100000 in
set_option maxHeartbeats 4000000 in
theorem jmet_Quotient_units_53 (F : Nat) (sh : List jxC) (hs : jHas sh jc_C) (σ0 : jxS) (x : Int) (σ' : jxS) (h : Quotient_units F 53 σ0 = some (x, σ')) : jMC yX6_units cX6_units 3 (jrt 1) 4 93 sh σ0 [(jmr 53)] (jrv 1 x) σ' := by
  refine jMC_of (kd := 1) (by decide) rfl h ?_
  intro X hX
  have hG : jGd X (jE_Quotient_units F) jtb_Quotient_units := jGd_of hX jtk_Quotient_units (jcon jfl_X6_37 jnil) jnil jnil (jcon (jsV jlk_X6_105 ⟨rfl, rfl⟩ (jad_Quotient_reachOf F sh hs)) jnil) hs
  have rr4 : ∀ (fu : Nat) (v1 v2 : Int) (σ : jxS), jRf X (Quotient_units_c4 F 53 fu v1 v2 σ) 4 [some (jmr 53), some (jmi v1), some (jmi v2)] [] σ := by
    intro  fu
    induction fu with
    | zero => intros; exact jRf_none
    | succ fu ih =>
      intro v1 v2 σ
      exact jRf_by (jex_ok hG (cs := [(4, [some (.inr (some 53)), some (.inl 0), some (.inl 0)], [], fun xs σ => match xs with
      | [v1, v2] => (Quotient_units_c4 F 53 fu) v1 v2 σ
      | _ => none)]) (jcon (jl2 (fun y0 y1 => jl0 (fun σ => ih y0 y1 σ))) jnil) 28 4 [some (jmr 53), some (jmi v1), some (jmi v2)] [] σ) rfl
  exact jRf_by (jex_ok hG (cs := [(4, [some (.inr (some 53)), some (.inl 0), some (.inl 0)], [], fun xs σ => match xs with
      | [v1, v2] => Quotient_units_c4 F 53 F v1 v2 σ
      | _ => none)]) (jcon (jl2 (fun y0 y1 => jl0 (fun σ => rr4 F y0 y1 σ))) jnil) 28 0 [some (jmr 53), none, none] [] σ0) rfl
set_option maxRecDepth 100000 in
set_option maxHeartbeats 4000000 in
theorem jmet_Quotient_units_58 (F : Nat) (sh : List jxC) (hs : jHas sh jc_C) (σ0 : jxS) (x : Int) (σ' : jxS) (h : Quotient_units F 58 σ0 = some (x, σ')) : jMC yX6_units cX6_units 3 (jrt 1) 4 93 sh σ0 [(jmr 58)] (jrv 1 x) σ' := by
  refine jMC_of (kd := 1) (by decide) rfl h ?_
  intro X hX
  have hG : jGd X (jE_Quotient_units F) jtb_Quotient_units := jGd_of hX jtk_Quotient_units (jcon jfl_X6_37 jnil) jnil jnil (jcon (jsV jlk_X6_105 ⟨rfl, rfl⟩ (jad_Quotient_reachOf F sh hs)) jnil) hs
  have rr4 : ∀ (fu : Nat) (v1 v2 : Int) (σ : jxS), jRf X (Quotient_units_c4 F 58 fu v1 v2 σ) 4 [some (jmr 58), some (jmi v1), some (jmi v2)] [] σ := by
    intro  fu
    induction fu with
    | zero => intros; exact jRf_none
    | succ fu ih =>
      intro v1 v2 σ
      exact jRf_by (jex_ok hG (cs := [(4, [some (.inr (some 58)), some (.inl 0), some (.inl 0)], [], fun xs σ => match xs with
      | [v1, v2] => (Quotient_units_c4 F 58 fu) v1 v2 σ
      | _ => none)]) (jcon (jl2 (fun y0 y1 => jl0 (fun σ => ih y0 y1 σ))) jnil) 28 4 [some (jmr 58), some (jmi v1), some (jmi v2)] [] σ) rfl
  exact jRf_by (jex_ok hG (cs := [(4, [some (.inr (some 58)), some (.inl 0), some (.inl 0)], [], fun xs σ => match xs with
      | [v1, v2] => Quotient_units_c4 F 58 F v1 v2 σ
      | _ => none)]) (jcon (jl2 (fun y0 y1 => jl0 (fun σ => rr4 F y0 y1 σ))) jnil) 28 0 [some (jmr 58), none, none] [] σ0) rfl
set_option maxRecDepth 100000 in
set_option maxHeartbeats 4000000 in
theorem jmet_Quotient_units_63 (F : Nat) (sh : List jxC) (hs : jHas sh jc_C) (σ0 : jxS) (x : Int) (σ' : jxS) (h : Quotient_units F 63 σ0 = some (x, σ')) : jMC yX6_units cX6_units 3 (jrt 1) 4 93 sh σ0 [(jmr 63)] (jrv 1 x) σ' := by
  refine jMC_of (kd := 1) (by decide) rfl h ?_
  intro X hX
  have hG : jGd X (jE_Quotient_units F) jtb_Quotient_units := jGd_of hX jtk_Quotient_units (jcon jfl_X6_37 jnil) jnil jnil (jcon (jsV jlk_X6_105 ⟨rfl, rfl⟩ (jad_Quotient_reachOf F sh hs)) jnil) hs
  have rr4 : ∀ (fu : Nat) (v1 v2 : Int) (σ : jxS), jRf X (Quotient_units_c4 F 63 fu v1 v2 σ) 4 [some (jmr 63), some (jmi v1), some (jmi v2)] [] σ := by
    intro  fu
    induction fu with
    | zero => intros; exact jRf_none
    | succ fu ih =>
      intro v1 v2 σ
      exact jRf_by (jex_ok hG (cs := [(4, [some (.inr (some 63)), some (.inl 0), some (.inl 0)], [], fun xs σ => match xs with
      | [v1, v2] => (Quotient_units_c4 F 63 fu) v1 v2 σ
      | _ => none)]) (jcon (jl2 (fun y0 y1 => jl0 (fun σ => ih y0 y1 σ))) jnil) 28 4 [some (jmr 63), some (jmi v1), some (jmi v2)] [] σ) rfl
  exact jRf_by (jex_ok hG (cs := [(4, [some (.inr (some 63)), some (.inl 0), some (.inl 0)], [], fun xs σ => match xs with
      | [v1, v2] => Quotient_units_c4 F 63 F v1 v2 σ
      | _ => none)]) (jcon (jl2 (fun y0 y1 => jl0 (fun σ => rr4 F y0 y1 σ))) jnil) 28 0 [some (jmr 63), none, none] [] σ0) rfl
set_option maxRecDepth 100000 in
set_option maxHeartbeats 4000000 in
theorem jmet_Quotient_units_68 (F : Nat) (sh : List jxC) (hs : jHas sh jc_C) (σ0 : jxS) (x : Int) (σ' : jxS) (h : Quotient_units F 68 σ0 = some (x, σ')) : jMC yX6_units cX6_units 3 (jrt 1) 4 93 sh σ0 [(jmr 68)] (jrv 1 x) σ' := by
  refine jMC_of (kd := 1) (by decide) rfl h ?_
  intro X hX
  have hG : jGd X (jE_Quotient_units F) jtb_Quotient_units := jGd_of hX jtk_Quotient_units (jcon jfl_X6_37 jnil) jnil jnil (jcon (jsV jlk_X6_105 ⟨rfl, rfl⟩ (jad_Quotient_reachOf F sh hs)) jnil) hs
  have rr4 : ∀ (fu : Nat) (v1 v2 : Int) (σ : jxS), jRf X (Quotient_units_c4 F 68 fu v1 v2 σ) 4 [some (jmr 68), some (jmi v1), some (jmi v2)] [] σ := by
    intro  fu
    induction fu with
    | zero => intros; exact jRf_none
    | succ fu ih =>
      intro v1 v2 σ
      exact jRf_by (jex_ok hG (cs := [(4, [some (.inr (some 68)), some (.inl 0), some (.inl 0)], [], fun xs σ => match xs with
      | [v1, v2] => (Quotient_units_c4 F 68 fu) v1 v2 σ
      | _ => none)]) (jcon (jl2 (fun y0 y1 => jl0 (fun σ => ih y0 y1 σ))) jnil) 28 4 [some (jmr 68), some (jmi v1), some (jmi v2)] [] σ) rfl
  exact jRf_by (jex_ok hG (cs := [(4, [some (.inr (some 68)), some (.inl 0), some (.inl 0)], [], fun xs σ => match xs with
      | [v1, v2] => Quotient_units_c4 F 68 F v1 v2 σ
      | _ => none)]) (jcon (jl2 (fun y0 y1 => jl0 (fun σ => rr4 F y0 y1 σ))) jnil) 28 0 [some (jmr 68), none, none] [] σ0) rfl
set_option maxRecDepth 100000 in
set_option maxHeartbeats 4000000 in
theorem jmet_Quotient_units_73 (F : Nat) (sh : List jxC) (hs : jHas sh jc_C) (σ0 : jxS) (x : Int) (σ' : jxS) (h : Quotient_units F 73 σ0 = some (x, σ')) : jMC yX6_units cX6_units 3 (jrt 1) 4 93 sh σ0 [(jmr 73)] (jrv 1 x) σ' := by
  refine jMC_of (kd := 1) (by decide) rfl h ?_
  intro X hX
  have hG : jGd X (jE_Quotient_units F) jtb_Quotient_units := jGd_of hX jtk_Quotient_units (jcon jfl_X6_37 jnil) jnil jnil (jcon (jsV jlk_X6_105 ⟨rfl, rfl⟩ (jad_Quotient_reachOf F sh hs)) jnil) hs
  have rr4 : ∀ (fu : Nat) (v1 v2 : Int) (σ : jxS), jRf X (Quotient_units_c4 F 73 fu v1 v2 σ) 4 [some (jmr 73), some (jmi v1), some (jmi v2)] [] σ := by
    intro  fu
    induction fu with
    | zero => intros; exact jRf_none
    | succ fu ih =>
      intro v1 v2 σ
      exact jRf_by (jex_ok hG (cs := [(4, [some (.inr (some 73)), some (.inl 0), some (.inl 0)], [], fun xs σ => match xs with
      | [v1, v2] => (Quotient_units_c4 F 73 fu) v1 v2 σ
      | _ => none)]) (jcon (jl2 (fun y0 y1 => jl0 (fun σ => ih y0 y1 σ))) jnil) 28 4 [some (jmr 73), some (jmi v1), some (jmi v2)] [] σ) rfl
  exact jRf_by (jex_ok hG (cs := [(4, [some (.inr (some 73)), some (.inl 0), some (.inl 0)], [], fun xs σ => match xs with
      | [v1, v2] => Quotient_units_c4 F 73 F v1 v2 σ
      | _ => none)]) (jcon (jl2 (fun y0 y1 => jl0 (fun σ => rr4 F y0 y1 σ))) jnil) 28 0 [some (jmr 73), none, none] [] σ0) rfl
theorem jmet_Quotient_units (F : Nat) (q : Nat) (hq : q ∈ jids_Quotient_units_q) (sh : List jxC) (hs : jHas sh jc_C) (σ0 : jxS) (x : Int) (σ' : jxS) (h : Quotient_units F q σ0 = some (x, σ')) : jMC yX6_units cX6_units 3 (jrt 1) 4 93 sh σ0 [(jmr q)] (jrv 1 x) σ' := by
  simp only [jids_Quotient_units_q, List.mem_cons, List.not_mem_nil, or_false] at hq
  rcases hq with rfl | rfl | rfl | rfl | rfl | rfl
  · exact jmet_Quotient_units_48 F sh hs σ0  x σ' h
  · exact jmet_Quotient_units_53 F sh hs σ0  x σ' h
  · exact jmet_Quotient_units_58 F sh hs σ0  x σ' h
  · exact jmet_Quotient_units_63 F sh hs σ0  x σ' h
  · exact jmet_Quotient_units_68 F sh hs σ0  x σ' h
  · exact jmet_Quotient_units_73 F sh hs σ0  x σ' h
theorem jad_Quotient_units (F : Nat) (sh : List jxC) (hs : jHas sh jc_C) : jAdV (jca_Quotient_units F) yX6_units cX6_units 3 1 4 93 0 sh := by
  intro as σ k x σ' h
  unfold jca_Quotient_units at h
  split at h
  · rename_i t0
    obtain ⟨g0, hh1⟩ := jcond h
    have g0 := jin_of g0
    obtain ⟨r, h1, h2⟩ := Option.bind_eq_some_iff.mp hh1
    exact ⟨_, _, h2, (by obtain ⟨fks, hfk⟩ := jrc_Quotient hs g0; exact ⟨_, _, _, _, _, _, rfl, rfl, hfk, rfl⟩), jmet_Quotient_units F t0 g0 sh hs σ  r.1 r.2 h1⟩
  · cases h
def jtb_Quotient_idle : List (Nat × Instr) := [(0, .iconst 0), (1, .istore_n 1), (2, .iconst 0), (3, .istore_n 2), (4, .iload_n 2), (5, .aload_n 0), (6, .getfield 37), (9, .if_icmp .ge 25), (12, .aload_n 0), (13, .iload_n 2), (14, .iload_n 2), (15, .invokevirtual 102), (18, .iload_n 2), (19, .if_icmp .ne 9), (22, .iload_n 1), (23, .iconst 1), (24, .iload_n 2), (25, .ishl), (26, .ior), (27, .istore_n 1), (28, .iinc 2 1), (31, .goto (-27)), (34, .iload_n 1), (35, .ireturn)]
theorem jtk_Quotient_idle : jtok cX6_idle jtb_Quotient_idle = true := by decide +kernel
def jE_Quotient_idle (F : Nat) : jxE := jmk [(37, 6, 7)] [] [] [(102, (3, false), jca_Quotient_product F)] 1 jc_C
set_option maxRecDepth 100000 in
set_option maxHeartbeats 4000000 in
theorem jmet_Quotient_idle_48 (F : Nat) (sh : List jxC) (hs : jHas sh jc_C) (σ0 : jxS) (x : Int) (σ' : jxS) (h : Quotient_idle F 48 σ0 = some (x, σ')) : jMC yX6_idle cX6_idle 3 (jrt 1) 3 70 sh σ0 [(jmr 48)] (jrv 1 x) σ' := by
  refine jMC_of (kd := 1) (by decide) rfl h ?_
  intro X hX
  have hG : jGd X (jE_Quotient_idle F) jtb_Quotient_idle := jGd_of hX jtk_Quotient_idle (jcon jfl_X6_37 jnil) jnil jnil (jcon (jsV jlk_X6_102 ⟨rfl, rfl⟩ (jad_Quotient_product F sh hs)) jnil) hs
  have rr4 : ∀ (fu : Nat) (v1 v2 : Int) (σ : jxS), jRf X (Quotient_idle_c4 F 48 fu v1 v2 σ) 4 [some (jmr 48), some (jmi v1), some (jmi v2)] [] σ := by
    intro  fu
    induction fu with
    | zero => intros; exact jRf_none
    | succ fu ih =>
      intro v1 v2 σ
      exact jRf_by (jex_ok hG (cs := [(4, [some (.inr (some 48)), some (.inl 0), some (.inl 0)], [], fun xs σ => match xs with
      | [v1, v2] => (Quotient_idle_c4 F 48 fu) v1 v2 σ
      | _ => none)]) (jcon (jl2 (fun y0 y1 => jl0 (fun σ => ih y0 y1 σ))) jnil) 27 4 [some (jmr 48), some (jmi v1), some (jmi v2)] [] σ) rfl
  exact jRf_by (jex_ok hG (cs := [(4, [some (.inr (some 48)), some (.inl 0), some (.inl 0)], [], fun xs σ => match xs with
      | [v1, v2] => Quotient_idle_c4 F 48 F v1 v2 σ
      | _ => none)]) (jcon (jl2 (fun y0 y1 => jl0 (fun σ => rr4 F y0 y1 σ))) jnil) 27 0 [some (jmr 48), none, none] [] σ0) rfl
set_option maxRecDepth 100000 in
set_option maxHeartbeats 4000000 in
theorem jmet_Quotient_idle_53 (F : Nat) (sh : List jxC) (hs : jHas sh jc_C) (σ0 : jxS) (x : Int) (σ' : jxS) (h : Quotient_idle F 53 σ0 = some (x, σ')) : jMC yX6_idle cX6_idle 3 (jrt 1) 3 70 sh σ0 [(jmr 53)] (jrv 1 x) σ' := by
  refine jMC_of (kd := 1) (by decide) rfl h ?_
  intro X hX
  have hG : jGd X (jE_Quotient_idle F) jtb_Quotient_idle := jGd_of hX jtk_Quotient_idle (jcon jfl_X6_37 jnil) jnil jnil (jcon (jsV jlk_X6_102 ⟨rfl, rfl⟩ (jad_Quotient_product F sh hs)) jnil) hs
  have rr4 : ∀ (fu : Nat) (v1 v2 : Int) (σ : jxS), jRf X (Quotient_idle_c4 F 53 fu v1 v2 σ) 4 [some (jmr 53), some (jmi v1), some (jmi v2)] [] σ := by
    intro  fu
    induction fu with
    | zero => intros; exact jRf_none
    | succ fu ih =>
      intro v1 v2 σ
      exact jRf_by (jex_ok hG (cs := [(4, [some (.inr (some 53)), some (.inl 0), some (.inl 0)], [], fun xs σ => match xs with
      | [v1, v2] => (Quotient_idle_c4 F 53 fu) v1 v2 σ
      | _ => none)]) (jcon (jl2 (fun y0 y1 => jl0 (fun σ => ih y0 y1 σ))) jnil) 27 4 [some (jmr 53), some (jmi v1), some (jmi v2)] [] σ) rfl
  exact jRf_by (jex_ok hG (cs := [(4, [some (.inr (some 53)), some (.inl 0), some (.inl 0)], [], fun xs σ => match xs with
      | [v1, v2] => Quotient_idle_c4 F 53 F v1 v2 σ
      | _ => none)]) (jcon (jl2 (fun y0 y1 => jl0 (fun σ => rr4 F y0 y1 σ))) jnil) 27 0 [some (jmr 53), none, none] [] σ0) rfl
set_option maxRecDepth 100000 in
set_option maxHeartbeats 4000000 in
theorem jmet_Quotient_idle_58 (F : Nat) (sh : List jxC) (hs : jHas sh jc_C) (σ0 : jxS) (x : Int) (σ' : jxS) (h : Quotient_idle F 58 σ0 = some (x, σ')) : jMC yX6_idle cX6_idle 3 (jrt 1) 3 70 sh σ0 [(jmr 58)] (jrv 1 x) σ' := by
  refine jMC_of (kd := 1) (by decide) rfl h ?_
  intro X hX
  have hG : jGd X (jE_Quotient_idle F) jtb_Quotient_idle := jGd_of hX jtk_Quotient_idle (jcon jfl_X6_37 jnil) jnil jnil (jcon (jsV jlk_X6_102 ⟨rfl, rfl⟩ (jad_Quotient_product F sh hs)) jnil) hs
  have rr4 : ∀ (fu : Nat) (v1 v2 : Int) (σ : jxS), jRf X (Quotient_idle_c4 F 58 fu v1 v2 σ) 4 [some (jmr 58), some (jmi v1), some (jmi v2)] [] σ := by
    intro  fu
    induction fu with
    | zero => intros; exact jRf_none
    | succ fu ih =>
      intro v1 v2 σ
      exact jRf_by (jex_ok hG (cs := [(4, [some (.inr (some 58)), some (.inl 0), some (.inl 0)], [], fun xs σ => match xs with
      | [v1, v2] => (Quotient_idle_c4 F 58 fu) v1 v2 σ
      | _ => none)]) (jcon (jl2 (fun y0 y1 => jl0 (fun σ => ih y0 y1 σ))) jnil) 27 4 [some (jmr 58), some (jmi v1), some (jmi v2)] [] σ) rfl
  exact jRf_by (jex_ok hG (cs := [(4, [some (.inr (some 58)), some (.inl 0), some (.inl 0)], [], fun xs σ => match xs with
      | [v1, v2] => Quotient_idle_c4 F 58 F v1 v2 σ
      | _ => none)]) (jcon (jl2 (fun y0 y1 => jl0 (fun σ => rr4 F y0 y1 σ))) jnil) 27 0 [some (jmr 58), none, none] [] σ0) rfl
set_option maxRecDepth 100000 in
set_option maxHeartbeats 4000000 in
theorem jmet_Quotient_idle_63 (F : Nat) (sh : List jxC) (hs : jHas sh jc_C) (σ0 : jxS) (x : Int) (σ' : jxS) (h : Quotient_idle F 63 σ0 = some (x, σ')) : jMC yX6_idle cX6_idle 3 (jrt 1) 3 70 sh σ0 [(jmr 63)] (jrv 1 x) σ' := by
  refine jMC_of (kd := 1) (by decide) rfl h ?_
  intro X hX
  have hG : jGd X (jE_Quotient_idle F) jtb_Quotient_idle := jGd_of hX jtk_Quotient_idle (jcon jfl_X6_37 jnil) jnil jnil (jcon (jsV jlk_X6_102 ⟨rfl, rfl⟩ (jad_Quotient_product F sh hs)) jnil) hs
  have rr4 : ∀ (fu : Nat) (v1 v2 : Int) (σ : jxS), jRf X (Quotient_idle_c4 F 63 fu v1 v2 σ) 4 [some (jmr 63), some (jmi v1), some (jmi v2)] [] σ := by
    intro  fu
    induction fu with
    | zero => intros; exact jRf_none
    | succ fu ih =>
      intro v1 v2 σ
      exact jRf_by (jex_ok hG (cs := [(4, [some (.inr (some 63)), some (.inl 0), some (.inl 0)], [], fun xs σ => match xs with
      | [v1, v2] => (Quotient_idle_c4 F 63 fu) v1 v2 σ
      | _ => none)]) (jcon (jl2 (fun y0 y1 => jl0 (fun σ => ih y0 y1 σ))) jnil) 27 4 [some (jmr 63), some (jmi v1), some (jmi v2)] [] σ) rfl
  exact jRf_by (jex_ok hG (cs := [(4, [some (.inr (some 63)), some (.inl 0), some (.inl 0)], [], fun xs σ => match xs with
      | [v1, v2] => Quotient_idle_c4 F 63 F v1 v2 σ
      | _ => none)]) (jcon (jl2 (fun y0 y1 => jl0 (fun σ => rr4 F y0 y1 σ))) jnil) 27 0 [some (jmr 63), none, none] [] σ0) rfl
set_option maxRecDepth 100000 in
set_option maxHeartbeats 4000000 in
theorem jmet_Quotient_idle_68 (F : Nat) (sh : List jxC) (hs : jHas sh jc_C) (σ0 : jxS) (x : Int) (σ' : jxS) (h : Quotient_idle F 68 σ0 = some (x, σ')) : jMC yX6_idle cX6_idle 3 (jrt 1) 3 70 sh σ0 [(jmr 68)] (jrv 1 x) σ' := by
  refine jMC_of (kd := 1) (by decide) rfl h ?_
  intro X hX
  have hG : jGd X (jE_Quotient_idle F) jtb_Quotient_idle := jGd_of hX jtk_Quotient_idle (jcon jfl_X6_37 jnil) jnil jnil (jcon (jsV jlk_X6_102 ⟨rfl, rfl⟩ (jad_Quotient_product F sh hs)) jnil) hs
  have rr4 : ∀ (fu : Nat) (v1 v2 : Int) (σ : jxS), jRf X (Quotient_idle_c4 F 68 fu v1 v2 σ) 4 [some (jmr 68), some (jmi v1), some (jmi v2)] [] σ := by
    intro  fu
    induction fu with
    | zero => intros; exact jRf_none
    | succ fu ih =>
      intro v1 v2 σ
      exact jRf_by (jex_ok hG (cs := [(4, [some (.inr (some 68)), some (.inl 0), some (.inl 0)], [], fun xs σ => match xs with
      | [v1, v2] => (Quotient_idle_c4 F 68 fu) v1 v2 σ
      | _ => none)]) (jcon (jl2 (fun y0 y1 => jl0 (fun σ => ih y0 y1 σ))) jnil) 27 4 [some (jmr 68), some (jmi v1), some (jmi v2)] [] σ) rfl
  exact jRf_by (jex_ok hG (cs := [(4, [some (.inr (some 68)), some (.inl 0), some (.inl 0)], [], fun xs σ => match xs with
      | [v1, v2] => Quotient_idle_c4 F 68 F v1 v2 σ
      | _ => none)]) (jcon (jl2 (fun y0 y1 => jl0 (fun σ => rr4 F y0 y1 σ))) jnil) 27 0 [some (jmr 68), none, none] [] σ0) rfl
set_option maxRecDepth 100000 in
set_option maxHeartbeats 4000000 in
theorem jmet_Quotient_idle_73 (F : Nat) (sh : List jxC) (hs : jHas sh jc_C) (σ0 : jxS) (x : Int) (σ' : jxS) (h : Quotient_idle F 73 σ0 = some (x, σ')) : jMC yX6_idle cX6_idle 3 (jrt 1) 3 70 sh σ0 [(jmr 73)] (jrv 1 x) σ' := by
  refine jMC_of (kd := 1) (by decide) rfl h ?_
  intro X hX
  have hG : jGd X (jE_Quotient_idle F) jtb_Quotient_idle := jGd_of hX jtk_Quotient_idle (jcon jfl_X6_37 jnil) jnil jnil (jcon (jsV jlk_X6_102 ⟨rfl, rfl⟩ (jad_Quotient_product F sh hs)) jnil) hs
  have rr4 : ∀ (fu : Nat) (v1 v2 : Int) (σ : jxS), jRf X (Quotient_idle_c4 F 73 fu v1 v2 σ) 4 [some (jmr 73), some (jmi v1), some (jmi v2)] [] σ := by
    intro  fu
    induction fu with
    | zero => intros; exact jRf_none
    | succ fu ih =>
      intro v1 v2 σ
      exact jRf_by (jex_ok hG (cs := [(4, [some (.inr (some 73)), some (.inl 0), some (.inl 0)], [], fun xs σ => match xs with
      | [v1, v2] => (Quotient_idle_c4 F 73 fu) v1 v2 σ
      | _ => none)]) (jcon (jl2 (fun y0 y1 => jl0 (fun σ => ih y0 y1 σ))) jnil) 27 4 [some (jmr 73), some (jmi v1), some (jmi v2)] [] σ) rfl
  exact jRf_by (jex_ok hG (cs := [(4, [some (.inr (some 73)), some (.inl 0), some (.inl 0)], [], fun xs σ => match xs with
      | [v1, v2] => Quotient_idle_c4 F 73 F v1 v2 σ
      | _ => none)]) (jcon (jl2 (fun y0 y1 => jl0 (fun σ => rr4 F y0 y1 σ))) jnil) 27 0 [some (jmr 73), none, none] [] σ0) rfl
theorem jmet_Quotient_idle (F : Nat) (q : Nat) (hq : q ∈ jids_Quotient_idle_q) (sh : List jxC) (hs : jHas sh jc_C) (σ0 : jxS) (x : Int) (σ' : jxS) (h : Quotient_idle F q σ0 = some (x, σ')) : jMC yX6_idle cX6_idle 3 (jrt 1) 3 70 sh σ0 [(jmr q)] (jrv 1 x) σ' := by
  simp only [jids_Quotient_idle_q, List.mem_cons, List.not_mem_nil, or_false] at hq
  rcases hq with rfl | rfl | rfl | rfl | rfl | rfl
  · exact jmet_Quotient_idle_48 F sh hs σ0  x σ' h
  · exact jmet_Quotient_idle_53 F sh hs σ0  x σ' h
  · exact jmet_Quotient_idle_58 F sh hs σ0  x σ' h
  · exact jmet_Quotient_idle_63 F sh hs σ0  x σ' h
  · exact jmet_Quotient_idle_68 F sh hs σ0  x σ' h
  · exact jmet_Quotient_idle_73 F sh hs σ0  x σ' h
theorem jad_Quotient_idle (F : Nat) (sh : List jxC) (hs : jHas sh jc_C) : jAdV (jca_Quotient_idle F) yX6_idle cX6_idle 3 1 3 70 0 sh := by
  intro as σ k x σ' h
  unfold jca_Quotient_idle at h
  split at h
  · rename_i t0
    obtain ⟨g0, hh1⟩ := jcond h
    have g0 := jin_of g0
    obtain ⟨r, h1, h2⟩ := Option.bind_eq_some_iff.mp hh1
    exact ⟨_, _, h2, (by obtain ⟨fks, hfk⟩ := jrc_Quotient hs g0; exact ⟨_, _, _, _, _, _, rfl, rfl, hfk, rfl⟩), jmet_Quotient_idle F t0 g0 sh hs σ  r.1 r.2 h1⟩
  · cases h
def jtb_Quotient_setOf : List (Nat × Instr) := [(0, .iload_n 1), (1, .tableswitch 42 0 2 #[27, 32, 37]), (28, .aload_n 0), (29, .invokevirtual 89), (32, .ireturn), (33, .aload_n 0), (34, .invokevirtual 93), (37, .ireturn), (38, .aload_n 0), (39, .invokevirtual 96), (42, .ireturn), (43, .aload_n 0), (44, .invokevirtual 99), (47, .ireturn)]
theorem jtk_Quotient_setOf : jtok cX6_setOf jtb_Quotient_setOf = true := by decide +kernel
set_option maxRecDepth 100000 in
theorem jlk_X6_89 : jLkV RX6 89 yX6_lostSet cX6_lostSet 3 1 0 := ⟨(jTB_at 1208 rfl rfl), (jTB_at 1209 rfl rfl), (jTB_at 1210 rfl rfl), (jTB_at 128 rfl rfl), jTB_at 1211 rfl rfl, ⟨by decide, by decide, by decide +kernel⟩⟩
set_option maxRecDepth 100000 in
theorem jlk_X6_93 : jLkV RX6 93 yX6_kernel cX6_kernel 3 1 0 := ⟨(jTB_at 1212 rfl rfl), (jTB_at 1214 rfl rfl), (jTB_at 38 rfl rfl), (jTB_at 128 rfl rfl), jTB_at 1215 rfl rfl, ⟨by decide, by decide, by decide +kernel⟩⟩
set_option maxRecDepth 100000 in
theorem jlk_X6_96 : jLkV RX6 96 yX6_units cX6_units 3 1 0 := ⟨(jTB_at 1221 rfl rfl), (jTB_at 1223 rfl rfl), (jTB_at 40 rfl rfl), (jTB_at 128 rfl rfl), jTB_at 1224 rfl rfl, ⟨by decide, by decide, by decide +kernel⟩⟩
set_option maxRecDepth 100000 in
theorem jlk_X6_99 : jLkV RX6 99 yX6_idle cX6_idle 3 1 0 := ⟨(jTB_at 1225 rfl rfl), (jTB_at 1227 rfl rfl), (jTB_at 41 rfl rfl), (jTB_at 128 rfl rfl), jTB_at 1228 rfl rfl, ⟨by decide, by decide, by decide +kernel⟩⟩
def jE_Quotient_setOf (F : Nat) : jxE := jmk [] [] [] [(89, (1, false), jca_Quotient_lostSet F), (93, (1, false), jca_Quotient_kernel F), (96, (1, false), jca_Quotient_units F), (99, (1, false), jca_Quotient_idle F)] 1 jc_C
set_option maxRecDepth 100000 in
set_option maxHeartbeats 4000000 in
theorem jmet_Quotient_setOf_48 (F : Nat) (sh : List jxC) (hs : jHas sh jc_C) (σ0 : jxS) (v1 : Int) (x : Int) (σ' : jxS) (h : Quotient_setOf F 48 σ0 v1 = some (x, σ')) : jMC yX6_setOf cX6_setOf 2 (jrt 1) 5 115 sh σ0 [(jmr 48), (jmi v1)] (jrv 1 x) σ' := by
  refine jMC_of (kd := 1) (by decide) rfl h ?_
  intro X hX
  have hG : jGd X (jE_Quotient_setOf F) jtb_Quotient_setOf := jGd_of hX jtk_Quotient_setOf jnil jnil jnil (jcon (jsV jlk_X6_89 ⟨rfl, rfl⟩ (jad_Quotient_lostSet F sh hs)) (jcon (jsV jlk_X6_93 ⟨rfl, rfl⟩ (jad_Quotient_kernel F sh hs)) (jcon (jsV jlk_X6_96 ⟨rfl, rfl⟩ (jad_Quotient_units F sh hs)) (jcon (jsV jlk_X6_99 ⟨rfl, rfl⟩ (jad_Quotient_idle F sh hs)) jnil)))) hs
  exact jRf_by (jex_ok hG (cs := []) jnil 17 0 [some (jmr 48), some (jmi v1)] [] σ0) rfl
set_option maxRecDepth 100000 in
set_option maxHeartbeats 4000000 in
theorem jmet_Quotient_setOf_53 (F : Nat) (sh : List jxC) (hs : jHas sh jc_C) (σ0 : jxS) (v1 : Int) (x : Int) (σ' : jxS) (h : Quotient_setOf F 53 σ0 v1 = some (x, σ')) : jMC yX6_setOf cX6_setOf 2 (jrt 1) 5 115 sh σ0 [(jmr 53), (jmi v1)] (jrv 1 x) σ' := by
  refine jMC_of (kd := 1) (by decide) rfl h ?_
  intro X hX
  have hG : jGd X (jE_Quotient_setOf F) jtb_Quotient_setOf := jGd_of hX jtk_Quotient_setOf jnil jnil jnil (jcon (jsV jlk_X6_89 ⟨rfl, rfl⟩ (jad_Quotient_lostSet F sh hs)) (jcon (jsV jlk_X6_93 ⟨rfl, rfl⟩ (jad_Quotient_kernel F sh hs)) (jcon (jsV jlk_X6_96 ⟨rfl, rfl⟩ (jad_Quotient_units F sh hs)) (jcon (jsV jlk_X6_99 ⟨rfl, rfl⟩ (jad_Quotient_idle F sh hs)) jnil)))) hs
  exact jRf_by (jex_ok hG (cs := []) jnil 17 0 [some (jmr 53), some (jmi v1)] [] σ0) rfl
set_option maxRecDepth 100000 in
set_option maxHeartbeats 4000000 in
theorem jmet_Quotient_setOf_58 (F : Nat) (sh : List jxC) (hs : jHas sh jc_C) (σ0 : jxS) (v1 : Int) (x : Int) (σ' : jxS) (h : Quotient_setOf F 58 σ0 v1 = some (x, σ')) : jMC yX6_setOf cX6_setOf 2 (jrt 1) 5 115 sh σ0 [(jmr 58), (jmi v1)] (jrv 1 x) σ' := by
  refine jMC_of (kd := 1) (by decide) rfl h ?_
  intro X hX
  have hG : jGd X (jE_Quotient_setOf F) jtb_Quotient_setOf := jGd_of hX jtk_Quotient_setOf jnil jnil jnil (jcon (jsV jlk_X6_89 ⟨rfl, rfl⟩ (jad_Quotient_lostSet F sh hs)) (jcon (jsV jlk_X6_93 ⟨rfl, rfl⟩ (jad_Quotient_kernel F sh hs)) (jcon (jsV jlk_X6_96 ⟨rfl, rfl⟩ (jad_Quotient_units F sh hs)) (jcon (jsV jlk_X6_99 ⟨rfl, rfl⟩ (jad_Quotient_idle F sh hs)) jnil)))) hs
  exact jRf_by (jex_ok hG (cs := []) jnil 17 0 [some (jmr 58), some (jmi v1)] [] σ0) rfl
set_option maxRecDepth 100000 in
set_option maxHeartbeats 4000000 in
theorem jmet_Quotient_setOf_63 (F : Nat) (sh : List jxC) (hs : jHas sh jc_C) (σ0 : jxS) (v1 : Int) (x : Int) (σ' : jxS) (h : Quotient_setOf F 63 σ0 v1 = some (x, σ')) : jMC yX6_setOf cX6_setOf 2 (jrt 1) 5 115 sh σ0 [(jmr 63), (jmi v1)] (jrv 1 x) σ' := by
  refine jMC_of (kd := 1) (by decide) rfl h ?_
  intro X hX
  have hG : jGd X (jE_Quotient_setOf F) jtb_Quotient_setOf := jGd_of hX jtk_Quotient_setOf jnil jnil jnil (jcon (jsV jlk_X6_89 ⟨rfl, rfl⟩ (jad_Quotient_lostSet F sh hs)) (jcon (jsV jlk_X6_93 ⟨rfl, rfl⟩ (jad_Quotient_kernel F sh hs)) (jcon (jsV jlk_X6_96 ⟨rfl, rfl⟩ (jad_Quotient_units F sh hs)) (jcon (jsV jlk_X6_99 ⟨rfl, rfl⟩ (jad_Quotient_idle F sh hs)) jnil)))) hs
  exact jRf_by (jex_ok hG (cs := []) jnil 17 0 [some (jmr 63), some (jmi v1)] [] σ0) rfl
set_option maxRecDepth 100000 in
set_option maxHeartbeats 4000000 in
theorem jmet_Quotient_setOf_68 (F : Nat) (sh : List jxC) (hs : jHas sh jc_C) (σ0 : jxS) (v1 : Int) (x : Int) (σ' : jxS) (h : Quotient_setOf F 68 σ0 v1 = some (x, σ')) : jMC yX6_setOf cX6_setOf 2 (jrt 1) 5 115 sh σ0 [(jmr 68), (jmi v1)] (jrv 1 x) σ' := by
  refine jMC_of (kd := 1) (by decide) rfl h ?_
  intro X hX
  have hG : jGd X (jE_Quotient_setOf F) jtb_Quotient_setOf := jGd_of hX jtk_Quotient_setOf jnil jnil jnil (jcon (jsV jlk_X6_89 ⟨rfl, rfl⟩ (jad_Quotient_lostSet F sh hs)) (jcon (jsV jlk_X6_93 ⟨rfl, rfl⟩ (jad_Quotient_kernel F sh hs)) (jcon (jsV jlk_X6_96 ⟨rfl, rfl⟩ (jad_Quotient_units F sh hs)) (jcon (jsV jlk_X6_99 ⟨rfl, rfl⟩ (jad_Quotient_idle F sh hs)) jnil)))) hs
  exact jRf_by (jex_ok hG (cs := []) jnil 17 0 [some (jmr 68), some (jmi v1)] [] σ0) rfl
set_option maxRecDepth 100000 in
set_option maxHeartbeats 4000000 in
theorem jmet_Quotient_setOf_73 (F : Nat) (sh : List jxC) (hs : jHas sh jc_C) (σ0 : jxS) (v1 : Int) (x : Int) (σ' : jxS) (h : Quotient_setOf F 73 σ0 v1 = some (x, σ')) : jMC yX6_setOf cX6_setOf 2 (jrt 1) 5 115 sh σ0 [(jmr 73), (jmi v1)] (jrv 1 x) σ' := by
  refine jMC_of (kd := 1) (by decide) rfl h ?_
  intro X hX
  have hG : jGd X (jE_Quotient_setOf F) jtb_Quotient_setOf := jGd_of hX jtk_Quotient_setOf jnil jnil jnil (jcon (jsV jlk_X6_89 ⟨rfl, rfl⟩ (jad_Quotient_lostSet F sh hs)) (jcon (jsV jlk_X6_93 ⟨rfl, rfl⟩ (jad_Quotient_kernel F sh hs)) (jcon (jsV jlk_X6_96 ⟨rfl, rfl⟩ (jad_Quotient_units F sh hs)) (jcon (jsV jlk_X6_99 ⟨rfl, rfl⟩ (jad_Quotient_idle F sh hs)) jnil)))) hs
  exact jRf_by (jex_ok hG (cs := []) jnil 17 0 [some (jmr 73), some (jmi v1)] [] σ0) rfl
theorem jmet_Quotient_setOf (F : Nat) (q : Nat) (hq : q ∈ jids_Quotient_setOf_q) (sh : List jxC) (hs : jHas sh jc_C) (σ0 : jxS) (v1 : Int) (x : Int) (σ' : jxS) (h : Quotient_setOf F q σ0 v1 = some (x, σ')) : jMC yX6_setOf cX6_setOf 2 (jrt 1) 5 115 sh σ0 [(jmr q), (jmi v1)] (jrv 1 x) σ' := by
  simp only [jids_Quotient_setOf_q, List.mem_cons, List.not_mem_nil, or_false] at hq
  rcases hq with rfl | rfl | rfl | rfl | rfl | rfl
  · exact jmet_Quotient_setOf_48 F sh hs σ0 v1 x σ' h
  · exact jmet_Quotient_setOf_53 F sh hs σ0 v1 x σ' h
  · exact jmet_Quotient_setOf_58 F sh hs σ0 v1 x σ' h
  · exact jmet_Quotient_setOf_63 F sh hs σ0 v1 x σ' h
  · exact jmet_Quotient_setOf_68 F sh hs σ0 v1 x σ' h
  · exact jmet_Quotient_setOf_73 F sh hs σ0 v1 x σ' h
theorem jad_Quotient_setOf (F : Nat) (sh : List jxC) (hs : jHas sh jc_C) : jAdV (jca_Quotient_setOf F) yX6_setOf cX6_setOf 2 1 5 115 1 sh := by
  intro as σ k x σ' h
  unfold jca_Quotient_setOf at h
  split at h
  · rename_i t0 v1
    obtain ⟨g0, hh1⟩ := jcond h
    have g0 := jin_of g0
    obtain ⟨r, h1, h2⟩ := Option.bind_eq_some_iff.mp hh1
    exact ⟨_, _, h2, (by obtain ⟨fks, hfk⟩ := jrc_Quotient hs g0; exact ⟨_, _, _, _, _, _, rfl, rfl, hfk, rfl⟩), jmet_Quotient_setOf F t0 g0 sh hs σ v1 r.1 r.2 h1⟩
  · cases h
def jtb_LL1_sets : List (Nat × Instr) := [(0, .aload_n 0), (1, .iload_n 1), (2, .invokevirtual 193), (5, .astore_n 3), (6, .aload_n 3), (7, .ifnull 12), (10, .iload_n 2), (11, .ifCond .lt 8), (14, .iload_n 2), (15, .iconst 3), (16, .if_icmp .le 5), (19, .iconst (-1)), (20, .ireturn), (21, .aload_n 3), (22, .invokevirtual 200), (25, .ifCond .eq 11), (28, .aload_n 3), (29, .iload_n 2), (30, .invokevirtual 215), (33, .goto 5), (36, .bipush (-3)), (38, .ireturn)]
theorem jtk_LL1_sets : jtok cX11_sets jtb_LL1_sets = true := by decide +kernel
set_option maxRecDepth 100000 in
theorem jlk_X11_215 : jLkV RX11 215 yX6_setOf cX6_setOf 2 1 1 := ⟨(jTB_at 1204 rfl rfl), (jTB_at 1205 rfl rfl), (jTB_at 1206 rfl rfl), (jTB_at 128 rfl rfl), jTB_at 1207 rfl rfl, ⟨by decide, by decide, by decide +kernel⟩⟩
def jE_LL1_sets (F : Nat) : jxE := jmk [] [] [] [(193, (2, false), jca_LL1_quotientOf F), (200, (1, false), jca_Quotient_isKnown F), (215, (2, false), jca_Quotient_setOf F)] 1 jc_L1
set_option maxRecDepth 100000 in
set_option maxHeartbeats 4000000 in
theorem jmet_LL1_sets (F : Nat) (sh : List jxC) (hs : jHas sh jc_L1) (σ0 : jxS) (v1 : Int) (v2 : Int) (x : Int) (σ' : jxS) (h : LL1_sets F σ0 v1 v2 = some (x, σ')) : jMC yX11_sets cX11_sets 4 (jrt 1) 7 165 sh σ0 [(jmr 0), (jmi v1), (jmi v2)] (jrv 1 x) σ' := by
  refine jMC_of (kd := 1) (by decide) rfl h ?_
  intro X hX
  have hG : jGd X (jE_LL1_sets F) jtb_LL1_sets := jGd_of hX jtk_LL1_sets jnil jnil jnil (jcon (jsV jlk_X11_193 ⟨rfl, rfl⟩ (jad_LL1_quotientOf F sh hs)) (jcon (jsV jlk_X11_200 ⟨rfl, rfl⟩ (jad_Quotient_isKnown F sh (jh_L1C hs))) (jcon (jsV jlk_X11_215 ⟨rfl, rfl⟩ (jad_Quotient_setOf F sh (jh_L1C hs))) jnil))) hs
  exact jRf_by (jex_ok hG (cs := []) jnil 25 0 [some (jmr 0), some (jmi v1), some (jmi v2), none] [] σ0) rfl
theorem jad_LL1_sets (F : Nat) (sh : List jxC) (hs : jHas sh jc_L1) : jAdV (jca_LL1_sets F) yX11_sets cX11_sets 4 1 7 165 2 sh := by
  intro as σ k x σ' h
  unfold jca_LL1_sets at h
  split at h
  · rename_i t0 v1 v2
    obtain ⟨g0, hh1⟩ := jcond h
    obtain rfl := jbeq g0
    obtain ⟨r, h1, h2⟩ := Option.bind_eq_some_iff.mp hh1
    exact ⟨_, _, h2, ⟨_, _, _, _, _, _, rfl, rfl, (hs _ (jkf_in (l := jc_L1) (idx := 0) rfl)).1, rfl⟩, jmet_LL1_sets F  sh hs σ v1 v2 r.1 r.2 h1⟩
  · cases h
def jtb_Quotient_heaps : List (Nat × Instr) := [(0, .aload_n 0), (1, .getfield 25), (4, .ireturn)]
theorem jtk_Quotient_heaps : jtok cX6_heaps jtb_Quotient_heaps = true := by decide +kernel
def jE_Quotient_heaps (F : Nat) : jxE := jmk [(25, 6, 0)] [] [] [] 1 jc_C
set_option maxRecDepth 100000 in
set_option maxHeartbeats 4000000 in
theorem jmet_Quotient_heaps_48 (F : Nat) (sh : List jxC) (hs : jHas sh jc_C) (σ0 : jxS) (x : Int) (σ' : jxS) (h : Quotient_heaps F 48 σ0 = some (x, σ')) : jMC yX6_heaps cX6_heaps 1 (jrt 1) 0 0 sh σ0 [(jmr 48)] (jrv 1 x) σ' := by
  refine jMC_of (kd := 1) (by decide) rfl h ?_
  intro X hX
  have hG : jGd X (jE_Quotient_heaps F) jtb_Quotient_heaps := jGd_of hX jtk_Quotient_heaps (jcon jfl_X6_25 jnil) jnil jnil jnil hs
  exact jRf_by (jex_ok hG (cs := []) jnil 6 0 [some (jmr 48)] [] σ0) rfl
set_option maxRecDepth 100000 in
set_option maxHeartbeats 4000000 in
theorem jmet_Quotient_heaps_53 (F : Nat) (sh : List jxC) (hs : jHas sh jc_C) (σ0 : jxS) (x : Int) (σ' : jxS) (h : Quotient_heaps F 53 σ0 = some (x, σ')) : jMC yX6_heaps cX6_heaps 1 (jrt 1) 0 0 sh σ0 [(jmr 53)] (jrv 1 x) σ' := by
  refine jMC_of (kd := 1) (by decide) rfl h ?_
  intro X hX
  have hG : jGd X (jE_Quotient_heaps F) jtb_Quotient_heaps := jGd_of hX jtk_Quotient_heaps (jcon jfl_X6_25 jnil) jnil jnil jnil hs
  exact jRf_by (jex_ok hG (cs := []) jnil 6 0 [some (jmr 53)] [] σ0) rfl
set_option maxRecDepth 100000 in
set_option maxHeartbeats 4000000 in
theorem jmet_Quotient_heaps_58 (F : Nat) (sh : List jxC) (hs : jHas sh jc_C) (σ0 : jxS) (x : Int) (σ' : jxS) (h : Quotient_heaps F 58 σ0 = some (x, σ')) : jMC yX6_heaps cX6_heaps 1 (jrt 1) 0 0 sh σ0 [(jmr 58)] (jrv 1 x) σ' := by
  refine jMC_of (kd := 1) (by decide) rfl h ?_
  intro X hX
  have hG : jGd X (jE_Quotient_heaps F) jtb_Quotient_heaps := jGd_of hX jtk_Quotient_heaps (jcon jfl_X6_25 jnil) jnil jnil jnil hs
  exact jRf_by (jex_ok hG (cs := []) jnil 6 0 [some (jmr 58)] [] σ0) rfl
set_option maxRecDepth 100000 in
set_option maxHeartbeats 4000000 in
theorem jmet_Quotient_heaps_63 (F : Nat) (sh : List jxC) (hs : jHas sh jc_C) (σ0 : jxS) (x : Int) (σ' : jxS) (h : Quotient_heaps F 63 σ0 = some (x, σ')) : jMC yX6_heaps cX6_heaps 1 (jrt 1) 0 0 sh σ0 [(jmr 63)] (jrv 1 x) σ' := by
  refine jMC_of (kd := 1) (by decide) rfl h ?_
  intro X hX
  have hG : jGd X (jE_Quotient_heaps F) jtb_Quotient_heaps := jGd_of hX jtk_Quotient_heaps (jcon jfl_X6_25 jnil) jnil jnil jnil hs
  exact jRf_by (jex_ok hG (cs := []) jnil 6 0 [some (jmr 63)] [] σ0) rfl
set_option maxRecDepth 100000 in
set_option maxHeartbeats 4000000 in
theorem jmet_Quotient_heaps_68 (F : Nat) (sh : List jxC) (hs : jHas sh jc_C) (σ0 : jxS) (x : Int) (σ' : jxS) (h : Quotient_heaps F 68 σ0 = some (x, σ')) : jMC yX6_heaps cX6_heaps 1 (jrt 1) 0 0 sh σ0 [(jmr 68)] (jrv 1 x) σ' := by
  refine jMC_of (kd := 1) (by decide) rfl h ?_
  intro X hX
  have hG : jGd X (jE_Quotient_heaps F) jtb_Quotient_heaps := jGd_of hX jtk_Quotient_heaps (jcon jfl_X6_25 jnil) jnil jnil jnil hs
  exact jRf_by (jex_ok hG (cs := []) jnil 6 0 [some (jmr 68)] [] σ0) rfl
set_option maxRecDepth 100000 in
set_option maxHeartbeats 4000000 in
theorem jmet_Quotient_heaps_73 (F : Nat) (sh : List jxC) (hs : jHas sh jc_C) (σ0 : jxS) (x : Int) (σ' : jxS) (h : Quotient_heaps F 73 σ0 = some (x, σ')) : jMC yX6_heaps cX6_heaps 1 (jrt 1) 0 0 sh σ0 [(jmr 73)] (jrv 1 x) σ' := by
  refine jMC_of (kd := 1) (by decide) rfl h ?_
  intro X hX
  have hG : jGd X (jE_Quotient_heaps F) jtb_Quotient_heaps := jGd_of hX jtk_Quotient_heaps (jcon jfl_X6_25 jnil) jnil jnil jnil hs
  exact jRf_by (jex_ok hG (cs := []) jnil 6 0 [some (jmr 73)] [] σ0) rfl
theorem jmet_Quotient_heaps (F : Nat) (q : Nat) (hq : q ∈ jids_Quotient_heaps_q) (sh : List jxC) (hs : jHas sh jc_C) (σ0 : jxS) (x : Int) (σ' : jxS) (h : Quotient_heaps F q σ0 = some (x, σ')) : jMC yX6_heaps cX6_heaps 1 (jrt 1) 0 0 sh σ0 [(jmr q)] (jrv 1 x) σ' := by
  simp only [jids_Quotient_heaps_q, List.mem_cons, List.not_mem_nil, or_false] at hq
  rcases hq with rfl | rfl | rfl | rfl | rfl | rfl
  · exact jmet_Quotient_heaps_48 F sh hs σ0  x σ' h
  · exact jmet_Quotient_heaps_53 F sh hs σ0  x σ' h
  · exact jmet_Quotient_heaps_58 F sh hs σ0  x σ' h
  · exact jmet_Quotient_heaps_63 F sh hs σ0  x σ' h
  · exact jmet_Quotient_heaps_68 F sh hs σ0  x σ' h
  · exact jmet_Quotient_heaps_73 F sh hs σ0  x σ' h
theorem jad_Quotient_heaps (F : Nat) (sh : List jxC) (hs : jHas sh jc_C) : jAdV (jca_Quotient_heaps F) yX6_heaps cX6_heaps 1 1 0 0 0 sh := by
  intro as σ k x σ' h
  unfold jca_Quotient_heaps at h
  split at h
  · rename_i t0
    obtain ⟨g0, hh1⟩ := jcond h
    have g0 := jin_of g0
    obtain ⟨r, h1, h2⟩ := Option.bind_eq_some_iff.mp hh1
    exact ⟨_, _, h2, (by obtain ⟨fks, hfk⟩ := jrc_Quotient hs g0; exact ⟨_, _, _, _, _, _, rfl, rfl, hfk, rfl⟩), jmet_Quotient_heaps F t0 g0 sh hs σ  r.1 r.2 h1⟩
  · cases h
def jtb_Pairs_movesOf : List (Nat × Instr) := [(0, .iconst 0), (1, .istore 4), (3, .iconst 0), (4, .istore 5), (6, .iload 5), (8, .aload_n 0), (9, .getfield 21), (12, .iload_n 3), (13, .invokevirtual 75), (16, .if_icmp .ge 47), (19, .aload_n 0), (20, .getfield 21), (23, .iload_n 3), (24, .iload 5), (26, .invokevirtual 81), (29, .istore 6), (31, .iload 4), (33, .iconst 1), (34, .aload_n 1), (35, .aload_n 1), (36, .iload_n 2), (37, .iload 6), (39, .bipush 13), (41, .idiv), (42, .invokevirtual 85), (45, .iload 6), (47, .bipush 13), (49, .irem), (50, .invokevirtual 85), (53, .ishl), (54, .ior), (55, .istore 4), (57, .iinc 5 1), (60, .goto (-54)), (63, .iload 4), (65, .ireturn)]
theorem jtk_Pairs_movesOf : jtok cX4_movesOf jtb_Pairs_movesOf = true := by decide +kernel
set_option maxRecDepth 100000 in
theorem jfl_X4_21 : jFl RX4 21 4 0 := ⟨RX4, TX4, 6, tyX4, rfl, by decide, jin_X4, tyX4_ok, nmX4, jow_X4, (Or.inl (jTB_at 579 rfl rfl))⟩
set_option maxRecDepth 100000 in
theorem jlk_X4_75 : jLkV RX4 75 yX8_moveCount cX8_moveCount 2 1 1 := ⟨(jTB_at 1255 rfl rfl), (jTB_at 747 rfl rfl), (jTB_at 748 rfl rfl), (jTB_at 121 rfl rfl), jTB_at 749 rfl rfl, ⟨by decide, by decide, by decide +kernel⟩⟩
set_option maxRecDepth 100000 in
theorem jlk_X4_81 : jLkV RX4 81 yX8_moveAt cX8_moveAt 3 1 2 := ⟨(jTB_at 1256 rfl rfl), (jTB_at 755 rfl rfl), (jTB_at 756 rfl rfl), (jTB_at 121 rfl rfl), jTB_at 757 rfl rfl, ⟨by decide, by decide, by decide +kernel⟩⟩
set_option maxRecDepth 100000 in
theorem jlk_X4_85 : jLkV RX4 85 yX6_nextOf cX6_nextOf 4 1 2 := ⟨(jTB_at 1257 rfl rfl), (jTB_at 1184 rfl rfl), (jTB_at 1185 rfl rfl), (jTB_at 128 rfl rfl), jTB_at 1186 rfl rfl, ⟨by decide, by decide, by decide +kernel⟩⟩
def jE_Pairs_movesOf (F : Nat) : jxE := jmk [(21, 4, 0)] [] [] [(75, (2, false), jca_Rules_moveCount F), (81, (3, false), jca_Rules_moveAt F), (85, (3, false), jca_Quotient_nextOf F)] 1 jc_C
set_option maxRecDepth 100000 in
set_option maxHeartbeats 4000000 in
theorem jmet_Pairs_movesOf_48 (F : Nat) (sh : List jxC) (hs : jHas sh jc_C) (σ0 : jxS) (v2 : Int) (v3 : Int) (x : Int) (σ' : jxS) (h : Pairs_movesOf F 48 σ0 v2 v3 = some (x, σ')) : jMC yX4_movesOf cX4_movesOf 7 (jrt 1) 2 44 sh σ0 [(jmr 44), (jmr 48), (jmi v2), (jmi v3)] (jrv 1 x) σ' := by
  refine jMC_of (kd := 1) (by decide) rfl h ?_
  intro X hX
  have hG : jGd X (jE_Pairs_movesOf F) jtb_Pairs_movesOf := jGd_of hX jtk_Pairs_movesOf (jcon jfl_X4_21 jnil) jnil jnil (jcon (jsV jlk_X4_75 ⟨rfl, rfl⟩ (jad_Rules_moveCount F sh hs)) (jcon (jsV jlk_X4_81 ⟨rfl, rfl⟩ (jad_Rules_moveAt F sh hs)) (jcon (jsV jlk_X4_85 ⟨rfl, rfl⟩ (jad_Quotient_nextOf F sh hs)) jnil))) hs
  have rr6 : ∀ (fu : Nat) (v2 v3 v4 v5 : Int) (σ : jxS), jRf X (Pairs_movesOf_c6 F 48 fu v2 v3 v4 v5 σ) 6 [some (jmr 44), some (jmr 48), some (jmi v2), some (jmi v3), some (jmi v4), some (jmi v5), none] [] σ := by
    intro  fu
    induction fu with
    | zero => intros; exact jRf_none
    | succ fu ih =>
      intro v2 v3 v4 v5 σ
      exact jRf_by (jex_ok hG (cs := [(6, [some (.inr (some 44)), some (.inr (some 48)), some (.inl 0), some (.inl 0), some (.inl 0), some (.inl 0), none], [], fun xs σ => match xs with
      | [v2, v3, v4, v5] => (Pairs_movesOf_c6 F 48 fu) v2 v3 v4 v5 σ
      | _ => none)]) (jcon (jl4 (fun y0 y1 y2 y3 => jl0 (fun σ => ih y0 y1 y2 y3 σ))) jnil) 39 6 [some (jmr 44), some (jmr 48), some (jmi v2), some (jmi v3), some (jmi v4), some (jmi v5), none] [] σ) rfl
  exact jRf_by (jex_ok hG (cs := [(6, [some (.inr (some 44)), some (.inr (some 48)), some (.inl 0), some (.inl 0), some (.inl 0), some (.inl 0), none], [], fun xs σ => match xs with
      | [v2, v3, v4, v5] => Pairs_movesOf_c6 F 48 F v2 v3 v4 v5 σ
      | _ => none)]) (jcon (jl4 (fun y0 y1 y2 y3 => jl0 (fun σ => rr6 F y0 y1 y2 y3 σ))) jnil) 39 0 [some (jmr 44), some (jmr 48), some (jmi v2), some (jmi v3), none, none, none] [] σ0) rfl
set_option maxRecDepth 100000 in
set_option maxHeartbeats 4000000 in
theorem jmet_Pairs_movesOf_53 (F : Nat) (sh : List jxC) (hs : jHas sh jc_C) (σ0 : jxS) (v2 : Int) (v3 : Int) (x : Int) (σ' : jxS) (h : Pairs_movesOf F 53 σ0 v2 v3 = some (x, σ')) : jMC yX4_movesOf cX4_movesOf 7 (jrt 1) 2 44 sh σ0 [(jmr 44), (jmr 53), (jmi v2), (jmi v3)] (jrv 1 x) σ' := by
  refine jMC_of (kd := 1) (by decide) rfl h ?_
  intro X hX
  have hG : jGd X (jE_Pairs_movesOf F) jtb_Pairs_movesOf := jGd_of hX jtk_Pairs_movesOf (jcon jfl_X4_21 jnil) jnil jnil (jcon (jsV jlk_X4_75 ⟨rfl, rfl⟩ (jad_Rules_moveCount F sh hs)) (jcon (jsV jlk_X4_81 ⟨rfl, rfl⟩ (jad_Rules_moveAt F sh hs)) (jcon (jsV jlk_X4_85 ⟨rfl, rfl⟩ (jad_Quotient_nextOf F sh hs)) jnil))) hs
  have rr6 : ∀ (fu : Nat) (v2 v3 v4 v5 : Int) (σ : jxS), jRf X (Pairs_movesOf_c6 F 53 fu v2 v3 v4 v5 σ) 6 [some (jmr 44), some (jmr 53), some (jmi v2), some (jmi v3), some (jmi v4), some (jmi v5), none] [] σ := by
    intro  fu
    induction fu with
    | zero => intros; exact jRf_none
    | succ fu ih =>
      intro v2 v3 v4 v5 σ
      exact jRf_by (jex_ok hG (cs := [(6, [some (.inr (some 44)), some (.inr (some 53)), some (.inl 0), some (.inl 0), some (.inl 0), some (.inl 0), none], [], fun xs σ => match xs with
      | [v2, v3, v4, v5] => (Pairs_movesOf_c6 F 53 fu) v2 v3 v4 v5 σ
      | _ => none)]) (jcon (jl4 (fun y0 y1 y2 y3 => jl0 (fun σ => ih y0 y1 y2 y3 σ))) jnil) 39 6 [some (jmr 44), some (jmr 53), some (jmi v2), some (jmi v3), some (jmi v4), some (jmi v5), none] [] σ) rfl
  exact jRf_by (jex_ok hG (cs := [(6, [some (.inr (some 44)), some (.inr (some 53)), some (.inl 0), some (.inl 0), some (.inl 0), some (.inl 0), none], [], fun xs σ => match xs with
      | [v2, v3, v4, v5] => Pairs_movesOf_c6 F 53 F v2 v3 v4 v5 σ
      | _ => none)]) (jcon (jl4 (fun y0 y1 y2 y3 => jl0 (fun σ => rr6 F y0 y1 y2 y3 σ))) jnil) 39 0 [some (jmr 44), some (jmr 53), some (jmi v2), some (jmi v3), none, none, none] [] σ0) rfl
set_option maxRecDepth 100000 in
set_option maxHeartbeats 4000000 in
theorem jmet_Pairs_movesOf_58 (F : Nat) (sh : List jxC) (hs : jHas sh jc_C) (σ0 : jxS) (v2 : Int) (v3 : Int) (x : Int) (σ' : jxS) (h : Pairs_movesOf F 58 σ0 v2 v3 = some (x, σ')) : jMC yX4_movesOf cX4_movesOf 7 (jrt 1) 2 44 sh σ0 [(jmr 44), (jmr 58), (jmi v2), (jmi v3)] (jrv 1 x) σ' := by
  refine jMC_of (kd := 1) (by decide) rfl h ?_
  intro X hX
  have hG : jGd X (jE_Pairs_movesOf F) jtb_Pairs_movesOf := jGd_of hX jtk_Pairs_movesOf (jcon jfl_X4_21 jnil) jnil jnil (jcon (jsV jlk_X4_75 ⟨rfl, rfl⟩ (jad_Rules_moveCount F sh hs)) (jcon (jsV jlk_X4_81 ⟨rfl, rfl⟩ (jad_Rules_moveAt F sh hs)) (jcon (jsV jlk_X4_85 ⟨rfl, rfl⟩ (jad_Quotient_nextOf F sh hs)) jnil))) hs
  have rr6 : ∀ (fu : Nat) (v2 v3 v4 v5 : Int) (σ : jxS), jRf X (Pairs_movesOf_c6 F 58 fu v2 v3 v4 v5 σ) 6 [some (jmr 44), some (jmr 58), some (jmi v2), some (jmi v3), some (jmi v4), some (jmi v5), none] [] σ := by
    intro  fu
    induction fu with
    | zero => intros; exact jRf_none
    | succ fu ih =>
      intro v2 v3 v4 v5 σ
      exact jRf_by (jex_ok hG (cs := [(6, [some (.inr (some 44)), some (.inr (some 58)), some (.inl 0), some (.inl 0), some (.inl 0), some (.inl 0), none], [], fun xs σ => match xs with
      | [v2, v3, v4, v5] => (Pairs_movesOf_c6 F 58 fu) v2 v3 v4 v5 σ
      | _ => none)]) (jcon (jl4 (fun y0 y1 y2 y3 => jl0 (fun σ => ih y0 y1 y2 y3 σ))) jnil) 39 6 [some (jmr 44), some (jmr 58), some (jmi v2), some (jmi v3), some (jmi v4), some (jmi v5), none] [] σ) rfl
  exact jRf_by (jex_ok hG (cs := [(6, [some (.inr (some 44)), some (.inr (some 58)), some (.inl 0), some (.inl 0), some (.inl 0), some (.inl 0), none], [], fun xs σ => match xs with
      | [v2, v3, v4, v5] => Pairs_movesOf_c6 F 58 F v2 v3 v4 v5 σ
      | _ => none)]) (jcon (jl4 (fun y0 y1 y2 y3 => jl0 (fun σ => rr6 F y0 y1 y2 y3 σ))) jnil) 39 0 [some (jmr 44), some (jmr 58), some (jmi v2), some (jmi v3), none, none, none] [] σ0) rfl
set_option maxRecDepth 100000 in
set_option maxHeartbeats 4000000 in
theorem jmet_Pairs_movesOf_63 (F : Nat) (sh : List jxC) (hs : jHas sh jc_C) (σ0 : jxS) (v2 : Int) (v3 : Int) (x : Int) (σ' : jxS) (h : Pairs_movesOf F 63 σ0 v2 v3 = some (x, σ')) : jMC yX4_movesOf cX4_movesOf 7 (jrt 1) 2 44 sh σ0 [(jmr 44), (jmr 63), (jmi v2), (jmi v3)] (jrv 1 x) σ' := by
  refine jMC_of (kd := 1) (by decide) rfl h ?_
  intro X hX
  have hG : jGd X (jE_Pairs_movesOf F) jtb_Pairs_movesOf := jGd_of hX jtk_Pairs_movesOf (jcon jfl_X4_21 jnil) jnil jnil (jcon (jsV jlk_X4_75 ⟨rfl, rfl⟩ (jad_Rules_moveCount F sh hs)) (jcon (jsV jlk_X4_81 ⟨rfl, rfl⟩ (jad_Rules_moveAt F sh hs)) (jcon (jsV jlk_X4_85 ⟨rfl, rfl⟩ (jad_Quotient_nextOf F sh hs)) jnil))) hs
  have rr6 : ∀ (fu : Nat) (v2 v3 v4 v5 : Int) (σ : jxS), jRf X (Pairs_movesOf_c6 F 63 fu v2 v3 v4 v5 σ) 6 [some (jmr 44), some (jmr 63), some (jmi v2), some (jmi v3), some (jmi v4), some (jmi v5), none] [] σ := by
    intro  fu
    induction fu with
    | zero => intros; exact jRf_none
    | succ fu ih =>
      intro v2 v3 v4 v5 σ
      exact jRf_by (jex_ok hG (cs := [(6, [some (.inr (some 44)), some (.inr (some 63)), some (.inl 0), some (.inl 0), some (.inl 0), some (.inl 0), none], [], fun xs σ => match xs with
      | [v2, v3, v4, v5] => (Pairs_movesOf_c6 F 63 fu) v2 v3 v4 v5 σ
      | _ => none)]) (jcon (jl4 (fun y0 y1 y2 y3 => jl0 (fun σ => ih y0 y1 y2 y3 σ))) jnil) 39 6 [some (jmr 44), some (jmr 63), some (jmi v2), some (jmi v3), some (jmi v4), some (jmi v5), none] [] σ) rfl
  exact jRf_by (jex_ok hG (cs := [(6, [some (.inr (some 44)), some (.inr (some 63)), some (.inl 0), some (.inl 0), some (.inl 0), some (.inl 0), none], [], fun xs σ => match xs with
      | [v2, v3, v4, v5] => Pairs_movesOf_c6 F 63 F v2 v3 v4 v5 σ
      | _ => none)]) (jcon (jl4 (fun y0 y1 y2 y3 => jl0 (fun σ => rr6 F y0 y1 y2 y3 σ))) jnil) 39 0 [some (jmr 44), some (jmr 63), some (jmi v2), some (jmi v3), none, none, none] [] σ0) rfl
set_option maxRecDepth 100000 in
set_option maxHeartbeats 4000000 in
theorem jmet_Pairs_movesOf_68 (F : Nat) (sh : List jxC) (hs : jHas sh jc_C) (σ0 : jxS) (v2 : Int) (v3 : Int) (x : Int) (σ' : jxS) (h : Pairs_movesOf F 68 σ0 v2 v3 = some (x, σ')) : jMC yX4_movesOf cX4_movesOf 7 (jrt 1) 2 44 sh σ0 [(jmr 44), (jmr 68), (jmi v2), (jmi v3)] (jrv 1 x) σ' := by
  refine jMC_of (kd := 1) (by decide) rfl h ?_
  intro X hX
  have hG : jGd X (jE_Pairs_movesOf F) jtb_Pairs_movesOf := jGd_of hX jtk_Pairs_movesOf (jcon jfl_X4_21 jnil) jnil jnil (jcon (jsV jlk_X4_75 ⟨rfl, rfl⟩ (jad_Rules_moveCount F sh hs)) (jcon (jsV jlk_X4_81 ⟨rfl, rfl⟩ (jad_Rules_moveAt F sh hs)) (jcon (jsV jlk_X4_85 ⟨rfl, rfl⟩ (jad_Quotient_nextOf F sh hs)) jnil))) hs
  have rr6 : ∀ (fu : Nat) (v2 v3 v4 v5 : Int) (σ : jxS), jRf X (Pairs_movesOf_c6 F 68 fu v2 v3 v4 v5 σ) 6 [some (jmr 44), some (jmr 68), some (jmi v2), some (jmi v3), some (jmi v4), some (jmi v5), none] [] σ := by
    intro  fu
    induction fu with
    | zero => intros; exact jRf_none
    | succ fu ih =>
      intro v2 v3 v4 v5 σ
      exact jRf_by (jex_ok hG (cs := [(6, [some (.inr (some 44)), some (.inr (some 68)), some (.inl 0), some (.inl 0), some (.inl 0), some (.inl 0), none], [], fun xs σ => match xs with
      | [v2, v3, v4, v5] => (Pairs_movesOf_c6 F 68 fu) v2 v3 v4 v5 σ
      | _ => none)]) (jcon (jl4 (fun y0 y1 y2 y3 => jl0 (fun σ => ih y0 y1 y2 y3 σ))) jnil) 39 6 [some (jmr 44), some (jmr 68), some (jmi v2), some (jmi v3), some (jmi v4), some (jmi v5), none] [] σ) rfl
  exact jRf_by (jex_ok hG (cs := [(6, [some (.inr (some 44)), some (.inr (some 68)), some (.inl 0), some (.inl 0), some (.inl 0), some (.inl 0), none], [], fun xs σ => match xs with
      | [v2, v3, v4, v5] => Pairs_movesOf_c6 F 68 F v2 v3 v4 v5 σ
      | _ => none)]) (jcon (jl4 (fun y0 y1 y2 y3 => jl0 (fun σ => rr6 F y0 y1 y2 y3 σ))) jnil) 39 0 [some (jmr 44), some (jmr 68), some (jmi v2), some (jmi v3), none, none, none] [] σ0) rfl
set_option maxRecDepth 100000 in
set_option maxHeartbeats 4000000 in
theorem jmet_Pairs_movesOf_73 (F : Nat) (sh : List jxC) (hs : jHas sh jc_C) (σ0 : jxS) (v2 : Int) (v3 : Int) (x : Int) (σ' : jxS) (h : Pairs_movesOf F 73 σ0 v2 v3 = some (x, σ')) : jMC yX4_movesOf cX4_movesOf 7 (jrt 1) 2 44 sh σ0 [(jmr 44), (jmr 73), (jmi v2), (jmi v3)] (jrv 1 x) σ' := by
  refine jMC_of (kd := 1) (by decide) rfl h ?_
  intro X hX
  have hG : jGd X (jE_Pairs_movesOf F) jtb_Pairs_movesOf := jGd_of hX jtk_Pairs_movesOf (jcon jfl_X4_21 jnil) jnil jnil (jcon (jsV jlk_X4_75 ⟨rfl, rfl⟩ (jad_Rules_moveCount F sh hs)) (jcon (jsV jlk_X4_81 ⟨rfl, rfl⟩ (jad_Rules_moveAt F sh hs)) (jcon (jsV jlk_X4_85 ⟨rfl, rfl⟩ (jad_Quotient_nextOf F sh hs)) jnil))) hs
  have rr6 : ∀ (fu : Nat) (v2 v3 v4 v5 : Int) (σ : jxS), jRf X (Pairs_movesOf_c6 F 73 fu v2 v3 v4 v5 σ) 6 [some (jmr 44), some (jmr 73), some (jmi v2), some (jmi v3), some (jmi v4), some (jmi v5), none] [] σ := by
    intro  fu
    induction fu with
    | zero => intros; exact jRf_none
    | succ fu ih =>
      intro v2 v3 v4 v5 σ
      exact jRf_by (jex_ok hG (cs := [(6, [some (.inr (some 44)), some (.inr (some 73)), some (.inl 0), some (.inl 0), some (.inl 0), some (.inl 0), none], [], fun xs σ => match xs with
      | [v2, v3, v4, v5] => (Pairs_movesOf_c6 F 73 fu) v2 v3 v4 v5 σ
      | _ => none)]) (jcon (jl4 (fun y0 y1 y2 y3 => jl0 (fun σ => ih y0 y1 y2 y3 σ))) jnil) 39 6 [some (jmr 44), some (jmr 73), some (jmi v2), some (jmi v3), some (jmi v4), some (jmi v5), none] [] σ) rfl
  exact jRf_by (jex_ok hG (cs := [(6, [some (.inr (some 44)), some (.inr (some 73)), some (.inl 0), some (.inl 0), some (.inl 0), some (.inl 0), none], [], fun xs σ => match xs with
      | [v2, v3, v4, v5] => Pairs_movesOf_c6 F 73 F v2 v3 v4 v5 σ
      | _ => none)]) (jcon (jl4 (fun y0 y1 y2 y3 => jl0 (fun σ => rr6 F y0 y1 y2 y3 σ))) jnil) 39 0 [some (jmr 44), some (jmr 73), some (jmi v2), some (jmi v3), none, none, none] [] σ0) rfl
theorem jmet_Pairs_movesOf (F : Nat) (q1 : Nat) (hq1 : q1 ∈ jids_Pairs_movesOf_q1) (sh : List jxC) (hs : jHas sh jc_C) (σ0 : jxS) (v2 : Int) (v3 : Int) (x : Int) (σ' : jxS) (h : Pairs_movesOf F q1 σ0 v2 v3 = some (x, σ')) : jMC yX4_movesOf cX4_movesOf 7 (jrt 1) 2 44 sh σ0 [(jmr 44), (jmr q1), (jmi v2), (jmi v3)] (jrv 1 x) σ' := by
  simp only [jids_Pairs_movesOf_q1, List.mem_cons, List.not_mem_nil, or_false] at hq1
  rcases hq1 with rfl | rfl | rfl | rfl | rfl | rfl
  · exact jmet_Pairs_movesOf_48 F sh hs σ0 v2 v3 x σ' h
  · exact jmet_Pairs_movesOf_53 F sh hs σ0 v2 v3 x σ' h
  · exact jmet_Pairs_movesOf_58 F sh hs σ0 v2 v3 x σ' h
  · exact jmet_Pairs_movesOf_63 F sh hs σ0 v2 v3 x σ' h
  · exact jmet_Pairs_movesOf_68 F sh hs σ0 v2 v3 x σ' h
  · exact jmet_Pairs_movesOf_73 F sh hs σ0 v2 v3 x σ' h
theorem jad_Pairs_movesOf (F : Nat) (sh : List jxC) (hs : jHas sh jc_C) : jAdV (jca_Pairs_movesOf F) yX4_movesOf cX4_movesOf 7 1 2 44 3 sh := by
  intro as σ k x σ' h
  unfold jca_Pairs_movesOf at h
  split at h
  · rename_i t0 t1 v2 v3
    obtain ⟨g0, hh1⟩ := jcond h
    obtain rfl := jbeq g0
    obtain ⟨g1, hh2⟩ := jcond hh1
    have g1 := jin_of g1
    obtain ⟨r, h1, h2⟩ := Option.bind_eq_some_iff.mp hh2
    exact ⟨_, _, h2, ⟨_, _, _, _, _, _, rfl, rfl, (hs _ (jkf_in (l := jc_C) (idx := 44) rfl)).1, rfl⟩, jmet_Pairs_movesOf F t1 g1 sh hs σ v2 v3 r.1 r.2 h1⟩
  · cases h
