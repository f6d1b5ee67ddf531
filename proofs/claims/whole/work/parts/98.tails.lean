/-! The constructors' tails: what goes on when the cells are made. -/
def Positions_init_c77 (F : Nat) (k64 : Int → Int → jxS → Option jxR) (fu : Nat) (v1 v2 v3 : Int) (σ : jxS) : Option jxR := match fu with
  | 0 => none
  | fu + 1 =>
    if 0 ≤ (v2 + 1) ∧ (v2 + 1) < 24 then
      if jw v3 < jw (σ 24 (v2 + 1)) then
        if jw v3 < 4224 then
          if 0 ≤ v3 ∧ v3 < 4225 then
            let s102 : jxS := jup σ 27 v3 v1
            (Positions_linkParts F s102 v3 v2 v1).bind fun r107 =>
            (Positions_init_c77 F k64 fu) r107.1 v2 (v3 + 1) r107.2
          else none
        else
          k64 v1 (v2 + 1) σ
      else
        k64 v1 (v2 + 1) σ
    else none
def Positions_init_c64 (F : Nat) (fu : Nat) (v1 v2 : Int) (σ : jxS) : Option jxR := match fu with
  | 0 => none
  | fu + 1 =>
    if 22 < jw v2 then
      let s131 : jxS := jup σ 27 4224 v1
      some (0, s131)
    else
      if 0 ≤ v2 ∧ v2 < 24 then
        Positions_init_c77 F (Positions_init_c64 F fu) F v1 v2 (σ 24 v2) σ
      else none
def Positions_init (F : Nat) (σ : jxS) : Option jxR :=
  (Positions_countWays F σ).bind fun r57 =>
  Positions_init_c64 F F 0 0 r57.2
def jca_Positions_init (F : Nat) : jxA := fun as σ k => match as with
  | [.inr (.inr (.inl t0))] => bif Nat.beq t0 22 then (Positions_init F σ).bind (fun r => k none r.2) else none
  | _ => none
def jtb_Positions_init : List (Nat × Instr) := [(56, .aload_n 0), (57, .invokevirtual 30), (60, .iconst 0), (61, .istore_n 1), (62, .iconst 0), (63, .istore_n 2), (64, .iload_n 2), (65, .bipush 22), (67, .if_icmp .gt 56), (70, .aload_n 0), (71, .getfield 15), (74, .iload_n 2), (75, .iaload), (76, .istore_n 3), (77, .iload_n 3), (78, .aload_n 0), (79, .getfield 15), (82, .iload_n 2), (83, .iconst 1), (84, .iadd), (85, .iaload), (86, .if_icmp .ge 31), (89, .iload_n 3), (90, .sipush 4224), (93, .if_icmp .ge 24), (96, .aload_n 0), (97, .getfield 24), (100, .iload_n 3), (101, .iload_n 1), (102, .iastore), (103, .aload_n 0), (104, .iload_n 3), (105, .iload_n 2), (106, .iload_n 1), (107, .invokevirtual 33), (110, .istore_n 1), (111, .iinc 3 1), (114, .goto (-37)), (117, .iinc 2 1), (120, .goto (-56)), (123, .aload_n 0), (124, .getfield 24), (127, .sipush 4224), (130, .iload_n 1), (131, .iastore), (132, .return_)]
theorem jtk_Positions_init : jtok cX5_init jtb_Positions_init = true := by decide +kernel
set_option maxRecDepth 100000 in
theorem jlk_X5_30 : jLkV RX5 30 yX5_countWays cX5_countWays 4 0 0 := ⟨(jTB_at 426 rfl rfl), (jTB_at 428 rfl rfl), (jTB_at 12 rfl rfl), (jTB_at 123 rfl rfl), jTB_at 429 rfl rfl, ⟨by decide, by decide, by decide +kernel⟩⟩
set_option maxRecDepth 100000 in
theorem jlk_X5_33 : jLkV RX5 33 yX5_linkParts cX5_linkParts 8 1 3 := ⟨(jTB_at 434 rfl rfl), (jTB_at 436 rfl rfl), (jTB_at 14 rfl rfl), (jTB_at 123 rfl rfl), jTB_at 437 rfl rfl, ⟨by decide, by decide, by decide +kernel⟩⟩
def jE_Positions_init (F : Nat) : jxE := jmk [(15, 5, 1), (24, 5, 4)] [] [] [(30, (1, false), jca_Positions_countWays F), (33, (4, false), jca_Positions_linkParts F)] 0 jc_P
set_option maxRecDepth 100000 in
set_option maxHeartbeats 4000000 in
theorem jtl_Positions_init (F : Nat) (sh : List jxC) (hs : jHas sh jc_P) (X : jxX) (hX : jAt X yX5_init cX5_init 4 96 0 sh) (σ0 : jxS) : jRf X (Positions_init F σ0) 56 [some (jmr 22), none, none, none] [] σ0 := by
  have hG : jGd X (jE_Positions_init F) jtb_Positions_init := jGd_of hX jtk_Positions_init (jcon jfl_X5_15 (jcon jfl_X5_24 jnil)) jnil jnil (jcon (jsV jlk_X5_30 ⟨rfl, rfl⟩ (jad_Positions_countWays F sh hs)) (jcon (jsV jlk_X5_33 ⟨rfl, rfl⟩ (jad_Positions_linkParts F sh hs)) jnil)) hs
  have rr77 : ∀ (k64 : Int → Int → jxS → Option jxR) (h64 : ∀ v1 v2 σ, jRf X (k64 v1 v2 σ) 64 [some (jmr 22), some (jmi v1), some (jmi v2), none] [] σ) (fu : Nat) (v1 v2 v3 : Int) (σ : jxS), jRf X (Positions_init_c77 F k64 fu v1 v2 v3 σ) 77 [some (jmr 22), some (jmi v1), some (jmi v2), some (jmi v3)] [] σ := by
    intro k64 h64 fu
    induction fu with
    | zero => intros; exact jRf_none
    | succ fu ih =>
      intro v1 v2 v3 σ
      exact jRf_by (jex_ok hG (cs := [(64, [some (.inr (some 22)), some (.inl 0), some (.inl 0), none], [], fun xs σ => match xs with
      | [v1, v2] => k64 v1 v2 σ
      | _ => none), (77, [some (.inr (some 22)), some (.inl 0), some (.inl 0), some (.inl 0)], [], fun xs σ => match xs with
      | [v1, v2, v3] => (Positions_init_c77 F k64 fu) v1 v2 v3 σ
      | _ => none)]) (jcon (jl2 (fun y0 y1 => jl0 (fun σ => h64 y0 y1 σ))) (jcon (jl3 (fun y0 y1 y2 => jl0 (fun σ => ih y0 y1 y2 σ))) jnil)) 75 77 [some (jmr 22), some (jmi v1), some (jmi v2), some (jmi v3)] [] σ) rfl
  have rr64 : ∀ (fu : Nat) (v1 v2 : Int) (σ : jxS), jRf X (Positions_init_c64 F fu v1 v2 σ) 64 [some (jmr 22), some (jmi v1), some (jmi v2), none] [] σ := by
    intro  fu
    induction fu with
    | zero => intros; exact jRf_none
    | succ fu ih =>
      intro v1 v2 σ
      exact jRf_by (jex_ok hG (cs := [(77, [some (.inr (some 22)), some (.inl 0), some (.inl 0), some (.inl 0)], [], fun xs σ => match xs with
      | [v1, v2, v3] => Positions_init_c77 F (Positions_init_c64 F fu) F v1 v2 v3 σ
      | _ => none)]) (jcon (jl3 (fun y0 y1 y2 => jl0 (fun σ => rr77 _ ih F y0 y1 y2 σ))) jnil) 75 64 [some (jmr 22), some (jmi v1), some (jmi v2), none] [] σ) rfl
  exact jRf_by (jex_ok hG (cs := [(64, [some (.inr (some 22)), some (.inl 0), some (.inl 0), none], [], fun xs σ => match xs with
      | [v1, v2] => Positions_init_c64 F F v1 v2 σ
      | _ => none)]) (jcon (jl2 (fun y0 y1 => jl0 (fun σ => rr64 F y0 y1 σ))) jnil) 75 56 [some (jmr 22), none, none, none] [] σ0) rfl
def Model_init (F : Nat) (σ : jxS) : Option jxR :=
  (Model_countsWays F σ).bind fun r589 =>
  some (0, r589.2)
def jca_Model_init (F : Nat) : jxA := fun as σ k => match as with
  | [.inr (.inr (.inl t0))] => bif Nat.beq t0 0 then (Model_init F σ).bind (fun r => k none r.2) else none
  | _ => none
def jtb_Model_init : List (Nat × Instr) := [(588, .aload_n 0), (589, .invokevirtual 136), (592, .return_)]
theorem jtk_Model_init : jtok cX12_init jtb_Model_init = true := by decide +kernel
set_option maxRecDepth 100000 in
theorem jlk_X12_136 : jLkV RX12 136 yX12_countsWays cX12_countsWays 3 0 0 := ⟨(jTB_at 1337 rfl rfl), (jTB_at 1339 rfl rfl), (jTB_at 48 rfl rfl), (jTB_at 115 rfl rfl), jTB_at 1340 rfl rfl, ⟨by decide, by decide, by decide +kernel⟩⟩
def jE_Model_init (F : Nat) : jxE := jmk [] [] [] [(136, (1, false), jca_Model_countsWays F)] 0 jc_M
set_option maxRecDepth 100000 in
set_option maxHeartbeats 4000000 in
theorem jtl_Model_init (F : Nat) (sh : List jxC) (hs : jHas sh jc_M) (X : jxX) (hX : jAt X yX12_init cX12_init 1 22 0 sh) (σ0 : jxS) : jRf X (Model_init F σ0) 588 [some (jmr 0)] [] σ0 := by
  have hG : jGd X (jE_Model_init F) jtb_Model_init := jGd_of hX jtk_Model_init jnil jnil jnil (jcon (jsV jlk_X12_136 ⟨rfl, rfl⟩ (jad_Model_countsWays F sh hs)) jnil) hs
  exact jRf_by (jex_ok hG (cs := []) jnil 364 588 [some (jmr 0)] [] σ0) rfl
