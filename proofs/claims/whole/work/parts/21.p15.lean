/-! Contracts: Model_numberOf Model_behind Model_gathersBehind Model_laysOne Model_laysBack Model_laysPositions Model_game Model_isHeap Model_moves Model_option Model_nimber Model_isPeriod Model_period -/
def jtb_Model_numberOf : List (Nat × Instr) := [(0, .aload_n 1), (1, .invokestatic 254), (4, .istore_n 2), (5, .aload_n 0), (6, .getfield 51), (9, .iload_n 2), (10, .iaload), (11, .istore_n 3), (12, .iconst 1), (13, .istore 4), (15, .iload 4), (17, .bipush 12), (19, .if_icmp .gt 60), (22, .iconst 0), (23, .istore 5), (25, .iload 5), (27, .aload_n 1), (28, .iload 4), (30, .iaload), (31, .if_icmp .ge 32), (34, .iload_n 3), (35, .aload_n 0), (36, .getfield 48), (39, .bipush 23), (41, .iload 4), (43, .iconst 1), (44, .iadd), (45, .imul), (46, .iload_n 2), (47, .iadd), (48, .iload 5), (50, .iload 4), (52, .imul), (53, .isub), (54, .iaload), (55, .iadd), (56, .istore_n 3), (57, .iinc 5 1), (60, .goto (-35)), (63, .iload_n 2), (64, .iload 4), (66, .aload_n 1), (67, .iload 4), (69, .iaload), (70, .imul), (71, .isub), (72, .istore_n 2), (73, .iinc 4 1), (76, .goto (-61)), (79, .iload_n 3), (80, .ireturn)]
theorem jtk_Model_numberOf : jtok cX12_numberOf jtb_Model_numberOf = true := by decide +kernel
set_option maxRecDepth 100000 in
theorem jlk_X12_254 : jLkS RX12 254 yX12_beansOf cX12_beansOf 3 1 1 := ⟨Or.inl (jTB_at 1632 rfl rfl), (jTB_at 1633 rfl rfl), (jTB_at 115 rfl rfl), jTB_at 1634 rfl rfl, ⟨by decide, by decide, by decide +kernel⟩⟩
def jE_Model_numberOf (F : Nat) : jxE := jmk [(48, 12, 22), (51, 12, 23)] [] [] [(254, (1, true), jca_Model_beansOf F)] 1 jc_M
set_option maxRecDepth 100000 in
set_option maxHeartbeats 4000000 in
theorem jmet_Model_numberOf_20 (F : Nat) (sh : List jxC) (hs : jHas sh jc_M) (σ0 : jxS) (x : Int) (σ' : jxS) (h : Model_numberOf F 20 σ0 = some (x, σ')) : jMC yX12_numberOf cX12_numberOf 6 (jrt 1) 1 22 sh σ0 [(jmr 0), (jmr 20)] (jrv 1 x) σ' := by
  refine jMC_of (kd := 1) (by decide) rfl h ?_
  intro X hX
  have hG : jGd X (jE_Model_numberOf F) jtb_Model_numberOf := jGd_of hX jtk_Model_numberOf (jcon jfl_X12_48 (jcon jfl_X12_51 jnil)) jnil jnil (jcon (jsS jlk_X12_254 ⟨rfl, rfl⟩ (jad_Model_beansOf F sh hs)) jnil) hs
  have rr25 : ∀ (k15 : Int → Int → Int → jxS → Option jxR) (h15 : ∀ v2 v3 v4 σ, jRf X (k15 v2 v3 v4 σ) 15 [some (jmr 0), some (jmr 20), some (jmi v2), some (jmi v3), some (jmi v4), none] [] σ) (fu : Nat) (v2 v3 v4 v5 : Int) (σ : jxS), jRf X (Model_numberOf_c25 F 20 k15 fu v2 v3 v4 v5 σ) 25 [some (jmr 0), some (jmr 20), some (jmi v2), some (jmi v3), some (jmi v4), some (jmi v5)] [] σ := by
    intro k15 h15 fu
    induction fu with
    | zero => intros; exact jRf_none
    | succ fu ih =>
      intro v2 v3 v4 v5 σ
      exact jRf_by (jex_ok hG (cs := [(15, [some (.inr (some 0)), some (.inr (some 20)), some (.inl 0), some (.inl 0), some (.inl 0), none], [], fun xs σ => match xs with
      | [v2, v3, v4] => k15 v2 v3 v4 σ
      | _ => none), (25, [some (.inr (some 0)), some (.inr (some 20)), some (.inl 0), some (.inl 0), some (.inl 0), some (.inl 0)], [], fun xs σ => match xs with
      | [v2, v3, v4, v5] => (Model_numberOf_c25 F 20 k15 fu) v2 v3 v4 v5 σ
      | _ => none)]) (jcon (jl3 (fun y0 y1 y2 => jl0 (fun σ => h15 y0 y1 y2 σ))) (jcon (jl4 (fun y0 y1 y2 y3 => jl0 (fun σ => ih y0 y1 y2 y3 σ))) jnil)) 54 25 [some (jmr 0), some (jmr 20), some (jmi v2), some (jmi v3), some (jmi v4), some (jmi v5)] [] σ) rfl
  have rr15 : ∀ (fu : Nat) (v2 v3 v4 : Int) (σ : jxS), jRf X (Model_numberOf_c15 F 20 fu v2 v3 v4 σ) 15 [some (jmr 0), some (jmr 20), some (jmi v2), some (jmi v3), some (jmi v4), none] [] σ := by
    intro  fu
    induction fu with
    | zero => intros; exact jRf_none
    | succ fu ih =>
      intro v2 v3 v4 σ
      exact jRf_by (jex_ok hG (cs := [(25, [some (.inr (some 0)), some (.inr (some 20)), some (.inl 0), some (.inl 0), some (.inl 0), some (.inl 0)], [], fun xs σ => match xs with
      | [v2, v3, v4, v5] => Model_numberOf_c25 F 20 (Model_numberOf_c15 F 20 fu) F v2 v3 v4 v5 σ
      | _ => none)]) (jcon (jl4 (fun y0 y1 y2 y3 => jl0 (fun σ => rr25 _ ih F y0 y1 y2 y3 σ))) jnil) 54 15 [some (jmr 0), some (jmr 20), some (jmi v2), some (jmi v3), some (jmi v4), none] [] σ) rfl
  exact jRf_by (jex_ok hG (cs := [(15, [some (.inr (some 0)), some (.inr (some 20)), some (.inl 0), some (.inl 0), some (.inl 0), none], [], fun xs σ => match xs with
      | [v2, v3, v4] => Model_numberOf_c15 F 20 F v2 v3 v4 σ
      | _ => none)]) (jcon (jl3 (fun y0 y1 y2 => jl0 (fun σ => rr15 F y0 y1 y2 σ))) jnil) 54 0 [some (jmr 0), some (jmr 20), none, none, none, none] [] σ0) rfl
set_option maxRecDepth 100000 in
set_option maxHeartbeats 4000000 in
theorem jmet_Model_numberOf_24 (F : Nat) (sh : List jxC) (hs : jHas sh jc_M) (σ0 : jxS) (x : Int) (σ' : jxS) (h : Model_numberOf F 24 σ0 = some (x, σ')) : jMC yX12_numberOf cX12_numberOf 6 (jrt 1) 1 22 sh σ0 [(jmr 0), (jmr 24)] (jrv 1 x) σ' := by
  refine jMC_of (kd := 1) (by decide) rfl h ?_
  intro X hX
  have hG : jGd X (jE_Model_numberOf F) jtb_Model_numberOf := jGd_of hX jtk_Model_numberOf (jcon jfl_X12_48 (jcon jfl_X12_51 jnil)) jnil jnil (jcon (jsS jlk_X12_254 ⟨rfl, rfl⟩ (jad_Model_beansOf F sh hs)) jnil) hs
  have rr25 : ∀ (k15 : Int → Int → Int → jxS → Option jxR) (h15 : ∀ v2 v3 v4 σ, jRf X (k15 v2 v3 v4 σ) 15 [some (jmr 0), some (jmr 24), some (jmi v2), some (jmi v3), some (jmi v4), none] [] σ) (fu : Nat) (v2 v3 v4 v5 : Int) (σ : jxS), jRf X (Model_numberOf_c25 F 24 k15 fu v2 v3 v4 v5 σ) 25 [some (jmr 0), some (jmr 24), some (jmi v2), some (jmi v3), some (jmi v4), some (jmi v5)] [] σ := by
    intro k15 h15 fu
    induction fu with
    | zero => intros; exact jRf_none
    | succ fu ih =>
      intro v2 v3 v4 v5 σ
      exact jRf_by (jex_ok hG (cs := [(15, [some (.inr (some 0)), some (.inr (some 24)), some (.inl 0), some (.inl 0), some (.inl 0), none], [], fun xs σ => match xs with
      | [v2, v3, v4] => k15 v2 v3 v4 σ
      | _ => none), (25, [some (.inr (some 0)), some (.inr (some 24)), some (.inl 0), some (.inl 0), some (.inl 0), some (.inl 0)], [], fun xs σ => match xs with
      | [v2, v3, v4, v5] => (Model_numberOf_c25 F 24 k15 fu) v2 v3 v4 v5 σ
      | _ => none)]) (jcon (jl3 (fun y0 y1 y2 => jl0 (fun σ => h15 y0 y1 y2 σ))) (jcon (jl4 (fun y0 y1 y2 y3 => jl0 (fun σ => ih y0 y1 y2 y3 σ))) jnil)) 54 25 [some (jmr 0), some (jmr 24), some (jmi v2), some (jmi v3), some (jmi v4), some (jmi v5)] [] σ) rfl
  have rr15 : ∀ (fu : Nat) (v2 v3 v4 : Int) (σ : jxS), jRf X (Model_numberOf_c15 F 24 fu v2 v3 v4 σ) 15 [some (jmr 0), some (jmr 24), some (jmi v2), some (jmi v3), some (jmi v4), none] [] σ := by
    intro  fu
    induction fu with
    | zero => intros; exact jRf_none
    | succ fu ih =>
      intro v2 v3 v4 σ
      exact jRf_by (jex_ok hG (cs := [(25, [some (.inr (some 0)), some (.inr (some 24)), some (.inl 0), some (.inl 0), some (.inl 0), some (.inl 0)], [], fun xs σ => match xs with
      | [v2, v3, v4, v5] => Model_numberOf_c25 F 24 (Model_numberOf_c15 F 24 fu) F v2 v3 v4 v5 σ
      | _ => none)]) (jcon (jl4 (fun y0 y1 y2 y3 => jl0 (fun σ => rr25 _ ih F y0 y1 y2 y3 σ))) jnil) 54 15 [some (jmr 0), some (jmr 24), some (jmi v2), some (jmi v3), some (jmi v4), none] [] σ) rfl
  exact jRf_by (jex_ok hG (cs := [(15, [some (.inr (some 0)), some (.inr (some 24)), some (.inl 0), some (.inl 0), some (.inl 0), none], [], fun xs σ => match xs with
      | [v2, v3, v4] => Model_numberOf_c15 F 24 F v2 v3 v4 σ
      | _ => none)]) (jcon (jl3 (fun y0 y1 y2 => jl0 (fun σ => rr15 F y0 y1 y2 σ))) jnil) 54 0 [some (jmr 0), some (jmr 24), none, none, none, none] [] σ0) rfl
set_option maxRecDepth 100000 in
set_option maxHeartbeats 4000000 in
theorem jmet_Model_numberOf_26 (F : Nat) (sh : List jxC) (hs : jHas sh jc_M) (σ0 : jxS) (x : Int) (σ' : jxS) (h : Model_numberOf F 26 σ0 = some (x, σ')) : jMC yX12_numberOf cX12_numberOf 6 (jrt 1) 1 22 sh σ0 [(jmr 0), (jmr 26)] (jrv 1 x) σ' := by
  refine jMC_of (kd := 1) (by decide) rfl h ?_
  intro X hX
  have hG : jGd X (jE_Model_numberOf F) jtb_Model_numberOf := jGd_of hX jtk_Model_numberOf (jcon jfl_X12_48 (jcon jfl_X12_51 jnil)) jnil jnil (jcon (jsS jlk_X12_254 ⟨rfl, rfl⟩ (jad_Model_beansOf F sh hs)) jnil) hs
  have rr25 : ∀ (k15 : Int → Int → Int → jxS → Option jxR) (h15 : ∀ v2 v3 v4 σ, jRf X (k15 v2 v3 v4 σ) 15 [some (jmr 0), some (jmr 26), some (jmi v2), some (jmi v3), some (jmi v4), none] [] σ) (fu : Nat) (v2 v3 v4 v5 : Int) (σ : jxS), jRf X (Model_numberOf_c25 F 26 k15 fu v2 v3 v4 v5 σ) 25 [some (jmr 0), some (jmr 26), some (jmi v2), some (jmi v3), some (jmi v4), some (jmi v5)] [] σ := by
    intro k15 h15 fu
    induction fu with
    | zero => intros; exact jRf_none
    | succ fu ih =>
      intro v2 v3 v4 v5 σ
      exact jRf_by (jex_ok hG (cs := [(15, [some (.inr (some 0)), some (.inr (some 26)), some (.inl 0), some (.inl 0), some (.inl 0), none], [], fun xs σ => match xs with
      | [v2, v3, v4] => k15 v2 v3 v4 σ
      | _ => none), (25, [some (.inr (some 0)), some (.inr (some 26)), some (.inl 0), some (.inl 0), some (.inl 0), some (.inl 0)], [], fun xs σ => match xs with
      | [v2, v3, v4, v5] => (Model_numberOf_c25 F 26 k15 fu) v2 v3 v4 v5 σ
      | _ => none)]) (jcon (jl3 (fun y0 y1 y2 => jl0 (fun σ => h15 y0 y1 y2 σ))) (jcon (jl4 (fun y0 y1 y2 y3 => jl0 (fun σ => ih y0 y1 y2 y3 σ))) jnil)) 54 25 [some (jmr 0), some (jmr 26), some (jmi v2), some (jmi v3), some (jmi v4), some (jmi v5)] [] σ) rfl
  have rr15 : ∀ (fu : Nat) (v2 v3 v4 : Int) (σ : jxS), jRf X (Model_numberOf_c15 F 26 fu v2 v3 v4 σ) 15 [some (jmr 0), some (jmr 26), some (jmi v2), some (jmi v3), some (jmi v4), none] [] σ := by
    intro  fu
    induction fu with
    | zero => intros; exact jRf_none
    | succ fu ih =>
      intro v2 v3 v4 σ
      exact jRf_by (jex_ok hG (cs := [(25, [some (.inr (some 0)), some (.inr (some 26)), some (.inl 0), some (.inl 0), some (.inl 0), some (.inl 0)], [], fun xs σ => match xs with
      | [v2, v3, v4, v5] => Model_numberOf_c25 F 26 (Model_numberOf_c15 F 26 fu) F v2 v3 v4 v5 σ
      | _ => none)]) (jcon (jl4 (fun y0 y1 y2 y3 => jl0 (fun σ => rr25 _ ih F y0 y1 y2 y3 σ))) jnil) 54 15 [some (jmr 0), some (jmr 26), some (jmi v2), some (jmi v3), some (jmi v4), none] [] σ) rfl
  exact jRf_by (jex_ok hG (cs := [(15, [some (.inr (some 0)), some (.inr (some 26)), some (.inl 0), some (.inl 0), some (.inl 0), none], [], fun xs σ => match xs with
      | [v2, v3, v4] => Model_numberOf_c15 F 26 F v2 v3 v4 σ
      | _ => none)]) (jcon (jl3 (fun y0 y1 y2 => jl0 (fun σ => rr15 F y0 y1 y2 σ))) jnil) 54 0 [some (jmr 0), some (jmr 26), none, none, none, none] [] σ0) rfl
set_option maxRecDepth 100000 in
set_option maxHeartbeats 4000000 in
theorem jmet_Model_numberOf_28 (F : Nat) (sh : List jxC) (hs : jHas sh jc_M) (σ0 : jxS) (x : Int) (σ' : jxS) (h : Model_numberOf F 28 σ0 = some (x, σ')) : jMC yX12_numberOf cX12_numberOf 6 (jrt 1) 1 22 sh σ0 [(jmr 0), (jmr 28)] (jrv 1 x) σ' := by
  refine jMC_of (kd := 1) (by decide) rfl h ?_
  intro X hX
  have hG : jGd X (jE_Model_numberOf F) jtb_Model_numberOf := jGd_of hX jtk_Model_numberOf (jcon jfl_X12_48 (jcon jfl_X12_51 jnil)) jnil jnil (jcon (jsS jlk_X12_254 ⟨rfl, rfl⟩ (jad_Model_beansOf F sh hs)) jnil) hs
  have rr25 : ∀ (k15 : Int → Int → Int → jxS → Option jxR) (h15 : ∀ v2 v3 v4 σ, jRf X (k15 v2 v3 v4 σ) 15 [some (jmr 0), some (jmr 28), some (jmi v2), some (jmi v3), some (jmi v4), none] [] σ) (fu : Nat) (v2 v3 v4 v5 : Int) (σ : jxS), jRf X (Model_numberOf_c25 F 28 k15 fu v2 v3 v4 v5 σ) 25 [some (jmr 0), some (jmr 28), some (jmi v2), some (jmi v3), some (jmi v4), some (jmi v5)] [] σ := by
    intro k15 h15 fu
    induction fu with
    | zero => intros; exact jRf_none
    | succ fu ih =>
      intro v2 v3 v4 v5 σ
      exact jRf_by (jex_ok hG (cs := [(15, [some (.inr (some 0)), some (.inr (some 28)), some (.inl 0), some (.inl 0), some (.inl 0), none], [], fun xs σ => match xs with
      | [v2, v3, v4] => k15 v2 v3 v4 σ
      | _ => none), (25, [some (.inr (some 0)), some (.inr (some 28)), some (.inl 0), some (.inl 0), some (.inl 0), some (.inl 0)], [], fun xs σ => match xs with
      | [v2, v3, v4, v5] => (Model_numberOf_c25 F 28 k15 fu) v2 v3 v4 v5 σ
      | _ => none)]) (jcon (jl3 (fun y0 y1 y2 => jl0 (fun σ => h15 y0 y1 y2 σ))) (jcon (jl4 (fun y0 y1 y2 y3 => jl0 (fun σ => ih y0 y1 y2 y3 σ))) jnil)) 54 25 [some (jmr 0), some (jmr 28), some (jmi v2), some (jmi v3), some (jmi v4), some (jmi v5)] [] σ) rfl
  have rr15 : ∀ (fu : Nat) (v2 v3 v4 : Int) (σ : jxS), jRf X (Model_numberOf_c15 F 28 fu v2 v3 v4 σ) 15 [some (jmr 0), some (jmr 28), some (jmi v2), some (jmi v3), some (jmi v4), none] [] σ := by
    intro  fu
    induction fu with
    | zero => intros; exact jRf_none
    | succ fu ih =>
      intro v2 v3 v4 σ
      exact jRf_by (jex_ok hG (cs := [(25, [some (.inr (some 0)), some (.inr (some 28)), some (.inl 0), some (.inl 0), some (.inl 0), some (.inl 0)], [], fun xs σ => match xs with
      | [v2, v3, v4, v5] => Model_numberOf_c25 F 28 (Model_numberOf_c15 F 28 fu) F v2 v3 v4 v5 σ
      | _ => none)]) (jcon (jl4 (fun y0 y1 y2 y3 => jl0 (fun σ => rr25 _ ih F y0 y1 y2 y3 σ))) jnil) 54 15 [some (jmr 0), some (jmr 28), some (jmi v2), some (jmi v3), some (jmi v4), none] [] σ) rfl
  exact jRf_by (jex_ok hG (cs := [(15, [some (.inr (some 0)), some (.inr (some 28)), some (.inl 0), some (.inl 0), some (.inl 0), none], [], fun xs σ => match xs with
      | [v2, v3, v4] => Model_numberOf_c15 F 28 F v2 v3 v4 σ
      | _ => none)]) (jcon (jl3 (fun y0 y1 y2 => jl0 (fun σ => rr15 F y0 y1 y2 σ))) jnil) 54 0 [some (jmr 0), some (jmr 28), none, none, none, none] [] σ0) rfl
set_option maxRecDepth 100000 in
set_option maxHeartbeats 4000000 in
theorem jmet_Model_numberOf_38 (F : Nat) (sh : List jxC) (hs : jHas sh jc_M) (σ0 : jxS) (x : Int) (σ' : jxS) (h : Model_numberOf F 38 σ0 = some (x, σ')) : jMC yX12_numberOf cX12_numberOf 6 (jrt 1) 1 22 sh σ0 [(jmr 0), (jmr 38)] (jrv 1 x) σ' := by
  refine jMC_of (kd := 1) (by decide) rfl h ?_
  intro X hX
  have hG : jGd X (jE_Model_numberOf F) jtb_Model_numberOf := jGd_of hX jtk_Model_numberOf (jcon jfl_X12_48 (jcon jfl_X12_51 jnil)) jnil jnil (jcon (jsS jlk_X12_254 ⟨rfl, rfl⟩ (jad_Model_beansOf F sh hs)) jnil) hs
  have rr25 : ∀ (k15 : Int → Int → Int → jxS → Option jxR) (h15 : ∀ v2 v3 v4 σ, jRf X (k15 v2 v3 v4 σ) 15 [some (jmr 0), some (jmr 38), some (jmi v2), some (jmi v3), some (jmi v4), none] [] σ) (fu : Nat) (v2 v3 v4 v5 : Int) (σ : jxS), jRf X (Model_numberOf_c25 F 38 k15 fu v2 v3 v4 v5 σ) 25 [some (jmr 0), some (jmr 38), some (jmi v2), some (jmi v3), some (jmi v4), some (jmi v5)] [] σ := by
    intro k15 h15 fu
    induction fu with
    | zero => intros; exact jRf_none
    | succ fu ih =>
      intro v2 v3 v4 v5 σ
      exact jRf_by (jex_ok hG (cs := [(15, [some (.inr (some 0)), some (.inr (some 38)), some (.inl 0), some (.inl 0), some (.inl 0), none], [], fun xs σ => match xs with
      | [v2, v3, v4] => k15 v2 v3 v4 σ
      | _ => none), (25, [some (.inr (some 0)), some (.inr (some 38)), some (.inl 0), some (.inl 0), some (.inl 0), some (.inl 0)], [], fun xs σ => match xs with
      | [v2, v3, v4, v5] => (Model_numberOf_c25 F 38 k15 fu) v2 v3 v4 v5 σ
      | _ => none)]) (jcon (jl3 (fun y0 y1 y2 => jl0 (fun σ => h15 y0 y1 y2 σ))) (jcon (jl4 (fun y0 y1 y2 y3 => jl0 (fun σ => ih y0 y1 y2 y3 σ))) jnil)) 54 25 [some (jmr 0), some (jmr 38), some (jmi v2), some (jmi v3), some (jmi v4), some (jmi v5)] [] σ) rfl
  have rr15 : ∀ (fu : Nat) (v2 v3 v4 : Int) (σ : jxS), jRf X (Model_numberOf_c15 F 38 fu v2 v3 v4 σ) 15 [some (jmr 0), some (jmr 38), some (jmi v2), some (jmi v3), some (jmi v4), none] [] σ := by
    intro  fu
    induction fu with
    | zero => intros; exact jRf_none
    | succ fu ih =>
      intro v2 v3 v4 σ
      exact jRf_by (jex_ok hG (cs := [(25, [some (.inr (some 0)), some (.inr (some 38)), some (.inl 0), some (.inl 0), some (.inl 0), some (.inl 0)], [], fun xs σ => match xs with
      | [v2, v3, v4, v5] => Model_numberOf_c25 F 38 (Model_numberOf_c15 F 38 fu) F v2 v3 v4 v5 σ
      | _ => none)]) (jcon (jl4 (fun y0 y1 y2 y3 => jl0 (fun σ => rr25 _ ih F y0 y1 y2 y3 σ))) jnil) 54 15 [some (jmr 0), some (jmr 38), some (jmi v2), some (jmi v3), some (jmi v4), none] [] σ) rfl
  exact jRf_by (jex_ok hG (cs := [(15, [some (.inr (some 0)), some (.inr (some 38)), some (.inl 0), some (.inl 0), some (.inl 0), none], [], fun xs σ => match xs with
      | [v2, v3, v4] => Model_numberOf_c15 F 38 F v2 v3 v4 σ
      | _ => none)]) (jcon (jl3 (fun y0 y1 y2 => jl0 (fun σ => rr15 F y0 y1 y2 σ))) jnil) 54 0 [some (jmr 0), some (jmr 38), none, none, none, none] [] σ0) rfl
theorem jmet_Model_numberOf (F : Nat) (a1 : Nat) (ha1 : a1 ∈ jids_Model_numberOf_a1) (sh : List jxC) (hs : jHas sh jc_M) (σ0 : jxS) (x : Int) (σ' : jxS) (h : Model_numberOf F a1 σ0 = some (x, σ')) : jMC yX12_numberOf cX12_numberOf 6 (jrt 1) 1 22 sh σ0 [(jmr 0), (jmr a1)] (jrv 1 x) σ' := by
  simp only [jids_Model_numberOf_a1, List.mem_cons, List.not_mem_nil, or_false] at ha1
  rcases ha1 with rfl | rfl | rfl | rfl | rfl
  · exact jmet_Model_numberOf_20 F sh hs σ0  x σ' h
  · exact jmet_Model_numberOf_24 F sh hs σ0  x σ' h
  · exact jmet_Model_numberOf_26 F sh hs σ0  x σ' h
  · exact jmet_Model_numberOf_28 F sh hs σ0  x σ' h
  · exact jmet_Model_numberOf_38 F sh hs σ0  x σ' h
theorem jad_Model_numberOf (F : Nat) (sh : List jxC) (hs : jHas sh jc_M) : jAdV (jca_Model_numberOf F) yX12_numberOf cX12_numberOf 6 1 1 22 1 sh := by
  intro as σ k x σ' h
  unfold jca_Model_numberOf at h
  split at h
  · rename_i t0 t1
    obtain ⟨g0, hh1⟩ := jcond h
    obtain rfl := jbeq g0
    obtain ⟨g1, hh2⟩ := jcond hh1
    have g1 := jin_of g1
    obtain ⟨r, h1, h2⟩ := Option.bind_eq_some_iff.mp hh2
    exact ⟨_, _, h2, ⟨_, _, _, _, _, _, rfl, rfl, (hs _ (jkf_in (l := jc_M) (idx := 0) rfl)).1, rfl⟩, jmet_Model_numberOf F t1 g1 sh hs σ  r.1 r.2 h1⟩
  · cases h
def jtb_Model_behind : List (Nat × Instr) := [(0, .aload_n 1), (1, .iload_n 2), (2, .iload_n 3), (3, .iconst 1), (4, .invokestatic 262), (7, .aload_n 0), (8, .aload_n 1), (9, .invokevirtual 266), (12, .istore 4), (14, .aload_n 1), (15, .iload_n 2), (16, .iload_n 3), (17, .iconst (-1)), (18, .invokestatic 262), (21, .iload 4), (23, .ireturn)]
theorem jtk_Model_behind : jtok cX12_behind jtb_Model_behind = true := by decide +kernel
set_option maxRecDepth 100000 in
theorem jlk_X12_262 : jLkS RX12 262 yX12_changes cX12_changes 4 0 4 := ⟨Or.inl (jTB_at 1622 rfl rfl), (jTB_at 1623 rfl rfl), (jTB_at 115 rfl rfl), jTB_at 1624 rfl rfl, ⟨by decide, by decide, by decide +kernel⟩⟩
set_option maxRecDepth 100000 in
theorem jlk_X12_266 : jLkV RX12 266 yX12_numberOf cX12_numberOf 6 1 1 := ⟨(jTB_at 1628 rfl rfl), (jTB_at 1630 rfl rfl), (jTB_at 70 rfl rfl), (jTB_at 115 rfl rfl), jTB_at 1631 rfl rfl, ⟨by decide, by decide, by decide +kernel⟩⟩
def jE_Model_behind (F : Nat) : jxE := jmk [] [] [] [(262, (4, true), jca_Model_changes F), (266, (2, false), jca_Model_numberOf F)] 1 jc_M
set_option maxRecDepth 100000 in
set_option maxHeartbeats 4000000 in
theorem jmet_Model_behind_20 (F : Nat) (sh : List jxC) (hs : jHas sh jc_M) (σ0 : jxS) (v2 : Int) (v3 : Int) (x : Int) (σ' : jxS) (h : Model_behind F 20 σ0 v2 v3 = some (x, σ')) : jMC yX12_behind cX12_behind 5 (jrt 1) 2 47 sh σ0 [(jmr 0), (jmr 20), (jmi v2), (jmi v3)] (jrv 1 x) σ' := by
  refine jMC_of (kd := 1) (by decide) rfl h ?_
  intro X hX
  have hG : jGd X (jE_Model_behind F) jtb_Model_behind := jGd_of hX jtk_Model_behind jnil jnil jnil (jcon (jsS jlk_X12_262 ⟨rfl, rfl⟩ (jad_Model_changes F sh hs)) (jcon (jsV jlk_X12_266 ⟨rfl, rfl⟩ (jad_Model_numberOf F sh hs)) jnil)) hs
  exact jRf_by (jex_ok hG (cs := []) jnil 19 0 [some (jmr 0), some (jmr 20), some (jmi v2), some (jmi v3), none] [] σ0) rfl
set_option maxRecDepth 100000 in
set_option maxHeartbeats 4000000 in
theorem jmet_Model_behind_24 (F : Nat) (sh : List jxC) (hs : jHas sh jc_M) (σ0 : jxS) (v2 : Int) (v3 : Int) (x : Int) (σ' : jxS) (h : Model_behind F 24 σ0 v2 v3 = some (x, σ')) : jMC yX12_behind cX12_behind 5 (jrt 1) 2 47 sh σ0 [(jmr 0), (jmr 24), (jmi v2), (jmi v3)] (jrv 1 x) σ' := by
  refine jMC_of (kd := 1) (by decide) rfl h ?_
  intro X hX
  have hG : jGd X (jE_Model_behind F) jtb_Model_behind := jGd_of hX jtk_Model_behind jnil jnil jnil (jcon (jsS jlk_X12_262 ⟨rfl, rfl⟩ (jad_Model_changes F sh hs)) (jcon (jsV jlk_X12_266 ⟨rfl, rfl⟩ (jad_Model_numberOf F sh hs)) jnil)) hs
  exact jRf_by (jex_ok hG (cs := []) jnil 19 0 [some (jmr 0), some (jmr 24), some (jmi v2), some (jmi v3), none] [] σ0) rfl
set_option maxRecDepth 100000 in
set_option maxHeartbeats 4000000 in
theorem jmet_Model_behind_26 (F : Nat) (sh : List jxC) (hs : jHas sh jc_M) (σ0 : jxS) (v2 : Int) (v3 : Int) (x : Int) (σ' : jxS) (h : Model_behind F 26 σ0 v2 v3 = some (x, σ')) : jMC yX12_behind cX12_behind 5 (jrt 1) 2 47 sh σ0 [(jmr 0), (jmr 26), (jmi v2), (jmi v3)] (jrv 1 x) σ' := by
  refine jMC_of (kd := 1) (by decide) rfl h ?_
  intro X hX
  have hG : jGd X (jE_Model_behind F) jtb_Model_behind := jGd_of hX jtk_Model_behind jnil jnil jnil (jcon (jsS jlk_X12_262 ⟨rfl, rfl⟩ (jad_Model_changes F sh hs)) (jcon (jsV jlk_X12_266 ⟨rfl, rfl⟩ (jad_Model_numberOf F sh hs)) jnil)) hs
  exact jRf_by (jex_ok hG (cs := []) jnil 19 0 [some (jmr 0), some (jmr 26), some (jmi v2), some (jmi v3), none] [] σ0) rfl
theorem jmet_Model_behind (F : Nat) (a1 : Nat) (ha1 : a1 ∈ jids_Model_behind_a1) (sh : List jxC) (hs : jHas sh jc_M) (σ0 : jxS) (v2 : Int) (v3 : Int) (x : Int) (σ' : jxS) (h : Model_behind F a1 σ0 v2 v3 = some (x, σ')) : jMC yX12_behind cX12_behind 5 (jrt 1) 2 47 sh σ0 [(jmr 0), (jmr a1), (jmi v2), (jmi v3)] (jrv 1 x) σ' := by
  simp only [jids_Model_behind_a1, List.mem_cons, List.not_mem_nil, or_false] at ha1
  rcases ha1 with rfl | rfl | rfl
  · exact jmet_Model_behind_20 F sh hs σ0 v2 v3 x σ' h
  · exact jmet_Model_behind_24 F sh hs σ0 v2 v3 x σ' h
  · exact jmet_Model_behind_26 F sh hs σ0 v2 v3 x σ' h
theorem jad_Model_behind (F : Nat) (sh : List jxC) (hs : jHas sh jc_M) : jAdV (jca_Model_behind F) yX12_behind cX12_behind 5 1 2 47 3 sh := by
  intro as σ k x σ' h
  unfold jca_Model_behind at h
  split at h
  · rename_i t0 t1 v2 v3
    obtain ⟨g0, hh1⟩ := jcond h
    obtain rfl := jbeq g0
    obtain ⟨g1, hh2⟩ := jcond hh1
    have g1 := jin_of g1
    obtain ⟨r, h1, h2⟩ := Option.bind_eq_some_iff.mp hh2
    exact ⟨_, _, h2, ⟨_, _, _, _, _, _, rfl, rfl, (hs _ (jkf_in (l := jc_M) (idx := 0) rfl)).1, rfl⟩, jmet_Model_behind F t1 g1 sh hs σ v2 v3 r.1 r.2 h1⟩
  · cases h
def jtb_Model_gathersBehind : List (Nat × Instr) := [(0, .aload_n 0), (1, .iconst 0), (2, .putfield 269), (5, .iconst 1), (6, .istore_n 1), (7, .iload_n 1), (8, .bipush 12), (10, .if_icmp .gt 75), (13, .iconst 0), (14, .istore_n 2), (15, .iload_n 2), (16, .aload_n 0), (17, .getfield 39), (20, .iload_n 1), (21, .iaload), (22, .if_icmp .ge 57), (25, .aload_n 0), (26, .getfield 69), (29, .iload_n 1), (30, .iaload), (31, .ifCond .le 48), (34, .aload_n 0), (35, .getfield 72), (38, .aload_n 0), (39, .getfield 269), (42, .aload_n 0), (43, .aload_n 0), (44, .getfield 69), (47, .iload_n 1), (48, .aload_n 0), (49, .getfield 36), (52, .bipush 64), (54, .iload_n 1), (55, .imul), (56, .iload_n 2), (57, .iadd), (58, .iaload), (59, .invokevirtual 272), (62, .iastore), (63, .aload_n 0), (64, .dup), (65, .getfield 269), (68, .iconst 1), (69, .iadd), (70, .putfield 269), (73, .iinc 2 1), (76, .goto (-61)), (79, .iinc 1 1), (82, .goto (-75)), (85, .return_)]
theorem jtk_Model_gathersBehind : jtok cX12_gathersBehind jtb_Model_gathersBehind = true := by decide +kernel
set_option maxRecDepth 100000 in
theorem jfl_X12_69 : jFl RX12 69 12 30 := ⟨RX12, TX12, 57, tyX12, rfl, by decide, jin_X12, tyX12_ok, nmX12, jow_X12, (Or.inl (jTB_at 1371 rfl rfl))⟩
set_option maxRecDepth 100000 in
theorem jfl_X12_72 : jFl RX12 72 12 31 := ⟨RX12, TX12, 57, tyX12, rfl, by decide, jin_X12, tyX12_ok, nmX12, jow_X12, (Or.inl (jTB_at 1372 rfl rfl))⟩
set_option maxRecDepth 100000 in
theorem jfl_X12_269 : jFl RX12 269 12 32 := ⟨RX12, TX12, 57, tyX12, rfl, by decide, jin_X12, tyX12_ok, nmX12, jow_X12, (Or.inl (jTB_at 1373 rfl rfl))⟩
set_option maxRecDepth 100000 in
theorem jlk_X12_272 : jLkV RX12 272 yX12_behind cX12_behind 5 1 3 := ⟨(jTB_at 1618 rfl rfl), (jTB_at 1620 rfl rfl), (jTB_at 69 rfl rfl), (jTB_at 115 rfl rfl), jTB_at 1621 rfl rfl, ⟨by decide, by decide, by decide +kernel⟩⟩
def jE_Model_gathersBehind (F : Nat) : jxE := jmk [(36, 12, 18), (39, 12, 19), (69, 12, 30), (72, 12, 31), (269, 12, 32)] [] [] [(272, (4, false), jca_Model_behind F)] 0 jc_M
set_option maxRecDepth 100000 in
set_option maxHeartbeats 4000000 in
theorem jmet_Model_gathersBehind (F : Nat) (sh : List jxC) (hs : jHas sh jc_M) (σ0 : jxS) (x : Int) (σ' : jxS) (h : Model_gathersBehind F σ0 = some (x, σ')) : jMC yX12_gathersBehind cX12_gathersBehind 3 (jrt 0) 3 71 sh σ0 [(jmr 0)] (jrv 0 x) σ' := by
  refine jMC_of (kd := 0) (by decide) rfl h ?_
  intro X hX
  have hG : jGd X (jE_Model_gathersBehind F) jtb_Model_gathersBehind := jGd_of hX jtk_Model_gathersBehind (jcon jfl_X12_36 (jcon jfl_X12_39 (jcon jfl_X12_69 (jcon jfl_X12_72 (jcon jfl_X12_269 jnil))))) jnil jnil (jcon (jsV jlk_X12_272 ⟨rfl, rfl⟩ (jad_Model_behind F sh hs)) jnil) hs
  have rr15 : ∀ (k7 : Int → jxS → Option jxR) (h7 : ∀ v1 σ, jRf X (k7 v1 σ) 7 [some (jmr 0), some (jmi v1), none] [] σ) (fu : Nat) (v1 v2 : Int) (σ : jxS), jRf X (Model_gathersBehind_c15 F k7 fu v1 v2 σ) 15 [some (jmr 0), some (jmi v1), some (jmi v2)] [] σ := by
    intro k7 h7 fu
    induction fu with
    | zero => intros; exact jRf_none
    | succ fu ih =>
      intro v1 v2 σ
      exact jRf_by (jex_ok hG (cs := [(7, [some (.inr (some 0)), some (.inl 0), none], [], fun xs σ => match xs with
      | [v1] => k7 v1 σ
      | _ => none), (15, [some (.inr (some 0)), some (.inl 0), some (.inl 0)], [], fun xs σ => match xs with
      | [v1, v2] => (Model_gathersBehind_c15 F k7 fu) v1 v2 σ
      | _ => none)]) (jcon (jl1 (fun y0 => jl0 (fun σ => h7 y0 σ))) (jcon (jl2 (fun y0 y1 => jl0 (fun σ => ih y0 y1 σ))) jnil)) 53 15 [some (jmr 0), some (jmi v1), some (jmi v2)] [] σ) rfl
  have rr7 : ∀ (fu : Nat) (v1 : Int) (σ : jxS), jRf X (Model_gathersBehind_c7 F fu v1 σ) 7 [some (jmr 0), some (jmi v1), none] [] σ := by
    intro  fu
    induction fu with
    | zero => intros; exact jRf_none
    | succ fu ih =>
      intro v1 σ
      exact jRf_by (jex_ok hG (cs := [(15, [some (.inr (some 0)), some (.inl 0), some (.inl 0)], [], fun xs σ => match xs with
      | [v1, v2] => Model_gathersBehind_c15 F (Model_gathersBehind_c7 F fu) F v1 v2 σ
      | _ => none)]) (jcon (jl2 (fun y0 y1 => jl0 (fun σ => rr15 _ ih F y0 y1 σ))) jnil) 53 7 [some (jmr 0), some (jmi v1), none] [] σ) rfl
  exact jRf_by (jex_ok hG (cs := [(7, [some (.inr (some 0)), some (.inl 0), none], [], fun xs σ => match xs with
      | [v1] => Model_gathersBehind_c7 F F v1 σ
      | _ => none)]) (jcon (jl1 (fun y0 => jl0 (fun σ => rr7 F y0 σ))) jnil) 53 0 [some (jmr 0), none, none] [] σ0) rfl
theorem jad_Model_gathersBehind (F : Nat) (sh : List jxC) (hs : jHas sh jc_M) : jAdV (jca_Model_gathersBehind F) yX12_gathersBehind cX12_gathersBehind 3 0 3 71 0 sh := by
  intro as σ k x σ' h
  unfold jca_Model_gathersBehind at h
  split at h
  · rename_i t0
    obtain ⟨g0, hh1⟩ := jcond h
    obtain rfl := jbeq g0
    obtain ⟨r, h1, h2⟩ := Option.bind_eq_some_iff.mp hh1
    exact ⟨_, _, h2, ⟨_, _, _, _, _, _, rfl, rfl, (hs _ (jkf_in (l := jc_M) (idx := 0) rfl)).1, rfl⟩, jmet_Model_gathersBehind F  sh hs σ  r.1 r.2 h1⟩
  · cases h
def jtb_Model_laysOne : List (Nat × Instr) := [(0, .iconst 0), (1, .istore_n 2), (2, .iconst 0), (3, .istore_n 3), (4, .iconst 0), (5, .istore 4), (7, .iconst 0), (8, .istore 5), (10, .iconst 0), (11, .istore 6), (13, .iconst 0), (14, .istore 7), (16, .iload 7), (18, .aload_n 0), (19, .getfield 269), (22, .if_icmp .ge 145), (25, .aload_n 0), (26, .getfield 72), (29, .iload 7), (31, .iaload), (32, .istore 8), (34, .aload_n 0), (35, .getfield 54), (38, .iload 8), (40, .baload), (41, .ifCond .eq 27), (44, .iload 6), (46, .ifCond .eq 14), (49, .aload_n 0), (50, .getfield 57), (53, .iload 8), (55, .iaload), (56, .iload_n 2), (57, .if_icmp .ge 11), (60, .aload_n 0), (61, .getfield 57), (64, .iload 8), (66, .iaload), (67, .istore_n 2), (68, .iload 6), (70, .ifCond .ne 13), (73, .aload_n 0), (74, .getfield 54), (77, .iload 8), (79, .baload), (80, .ifCond .eq 7), (83, .iconst 1), (84, .goto 4), (87, .iconst 0), (88, .istore 6), (90, .aload_n 0), (91, .getfield 57), (94, .iload 8), (96, .iaload), (97, .iload_n 3), (98, .if_icmp .le 11), (101, .aload_n 0), (102, .getfield 57), (105, .iload 8), (107, .iaload), (108, .istore_n 3), (109, .iload 7), (111, .ifCond .eq 15), (114, .aload_n 0), (115, .getfield 60), (118, .iload 8), (120, .iaload), (121, .iload 4), (123, .if_icmp .ge 12), (126, .aload_n 0), (127, .getfield 60), (130, .iload 8), (132, .iaload), (133, .istore 4), (135, .iload 7), (137, .ifCond .eq 15), (140, .aload_n 0), (141, .getfield 63), (144, .iload 8), (146, .iaload), (147, .iload 5), (149, .if_icmp .le 12), (152, .aload_n 0), (153, .getfield 63), (156, .iload 8), (158, .iaload), (159, .istore 5), (161, .iinc 7 1), (164, .goto (-148)), (167, .aload_n 0), (168, .getfield 269), (171, .ifCond .le 7), (174, .iconst 1), (175, .goto 4), (178, .iconst 0), (179, .istore 7), (181, .aload_n 0), (182, .getfield 54), (185, .iload_n 1), (186, .iload 7), (188, .ifCond .eq 12), (191, .iload 6), (193, .ifCond .ne 7), (196, .iconst 1), (197, .goto 4), (200, .iconst 0), (201, .bastore), (202, .aload_n 0), (203, .getfield 57), (206, .iload_n 1), (207, .iload 7), (209, .ifCond .ne 7), (212, .iconst 0), (213, .goto 15), (216, .iconst 1), (217, .iload 6), (219, .ifCond .eq 7), (222, .iload_n 2), (223, .goto 4), (226, .iload_n 3), (227, .iadd), (228, .iastore), (229, .aload_n 0), (230, .getfield 60), (233, .iload_n 1), (234, .iload 7), (236, .ifCond .eq 10), (239, .iconst 1), (240, .iload 4), (242, .iadd), (243, .goto 4), (246, .iconst 0), (247, .iastore), (248, .aload_n 0), (249, .getfield 63), (252, .iload_n 1), (253, .iload 7), (255, .ifCond .eq 10), (258, .iconst 1), (259, .iload 5), (261, .iadd), (262, .goto 4), (265, .iconst 0), (266, .iastore), (267, .return_)]
theorem jtk_Model_laysOne : jtok cX12_laysOne jtb_Model_laysOne = true := by decide +kernel
set_option maxRecDepth 100000 in
theorem jfl_X12_54 : jFl RX12 54 12 25 := ⟨RX12, TX12, 57, tyX12, rfl, by decide, jin_X12, tyX12_ok, nmX12, jow_X12, (Or.inl (jTB_at 1366 rfl rfl))⟩
set_option maxRecDepth 100000 in
theorem jfl_X12_57 : jFl RX12 57 12 26 := ⟨RX12, TX12, 57, tyX12, rfl, by decide, jin_X12, tyX12_ok, nmX12, jow_X12, (Or.inl (jTB_at 1367 rfl rfl))⟩
set_option maxRecDepth 100000 in
theorem jfl_X12_60 : jFl RX12 60 12 27 := ⟨RX12, TX12, 57, tyX12, rfl, by decide, jin_X12, tyX12_ok, nmX12, jow_X12, (Or.inl (jTB_at 1368 rfl rfl))⟩
set_option maxRecDepth 100000 in
theorem jfl_X12_63 : jFl RX12 63 12 28 := ⟨RX12, TX12, 57, tyX12, rfl, by decide, jin_X12, tyX12_ok, nmX12, jow_X12, (Or.inl (jTB_at 1369 rfl rfl))⟩
def jE_Model_laysOne (F : Nat) : jxE := jmk [(54, 12, 25), (57, 12, 26), (60, 12, 27), (63, 12, 28), (72, 12, 31), (269, 12, 32)] [] [] [] 0 jc_M
set_option maxRecDepth 100000 in
set_option maxHeartbeats 4000000 in
theorem jmet_Model_laysOne (F : Nat) (sh : List jxC) (hs : jHas sh jc_M) (σ0 : jxS) (v1 : Int) (x : Int) (σ' : jxS) (h : Model_laysOne F σ0 v1 = some (x, σ')) : jMC yX12_laysOne cX12_laysOne 9 (jrt 0) 0 0 sh σ0 [(jmr 0), (jmi v1)] (jrv 0 x) σ' := by
  refine jMC_of (kd := 0) (by decide) rfl h ?_
  intro X hX
  have hG : jGd X (jE_Model_laysOne F) jtb_Model_laysOne := jGd_of hX jtk_Model_laysOne (jcon jfl_X12_54 (jcon jfl_X12_57 (jcon jfl_X12_60 (jcon jfl_X12_63 (jcon jfl_X12_72 (jcon jfl_X12_269 jnil)))))) jnil jnil jnil hs
  have rr247 : ∀ (v1 v5 v7 t0 t1 : Int) (σ : jxS), jRf X (Model_laysOne_c247 F v1 v5 v7 t0 t1 σ) 247 [some (jmr 0), some (jmi v1), none, none, none, some (jmi v5), none, some (jmi v7), none] [(jmi t0), (jmi t1), (jmr 17)] σ := by
    intro  v1 v5 v7 t0 t1 σ
    exact jRf_by (jex_ok hG (cs := []) jnil 148 247 [some (jmr 0), some (jmi v1), none, none, none, some (jmi v5), none, some (jmi v7), none] [(jmi t0), (jmi t1), (jmr 17)] σ) rfl
  have rr228 : ∀ (v1 v4 v5 v7 t0 t1 : Int) (σ : jxS), jRf X (Model_laysOne_c228 F v1 v4 v5 v7 t0 t1 σ) 228 [some (jmr 0), some (jmi v1), none, none, some (jmi v4), some (jmi v5), none, some (jmi v7), none] [(jmi t0), (jmi t1), (jmr 16)] σ := by
    intro  v1 v4 v5 v7 t0 t1 σ
    exact jRf_by (jex_ok hG (cs := [(247, [some (.inr (some 0)), some (.inl 0), none, none, none, some (.inl 0), none, some (.inl 0), none], [(.inl 0), (.inl 0), (.inr (some 17))], fun xs σ => match xs with
      | [v1, v5, v7, t0, t1] => Model_laysOne_c247 F v1 v5 v7 t0 t1 σ
      | _ => none)]) (jcon (jl3 (fun y0 y1 y2 => jl2 (fun y3 y4 => (fun σ => rr247 y0 y1 y2 y3 y4 σ)))) jnil) 148 228 [some (jmr 0), some (jmi v1), none, none, some (jmi v4), some (jmi v5), none, some (jmi v7), none] [(jmi t0), (jmi t1), (jmr 16)] σ) rfl
  have rr227 : ∀ (v1 v4 v5 v7 t0 t1 t2 : Int) (σ : jxS), jRf X (Model_laysOne_c227 F v1 v4 v5 v7 t0 t1 t2 σ) 227 [some (jmr 0), some (jmi v1), none, none, some (jmi v4), some (jmi v5), none, some (jmi v7), none] [(jmi t0), (jmi t1), (jmi t2), (jmr 16)] σ := by
    intro  v1 v4 v5 v7 t0 t1 t2 σ
    exact jRf_by (jex_ok hG (cs := [(228, [some (.inr (some 0)), some (.inl 0), none, none, some (.inl 0), some (.inl 0), none, some (.inl 0), none], [(.inl 0), (.inl 0), (.inr (some 16))], fun xs σ => match xs with
      | [v1, v4, v5, v7, t0, t1] => Model_laysOne_c228 F v1 v4 v5 v7 t0 t1 σ
      | _ => none)]) (jcon (jl4 (fun y0 y1 y2 y3 => jl2 (fun y4 y5 => (fun σ => rr228 y0 y1 y2 y3 y4 y5 σ)))) jnil) 148 227 [some (jmr 0), some (jmi v1), none, none, some (jmi v4), some (jmi v5), none, some (jmi v7), none] [(jmi t0), (jmi t1), (jmi t2), (jmr 16)] σ) rfl
  have rr201 : ∀ (v1 v2 v3 v4 v5 v6 v7 t0 t1 : Int) (σ : jxS), jRf X (Model_laysOne_c201 F v1 v2 v3 v4 v5 v6 v7 t0 t1 σ) 201 [some (jmr 0), some (jmi v1), some (jmi v2), some (jmi v3), some (jmi v4), some (jmi v5), some (jmi v6), some (jmi v7), none] [(jmi t0), (jmi t1), (jmr 15)] σ := by
    intro  v1 v2 v3 v4 v5 v6 v7 t0 t1 σ
    exact jRf_by (jex_ok hG (cs := [(227, [some (.inr (some 0)), some (.inl 0), none, none, some (.inl 0), some (.inl 0), none, some (.inl 0), none], [(.inl 0), (.inl 0), (.inl 0), (.inr (some 16))], fun xs σ => match xs with
      | [v1, v4, v5, v7, t0, t1, t2] => Model_laysOne_c227 F v1 v4 v5 v7 t0 t1 t2 σ
      | _ => none), (228, [some (.inr (some 0)), some (.inl 0), none, none, some (.inl 0), some (.inl 0), none, some (.inl 0), none], [(.inl 0), (.inl 0), (.inr (some 16))], fun xs σ => match xs with
      | [v1, v4, v5, v7, t0, t1] => Model_laysOne_c228 F v1 v4 v5 v7 t0 t1 σ
      | _ => none)]) (jcon (jl4 (fun y0 y1 y2 y3 => jl3 (fun y4 y5 y6 => (fun σ => rr227 y0 y1 y2 y3 y4 y5 y6 σ)))) (jcon (jl4 (fun y0 y1 y2 y3 => jl2 (fun y4 y5 => (fun σ => rr228 y0 y1 y2 y3 y4 y5 σ)))) jnil)) 148 201 [some (jmr 0), some (jmi v1), some (jmi v2), some (jmi v3), some (jmi v4), some (jmi v5), some (jmi v6), some (jmi v7), none] [(jmi t0), (jmi t1), (jmr 15)] σ) rfl
  have rr200 : ∀ (v1 v2 v3 v4 v5 v6 v7 t0 : Int) (σ : jxS), jRf X (Model_laysOne_c200 F v1 v2 v3 v4 v5 v6 v7 t0 σ) 200 [some (jmr 0), some (jmi v1), some (jmi v2), some (jmi v3), some (jmi v4), some (jmi v5), some (jmi v6), some (jmi v7), none] [(jmi t0), (jmr 15)] σ := by
    intro  v1 v2 v3 v4 v5 v6 v7 t0 σ
    exact jRf_by (jex_ok hG (cs := [(201, [some (.inr (some 0)), some (.inl 0), some (.inl 0), some (.inl 0), some (.inl 0), some (.inl 0), some (.inl 0), some (.inl 0), none], [(.inl 0), (.inl 0), (.inr (some 15))], fun xs σ => match xs with
      | [v1, v2, v3, v4, v5, v6, v7, t0, t1] => Model_laysOne_c201 F v1 v2 v3 v4 v5 v6 v7 t0 t1 σ
      | _ => none)]) (jcon (jl7 (fun y0 y1 y2 y3 y4 y5 y6 => jl2 (fun y7 y8 => (fun σ => rr201 y0 y1 y2 y3 y4 y5 y6 y7 y8 σ)))) jnil) 148 200 [some (jmr 0), some (jmi v1), some (jmi v2), some (jmi v3), some (jmi v4), some (jmi v5), some (jmi v6), some (jmi v7), none] [(jmi t0), (jmr 15)] σ) rfl
  have rr179 : ∀ (v1 v2 v3 v4 v5 v6 t0 : Int) (σ : jxS), jRf X (Model_laysOne_c179 F v1 v2 v3 v4 v5 v6 t0 σ) 179 [some (jmr 0), some (jmi v1), some (jmi v2), some (jmi v3), some (jmi v4), some (jmi v5), some (jmi v6), none, none] [(jmi t0)] σ := by
    intro  v1 v2 v3 v4 v5 v6 t0 σ
    exact jRf_by (jex_ok hG (cs := [(200, [some (.inr (some 0)), some (.inl 0), some (.inl 0), some (.inl 0), some (.inl 0), some (.inl 0), some (.inl 0), some (.inl 0), none], [(.inl 0), (.inr (some 15))], fun xs σ => match xs with
      | [v1, v2, v3, v4, v5, v6, v7, t0] => Model_laysOne_c200 F v1 v2 v3 v4 v5 v6 v7 t0 σ
      | _ => none), (201, [some (.inr (some 0)), some (.inl 0), some (.inl 0), some (.inl 0), some (.inl 0), some (.inl 0), some (.inl 0), some (.inl 0), none], [(.inl 0), (.inl 0), (.inr (some 15))], fun xs σ => match xs with
      | [v1, v2, v3, v4, v5, v6, v7, t0, t1] => Model_laysOne_c201 F v1 v2 v3 v4 v5 v6 v7 t0 t1 σ
      | _ => none)]) (jcon (jl7 (fun y0 y1 y2 y3 y4 y5 y6 => jl1 (fun y7 => (fun σ => rr200 y0 y1 y2 y3 y4 y5 y6 y7 σ)))) (jcon (jl7 (fun y0 y1 y2 y3 y4 y5 y6 => jl2 (fun y7 y8 => (fun σ => rr201 y0 y1 y2 y3 y4 y5 y6 y7 y8 σ)))) jnil)) 148 179 [some (jmr 0), some (jmi v1), some (jmi v2), some (jmi v3), some (jmi v4), some (jmi v5), some (jmi v6), none, none] [(jmi t0)] σ) rfl
  have rr152 : ∀ (k16 : Int → Int → Int → Int → Int → Int → Int → jxS → Option jxR) (h16 : ∀ v1 v2 v3 v4 v5 v6 v7 σ, jRf X (k16 v1 v2 v3 v4 v5 v6 v7 σ) 16 [some (jmr 0), some (jmi v1), some (jmi v2), some (jmi v3), some (jmi v4), some (jmi v5), some (jmi v6), some (jmi v7), none] [] σ) (v1 v2 v3 v4 v6 v7 v8 : Int) (σ : jxS), jRf X (Model_laysOne_c152 F k16 v1 v2 v3 v4 v6 v7 v8 σ) 152 [some (jmr 0), some (jmi v1), some (jmi v2), some (jmi v3), some (jmi v4), none, some (jmi v6), some (jmi v7), some (jmi v8)] [] σ := by
    intro k16 h16 v1 v2 v3 v4 v6 v7 v8 σ
    exact jRf_by (jex_ok hG (cs := [(16, [some (.inr (some 0)), some (.inl 0), some (.inl 0), some (.inl 0), some (.inl 0), some (.inl 0), some (.inl 0), some (.inl 0), none], [], fun xs σ => match xs with
      | [v1, v2, v3, v4, v5, v6, v7] => k16 v1 v2 v3 v4 v5 v6 v7 σ
      | _ => none)]) (jcon (jl7 (fun y0 y1 y2 y3 y4 y5 y6 => jl0 (fun σ => h16 y0 y1 y2 y3 y4 y5 y6 σ))) jnil) 148 152 [some (jmr 0), some (jmi v1), some (jmi v2), some (jmi v3), some (jmi v4), none, some (jmi v6), some (jmi v7), some (jmi v8)] [] σ) rfl
  have rr135 : ∀ (k16 : Int → Int → Int → Int → Int → Int → Int → jxS → Option jxR) (h16 : ∀ v1 v2 v3 v4 v5 v6 v7 σ, jRf X (k16 v1 v2 v3 v4 v5 v6 v7 σ) 16 [some (jmr 0), some (jmi v1), some (jmi v2), some (jmi v3), some (jmi v4), some (jmi v5), some (jmi v6), some (jmi v7), none] [] σ) (v1 v2 v3 v4 v5 v6 v7 v8 : Int) (σ : jxS), jRf X (Model_laysOne_c135 F k16 v1 v2 v3 v4 v5 v6 v7 v8 σ) 135 [some (jmr 0), some (jmi v1), some (jmi v2), some (jmi v3), some (jmi v4), some (jmi v5), some (jmi v6), some (jmi v7), some (jmi v8)] [] σ := by
    intro k16 h16 v1 v2 v3 v4 v5 v6 v7 v8 σ
    exact jRf_by (jex_ok hG (cs := [(16, [some (.inr (some 0)), some (.inl 0), some (.inl 0), some (.inl 0), some (.inl 0), some (.inl 0), some (.inl 0), some (.inl 0), none], [], fun xs σ => match xs with
      | [v1, v2, v3, v4, v5, v6, v7] => k16 v1 v2 v3 v4 v5 v6 v7 σ
      | _ => none), (152, [some (.inr (some 0)), some (.inl 0), some (.inl 0), some (.inl 0), some (.inl 0), none, some (.inl 0), some (.inl 0), some (.inl 0)], [], fun xs σ => match xs with
      | [v1, v2, v3, v4, v6, v7, v8] => Model_laysOne_c152 F k16 v1 v2 v3 v4 v6 v7 v8 σ
      | _ => none)]) (jcon (jl7 (fun y0 y1 y2 y3 y4 y5 y6 => jl0 (fun σ => h16 y0 y1 y2 y3 y4 y5 y6 σ))) (jcon (jl7 (fun y0 y1 y2 y3 y4 y5 y6 => jl0 (fun σ => rr152 _ h16 y0 y1 y2 y3 y4 y5 y6 σ))) jnil)) 148 135 [some (jmr 0), some (jmi v1), some (jmi v2), some (jmi v3), some (jmi v4), some (jmi v5), some (jmi v6), some (jmi v7), some (jmi v8)] [] σ) rfl
  have rr126 : ∀ (k16 : Int → Int → Int → Int → Int → Int → Int → jxS → Option jxR) (h16 : ∀ v1 v2 v3 v4 v5 v6 v7 σ, jRf X (k16 v1 v2 v3 v4 v5 v6 v7 σ) 16 [some (jmr 0), some (jmi v1), some (jmi v2), some (jmi v3), some (jmi v4), some (jmi v5), some (jmi v6), some (jmi v7), none] [] σ) (v1 v2 v3 v5 v6 v7 v8 : Int) (σ : jxS), jRf X (Model_laysOne_c126 F k16 v1 v2 v3 v5 v6 v7 v8 σ) 126 [some (jmr 0), some (jmi v1), some (jmi v2), some (jmi v3), none, some (jmi v5), some (jmi v6), some (jmi v7), some (jmi v8)] [] σ := by
    intro k16 h16 v1 v2 v3 v5 v6 v7 v8 σ
    exact jRf_by (jex_ok hG (cs := [(135, [some (.inr (some 0)), some (.inl 0), some (.inl 0), some (.inl 0), some (.inl 0), some (.inl 0), some (.inl 0), some (.inl 0), some (.inl 0)], [], fun xs σ => match xs with
      | [v1, v2, v3, v4, v5, v6, v7, v8] => Model_laysOne_c135 F k16 v1 v2 v3 v4 v5 v6 v7 v8 σ
      | _ => none)]) (jcon (jl8 (fun y0 y1 y2 y3 y4 y5 y6 y7 => jl0 (fun σ => rr135 _ h16 y0 y1 y2 y3 y4 y5 y6 y7 σ))) jnil) 148 126 [some (jmr 0), some (jmi v1), some (jmi v2), some (jmi v3), none, some (jmi v5), some (jmi v6), some (jmi v7), some (jmi v8)] [] σ) rfl
  have rr109 : ∀ (k16 : Int → Int → Int → Int → Int → Int → Int → jxS → Option jxR) (h16 : ∀ v1 v2 v3 v4 v5 v6 v7 σ, jRf X (k16 v1 v2 v3 v4 v5 v6 v7 σ) 16 [some (jmr 0), some (jmi v1), some (jmi v2), some (jmi v3), some (jmi v4), some (jmi v5), some (jmi v6), some (jmi v7), none] [] σ) (v1 v2 v3 v4 v5 v6 v7 v8 : Int) (σ : jxS), jRf X (Model_laysOne_c109 F k16 v1 v2 v3 v4 v5 v6 v7 v8 σ) 109 [some (jmr 0), some (jmi v1), some (jmi v2), some (jmi v3), some (jmi v4), some (jmi v5), some (jmi v6), some (jmi v7), some (jmi v8)] [] σ := by
    intro k16 h16 v1 v2 v3 v4 v5 v6 v7 v8 σ
    exact jRf_by (jex_ok hG (cs := [(126, [some (.inr (some 0)), some (.inl 0), some (.inl 0), some (.inl 0), none, some (.inl 0), some (.inl 0), some (.inl 0), some (.inl 0)], [], fun xs σ => match xs with
      | [v1, v2, v3, v5, v6, v7, v8] => Model_laysOne_c126 F k16 v1 v2 v3 v5 v6 v7 v8 σ
      | _ => none), (135, [some (.inr (some 0)), some (.inl 0), some (.inl 0), some (.inl 0), some (.inl 0), some (.inl 0), some (.inl 0), some (.inl 0), some (.inl 0)], [], fun xs σ => match xs with
      | [v1, v2, v3, v4, v5, v6, v7, v8] => Model_laysOne_c135 F k16 v1 v2 v3 v4 v5 v6 v7 v8 σ
      | _ => none)]) (jcon (jl7 (fun y0 y1 y2 y3 y4 y5 y6 => jl0 (fun σ => rr126 _ h16 y0 y1 y2 y3 y4 y5 y6 σ))) (jcon (jl8 (fun y0 y1 y2 y3 y4 y5 y6 y7 => jl0 (fun σ => rr135 _ h16 y0 y1 y2 y3 y4 y5 y6 y7 σ))) jnil)) 148 109 [some (jmr 0), some (jmi v1), some (jmi v2), some (jmi v3), some (jmi v4), some (jmi v5), some (jmi v6), some (jmi v7), some (jmi v8)] [] σ) rfl
  have rr88 : ∀ (k16 : Int → Int → Int → Int → Int → Int → Int → jxS → Option jxR) (h16 : ∀ v1 v2 v3 v4 v5 v6 v7 σ, jRf X (k16 v1 v2 v3 v4 v5 v6 v7 σ) 16 [some (jmr 0), some (jmi v1), some (jmi v2), some (jmi v3), some (jmi v4), some (jmi v5), some (jmi v6), some (jmi v7), none] [] σ) (v1 v2 v3 v4 v5 v7 v8 t0 : Int) (σ : jxS), jRf X (Model_laysOne_c88 F k16 v1 v2 v3 v4 v5 v7 v8 t0 σ) 88 [some (jmr 0), some (jmi v1), some (jmi v2), some (jmi v3), some (jmi v4), some (jmi v5), none, some (jmi v7), some (jmi v8)] [(jmi t0)] σ := by
    intro k16 h16 v1 v2 v3 v4 v5 v7 v8 t0 σ
    exact jRf_by (jex_ok hG (cs := [(109, [some (.inr (some 0)), some (.inl 0), some (.inl 0), some (.inl 0), some (.inl 0), some (.inl 0), some (.inl 0), some (.inl 0), some (.inl 0)], [], fun xs σ => match xs with
      | [v1, v2, v3, v4, v5, v6, v7, v8] => Model_laysOne_c109 F k16 v1 v2 v3 v4 v5 v6 v7 v8 σ
      | _ => none)]) (jcon (jl8 (fun y0 y1 y2 y3 y4 y5 y6 y7 => jl0 (fun σ => rr109 _ h16 y0 y1 y2 y3 y4 y5 y6 y7 σ))) jnil) 148 88 [some (jmr 0), some (jmi v1), some (jmi v2), some (jmi v3), some (jmi v4), some (jmi v5), none, some (jmi v7), some (jmi v8)] [(jmi t0)] σ) rfl
  have rr83 : ∀ (k16 : Int → Int → Int → Int → Int → Int → Int → jxS → Option jxR) (h16 : ∀ v1 v2 v3 v4 v5 v6 v7 σ, jRf X (k16 v1 v2 v3 v4 v5 v6 v7 σ) 16 [some (jmr 0), some (jmi v1), some (jmi v2), some (jmi v3), some (jmi v4), some (jmi v5), some (jmi v6), some (jmi v7), none] [] σ) (v1 v2 v3 v4 v5 v7 v8 : Int) (σ : jxS), jRf X (Model_laysOne_c83 F k16 v1 v2 v3 v4 v5 v7 v8 σ) 83 [some (jmr 0), some (jmi v1), some (jmi v2), some (jmi v3), some (jmi v4), some (jmi v5), none, some (jmi v7), some (jmi v8)] [] σ := by
    intro k16 h16 v1 v2 v3 v4 v5 v7 v8 σ
    exact jRf_by (jex_ok hG (cs := [(88, [some (.inr (some 0)), some (.inl 0), some (.inl 0), some (.inl 0), some (.inl 0), some (.inl 0), none, some (.inl 0), some (.inl 0)], [(.inl 0)], fun xs σ => match xs with
      | [v1, v2, v3, v4, v5, v7, v8, t0] => Model_laysOne_c88 F k16 v1 v2 v3 v4 v5 v7 v8 t0 σ
      | _ => none)]) (jcon (jl7 (fun y0 y1 y2 y3 y4 y5 y6 => jl1 (fun y7 => (fun σ => rr88 _ h16 y0 y1 y2 y3 y4 y5 y6 y7 σ)))) jnil) 148 83 [some (jmr 0), some (jmi v1), some (jmi v2), some (jmi v3), some (jmi v4), some (jmi v5), none, some (jmi v7), some (jmi v8)] [] σ) rfl
  have rr68 : ∀ (k16 : Int → Int → Int → Int → Int → Int → Int → jxS → Option jxR) (h16 : ∀ v1 v2 v3 v4 v5 v6 v7 σ, jRf X (k16 v1 v2 v3 v4 v5 v6 v7 σ) 16 [some (jmr 0), some (jmi v1), some (jmi v2), some (jmi v3), some (jmi v4), some (jmi v5), some (jmi v6), some (jmi v7), none] [] σ) (v1 v2 v3 v4 v5 v6 v7 v8 : Int) (σ : jxS), jRf X (Model_laysOne_c68 F k16 v1 v2 v3 v4 v5 v6 v7 v8 σ) 68 [some (jmr 0), some (jmi v1), some (jmi v2), some (jmi v3), some (jmi v4), some (jmi v5), some (jmi v6), some (jmi v7), some (jmi v8)] [] σ := by
    intro k16 h16 v1 v2 v3 v4 v5 v6 v7 v8 σ
    exact jRf_by (jex_ok hG (cs := [(83, [some (.inr (some 0)), some (.inl 0), some (.inl 0), some (.inl 0), some (.inl 0), some (.inl 0), none, some (.inl 0), some (.inl 0)], [], fun xs σ => match xs with
      | [v1, v2, v3, v4, v5, v7, v8] => Model_laysOne_c83 F k16 v1 v2 v3 v4 v5 v7 v8 σ
      | _ => none), (88, [some (.inr (some 0)), some (.inl 0), some (.inl 0), some (.inl 0), some (.inl 0), some (.inl 0), none, some (.inl 0), some (.inl 0)], [(.inl 0)], fun xs σ => match xs with
      | [v1, v2, v3, v4, v5, v7, v8, t0] => Model_laysOne_c88 F k16 v1 v2 v3 v4 v5 v7 v8 t0 σ
      | _ => none)]) (jcon (jl7 (fun y0 y1 y2 y3 y4 y5 y6 => jl0 (fun σ => rr83 _ h16 y0 y1 y2 y3 y4 y5 y6 σ))) (jcon (jl7 (fun y0 y1 y2 y3 y4 y5 y6 => jl1 (fun y7 => (fun σ => rr88 _ h16 y0 y1 y2 y3 y4 y5 y6 y7 σ)))) jnil)) 148 68 [some (jmr 0), some (jmi v1), some (jmi v2), some (jmi v3), some (jmi v4), some (jmi v5), some (jmi v6), some (jmi v7), some (jmi v8)] [] σ) rfl
  have rr60 : ∀ (k16 : Int → Int → Int → Int → Int → Int → Int → jxS → Option jxR) (h16 : ∀ v1 v2 v3 v4 v5 v6 v7 σ, jRf X (k16 v1 v2 v3 v4 v5 v6 v7 σ) 16 [some (jmr 0), some (jmi v1), some (jmi v2), some (jmi v3), some (jmi v4), some (jmi v5), some (jmi v6), some (jmi v7), none] [] σ) (v1 v3 v4 v5 v6 v7 v8 : Int) (σ : jxS), jRf X (Model_laysOne_c60 F k16 v1 v3 v4 v5 v6 v7 v8 σ) 60 [some (jmr 0), some (jmi v1), none, some (jmi v3), some (jmi v4), some (jmi v5), some (jmi v6), some (jmi v7), some (jmi v8)] [] σ := by
    intro k16 h16 v1 v3 v4 v5 v6 v7 v8 σ
    exact jRf_by (jex_ok hG (cs := [(68, [some (.inr (some 0)), some (.inl 0), some (.inl 0), some (.inl 0), some (.inl 0), some (.inl 0), some (.inl 0), some (.inl 0), some (.inl 0)], [], fun xs σ => match xs with
      | [v1, v2, v3, v4, v5, v6, v7, v8] => Model_laysOne_c68 F k16 v1 v2 v3 v4 v5 v6 v7 v8 σ
      | _ => none)]) (jcon (jl8 (fun y0 y1 y2 y3 y4 y5 y6 y7 => jl0 (fun σ => rr68 _ h16 y0 y1 y2 y3 y4 y5 y6 y7 σ))) jnil) 148 60 [some (jmr 0), some (jmi v1), none, some (jmi v3), some (jmi v4), some (jmi v5), some (jmi v6), some (jmi v7), some (jmi v8)] [] σ) rfl
  have rr16 : ∀ (fu : Nat) (v1 v2 v3 v4 v5 v6 v7 : Int) (σ : jxS), jRf X (Model_laysOne_c16 F fu v1 v2 v3 v4 v5 v6 v7 σ) 16 [some (jmr 0), some (jmi v1), some (jmi v2), some (jmi v3), some (jmi v4), some (jmi v5), some (jmi v6), some (jmi v7), none] [] σ := by
    intro  fu
    induction fu with
    | zero => intros; exact jRf_none
    | succ fu ih =>
      intro v1 v2 v3 v4 v5 v6 v7 σ
      exact jRf_by (jex_ok hG (cs := [(60, [some (.inr (some 0)), some (.inl 0), none, some (.inl 0), some (.inl 0), some (.inl 0), some (.inl 0), some (.inl 0), some (.inl 0)], [], fun xs σ => match xs with
      | [v1, v3, v4, v5, v6, v7, v8] => Model_laysOne_c60 F (Model_laysOne_c16 F fu) v1 v3 v4 v5 v6 v7 v8 σ
      | _ => none), (68, [some (.inr (some 0)), some (.inl 0), some (.inl 0), some (.inl 0), some (.inl 0), some (.inl 0), some (.inl 0), some (.inl 0), some (.inl 0)], [], fun xs σ => match xs with
      | [v1, v2, v3, v4, v5, v6, v7, v8] => Model_laysOne_c68 F (Model_laysOne_c16 F fu) v1 v2 v3 v4 v5 v6 v7 v8 σ
      | _ => none), (179, [some (.inr (some 0)), some (.inl 0), some (.inl 0), some (.inl 0), some (.inl 0), some (.inl 0), some (.inl 0), none, none], [(.inl 0)], fun xs σ => match xs with
      | [v1, v2, v3, v4, v5, v6, t0] => Model_laysOne_c179 F v1 v2 v3 v4 v5 v6 t0 σ
      | _ => none)]) (jcon (jl7 (fun y0 y1 y2 y3 y4 y5 y6 => jl0 (fun σ => rr60 _ ih y0 y1 y2 y3 y4 y5 y6 σ))) (jcon (jl8 (fun y0 y1 y2 y3 y4 y5 y6 y7 => jl0 (fun σ => rr68 _ ih y0 y1 y2 y3 y4 y5 y6 y7 σ))) (jcon (jl6 (fun y0 y1 y2 y3 y4 y5 => jl1 (fun y6 => (fun σ => rr179 y0 y1 y2 y3 y4 y5 y6 σ)))) jnil))) 148 16 [some (jmr 0), some (jmi v1), some (jmi v2), some (jmi v3), some (jmi v4), some (jmi v5), some (jmi v6), some (jmi v7), none] [] σ) rfl
  exact jRf_by (jex_ok hG (cs := [(16, [some (.inr (some 0)), some (.inl 0), some (.inl 0), some (.inl 0), some (.inl 0), some (.inl 0), some (.inl 0), some (.inl 0), none], [], fun xs σ => match xs with
      | [v1, v2, v3, v4, v5, v6, v7] => Model_laysOne_c16 F F v1 v2 v3 v4 v5 v6 v7 σ
      | _ => none)]) (jcon (jl7 (fun y0 y1 y2 y3 y4 y5 y6 => jl0 (fun σ => rr16 F y0 y1 y2 y3 y4 y5 y6 σ))) jnil) 148 0 [some (jmr 0), some (jmi v1), none, none, none, none, none, none, none] [] σ0) rfl
theorem jad_Model_laysOne (F : Nat) (sh : List jxC) (hs : jHas sh jc_M) : jAdV (jca_Model_laysOne F) yX12_laysOne cX12_laysOne 9 0 0 0 1 sh := by
  intro as σ k x σ' h
  unfold jca_Model_laysOne at h
  split at h
  · rename_i t0 v1
    obtain ⟨g0, hh1⟩ := jcond h
    obtain rfl := jbeq g0
    obtain ⟨r, h1, h2⟩ := Option.bind_eq_some_iff.mp hh1
    exact ⟨_, _, h2, ⟨_, _, _, _, _, _, rfl, rfl, (hs _ (jkf_in (l := jc_M) (idx := 0) rfl)).1, rfl⟩, jmet_Model_laysOne F  sh hs σ v1 r.1 r.2 h1⟩
  · cases h
def jtb_Model_laysBack : List (Nat × Instr) := [(0, .aload_n 0), (1, .sipush 256), (4, .invokevirtual 241), (7, .iconst 0), (8, .istore_n 3), (9, .iload_n 3), (10, .aload_n 0), (11, .getfield 75), (14, .iload_n 2), (15, .iaload), (16, .if_icmp .ge 35), (19, .aload_n 0), (20, .getfield 45), (23, .aload_n 0), (24, .getfield 66), (27, .bipush 6), (29, .iload_n 1), (30, .imul), (31, .aload_n 0), (32, .getfield 78), (35, .iconst 3), (36, .iload_n 2), (37, .imul), (38, .iload_n 3), (39, .iadd), (40, .iaload), (41, .iadd), (42, .iaload), (43, .iconst 1), (44, .bastore), (45, .iinc 3 1), (48, .goto (-39)), (51, .iconst 0), (52, .istore_n 3), (53, .iload_n 3), (54, .aload_n 0), (55, .getfield 269), (58, .if_icmp .ge 31), (61, .aload_n 0), (62, .getfield 45), (65, .aload_n 0), (66, .getfield 66), (69, .bipush 6), (71, .aload_n 0), (72, .getfield 72), (75, .iload_n 3), (76, .iaload), (77, .imul), (78, .iload_n 2), (79, .iadd), (80, .iaload), (81, .iconst 1), (82, .bastore), (83, .iinc 3 1), (86, .goto (-33)), (89, .aload_n 0), (90, .getfield 66), (93, .bipush 6), (95, .iload_n 1), (96, .imul), (97, .iload_n 2), (98, .iadd), (99, .aload_n 0), (100, .getfield 269), (103, .aload_n 0), (104, .getfield 75), (107, .iload_n 2), (108, .iaload), (109, .iadd), (110, .ifCond .le 10), (113, .aload_n 0), (114, .invokevirtual 245), (117, .goto 4), (120, .iconst 1), (121, .iastore), (122, .return_)]
theorem jtk_Model_laysBack : jtok cX12_laysBack jtb_Model_laysBack = true := by decide +kernel
set_option maxRecDepth 100000 in
theorem jfl_X12_66 : jFl RX12 66 12 29 := ⟨RX12, TX12, 57, tyX12, rfl, by decide, jin_X12, tyX12_ok, nmX12, jow_X12, (Or.inl (jTB_at 1370 rfl rfl))⟩
set_option maxRecDepth 100000 in
theorem jfl_X12_75 : jFl RX12 75 12 33 := ⟨RX12, TX12, 57, tyX12, rfl, by decide, jin_X12, tyX12_ok, nmX12, jow_X12, (Or.inl (jTB_at 1374 rfl rfl))⟩
set_option maxRecDepth 100000 in
theorem jfl_X12_78 : jFl RX12 78 12 34 := ⟨RX12, TX12, 57, tyX12, rfl, by decide, jin_X12, tyX12_ok, nmX12, jow_X12, (Or.inl (jTB_at 1375 rfl rfl))⟩
def jE_Model_laysBack (F : Nat) : jxE := jmk [(45, 12, 21), (66, 12, 29), (72, 12, 31), (75, 12, 33), (78, 12, 34), (269, 12, 32)] [] [] [(241, (2, false), jca_Model_takesNone F), (245, (1, false), jca_Model_leastFree F)] 0 jc_M
set_option maxRecDepth 100000 in
set_option maxHeartbeats 4000000 in
theorem jmet_Model_laysBack (F : Nat) (sh : List jxC) (hs : jHas sh jc_M) (σ0 : jxS) (v1 : Int) (v2 : Int) (x : Int) (σ' : jxS) (h : Model_laysBack F σ0 v1 v2 = some (x, σ')) : jMC yX12_laysBack cX12_laysBack 4 (jrt 0) 1 22 sh σ0 [(jmr 0), (jmi v1), (jmi v2)] (jrv 0 x) σ' := by
  refine jMC_of (kd := 0) (by decide) rfl h ?_
  intro X hX
  have hG : jGd X (jE_Model_laysBack F) jtb_Model_laysBack := jGd_of hX jtk_Model_laysBack (jcon jfl_X12_45 (jcon jfl_X12_66 (jcon jfl_X12_72 (jcon jfl_X12_75 (jcon jfl_X12_78 (jcon jfl_X12_269 jnil)))))) jnil jnil (jcon (jsV jlk_X12_241 ⟨rfl, rfl⟩ (jad_Model_takesNone F sh hs)) (jcon (jsV jlk_X12_245 ⟨rfl, rfl⟩ (jad_Model_leastFree F sh hs)) jnil)) hs
  have rr53 : ∀ (fu : Nat) (v1 v2 v3 : Int) (σ : jxS), jRf X (Model_laysBack_c53 F fu v1 v2 v3 σ) 53 [some (jmr 0), some (jmi v1), some (jmi v2), some (jmi v3)] [] σ := by
    intro  fu
    induction fu with
    | zero => intros; exact jRf_none
    | succ fu ih =>
      intro v1 v2 v3 σ
      exact jRf_by (jex_ok hG (cs := [(53, [some (.inr (some 0)), some (.inl 0), some (.inl 0), some (.inl 0)], [], fun xs σ => match xs with
      | [v1, v2, v3] => (Model_laysBack_c53 F fu) v1 v2 v3 σ
      | _ => none)]) (jcon (jl3 (fun y0 y1 y2 => jl0 (fun σ => ih y0 y1 y2 σ))) jnil) 79 53 [some (jmr 0), some (jmi v1), some (jmi v2), some (jmi v3)] [] σ) rfl
  have rr9 : ∀ (fu : Nat) (v1 v2 v3 : Int) (σ : jxS), jRf X (Model_laysBack_c9 F fu v1 v2 v3 σ) 9 [some (jmr 0), some (jmi v1), some (jmi v2), some (jmi v3)] [] σ := by
    intro  fu
    induction fu with
    | zero => intros; exact jRf_none
    | succ fu ih =>
      intro v1 v2 v3 σ
      exact jRf_by (jex_ok hG (cs := [(9, [some (.inr (some 0)), some (.inl 0), some (.inl 0), some (.inl 0)], [], fun xs σ => match xs with
      | [v1, v2, v3] => (Model_laysBack_c9 F fu) v1 v2 v3 σ
      | _ => none), (53, [some (.inr (some 0)), some (.inl 0), some (.inl 0), some (.inl 0)], [], fun xs σ => match xs with
      | [v1, v2, v3] => Model_laysBack_c53 F F v1 v2 v3 σ
      | _ => none)]) (jcon (jl3 (fun y0 y1 y2 => jl0 (fun σ => ih y0 y1 y2 σ))) (jcon (jl3 (fun y0 y1 y2 => jl0 (fun σ => rr53 F y0 y1 y2 σ))) jnil)) 79 9 [some (jmr 0), some (jmi v1), some (jmi v2), some (jmi v3)] [] σ) rfl
  exact jRf_by (jex_ok hG (cs := [(9, [some (.inr (some 0)), some (.inl 0), some (.inl 0), some (.inl 0)], [], fun xs σ => match xs with
      | [v1, v2, v3] => Model_laysBack_c9 F F v1 v2 v3 σ
      | _ => none)]) (jcon (jl3 (fun y0 y1 y2 => jl0 (fun σ => rr9 F y0 y1 y2 σ))) jnil) 79 0 [some (jmr 0), some (jmi v1), some (jmi v2), none] [] σ0) rfl
theorem jad_Model_laysBack (F : Nat) (sh : List jxC) (hs : jHas sh jc_M) : jAdV (jca_Model_laysBack F) yX12_laysBack cX12_laysBack 4 0 1 22 2 sh := by
  intro as σ k x σ' h
  unfold jca_Model_laysBack at h
  split at h
  · rename_i t0 v1 v2
    obtain ⟨g0, hh1⟩ := jcond h
    obtain rfl := jbeq g0
    obtain ⟨r, h1, h2⟩ := Option.bind_eq_some_iff.mp hh1
    exact ⟨_, _, h2, ⟨_, _, _, _, _, _, rfl, rfl, (hs _ (jkf_in (l := jc_M) (idx := 0) rfl)).1, rfl⟩, jmet_Model_laysBack F  sh hs σ v1 v2 r.1 r.2 h1⟩
  · cases h
def jtb_Model_laysPositions : List (Nat × Instr) := [(0, .iconst 0), (1, .istore_n 1), (2, .iload_n 1), (3, .aload_n 0), (4, .getfield 251), (7, .if_icmp .ge 47), (10, .aload_n 0), (11, .iload_n 1), (12, .aload_n 0), (13, .getfield 69), (16, .invokevirtual 276), (19, .aload_n 0), (20, .invokevirtual 280), (23, .aload_n 0), (24, .iload_n 1), (25, .invokevirtual 283), (28, .iconst 0), (29, .istore_n 2), (30, .iload_n 2), (31, .bipush 6), (33, .if_icmp .ge 15), (36, .aload_n 0), (37, .iload_n 1), (38, .iload_n 2), (39, .invokevirtual 286), (42, .iinc 2 1), (45, .goto (-15)), (48, .iinc 1 1), (51, .goto (-49)), (54, .return_)]
theorem jtk_Model_laysPositions : jtok cX12_laysPositions jtb_Model_laysPositions = true := by decide +kernel
set_option maxRecDepth 100000 in
theorem jfl_X12_251 : jFl RX12 251 12 24 := ⟨RX12, TX12, 57, tyX12, rfl, by decide, jin_X12, tyX12_ok, nmX12, jow_X12, (Or.inl (jTB_at 1365 rfl rfl))⟩
set_option maxRecDepth 100000 in
theorem jlk_X12_276 : jLkV RX12 276 yX12_laysHeaps cX12_laysHeaps 7 0 2 := ⟨(jTB_at 1610 rfl rfl), (jTB_at 1612 rfl rfl), (jTB_at 67 rfl rfl), (jTB_at 115 rfl rfl), jTB_at 1613 rfl rfl, ⟨by decide, by decide, by decide +kernel⟩⟩
set_option maxRecDepth 100000 in
theorem jlk_X12_280 : jLkV RX12 280 yX12_gathersBehind cX12_gathersBehind 3 0 0 := ⟨(jTB_at 1614 rfl rfl), (jTB_at 1616 rfl rfl), (jTB_at 68 rfl rfl), (jTB_at 115 rfl rfl), jTB_at 1617 rfl rfl, ⟨by decide, by decide, by decide +kernel⟩⟩
set_option maxRecDepth 100000 in
theorem jlk_X12_283 : jLkV RX12 283 yX12_laysOne cX12_laysOne 9 0 1 := ⟨(jTB_at 1635 rfl rfl), (jTB_at 1637 rfl rfl), (jTB_at 71 rfl rfl), (jTB_at 115 rfl rfl), jTB_at 1638 rfl rfl, ⟨by decide, by decide, by decide +kernel⟩⟩
set_option maxRecDepth 100000 in
theorem jlk_X12_286 : jLkV RX12 286 yX12_laysBack cX12_laysBack 4 0 2 := ⟨(jTB_at 1639 rfl rfl), (jTB_at 1641 rfl rfl), (jTB_at 72 rfl rfl), (jTB_at 115 rfl rfl), jTB_at 1642 rfl rfl, ⟨by decide, by decide, by decide +kernel⟩⟩
def jE_Model_laysPositions (F : Nat) : jxE := jmk [(69, 12, 30), (251, 12, 24)] [] [] [(276, (3, false), jca_Model_laysHeaps F), (280, (1, false), jca_Model_gathersBehind F), (283, (2, false), jca_Model_laysOne F), (286, (3, false), jca_Model_laysBack F)] 0 jc_M
set_option maxRecDepth 100000 in
set_option maxHeartbeats 4000000 in
theorem jmet_Model_laysPositions (F : Nat) (sh : List jxC) (hs : jHas sh jc_M) (σ0 : jxS) (x : Int) (σ' : jxS) (h : Model_laysPositions F σ0 = some (x, σ')) : jMC yX12_laysPositions cX12_laysPositions 3 (jrt 0) 4 93 sh σ0 [(jmr 0)] (jrv 0 x) σ' := by
  refine jMC_of (kd := 0) (by decide) rfl h ?_
  intro X hX
  have hG : jGd X (jE_Model_laysPositions F) jtb_Model_laysPositions := jGd_of hX jtk_Model_laysPositions (jcon jfl_X12_69 (jcon jfl_X12_251 jnil)) jnil jnil (jcon (jsV jlk_X12_276 ⟨rfl, rfl⟩ (jad_Model_laysHeaps F sh hs)) (jcon (jsV jlk_X12_280 ⟨rfl, rfl⟩ (jad_Model_gathersBehind F sh hs)) (jcon (jsV jlk_X12_283 ⟨rfl, rfl⟩ (jad_Model_laysOne F sh hs)) (jcon (jsV jlk_X12_286 ⟨rfl, rfl⟩ (jad_Model_laysBack F sh hs)) jnil)))) hs
  have rr30 : ∀ (k2 : Int → jxS → Option jxR) (h2 : ∀ v1 σ, jRf X (k2 v1 σ) 2 [some (jmr 0), some (jmi v1), none] [] σ) (fu : Nat) (v1 v2 : Int) (σ : jxS), jRf X (Model_laysPositions_c30 F k2 fu v1 v2 σ) 30 [some (jmr 0), some (jmi v1), some (jmi v2)] [] σ := by
    intro k2 h2 fu
    induction fu with
    | zero => intros; exact jRf_none
    | succ fu ih =>
      intro v1 v2 σ
      exact jRf_by (jex_ok hG (cs := [(2, [some (.inr (some 0)), some (.inl 0), none], [], fun xs σ => match xs with
      | [v1] => k2 v1 σ
      | _ => none), (30, [some (.inr (some 0)), some (.inl 0), some (.inl 0)], [], fun xs σ => match xs with
      | [v1, v2] => (Model_laysPositions_c30 F k2 fu) v1 v2 σ
      | _ => none)]) (jcon (jl1 (fun y0 => jl0 (fun σ => h2 y0 σ))) (jcon (jl2 (fun y0 y1 => jl0 (fun σ => ih y0 y1 σ))) jnil)) 33 30 [some (jmr 0), some (jmi v1), some (jmi v2)] [] σ) rfl
  have rr2 : ∀ (fu : Nat) (v1 : Int) (σ : jxS), jRf X (Model_laysPositions_c2 F fu v1 σ) 2 [some (jmr 0), some (jmi v1), none] [] σ := by
    intro  fu
    induction fu with
    | zero => intros; exact jRf_none
    | succ fu ih =>
      intro v1 σ
      exact jRf_by (jex_ok hG (cs := [(30, [some (.inr (some 0)), some (.inl 0), some (.inl 0)], [], fun xs σ => match xs with
      | [v1, v2] => Model_laysPositions_c30 F (Model_laysPositions_c2 F fu) F v1 v2 σ
      | _ => none)]) (jcon (jl2 (fun y0 y1 => jl0 (fun σ => rr30 _ ih F y0 y1 σ))) jnil) 33 2 [some (jmr 0), some (jmi v1), none] [] σ) rfl
  exact jRf_by (jex_ok hG (cs := [(2, [some (.inr (some 0)), some (.inl 0), none], [], fun xs σ => match xs with
      | [v1] => Model_laysPositions_c2 F F v1 σ
      | _ => none)]) (jcon (jl1 (fun y0 => jl0 (fun σ => rr2 F y0 σ))) jnil) 33 0 [some (jmr 0), none, none] [] σ0) rfl
theorem jad_Model_laysPositions (F : Nat) (sh : List jxC) (hs : jHas sh jc_M) : jAdV (jca_Model_laysPositions F) yX12_laysPositions cX12_laysPositions 3 0 4 93 0 sh := by
  intro as σ k x σ' h
  unfold jca_Model_laysPositions at h
  split at h
  · rename_i t0
    obtain ⟨g0, hh1⟩ := jcond h
    obtain rfl := jbeq g0
    obtain ⟨r, h1, h2⟩ := Option.bind_eq_some_iff.mp hh1
    exact ⟨_, _, h2, ⟨_, _, _, _, _, _, rfl, rfl, (hs _ (jkf_in (l := jc_M) (idx := 0) rfl)).1, rfl⟩, jmet_Model_laysPositions F  sh hs σ  r.1 r.2 h1⟩
  · cases h
def jtb_Model_game : List (Nat × Instr) := [(0, .aload_n 0), (1, .invokevirtual 209), (4, .istore_n 1), (5, .aload_n 0), (6, .iconst 0), (7, .putfield 139), (10, .iload_n 1), (11, .ifCond .ne 11), (14, .bipush (-2)), (16, .aload_n 0), (17, .getfield 147), (20, .isub), (21, .ireturn), (22, .aload_n 0), (23, .iconst 1), (24, .putfield 212), (27, .aload_n 0), (28, .aload_n 0), (29, .getfield 178), (32, .putfield 216), (35, .aload_n 0), (36, .aload_n 0), (37, .getfield 190), (40, .putfield 219), (43, .iconst 0), (44, .istore_n 2), (45, .iload_n 2), (46, .bipush 8), (48, .if_icmp .ge 21), (51, .aload_n 0), (52, .getfield 27), (55, .iload_n 2), (56, .aload_n 0), (57, .getfield 16), (60, .iload_n 2), (61, .iaload), (62, .iastore), (63, .iinc 2 1), (66, .goto (-21)), (69, .iconst 0), (70, .istore_n 2), (71, .iload_n 2), (72, .sipush 2197), (75, .if_icmp .ge 21), (78, .aload_n 0), (79, .getfield 30), (82, .iload_n 2), (83, .aload_n 0), (84, .getfield 20), (87, .iload_n 2), (88, .baload), (89, .bastore), (90, .iinc 2 1), (93, .goto (-22)), (96, .iconst 0), (97, .istore_n 2), (98, .iload_n 2), (99, .bipush 117), (101, .if_icmp .ge 21), (104, .aload_n 0), (105, .getfield 33), (108, .iload_n 2), (109, .aload_n 0), (110, .getfield 24), (113, .iload_n 2), (114, .baload), (115, .bastore), (116, .iinc 2 1), (119, .goto (-21)), (122, .iconst 0), (123, .istore_n 2), (124, .iload_n 2), (125, .bipush 13), (127, .if_icmp .ge 16), (130, .aload_n 0), (131, .getfield 81), (134, .iload_n 2), (135, .iconst 0), (136, .iastore), (137, .iinc 2 1), (140, .goto (-16)), (143, .aload_n 0), (144, .iconst 0), (145, .putfield 222), (148, .aload_n 0), (149, .iconst 0), (150, .putfield 225), (153, .aload_n 0), (154, .invokevirtual 228), (157, .aload_n 0), (158, .invokevirtual 231), (161, .iconst 1), (162, .istore_n 2), (163, .iload_n 2), (164, .bipush 6), (166, .if_icmp .gt 16), (169, .aload_n 0), (170, .getfield 99), (173, .iload_n 2), (174, .iconst 0), (175, .bastore), (176, .iinc 2 1), (179, .goto (-16)), (182, .aload_n 0), (183, .getfield 203), (186, .ireturn)]
theorem jtk_Model_game : jtok cX12_game jtb_Model_game = true := by decide +kernel
set_option maxRecDepth 100000 in
theorem jfl_X12_81 : jFl RX12 81 12 35 := ⟨RX12, TX12, 57, tyX12, rfl, by decide, jin_X12, tyX12_ok, nmX12, jow_X12, (Or.inl (jTB_at 1376 rfl rfl))⟩
set_option maxRecDepth 100000 in
theorem jfl_X12_99 : jFl RX12 99 12 45 := ⟨RX12, TX12, 57, tyX12, rfl, by decide, jin_X12, tyX12_ok, nmX12, jow_X12, (Or.inl (jTB_at 1386 rfl rfl))⟩
set_option maxRecDepth 100000 in
theorem jfl_X12_212 : jFl RX12 212 12 13 := ⟨RX12, TX12, 57, tyX12, rfl, by decide, jin_X12, tyX12_ok, nmX12, jow_X12, (Or.inl (jTB_at 1354 rfl rfl))⟩
set_option maxRecDepth 100000 in
theorem jfl_X12_222 : jFl RX12 222 12 40 := ⟨RX12, TX12, 57, tyX12, rfl, by decide, jin_X12, tyX12_ok, nmX12, jow_X12, (Or.inl (jTB_at 1381 rfl rfl))⟩
set_option maxRecDepth 100000 in
theorem jfl_X12_225 : jFl RX12 225 12 37 := ⟨RX12, TX12, 57, tyX12, rfl, by decide, jin_X12, tyX12_ok, nmX12, jow_X12, (Or.inl (jTB_at 1378 rfl rfl))⟩
set_option maxRecDepth 100000 in
theorem jlk_X12_209 : jLkV RX12 209 yX12_readsAll cX12_readsAll 2 4 0 := ⟨(jTB_at 1529 rfl rfl), (jTB_at 1531 rfl rfl), (jTB_at 49 rfl rfl), (jTB_at 115 rfl rfl), jTB_at 1532 rfl rfl, ⟨by decide, by decide, by decide +kernel⟩⟩
set_option maxRecDepth 100000 in
theorem jlk_X12_228 : jLkV RX12 228 yX12_laysMoves cX12_laysMoves 4 0 0 := ⟨(jTB_at 1583 rfl rfl), (jTB_at 1585 rfl rfl), (jTB_at 61 rfl rfl), (jTB_at 115 rfl rfl), jTB_at 1586 rfl rfl, ⟨by decide, by decide, by decide +kernel⟩⟩
set_option maxRecDepth 100000 in
theorem jlk_X12_231 : jLkV RX12 231 yX12_laysPositions cX12_laysPositions 3 0 0 := ⟨(jTB_at 1606 rfl rfl), (jTB_at 1608 rfl rfl), (jTB_at 66 rfl rfl), (jTB_at 115 rfl rfl), jTB_at 1609 rfl rfl, ⟨by decide, by decide, by decide +kernel⟩⟩
def jE_Model_game (F : Nat) : jxE := jmk [(16, 12, 8), (20, 12, 9), (24, 12, 10), (27, 12, 14), (30, 12, 15), (33, 12, 16), (81, 12, 35), (99, 12, 45), (139, 12, 1), (147, 12, 3), (178, 12, 6), (190, 12, 7), (203, 12, 17), (212, 12, 13), (216, 12, 11), (219, 12, 12), (222, 12, 40), (225, 12, 37)] [] [] [(209, (1, false), jca_Model_readsAll F), (228, (1, false), jca_Model_laysMoves F), (231, (1, false), jca_Model_laysPositions F)] 1 jc_M
set_option maxRecDepth 100000 in
set_option maxHeartbeats 4000000 in
theorem jmet_Model_game (F : Nat) (sh : List jxC) (hs : jHas sh jc_M) (σ0 : jxS) (x : Int) (σ' : jxS) (h : Model_game F σ0 = some (x, σ')) : jMC yX12_game cX12_game 3 (jrt 1) 6 130 sh σ0 [(jmr 0)] (jrv 1 x) σ' := by
  refine jMC_of (kd := 1) (by decide) rfl h ?_
  intro X hX
  have hG : jGd X (jE_Model_game F) jtb_Model_game := jGd_of hX jtk_Model_game (jcon jfl_X12_16 (jcon jfl_X12_20 (jcon jfl_X12_24 (jcon jfl_X12_27 (jcon jfl_X12_30 (jcon jfl_X12_33 (jcon jfl_X12_81 (jcon jfl_X12_99 (jcon jfl_X12_139 (jcon jfl_X12_147 (jcon jfl_X12_178 (jcon jfl_X12_190 (jcon jfl_X12_203 (jcon jfl_X12_212 (jcon jfl_X12_216 (jcon jfl_X12_219 (jcon jfl_X12_222 (jcon jfl_X12_225 jnil)))))))))))))))))) jnil jnil (jcon (jsV jlk_X12_209 ⟨rfl, rfl⟩ (jad_Model_readsAll F sh hs)) (jcon (jsV jlk_X12_228 ⟨rfl, rfl⟩ (jad_Model_laysMoves F sh hs)) (jcon (jsV jlk_X12_231 ⟨rfl, rfl⟩ (jad_Model_laysPositions F sh hs)) jnil))) hs
  have rr163 : ∀ (fu : Nat) (v2 : Int) (σ : jxS), jRf X (Model_game_c163 F fu v2 σ) 163 [some (jmr 0), none, some (jmi v2)] [] σ := by
    intro  fu
    induction fu with
    | zero => intros; exact jRf_none
    | succ fu ih =>
      intro v2 σ
      exact jRf_by (jex_ok hG (cs := [(163, [some (.inr (some 0)), none, some (.inl 0)], [], fun xs σ => match xs with
      | [v2] => (Model_game_c163 F fu) v2 σ
      | _ => none)]) (jcon (jl1 (fun y0 => jl0 (fun σ => ih y0 σ))) jnil) 109 163 [some (jmr 0), none, some (jmi v2)] [] σ) rfl
  have rr124 : ∀ (fu : Nat) (v2 : Int) (σ : jxS), jRf X (Model_game_c124 F fu v2 σ) 124 [some (jmr 0), none, some (jmi v2)] [] σ := by
    intro  fu
    induction fu with
    | zero => intros; exact jRf_none
    | succ fu ih =>
      intro v2 σ
      exact jRf_by (jex_ok hG (cs := [(124, [some (.inr (some 0)), none, some (.inl 0)], [], fun xs σ => match xs with
      | [v2] => (Model_game_c124 F fu) v2 σ
      | _ => none), (163, [some (.inr (some 0)), none, some (.inl 0)], [], fun xs σ => match xs with
      | [v2] => Model_game_c163 F F v2 σ
      | _ => none)]) (jcon (jl1 (fun y0 => jl0 (fun σ => ih y0 σ))) (jcon (jl1 (fun y0 => jl0 (fun σ => rr163 F y0 σ))) jnil)) 109 124 [some (jmr 0), none, some (jmi v2)] [] σ) rfl
  have rr98 : ∀ (fu : Nat) (v2 : Int) (σ : jxS), jRf X (Model_game_c98 F fu v2 σ) 98 [some (jmr 0), none, some (jmi v2)] [] σ := by
    intro  fu
    induction fu with
    | zero => intros; exact jRf_none
    | succ fu ih =>
      intro v2 σ
      exact jRf_by (jex_ok hG (cs := [(98, [some (.inr (some 0)), none, some (.inl 0)], [], fun xs σ => match xs with
      | [v2] => (Model_game_c98 F fu) v2 σ
      | _ => none), (124, [some (.inr (some 0)), none, some (.inl 0)], [], fun xs σ => match xs with
      | [v2] => Model_game_c124 F F v2 σ
      | _ => none)]) (jcon (jl1 (fun y0 => jl0 (fun σ => ih y0 σ))) (jcon (jl1 (fun y0 => jl0 (fun σ => rr124 F y0 σ))) jnil)) 109 98 [some (jmr 0), none, some (jmi v2)] [] σ) rfl
  have rr71 : ∀ (fu : Nat) (v2 : Int) (σ : jxS), jRf X (Model_game_c71 F fu v2 σ) 71 [some (jmr 0), none, some (jmi v2)] [] σ := by
    intro  fu
    induction fu with
    | zero => intros; exact jRf_none
    | succ fu ih =>
      intro v2 σ
      exact jRf_by (jex_ok hG (cs := [(71, [some (.inr (some 0)), none, some (.inl 0)], [], fun xs σ => match xs with
      | [v2] => (Model_game_c71 F fu) v2 σ
      | _ => none), (98, [some (.inr (some 0)), none, some (.inl 0)], [], fun xs σ => match xs with
      | [v2] => Model_game_c98 F F v2 σ
      | _ => none)]) (jcon (jl1 (fun y0 => jl0 (fun σ => ih y0 σ))) (jcon (jl1 (fun y0 => jl0 (fun σ => rr98 F y0 σ))) jnil)) 109 71 [some (jmr 0), none, some (jmi v2)] [] σ) rfl
  have rr45 : ∀ (fu : Nat) (v2 : Int) (σ : jxS), jRf X (Model_game_c45 F fu v2 σ) 45 [some (jmr 0), none, some (jmi v2)] [] σ := by
    intro  fu
    induction fu with
    | zero => intros; exact jRf_none
    | succ fu ih =>
      intro v2 σ
      exact jRf_by (jex_ok hG (cs := [(45, [some (.inr (some 0)), none, some (.inl 0)], [], fun xs σ => match xs with
      | [v2] => (Model_game_c45 F fu) v2 σ
      | _ => none), (71, [some (.inr (some 0)), none, some (.inl 0)], [], fun xs σ => match xs with
      | [v2] => Model_game_c71 F F v2 σ
      | _ => none)]) (jcon (jl1 (fun y0 => jl0 (fun σ => ih y0 σ))) (jcon (jl1 (fun y0 => jl0 (fun σ => rr71 F y0 σ))) jnil)) 109 45 [some (jmr 0), none, some (jmi v2)] [] σ) rfl
  exact jRf_by (jex_ok hG (cs := [(45, [some (.inr (some 0)), none, some (.inl 0)], [], fun xs σ => match xs with
      | [v2] => Model_game_c45 F F v2 σ
      | _ => none)]) (jcon (jl1 (fun y0 => jl0 (fun σ => rr45 F y0 σ))) jnil) 109 0 [some (jmr 0), none, none] [] σ0) rfl
theorem jad_Model_game (F : Nat) (sh : List jxC) (hs : jHas sh jc_M) : jAdV (jca_Model_game F) yX12_game cX12_game 3 1 6 130 0 sh := by
  intro as σ k x σ' h
  unfold jca_Model_game at h
  split at h
  · rename_i t0
    obtain ⟨g0, hh1⟩ := jcond h
    obtain rfl := jbeq g0
    obtain ⟨r, h1, h2⟩ := Option.bind_eq_some_iff.mp hh1
    exact ⟨_, _, h2, ⟨_, _, _, _, _, _, rfl, rfl, (hs _ (jkf_in (l := jc_M) (idx := 0) rfl)).1, rfl⟩, jmet_Model_game F  sh hs σ  r.1 r.2 h1⟩
  · cases h
def jtb_Model_isHeap : List (Nat × Instr) := [(0, .aload_n 0), (1, .getfield 212), (4, .ifCond .eq 19), (7, .iload_n 1), (8, .i2l), (9, .lconst 1), (10, .ldc2_w 304), (13, .invokestatic 143), (16, .ifCond .eq 7), (19, .iconst 1), (20, .goto 4), (23, .iconst 0), (24, .ireturn)]
theorem jtk_Model_isHeap : jtok cX12_isHeap jtb_Model_isHeap = true := by decide +kernel
def jE_Model_isHeap (F : Nat) : jxE := jmk [(212, 12, 13)] [(304, jml 12)] [] [(143, (3, true), jca_Model_isIn F)] 4 jc_M
set_option maxRecDepth 100000 in
set_option maxHeartbeats 4000000 in
theorem jmet_Model_isHeap (F : Nat) (sh : List jxC) (hs : jHas sh jc_M) (σ0 : jxS) (v1 : Int) (x : Int) (σ' : jxS) (h : Model_isHeap F σ0 v1 = some (x, σ')) : jMC yX12_isHeap cX12_isHeap 2 (jrt 4) 1 25 sh σ0 [(jmr 0), (jmi v1)] (jrv 4 x) σ' := by
  refine jMC_of (kd := 4) (by decide) rfl h ?_
  intro X hX
  have hG : jGd X (jE_Model_isHeap F) jtb_Model_isHeap := jGd_of hX jtk_Model_isHeap (jcon jfl_X12_212 jnil) (jcon (jTB_at 1651 rfl rfl) jnil) jnil (jcon (jsS jlk_X12_143 ⟨rfl, rfl⟩ (jad_Model_isIn F sh hs)) jnil) hs
  exact jRf_by (jex_ok hG (cs := []) jnil 16 0 [some (jmr 0), some (jmi v1)] [] σ0) rfl
theorem jad_Model_isHeap (F : Nat) (sh : List jxC) (hs : jHas sh jc_M) : jAdV (jca_Model_isHeap F) yX12_isHeap cX12_isHeap 2 4 1 25 1 sh := by
  intro as σ k x σ' h
  unfold jca_Model_isHeap at h
  split at h
  · rename_i t0 v1
    obtain ⟨g0, hh1⟩ := jcond h
    obtain rfl := jbeq g0
    obtain ⟨r, h1, h2⟩ := Option.bind_eq_some_iff.mp hh1
    exact ⟨_, _, h2, ⟨_, _, _, _, _, _, rfl, rfl, (hs _ (jkf_in (l := jc_M) (idx := 0) rfl)).1, rfl⟩, jmet_Model_isHeap F  sh hs σ v1 r.1 r.2 h1⟩
  · cases h
def jtb_Model_moves : List (Nat × Instr) := [(0, .aload_n 0), (1, .iload_n 1), (2, .invokevirtual 306), (5, .ifCond .eq 12), (8, .aload_n 0), (9, .getfield 39), (12, .iload_n 1), (13, .iaload), (14, .goto 4), (17, .iconst (-1)), (18, .ireturn)]
theorem jtk_Model_moves : jtok cX12_moves jtb_Model_moves = true := by decide +kernel
set_option maxRecDepth 100000 in
theorem jlk_X12_306 : jLkV RX12 306 yX12_isHeap cX12_isHeap 2 4 1 := ⟨(jTB_at 1647 rfl rfl), (jTB_at 1649 rfl rfl), (jTB_at 73 rfl rfl), (jTB_at 115 rfl rfl), jTB_at 1650 rfl rfl, ⟨by decide, by decide, by decide +kernel⟩⟩
def jE_Model_moves (F : Nat) : jxE := jmk [(39, 12, 19)] [] [] [(306, (2, false), jca_Model_isHeap F)] 1 jc_M
set_option maxRecDepth 100000 in
set_option maxHeartbeats 4000000 in
theorem jmet_Model_moves (F : Nat) (sh : List jxC) (hs : jHas sh jc_M) (σ0 : jxS) (v1 : Int) (x : Int) (σ' : jxS) (h : Model_moves F σ0 v1 = some (x, σ')) : jMC yX12_moves cX12_moves 2 (jrt 1) 2 46 sh σ0 [(jmr 0), (jmi v1)] (jrv 1 x) σ' := by
  refine jMC_of (kd := 1) (by decide) rfl h ?_
  intro X hX
  have hG : jGd X (jE_Model_moves F) jtb_Model_moves := jGd_of hX jtk_Model_moves (jcon jfl_X12_39 jnil) jnil jnil (jcon (jsV jlk_X12_306 ⟨rfl, rfl⟩ (jad_Model_isHeap F sh hs)) jnil) hs
  exact jRf_by (jex_ok hG (cs := []) jnil 14 0 [some (jmr 0), some (jmi v1)] [] σ0) rfl
theorem jad_Model_moves (F : Nat) (sh : List jxC) (hs : jHas sh jc_M) : jAdV (jca_Model_moves F) yX12_moves cX12_moves 2 1 2 46 1 sh := by
  intro as σ k x σ' h
  unfold jca_Model_moves at h
  split at h
  · rename_i t0 v1
    obtain ⟨g0, hh1⟩ := jcond h
    obtain rfl := jbeq g0
    obtain ⟨r, h1, h2⟩ := Option.bind_eq_some_iff.mp hh1
    exact ⟨_, _, h2, ⟨_, _, _, _, _, _, rfl, rfl, (hs _ (jkf_in (l := jc_M) (idx := 0) rfl)).1, rfl⟩, jmet_Model_moves F  sh hs σ v1 r.1 r.2 h1⟩
  · cases h
def jtb_Model_option : List (Nat × Instr) := [(0, .aload_n 0), (1, .iload_n 1), (2, .invokevirtual 306), (5, .ifCond .eq 31), (8, .iload_n 2), (9, .i2l), (10, .lconst 0), (11, .aload_n 0), (12, .getfield 39), (15, .iload_n 1), (16, .iaload), (17, .iconst 1), (18, .isub), (19, .i2l), (20, .invokestatic 143), (23, .ifCond .eq 13), (26, .iload_n 3), (27, .i2l), (28, .lconst 0), (29, .lconst 1), (30, .invokestatic 143), (33, .ifCond .ne 5), (36, .iconst (-1)), (37, .ireturn), (38, .iload_n 3), (39, .ifCond .ne 20), (42, .aload_n 0), (43, .getfield 36), (46, .bipush 64), (48, .iload_n 1), (49, .imul), (50, .iload_n 2), (51, .iadd), (52, .iaload), (53, .bipush 13), (55, .idiv), (56, .goto 17), (59, .aload_n 0), (60, .getfield 36), (63, .bipush 64), (65, .iload_n 1), (66, .imul), (67, .iload_n 2), (68, .iadd), (69, .iaload), (70, .bipush 13), (72, .irem), (73, .ireturn)]
theorem jtk_Model_option : jtok cX12_option jtb_Model_option = true := by decide +kernel
def jE_Model_option (F : Nat) : jxE := jmk [(36, 12, 18), (39, 12, 19)] [] [] [(143, (3, true), jca_Model_isIn F), (306, (2, false), jca_Model_isHeap F)] 1 jc_M
set_option maxRecDepth 100000 in
set_option maxHeartbeats 4000000 in
theorem jmet_Model_option (F : Nat) (sh : List jxC) (hs : jHas sh jc_M) (σ0 : jxS) (v1 : Int) (v2 : Int) (v3 : Int) (x : Int) (σ' : jxS) (h : Model_option F σ0 v1 v2 v3 = some (x, σ')) : jMC yX12_option cX12_option 4 (jrt 1) 2 46 sh σ0 [(jmr 0), (jmi v1), (jmi v2), (jmi v3)] (jrv 1 x) σ' := by
  refine jMC_of (kd := 1) (by decide) rfl h ?_
  intro X hX
  have hG : jGd X (jE_Model_option F) jtb_Model_option := jGd_of hX jtk_Model_option (jcon jfl_X12_36 (jcon jfl_X12_39 jnil)) jnil jnil (jcon (jsS jlk_X12_143 ⟨rfl, rfl⟩ (jad_Model_isIn F sh hs)) (jcon (jsV jlk_X12_306 ⟨rfl, rfl⟩ (jad_Model_isHeap F sh hs)) jnil)) hs
  exact jRf_by (jex_ok hG (cs := []) jnil 51 0 [some (jmr 0), some (jmi v1), some (jmi v2), some (jmi v3)] [] σ0) rfl
theorem jad_Model_option (F : Nat) (sh : List jxC) (hs : jHas sh jc_M) : jAdV (jca_Model_option F) yX12_option cX12_option 4 1 2 46 3 sh := by
  intro as σ k x σ' h
  unfold jca_Model_option at h
  split at h
  · rename_i t0 v1 v2 v3
    obtain ⟨g0, hh1⟩ := jcond h
    obtain rfl := jbeq g0
    obtain ⟨r, h1, h2⟩ := Option.bind_eq_some_iff.mp hh1
    exact ⟨_, _, h2, ⟨_, _, _, _, _, _, rfl, rfl, (hs _ (jkf_in (l := jc_M) (idx := 0) rfl)).1, rfl⟩, jmet_Model_option F  sh hs σ v1 v2 v3 r.1 r.2 h1⟩
  · cases h
def jtb_Model_nimber : List (Nat × Instr) := [(0, .aload_n 0), (1, .iload_n 1), (2, .invokevirtual 306), (5, .ifCond .eq 12), (8, .aload_n 0), (9, .getfield 42), (12, .iload_n 1), (13, .iaload), (14, .goto 4), (17, .iconst (-1)), (18, .ireturn)]
theorem jtk_Model_nimber : jtok cX12_nimber jtb_Model_nimber = true := by decide +kernel
def jE_Model_nimber (F : Nat) : jxE := jmk [(42, 12, 20)] [] [] [(306, (2, false), jca_Model_isHeap F)] 1 jc_M
set_option maxRecDepth 100000 in
set_option maxHeartbeats 4000000 in
theorem jmet_Model_nimber (F : Nat) (sh : List jxC) (hs : jHas sh jc_M) (σ0 : jxS) (v1 : Int) (x : Int) (σ' : jxS) (h : Model_nimber F σ0 v1 = some (x, σ')) : jMC yX12_nimber cX12_nimber 2 (jrt 1) 2 46 sh σ0 [(jmr 0), (jmi v1)] (jrv 1 x) σ' := by
  refine jMC_of (kd := 1) (by decide) rfl h ?_
  intro X hX
  have hG : jGd X (jE_Model_nimber F) jtb_Model_nimber := jGd_of hX jtk_Model_nimber (jcon jfl_X12_42 jnil) jnil jnil (jcon (jsV jlk_X12_306 ⟨rfl, rfl⟩ (jad_Model_isHeap F sh hs)) jnil) hs
  exact jRf_by (jex_ok hG (cs := []) jnil 14 0 [some (jmr 0), some (jmi v1)] [] σ0) rfl
theorem jad_Model_nimber (F : Nat) (sh : List jxC) (hs : jHas sh jc_M) : jAdV (jca_Model_nimber F) yX12_nimber cX12_nimber 2 1 2 46 1 sh := by
  intro as σ k x σ' h
  unfold jca_Model_nimber at h
  split at h
  · rename_i t0 v1
    obtain ⟨g0, hh1⟩ := jcond h
    obtain rfl := jbeq g0
    obtain ⟨r, h1, h2⟩ := Option.bind_eq_some_iff.mp hh1
    exact ⟨_, _, h2, ⟨_, _, _, _, _, _, rfl, rfl, (hs _ (jkf_in (l := jc_M) (idx := 0) rfl)).1, rfl⟩, jmet_Model_nimber F  sh hs σ v1 r.1 r.2 h1⟩
  · cases h
def jtb_Model_isPeriod : List (Nat × Instr) := [(0, .iload_n 2), (1, .istore_n 3), (2, .iload_n 3), (3, .iconst 2), (4, .iload_n 2), (5, .imul), (6, .iload_n 1), (7, .iadd), (8, .aload_n 0), (9, .getfield 216), (12, .iadd), (13, .if_icmp .ge 28), (16, .aload_n 0), (17, .getfield 42), (20, .iload_n 3), (21, .iload_n 1), (22, .iadd), (23, .iaload), (24, .aload_n 0), (25, .getfield 42), (28, .iload_n 3), (29, .iaload), (30, .if_icmp .eq 5), (33, .iconst 0), (34, .ireturn), (35, .iinc 3 1), (38, .goto (-36)), (41, .iconst 1), (42, .ireturn)]
theorem jtk_Model_isPeriod : jtok cX12_isPeriod jtb_Model_isPeriod = true := by decide +kernel
def jE_Model_isPeriod (F : Nat) : jxE := jmk [(42, 12, 20), (216, 12, 11)] [] [] [] 4 jc_M
set_option maxRecDepth 100000 in
set_option maxHeartbeats 4000000 in
theorem jmet_Model_isPeriod (F : Nat) (sh : List jxC) (hs : jHas sh jc_M) (σ0 : jxS) (v1 : Int) (v2 : Int) (x : Int) (σ' : jxS) (h : Model_isPeriod F σ0 v1 v2 = some (x, σ')) : jMC yX12_isPeriod cX12_isPeriod 4 (jrt 4) 0 0 sh σ0 [(jmr 0), (jmi v1), (jmi v2)] (jrv 4 x) σ' := by
  refine jMC_of (kd := 4) (by decide) rfl h ?_
  intro X hX
  have hG : jGd X (jE_Model_isPeriod F) jtb_Model_isPeriod := jGd_of hX jtk_Model_isPeriod (jcon jfl_X12_42 (jcon jfl_X12_216 jnil)) jnil jnil jnil hs
  have rr2 : ∀ (fu : Nat) (v1 v2 v3 : Int) (σ : jxS), jRf X (Model_isPeriod_c2 F fu v1 v2 v3 σ) 2 [some (jmr 0), some (jmi v1), some (jmi v2), some (jmi v3)] [] σ := by
    intro  fu
    induction fu with
    | zero => intros; exact jRf_none
    | succ fu ih =>
      intro v1 v2 v3 σ
      exact jRf_by (jex_ok hG (cs := [(2, [some (.inr (some 0)), some (.inl 0), some (.inl 0), some (.inl 0)], [], fun xs σ => match xs with
      | [v1, v2, v3] => (Model_isPeriod_c2 F fu) v1 v2 v3 σ
      | _ => none)]) (jcon (jl3 (fun y0 y1 y2 => jl0 (fun σ => ih y0 y1 y2 σ))) jnil) 32 2 [some (jmr 0), some (jmi v1), some (jmi v2), some (jmi v3)] [] σ) rfl
  exact jRf_by (jex_ok hG (cs := [(2, [some (.inr (some 0)), some (.inl 0), some (.inl 0), some (.inl 0)], [], fun xs σ => match xs with
      | [v1, v2, v3] => Model_isPeriod_c2 F F v1 v2 v3 σ
      | _ => none)]) (jcon (jl3 (fun y0 y1 y2 => jl0 (fun σ => rr2 F y0 y1 y2 σ))) jnil) 32 0 [some (jmr 0), some (jmi v1), some (jmi v2), none] [] σ0) rfl
theorem jad_Model_isPeriod (F : Nat) (sh : List jxC) (hs : jHas sh jc_M) : jAdV (jca_Model_isPeriod F) yX12_isPeriod cX12_isPeriod 4 4 0 0 2 sh := by
  intro as σ k x σ' h
  unfold jca_Model_isPeriod at h
  split at h
  · rename_i t0 v1 v2
    obtain ⟨g0, hh1⟩ := jcond h
    obtain rfl := jbeq g0
    obtain ⟨r, h1, h2⟩ := Option.bind_eq_some_iff.mp hh1
    exact ⟨_, _, h2, ⟨_, _, _, _, _, _, rfl, rfl, (hs _ (jkf_in (l := jc_M) (idx := 0) rfl)).1, rfl⟩, jmet_Model_isPeriod F  sh hs σ v1 v2 r.1 r.2 h1⟩
  · cases h
def jtb_Model_period : List (Nat × Instr) := [(0, .aload_n 0), (1, .getfield 212), (4, .ifCond .eq 13), (7, .iload_n 1), (8, .i2l), (9, .lconst 0), (10, .lconst 1), (11, .invokestatic 143), (14, .ifCond .ne 5), (17, .iconst (-1)), (18, .ireturn), (19, .aload_n 0), (20, .getfield 219), (23, .ifCond .le 6), (26, .bipush (-3)), (28, .ireturn), (29, .iconst 1), (30, .istore_n 2), (31, .iconst 2), (32, .iconst 2), (33, .iload_n 2), (34, .imul), (35, .iadd), (36, .aload_n 0), (37, .getfield 216), (40, .iadd), (41, .sipush 160), (44, .if_icmp .gt 54), (47, .iconst 1), (48, .istore_n 3), (49, .iconst 2), (50, .iload_n 3), (51, .imul), (52, .iconst 2), (53, .iload_n 2), (54, .imul), (55, .iadd), (56, .aload_n 0), (57, .getfield 216), (60, .iadd), (61, .sipush 160), (64, .if_icmp .gt 28), (67, .aload_n 0), (68, .iload_n 2), (69, .iload_n 3), (70, .invokevirtual 309), (73, .ifCond .eq 13), (76, .iload_n 1), (77, .ifCond .ne 7), (80, .iload_n 2), (81, .goto 4), (84, .iload_n 3), (85, .ireturn), (86, .iinc 3 1), (89, .goto (-40)), (92, .iinc 2 1), (95, .goto (-64)), (98, .bipush (-2)), (100, .ireturn)]
theorem jtk_Model_period : jtok cX12_period jtb_Model_period = true := by decide +kernel
set_option maxRecDepth 100000 in
theorem jlk_X12_309 : jLkV RX12 309 yX12_isPeriod cX12_isPeriod 4 4 2 := ⟨(jTB_at 1664 rfl rfl), (jTB_at 1666 rfl rfl), (jTB_at 74 rfl rfl), (jTB_at 115 rfl rfl), jTB_at 1667 rfl rfl, ⟨by decide, by decide, by decide +kernel⟩⟩
def jE_Model_period (F : Nat) : jxE := jmk [(212, 12, 13), (216, 12, 11), (219, 12, 12)] [] [] [(143, (3, true), jca_Model_isIn F), (309, (3, false), jca_Model_isPeriod F)] 1 jc_M
set_option maxRecDepth 100000 in
set_option maxHeartbeats 4000000 in
theorem jmet_Model_period (F : Nat) (sh : List jxC) (hs : jHas sh jc_M) (σ0 : jxS) (v1 : Int) (x : Int) (σ' : jxS) (h : Model_period F σ0 v1 = some (x, σ')) : jMC yX12_period cX12_period 4 (jrt 1) 1 25 sh σ0 [(jmr 0), (jmi v1)] (jrv 1 x) σ' := by
  refine jMC_of (kd := 1) (by decide) rfl h ?_
  intro X hX
  have hG : jGd X (jE_Model_period F) jtb_Model_period := jGd_of hX jtk_Model_period (jcon jfl_X12_212 (jcon jfl_X12_216 (jcon jfl_X12_219 jnil))) jnil jnil (jcon (jsS jlk_X12_143 ⟨rfl, rfl⟩ (jad_Model_isIn F sh hs)) (jcon (jsV jlk_X12_309 ⟨rfl, rfl⟩ (jad_Model_isPeriod F sh hs)) jnil)) hs
  have rr49 : ∀ (k31 : Int → Int → jxS → Option jxR) (h31 : ∀ v1 v2 σ, jRf X (k31 v1 v2 σ) 31 [some (jmr 0), some (jmi v1), some (jmi v2), none] [] σ) (fu : Nat) (v1 v2 v3 : Int) (σ : jxS), jRf X (Model_period_c49 F k31 fu v1 v2 v3 σ) 49 [some (jmr 0), some (jmi v1), some (jmi v2), some (jmi v3)] [] σ := by
    intro k31 h31 fu
    induction fu with
    | zero => intros; exact jRf_none
    | succ fu ih =>
      intro v1 v2 v3 σ
      exact jRf_by (jex_ok hG (cs := [(31, [some (.inr (some 0)), some (.inl 0), some (.inl 0), none], [], fun xs σ => match xs with
      | [v1, v2] => k31 v1 v2 σ
      | _ => none), (49, [some (.inr (some 0)), some (.inl 0), some (.inl 0), some (.inl 0)], [], fun xs σ => match xs with
      | [v1, v2, v3] => (Model_period_c49 F k31 fu) v1 v2 v3 σ
      | _ => none)]) (jcon (jl2 (fun y0 y1 => jl0 (fun σ => h31 y0 y1 σ))) (jcon (jl3 (fun y0 y1 y2 => jl0 (fun σ => ih y0 y1 y2 σ))) jnil)) 62 49 [some (jmr 0), some (jmi v1), some (jmi v2), some (jmi v3)] [] σ) rfl
  have rr31 : ∀ (fu : Nat) (v1 v2 : Int) (σ : jxS), jRf X (Model_period_c31 F fu v1 v2 σ) 31 [some (jmr 0), some (jmi v1), some (jmi v2), none] [] σ := by
    intro  fu
    induction fu with
    | zero => intros; exact jRf_none
    | succ fu ih =>
      intro v1 v2 σ
      exact jRf_by (jex_ok hG (cs := [(49, [some (.inr (some 0)), some (.inl 0), some (.inl 0), some (.inl 0)], [], fun xs σ => match xs with
      | [v1, v2, v3] => Model_period_c49 F (Model_period_c31 F fu) F v1 v2 v3 σ
      | _ => none)]) (jcon (jl3 (fun y0 y1 y2 => jl0 (fun σ => rr49 _ ih F y0 y1 y2 σ))) jnil) 62 31 [some (jmr 0), some (jmi v1), some (jmi v2), none] [] σ) rfl
  exact jRf_by (jex_ok hG (cs := [(31, [some (.inr (some 0)), some (.inl 0), some (.inl 0), none], [], fun xs σ => match xs with
      | [v1, v2] => Model_period_c31 F F v1 v2 σ
      | _ => none)]) (jcon (jl2 (fun y0 y1 => jl0 (fun σ => rr31 F y0 y1 σ))) jnil) 62 0 [some (jmr 0), some (jmi v1), none, none] [] σ0) rfl
theorem jad_Model_period (F : Nat) (sh : List jxC) (hs : jHas sh jc_M) : jAdV (jca_Model_period F) yX12_period cX12_period 4 1 1 25 1 sh := by
  intro as σ k x σ' h
  unfold jca_Model_period at h
  split at h
  · rename_i t0 v1
    obtain ⟨g0, hh1⟩ := jcond h
    obtain rfl := jbeq g0
    obtain ⟨r, h1, h2⟩ := Option.bind_eq_some_iff.mp hh1
    exact ⟨_, _, h2, ⟨_, _, _, _, _, _, rfl, rfl, (hs _ (jkf_in (l := jc_M) (idx := 0) rfl)).1, rfl⟩, jmet_Model_period F  sh hs σ v1 r.1 r.2 h1⟩
  · cases h
