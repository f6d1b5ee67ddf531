/-! Contracts: Pairs_listMoves Pairs_append Pairs_insert Pairs_follow Pairs_allFit -/
def jtb_Pairs_listMoves : List (Nat × Instr) := [(0, .iconst 0), (1, .istore_n 2), (2, .iload_n 2), (3, .aload_n 1), (4, .invokevirtual 70), (7, .if_icmp .ge 57), (10, .iload_n 2), (11, .bipush 16), (13, .if_icmp .ge 51), (16, .iconst 1), (17, .istore_n 3), (18, .iload_n 3), (19, .aload_n 1), (20, .invokevirtual 47), (23, .if_icmp .gt 35), (26, .iload_n 3), (27, .bipush 6), (29, .if_icmp .gt 29), (32, .aload_n 0), (33, .getfield 18), (36, .iload_n 2), (37, .bipush 6), (39, .imul), (40, .iload_n 3), (41, .iadd), (42, .iconst 1), (43, .isub), (44, .aload_n 0), (45, .aload_n 1), (46, .iload_n 2), (47, .iload_n 3), (48, .invokevirtual 72), (51, .iastore), (52, .iinc 3 1), (55, .goto (-37)), (58, .iinc 2 1), (61, .goto (-59)), (64, .return_)]
theorem jtk_Pairs_listMoves : jtok cX4_listMoves jtb_Pairs_listMoves = true := by decide +kernel
set_option maxRecDepth 100000 in
theorem jfl_X4_18 : jFl RX4 18 4 3 := ⟨RX4, TX4, 6, tyX4, rfl, by decide, jin_X4, tyX4_ok, nmX4, jow_X4, (Or.inl (jTB_at 582 rfl rfl))⟩
set_option maxRecDepth 100000 in
theorem jlk_X4_47 : jLkV RX4 47 yX6_heaps cX6_heaps 1 1 0 := ⟨(jTB_at 1247 rfl rfl), (jTB_at 1248 rfl rfl), (jTB_at 1249 rfl rfl), (jTB_at 128 rfl rfl), jTB_at 1250 rfl rfl, ⟨by decide, by decide, by decide +kernel⟩⟩
set_option maxRecDepth 100000 in
theorem jlk_X4_70 : jLkV RX4 70 yX6_size cX6_size 1 1 0 := ⟨(jTB_at 1246 rfl rfl), (jTB_at 1159 rfl rfl), (jTB_at 1160 rfl rfl), (jTB_at 128 rfl rfl), jTB_at 1161 rfl rfl, ⟨by decide, by decide, by decide +kernel⟩⟩
set_option maxRecDepth 100000 in
theorem jlk_X4_72 : jLkV RX4 72 yX4_movesOf cX4_movesOf 7 1 3 := ⟨(jTB_at 1251 rfl rfl), (jTB_at 1253 rfl rfl), (jTB_at 43 rfl rfl), (jTB_at 127 rfl rfl), jTB_at 1254 rfl rfl, ⟨by decide, by decide, by decide +kernel⟩⟩
def jE_Pairs_listMoves (F : Nat) : jxE := jmk [(18, 4, 3)] [] [] [(47, (1, false), jca_Quotient_heaps F), (70, (1, false), jca_Quotient_size F), (72, (4, false), jca_Pairs_movesOf F)] 0 jc_C
set_option maxRecDepth 100000 in
set_option maxHeartbeats 4000000 in
theorem jmet_Pairs_listMoves_48 (F : Nat) (sh : List jxC) (hs : jHas sh jc_C) (σ0 : jxS) (x : Int) (σ' : jxS) (h : Pairs_listMoves F 48 σ0 = some (x, σ')) : jMC yX4_listMoves cX4_listMoves 4 (jrt 0) 3 70 sh σ0 [(jmr 44), (jmr 48)] (jrv 0 x) σ' := by
  refine jMC_of (kd := 0) (by decide) rfl h ?_
  intro X hX
  have hG : jGd X (jE_Pairs_listMoves F) jtb_Pairs_listMoves := jGd_of hX jtk_Pairs_listMoves (jcon jfl_X4_18 jnil) jnil jnil (jcon (jsV jlk_X4_47 ⟨rfl, rfl⟩ (jad_Quotient_heaps F sh hs)) (jcon (jsV jlk_X4_70 ⟨rfl, rfl⟩ (jad_Quotient_size F sh hs)) (jcon (jsV jlk_X4_72 ⟨rfl, rfl⟩ (jad_Pairs_movesOf F sh hs)) jnil))) hs
  have rr18 : ∀ (k2 : Int → jxS → Option jxR) (h2 : ∀ v2 σ, jRf X (k2 v2 σ) 2 [some (jmr 44), some (jmr 48), some (jmi v2), none] [] σ) (fu : Nat) (v2 v3 : Int) (σ : jxS), jRf X (Pairs_listMoves_c18 F 48 k2 fu v2 v3 σ) 18 [some (jmr 44), some (jmr 48), some (jmi v2), some (jmi v3)] [] σ := by
    intro k2 h2 fu
    induction fu with
    | zero => intros; exact jRf_none
    | succ fu ih =>
      intro v2 v3 σ
      exact jRf_by (jex_ok hG (cs := [(2, [some (.inr (some 44)), some (.inr (some 48)), some (.inl 0), none], [], fun xs σ => match xs with
      | [v2] => k2 v2 σ
      | _ => none), (18, [some (.inr (some 44)), some (.inr (some 48)), some (.inl 0), some (.inl 0)], [], fun xs σ => match xs with
      | [v2, v3] => (Pairs_listMoves_c18 F 48 k2 fu) v2 v3 σ
      | _ => none)]) (jcon (jl1 (fun y0 => jl0 (fun σ => h2 y0 σ))) (jcon (jl2 (fun y0 y1 => jl0 (fun σ => ih y0 y1 σ))) jnil)) 41 18 [some (jmr 44), some (jmr 48), some (jmi v2), some (jmi v3)] [] σ) rfl
  have rr2 : ∀ (fu : Nat) (v2 : Int) (σ : jxS), jRf X (Pairs_listMoves_c2 F 48 fu v2 σ) 2 [some (jmr 44), some (jmr 48), some (jmi v2), none] [] σ := by
    intro  fu
    induction fu with
    | zero => intros; exact jRf_none
    | succ fu ih =>
      intro v2 σ
      exact jRf_by (jex_ok hG (cs := [(18, [some (.inr (some 44)), some (.inr (some 48)), some (.inl 0), some (.inl 0)], [], fun xs σ => match xs with
      | [v2, v3] => Pairs_listMoves_c18 F 48 (Pairs_listMoves_c2 F 48 fu) F v2 v3 σ
      | _ => none)]) (jcon (jl2 (fun y0 y1 => jl0 (fun σ => rr18 _ ih F y0 y1 σ))) jnil) 41 2 [some (jmr 44), some (jmr 48), some (jmi v2), none] [] σ) rfl
  exact jRf_by (jex_ok hG (cs := [(2, [some (.inr (some 44)), some (.inr (some 48)), some (.inl 0), none], [], fun xs σ => match xs with
      | [v2] => Pairs_listMoves_c2 F 48 F v2 σ
      | _ => none)]) (jcon (jl1 (fun y0 => jl0 (fun σ => rr2 F y0 σ))) jnil) 41 0 [some (jmr 44), some (jmr 48), none, none] [] σ0) rfl
set_option maxRecDepth 100000 in
set_option maxHeartbeats 4000000 in
theorem jmet_Pairs_listMoves_53 (F : Nat) (sh : List jxC) (hs : jHas sh jc_C) (σ0 : jxS) (x : Int) (σ' : jxS) (h : Pairs_listMoves F 53 σ0 = some (x, σ')) : jMC yX4_listMoves cX4_listMoves 4 (jrt 0) 3 70 sh σ0 [(jmr 44), (jmr 53)] (jrv 0 x) σ' := by
  refine jMC_of (kd := 0) (by decide) rfl h ?_
  intro X hX
  have hG : jGd X (jE_Pairs_listMoves F) jtb_Pairs_listMoves := jGd_of hX jtk_Pairs_listMoves (jcon jfl_X4_18 jnil) jnil jnil (jcon (jsV jlk_X4_47 ⟨rfl, rfl⟩ (jad_Quotient_heaps F sh hs)) (jcon (jsV jlk_X4_70 ⟨rfl, rfl⟩ (jad_Quotient_size F sh hs)) (jcon (jsV jlk_X4_72 ⟨rfl, rfl⟩ (jad_Pairs_movesOf F sh hs)) jnil))) hs
  have rr18 : ∀ (k2 : Int → jxS → Option jxR) (h2 : ∀ v2 σ, jRf X (k2 v2 σ) 2 [some (jmr 44), some (jmr 53), some (jmi v2), none] [] σ) (fu : Nat) (v2 v3 : Int) (σ : jxS), jRf X (Pairs_listMoves_c18 F 53 k2 fu v2 v3 σ) 18 [some (jmr 44), some (jmr 53), some (jmi v2), some (jmi v3)] [] σ := by
    intro k2 h2 fu
    induction fu with
    | zero => intros; exact jRf_none
    | succ fu ih =>
      intro v2 v3 σ
      exact jRf_by (jex_ok hG (cs := [(2, [some (.inr (some 44)), some (.inr (some 53)), some (.inl 0), none], [], fun xs σ => match xs with
      | [v2] => k2 v2 σ
      | _ => none), (18, [some (.inr (some 44)), some (.inr (some 53)), some (.inl 0), some (.inl 0)], [], fun xs σ => match xs with
      | [v2, v3] => (Pairs_listMoves_c18 F 53 k2 fu) v2 v3 σ
      | _ => none)]) (jcon (jl1 (fun y0 => jl0 (fun σ => h2 y0 σ))) (jcon (jl2 (fun y0 y1 => jl0 (fun σ => ih y0 y1 σ))) jnil)) 41 18 [some (jmr 44), some (jmr 53), some (jmi v2), some (jmi v3)] [] σ) rfl
  have rr2 : ∀ (fu : Nat) (v2 : Int) (σ : jxS), jRf X (Pairs_listMoves_c2 F 53 fu v2 σ) 2 [some (jmr 44), some (jmr 53), some (jmi v2), none] [] σ := by
    intro  fu
    induction fu with
    | zero => intros; exact jRf_none
    | succ fu ih =>
      intro v2 σ
      exact jRf_by (jex_ok hG (cs := [(18, [some (.inr (some 44)), some (.inr (some 53)), some (.inl 0), some (.inl 0)], [], fun xs σ => match xs with
      | [v2, v3] => Pairs_listMoves_c18 F 53 (Pairs_listMoves_c2 F 53 fu) F v2 v3 σ
      | _ => none)]) (jcon (jl2 (fun y0 y1 => jl0 (fun σ => rr18 _ ih F y0 y1 σ))) jnil) 41 2 [some (jmr 44), some (jmr 53), some (jmi v2), none] [] σ) rfl
  exact jRf_by (jex_ok hG (cs := [(2, [some (.inr (some 44)), some (.inr (some 53)), some (.inl 0), none], [], fun xs σ => match xs with
      | [v2] => Pairs_listMoves_c2 F 53 F v2 σ
      | _ => none)]) (jcon (jl1 (fun y0 => jl0 (fun σ => rr2 F y0 σ))) jnil) 41 0 [some (jmr 44), some (jmr 53), none, none] [] σ0) rfl
set_option maxRecDepth 100000 in
set_option maxHeartbeats 4000000 in
theorem jmet_Pairs_listMoves_58 (F : Nat) (sh : List jxC) (hs : jHas sh jc_C) (σ0 : jxS) (x : Int) (σ' : jxS) (h : Pairs_listMoves F 58 σ0 = some (x, σ')) : jMC yX4_listMoves cX4_listMoves 4 (jrt 0) 3 70 sh σ0 [(jmr 44), (jmr 58)] (jrv 0 x) σ' := by
  refine jMC_of (kd := 0) (by decide) rfl h ?_
  intro X hX
  have hG : jGd X (jE_Pairs_listMoves F) jtb_Pairs_listMoves := jGd_of hX jtk_Pairs_listMoves (jcon jfl_X4_18 jnil) jnil jnil (jcon (jsV jlk_X4_47 ⟨rfl, rfl⟩ (jad_Quotient_heaps F sh hs)) (jcon (jsV jlk_X4_70 ⟨rfl, rfl⟩ (jad_Quotient_size F sh hs)) (jcon (jsV jlk_X4_72 ⟨rfl, rfl⟩ (jad_Pairs_movesOf F sh hs)) jnil))) hs
  have rr18 : ∀ (k2 : Int → jxS → Option jxR) (h2 : ∀ v2 σ, jRf X (k2 v2 σ) 2 [some (jmr 44), some (jmr 58), some (jmi v2), none] [] σ) (fu : Nat) (v2 v3 : Int) (σ : jxS), jRf X (Pairs_listMoves_c18 F 58 k2 fu v2 v3 σ) 18 [some (jmr 44), some (jmr 58), some (jmi v2), some (jmi v3)] [] σ := by
    intro k2 h2 fu
    induction fu with
    | zero => intros; exact jRf_none
    | succ fu ih =>
      intro v2 v3 σ
      exact jRf_by (jex_ok hG (cs := [(2, [some (.inr (some 44)), some (.inr (some 58)), some (.inl 0), none], [], fun xs σ => match xs with
      | [v2] => k2 v2 σ
      | _ => none), (18, [some (.inr (some 44)), some (.inr (some 58)), some (.inl 0), some (.inl 0)], [], fun xs σ => match xs with
      | [v2, v3] => (Pairs_listMoves_c18 F 58 k2 fu) v2 v3 σ
      | _ => none)]) (jcon (jl1 (fun y0 => jl0 (fun σ => h2 y0 σ))) (jcon (jl2 (fun y0 y1 => jl0 (fun σ => ih y0 y1 σ))) jnil)) 41 18 [some (jmr 44), some (jmr 58), some (jmi v2), some (jmi v3)] [] σ) rfl
  have rr2 : ∀ (fu : Nat) (v2 : Int) (σ : jxS), jRf X (Pairs_listMoves_c2 F 58 fu v2 σ) 2 [some (jmr 44), some (jmr 58), some (jmi v2), none] [] σ := by
    intro  fu
    induction fu with
    | zero => intros; exact jRf_none
    | succ fu ih =>
      intro v2 σ
      exact jRf_by (jex_ok hG (cs := [(18, [some (.inr (some 44)), some (.inr (some 58)), some (.inl 0), some (.inl 0)], [], fun xs σ => match xs with
      | [v2, v3] => Pairs_listMoves_c18 F 58 (Pairs_listMoves_c2 F 58 fu) F v2 v3 σ
      | _ => none)]) (jcon (jl2 (fun y0 y1 => jl0 (fun σ => rr18 _ ih F y0 y1 σ))) jnil) 41 2 [some (jmr 44), some (jmr 58), some (jmi v2), none] [] σ) rfl
  exact jRf_by (jex_ok hG (cs := [(2, [some (.inr (some 44)), some (.inr (some 58)), some (.inl 0), none], [], fun xs σ => match xs with
      | [v2] => Pairs_listMoves_c2 F 58 F v2 σ
      | _ => none)]) (jcon (jl1 (fun y0 => jl0 (fun σ => rr2 F y0 σ))) jnil) 41 0 [some (jmr 44), some (jmr 58), none, none] [] σ0) rfl
set_option maxRecDepth 100000 in
set_option maxHeartbeats 4000000 in
theorem jmet_Pairs_listMoves_63 (F : Nat) (sh : List jxC) (hs : jHas sh jc_C) (σ0 : jxS) (x : Int) (σ' : jxS) (h : Pairs_listMoves F 63 σ0 = some (x, σ')) : jMC yX4_listMoves cX4_listMoves 4 (jrt 0) 3 70 sh σ0 [(jmr 44), (jmr 63)] (jrv 0 x) σ' := by
  refine jMC_of (kd := 0) (by decide) rfl h ?_
  intro X hX
  have hG : jGd X (jE_Pairs_listMoves F) jtb_Pairs_listMoves := jGd_of hX jtk_Pairs_listMoves (jcon jfl_X4_18 jnil) jnil jnil (jcon (jsV jlk_X4_47 ⟨rfl, rfl⟩ (jad_Quotient_heaps F sh hs)) (jcon (jsV jlk_X4_70 ⟨rfl, rfl⟩ (jad_Quotient_size F sh hs)) (jcon (jsV jlk_X4_72 ⟨rfl, rfl⟩ (jad_Pairs_movesOf F sh hs)) jnil))) hs
  have rr18 : ∀ (k2 : Int → jxS → Option jxR) (h2 : ∀ v2 σ, jRf X (k2 v2 σ) 2 [some (jmr 44), some (jmr 63), some (jmi v2), none] [] σ) (fu : Nat) (v2 v3 : Int) (σ : jxS), jRf X (Pairs_listMoves_c18 F 63 k2 fu v2 v3 σ) 18 [some (jmr 44), some (jmr 63), some (jmi v2), some (jmi v3)] [] σ := by
    intro k2 h2 fu
    induction fu with
    | zero => intros; exact jRf_none
    | succ fu ih =>
      intro v2 v3 σ
      exact jRf_by (jex_ok hG (cs := [(2, [some (.inr (some 44)), some (.inr (some 63)), some (.inl 0), none], [], fun xs σ => match xs with
      | [v2] => k2 v2 σ
      | _ => none), (18, [some (.inr (some 44)), some (.inr (some 63)), some (.inl 0), some (.inl 0)], [], fun xs σ => match xs with
      | [v2, v3] => (Pairs_listMoves_c18 F 63 k2 fu) v2 v3 σ
      | _ => none)]) (jcon (jl1 (fun y0 => jl0 (fun σ => h2 y0 σ))) (jcon (jl2 (fun y0 y1 => jl0 (fun σ => ih y0 y1 σ))) jnil)) 41 18 [some (jmr 44), some (jmr 63), some (jmi v2), some (jmi v3)] [] σ) rfl
  have rr2 : ∀ (fu : Nat) (v2 : Int) (σ : jxS), jRf X (Pairs_listMoves_c2 F 63 fu v2 σ) 2 [some (jmr 44), some (jmr 63), some (jmi v2), none] [] σ := by
    intro  fu
    induction fu with
    | zero => intros; exact jRf_none
    | succ fu ih =>
      intro v2 σ
      exact jRf_by (jex_ok hG (cs := [(18, [some (.inr (some 44)), some (.inr (some 63)), some (.inl 0), some (.inl 0)], [], fun xs σ => match xs with
      | [v2, v3] => Pairs_listMoves_c18 F 63 (Pairs_listMoves_c2 F 63 fu) F v2 v3 σ
      | _ => none)]) (jcon (jl2 (fun y0 y1 => jl0 (fun σ => rr18 _ ih F y0 y1 σ))) jnil) 41 2 [some (jmr 44), some (jmr 63), some (jmi v2), none] [] σ) rfl
  exact jRf_by (jex_ok hG (cs := [(2, [some (.inr (some 44)), some (.inr (some 63)), some (.inl 0), none], [], fun xs σ => match xs with
      | [v2] => Pairs_listMoves_c2 F 63 F v2 σ
      | _ => none)]) (jcon (jl1 (fun y0 => jl0 (fun σ => rr2 F y0 σ))) jnil) 41 0 [some (jmr 44), some (jmr 63), none, none] [] σ0) rfl
set_option maxRecDepth 100000 in
set_option maxHeartbeats 4000000 in
theorem jmet_Pairs_listMoves_68 (F : Nat) (sh : List jxC) (hs : jHas sh jc_C) (σ0 : jxS) (x : Int) (σ' : jxS) (h : Pairs_listMoves F 68 σ0 = some (x, σ')) : jMC yX4_listMoves cX4_listMoves 4 (jrt 0) 3 70 sh σ0 [(jmr 44), (jmr 68)] (jrv 0 x) σ' := by
  refine jMC_of (kd := 0) (by decide) rfl h ?_
  intro X hX
  have hG : jGd X (jE_Pairs_listMoves F) jtb_Pairs_listMoves := jGd_of hX jtk_Pairs_listMoves (jcon jfl_X4_18 jnil) jnil jnil (jcon (jsV jlk_X4_47 ⟨rfl, rfl⟩ (jad_Quotient_heaps F sh hs)) (jcon (jsV jlk_X4_70 ⟨rfl, rfl⟩ (jad_Quotient_size F sh hs)) (jcon (jsV jlk_X4_72 ⟨rfl, rfl⟩ (jad_Pairs_movesOf F sh hs)) jnil))) hs
  have rr18 : ∀ (k2 : Int → jxS → Option jxR) (h2 : ∀ v2 σ, jRf X (k2 v2 σ) 2 [some (jmr 44), some (jmr 68), some (jmi v2), none] [] σ) (fu : Nat) (v2 v3 : Int) (σ : jxS), jRf X (Pairs_listMoves_c18 F 68 k2 fu v2 v3 σ) 18 [some (jmr 44), some (jmr 68), some (jmi v2), some (jmi v3)] [] σ := by
    intro k2 h2 fu
    induction fu with
    | zero => intros; exact jRf_none
    | succ fu ih =>
      intro v2 v3 σ
      exact jRf_by (jex_ok hG (cs := [(2, [some (.inr (some 44)), some (.inr (some 68)), some (.inl 0), none], [], fun xs σ => match xs with
      | [v2] => k2 v2 σ
      | _ => none), (18, [some (.inr (some 44)), some (.inr (some 68)), some (.inl 0), some (.inl 0)], [], fun xs σ => match xs with
      | [v2, v3] => (Pairs_listMoves_c18 F 68 k2 fu) v2 v3 σ
      | _ => none)]) (jcon (jl1 (fun y0 => jl0 (fun σ => h2 y0 σ))) (jcon (jl2 (fun y0 y1 => jl0 (fun σ => ih y0 y1 σ))) jnil)) 41 18 [some (jmr 44), some (jmr 68), some (jmi v2), some (jmi v3)] [] σ) rfl
  have rr2 : ∀ (fu : Nat) (v2 : Int) (σ : jxS), jRf X (Pairs_listMoves_c2 F 68 fu v2 σ) 2 [some (jmr 44), some (jmr 68), some (jmi v2), none] [] σ := by
    intro  fu
    induction fu with
    | zero => intros; exact jRf_none
    | succ fu ih =>
      intro v2 σ
      exact jRf_by (jex_ok hG (cs := [(18, [some (.inr (some 44)), some (.inr (some 68)), some (.inl 0), some (.inl 0)], [], fun xs σ => match xs with
      | [v2, v3] => Pairs_listMoves_c18 F 68 (Pairs_listMoves_c2 F 68 fu) F v2 v3 σ
      | _ => none)]) (jcon (jl2 (fun y0 y1 => jl0 (fun σ => rr18 _ ih F y0 y1 σ))) jnil) 41 2 [some (jmr 44), some (jmr 68), some (jmi v2), none] [] σ) rfl
  exact jRf_by (jex_ok hG (cs := [(2, [some (.inr (some 44)), some (.inr (some 68)), some (.inl 0), none], [], fun xs σ => match xs with
      | [v2] => Pairs_listMoves_c2 F 68 F v2 σ
      | _ => none)]) (jcon (jl1 (fun y0 => jl0 (fun σ => rr2 F y0 σ))) jnil) 41 0 [some (jmr 44), some (jmr 68), none, none] [] σ0) rfl
set_option maxRecDepth 100000 in
set_option maxHeartbeats 4000000 in
theorem jmet_Pairs_listMoves_73 (F : Nat) (sh : List jxC) (hs : jHas sh jc_C) (σ0 : jxS) (x : Int) (σ' : jxS) (h : Pairs_listMoves F 73 σ0 = some (x, σ')) : jMC yX4_listMoves cX4_listMoves 4 (jrt 0) 3 70 sh σ0 [(jmr 44), (jmr 73)] (jrv 0 x) σ' := by
  refine jMC_of (kd := 0) (by decide) rfl h ?_
  intro X hX
  have hG : jGd X (jE_Pairs_listMoves F) jtb_Pairs_listMoves := jGd_of hX jtk_Pairs_listMoves (jcon jfl_X4_18 jnil) jnil jnil (jcon (jsV jlk_X4_47 ⟨rfl, rfl⟩ (jad_Quotient_heaps F sh hs)) (jcon (jsV jlk_X4_70 ⟨rfl, rfl⟩ (jad_Quotient_size F sh hs)) (jcon (jsV jlk_X4_72 ⟨rfl, rfl⟩ (jad_Pairs_movesOf F sh hs)) jnil))) hs
  have rr18 : ∀ (k2 : Int → jxS → Option jxR) (h2 : ∀ v2 σ, jRf X (k2 v2 σ) 2 [some (jmr 44), some (jmr 73), some (jmi v2), none] [] σ) (fu : Nat) (v2 v3 : Int) (σ : jxS), jRf X (Pairs_listMoves_c18 F 73 k2 fu v2 v3 σ) 18 [some (jmr 44), some (jmr 73), some (jmi v2), some (jmi v3)] [] σ := by
    intro k2 h2 fu
    induction fu with
    | zero => intros; exact jRf_none
    | succ fu ih =>
      intro v2 v3 σ
      exact jRf_by (jex_ok hG (cs := [(2, [some (.inr (some 44)), some (.inr (some 73)), some (.inl 0), none], [], fun xs σ => match xs with
      | [v2] => k2 v2 σ
      | _ => none), (18, [some (.inr (some 44)), some (.inr (some 73)), some (.inl 0), some (.inl 0)], [], fun xs σ => match xs with
      | [v2, v3] => (Pairs_listMoves_c18 F 73 k2 fu) v2 v3 σ
      | _ => none)]) (jcon (jl1 (fun y0 => jl0 (fun σ => h2 y0 σ))) (jcon (jl2 (fun y0 y1 => jl0 (fun σ => ih y0 y1 σ))) jnil)) 41 18 [some (jmr 44), some (jmr 73), some (jmi v2), some (jmi v3)] [] σ) rfl
  have rr2 : ∀ (fu : Nat) (v2 : Int) (σ : jxS), jRf X (Pairs_listMoves_c2 F 73 fu v2 σ) 2 [some (jmr 44), some (jmr 73), some (jmi v2), none] [] σ := by
    intro  fu
    induction fu with
    | zero => intros; exact jRf_none
    | succ fu ih =>
      intro v2 σ
      exact jRf_by (jex_ok hG (cs := [(18, [some (.inr (some 44)), some (.inr (some 73)), some (.inl 0), some (.inl 0)], [], fun xs σ => match xs with
      | [v2, v3] => Pairs_listMoves_c18 F 73 (Pairs_listMoves_c2 F 73 fu) F v2 v3 σ
      | _ => none)]) (jcon (jl2 (fun y0 y1 => jl0 (fun σ => rr18 _ ih F y0 y1 σ))) jnil) 41 2 [some (jmr 44), some (jmr 73), some (jmi v2), none] [] σ) rfl
  exact jRf_by (jex_ok hG (cs := [(2, [some (.inr (some 44)), some (.inr (some 73)), some (.inl 0), none], [], fun xs σ => match xs with
      | [v2] => Pairs_listMoves_c2 F 73 F v2 σ
      | _ => none)]) (jcon (jl1 (fun y0 => jl0 (fun σ => rr2 F y0 σ))) jnil) 41 0 [some (jmr 44), some (jmr 73), none, none] [] σ0) rfl
theorem jmet_Pairs_listMoves (F : Nat) (q1 : Nat) (hq1 : q1 ∈ jids_Pairs_listMoves_q1) (sh : List jxC) (hs : jHas sh jc_C) (σ0 : jxS) (x : Int) (σ' : jxS) (h : Pairs_listMoves F q1 σ0 = some (x, σ')) : jMC yX4_listMoves cX4_listMoves 4 (jrt 0) 3 70 sh σ0 [(jmr 44), (jmr q1)] (jrv 0 x) σ' := by
  simp only [jids_Pairs_listMoves_q1, List.mem_cons, List.not_mem_nil, or_false] at hq1
  rcases hq1 with rfl | rfl | rfl | rfl | rfl | rfl
  · exact jmet_Pairs_listMoves_48 F sh hs σ0  x σ' h
  · exact jmet_Pairs_listMoves_53 F sh hs σ0  x σ' h
  · exact jmet_Pairs_listMoves_58 F sh hs σ0  x σ' h
  · exact jmet_Pairs_listMoves_63 F sh hs σ0  x σ' h
  · exact jmet_Pairs_listMoves_68 F sh hs σ0  x σ' h
  · exact jmet_Pairs_listMoves_73 F sh hs σ0  x σ' h
theorem jad_Pairs_listMoves (F : Nat) (sh : List jxC) (hs : jHas sh jc_C) : jAdV (jca_Pairs_listMoves F) yX4_listMoves cX4_listMoves 4 0 3 70 1 sh := by
  intro as σ k x σ' h
  unfold jca_Pairs_listMoves at h
  split at h
  · rename_i t0 t1
    obtain ⟨g0, hh1⟩ := jcond h
    obtain rfl := jbeq g0
    obtain ⟨g1, hh2⟩ := jcond hh1
    have g1 := jin_of g1
    obtain ⟨r, h1, h2⟩ := Option.bind_eq_some_iff.mp hh2
    exact ⟨_, _, h2, ⟨_, _, _, _, _, _, rfl, rfl, (hs _ (jkf_in (l := jc_C) (idx := 44) rfl)).1, rfl⟩, jmet_Pairs_listMoves F t1 g1 sh hs σ  r.1 r.2 h1⟩
  · cases h
def jtb_Pairs_append : List (Nat × Instr) := [(0, .aload_n 0), (1, .getfield 31), (4, .sipush 2000), (7, .if_icmp .lt 9), (10, .aload_n 0), (11, .iconst 1), (12, .putfield 35), (15, .return_), (16, .aload_n 0), (17, .getfield 15), (20, .iload_n 2), (21, .iload_n 1), (22, .iconst 1), (23, .iadd), (24, .iastore), (25, .aload_n 0), (26, .getfield 11), (29, .aload_n 0), (30, .getfield 31), (33, .iload_n 1), (34, .iastore), (35, .aload_n 0), (36, .dup), (37, .getfield 31), (40, .iconst 1), (41, .iadd), (42, .putfield 31), (45, .return_)]
theorem jtk_Pairs_append : jtok cX4_append jtb_Pairs_append = true := by decide +kernel
set_option maxRecDepth 100000 in
theorem jfl_X4_11 : jFl RX4 11 4 1 := ⟨RX4, TX4, 6, tyX4, rfl, by decide, jin_X4, tyX4_ok, nmX4, jow_X4, (Or.inl (jTB_at 580 rfl rfl))⟩
set_option maxRecDepth 100000 in
theorem jfl_X4_15 : jFl RX4 15 4 2 := ⟨RX4, TX4, 6, tyX4, rfl, by decide, jin_X4, tyX4_ok, nmX4, jow_X4, (Or.inl (jTB_at 581 rfl rfl))⟩
set_option maxRecDepth 100000 in
theorem jfl_X4_31 : jFl RX4 31 4 4 := ⟨RX4, TX4, 6, tyX4, rfl, by decide, jin_X4, tyX4_ok, nmX4, jow_X4, (Or.inl (jTB_at 583 rfl rfl))⟩
set_option maxRecDepth 100000 in
theorem jfl_X4_35 : jFl RX4 35 4 5 := ⟨RX4, TX4, 6, tyX4, rfl, by decide, jin_X4, tyX4_ok, nmX4, jow_X4, (Or.inl (jTB_at 584 rfl rfl))⟩
def jE_Pairs_append (F : Nat) : jxE := jmk [(11, 4, 1), (15, 4, 2), (31, 4, 4), (35, 4, 5)] [] [] [] 0 jc_C
set_option maxRecDepth 100000 in
set_option maxHeartbeats 4000000 in
theorem jmet_Pairs_append (F : Nat) (sh : List jxC) (hs : jHas sh jc_C) (σ0 : jxS) (v1 : Int) (v2 : Int) (x : Int) (σ' : jxS) (h : Pairs_append F σ0 v1 v2 = some (x, σ')) : jMC yX4_append cX4_append 3 (jrt 0) 0 0 sh σ0 [(jmr 44), (jmi v1), (jmi v2)] (jrv 0 x) σ' := by
  refine jMC_of (kd := 0) (by decide) rfl h ?_
  intro X hX
  have hG : jGd X (jE_Pairs_append F) jtb_Pairs_append := jGd_of hX jtk_Pairs_append (jcon jfl_X4_11 (jcon jfl_X4_15 (jcon jfl_X4_31 (jcon jfl_X4_35 jnil)))) jnil jnil jnil hs
  exact jRf_by (jex_ok hG (cs := []) jnil 31 0 [some (jmr 44), some (jmi v1), some (jmi v2)] [] σ0) rfl
theorem jad_Pairs_append (F : Nat) (sh : List jxC) (hs : jHas sh jc_C) : jAdV (jca_Pairs_append F) yX4_append cX4_append 3 0 0 0 2 sh := by
  intro as σ k x σ' h
  unfold jca_Pairs_append at h
  split at h
  · rename_i t0 v1 v2
    obtain ⟨g0, hh1⟩ := jcond h
    obtain rfl := jbeq g0
    obtain ⟨r, h1, h2⟩ := Option.bind_eq_some_iff.mp hh1
    exact ⟨_, _, h2, ⟨_, _, _, _, _, _, rfl, rfl, (hs _ (jkf_in (l := jc_C) (idx := 44) rfl)).1, rfl⟩, jmet_Pairs_append F  sh hs σ v1 v2 r.1 r.2 h1⟩
  · cases h
def jtb_Pairs_insert : List (Nat × Instr) := [(0, .iload_n 1), (1, .ldc 89), (3, .imul), (4, .bipush 20), (6, .iushr), (7, .istore_n 2), (8, .iconst 0), (9, .istore_n 3), (10, .iload_n 3), (11, .sipush 4096), (14, .if_icmp .ge 50), (17, .iload_n 2), (18, .iload_n 3), (19, .iadd), (20, .sipush 4095), (23, .iand), (24, .istore 4), (26, .aload_n 0), (27, .getfield 15), (30, .iload 4), (32, .iaload), (33, .iload_n 1), (34, .iconst 1), (35, .iadd), (36, .if_icmp .ne 4), (39, .return_), (40, .aload_n 0), (41, .getfield 15), (44, .iload 4), (46, .iaload), (47, .ifCond .ne 11), (50, .aload_n 0), (51, .iload_n 1), (52, .iload 4), (54, .invokevirtual 90), (57, .return_), (58, .iinc 3 1), (61, .goto (-51)), (64, .return_)]
theorem jtk_Pairs_insert : jtok cX4_insert jtb_Pairs_insert = true := by decide +kernel
set_option maxRecDepth 100000 in
theorem jlk_X4_90 : jLkV RX4 90 yX4_append cX4_append 3 0 2 := ⟨(jTB_at 1263 rfl rfl), (jTB_at 1265 rfl rfl), (jTB_at 45 rfl rfl), (jTB_at 127 rfl rfl), jTB_at 1266 rfl rfl, ⟨by decide, by decide, by decide +kernel⟩⟩
def jE_Pairs_insert (F : Nat) : jxE := jmk [(15, 4, 2)] [(89, jmi (-1640531535))] [] [(90, (3, false), jca_Pairs_append F)] 0 jc_C
set_option maxRecDepth 100000 in
set_option maxHeartbeats 4000000 in
theorem jmet_Pairs_insert (F : Nat) (sh : List jxC) (hs : jHas sh jc_C) (σ0 : jxS) (v1 : Int) (x : Int) (σ' : jxS) (h : Pairs_insert F σ0 v1 = some (x, σ')) : jMC yX4_insert cX4_insert 5 (jrt 0) 1 22 sh σ0 [(jmr 44), (jmi v1)] (jrv 0 x) σ' := by
  refine jMC_of (kd := 0) (by decide) rfl h ?_
  intro X hX
  have hG : jGd X (jE_Pairs_insert F) jtb_Pairs_insert := jGd_of hX jtk_Pairs_insert (jcon jfl_X4_15 jnil) (jcon (jTB_at 1262 rfl rfl) jnil) jnil (jcon (jsV jlk_X4_90 ⟨rfl, rfl⟩ (jad_Pairs_append F sh hs)) jnil) hs
  have rr10 : ∀ (fu : Nat) (v1 v2 v3 : Int) (σ : jxS), jRf X (Pairs_insert_c10 F fu v1 v2 v3 σ) 10 [some (jmr 44), some (jmi v1), some (jmi v2), some (jmi v3), none] [] σ := by
    intro  fu
    induction fu with
    | zero => intros; exact jRf_none
    | succ fu ih =>
      intro v1 v2 v3 σ
      exact jRf_by (jex_ok hG (cs := [(10, [some (.inr (some 44)), some (.inl 0), some (.inl 0), some (.inl 0), none], [], fun xs σ => match xs with
      | [v1, v2, v3] => (Pairs_insert_c10 F fu) v1 v2 v3 σ
      | _ => none)]) (jcon (jl3 (fun y0 y1 y2 => jl0 (fun σ => ih y0 y1 y2 σ))) jnil) 42 10 [some (jmr 44), some (jmi v1), some (jmi v2), some (jmi v3), none] [] σ) rfl
  exact jRf_by (jex_ok hG (cs := [(10, [some (.inr (some 44)), some (.inl 0), some (.inl 0), some (.inl 0), none], [], fun xs σ => match xs with
      | [v1, v2, v3] => Pairs_insert_c10 F F v1 v2 v3 σ
      | _ => none)]) (jcon (jl3 (fun y0 y1 y2 => jl0 (fun σ => rr10 F y0 y1 y2 σ))) jnil) 42 0 [some (jmr 44), some (jmi v1), none, none, none] [] σ0) rfl
theorem jad_Pairs_insert (F : Nat) (sh : List jxC) (hs : jHas sh jc_C) : jAdV (jca_Pairs_insert F) yX4_insert cX4_insert 5 0 1 22 1 sh := by
  intro as σ k x σ' h
  unfold jca_Pairs_insert at h
  split at h
  · rename_i t0 v1
    obtain ⟨g0, hh1⟩ := jcond h
    obtain rfl := jbeq g0
    obtain ⟨r, h1, h2⟩ := Option.bind_eq_some_iff.mp hh1
    exact ⟨_, _, h2, ⟨_, _, _, _, _, _, rfl, rfl, (hs _ (jkf_in (l := jc_C) (idx := 44) rfl)).1, rfl⟩, jmet_Pairs_insert F  sh hs σ v1 r.1 r.2 h1⟩
  · cases h
def jtb_Pairs_follow : List (Nat × Instr) := [(0, .iload_n 2), (1, .bipush 16), (3, .ishr), (4, .istore 4), (6, .iload_n 2), (7, .ldc 88), (9, .iand), (10, .istore 5), (12, .iload 4), (14, .bipush 6), (16, .imul), (17, .iload_n 3), (18, .iadd), (19, .iconst 1), (20, .isub), (21, .istore 6), (23, .iload 6), (25, .ifCond .lt 23), (28, .iload 6), (30, .aload_n 0), (31, .getfield 18), (34, .arraylength), (35, .if_icmp .ge 13), (38, .aload_n 0), (39, .getfield 18), (42, .iload 6), (44, .iaload), (45, .goto 4), (48, .iconst 0), (49, .istore 7), (51, .iconst 0), (52, .istore 8), (54, .iload 8), (56, .bipush 16), (58, .if_icmp .ge 34), (61, .iload 5), (63, .iload 8), (65, .ishr), (66, .iconst 1), (67, .iand), (68, .iconst 1), (69, .if_icmp .ne 17), (72, .iload 7), (74, .iconst 1), (75, .aload_n 1), (76, .iload 8), (78, .iload_n 3), (79, .invokevirtual 85), (82, .ishl), (83, .ior), (84, .istore 7), (86, .iinc 8 1), (89, .goto (-35)), (92, .aload_n 1), (93, .iload 4), (95, .iload_n 3), (96, .invokevirtual 85), (99, .bipush 16), (101, .ishl), (102, .iload 7), (104, .ior), (105, .ireturn)]
theorem jtk_Pairs_follow : jtok cX4_follow jtb_Pairs_follow = true := by decide +kernel
def jE_Pairs_follow (F : Nat) : jxE := jmk [(18, 4, 3)] [(88, jmi 65535)] [] [(85, (3, false), jca_Quotient_nextOf F)] 1 jc_C
set_option maxRecDepth 100000 in
set_option maxHeartbeats 4000000 in
theorem jmet_Pairs_follow_48 (F : Nat) (sh : List jxC) (hs : jHas sh jc_C) (σ0 : jxS) (v2 : Int) (v3 : Int) (x : Int) (σ' : jxS) (h : Pairs_follow F 48 σ0 v2 v3 = some (x, σ')) : jMC yX4_follow cX4_follow 9 (jrt 1) 2 44 sh σ0 [(jmr 44), (jmr 48), (jmi v2), (jmi v3)] (jrv 1 x) σ' := by
  refine jMC_of (kd := 1) (by decide) rfl h ?_
  intro X hX
  have hG : jGd X (jE_Pairs_follow F) jtb_Pairs_follow := jGd_of hX jtk_Pairs_follow (jcon jfl_X4_18 jnil) (jcon (jTB_at 1271 rfl rfl) jnil) jnil (jcon (jsV jlk_X4_85 ⟨rfl, rfl⟩ (jad_Quotient_nextOf F sh hs)) jnil) hs
  have rr54 : ∀ (fu : Nat) (v3 v4 v5 v7 v8 : Int) (σ : jxS), jRf X (Pairs_follow_c54 F 48 fu v3 v4 v5 v7 v8 σ) 54 [none, some (jmr 48), none, some (jmi v3), some (jmi v4), some (jmi v5), none, some (jmi v7), some (jmi v8)] [] σ := by
    intro  fu
    induction fu with
    | zero => intros; exact jRf_none
    | succ fu ih =>
      intro v3 v4 v5 v7 v8 σ
      exact jRf_by (jex_ok hG (cs := [(54, [none, some (.inr (some 48)), none, some (.inl 0), some (.inl 0), some (.inl 0), none, some (.inl 0), some (.inl 0)], [], fun xs σ => match xs with
      | [v3, v4, v5, v7, v8] => (Pairs_follow_c54 F 48 fu) v3 v4 v5 v7 v8 σ
      | _ => none)]) (jcon (jl5 (fun y0 y1 y2 y3 y4 => jl0 (fun σ => ih y0 y1 y2 y3 y4 σ))) jnil) 65 54 [none, some (jmr 48), none, some (jmi v3), some (jmi v4), some (jmi v5), none, some (jmi v7), some (jmi v8)] [] σ) rfl
  exact jRf_by (jex_ok hG (cs := [(54, [none, some (.inr (some 48)), none, some (.inl 0), some (.inl 0), some (.inl 0), none, some (.inl 0), some (.inl 0)], [], fun xs σ => match xs with
      | [v3, v4, v5, v7, v8] => Pairs_follow_c54 F 48 F v3 v4 v5 v7 v8 σ
      | _ => none)]) (jcon (jl5 (fun y0 y1 y2 y3 y4 => jl0 (fun σ => rr54 F y0 y1 y2 y3 y4 σ))) jnil) 65 0 [some (jmr 44), some (jmr 48), some (jmi v2), some (jmi v3), none, none, none, none, none] [] σ0) rfl
set_option maxRecDepth 100000 in
set_option maxHeartbeats 4000000 in
theorem jmet_Pairs_follow_53 (F : Nat) (sh : List jxC) (hs : jHas sh jc_C) (σ0 : jxS) (v2 : Int) (v3 : Int) (x : Int) (σ' : jxS) (h : Pairs_follow F 53 σ0 v2 v3 = some (x, σ')) : jMC yX4_follow cX4_follow 9 (jrt 1) 2 44 sh σ0 [(jmr 44), (jmr 53), (jmi v2), (jmi v3)] (jrv 1 x) σ' := by
  refine jMC_of (kd := 1) (by decide) rfl h ?_
  intro X hX
  have hG : jGd X (jE_Pairs_follow F) jtb_Pairs_follow := jGd_of hX jtk_Pairs_follow (jcon jfl_X4_18 jnil) (jcon (jTB_at 1271 rfl rfl) jnil) jnil (jcon (jsV jlk_X4_85 ⟨rfl, rfl⟩ (jad_Quotient_nextOf F sh hs)) jnil) hs
  have rr54 : ∀ (fu : Nat) (v3 v4 v5 v7 v8 : Int) (σ : jxS), jRf X (Pairs_follow_c54 F 53 fu v3 v4 v5 v7 v8 σ) 54 [none, some (jmr 53), none, some (jmi v3), some (jmi v4), some (jmi v5), none, some (jmi v7), some (jmi v8)] [] σ := by
    intro  fu
    induction fu with
    | zero => intros; exact jRf_none
    | succ fu ih =>
      intro v3 v4 v5 v7 v8 σ
      exact jRf_by (jex_ok hG (cs := [(54, [none, some (.inr (some 53)), none, some (.inl 0), some (.inl 0), some (.inl 0), none, some (.inl 0), some (.inl 0)], [], fun xs σ => match xs with
      | [v3, v4, v5, v7, v8] => (Pairs_follow_c54 F 53 fu) v3 v4 v5 v7 v8 σ
      | _ => none)]) (jcon (jl5 (fun y0 y1 y2 y3 y4 => jl0 (fun σ => ih y0 y1 y2 y3 y4 σ))) jnil) 65 54 [none, some (jmr 53), none, some (jmi v3), some (jmi v4), some (jmi v5), none, some (jmi v7), some (jmi v8)] [] σ) rfl
  exact jRf_by (jex_ok hG (cs := [(54, [none, some (.inr (some 53)), none, some (.inl 0), some (.inl 0), some (.inl 0), none, some (.inl 0), some (.inl 0)], [], fun xs σ => match xs with
      | [v3, v4, v5, v7, v8] => Pairs_follow_c54 F 53 F v3 v4 v5 v7 v8 σ
      | _ => none)]) (jcon (jl5 (fun y0 y1 y2 y3 y4 => jl0 (fun σ => rr54 F y0 y1 y2 y3 y4 σ))) jnil) 65 0 [some (jmr 44), some (jmr 53), some (jmi v2), some (jmi v3), none, none, none, none, none] [] σ0) rfl
set_option maxRecDepth 100000 in
set_option maxHeartbeats 4000000 in
theorem jmet_Pairs_follow_58 (F : Nat) (sh : List jxC) (hs : jHas sh jc_C) (σ0 : jxS) (v2 : Int) (v3 : Int) (x : Int) (σ' : jxS) (h : Pairs_follow F 58 σ0 v2 v3 = some (x, σ')) : jMC yX4_follow cX4_follow 9 (jrt 1) 2 44 sh σ0 [(jmr 44), (jmr 58), (jmi v2), (jmi v3)] (jrv 1 x) σ' := by
  refine jMC_of (kd := 1) (by decide) rfl h ?_
  intro X hX
  have hG : jGd X (jE_Pairs_follow F) jtb_Pairs_follow := jGd_of hX jtk_Pairs_follow (jcon jfl_X4_18 jnil) (jcon (jTB_at 1271 rfl rfl) jnil) jnil (jcon (jsV jlk_X4_85 ⟨rfl, rfl⟩ (jad_Quotient_nextOf F sh hs)) jnil) hs
  have rr54 : ∀ (fu : Nat) (v3 v4 v5 v7 v8 : Int) (σ : jxS), jRf X (Pairs_follow_c54 F 58 fu v3 v4 v5 v7 v8 σ) 54 [none, some (jmr 58), none, some (jmi v3), some (jmi v4), some (jmi v5), none, some (jmi v7), some (jmi v8)] [] σ := by
    intro  fu
    induction fu with
    | zero => intros; exact jRf_none
    | succ fu ih =>
      intro v3 v4 v5 v7 v8 σ
      exact jRf_by (jex_ok hG (cs := [(54, [none, some (.inr (some 58)), none, some (.inl 0), some (.inl 0), some (.inl 0), none, some (.inl 0), some (.inl 0)], [], fun xs σ => match xs with
      | [v3, v4, v5, v7, v8] => (Pairs_follow_c54 F 58 fu) v3 v4 v5 v7 v8 σ
      | _ => none)]) (jcon (jl5 (fun y0 y1 y2 y3 y4 => jl0 (fun σ => ih y0 y1 y2 y3 y4 σ))) jnil) 65 54 [none, some (jmr 58), none, some (jmi v3), some (jmi v4), some (jmi v5), none, some (jmi v7), some (jmi v8)] [] σ) rfl
  exact jRf_by (jex_ok hG (cs := [(54, [none, some (.inr (some 58)), none, some (.inl 0), some (.inl 0), some (.inl 0), none, some (.inl 0), some (.inl 0)], [], fun xs σ => match xs with
      | [v3, v4, v5, v7, v8] => Pairs_follow_c54 F 58 F v3 v4 v5 v7 v8 σ
      | _ => none)]) (jcon (jl5 (fun y0 y1 y2 y3 y4 => jl0 (fun σ => rr54 F y0 y1 y2 y3 y4 σ))) jnil) 65 0 [some (jmr 44), some (jmr 58), some (jmi v2), some (jmi v3), none, none, none, none, none] [] σ0) rfl
set_option maxRecDepth 100000 in
set_option maxHeartbeats 4000000 in
theorem jmet_Pairs_follow_63 (F : Nat) (sh : List jxC) (hs : jHas sh jc_C) (σ0 : jxS) (v2 : Int) (v3 : Int) (x : Int) (σ' : jxS) (h : Pairs_follow F 63 σ0 v2 v3 = some (x, σ')) : jMC yX4_follow cX4_follow 9 (jrt 1) 2 44 sh σ0 [(jmr 44), (jmr 63), (jmi v2), (jmi v3)] (jrv 1 x) σ' := by
  refine jMC_of (kd := 1) (by decide) rfl h ?_
  intro X hX
  have hG : jGd X (jE_Pairs_follow F) jtb_Pairs_follow := jGd_of hX jtk_Pairs_follow (jcon jfl_X4_18 jnil) (jcon (jTB_at 1271 rfl rfl) jnil) jnil (jcon (jsV jlk_X4_85 ⟨rfl, rfl⟩ (jad_Quotient_nextOf F sh hs)) jnil) hs
  have rr54 : ∀ (fu : Nat) (v3 v4 v5 v7 v8 : Int) (σ : jxS), jRf X (Pairs_follow_c54 F 63 fu v3 v4 v5 v7 v8 σ) 54 [none, some (jmr 63), none, some (jmi v3), some (jmi v4), some (jmi v5), none, some (jmi v7), some (jmi v8)] [] σ := by
    intro  fu
    induction fu with
    | zero => intros; exact jRf_none
    | succ fu ih =>
      intro v3 v4 v5 v7 v8 σ
      exact jRf_by (jex_ok hG (cs := [(54, [none, some (.inr (some 63)), none, some (.inl 0), some (.inl 0), some (.inl 0), none, some (.inl 0), some (.inl 0)], [], fun xs σ => match xs with
      | [v3, v4, v5, v7, v8] => (Pairs_follow_c54 F 63 fu) v3 v4 v5 v7 v8 σ
      | _ => none)]) (jcon (jl5 (fun y0 y1 y2 y3 y4 => jl0 (fun σ => ih y0 y1 y2 y3 y4 σ))) jnil) 65 54 [none, some (jmr 63), none, some (jmi v3), some (jmi v4), some (jmi v5), none, some (jmi v7), some (jmi v8)] [] σ) rfl
  exact jRf_by (jex_ok hG (cs := [(54, [none, some (.inr (some 63)), none, some (.inl 0), some (.inl 0), some (.inl 0), none, some (.inl 0), some (.inl 0)], [], fun xs σ => match xs with
      | [v3, v4, v5, v7, v8] => Pairs_follow_c54 F 63 F v3 v4 v5 v7 v8 σ
      | _ => none)]) (jcon (jl5 (fun y0 y1 y2 y3 y4 => jl0 (fun σ => rr54 F y0 y1 y2 y3 y4 σ))) jnil) 65 0 [some (jmr 44), some (jmr 63), some (jmi v2), some (jmi v3), none, none, none, none, none] [] σ0) rfl
set_option maxRecDepth 100000 in
set_option maxHeartbeats 4000000 in
theorem jmet_Pairs_follow_68 (F : Nat) (sh : List jxC) (hs : jHas sh jc_C) (σ0 : jxS) (v2 : Int) (v3 : Int) (x : Int) (σ' : jxS) (h : Pairs_follow F 68 σ0 v2 v3 = some (x, σ')) : jMC yX4_follow cX4_follow 9 (jrt 1) 2 44 sh σ0 [(jmr 44), (jmr 68), (jmi v2), (jmi v3)] (jrv 1 x) σ' := by
  refine jMC_of (kd := 1) (by decide) rfl h ?_
  intro X hX
  have hG : jGd X (jE_Pairs_follow F) jtb_Pairs_follow := jGd_of hX jtk_Pairs_follow (jcon jfl_X4_18 jnil) (jcon (jTB_at 1271 rfl rfl) jnil) jnil (jcon (jsV jlk_X4_85 ⟨rfl, rfl⟩ (jad_Quotient_nextOf F sh hs)) jnil) hs
  have rr54 : ∀ (fu : Nat) (v3 v4 v5 v7 v8 : Int) (σ : jxS), jRf X (Pairs_follow_c54 F 68 fu v3 v4 v5 v7 v8 σ) 54 [none, some (jmr 68), none, some (jmi v3), some (jmi v4), some (jmi v5), none, some (jmi v7), some (jmi v8)] [] σ := by
    intro  fu
    induction fu with
    | zero => intros; exact jRf_none
    | succ fu ih =>
      intro v3 v4 v5 v7 v8 σ
      exact jRf_by (jex_ok hG (cs := [(54, [none, some (.inr (some 68)), none, some (.inl 0), some (.inl 0), some (.inl 0), none, some (.inl 0), some (.inl 0)], [], fun xs σ => match xs with
      | [v3, v4, v5, v7, v8] => (Pairs_follow_c54 F 68 fu) v3 v4 v5 v7 v8 σ
      | _ => none)]) (jcon (jl5 (fun y0 y1 y2 y3 y4 => jl0 (fun σ => ih y0 y1 y2 y3 y4 σ))) jnil) 65 54 [none, some (jmr 68), none, some (jmi v3), some (jmi v4), some (jmi v5), none, some (jmi v7), some (jmi v8)] [] σ) rfl
  exact jRf_by (jex_ok hG (cs := [(54, [none, some (.inr (some 68)), none, some (.inl 0), some (.inl 0), some (.inl 0), none, some (.inl 0), some (.inl 0)], [], fun xs σ => match xs with
      | [v3, v4, v5, v7, v8] => Pairs_follow_c54 F 68 F v3 v4 v5 v7 v8 σ
      | _ => none)]) (jcon (jl5 (fun y0 y1 y2 y3 y4 => jl0 (fun σ => rr54 F y0 y1 y2 y3 y4 σ))) jnil) 65 0 [some (jmr 44), some (jmr 68), some (jmi v2), some (jmi v3), none, none, none, none, none] [] σ0) rfl
set_option maxRecDepth 100000 in
set_option maxHeartbeats 4000000 in
theorem jmet_Pairs_follow_73 (F : Nat) (sh : List jxC) (hs : jHas sh jc_C) (σ0 : jxS) (v2 : Int) (v3 : Int) (x : Int) (σ' : jxS) (h : Pairs_follow F 73 σ0 v2 v3 = some (x, σ')) : jMC yX4_follow cX4_follow 9 (jrt 1) 2 44 sh σ0 [(jmr 44), (jmr 73), (jmi v2), (jmi v3)] (jrv 1 x) σ' := by
  refine jMC_of (kd := 1) (by decide) rfl h ?_
  intro X hX
  have hG : jGd X (jE_Pairs_follow F) jtb_Pairs_follow := jGd_of hX jtk_Pairs_follow (jcon jfl_X4_18 jnil) (jcon (jTB_at 1271 rfl rfl) jnil) jnil (jcon (jsV jlk_X4_85 ⟨rfl, rfl⟩ (jad_Quotient_nextOf F sh hs)) jnil) hs
  have rr54 : ∀ (fu : Nat) (v3 v4 v5 v7 v8 : Int) (σ : jxS), jRf X (Pairs_follow_c54 F 73 fu v3 v4 v5 v7 v8 σ) 54 [none, some (jmr 73), none, some (jmi v3), some (jmi v4), some (jmi v5), none, some (jmi v7), some (jmi v8)] [] σ := by
    intro  fu
    induction fu with
    | zero => intros; exact jRf_none
    | succ fu ih =>
      intro v3 v4 v5 v7 v8 σ
      exact jRf_by (jex_ok hG (cs := [(54, [none, some (.inr (some 73)), none, some (.inl 0), some (.inl 0), some (.inl 0), none, some (.inl 0), some (.inl 0)], [], fun xs σ => match xs with
      | [v3, v4, v5, v7, v8] => (Pairs_follow_c54 F 73 fu) v3 v4 v5 v7 v8 σ
      | _ => none)]) (jcon (jl5 (fun y0 y1 y2 y3 y4 => jl0 (fun σ => ih y0 y1 y2 y3 y4 σ))) jnil) 65 54 [none, some (jmr 73), none, some (jmi v3), some (jmi v4), some (jmi v5), none, some (jmi v7), some (jmi v8)] [] σ) rfl
  exact jRf_by (jex_ok hG (cs := [(54, [none, some (.inr (some 73)), none, some (.inl 0), some (.inl 0), some (.inl 0), none, some (.inl 0), some (.inl 0)], [], fun xs σ => match xs with
      | [v3, v4, v5, v7, v8] => Pairs_follow_c54 F 73 F v3 v4 v5 v7 v8 σ
      | _ => none)]) (jcon (jl5 (fun y0 y1 y2 y3 y4 => jl0 (fun σ => rr54 F y0 y1 y2 y3 y4 σ))) jnil) 65 0 [some (jmr 44), some (jmr 73), some (jmi v2), some (jmi v3), none, none, none, none, none] [] σ0) rfl
theorem jmet_Pairs_follow (F : Nat) (q1 : Nat) (hq1 : q1 ∈ jids_Pairs_follow_q1) (sh : List jxC) (hs : jHas sh jc_C) (σ0 : jxS) (v2 : Int) (v3 : Int) (x : Int) (σ' : jxS) (h : Pairs_follow F q1 σ0 v2 v3 = some (x, σ')) : jMC yX4_follow cX4_follow 9 (jrt 1) 2 44 sh σ0 [(jmr 44), (jmr q1), (jmi v2), (jmi v3)] (jrv 1 x) σ' := by
  simp only [jids_Pairs_follow_q1, List.mem_cons, List.not_mem_nil, or_false] at hq1
  rcases hq1 with rfl | rfl | rfl | rfl | rfl | rfl
  · exact jmet_Pairs_follow_48 F sh hs σ0 v2 v3 x σ' h
  · exact jmet_Pairs_follow_53 F sh hs σ0 v2 v3 x σ' h
  · exact jmet_Pairs_follow_58 F sh hs σ0 v2 v3 x σ' h
  · exact jmet_Pairs_follow_63 F sh hs σ0 v2 v3 x σ' h
  · exact jmet_Pairs_follow_68 F sh hs σ0 v2 v3 x σ' h
  · exact jmet_Pairs_follow_73 F sh hs σ0 v2 v3 x σ' h
theorem jad_Pairs_follow (F : Nat) (sh : List jxC) (hs : jHas sh jc_C) : jAdV (jca_Pairs_follow F) yX4_follow cX4_follow 9 1 2 44 3 sh := by
  intro as σ k x σ' h
  unfold jca_Pairs_follow at h
  split at h
  · rename_i t0 t1 v2 v3
    obtain ⟨g0, hh1⟩ := jcond h
    obtain rfl := jbeq g0
    obtain ⟨g1, hh2⟩ := jcond hh1
    have g1 := jin_of g1
    obtain ⟨r, h1, h2⟩ := Option.bind_eq_some_iff.mp hh2
    exact ⟨_, _, h2, ⟨_, _, _, _, _, _, rfl, rfl, (hs _ (jkf_in (l := jc_C) (idx := 44) rfl)).1, rfl⟩, jmet_Pairs_follow F t1 g1 sh hs σ v2 v3 r.1 r.2 h1⟩
  · cases h
def jtb_Pairs_allFit : List (Nat × Instr) := [(0, .iconst 0), (1, .istore_n 2), (2, .iload_n 2), (3, .aload_n 0), (4, .getfield 31), (7, .if_icmp .ge 76), (10, .iload_n 2), (11, .sipush 2000), (14, .if_icmp .ge 69), (17, .aload_n 0), (18, .getfield 11), (21, .iload_n 2), (22, .iaload), (23, .ldc 88), (25, .iand), (26, .istore_n 3), (27, .iload_n 1), (28, .aload_n 0), (29, .getfield 11), (32, .iload_n 2), (33, .iaload), (34, .bipush 16), (36, .ishr), (37, .ishr), (38, .iconst 1), (39, .iand), (40, .iconst 1), (41, .if_icmp .ne 7), (44, .iconst 1), (45, .goto 4), (48, .iconst 0), (49, .istore 4), (51, .iload_n 3), (52, .ifCond .eq 13), (55, .iload_n 3), (56, .iload_n 1), (57, .iand), (58, .ifCond .ne 7), (61, .iconst 1), (62, .goto 4), (65, .iconst 0), (66, .istore 5), (68, .iload 4), (70, .iload 5), (72, .if_icmp .eq 5), (75, .iconst 0), (76, .ireturn), (77, .iinc 2 1), (80, .goto (-78)), (83, .iconst 1), (84, .ireturn)]
theorem jtk_Pairs_allFit : jtok cX4_allFit jtb_Pairs_allFit = true := by decide +kernel
def jE_Pairs_allFit (F : Nat) : jxE := jmk [(11, 4, 1), (31, 4, 4)] [(88, jmi 65535)] [] [] 4 jc_C
set_option maxRecDepth 100000 in
set_option maxHeartbeats 4000000 in
theorem jmet_Pairs_allFit (F : Nat) (sh : List jxC) (hs : jHas sh jc_C) (σ0 : jxS) (v1 : Int) (x : Int) (σ' : jxS) (h : Pairs_allFit F σ0 v1 = some (x, σ')) : jMC yX4_allFit cX4_allFit 6 (jrt 4) 0 0 sh σ0 [(jmr 44), (jmi v1)] (jrv 4 x) σ' := by
  refine jMC_of (kd := 4) (by decide) rfl h ?_
  intro X hX
  have hG : jGd X (jE_Pairs_allFit F) jtb_Pairs_allFit := jGd_of hX jtk_Pairs_allFit (jcon jfl_X4_11 (jcon jfl_X4_31 jnil)) (jcon (jTB_at 1271 rfl rfl) jnil) jnil jnil hs
  have rr66 : ∀ (k2 : Int → Int → jxS → Option jxR) (h2 : ∀ v1 v2 σ, jRf X (k2 v1 v2 σ) 2 [some (jmr 44), some (jmi v1), some (jmi v2), none, none, none] [] σ) (v1 v2 v4 t0 : Int) (σ : jxS), jRf X (Pairs_allFit_c66 F k2 v1 v2 v4 t0 σ) 66 [some (jmr 44), some (jmi v1), some (jmi v2), none, some (jmi v4), none] [(jmi t0)] σ := by
    intro k2 h2 v1 v2 v4 t0 σ
    exact jRf_by (jex_ok hG (cs := [(2, [some (.inr (some 44)), some (.inl 0), some (.inl 0), none, none, none], [], fun xs σ => match xs with
      | [v1, v2] => k2 v1 v2 σ
      | _ => none)]) (jcon (jl2 (fun y0 y1 => jl0 (fun σ => h2 y0 y1 σ))) jnil) 54 66 [some (jmr 44), some (jmi v1), some (jmi v2), none, some (jmi v4), none] [(jmi t0)] σ) rfl
  have rr65 : ∀ (k2 : Int → Int → jxS → Option jxR) (h2 : ∀ v1 v2 σ, jRf X (k2 v1 v2 σ) 2 [some (jmr 44), some (jmi v1), some (jmi v2), none, none, none] [] σ) (v1 v2 v4 : Int) (σ : jxS), jRf X (Pairs_allFit_c65 F k2 v1 v2 v4 σ) 65 [some (jmr 44), some (jmi v1), some (jmi v2), none, some (jmi v4), none] [] σ := by
    intro k2 h2 v1 v2 v4 σ
    exact jRf_by (jex_ok hG (cs := [(66, [some (.inr (some 44)), some (.inl 0), some (.inl 0), none, some (.inl 0), none], [(.inl 0)], fun xs σ => match xs with
      | [v1, v2, v4, t0] => Pairs_allFit_c66 F k2 v1 v2 v4 t0 σ
      | _ => none)]) (jcon (jl3 (fun y0 y1 y2 => jl1 (fun y3 => (fun σ => rr66 _ h2 y0 y1 y2 y3 σ)))) jnil) 54 65 [some (jmr 44), some (jmi v1), some (jmi v2), none, some (jmi v4), none] [] σ) rfl
  have rr49 : ∀ (k2 : Int → Int → jxS → Option jxR) (h2 : ∀ v1 v2 σ, jRf X (k2 v1 v2 σ) 2 [some (jmr 44), some (jmi v1), some (jmi v2), none, none, none] [] σ) (v1 v2 v3 t0 : Int) (σ : jxS), jRf X (Pairs_allFit_c49 F k2 v1 v2 v3 t0 σ) 49 [some (jmr 44), some (jmi v1), some (jmi v2), some (jmi v3), none, none] [(jmi t0)] σ := by
    intro k2 h2 v1 v2 v3 t0 σ
    exact jRf_by (jex_ok hG (cs := [(65, [some (.inr (some 44)), some (.inl 0), some (.inl 0), none, some (.inl 0), none], [], fun xs σ => match xs with
      | [v1, v2, v4] => Pairs_allFit_c65 F k2 v1 v2 v4 σ
      | _ => none), (66, [some (.inr (some 44)), some (.inl 0), some (.inl 0), none, some (.inl 0), none], [(.inl 0)], fun xs σ => match xs with
      | [v1, v2, v4, t0] => Pairs_allFit_c66 F k2 v1 v2 v4 t0 σ
      | _ => none)]) (jcon (jl3 (fun y0 y1 y2 => jl0 (fun σ => rr65 _ h2 y0 y1 y2 σ))) (jcon (jl3 (fun y0 y1 y2 => jl1 (fun y3 => (fun σ => rr66 _ h2 y0 y1 y2 y3 σ)))) jnil)) 54 49 [some (jmr 44), some (jmi v1), some (jmi v2), some (jmi v3), none, none] [(jmi t0)] σ) rfl
  have rr2 : ∀ (fu : Nat) (v1 v2 : Int) (σ : jxS), jRf X (Pairs_allFit_c2 F fu v1 v2 σ) 2 [some (jmr 44), some (jmi v1), some (jmi v2), none, none, none] [] σ := by
    intro  fu
    induction fu with
    | zero => intros; exact jRf_none
    | succ fu ih =>
      intro v1 v2 σ
      exact jRf_by (jex_ok hG (cs := [(49, [some (.inr (some 44)), some (.inl 0), some (.inl 0), some (.inl 0), none, none], [(.inl 0)], fun xs σ => match xs with
      | [v1, v2, v3, t0] => Pairs_allFit_c49 F (Pairs_allFit_c2 F fu) v1 v2 v3 t0 σ
      | _ => none)]) (jcon (jl3 (fun y0 y1 y2 => jl1 (fun y3 => (fun σ => rr49 _ ih y0 y1 y2 y3 σ)))) jnil) 54 2 [some (jmr 44), some (jmi v1), some (jmi v2), none, none, none] [] σ) rfl
  exact jRf_by (jex_ok hG (cs := [(2, [some (.inr (some 44)), some (.inl 0), some (.inl 0), none, none, none], [], fun xs σ => match xs with
      | [v1, v2] => Pairs_allFit_c2 F F v1 v2 σ
      | _ => none)]) (jcon (jl2 (fun y0 y1 => jl0 (fun σ => rr2 F y0 y1 σ))) jnil) 54 0 [some (jmr 44), some (jmi v1), none, none, none, none] [] σ0) rfl
theorem jad_Pairs_allFit (F : Nat) (sh : List jxC) (hs : jHas sh jc_C) : jAdV (jca_Pairs_allFit F) yX4_allFit cX4_allFit 6 4 0 0 1 sh := by
  intro as σ k x σ' h
  unfold jca_Pairs_allFit at h
  split at h
  · rename_i t0 v1
    obtain ⟨g0, hh1⟩ := jcond h
    obtain rfl := jbeq g0
    obtain ⟨r, h1, h2⟩ := Option.bind_eq_some_iff.mp hh1
    exact ⟨_, _, h2, ⟨_, _, _, _, _, _, rfl, rfl, (hs _ (jkf_in (l := jc_C) (idx := 44) rfl)).1, rfl⟩, jmet_Pairs_allFit F  sh hs σ v1 r.1 r.2 h1⟩
  · cases h
