/-! Contracts: Quotient_size LL1_elements Quotient_isKnown Quotient_has Quotient_wordOf LL1_word Quotient_nextOf LL1_next Quotient_product LL1_times Quotient_lostSet -/
def jtb_Quotient_size : List (Nat × Instr) := [(0, .aload_n 0), (1, .getfield 37), (4, .ireturn)]
theorem jtk_Quotient_size : jtok cX6_size jtb_Quotient_size = true := by decide +kernel
def jE_Quotient_size (F : Nat) : jxE := jmk [(37, 6, 7)] [] [] [] 1 jc_C
set_option maxRecDepth 100000 in
set_option maxHeartbeats 4000000 in
theorem jmet_Quotient_size_48 (F : Nat) (sh : List jxC) (hs : jHas sh jc_C) (σ0 : jxS) (x : Int) (σ' : jxS) (h : Quotient_size F 48 σ0 = some (x, σ')) : jMC yX6_size cX6_size 1 (jrt 1) 0 0 sh σ0 [(jmr 48)] (jrv 1 x) σ' := by
  refine jMC_of (kd := 1) (by decide) rfl h ?_
  intro X hX
  have hG : jGd X (jE_Quotient_size F) jtb_Quotient_size := jGd_of hX jtk_Quotient_size (jcon jfl_X6_37 jnil) jnil jnil jnil hs
  exact jRf_by (jex_ok hG (cs := []) jnil 6 0 [some (jmr 48)] [] σ0) rfl
set_option maxRecDepth 100000 in
set_option maxHeartbeats 4000000 in
theorem jmet_Quotient_size_53 (F : Nat) (sh : List jxC) (hs : jHas sh jc_C) (σ0 : jxS) (x : Int) (σ' : jxS) (h : Quotient_size F 53 σ0 = some (x, σ')) : jMC yX6_size cX6_size 1 (jrt 1) 0 0 sh σ0 [(jmr 53)] (jrv 1 x) σ' := by
  refine jMC_of (kd := 1) (by decide) rfl h ?_
  intro X hX
  have hG : jGd X (jE_Quotient_size F) jtb_Quotient_size := jGd_of hX jtk_Quotient_size (jcon jfl_X6_37 jnil) jnil jnil jnil hs
  exact jRf_by (jex_ok hG (cs := []) jnil 6 0 [some (jmr 53)] [] σ0) rfl
set_option maxRecDepth 100000 in
set_option maxHeartbeats 4000000 in
theorem jmet_Quotient_size_58 (F : Nat) (sh : List jxC) (hs : jHas sh jc_C) (σ0 : jxS) (x : Int) (σ' : jxS) (h : Quotient_size F 58 σ0 = some (x, σ')) : jMC yX6_size cX6_size 1 (jrt 1) 0 0 sh σ0 [(jmr 58)] (jrv 1 x) σ' := by
  refine jMC_of (kd := 1) (by decide) rfl h ?_
  intro X hX
  have hG : jGd X (jE_Quotient_size F) jtb_Quotient_size := jGd_of hX jtk_Quotient_size (jcon jfl_X6_37 jnil) jnil jnil jnil hs
  exact jRf_by (jex_ok hG (cs := []) jnil 6 0 [some (jmr 58)] [] σ0) rfl
set_option maxRecDepth 100000 in
set_option maxHeartbeats 4000000 in
theorem jmet_Quotient_size_63 (F : Nat) (sh : List jxC) (hs : jHas sh jc_C) (σ0 : jxS) (x : Int) (σ' : jxS) (h : Quotient_size F 63 σ0 = some (x, σ')) : jMC yX6_size cX6_size 1 (jrt 1) 0 0 sh σ0 [(jmr 63)] (jrv 1 x) σ' := by
  refine jMC_of (kd := 1) (by decide) rfl h ?_
  intro X hX
  have hG : jGd X (jE_Quotient_size F) jtb_Quotient_size := jGd_of hX jtk_Quotient_size (jcon jfl_X6_37 jnil) jnil jnil jnil hs
  exact jRf_by (jex_ok hG (cs := []) jnil 6 0 [some (jmr 63)] [] σ0) rfl
set_option maxRecDepth 100000 in
set_option maxHeartbeats 4000000 in
theorem jmet_Quotient_size_68 (F : Nat) (sh : List jxC) (hs : jHas sh jc_C) (σ0 : jxS) (x : Int) (σ' : jxS) (h : Quotient_size F 68 σ0 = some (x, σ')) : jMC yX6_size cX6_size 1 (jrt 1) 0 0 sh σ0 [(jmr 68)] (jrv 1 x) σ' := by
  refine jMC_of (kd := 1) (by decide) rfl h ?_
  intro X hX
  have hG : jGd X (jE_Quotient_size F) jtb_Quotient_size := jGd_of hX jtk_Quotient_size (jcon jfl_X6_37 jnil) jnil jnil jnil hs
  exact jRf_by (jex_ok hG (cs := []) jnil 6 0 [some (jmr 68)] [] σ0) rfl
set_option maxRecDepth 100000 in
set_option maxHeartbeats 4000000 in
theorem jmet_Quotient_size_73 (F : Nat) (sh : List jxC) (hs : jHas sh jc_C) (σ0 : jxS) (x : Int) (σ' : jxS) (h : Quotient_size F 73 σ0 = some (x, σ')) : jMC yX6_size cX6_size 1 (jrt 1) 0 0 sh σ0 [(jmr 73)] (jrv 1 x) σ' := by
  refine jMC_of (kd := 1) (by decide) rfl h ?_
  intro X hX
  have hG : jGd X (jE_Quotient_size F) jtb_Quotient_size := jGd_of hX jtk_Quotient_size (jcon jfl_X6_37 jnil) jnil jnil jnil hs
  exact jRf_by (jex_ok hG (cs := []) jnil 6 0 [some (jmr 73)] [] σ0) rfl
theorem jmet_Quotient_size (F : Nat) (q : Nat) (hq : q ∈ jids_Quotient_size_q) (sh : List jxC) (hs : jHas sh jc_C) (σ0 : jxS) (x : Int) (σ' : jxS) (h : Quotient_size F q σ0 = some (x, σ')) : jMC yX6_size cX6_size 1 (jrt 1) 0 0 sh σ0 [(jmr q)] (jrv 1 x) σ' := by
  simp only [jids_Quotient_size_q, List.mem_cons, List.not_mem_nil, or_false] at hq
  rcases hq with rfl | rfl | rfl | rfl | rfl | rfl
  · exact jmet_Quotient_size_48 F sh hs σ0  x σ' h
  · exact jmet_Quotient_size_53 F sh hs σ0  x σ' h
  · exact jmet_Quotient_size_58 F sh hs σ0  x σ' h
  · exact jmet_Quotient_size_63 F sh hs σ0  x σ' h
  · exact jmet_Quotient_size_68 F sh hs σ0  x σ' h
  · exact jmet_Quotient_size_73 F sh hs σ0  x σ' h
theorem jad_Quotient_size (F : Nat) (sh : List jxC) (hs : jHas sh jc_C) : jAdV (jca_Quotient_size F) yX6_size cX6_size 1 1 0 0 0 sh := by
  intro as σ k x σ' h
  unfold jca_Quotient_size at h
  split at h
  · rename_i t0
    obtain ⟨g0, hh1⟩ := jcond h
    have g0 := jin_of g0
    obtain ⟨r, h1, h2⟩ := Option.bind_eq_some_iff.mp hh1
    exact ⟨_, _, h2, (by obtain ⟨fks, hfk⟩ := jrc_Quotient hs g0; exact ⟨_, _, _, _, _, _, rfl, rfl, hfk, rfl⟩), jmet_Quotient_size F t0 g0 sh hs σ  r.1 r.2 h1⟩
  · cases h
def jtb_LL1_elements : List (Nat × Instr) := [(0, .aload_n 0), (1, .iload_n 1), (2, .invokevirtual 193), (5, .astore_n 2), (6, .aload_n 2), (7, .ifnonnull 7), (10, .iconst (-1)), (11, .goto 7), (14, .aload_n 2), (15, .invokevirtual 197), (18, .ireturn)]
theorem jtk_LL1_elements : jtok cX11_elements jtb_LL1_elements = true := by decide +kernel
set_option maxRecDepth 100000 in
theorem jlk_X11_193 : jLkV RX11 193 yX11_quotientOf cX11_quotientOf 3 3 1 := ⟨(jTB_at 1135 rfl rfl), (jTB_at 1137 rfl rfl), (jTB_at 36 rfl rfl), (jTB_at 112 rfl rfl), jTB_at 1138 rfl rfl, ⟨by decide, by decide, by decide +kernel⟩⟩
set_option maxRecDepth 100000 in
theorem jlk_X11_197 : jLkV RX11 197 yX6_size cX6_size 1 1 0 := ⟨(jTB_at 1158 rfl rfl), (jTB_at 1159 rfl rfl), (jTB_at 1160 rfl rfl), (jTB_at 128 rfl rfl), jTB_at 1161 rfl rfl, ⟨by decide, by decide, by decide +kernel⟩⟩
def jE_LL1_elements (F : Nat) : jxE := jmk [] [] [] [(193, (2, false), jca_LL1_quotientOf F), (197, (1, false), jca_Quotient_size F)] 1 jc_L1
set_option maxRecDepth 100000 in
set_option maxHeartbeats 4000000 in
theorem jmet_LL1_elements (F : Nat) (sh : List jxC) (hs : jHas sh jc_L1) (σ0 : jxS) (v1 : Int) (x : Int) (σ' : jxS) (h : LL1_elements F σ0 v1 = some (x, σ')) : jMC yX11_elements cX11_elements 3 (jrt 1) 7 165 sh σ0 [(jmr 0), (jmi v1)] (jrv 1 x) σ' := by
  refine jMC_of (kd := 1) (by decide) rfl h ?_
  intro X hX
  have hG : jGd X (jE_LL1_elements F) jtb_LL1_elements := jGd_of hX jtk_LL1_elements jnil jnil jnil (jcon (jsV jlk_X11_193 ⟨rfl, rfl⟩ (jad_LL1_quotientOf F sh hs)) (jcon (jsV jlk_X11_197 ⟨rfl, rfl⟩ (jad_Quotient_size F sh (jh_L1C hs))) jnil)) hs
  exact jRf_by (jex_ok hG (cs := []) jnil 14 0 [some (jmr 0), some (jmi v1), none] [] σ0) rfl
theorem jad_LL1_elements (F : Nat) (sh : List jxC) (hs : jHas sh jc_L1) : jAdV (jca_LL1_elements F) yX11_elements cX11_elements 3 1 7 165 1 sh := by
  intro as σ k x σ' h
  unfold jca_LL1_elements at h
  split at h
  · rename_i t0 v1
    obtain ⟨g0, hh1⟩ := jcond h
    obtain rfl := jbeq g0
    obtain ⟨r, h1, h2⟩ := Option.bind_eq_some_iff.mp hh1
    exact ⟨_, _, h2, ⟨_, _, _, _, _, _, rfl, rfl, (hs _ (jkf_in (l := jc_L1) (idx := 0) rfl)).1, rfl⟩, jmet_LL1_elements F  sh hs σ v1 r.1 r.2 h1⟩
  · cases h
def jtb_Quotient_isKnown : List (Nat × Instr) := [(0, .aload_n 0), (1, .getfield 37), (4, .ifCond .le 7), (7, .iconst 1), (8, .goto 4), (11, .iconst 0), (12, .ireturn)]
theorem jtk_Quotient_isKnown : jtok cX6_isKnown jtb_Quotient_isKnown = true := by decide +kernel
def jE_Quotient_isKnown (F : Nat) : jxE := jmk [(37, 6, 7)] [] [] [] 4 jc_C
set_option maxRecDepth 100000 in
set_option maxHeartbeats 4000000 in
theorem jmet_Quotient_isKnown_48 (F : Nat) (sh : List jxC) (hs : jHas sh jc_C) (σ0 : jxS) (x : Int) (σ' : jxS) (h : Quotient_isKnown F 48 σ0 = some (x, σ')) : jMC yX6_isKnown cX6_isKnown 1 (jrt 4) 0 0 sh σ0 [(jmr 48)] (jrv 4 x) σ' := by
  refine jMC_of (kd := 4) (by decide) rfl h ?_
  intro X hX
  have hG : jGd X (jE_Quotient_isKnown F) jtb_Quotient_isKnown := jGd_of hX jtk_Quotient_isKnown (jcon jfl_X6_37 jnil) jnil jnil jnil hs
  exact jRf_by (jex_ok hG (cs := []) jnil 10 0 [some (jmr 48)] [] σ0) rfl
set_option maxRecDepth 100000 in
set_option maxHeartbeats 4000000 in
theorem jmet_Quotient_isKnown_53 (F : Nat) (sh : List jxC) (hs : jHas sh jc_C) (σ0 : jxS) (x : Int) (σ' : jxS) (h : Quotient_isKnown F 53 σ0 = some (x, σ')) : jMC yX6_isKnown cX6_isKnown 1 (jrt 4) 0 0 sh σ0 [(jmr 53)] (jrv 4 x) σ' := by
  refine jMC_of (kd := 4) (by decide) rfl h ?_
  intro X hX
  have hG : jGd X (jE_Quotient_isKnown F) jtb_Quotient_isKnown := jGd_of hX jtk_Quotient_isKnown (jcon jfl_X6_37 jnil) jnil jnil jnil hs
  exact jRf_by (jex_ok hG (cs := []) jnil 10 0 [some (jmr 53)] [] σ0) rfl
set_option maxRecDepth 100000 in
set_option maxHeartbeats 4000000 in
theorem jmet_Quotient_isKnown_58 (F : Nat) (sh : List jxC) (hs : jHas sh jc_C) (σ0 : jxS) (x : Int) (σ' : jxS) (h : Quotient_isKnown F 58 σ0 = some (x, σ')) : jMC yX6_isKnown cX6_isKnown 1 (jrt 4) 0 0 sh σ0 [(jmr 58)] (jrv 4 x) σ' := by
  refine jMC_of (kd := 4) (by decide) rfl h ?_
  intro X hX
  have hG : jGd X (jE_Quotient_isKnown F) jtb_Quotient_isKnown := jGd_of hX jtk_Quotient_isKnown (jcon jfl_X6_37 jnil) jnil jnil jnil hs
  exact jRf_by (jex_ok hG (cs := []) jnil 10 0 [some (jmr 58)] [] σ0) rfl
set_option maxRecDepth 100000 in
set_option maxHeartbeats 4000000 in
theorem jmet_Quotient_isKnown_63 (F : Nat) (sh : List jxC) (hs : jHas sh jc_C) (σ0 : jxS) (x : Int) (σ' : jxS) (h : Quotient_isKnown F 63 σ0 = some (x, σ')) : jMC yX6_isKnown cX6_isKnown 1 (jrt 4) 0 0 sh σ0 [(jmr 63)] (jrv 4 x) σ' := by
  refine jMC_of (kd := 4) (by decide) rfl h ?_
  intro X hX
  have hG : jGd X (jE_Quotient_isKnown F) jtb_Quotient_isKnown := jGd_of hX jtk_Quotient_isKnown (jcon jfl_X6_37 jnil) jnil jnil jnil hs
  exact jRf_by (jex_ok hG (cs := []) jnil 10 0 [some (jmr 63)] [] σ0) rfl
set_option maxRecDepth 100000 in
set_option maxHeartbeats 4000000 in
theorem jmet_Quotient_isKnown_68 (F : Nat) (sh : List jxC) (hs : jHas sh jc_C) (σ0 : jxS) (x : Int) (σ' : jxS) (h : Quotient_isKnown F 68 σ0 = some (x, σ')) : jMC yX6_isKnown cX6_isKnown 1 (jrt 4) 0 0 sh σ0 [(jmr 68)] (jrv 4 x) σ' := by
  refine jMC_of (kd := 4) (by decide) rfl h ?_
  intro X hX
  have hG : jGd X (jE_Quotient_isKnown F) jtb_Quotient_isKnown := jGd_of hX jtk_Quotient_isKnown (jcon jfl_X6_37 jnil) jnil jnil jnil hs
  exact jRf_by (jex_ok hG (cs := []) jnil 10 0 [some (jmr 68)] [] σ0) rfl
set_option maxRecDepth 100000 in
set_option maxHeartbeats 4000000 in
theorem jmet_Quotient_isKnown_73 (F : Nat) (sh : List jxC) (hs : jHas sh jc_C) (σ0 : jxS) (x : Int) (σ' : jxS) (h : Quotient_isKnown F 73 σ0 = some (x, σ')) : jMC yX6_isKnown cX6_isKnown 1 (jrt 4) 0 0 sh σ0 [(jmr 73)] (jrv 4 x) σ' := by
  refine jMC_of (kd := 4) (by decide) rfl h ?_
  intro X hX
  have hG : jGd X (jE_Quotient_isKnown F) jtb_Quotient_isKnown := jGd_of hX jtk_Quotient_isKnown (jcon jfl_X6_37 jnil) jnil jnil jnil hs
  exact jRf_by (jex_ok hG (cs := []) jnil 10 0 [some (jmr 73)] [] σ0) rfl
theorem jmet_Quotient_isKnown (F : Nat) (q : Nat) (hq : q ∈ jids_Quotient_isKnown_q) (sh : List jxC) (hs : jHas sh jc_C) (σ0 : jxS) (x : Int) (σ' : jxS) (h : Quotient_isKnown F q σ0 = some (x, σ')) : jMC yX6_isKnown cX6_isKnown 1 (jrt 4) 0 0 sh σ0 [(jmr q)] (jrv 4 x) σ' := by
  simp only [jids_Quotient_isKnown_q, List.mem_cons, List.not_mem_nil, or_false] at hq
  rcases hq with rfl | rfl | rfl | rfl | rfl | rfl
  · exact jmet_Quotient_isKnown_48 F sh hs σ0  x σ' h
  · exact jmet_Quotient_isKnown_53 F sh hs σ0  x σ' h
  · exact jmet_Quotient_isKnown_58 F sh hs σ0  x σ' h
  · exact jmet_Quotient_isKnown_63 F sh hs σ0  x σ' h
  · exact jmet_Quotient_isKnown_68 F sh hs σ0  x σ' h
  · exact jmet_Quotient_isKnown_73 F sh hs σ0  x σ' h
theorem jad_Quotient_isKnown (F : Nat) (sh : List jxC) (hs : jHas sh jc_C) : jAdV (jca_Quotient_isKnown F) yX6_isKnown cX6_isKnown 1 4 0 0 0 sh := by
  intro as σ k x σ' h
  unfold jca_Quotient_isKnown at h
  split at h
  · rename_i t0
    obtain ⟨g0, hh1⟩ := jcond h
    have g0 := jin_of g0
    obtain ⟨r, h1, h2⟩ := Option.bind_eq_some_iff.mp hh1
    exact ⟨_, _, h2, (by obtain ⟨fks, hfk⟩ := jrc_Quotient hs g0; exact ⟨_, _, _, _, _, _, rfl, rfl, hfk, rfl⟩), jmet_Quotient_isKnown F t0 g0 sh hs σ  r.1 r.2 h1⟩
  · cases h
def jtb_Quotient_has : List (Nat × Instr) := [(0, .iload_n 1), (1, .ifCond .lt 15), (4, .iload_n 1), (5, .aload_n 0), (6, .getfield 37), (9, .if_icmp .ge 7), (12, .iconst 1), (13, .goto 4), (16, .iconst 0), (17, .ireturn)]
theorem jtk_Quotient_has : jtok cX6_has jtb_Quotient_has = true := by decide +kernel
def jE_Quotient_has (F : Nat) : jxE := jmk [(37, 6, 7)] [] [] [] 4 jc_C
set_option maxRecDepth 100000 in
set_option maxHeartbeats 4000000 in
theorem jmet_Quotient_has_48 (F : Nat) (sh : List jxC) (hs : jHas sh jc_C) (σ0 : jxS) (v1 : Int) (x : Int) (σ' : jxS) (h : Quotient_has F 48 σ0 v1 = some (x, σ')) : jMC yX6_has cX6_has 2 (jrt 4) 0 0 sh σ0 [(jmr 48), (jmi v1)] (jrv 4 x) σ' := by
  refine jMC_of (kd := 4) (by decide) rfl h ?_
  intro X hX
  have hG : jGd X (jE_Quotient_has F) jtb_Quotient_has := jGd_of hX jtk_Quotient_has (jcon jfl_X6_37 jnil) jnil jnil jnil hs
  exact jRf_by (jex_ok hG (cs := []) jnil 13 0 [some (jmr 48), some (jmi v1)] [] σ0) rfl
set_option maxRecDepth 100000 in
set_option maxHeartbeats 4000000 in
theorem jmet_Quotient_has_53 (F : Nat) (sh : List jxC) (hs : jHas sh jc_C) (σ0 : jxS) (v1 : Int) (x : Int) (σ' : jxS) (h : Quotient_has F 53 σ0 v1 = some (x, σ')) : jMC yX6_has cX6_has 2 (jrt 4) 0 0 sh σ0 [(jmr 53), (jmi v1)] (jrv 4 x) σ' := by
  refine jMC_of (kd := 4) (by decide) rfl h ?_
  intro X hX
  have hG : jGd X (jE_Quotient_has F) jtb_Quotient_has := jGd_of hX jtk_Quotient_has (jcon jfl_X6_37 jnil) jnil jnil jnil hs
  exact jRf_by (jex_ok hG (cs := []) jnil 13 0 [some (jmr 53), some (jmi v1)] [] σ0) rfl
set_option maxRecDepth 100000 in
set_option maxHeartbeats 4000000 in
theorem jmet_Quotient_has_58 (F : Nat) (sh : List jxC) (hs : jHas sh jc_C) (σ0 : jxS) (v1 : Int) (x : Int) (σ' : jxS) (h : Quotient_has F 58 σ0 v1 = some (x, σ')) : jMC yX6_has cX6_has 2 (jrt 4) 0 0 sh σ0 [(jmr 58), (jmi v1)] (jrv 4 x) σ' := by
  refine jMC_of (kd := 4) (by decide) rfl h ?_
  intro X hX
  have hG : jGd X (jE_Quotient_has F) jtb_Quotient_has := jGd_of hX jtk_Quotient_has (jcon jfl_X6_37 jnil) jnil jnil jnil hs
  exact jRf_by (jex_ok hG (cs := []) jnil 13 0 [some (jmr 58), some (jmi v1)] [] σ0) rfl
set_option maxRecDepth 100000 in
set_option maxHeartbeats 4000000 in
theorem jmet_Quotient_has_63 (F : Nat) (sh : List jxC) (hs : jHas sh jc_C) (σ0 : jxS) (v1 : Int) (x : Int) (σ' : jxS) (h : Quotient_has F 63 σ0 v1 = some (x, σ')) : jMC yX6_has cX6_has 2 (jrt 4) 0 0 sh σ0 [(jmr 63), (jmi v1)] (jrv 4 x) σ' := by
  refine jMC_of (kd := 4) (by decide) rfl h ?_
  intro X hX
  have hG : jGd X (jE_Quotient_has F) jtb_Quotient_has := jGd_of hX jtk_Quotient_has (jcon jfl_X6_37 jnil) jnil jnil jnil hs
  exact jRf_by (jex_ok hG (cs := []) jnil 13 0 [some (jmr 63), some (jmi v1)] [] σ0) rfl
set_option maxRecDepth 100000 in
set_option maxHeartbeats 4000000 in
theorem jmet_Quotient_has_68 (F : Nat) (sh : List jxC) (hs : jHas sh jc_C) (σ0 : jxS) (v1 : Int) (x : Int) (σ' : jxS) (h : Quotient_has F 68 σ0 v1 = some (x, σ')) : jMC yX6_has cX6_has 2 (jrt 4) 0 0 sh σ0 [(jmr 68), (jmi v1)] (jrv 4 x) σ' := by
  refine jMC_of (kd := 4) (by decide) rfl h ?_
  intro X hX
  have hG : jGd X (jE_Quotient_has F) jtb_Quotient_has := jGd_of hX jtk_Quotient_has (jcon jfl_X6_37 jnil) jnil jnil jnil hs
  exact jRf_by (jex_ok hG (cs := []) jnil 13 0 [some (jmr 68), some (jmi v1)] [] σ0) rfl
set_option maxRecDepth 100000 in
set_option maxHeartbeats 4000000 in
theorem jmet_Quotient_has_73 (F : Nat) (sh : List jxC) (hs : jHas sh jc_C) (σ0 : jxS) (v1 : Int) (x : Int) (σ' : jxS) (h : Quotient_has F 73 σ0 v1 = some (x, σ')) : jMC yX6_has cX6_has 2 (jrt 4) 0 0 sh σ0 [(jmr 73), (jmi v1)] (jrv 4 x) σ' := by
  refine jMC_of (kd := 4) (by decide) rfl h ?_
  intro X hX
  have hG : jGd X (jE_Quotient_has F) jtb_Quotient_has := jGd_of hX jtk_Quotient_has (jcon jfl_X6_37 jnil) jnil jnil jnil hs
  exact jRf_by (jex_ok hG (cs := []) jnil 13 0 [some (jmr 73), some (jmi v1)] [] σ0) rfl
theorem jmet_Quotient_has (F : Nat) (q : Nat) (hq : q ∈ jids_Quotient_has_q) (sh : List jxC) (hs : jHas sh jc_C) (σ0 : jxS) (v1 : Int) (x : Int) (σ' : jxS) (h : Quotient_has F q σ0 v1 = some (x, σ')) : jMC yX6_has cX6_has 2 (jrt 4) 0 0 sh σ0 [(jmr q), (jmi v1)] (jrv 4 x) σ' := by
  simp only [jids_Quotient_has_q, List.mem_cons, List.not_mem_nil, or_false] at hq
  rcases hq with rfl | rfl | rfl | rfl | rfl | rfl
  · exact jmet_Quotient_has_48 F sh hs σ0 v1 x σ' h
  · exact jmet_Quotient_has_53 F sh hs σ0 v1 x σ' h
  · exact jmet_Quotient_has_58 F sh hs σ0 v1 x σ' h
  · exact jmet_Quotient_has_63 F sh hs σ0 v1 x σ' h
  · exact jmet_Quotient_has_68 F sh hs σ0 v1 x σ' h
  · exact jmet_Quotient_has_73 F sh hs σ0 v1 x σ' h
theorem jad_Quotient_has (F : Nat) (sh : List jxC) (hs : jHas sh jc_C) : jAdV (jca_Quotient_has F) yX6_has cX6_has 2 4 0 0 1 sh := by
  intro as σ k x σ' h
  unfold jca_Quotient_has at h
  split at h
  · rename_i t0 v1
    obtain ⟨g0, hh1⟩ := jcond h
    have g0 := jin_of g0
    obtain ⟨r, h1, h2⟩ := Option.bind_eq_some_iff.mp hh1
    exact ⟨_, _, h2, (by obtain ⟨fks, hfk⟩ := jrc_Quotient hs g0; exact ⟨_, _, _, _, _, _, rfl, rfl, hfk, rfl⟩), jmet_Quotient_has F t0 g0 sh hs σ v1 r.1 r.2 h1⟩
  · cases h
def jtb_Quotient_wordOf : List (Nat × Instr) := [(0, .aload_n 0), (1, .iload_n 1), (2, .invokevirtual 70), (5, .ifCond .eq 12), (8, .aload_n 0), (9, .getfield 9), (12, .iload_n 1), (13, .iaload), (14, .goto 4), (17, .iconst 0), (18, .ireturn)]
theorem jtk_Quotient_wordOf : jtok cX6_wordOf jtb_Quotient_wordOf = true := by decide +kernel
set_option maxRecDepth 100000 in
theorem jlk_X6_70 : jLkV RX6 70 yX6_has cX6_has 2 4 1 := ⟨(jTB_at 1178 rfl rfl), (jTB_at 1171 rfl rfl), (jTB_at 1172 rfl rfl), (jTB_at 128 rfl rfl), jTB_at 1173 rfl rfl, ⟨by decide, by decide, by decide +kernel⟩⟩
def jE_Quotient_wordOf (F : Nat) : jxE := jmk [(9, 6, 3)] [] [] [(70, (2, false), jca_Quotient_has F)] 1 jc_C
set_option maxRecDepth 100000 in
set_option maxHeartbeats 4000000 in
theorem jmet_Quotient_wordOf_48 (F : Nat) (sh : List jxC) (hs : jHas sh jc_C) (σ0 : jxS) (v1 : Int) (x : Int) (σ' : jxS) (h : Quotient_wordOf F 48 σ0 v1 = some (x, σ')) : jMC yX6_wordOf cX6_wordOf 2 (jrt 1) 1 21 sh σ0 [(jmr 48), (jmi v1)] (jrv 1 x) σ' := by
  refine jMC_of (kd := 1) (by decide) rfl h ?_
  intro X hX
  have hG : jGd X (jE_Quotient_wordOf F) jtb_Quotient_wordOf := jGd_of hX jtk_Quotient_wordOf (jcon jfl_X6_9 jnil) jnil jnil (jcon (jsV jlk_X6_70 ⟨rfl, rfl⟩ (jad_Quotient_has F sh hs)) jnil) hs
  exact jRf_by (jex_ok hG (cs := []) jnil 14 0 [some (jmr 48), some (jmi v1)] [] σ0) rfl
set_option maxRecDepth 100000 in
set_option maxHeartbeats 4000000 in
theorem jmet_Quotient_wordOf_53 (F : Nat) (sh : List jxC) (hs : jHas sh jc_C) (σ0 : jxS) (v1 : Int) (x : Int) (σ' : jxS) (h : Quotient_wordOf F 53 σ0 v1 = some (x, σ')) : jMC yX6_wordOf cX6_wordOf 2 (jrt 1) 1 21 sh σ0 [(jmr 53), (jmi v1)] (jrv 1 x) σ' := by
  refine jMC_of (kd := 1) (by decide) rfl h ?_
  intro X hX
  have hG : jGd X (jE_Quotient_wordOf F) jtb_Quotient_wordOf := jGd_of hX jtk_Quotient_wordOf (jcon jfl_X6_9 jnil) jnil jnil (jcon (jsV jlk_X6_70 ⟨rfl, rfl⟩ (jad_Quotient_has F sh hs)) jnil) hs
  exact jRf_by (jex_ok hG (cs := []) jnil 14 0 [some (jmr 53), some (jmi v1)] [] σ0) rfl
set_option maxRecDepth 100000 in
set_option maxHeartbeats 4000000 in
theorem jmet_Quotient_wordOf_58 (F : Nat) (sh : List jxC) (hs : jHas sh jc_C) (σ0 : jxS) (v1 : Int) (x : Int) (σ' : jxS) (h : Quotient_wordOf F 58 σ0 v1 = some (x, σ')) : jMC yX6_wordOf cX6_wordOf 2 (jrt 1) 1 21 sh σ0 [(jmr 58), (jmi v1)] (jrv 1 x) σ' := by
  refine jMC_of (kd := 1) (by decide) rfl h ?_
  intro X hX
  have hG : jGd X (jE_Quotient_wordOf F) jtb_Quotient_wordOf := jGd_of hX jtk_Quotient_wordOf (jcon jfl_X6_9 jnil) jnil jnil (jcon (jsV jlk_X6_70 ⟨rfl, rfl⟩ (jad_Quotient_has F sh hs)) jnil) hs
  exact jRf_by (jex_ok hG (cs := []) jnil 14 0 [some (jmr 58), some (jmi v1)] [] σ0) rfl
set_option maxRecDepth 100000 in
set_option maxHeartbeats 4000000 in
theorem jmet_Quotient_wordOf_63 (F : Nat) (sh : List jxC) (hs : jHas sh jc_C) (σ0 : jxS) (v1 : Int) (x : Int) (σ' : jxS) (h : Quotient_wordOf F 63 σ0 v1 = some (x, σ')) : jMC yX6_wordOf cX6_wordOf 2 (jrt 1) 1 21 sh σ0 [(jmr 63), (jmi v1)] (jrv 1 x) σ' := by
  refine jMC_of (kd := 1) (by decide) rfl h ?_
  intro X hX
  have hG : jGd X (jE_Quotient_wordOf F) jtb_Quotient_wordOf := jGd_of hX jtk_Quotient_wordOf (jcon jfl_X6_9 jnil) jnil jnil (jcon (jsV jlk_X6_70 ⟨rfl, rfl⟩ (jad_Quotient_has F sh hs)) jnil) hs
  exact jRf_by (jex_ok hG (cs := []) jnil 14 0 [some (jmr 63), some (jmi v1)] [] σ0) rfl
set_option maxRecDepth 100000 in
set_option maxHeartbeats 4000000 in
theorem jmet_Quotient_wordOf_68 (F : Nat) (sh : List jxC) (hs : jHas sh jc_C) (σ0 : jxS) (v1 : Int) (x : Int) (σ' : jxS) (h : Quotient_wordOf F 68 σ0 v1 = some (x, σ')) : jMC yX6_wordOf cX6_wordOf 2 (jrt 1) 1 21 sh σ0 [(jmr 68), (jmi v1)] (jrv 1 x) σ' := by
  refine jMC_of (kd := 1) (by decide) rfl h ?_
  intro X hX
  have hG : jGd X (jE_Quotient_wordOf F) jtb_Quotient_wordOf := jGd_of hX jtk_Quotient_wordOf (jcon jfl_X6_9 jnil) jnil jnil (jcon (jsV jlk_X6_70 ⟨rfl, rfl⟩ (jad_Quotient_has F sh hs)) jnil) hs
  exact jRf_by (jex_ok hG (cs := []) jnil 14 0 [some (jmr 68), some (jmi v1)] [] σ0) rfl
set_option maxRecDepth 100000 in
set_option maxHeartbeats 4000000 in
theorem jmet_Quotient_wordOf_73 (F : Nat) (sh : List jxC) (hs : jHas sh jc_C) (σ0 : jxS) (v1 : Int) (x : Int) (σ' : jxS) (h : Quotient_wordOf F 73 σ0 v1 = some (x, σ')) : jMC yX6_wordOf cX6_wordOf 2 (jrt 1) 1 21 sh σ0 [(jmr 73), (jmi v1)] (jrv 1 x) σ' := by
  refine jMC_of (kd := 1) (by decide) rfl h ?_
  intro X hX
  have hG : jGd X (jE_Quotient_wordOf F) jtb_Quotient_wordOf := jGd_of hX jtk_Quotient_wordOf (jcon jfl_X6_9 jnil) jnil jnil (jcon (jsV jlk_X6_70 ⟨rfl, rfl⟩ (jad_Quotient_has F sh hs)) jnil) hs
  exact jRf_by (jex_ok hG (cs := []) jnil 14 0 [some (jmr 73), some (jmi v1)] [] σ0) rfl
theorem jmet_Quotient_wordOf (F : Nat) (q : Nat) (hq : q ∈ jids_Quotient_wordOf_q) (sh : List jxC) (hs : jHas sh jc_C) (σ0 : jxS) (v1 : Int) (x : Int) (σ' : jxS) (h : Quotient_wordOf F q σ0 v1 = some (x, σ')) : jMC yX6_wordOf cX6_wordOf 2 (jrt 1) 1 21 sh σ0 [(jmr q), (jmi v1)] (jrv 1 x) σ' := by
  simp only [jids_Quotient_wordOf_q, List.mem_cons, List.not_mem_nil, or_false] at hq
  rcases hq with rfl | rfl | rfl | rfl | rfl | rfl
  · exact jmet_Quotient_wordOf_48 F sh hs σ0 v1 x σ' h
  · exact jmet_Quotient_wordOf_53 F sh hs σ0 v1 x σ' h
  · exact jmet_Quotient_wordOf_58 F sh hs σ0 v1 x σ' h
  · exact jmet_Quotient_wordOf_63 F sh hs σ0 v1 x σ' h
  · exact jmet_Quotient_wordOf_68 F sh hs σ0 v1 x σ' h
  · exact jmet_Quotient_wordOf_73 F sh hs σ0 v1 x σ' h
theorem jad_Quotient_wordOf (F : Nat) (sh : List jxC) (hs : jHas sh jc_C) : jAdV (jca_Quotient_wordOf F) yX6_wordOf cX6_wordOf 2 1 1 21 1 sh := by
  intro as σ k x σ' h
  unfold jca_Quotient_wordOf at h
  split at h
  · rename_i t0 v1
    obtain ⟨g0, hh1⟩ := jcond h
    have g0 := jin_of g0
    obtain ⟨r, h1, h2⟩ := Option.bind_eq_some_iff.mp hh1
    exact ⟨_, _, h2, (by obtain ⟨fks, hfk⟩ := jrc_Quotient hs g0; exact ⟨_, _, _, _, _, _, rfl, rfl, hfk, rfl⟩), jmet_Quotient_wordOf F t0 g0 sh hs σ v1 r.1 r.2 h1⟩
  · cases h
def jtb_LL1_word : List (Nat × Instr) := [(0, .aload_n 0), (1, .iload_n 1), (2, .invokevirtual 193), (5, .astore 4), (7, .aload 4), (9, .ifnull 12), (12, .iload_n 3), (13, .ifCond .lt 8), (16, .iload_n 3), (17, .iload_n 1), (18, .if_icmp .le 5), (21, .iconst (-1)), (22, .ireturn), (23, .aload 4), (25, .invokevirtual 200), (28, .ifCond .ne 6), (31, .bipush (-3)), (33, .ireturn), (34, .aload 4), (36, .iload_n 2), (37, .invokevirtual 203), (40, .ifCond .eq 23), (43, .aload_n 0), (44, .getfield 48), (47, .getfield 104), (50, .aload 4), (52, .iload_n 2), (53, .invokevirtual 206), (56, .iload_n 3), (57, .invokevirtual 153), (60, .goto 4), (63, .iconst (-1)), (64, .ireturn)]
theorem jtk_LL1_word : jtok cX11_word jtb_LL1_word = true := by decide +kernel
set_option maxRecDepth 100000 in
theorem jlk_X11_200 : jLkV RX11 200 yX6_isKnown cX6_isKnown 1 4 0 := ⟨(jTB_at 1166 rfl rfl), (jTB_at 1167 rfl rfl), (jTB_at 1168 rfl rfl), (jTB_at 128 rfl rfl), jTB_at 1169 rfl rfl, ⟨by decide, by decide, by decide +kernel⟩⟩
set_option maxRecDepth 100000 in
theorem jlk_X11_203 : jLkV RX11 203 yX6_has cX6_has 2 4 1 := ⟨(jTB_at 1170 rfl rfl), (jTB_at 1171 rfl rfl), (jTB_at 1172 rfl rfl), (jTB_at 128 rfl rfl), jTB_at 1173 rfl rfl, ⟨by decide, by decide, by decide +kernel⟩⟩
set_option maxRecDepth 100000 in
theorem jlk_X11_206 : jLkV RX11 206 yX6_wordOf cX6_wordOf 2 1 1 := ⟨(jTB_at 1174 rfl rfl), (jTB_at 1175 rfl rfl), (jTB_at 1176 rfl rfl), (jTB_at 128 rfl rfl), jTB_at 1177 rfl rfl, ⟨by decide, by decide, by decide +kernel⟩⟩
def jE_LL1_word (F : Nat) : jxE := jmk [(48, 11, 2), (104, 0, 2)] [] [] [(153, (3, false), jca_Positions_tally F), (193, (2, false), jca_LL1_quotientOf F), (200, (1, false), jca_Quotient_isKnown F), (203, (2, false), jca_Quotient_has F), (206, (2, false), jca_Quotient_wordOf F)] 1 jc_L1
set_option maxRecDepth 100000 in
set_option maxHeartbeats 4000000 in
theorem jmet_LL1_word (F : Nat) (sh : List jxC) (hs : jHas sh jc_L1) (σ0 : jxS) (v1 : Int) (v2 : Int) (v3 : Int) (x : Int) (σ' : jxS) (h : LL1_word F σ0 v1 v2 v3 = some (x, σ')) : jMC yX11_word cX11_word 5 (jrt 1) 7 165 sh σ0 [(jmr 0), (jmi v1), (jmi v2), (jmi v3)] (jrv 1 x) σ' := by
  refine jMC_of (kd := 1) (by decide) rfl h ?_
  intro X hX
  have hG : jGd X (jE_LL1_word F) jtb_LL1_word := jGd_of hX jtk_LL1_word (jcon jfl_X11_48 (jcon jfl_X11_104 jnil)) jnil jnil (jcon (jsV jlk_X11_153 ⟨rfl, rfl⟩ (jad_Positions_tally F sh (jh_L1P hs))) (jcon (jsV jlk_X11_193 ⟨rfl, rfl⟩ (jad_LL1_quotientOf F sh hs)) (jcon (jsV jlk_X11_200 ⟨rfl, rfl⟩ (jad_Quotient_isKnown F sh (jh_L1C hs))) (jcon (jsV jlk_X11_203 ⟨rfl, rfl⟩ (jad_Quotient_has F sh (jh_L1C hs))) (jcon (jsV jlk_X11_206 ⟨rfl, rfl⟩ (jad_Quotient_wordOf F sh (jh_L1C hs))) jnil))))) hs
  exact jRf_by (jex_ok hG (cs := []) jnil 36 0 [some (jmr 0), some (jmi v1), some (jmi v2), some (jmi v3), none] [] σ0) rfl
theorem jad_LL1_word (F : Nat) (sh : List jxC) (hs : jHas sh jc_L1) : jAdV (jca_LL1_word F) yX11_word cX11_word 5 1 7 165 3 sh := by
  intro as σ k x σ' h
  unfold jca_LL1_word at h
  split at h
  · rename_i t0 v1 v2 v3
    obtain ⟨g0, hh1⟩ := jcond h
    obtain rfl := jbeq g0
    obtain ⟨r, h1, h2⟩ := Option.bind_eq_some_iff.mp hh1
    exact ⟨_, _, h2, ⟨_, _, _, _, _, _, rfl, rfl, (hs _ (jkf_in (l := jc_L1) (idx := 0) rfl)).1, rfl⟩, jmet_LL1_word F  sh hs σ v1 v2 v3 r.1 r.2 h1⟩
  · cases h
def jtb_Quotient_nextOf : List (Nat × Instr) := [(0, .aload_n 0), (1, .iload_n 1), (2, .invokevirtual 70), (5, .ifCond .eq 20), (8, .iload_n 2), (9, .iconst 1), (10, .if_icmp .lt 15), (13, .iload_n 2), (14, .aload_n 0), (15, .getfield 25), (18, .if_icmp .gt 7), (21, .iconst 1), (22, .goto 4), (25, .iconst 0), (26, .istore_n 3), (27, .iload_n 3), (28, .ifCond .eq 19), (31, .aload_n 0), (32, .getfield 19), (35, .iload_n 1), (36, .bipush 6), (38, .imul), (39, .iload_n 2), (40, .iadd), (41, .iconst 1), (42, .isub), (43, .iaload), (44, .goto 4), (47, .iload_n 1), (48, .ireturn)]
theorem jtk_Quotient_nextOf : jtok cX6_nextOf jtb_Quotient_nextOf = true := by decide +kernel
def jE_Quotient_nextOf (F : Nat) : jxE := jmk [(19, 6, 5), (25, 6, 0)] [] [] [(70, (2, false), jca_Quotient_has F)] 1 jc_C
set_option maxRecDepth 100000 in
set_option maxHeartbeats 4000000 in
theorem jmet_Quotient_nextOf_48 (F : Nat) (sh : List jxC) (hs : jHas sh jc_C) (σ0 : jxS) (v1 : Int) (v2 : Int) (x : Int) (σ' : jxS) (h : Quotient_nextOf F 48 σ0 v1 v2 = some (x, σ')) : jMC yX6_nextOf cX6_nextOf 4 (jrt 1) 1 21 sh σ0 [(jmr 48), (jmi v1), (jmi v2)] (jrv 1 x) σ' := by
  refine jMC_of (kd := 1) (by decide) rfl h ?_
  intro X hX
  have hG : jGd X (jE_Quotient_nextOf F) jtb_Quotient_nextOf := jGd_of hX jtk_Quotient_nextOf (jcon jfl_X6_19 (jcon jfl_X6_25 jnil)) jnil jnil (jcon (jsV jlk_X6_70 ⟨rfl, rfl⟩ (jad_Quotient_has F sh hs)) jnil) hs
  have rr26 : ∀ (v1 v2 t0 : Int) (σ : jxS), jRf X (Quotient_nextOf_c26 F 48 v1 v2 t0 σ) 26 [some (jmr 48), some (jmi v1), some (jmi v2), none] [(jmi t0)] σ := by
    intro  v1 v2 t0 σ
    exact jRf_by (jex_ok hG (cs := []) jnil 33 26 [some (jmr 48), some (jmi v1), some (jmi v2), none] [(jmi t0)] σ) rfl
  have rr25 : ∀ (v1 v2 : Int) (σ : jxS), jRf X (Quotient_nextOf_c25 F 48 v1 v2 σ) 25 [some (jmr 48), some (jmi v1), some (jmi v2), none] [] σ := by
    intro  v1 v2 σ
    exact jRf_by (jex_ok hG (cs := [(26, [some (.inr (some 48)), some (.inl 0), some (.inl 0), none], [(.inl 0)], fun xs σ => match xs with
      | [v1, v2, t0] => Quotient_nextOf_c26 F 48 v1 v2 t0 σ
      | _ => none)]) (jcon (jl2 (fun y0 y1 => jl1 (fun y2 => (fun σ => rr26 y0 y1 y2 σ)))) jnil) 33 25 [some (jmr 48), some (jmi v1), some (jmi v2), none] [] σ) rfl
  exact jRf_by (jex_ok hG (cs := [(25, [some (.inr (some 48)), some (.inl 0), some (.inl 0), none], [], fun xs σ => match xs with
      | [v1, v2] => Quotient_nextOf_c25 F 48 v1 v2 σ
      | _ => none), (26, [some (.inr (some 48)), some (.inl 0), some (.inl 0), none], [(.inl 0)], fun xs σ => match xs with
      | [v1, v2, t0] => Quotient_nextOf_c26 F 48 v1 v2 t0 σ
      | _ => none)]) (jcon (jl2 (fun y0 y1 => jl0 (fun σ => rr25 y0 y1 σ))) (jcon (jl2 (fun y0 y1 => jl1 (fun y2 => (fun σ => rr26 y0 y1 y2 σ)))) jnil)) 33 0 [some (jmr 48), some (jmi v1), some (jmi v2), none] [] σ0) rfl
set_option maxRecDepth 100000 in
set_option maxHeartbeats 4000000 in
theorem jmet_Quotient_nextOf_53 (F : Nat) (sh : List jxC) (hs : jHas sh jc_C) (σ0 : jxS) (v1 : Int) (v2 : Int) (x : Int) (σ' : jxS) (h : Quotient_nextOf F 53 σ0 v1 v2 = some (x, σ')) : jMC yX6_nextOf cX6_nextOf 4 (jrt 1) 1 21 sh σ0 [(jmr 53), (jmi v1), (jmi v2)] (jrv 1 x) σ' := by
  refine jMC_of (kd := 1) (by decide) rfl h ?_
  intro X hX
  have hG : jGd X (jE_Quotient_nextOf F) jtb_Quotient_nextOf := jGd_of hX jtk_Quotient_nextOf (jcon jfl_X6_19 (jcon jfl_X6_25 jnil)) jnil jnil (jcon (jsV jlk_X6_70 ⟨rfl, rfl⟩ (jad_Quotient_has F sh hs)) jnil) hs
  have rr26 : ∀ (v1 v2 t0 : Int) (σ : jxS), jRf X (Quotient_nextOf_c26 F 53 v1 v2 t0 σ) 26 [some (jmr 53), some (jmi v1), some (jmi v2), none] [(jmi t0)] σ := by
    intro  v1 v2 t0 σ
    exact jRf_by (jex_ok hG (cs := []) jnil 33 26 [some (jmr 53), some (jmi v1), some (jmi v2), none] [(jmi t0)] σ) rfl
  have rr25 : ∀ (v1 v2 : Int) (σ : jxS), jRf X (Quotient_nextOf_c25 F 53 v1 v2 σ) 25 [some (jmr 53), some (jmi v1), some (jmi v2), none] [] σ := by
    intro  v1 v2 σ
    exact jRf_by (jex_ok hG (cs := [(26, [some (.inr (some 53)), some (.inl 0), some (.inl 0), none], [(.inl 0)], fun xs σ => match xs with
      | [v1, v2, t0] => Quotient_nextOf_c26 F 53 v1 v2 t0 σ
      | _ => none)]) (jcon (jl2 (fun y0 y1 => jl1 (fun y2 => (fun σ => rr26 y0 y1 y2 σ)))) jnil) 33 25 [some (jmr 53), some (jmi v1), some (jmi v2), none] [] σ) rfl
  exact jRf_by (jex_ok hG (cs := [(25, [some (.inr (some 53)), some (.inl 0), some (.inl 0), none], [], fun xs σ => match xs with
      | [v1, v2] => Quotient_nextOf_c25 F 53 v1 v2 σ
      | _ => none), (26, [some (.inr (some 53)), some (.inl 0), some (.inl 0), none], [(.inl 0)], fun xs σ => match xs with
      | [v1, v2, t0] => Quotient_nextOf_c26 F 53 v1 v2 t0 σ
      | _ => none)]) (jcon (jl2 (fun y0 y1 => jl0 (fun σ => rr25 y0 y1 σ))) (jcon (jl2 (fun y0 y1 => jl1 (fun y2 => (fun σ => rr26 y0 y1 y2 σ)))) jnil)) 33 0 [some (jmr 53), some (jmi v1), some (jmi v2), none] [] σ0) rfl
set_option maxRecDepth 100000 in
set_option maxHeartbeats 4000000 in
theorem jmet_Quotient_nextOf_58 (F : Nat) (sh : List jxC) (hs : jHas sh jc_C) (σ0 : jxS) (v1 : Int) (v2 : Int) (x : Int) (σ' : jxS) (h : Quotient_nextOf F 58 σ0 v1 v2 = some (x, σ')) : jMC yX6_nextOf cX6_nextOf 4 (jrt 1) 1 21 sh σ0 [(jmr 58), (jmi v1), (jmi v2)] (jrv 1 x) σ' := by
  refine jMC_of (kd := 1) (by decide) rfl h ?_
  intro X hX
  have hG : jGd X (jE_Quotient_nextOf F) jtb_Quotient_nextOf := jGd_of hX jtk_Quotient_nextOf (jcon jfl_X6_19 (jcon jfl_X6_25 jnil)) jnil jnil (jcon (jsV jlk_X6_70 ⟨rfl, rfl⟩ (jad_Quotient_has F sh hs)) jnil) hs
  have rr26 : ∀ (v1 v2 t0 : Int) (σ : jxS), jRf X (Quotient_nextOf_c26 F 58 v1 v2 t0 σ) 26 [some (jmr 58), some (jmi v1), some (jmi v2), none] [(jmi t0)] σ := by
    intro  v1 v2 t0 σ
    exact jRf_by (jex_ok hG (cs := []) jnil 33 26 [some (jmr 58), some (jmi v1), some (jmi v2), none] [(jmi t0)] σ) rfl
  have rr25 : ∀ (v1 v2 : Int) (σ : jxS), jRf X (Quotient_nextOf_c25 F 58 v1 v2 σ) 25 [some (jmr 58), some (jmi v1), some (jmi v2), none] [] σ := by
    intro  v1 v2 σ
    exact jRf_by (jex_ok hG (cs := [(26, [some (.inr (some 58)), some (.inl 0), some (.inl 0), none], [(.inl 0)], fun xs σ => match xs with
      | [v1, v2, t0] => Quotient_nextOf_c26 F 58 v1 v2 t0 σ
      | _ => none)]) (jcon (jl2 (fun y0 y1 => jl1 (fun y2 => (fun σ => rr26 y0 y1 y2 σ)))) jnil) 33 25 [some (jmr 58), some (jmi v1), some (jmi v2), none] [] σ) rfl
  exact jRf_by (jex_ok hG (cs := [(25, [some (.inr (some 58)), some (.inl 0), some (.inl 0), none], [], fun xs σ => match xs with
      | [v1, v2] => Quotient_nextOf_c25 F 58 v1 v2 σ
      | _ => none), (26, [some (.inr (some 58)), some (.inl 0), some (.inl 0), none], [(.inl 0)], fun xs σ => match xs with
      | [v1, v2, t0] => Quotient_nextOf_c26 F 58 v1 v2 t0 σ
      | _ => none)]) (jcon (jl2 (fun y0 y1 => jl0 (fun σ => rr25 y0 y1 σ))) (jcon (jl2 (fun y0 y1 => jl1 (fun y2 => (fun σ => rr26 y0 y1 y2 σ)))) jnil)) 33 0 [some (jmr 58), some (jmi v1), some (jmi v2), none] [] σ0) rfl
set_option maxRecDepth 100000 in
set_option maxHeartbeats 4000000 in
theorem jmet_Quotient_nextOf_63 (F : Nat) (sh : List jxC) (hs : jHas sh jc_C) (σ0 : jxS) (v1 : Int) (v2 : Int) (x : Int) (σ' : jxS) (h : Quotient_nextOf F 63 σ0 v1 v2 = some (x, σ')) : jMC yX6_nextOf cX6_nextOf 4 (jrt 1) 1 21 sh σ0 [(jmr 63), (jmi v1), (jmi v2)] (jrv 1 x) σ' := by
  refine jMC_of (kd := 1) (by decide) rfl h ?_
  intro X hX
  have hG : jGd X (jE_Quotient_nextOf F) jtb_Quotient_nextOf := jGd_of hX jtk_Quotient_nextOf (jcon jfl_X6_19 (jcon jfl_X6_25 jnil)) jnil jnil (jcon (jsV jlk_X6_70 ⟨rfl, rfl⟩ (jad_Quotient_has F sh hs)) jnil) hs
  have rr26 : ∀ (v1 v2 t0 : Int) (σ : jxS), jRf X (Quotient_nextOf_c26 F 63 v1 v2 t0 σ) 26 [some (jmr 63), some (jmi v1), some (jmi v2), none] [(jmi t0)] σ := by
    intro  v1 v2 t0 σ
    exact jRf_by (jex_ok hG (cs := []) jnil 33 26 [some (jmr 63), some (jmi v1), some (jmi v2), none] [(jmi t0)] σ) rfl
  have rr25 : ∀ (v1 v2 : Int) (σ : jxS), jRf X (Quotient_nextOf_c25 F 63 v1 v2 σ) 25 [some (jmr 63), some (jmi v1), some (jmi v2), none] [] σ := by
    intro  v1 v2 σ
    exact jRf_by (jex_ok hG (cs := [(26, [some (.inr (some 63)), some (.inl 0), some (.inl 0), none], [(.inl 0)], fun xs σ => match xs with
      | [v1, v2, t0] => Quotient_nextOf_c26 F 63 v1 v2 t0 σ
      | _ => none)]) (jcon (jl2 (fun y0 y1 => jl1 (fun y2 => (fun σ => rr26 y0 y1 y2 σ)))) jnil) 33 25 [some (jmr 63), some (jmi v1), some (jmi v2), none] [] σ) rfl
  exact jRf_by (jex_ok hG (cs := [(25, [some (.inr (some 63)), some (.inl 0), some (.inl 0), none], [], fun xs σ => match xs with
      | [v1, v2] => Quotient_nextOf_c25 F 63 v1 v2 σ
      | _ => none), (26, [some (.inr (some 63)), some (.inl 0), some (.inl 0), none], [(.inl 0)], fun xs σ => match xs with
      | [v1, v2, t0] => Quotient_nextOf_c26 F 63 v1 v2 t0 σ
      | _ => none)]) (jcon (jl2 (fun y0 y1 => jl0 (fun σ => rr25 y0 y1 σ))) (jcon (jl2 (fun y0 y1 => jl1 (fun y2 => (fun σ => rr26 y0 y1 y2 σ)))) jnil)) 33 0 [some (jmr 63), some (jmi v1), some (jmi v2), none] [] σ0) rfl
set_option maxRecDepth 100000 in
set_option maxHeartbeats 4000000 in
theorem jmet_Quotient_nextOf_68 (F : Nat) (sh : List jxC) (hs : jHas sh jc_C) (σ0 : jxS) (v1 : Int) (v2 : Int) (x : Int) (σ' : jxS) (h : Quotient_nextOf F 68 σ0 v1 v2 = some (x, σ')) : jMC yX6_nextOf cX6_nextOf 4 (jrt 1) 1 21 sh σ0 [(jmr 68), (jmi v1), (jmi v2)] (jrv 1 x) σ' := by
  refine jMC_of (kd := 1) (by decide) rfl h ?_
  intro X hX
  have hG : jGd X (jE_Quotient_nextOf F) jtb_Quotient_nextOf := jGd_of hX jtk_Quotient_nextOf (jcon jfl_X6_19 (jcon jfl_X6_25 jnil)) jnil jnil (jcon (jsV jlk_X6_70 ⟨rfl, rfl⟩ (jad_Quotient_has F sh hs)) jnil) hs
  have rr26 : ∀ (v1 v2 t0 : Int) (σ : jxS), jRf X (Quotient_nextOf_c26 F 68 v1 v2 t0 σ) 26 [some (jmr 68), some (jmi v1), some (jmi v2), none] [(jmi t0)] σ := by
    intro  v1 v2 t0 σ
    exact jRf_by (jex_ok hG (cs := []) jnil 33 26 [some (jmr 68), some (jmi v1), some (jmi v2), none] [(jmi t0)] σ) rfl
  have rr25 : ∀ (v1 v2 : Int) (σ : jxS), jRf X (Quotient_nextOf_c25 F 68 v1 v2 σ) 25 [some (jmr 68), some (jmi v1), some (jmi v2), none] [] σ := by
    intro  v1 v2 σ
    exact jRf_by (jex_ok hG (cs := [(26, [some (.inr (some 68)), some (.inl 0), some (.inl 0), none], [(.inl 0)], fun xs σ => match xs with
      | [v1, v2, t0] => Quotient_nextOf_c26 F 68 v1 v2 t0 σ
      | _ => none)]) (jcon (jl2 (fun y0 y1 => jl1 (fun y2 => (fun σ => rr26 y0 y1 y2 σ)))) jnil) 33 25 [some (jmr 68), some (jmi v1), some (jmi v2), none] [] σ) rfl
  exact jRf_by (jex_ok hG (cs := [(25, [some (.inr (some 68)), some (.inl 0), some (.inl 0), none], [], fun xs σ => match xs with
      | [v1, v2] => Quotient_nextOf_c25 F 68 v1 v2 σ
      | _ => none), (26, [some (.inr (some 68)), some (.inl 0), some (.inl 0), none], [(.inl 0)], fun xs σ => match xs with
      | [v1, v2, t0] => Quotient_nextOf_c26 F 68 v1 v2 t0 σ
      | _ => none)]) (jcon (jl2 (fun y0 y1 => jl0 (fun σ => rr25 y0 y1 σ))) (jcon (jl2 (fun y0 y1 => jl1 (fun y2 => (fun σ => rr26 y0 y1 y2 σ)))) jnil)) 33 0 [some (jmr 68), some (jmi v1), some (jmi v2), none] [] σ0) rfl
set_option maxRecDepth 100000 in
set_option maxHeartbeats 4000000 in
theorem jmet_Quotient_nextOf_73 (F : Nat) (sh : List jxC) (hs : jHas sh jc_C) (σ0 : jxS) (v1 : Int) (v2 : Int) (x : Int) (σ' : jxS) (h : Quotient_nextOf F 73 σ0 v1 v2 = some (x, σ')) : jMC yX6_nextOf cX6_nextOf 4 (jrt 1) 1 21 sh σ0 [(jmr 73), (jmi v1), (jmi v2)] (jrv 1 x) σ' := by
  refine jMC_of (kd := 1) (by decide) rfl h ?_
  intro X hX
  have hG : jGd X (jE_Quotient_nextOf F) jtb_Quotient_nextOf := jGd_of hX jtk_Quotient_nextOf (jcon jfl_X6_19 (jcon jfl_X6_25 jnil)) jnil jnil (jcon (jsV jlk_X6_70 ⟨rfl, rfl⟩ (jad_Quotient_has F sh hs)) jnil) hs
  have rr26 : ∀ (v1 v2 t0 : Int) (σ : jxS), jRf X (Quotient_nextOf_c26 F 73 v1 v2 t0 σ) 26 [some (jmr 73), some (jmi v1), some (jmi v2), none] [(jmi t0)] σ := by
    intro  v1 v2 t0 σ
    exact jRf_by (jex_ok hG (cs := []) jnil 33 26 [some (jmr 73), some (jmi v1), some (jmi v2), none] [(jmi t0)] σ) rfl
  have rr25 : ∀ (v1 v2 : Int) (σ : jxS), jRf X (Quotient_nextOf_c25 F 73 v1 v2 σ) 25 [some (jmr 73), some (jmi v1), some (jmi v2), none] [] σ := by
    intro  v1 v2 σ
    exact jRf_by (jex_ok hG (cs := [(26, [some (.inr (some 73)), some (.inl 0), some (.inl 0), none], [(.inl 0)], fun xs σ => match xs with
      | [v1, v2, t0] => Quotient_nextOf_c26 F 73 v1 v2 t0 σ
      | _ => none)]) (jcon (jl2 (fun y0 y1 => jl1 (fun y2 => (fun σ => rr26 y0 y1 y2 σ)))) jnil) 33 25 [some (jmr 73), some (jmi v1), some (jmi v2), none] [] σ) rfl
  exact jRf_by (jex_ok hG (cs := [(25, [some (.inr (some 73)), some (.inl 0), some (.inl 0), none], [], fun xs σ => match xs with
      | [v1, v2] => Quotient_nextOf_c25 F 73 v1 v2 σ
      | _ => none), (26, [some (.inr (some 73)), some (.inl 0), some (.inl 0), none], [(.inl 0)], fun xs σ => match xs with
      | [v1, v2, t0] => Quotient_nextOf_c26 F 73 v1 v2 t0 σ
      | _ => none)]) (jcon (jl2 (fun y0 y1 => jl0 (fun σ => rr25 y0 y1 σ))) (jcon (jl2 (fun y0 y1 => jl1 (fun y2 => (fun σ => rr26 y0 y1 y2 σ)))) jnil)) 33 0 [some (jmr 73), some (jmi v1), some (jmi v2), none] [] σ0) rfl
theorem jmet_Quotient_nextOf (F : Nat) (q : Nat) (hq : q ∈ jids_Quotient_nextOf_q) (sh : List jxC) (hs : jHas sh jc_C) (σ0 : jxS) (v1 : Int) (v2 : Int) (x : Int) (σ' : jxS) (h : Quotient_nextOf F q σ0 v1 v2 = some (x, σ')) : jMC yX6_nextOf cX6_nextOf 4 (jrt 1) 1 21 sh σ0 [(jmr q), (jmi v1), (jmi v2)] (jrv 1 x) σ' := by
  simp only [jids_Quotient_nextOf_q, List.mem_cons, List.not_mem_nil, or_false] at hq
  rcases hq with rfl | rfl | rfl | rfl | rfl | rfl
  · exact jmet_Quotient_nextOf_48 F sh hs σ0 v1 v2 x σ' h
  · exact jmet_Quotient_nextOf_53 F sh hs σ0 v1 v2 x σ' h
  · exact jmet_Quotient_nextOf_58 F sh hs σ0 v1 v2 x σ' h
  · exact jmet_Quotient_nextOf_63 F sh hs σ0 v1 v2 x σ' h
  · exact jmet_Quotient_nextOf_68 F sh hs σ0 v1 v2 x σ' h
  · exact jmet_Quotient_nextOf_73 F sh hs σ0 v1 v2 x σ' h
theorem jad_Quotient_nextOf (F : Nat) (sh : List jxC) (hs : jHas sh jc_C) : jAdV (jca_Quotient_nextOf F) yX6_nextOf cX6_nextOf 4 1 1 21 2 sh := by
  intro as σ k x σ' h
  unfold jca_Quotient_nextOf at h
  split at h
  · rename_i t0 v1 v2
    obtain ⟨g0, hh1⟩ := jcond h
    have g0 := jin_of g0
    obtain ⟨r, h1, h2⟩ := Option.bind_eq_some_iff.mp hh1
    exact ⟨_, _, h2, (by obtain ⟨fks, hfk⟩ := jrc_Quotient hs g0; exact ⟨_, _, _, _, _, _, rfl, rfl, hfk, rfl⟩), jmet_Quotient_nextOf F t0 g0 sh hs σ v1 v2 r.1 r.2 h1⟩
  · cases h
def jtb_LL1_next : List (Nat × Instr) := [(0, .aload_n 0), (1, .iload_n 1), (2, .invokevirtual 193), (5, .astore 4), (7, .aload 4), (9, .ifnull 13), (12, .iload_n 3), (13, .iconst 1), (14, .if_icmp .lt 8), (17, .iload_n 3), (18, .iload_n 1), (19, .if_icmp .le 5), (22, .iconst (-1)), (23, .ireturn), (24, .aload 4), (26, .invokevirtual 200), (29, .ifCond .ne 6), (32, .bipush (-3)), (34, .ireturn), (35, .aload 4), (37, .iload_n 2), (38, .invokevirtual 203), (41, .ifCond .eq 13), (44, .aload 4), (46, .iload_n 2), (47, .iload_n 3), (48, .invokevirtual 209), (51, .goto 4), (54, .iconst (-1)), (55, .ireturn)]
theorem jtk_LL1_next : jtok cX11_next jtb_LL1_next = true := by decide +kernel
set_option maxRecDepth 100000 in
theorem jlk_X11_209 : jLkV RX11 209 yX6_nextOf cX6_nextOf 4 1 2 := ⟨(jTB_at 1183 rfl rfl), (jTB_at 1184 rfl rfl), (jTB_at 1185 rfl rfl), (jTB_at 128 rfl rfl), jTB_at 1186 rfl rfl, ⟨by decide, by decide, by decide +kernel⟩⟩
def jE_LL1_next (F : Nat) : jxE := jmk [] [] [] [(193, (2, false), jca_LL1_quotientOf F), (200, (1, false), jca_Quotient_isKnown F), (203, (2, false), jca_Quotient_has F), (209, (3, false), jca_Quotient_nextOf F)] 1 jc_L1
set_option maxRecDepth 100000 in
set_option maxHeartbeats 4000000 in
theorem jmet_LL1_next (F : Nat) (sh : List jxC) (hs : jHas sh jc_L1) (σ0 : jxS) (v1 : Int) (v2 : Int) (v3 : Int) (x : Int) (σ' : jxS) (h : LL1_next F σ0 v1 v2 v3 = some (x, σ')) : jMC yX11_next cX11_next 5 (jrt 1) 7 165 sh σ0 [(jmr 0), (jmi v1), (jmi v2), (jmi v3)] (jrv 1 x) σ' := by
  refine jMC_of (kd := 1) (by decide) rfl h ?_
  intro X hX
  have hG : jGd X (jE_LL1_next F) jtb_LL1_next := jGd_of hX jtk_LL1_next jnil jnil jnil (jcon (jsV jlk_X11_193 ⟨rfl, rfl⟩ (jad_LL1_quotientOf F sh hs)) (jcon (jsV jlk_X11_200 ⟨rfl, rfl⟩ (jad_Quotient_isKnown F sh (jh_L1C hs))) (jcon (jsV jlk_X11_203 ⟨rfl, rfl⟩ (jad_Quotient_has F sh (jh_L1C hs))) (jcon (jsV jlk_X11_209 ⟨rfl, rfl⟩ (jad_Quotient_nextOf F sh (jh_L1C hs))) jnil)))) hs
  exact jRf_by (jex_ok hG (cs := []) jnil 33 0 [some (jmr 0), some (jmi v1), some (jmi v2), some (jmi v3), none] [] σ0) rfl
theorem jad_LL1_next (F : Nat) (sh : List jxC) (hs : jHas sh jc_L1) : jAdV (jca_LL1_next F) yX11_next cX11_next 5 1 7 165 3 sh := by
  intro as σ k x σ' h
  unfold jca_LL1_next at h
  split at h
  · rename_i t0 v1 v2 v3
    obtain ⟨g0, hh1⟩ := jcond h
    obtain rfl := jbeq g0
    obtain ⟨r, h1, h2⟩ := Option.bind_eq_some_iff.mp hh1
    exact ⟨_, _, h2, ⟨_, _, _, _, _, _, rfl, rfl, (hs _ (jkf_in (l := jc_L1) (idx := 0) rfl)).1, rfl⟩, jmet_LL1_next F  sh hs σ v1 v2 v3 r.1 r.2 h1⟩
  · cases h
def jtb_Quotient_product : List (Nat × Instr) := [(0, .iload_n 1), (1, .istore_n 3), (2, .aload_n 0), (3, .iload_n 2), (4, .invokevirtual 73), (7, .istore 4), (9, .iconst 0), (10, .istore 5), (12, .iload 5), (14, .bipush 15), (16, .if_icmp .ge 51), (19, .iload 4), (21, .ifCond .le 46), (24, .aload_n 0), (25, .getfield 29), (28, .iload 4), (30, .invokevirtual 77), (33, .istore 6), (35, .aload_n 0), (36, .iload_n 3), (37, .aload_n 0), (38, .getfield 29), (41, .iload 6), (43, .invokevirtual 80), (46, .invokevirtual 83), (49, .istore_n 3), (50, .aload_n 0), (51, .getfield 29), (54, .iload 6), (56, .invokevirtual 86), (59, .istore 4), (61, .iinc 5 1), (64, .goto (-52)), (67, .iload_n 3), (68, .ireturn)]
theorem jtk_Quotient_product : jtok cX6_product jtb_Quotient_product = true := by decide +kernel
set_option maxRecDepth 100000 in
theorem jlk_X6_73 : jLkV RX6 73 yX6_wordOf cX6_wordOf 2 1 1 := ⟨(jTB_at 1195 rfl rfl), (jTB_at 1175 rfl rfl), (jTB_at 1176 rfl rfl), (jTB_at 128 rfl rfl), jTB_at 1177 rfl rfl, ⟨by decide, by decide, by decide +kernel⟩⟩
set_option maxRecDepth 100000 in
theorem jlk_X6_77 : jLkV RX6 77 yX5_firstPart cX5_firstPart 2 1 1 := ⟨(jTB_at 1196 rfl rfl), (jTB_at 454 rfl rfl), (jTB_at 455 rfl rfl), (jTB_at 123 rfl rfl), jTB_at 456 rfl rfl, ⟨by decide, by decide, by decide +kernel⟩⟩
set_option maxRecDepth 100000 in
theorem jlk_X6_80 : jLkV RX6 80 yX5_heapOf cX5_heapOf 2 1 1 := ⟨(jTB_at 1197 rfl rfl), (jTB_at 458 rfl rfl), (jTB_at 459 rfl rfl), (jTB_at 123 rfl rfl), jTB_at 460 rfl rfl, ⟨by decide, by decide, by decide +kernel⟩⟩
set_option maxRecDepth 100000 in
theorem jlk_X6_83 : jLkV RX6 83 yX6_nextOf cX6_nextOf 4 1 2 := ⟨(jTB_at 1198 rfl rfl), (jTB_at 1184 rfl rfl), (jTB_at 1185 rfl rfl), (jTB_at 128 rfl rfl), jTB_at 1186 rfl rfl, ⟨by decide, by decide, by decide +kernel⟩⟩
set_option maxRecDepth 100000 in
theorem jlk_X6_86 : jLkV RX6 86 yX5_restOf cX5_restOf 2 1 1 := ⟨(jTB_at 1199 rfl rfl), (jTB_at 462 rfl rfl), (jTB_at 463 rfl rfl), (jTB_at 123 rfl rfl), jTB_at 464 rfl rfl, ⟨by decide, by decide, by decide +kernel⟩⟩
def jE_Quotient_product (F : Nat) : jxE := jmk [(29, 6, 1)] [] [] [(73, (2, false), jca_Quotient_wordOf F), (77, (2, false), jca_Positions_firstPart F), (80, (2, false), jca_Positions_heapOf F), (83, (3, false), jca_Quotient_nextOf F), (86, (2, false), jca_Positions_restOf F)] 1 jc_C
set_option maxRecDepth 100000 in
set_option maxHeartbeats 4000000 in
theorem jmet_Quotient_product_48 (F : Nat) (sh : List jxC) (hs : jHas sh jc_C) (σ0 : jxS) (v1 : Int) (v2 : Int) (x : Int) (σ' : jxS) (h : Quotient_product F 48 σ0 v1 v2 = some (x, σ')) : jMC yX6_product cX6_product 7 (jrt 1) 2 44 sh σ0 [(jmr 48), (jmi v1), (jmi v2)] (jrv 1 x) σ' := by
  refine jMC_of (kd := 1) (by decide) rfl h ?_
  intro X hX
  have hG : jGd X (jE_Quotient_product F) jtb_Quotient_product := jGd_of hX jtk_Quotient_product (jcon jfl_X6_29 jnil) jnil jnil (jcon (jsV jlk_X6_73 ⟨rfl, rfl⟩ (jad_Quotient_wordOf F sh hs)) (jcon (jsV jlk_X6_77 ⟨rfl, rfl⟩ (jad_Positions_firstPart F sh (jh_CP hs))) (jcon (jsV jlk_X6_80 ⟨rfl, rfl⟩ (jad_Positions_heapOf F sh (jh_CP hs))) (jcon (jsV jlk_X6_83 ⟨rfl, rfl⟩ (jad_Quotient_nextOf F sh hs)) (jcon (jsV jlk_X6_86 ⟨rfl, rfl⟩ (jad_Positions_restOf F sh (jh_CP hs))) jnil))))) hs
  have rr12 : ∀ (fu : Nat) (v3 v4 v5 : Int) (σ : jxS), jRf X (Quotient_product_c12 F 48 fu v3 v4 v5 σ) 12 [some (jmr 48), none, none, some (jmi v3), some (jmi v4), some (jmi v5), none] [] σ := by
    intro  fu
    induction fu with
    | zero => intros; exact jRf_none
    | succ fu ih =>
      intro v3 v4 v5 σ
      exact jRf_by (jex_ok hG (cs := [(12, [some (.inr (some 48)), none, none, some (.inl 0), some (.inl 0), some (.inl 0), none], [], fun xs σ => match xs with
      | [v3, v4, v5] => (Quotient_product_c12 F 48 fu) v3 v4 v5 σ
      | _ => none)]) (jcon (jl3 (fun y0 y1 y2 => jl0 (fun σ => ih y0 y1 y2 σ))) jnil) 38 12 [some (jmr 48), none, none, some (jmi v3), some (jmi v4), some (jmi v5), none] [] σ) rfl
  exact jRf_by (jex_ok hG (cs := [(12, [some (.inr (some 48)), none, none, some (.inl 0), some (.inl 0), some (.inl 0), none], [], fun xs σ => match xs with
      | [v3, v4, v5] => Quotient_product_c12 F 48 F v3 v4 v5 σ
      | _ => none)]) (jcon (jl3 (fun y0 y1 y2 => jl0 (fun σ => rr12 F y0 y1 y2 σ))) jnil) 38 0 [some (jmr 48), some (jmi v1), some (jmi v2), none, none, none, none] [] σ0) rfl
set_option maxRecDepth 100000 in
set_option maxHeartbeats 4000000 in
theorem jmet_Quotient_product_53 (F : Nat) (sh : List jxC) (hs : jHas sh jc_C) (σ0 : jxS) (v1 : Int) (v2 : Int) (x : Int) (σ' : jxS) (h : Quotient_product F 53 σ0 v1 v2 = some (x, σ')) : jMC yX6_product cX6_product 7 (jrt 1) 2 44 sh σ0 [(jmr 53), (jmi v1), (jmi v2)] (jrv 1 x) σ' := by
  refine jMC_of (kd := 1) (by decide) rfl h ?_
  intro X hX
  have hG : jGd X (jE_Quotient_product F) jtb_Quotient_product := jGd_of hX jtk_Quotient_product (jcon jfl_X6_29 jnil) jnil jnil (jcon (jsV jlk_X6_73 ⟨rfl, rfl⟩ (jad_Quotient_wordOf F sh hs)) (jcon (jsV jlk_X6_77 ⟨rfl, rfl⟩ (jad_Positions_firstPart F sh (jh_CP hs))) (jcon (jsV jlk_X6_80 ⟨rfl, rfl⟩ (jad_Positions_heapOf F sh (jh_CP hs))) (jcon (jsV jlk_X6_83 ⟨rfl, rfl⟩ (jad_Quotient_nextOf F sh hs)) (jcon (jsV jlk_X6_86 ⟨rfl, rfl⟩ (jad_Positions_restOf F sh (jh_CP hs))) jnil))))) hs
  have rr12 : ∀ (fu : Nat) (v3 v4 v5 : Int) (σ : jxS), jRf X (Quotient_product_c12 F 53 fu v3 v4 v5 σ) 12 [some (jmr 53), none, none, some (jmi v3), some (jmi v4), some (jmi v5), none] [] σ := by
    intro  fu
    induction fu with
    | zero => intros; exact jRf_none
    | succ fu ih =>
      intro v3 v4 v5 σ
      exact jRf_by (jex_ok hG (cs := [(12, [some (.inr (some 53)), none, none, some (.inl 0), some (.inl 0), some (.inl 0), none], [], fun xs σ => match xs with
      | [v3, v4, v5] => (Quotient_product_c12 F 53 fu) v3 v4 v5 σ
      | _ => none)]) (jcon (jl3 (fun y0 y1 y2 => jl0 (fun σ => ih y0 y1 y2 σ))) jnil) 38 12 [some (jmr 53), none, none, some (jmi v3), some (jmi v4), some (jmi v5), none] [] σ) rfl
  exact jRf_by (jex_ok hG (cs := [(12, [some (.inr (some 53)), none, none, some (.inl 0), some (.inl 0), some (.inl 0), none], [], fun xs σ => match xs with
      | [v3, v4, v5] => Quotient_product_c12 F 53 F v3 v4 v5 σ
      | _ => none)]) (jcon (jl3 (fun y0 y1 y2 => jl0 (fun σ => rr12 F y0 y1 y2 σ))) jnil) 38 0 [some (jmr 53), some (jmi v1), some (jmi v2), none, none, none, none] [] σ0) rfl
set_option maxRecDepth 100000 in
set_option maxHeartbeats 4000000 in
theorem jmet_Quotient_product_58 (F : Nat) (sh : List jxC) (hs : jHas sh jc_C) (σ0 : jxS) (v1 : Int) (v2 : Int) (x : Int) (σ' : jxS) (h : Quotient_product F 58 σ0 v1 v2 = some (x, σ')) : jMC yX6_product cX6_product 7 (jrt 1) 2 44 sh σ0 [(jmr 58), (jmi v1), (jmi v2)] (jrv 1 x) σ' := by
  refine jMC_of (kd := 1) (by decide) rfl h ?_
  intro X hX
  have hG : jGd X (jE_Quotient_product F) jtb_Quotient_product := jGd_of hX jtk_Quotient_product (jcon jfl_X6_29 jnil) jnil jnil (jcon (jsV jlk_X6_73 ⟨rfl, rfl⟩ (jad_Quotient_wordOf F sh hs)) (jcon (jsV jlk_X6_77 ⟨rfl, rfl⟩ (jad_Positions_firstPart F sh (jh_CP hs))) (jcon (jsV jlk_X6_80 ⟨rfl, rfl⟩ (jad_Positions_heapOf F sh (jh_CP hs))) (jcon (jsV jlk_X6_83 ⟨rfl, rfl⟩ (jad_Quotient_nextOf F sh hs)) (jcon (jsV jlk_X6_86 ⟨rfl, rfl⟩ (jad_Positions_restOf F sh (jh_CP hs))) jnil))))) hs
  have rr12 : ∀ (fu : Nat) (v3 v4 v5 : Int) (σ : jxS), jRf X (Quotient_product_c12 F 58 fu v3 v4 v5 σ) 12 [some (jmr 58), none, none, some (jmi v3), some (jmi v4), some (jmi v5), none] [] σ := by
    intro  fu
    induction fu with
    | zero => intros; exact jRf_none
    | succ fu ih =>
      intro v3 v4 v5 σ
      exact jRf_by (jex_ok hG (cs := [(12, [some (.inr (some 58)), none, none, some (.inl 0), some (.inl 0), some (.inl 0), none], [], fun xs σ => match xs with
      | [v3, v4, v5] => (Quotient_product_c12 F 58 fu) v3 v4 v5 σ
      | _ => none)]) (jcon (jl3 (fun y0 y1 y2 => jl0 (fun σ => ih y0 y1 y2 σ))) jnil) 38 12 [some (jmr 58), none, none, some (jmi v3), some (jmi v4), some (jmi v5), none] [] σ) rfl
  exact jRf_by (jex_ok hG (cs := [(12, [some (.inr (some 58)), none, none, some (.inl 0), some (.inl 0), some (.inl 0), none], [], fun xs σ => match xs with
      | [v3, v4, v5] => Quotient_product_c12 F 58 F v3 v4 v5 σ
      | _ => none)]) (jcon (jl3 (fun y0 y1 y2 => jl0 (fun σ => rr12 F y0 y1 y2 σ))) jnil) 38 0 [some (jmr 58), some (jmi v1), some (jmi v2), none, none, none, none] [] σ0) rfl
set_option maxRecDepth 100000 in
set_option maxHeartbeats 4000000 in
theorem jmet_Quotient_product_63 (F : Nat) (sh : List jxC) (hs : jHas sh jc_C) (σ0 : jxS) (v1 : Int) (v2 : Int) (x : Int) (σ' : jxS) (h : Quotient_product F 63 σ0 v1 v2 = some (x, σ')) : jMC yX6_product cX6_product 7 (jrt 1) 2 44 sh σ0 [(jmr 63), (jmi v1), (jmi v2)] (jrv 1 x) σ' := by
  refine jMC_of (kd := 1) (by decide) rfl h ?_
  intro X hX
  have hG : jGd X (jE_Quotient_product F) jtb_Quotient_product := jGd_of hX jtk_Quotient_product (jcon jfl_X6_29 jnil) jnil jnil (jcon (jsV jlk_X6_73 ⟨rfl, rfl⟩ (jad_Quotient_wordOf F sh hs)) (jcon (jsV jlk_X6_77 ⟨rfl, rfl⟩ (jad_Positions_firstPart F sh (jh_CP hs))) (jcon (jsV jlk_X6_80 ⟨rfl, rfl⟩ (jad_Positions_heapOf F sh (jh_CP hs))) (jcon (jsV jlk_X6_83 ⟨rfl, rfl⟩ (jad_Quotient_nextOf F sh hs)) (jcon (jsV jlk_X6_86 ⟨rfl, rfl⟩ (jad_Positions_restOf F sh (jh_CP hs))) jnil))))) hs
  have rr12 : ∀ (fu : Nat) (v3 v4 v5 : Int) (σ : jxS), jRf X (Quotient_product_c12 F 63 fu v3 v4 v5 σ) 12 [some (jmr 63), none, none, some (jmi v3), some (jmi v4), some (jmi v5), none] [] σ := by
    intro  fu
    induction fu with
    | zero => intros; exact jRf_none
    | succ fu ih =>
      intro v3 v4 v5 σ
      exact jRf_by (jex_ok hG (cs := [(12, [some (.inr (some 63)), none, none, some (.inl 0), some (.inl 0), some (.inl 0), none], [], fun xs σ => match xs with
      | [v3, v4, v5] => (Quotient_product_c12 F 63 fu) v3 v4 v5 σ
      | _ => none)]) (jcon (jl3 (fun y0 y1 y2 => jl0 (fun σ => ih y0 y1 y2 σ))) jnil) 38 12 [some (jmr 63), none, none, some (jmi v3), some (jmi v4), some (jmi v5), none] [] σ) rfl
  exact jRf_by (jex_ok hG (cs := [(12, [some (.inr (some 63)), none, none, some (.inl 0), some (.inl 0), some (.inl 0), none], [], fun xs σ => match xs with
      | [v3, v4, v5] => Quotient_product_c12 F 63 F v3 v4 v5 σ
      | _ => none)]) (jcon (jl3 (fun y0 y1 y2 => jl0 (fun σ => rr12 F y0 y1 y2 σ))) jnil) 38 0 [some (jmr 63), some (jmi v1), some (jmi v2), none, none, none, none] [] σ0) rfl
set_option maxRecDepth 100000 in
set_option maxHeartbeats 4000000 in
theorem jmet_Quotient_product_68 (F : Nat) (sh : List jxC) (hs : jHas sh jc_C) (σ0 : jxS) (v1 : Int) (v2 : Int) (x : Int) (σ' : jxS) (h : Quotient_product F 68 σ0 v1 v2 = some (x, σ')) : jMC yX6_product cX6_product 7 (jrt 1) 2 44 sh σ0 [(jmr 68), (jmi v1), (jmi v2)] (jrv 1 x) σ' := by
  refine jMC_of (kd := 1) (by decide) rfl h ?_
  intro X hX
  have hG : jGd X (jE_Quotient_product F) jtb_Quotient_product := jGd_of hX jtk_Quotient_product (jcon jfl_X6_29 jnil) jnil jnil (jcon (jsV jlk_X6_73 ⟨rfl, rfl⟩ (jad_Quotient_wordOf F sh hs)) (jcon (jsV jlk_X6_77 ⟨rfl, rfl⟩ (jad_Positions_firstPart F sh (jh_CP hs))) (jcon (jsV jlk_X6_80 ⟨rfl, rfl⟩ (jad_Positions_heapOf F sh (jh_CP hs))) (jcon (jsV jlk_X6_83 ⟨rfl, rfl⟩ (jad_Quotient_nextOf F sh hs)) (jcon (jsV jlk_X6_86 ⟨rfl, rfl⟩ (jad_Positions_restOf F sh (jh_CP hs))) jnil))))) hs
  have rr12 : ∀ (fu : Nat) (v3 v4 v5 : Int) (σ : jxS), jRf X (Quotient_product_c12 F 68 fu v3 v4 v5 σ) 12 [some (jmr 68), none, none, some (jmi v3), some (jmi v4), some (jmi v5), none] [] σ := by
    intro  fu
    induction fu with
    | zero => intros; exact jRf_none
    | succ fu ih =>
      intro v3 v4 v5 σ
      exact jRf_by (jex_ok hG (cs := [(12, [some (.inr (some 68)), none, none, some (.inl 0), some (.inl 0), some (.inl 0), none], [], fun xs σ => match xs with
      | [v3, v4, v5] => (Quotient_product_c12 F 68 fu) v3 v4 v5 σ
      | _ => none)]) (jcon (jl3 (fun y0 y1 y2 => jl0 (fun σ => ih y0 y1 y2 σ))) jnil) 38 12 [some (jmr 68), none, none, some (jmi v3), some (jmi v4), some (jmi v5), none] [] σ) rfl
  exact jRf_by (jex_ok hG (cs := [(12, [some (.inr (some 68)), none, none, some (.inl 0), some (.inl 0), some (.inl 0), none], [], fun xs σ => match xs with
      | [v3, v4, v5] => Quotient_product_c12 F 68 F v3 v4 v5 σ
      | _ => none)]) (jcon (jl3 (fun y0 y1 y2 => jl0 (fun σ => rr12 F y0 y1 y2 σ))) jnil) 38 0 [some (jmr 68), some (jmi v1), some (jmi v2), none, none, none, none] [] σ0) rfl
set_option maxRecDepth 100000 in
set_option maxHeartbeats 4000000 in
theorem jmet_Quotient_product_73 (F : Nat) (sh : List jxC) (hs : jHas sh jc_C) (σ0 : jxS) (v1 : Int) (v2 : Int) (x : Int) (σ' : jxS) (h : Quotient_product F 73 σ0 v1 v2 = some (x, σ')) : jMC yX6_product cX6_product 7 (jrt 1) 2 44 sh σ0 [(jmr 73), (jmi v1), (jmi v2)] (jrv 1 x) σ' := by
  refine jMC_of (kd := 1) (by decide) rfl h ?_
  intro X hX
  have hG : jGd X (jE_Quotient_product F) jtb_Quotient_product := jGd_of hX jtk_Quotient_product (jcon jfl_X6_29 jnil) jnil jnil (jcon (jsV jlk_X6_73 ⟨rfl, rfl⟩ (jad_Quotient_wordOf F sh hs)) (jcon (jsV jlk_X6_77 ⟨rfl, rfl⟩ (jad_Positions_firstPart F sh (jh_CP hs))) (jcon (jsV jlk_X6_80 ⟨rfl, rfl⟩ (jad_Positions_heapOf F sh (jh_CP hs))) (jcon (jsV jlk_X6_83 ⟨rfl, rfl⟩ (jad_Quotient_nextOf F sh hs)) (jcon (jsV jlk_X6_86 ⟨rfl, rfl⟩ (jad_Positions_restOf F sh (jh_CP hs))) jnil))))) hs
  have rr12 : ∀ (fu : Nat) (v3 v4 v5 : Int) (σ : jxS), jRf X (Quotient_product_c12 F 73 fu v3 v4 v5 σ) 12 [some (jmr 73), none, none, some (jmi v3), some (jmi v4), some (jmi v5), none] [] σ := by
    intro  fu
    induction fu with
    | zero => intros; exact jRf_none
    | succ fu ih =>
      intro v3 v4 v5 σ
      exact jRf_by (jex_ok hG (cs := [(12, [some (.inr (some 73)), none, none, some (.inl 0), some (.inl 0), some (.inl 0), none], [], fun xs σ => match xs with
      | [v3, v4, v5] => (Quotient_product_c12 F 73 fu) v3 v4 v5 σ
      | _ => none)]) (jcon (jl3 (fun y0 y1 y2 => jl0 (fun σ => ih y0 y1 y2 σ))) jnil) 38 12 [some (jmr 73), none, none, some (jmi v3), some (jmi v4), some (jmi v5), none] [] σ) rfl
  exact jRf_by (jex_ok hG (cs := [(12, [some (.inr (some 73)), none, none, some (.inl 0), some (.inl 0), some (.inl 0), none], [], fun xs σ => match xs with
      | [v3, v4, v5] => Quotient_product_c12 F 73 F v3 v4 v5 σ
      | _ => none)]) (jcon (jl3 (fun y0 y1 y2 => jl0 (fun σ => rr12 F y0 y1 y2 σ))) jnil) 38 0 [some (jmr 73), some (jmi v1), some (jmi v2), none, none, none, none] [] σ0) rfl
theorem jmet_Quotient_product (F : Nat) (q : Nat) (hq : q ∈ jids_Quotient_product_q) (sh : List jxC) (hs : jHas sh jc_C) (σ0 : jxS) (v1 : Int) (v2 : Int) (x : Int) (σ' : jxS) (h : Quotient_product F q σ0 v1 v2 = some (x, σ')) : jMC yX6_product cX6_product 7 (jrt 1) 2 44 sh σ0 [(jmr q), (jmi v1), (jmi v2)] (jrv 1 x) σ' := by
  simp only [jids_Quotient_product_q, List.mem_cons, List.not_mem_nil, or_false] at hq
  rcases hq with rfl | rfl | rfl | rfl | rfl | rfl
  · exact jmet_Quotient_product_48 F sh hs σ0 v1 v2 x σ' h
  · exact jmet_Quotient_product_53 F sh hs σ0 v1 v2 x σ' h
  · exact jmet_Quotient_product_58 F sh hs σ0 v1 v2 x σ' h
  · exact jmet_Quotient_product_63 F sh hs σ0 v1 v2 x σ' h
  · exact jmet_Quotient_product_68 F sh hs σ0 v1 v2 x σ' h
  · exact jmet_Quotient_product_73 F sh hs σ0 v1 v2 x σ' h
theorem jad_Quotient_product (F : Nat) (sh : List jxC) (hs : jHas sh jc_C) : jAdV (jca_Quotient_product F) yX6_product cX6_product 7 1 2 44 2 sh := by
  intro as σ k x σ' h
  unfold jca_Quotient_product at h
  split at h
  · rename_i t0 v1 v2
    obtain ⟨g0, hh1⟩ := jcond h
    have g0 := jin_of g0
    obtain ⟨r, h1, h2⟩ := Option.bind_eq_some_iff.mp hh1
    exact ⟨_, _, h2, (by obtain ⟨fks, hfk⟩ := jrc_Quotient hs g0; exact ⟨_, _, _, _, _, _, rfl, rfl, hfk, rfl⟩), jmet_Quotient_product F t0 g0 sh hs σ v1 v2 r.1 r.2 h1⟩
  · cases h
def jtb_LL1_times : List (Nat × Instr) := [(0, .aload_n 0), (1, .iload_n 1), (2, .invokevirtual 193), (5, .astore 4), (7, .aload 4), (9, .ifnonnull 5), (12, .iconst (-1)), (13, .ireturn), (14, .aload 4), (16, .invokevirtual 200), (19, .ifCond .ne 6), (22, .bipush (-3)), (24, .ireturn), (25, .aload 4), (27, .iload_n 2), (28, .invokevirtual 203), (31, .ifCond .eq 22), (34, .aload 4), (36, .iload_n 3), (37, .invokevirtual 203), (40, .ifCond .eq 13), (43, .aload 4), (45, .iload_n 2), (46, .iload_n 3), (47, .invokevirtual 212), (50, .goto 4), (53, .iconst (-1)), (54, .ireturn)]
theorem jtk_LL1_times : jtok cX11_times jtb_LL1_times = true := by decide +kernel
set_option maxRecDepth 100000 in
theorem jlk_X11_212 : jLkV RX11 212 yX6_product cX6_product 7 1 2 := ⟨(jTB_at 1191 rfl rfl), (jTB_at 1192 rfl rfl), (jTB_at 1193 rfl rfl), (jTB_at 128 rfl rfl), jTB_at 1194 rfl rfl, ⟨by decide, by decide, by decide +kernel⟩⟩
def jE_LL1_times (F : Nat) : jxE := jmk [] [] [] [(193, (2, false), jca_LL1_quotientOf F), (200, (1, false), jca_Quotient_isKnown F), (203, (2, false), jca_Quotient_has F), (212, (3, false), jca_Quotient_product F)] 1 jc_L1
set_option maxRecDepth 100000 in
set_option maxHeartbeats 4000000 in
theorem jmet_LL1_times (F : Nat) (sh : List jxC) (hs : jHas sh jc_L1) (σ0 : jxS) (v1 : Int) (v2 : Int) (v3 : Int) (x : Int) (σ' : jxS) (h : LL1_times F σ0 v1 v2 v3 = some (x, σ')) : jMC yX11_times cX11_times 5 (jrt 1) 7 165 sh σ0 [(jmr 0), (jmi v1), (jmi v2), (jmi v3)] (jrv 1 x) σ' := by
  refine jMC_of (kd := 1) (by decide) rfl h ?_
  intro X hX
  have hG : jGd X (jE_LL1_times F) jtb_LL1_times := jGd_of hX jtk_LL1_times jnil jnil jnil (jcon (jsV jlk_X11_193 ⟨rfl, rfl⟩ (jad_LL1_quotientOf F sh hs)) (jcon (jsV jlk_X11_200 ⟨rfl, rfl⟩ (jad_Quotient_isKnown F sh (jh_L1C hs))) (jcon (jsV jlk_X11_203 ⟨rfl, rfl⟩ (jad_Quotient_has F sh (jh_L1C hs))) (jcon (jsV jlk_X11_212 ⟨rfl, rfl⟩ (jad_Quotient_product F sh (jh_L1C hs))) jnil)))) hs
  exact jRf_by (jex_ok hG (cs := []) jnil 31 0 [some (jmr 0), some (jmi v1), some (jmi v2), some (jmi v3), none] [] σ0) rfl
theorem jad_LL1_times (F : Nat) (sh : List jxC) (hs : jHas sh jc_L1) : jAdV (jca_LL1_times F) yX11_times cX11_times 5 1 7 165 3 sh := by
  intro as σ k x σ' h
  unfold jca_LL1_times at h
  split at h
  · rename_i t0 v1 v2 v3
    obtain ⟨g0, hh1⟩ := jcond h
    obtain rfl := jbeq g0
    obtain ⟨r, h1, h2⟩ := Option.bind_eq_some_iff.mp hh1
    exact ⟨_, _, h2, ⟨_, _, _, _, _, _, rfl, rfl, (hs _ (jkf_in (l := jc_L1) (idx := 0) rfl)).1, rfl⟩, jmet_LL1_times F  sh hs σ v1 v2 v3 r.1 r.2 h1⟩
  · cases h
def jtb_Quotient_lostSet : List (Nat × Instr) := [(0, .iconst 0), (1, .istore_n 1), (2, .iconst 0), (3, .istore_n 2), (4, .iload_n 2), (5, .aload_n 0), (6, .getfield 37), (9, .if_icmp .ge 36), (12, .aload_n 0), (13, .iload_n 2), (14, .invokevirtual 70), (17, .ifCond .eq 22), (20, .aload_n 0), (21, .getfield 15), (24, .iload_n 2), (25, .laload), (26, .lconst 1), (27, .land), (28, .lconst 1), (29, .lcmp), (30, .ifCond .ne 9), (33, .iload_n 1), (34, .iconst 1), (35, .iload_n 2), (36, .ishl), (37, .ior), (38, .istore_n 1), (39, .iinc 2 1), (42, .goto (-38)), (45, .iload_n 1), (46, .ireturn)]
theorem jtk_Quotient_lostSet : jtok cX6_lostSet jtb_Quotient_lostSet = true := by decide +kernel
def jE_Quotient_lostSet (F : Nat) : jxE := jmk [(15, 6, 4), (37, 6, 7)] [] [] [(70, (2, false), jca_Quotient_has F)] 1 jc_C
set_option maxRecDepth 100000 in
set_option maxHeartbeats 4000000 in
theorem jmet_Quotient_lostSet_48 (F : Nat) (sh : List jxC) (hs : jHas sh jc_C) (σ0 : jxS) (x : Int) (σ' : jxS) (h : Quotient_lostSet F 48 σ0 = some (x, σ')) : jMC yX6_lostSet cX6_lostSet 3 (jrt 1) 1 21 sh σ0 [(jmr 48)] (jrv 1 x) σ' := by
  refine jMC_of (kd := 1) (by decide) rfl h ?_
  intro X hX
  have hG : jGd X (jE_Quotient_lostSet F) jtb_Quotient_lostSet := jGd_of hX jtk_Quotient_lostSet (jcon jfl_X6_15 (jcon jfl_X6_37 jnil)) jnil jnil (jcon (jsV jlk_X6_70 ⟨rfl, rfl⟩ (jad_Quotient_has F sh hs)) jnil) hs
  have rr4 : ∀ (fu : Nat) (v1 v2 : Int) (σ : jxS), jRf X (Quotient_lostSet_c4 F 48 fu v1 v2 σ) 4 [some (jmr 48), some (jmi v1), some (jmi v2)] [] σ := by
    intro  fu
    induction fu with
    | zero => intros; exact jRf_none
    | succ fu ih =>
      intro v1 v2 σ
      exact jRf_by (jex_ok hG (cs := [(4, [some (.inr (some 48)), some (.inl 0), some (.inl 0)], [], fun xs σ => match xs with
      | [v1, v2] => (Quotient_lostSet_c4 F 48 fu) v1 v2 σ
      | _ => none)]) (jcon (jl2 (fun y0 y1 => jl0 (fun σ => ih y0 y1 σ))) jnil) 34 4 [some (jmr 48), some (jmi v1), some (jmi v2)] [] σ) rfl
  exact jRf_by (jex_ok hG (cs := [(4, [some (.inr (some 48)), some (.inl 0), some (.inl 0)], [], fun xs σ => match xs with
      | [v1, v2] => Quotient_lostSet_c4 F 48 F v1 v2 σ
      | _ => none)]) (jcon (jl2 (fun y0 y1 => jl0 (fun σ => rr4 F y0 y1 σ))) jnil) 34 0 [some (jmr 48), none, none] [] σ0) rfl
set_option maxRecDepth 100000 in
set_option maxHeartbeats 4000000 in
theorem jmet_Quotient_lostSet_53 (F : Nat) (sh : List jxC) (hs : jHas sh jc_C) (σ0 : jxS) (x : Int) (σ' : jxS) (h : Quotient_lostSet F 53 σ0 = some (x, σ')) : jMC yX6_lostSet cX6_lostSet 3 (jrt 1) 1 21 sh σ0 [(jmr 53)] (jrv 1 x) σ' := by
  refine jMC_of (kd := 1) (by decide) rfl h ?_
  intro X hX
  have hG : jGd X (jE_Quotient_lostSet F) jtb_Quotient_lostSet := jGd_of hX jtk_Quotient_lostSet (jcon jfl_X6_15 (jcon jfl_X6_37 jnil)) jnil jnil (jcon (jsV jlk_X6_70 ⟨rfl, rfl⟩ (jad_Quotient_has F sh hs)) jnil) hs
  have rr4 : ∀ (fu : Nat) (v1 v2 : Int) (σ : jxS), jRf X (Quotient_lostSet_c4 F 53 fu v1 v2 σ) 4 [some (jmr 53), some (jmi v1), some (jmi v2)] [] σ := by
    intro  fu
    induction fu with
    | zero => intros; exact jRf_none
    | succ fu ih =>
      intro v1 v2 σ
      exact jRf_by (jex_ok hG (cs := [(4, [some (.inr (some 53)), some (.inl 0), some (.inl 0)], [], fun xs σ => match xs with
      | [v1, v2] => (Quotient_lostSet_c4 F 53 fu) v1 v2 σ
      | _ => none)]) (jcon (jl2 (fun y0 y1 => jl0 (fun σ => ih y0 y1 σ))) jnil) 34 4 [some (jmr 53), some (jmi v1), some (jmi v2)] [] σ) rfl
  exact jRf_by (jex_ok hG (cs := [(4, [some (.inr (some 53)), some (.inl 0), some (.inl 0)], [], fun xs σ => match xs with
      | [v1, v2] => Quotient_lostSet_c4 F 53 F v1 v2 σ
      | _ => none)]) (jcon (jl2 (fun y0 y1 => jl0 (fun σ => rr4 F y0 y1 σ))) jnil) 34 0 [some (jmr 53), none, none] [] σ0) rfl
set_option maxRecDepth 100000 in
set_option maxHeartbeats 4000000 in
theorem jmet_Quotient_lostSet_58 (F : Nat) (sh : List jxC) (hs : jHas sh jc_C) (σ0 : jxS) (x : Int) (σ' : jxS) (h : Quotient_lostSet F 58 σ0 = some (x, σ')) : jMC yX6_lostSet cX6_lostSet 3 (jrt 1) 1 21 sh σ0 [(jmr 58)] (jrv 1 x) σ' := by
  refine jMC_of (kd := 1) (by decide) rfl h ?_
  intro X hX
  have hG : jGd X (jE_Quotient_lostSet F) jtb_Quotient_lostSet := jGd_of hX jtk_Quotient_lostSet (jcon jfl_X6_15 (jcon jfl_X6_37 jnil)) jnil jnil (jcon (jsV jlk_X6_70 ⟨rfl, rfl⟩ (jad_Quotient_has F sh hs)) jnil) hs
  have rr4 : ∀ (fu : Nat) (v1 v2 : Int) (σ : jxS), jRf X (Quotient_lostSet_c4 F 58 fu v1 v2 σ) 4 [some (jmr 58), some (jmi v1), some (jmi v2)] [] σ := by
    intro  fu
    induction fu with
    | zero => intros; exact jRf_none
    | succ fu ih =>
      intro v1 v2 σ
      exact jRf_by (jex_ok hG (cs := [(4, [some (.inr (some 58)), some (.inl 0), some (.inl 0)], [], fun xs σ => match xs with
      | [v1, v2] => (Quotient_lostSet_c4 F 58 fu) v1 v2 σ
      | _ => none)]) (jcon (jl2 (fun y0 y1 => jl0 (fun σ => ih y0 y1 σ))) jnil) 34 4 [some (jmr 58), some (jmi v1), some (jmi v2)] [] σ) rfl
  exact jRf_by (jex_ok hG (cs := [(4, [some (.inr (some 58)), some (.inl 0), some (.inl 0)], [], fun xs σ => match xs with
      | [v1, v2] => Quotient_lostSet_c4 F 58 F v1 v2 σ
      | _ => none)]) (jcon (jl2 (fun y0 y1 => jl0 (fun σ => rr4 F y0 y1 σ))) jnil) 34 0 [some (jmr 58), none, none] [] σ0) rfl
set_option maxRecDepth 100000 in
set_option maxHeartbeats 4000000 in
theorem jmet_Quotient_lostSet_63 (F : Nat) (sh : List jxC) (hs : jHas sh jc_C) (σ0 : jxS) (x : Int) (σ' : jxS) (h : Quotient_lostSet F 63 σ0 = some (x, σ')) : jMC yX6_lostSet cX6_lostSet 3 (jrt 1) 1 21 sh σ0 [(jmr 63)] (jrv 1 x) σ' := by
  refine jMC_of (kd := 1) (by decide) rfl h ?_
  intro X hX
  have hG : jGd X (jE_Quotient_lostSet F) jtb_Quotient_lostSet := jGd_of hX jtk_Quotient_lostSet (jcon jfl_X6_15 (jcon jfl_X6_37 jnil)) jnil jnil (jcon (jsV jlk_X6_70 ⟨rfl, rfl⟩ (jad_Quotient_has F sh hs)) jnil) hs
  have rr4 : ∀ (fu : Nat) (v1 v2 : Int) (σ : jxS), jRf X (Quotient_lostSet_c4 F 63 fu v1 v2 σ) 4 [some (jmr 63), some (jmi v1), some (jmi v2)] [] σ := by
    intro  fu
    induction fu with
    | zero => intros; exact jRf_none
    | succ fu ih =>
      intro v1 v2 σ
      exact jRf_by (jex_ok hG (cs := [(4, [some (.inr (some 63)), some (.inl 0), some (.inl 0)], [], fun xs σ => match xs with
      | [v1, v2] => (Quotient_lostSet_c4 F 63 fu) v1 v2 σ
      | _ => none)]) (jcon (jl2 (fun y0 y1 => jl0 (fun σ => ih y0 y1 σ))) jnil) 34 4 [some (jmr 63), some (jmi v1), some (jmi v2)] [] σ) rfl
  exact jRf_by (jex_ok hG (cs := [(4, [some (.inr (some 63)), some (.inl 0), some (.inl 0)], [], fun xs σ => match xs with
      | [v1, v2] => Quotient_lostSet_c4 F 63 F v1 v2 σ
      | _ => none)]) (jcon (jl2 (fun y0 y1 => jl0 (fun σ => rr4 F y0 y1 σ))) jnil) 34 0 [some (jmr 63), none, none] [] σ0) rfl
set_option maxRecDepth 100000 in
set_option maxHeartbeats 4000000 in
theorem jmet_Quotient_lostSet_68 (F : Nat) (sh : List jxC) (hs : jHas sh jc_C) (σ0 : jxS) (x : Int) (σ' : jxS) (h : Quotient_lostSet F 68 σ0 = some (x, σ')) : jMC yX6_lostSet cX6_lostSet 3 (jrt 1) 1 21 sh σ0 [(jmr 68)] (jrv 1 x) σ' := by
  refine jMC_of (kd := 1) (by decide) rfl h ?_
  intro X hX
  have hG : jGd X (jE_Quotient_lostSet F) jtb_Quotient_lostSet := jGd_of hX jtk_Quotient_lostSet (jcon jfl_X6_15 (jcon jfl_X6_37 jnil)) jnil jnil (jcon (jsV jlk_X6_70 ⟨rfl, rfl⟩ (jad_Quotient_has F sh hs)) jnil) hs
  have rr4 : ∀ (fu : Nat) (v1 v2 : Int) (σ : jxS), jRf X (Quotient_lostSet_c4 F 68 fu v1 v2 σ) 4 [some (jmr 68), some (jmi v1), some (jmi v2)] [] σ := by
    intro  fu
    induction fu with
    | zero => intros; exact jRf_none
    | succ fu ih =>
      intro v1 v2 σ
      exact jRf_by (jex_ok hG (cs := [(4, [some (.inr (some 68)), some (.inl 0), some (.inl 0)], [], fun xs σ => match xs with
      | [v1, v2] => (Quotient_lostSet_c4 F 68 fu) v1 v2 σ
      | _ => none)]) (jcon (jl2 (fun y0 y1 => jl0 (fun σ => ih y0 y1 σ))) jnil) 34 4 [some (jmr 68), some (jmi v1), some (jmi v2)] [] σ) rfl
  exact jRf_by (jex_ok hG (cs := [(4, [some (.inr (some 68)), some (.inl 0), some (.inl 0)], [], fun xs σ => match xs with
      | [v1, v2] => Quotient_lostSet_c4 F 68 F v1 v2 σ
      | _ => none)]) (jcon (jl2 (fun y0 y1 => jl0 (fun σ => rr4 F y0 y1 σ))) jnil) 34 0 [some (jmr 68), none, none] [] σ0) rfl
set_option maxRecDepth 100000 in
set_option maxHeartbeats 4000000 in
theorem jmet_Quotient_lostSet_73 (F : Nat) (sh : List jxC) (hs : jHas sh jc_C) (σ0 : jxS) (x : Int) (σ' : jxS) (h : Quotient_lostSet F 73 σ0 = some (x, σ')) : jMC yX6_lostSet cX6_lostSet 3 (jrt 1) 1 21 sh σ0 [(jmr 73)] (jrv 1 x) σ' := by
  refine jMC_of (kd := 1) (by decide) rfl h ?_
  intro X hX
  have hG : jGd X (jE_Quotient_lostSet F) jtb_Quotient_lostSet := jGd_of hX jtk_Quotient_lostSet (jcon jfl_X6_15 (jcon jfl_X6_37 jnil)) jnil jnil (jcon (jsV jlk_X6_70 ⟨rfl, rfl⟩ (jad_Quotient_has F sh hs)) jnil) hs
  have rr4 : ∀ (fu : Nat) (v1 v2 : Int) (σ : jxS), jRf X (Quotient_lostSet_c4 F 73 fu v1 v2 σ) 4 [some (jmr 73), some (jmi v1), some (jmi v2)] [] σ := by
    intro  fu
    induction fu with
    | zero => intros; exact jRf_none
    | succ fu ih =>
      intro v1 v2 σ
      exact jRf_by (jex_ok hG (cs := [(4, [some (.inr (some 73)), some (.inl 0), some (.inl 0)], [], fun xs σ => match xs with
      | [v1, v2] => (Quotient_lostSet_c4 F 73 fu) v1 v2 σ
      | _ => none)]) (jcon (jl2 (fun y0 y1 => jl0 (fun σ => ih y0 y1 σ))) jnil) 34 4 [some (jmr 73), some (jmi v1), some (jmi v2)] [] σ) rfl
  exact jRf_by (jex_ok hG (cs := [(4, [some (.inr (some 73)), some (.inl 0), some (.inl 0)], [], fun xs σ => match xs with
      | [v1, v2] => Quotient_lostSet_c4 F 73 F v1 v2 σ
      | _ => none)]) (jcon (jl2 (fun y0 y1 => jl0 (fun σ => rr4 F y0 y1 σ))) jnil) 34 0 [some (jmr 73), none, none] [] σ0) rfl
theorem jmet_Quotient_lostSet (F : Nat) (q : Nat) (hq : q ∈ jids_Quotient_lostSet_q) (sh : List jxC) (hs : jHas sh jc_C) (σ0 : jxS) (x : Int) (σ' : jxS) (h : Quotient_lostSet F q σ0 = some (x, σ')) : jMC yX6_lostSet cX6_lostSet 3 (jrt 1) 1 21 sh σ0 [(jmr q)] (jrv 1 x) σ' := by
  simp only [jids_Quotient_lostSet_q, List.mem_cons, List.not_mem_nil, or_false] at hq
  rcases hq with rfl | rfl | rfl | rfl | rfl | rfl
  · exact jmet_Quotient_lostSet_48 F sh hs σ0  x σ' h
  · exact jmet_Quotient_lostSet_53 F sh hs σ0  x σ' h
  · exact jmet_Quotient_lostSet_58 F sh hs σ0  x σ' h
  · exact jmet_Quotient_lostSet_63 F sh hs σ0  x σ' h
  · exact jmet_Quotient_lostSet_68 F sh hs σ0  x σ' h
  · exact jmet_Quotient_lostSet_73 F sh hs σ0  x σ' h
theorem jad_Quotient_lostSet (F : Nat) (sh : List jxC) (hs : jHas sh jc_C) : jAdV (jca_Quotient_lostSet F) yX6_lostSet cX6_lostSet 3 1 1 21 0 sh := by
  intro as σ k x σ' h
  unfold jca_Quotient_lostSet at h
  split at h
  · rename_i t0
    obtain ⟨g0, hh1⟩ := jcond h
    have g0 := jin_of g0
    obtain ⟨r, h1, h2⟩ := Option.bind_eq_some_iff.mp hh1
    exact ⟨_, _, h2, (by obtain ⟨fks, hfk⟩ := jrc_Quotient hs g0; exact ⟨_, _, _, _, _, _, rfl, rfl, hfk, rfl⟩), jmet_Quotient_lostSet F t0 g0 sh hs σ  r.1 r.2 h1⟩
  · cases h
