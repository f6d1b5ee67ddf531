/-! Contracts: Tape_hasRoom Tape_append Tape_size LL1_feed Tape_cutTo LL1_end Tape_at Reader_skipBlanks Reader_isLetter Reader_passWord Reader_readKind Reader_fail Reader_isDigit Reader_readDigit Reader_readCode Reader_readNumber Reader_store Reader_readAlso Reader_readNever Reader_readLine Reader_passSemicolon Reader_readText -/
def jtb_Tape_hasRoom : List (Nat × Instr) := [(0, .aload_n 0), (1, .getfield 15), (4, .bipush 20), (6, .iadd), (7, .sipush 200), (10, .if_icmp .gt 7), (13, .iconst 1), (14, .goto 4), (17, .iconst 0), (18, .ireturn)]
theorem jtk_Tape_hasRoom : jtok cX9_hasRoom jtb_Tape_hasRoom = true := by decide +kernel
set_option maxRecDepth 100000 in
theorem jfl_X9_15 : jFl RX9 15 9 1 := ⟨RX9, TX9, 2, tyX9, rfl, by decide, jin_X9, tyX9_ok, nmX9, jow_X9, (Or.inl (jTB_at 147 rfl rfl))⟩
def jE_Tape_hasRoom (F : Nat) : jxE := jmk [(15, 9, 1)] [] [] [] 4 jc_T
set_option maxRecDepth 100000 in
set_option maxHeartbeats 4000000 in
theorem jmet_Tape_hasRoom (F : Nat) (sh : List jxC) (hs : jHas sh jc_T) (σ0 : jxS) (x : Int) (σ' : jxS) (h : Tape_hasRoom F σ0 = some (x, σ')) : jMC yX9_hasRoom cX9_hasRoom 1 (jrt 4) 0 0 sh σ0 [(jmr 1)] (jrv 4 x) σ' := by
  refine jMC_of (kd := 4) (by decide) rfl h ?_
  intro X hX
  have hG : jGd X (jE_Tape_hasRoom F) jtb_Tape_hasRoom := jGd_of hX jtk_Tape_hasRoom (jcon jfl_X9_15 jnil) jnil jnil jnil hs
  exact jRf_by (jex_ok hG (cs := []) jnil 13 0 [some (jmr 1)] [] σ0) rfl
theorem jad_Tape_hasRoom (F : Nat) (sh : List jxC) (hs : jHas sh jc_T) : jAdV (jca_Tape_hasRoom F) yX9_hasRoom cX9_hasRoom 1 4 0 0 0 sh := by
  intro as σ k x σ' h
  unfold jca_Tape_hasRoom at h
  split at h
  · rename_i t0
    obtain ⟨g0, hh1⟩ := jcond h
    obtain rfl := jbeq g0
    obtain ⟨r, h1, h2⟩ := Option.bind_eq_some_iff.mp hh1
    exact ⟨_, _, h2, ⟨_, _, _, _, _, _, rfl, rfl, (hs _ (jkf_in (l := jc_T) (idx := 1) rfl)).1, rfl⟩, jmet_Tape_hasRoom F  sh hs σ  r.1 r.2 h1⟩
  · cases h
def jtb_Tape_append : List (Nat × Instr) := [(0, .bipush 24), (2, .istore_n 2), (3, .iload_n 2), (4, .ifCond .lt 45), (7, .aload_n 0), (8, .getfield 15), (11, .sipush 200), (14, .if_icmp .ge 35), (17, .aload_n 0), (18, .getfield 11), (21, .aload_n 0), (22, .getfield 15), (25, .iload_n 1), (26, .iload_n 2), (27, .iushr), (28, .sipush 255), (31, .iand), (32, .iastore), (33, .aload_n 0), (34, .dup), (35, .getfield 15), (38, .iconst 1), (39, .iadd), (40, .putfield 15), (43, .iinc 2 (-8)), (46, .goto (-43)), (49, .return_)]
theorem jtk_Tape_append : jtok cX9_append jtb_Tape_append = true := by decide +kernel
set_option maxRecDepth 100000 in
theorem jfl_X9_11 : jFl RX9 11 9 0 := ⟨RX9, TX9, 2, tyX9, rfl, by decide, jin_X9, tyX9_ok, nmX9, jow_X9, (Or.inl (jTB_at 146 rfl rfl))⟩
def jE_Tape_append (F : Nat) : jxE := jmk [(11, 9, 0), (15, 9, 1)] [] [] [] 0 jc_T
set_option maxRecDepth 100000 in
set_option maxHeartbeats 4000000 in
theorem jmet_Tape_append (F : Nat) (sh : List jxC) (hs : jHas sh jc_T) (σ0 : jxS) (v1 : Int) (x : Int) (σ' : jxS) (h : Tape_append F σ0 v1 = some (x, σ')) : jMC yX9_append cX9_append 3 (jrt 0) 0 0 sh σ0 [(jmr 1), (jmi v1)] (jrv 0 x) σ' := by
  refine jMC_of (kd := 0) (by decide) rfl h ?_
  intro X hX
  have hG : jGd X (jE_Tape_append F) jtb_Tape_append := jGd_of hX jtk_Tape_append (jcon jfl_X9_11 (jcon jfl_X9_15 jnil)) jnil jnil jnil hs
  have rr3 : ∀ (fu : Nat) (v1 v2 : Int) (σ : jxS), jRf X (Tape_append_c3 F fu v1 v2 σ) 3 [some (jmr 1), some (jmi v1), some (jmi v2)] [] σ := by
    intro  fu
    induction fu with
    | zero => intros; exact jRf_none
    | succ fu ih =>
      intro v1 v2 σ
      exact jRf_by (jex_ok hG (cs := [(3, [some (.inr (some 1)), some (.inl 0), some (.inl 0)], [], fun xs σ => match xs with
      | [v1, v2] => (Tape_append_c3 F fu) v1 v2 σ
      | _ => none)]) (jcon (jl2 (fun y0 y1 => jl0 (fun σ => ih y0 y1 σ))) jnil) 30 3 [some (jmr 1), some (jmi v1), some (jmi v2)] [] σ) rfl
  exact jRf_by (jex_ok hG (cs := [(3, [some (.inr (some 1)), some (.inl 0), some (.inl 0)], [], fun xs σ => match xs with
      | [v1, v2] => Tape_append_c3 F F v1 v2 σ
      | _ => none)]) (jcon (jl2 (fun y0 y1 => jl0 (fun σ => rr3 F y0 y1 σ))) jnil) 30 0 [some (jmr 1), some (jmi v1), none] [] σ0) rfl
theorem jad_Tape_append (F : Nat) (sh : List jxC) (hs : jHas sh jc_T) : jAdV (jca_Tape_append F) yX9_append cX9_append 3 0 0 0 1 sh := by
  intro as σ k x σ' h
  unfold jca_Tape_append at h
  split at h
  · rename_i t0 v1
    obtain ⟨g0, hh1⟩ := jcond h
    obtain rfl := jbeq g0
    obtain ⟨r, h1, h2⟩ := Option.bind_eq_some_iff.mp hh1
    exact ⟨_, _, h2, ⟨_, _, _, _, _, _, rfl, rfl, (hs _ (jkf_in (l := jc_T) (idx := 1) rfl)).1, rfl⟩, jmet_Tape_append F  sh hs σ v1 r.1 r.2 h1⟩
  · cases h
def jtb_Tape_size : List (Nat × Instr) := [(0, .aload_n 0), (1, .getfield 15), (4, .ireturn)]
theorem jtk_Tape_size : jtok cX9_size jtb_Tape_size = true := by decide +kernel
def jE_Tape_size (F : Nat) : jxE := jmk [(15, 9, 1)] [] [] [] 1 jc_T
set_option maxRecDepth 100000 in
set_option maxHeartbeats 4000000 in
theorem jmet_Tape_size (F : Nat) (sh : List jxC) (hs : jHas sh jc_T) (σ0 : jxS) (x : Int) (σ' : jxS) (h : Tape_size F σ0 = some (x, σ')) : jMC yX9_size cX9_size 1 (jrt 1) 0 0 sh σ0 [(jmr 1)] (jrv 1 x) σ' := by
  refine jMC_of (kd := 1) (by decide) rfl h ?_
  intro X hX
  have hG : jGd X (jE_Tape_size F) jtb_Tape_size := jGd_of hX jtk_Tape_size (jcon jfl_X9_15 jnil) jnil jnil jnil hs
  exact jRf_by (jex_ok hG (cs := []) jnil 6 0 [some (jmr 1)] [] σ0) rfl
theorem jad_Tape_size (F : Nat) (sh : List jxC) (hs : jHas sh jc_T) : jAdV (jca_Tape_size F) yX9_size cX9_size 1 1 0 0 0 sh := by
  intro as σ k x σ' h
  unfold jca_Tape_size at h
  split at h
  · rename_i t0
    obtain ⟨g0, hh1⟩ := jcond h
    obtain rfl := jbeq g0
    obtain ⟨r, h1, h2⟩ := Option.bind_eq_some_iff.mp hh1
    exact ⟨_, _, h2, ⟨_, _, _, _, _, _, rfl, rfl, (hs _ (jkf_in (l := jc_T) (idx := 1) rfl)).1, rfl⟩, jmet_Tape_size F  sh hs σ  r.1 r.2 h1⟩
  · cases h
def jtb_LL1_feed : List (Nat × Instr) := [(0, .aload_n 0), (1, .getfield 10), (4, .invokevirtual 29), (7, .ifCond .ne 5), (10, .iconst (-1)), (11, .ireturn), (12, .aload_n 0), (13, .getfield 10), (16, .iload_n 1), (17, .invokevirtual 33), (20, .aload_n 0), (21, .getfield 10), (24, .iload_n 2), (25, .invokevirtual 33), (28, .aload_n 0), (29, .getfield 10), (32, .iload_n 3), (33, .invokevirtual 33), (36, .aload_n 0), (37, .getfield 10), (40, .iload 4), (42, .invokevirtual 33), (45, .aload_n 0), (46, .getfield 10), (49, .iload 5), (51, .invokevirtual 33), (54, .aload_n 0), (55, .getfield 10), (58, .invokevirtual 37), (61, .ireturn)]
theorem jtk_LL1_feed : jtok cX11_feed jtb_LL1_feed = true := by decide +kernel
set_option maxRecDepth 100000 in
theorem jfl_X11_10 : jFl RX11 10 11 0 := ⟨RX11, TX11, 4, tyX11, rfl, by decide, jin_X11, tyX11_ok, nmX11, jow_X11, (Or.inl (jTB_at 198 rfl rfl))⟩
set_option maxRecDepth 100000 in
theorem jlk_X11_29 : jLkV RX11 29 yX9_hasRoom cX9_hasRoom 1 4 0 := ⟨(jTB_at 215 rfl rfl), (jTB_at 216 rfl rfl), (jTB_at 217 rfl rfl), (jTB_at 113 rfl rfl), jTB_at 218 rfl rfl, ⟨by decide, by decide, by decide +kernel⟩⟩
set_option maxRecDepth 100000 in
theorem jlk_X11_33 : jLkV RX11 33 yX9_append cX9_append 3 0 1 := ⟨(jTB_at 219 rfl rfl), (jTB_at 220 rfl rfl), (jTB_at 221 rfl rfl), (jTB_at 113 rfl rfl), jTB_at 222 rfl rfl, ⟨by decide, by decide, by decide +kernel⟩⟩
set_option maxRecDepth 100000 in
theorem jlk_X11_37 : jLkV RX11 37 yX9_size cX9_size 1 1 0 := ⟨(jTB_at 223 rfl rfl), (jTB_at 224 rfl rfl), (jTB_at 225 rfl rfl), (jTB_at 113 rfl rfl), jTB_at 226 rfl rfl, ⟨by decide, by decide, by decide +kernel⟩⟩
def jE_LL1_feed (F : Nat) : jxE := jmk [(10, 11, 0)] [] [] [(29, (1, false), jca_Tape_hasRoom F), (33, (2, false), jca_Tape_append F), (37, (1, false), jca_Tape_size F)] 1 jc_L1
set_option maxRecDepth 100000 in
set_option maxHeartbeats 4000000 in
theorem jmet_LL1_feed (F : Nat) (sh : List jxC) (hs : jHas sh jc_L1) (σ0 : jxS) (v1 : Int) (v2 : Int) (v3 : Int) (v4 : Int) (v5 : Int) (x : Int) (σ' : jxS) (h : LL1_feed F σ0 v1 v2 v3 v4 v5 = some (x, σ')) : jMC yX11_feed cX11_feed 6 (jrt 1) 1 22 sh σ0 [(jmr 0), (jmi v1), (jmi v2), (jmi v3), (jmi v4), (jmi v5)] (jrv 1 x) σ' := by
  refine jMC_of (kd := 1) (by decide) rfl h ?_
  intro X hX
  have hG : jGd X (jE_LL1_feed F) jtb_LL1_feed := jGd_of hX jtk_LL1_feed (jcon jfl_X11_10 jnil) jnil jnil (jcon (jsV jlk_X11_29 ⟨rfl, rfl⟩ (jad_Tape_hasRoom F sh (jh_L1T hs))) (jcon (jsV jlk_X11_33 ⟨rfl, rfl⟩ (jad_Tape_append F sh (jh_L1T hs))) (jcon (jsV jlk_X11_37 ⟨rfl, rfl⟩ (jad_Tape_size F sh (jh_L1T hs))) jnil))) hs
  exact jRf_by (jex_ok hG (cs := []) jnil 33 0 [some (jmr 0), some (jmi v1), some (jmi v2), some (jmi v3), some (jmi v4), some (jmi v5)] [] σ0) rfl
theorem jad_LL1_feed (F : Nat) (sh : List jxC) (hs : jHas sh jc_L1) : jAdV (jca_LL1_feed F) yX11_feed cX11_feed 6 1 1 22 5 sh := by
  intro as σ k x σ' h
  unfold jca_LL1_feed at h
  split at h
  · rename_i t0 v1 v2 v3 v4 v5
    obtain ⟨g0, hh1⟩ := jcond h
    obtain rfl := jbeq g0
    obtain ⟨r, h1, h2⟩ := Option.bind_eq_some_iff.mp hh1
    exact ⟨_, _, h2, ⟨_, _, _, _, _, _, rfl, rfl, (hs _ (jkf_in (l := jc_L1) (idx := 0) rfl)).1, rfl⟩, jmet_LL1_feed F  sh hs σ v1 v2 v3 v4 v5 r.1 r.2 h1⟩
  · cases h
def jtb_Tape_cutTo : List (Nat × Instr) := [(0, .iload_n 1), (1, .ifCond .lt 11), (4, .iload_n 1), (5, .aload_n 0), (6, .getfield 15), (9, .if_icmp .le 5), (12, .iconst 0), (13, .ireturn), (14, .aload_n 0), (15, .iload_n 1), (16, .putfield 15), (19, .iconst 1), (20, .ireturn)]
theorem jtk_Tape_cutTo : jtok cX9_cutTo jtb_Tape_cutTo = true := by decide +kernel
def jE_Tape_cutTo (F : Nat) : jxE := jmk [(15, 9, 1)] [] [] [] 4 jc_T
set_option maxRecDepth 100000 in
set_option maxHeartbeats 4000000 in
theorem jmet_Tape_cutTo (F : Nat) (sh : List jxC) (hs : jHas sh jc_T) (σ0 : jxS) (v1 : Int) (x : Int) (σ' : jxS) (h : Tape_cutTo F σ0 v1 = some (x, σ')) : jMC yX9_cutTo cX9_cutTo 2 (jrt 4) 0 0 sh σ0 [(jmr 1), (jmi v1)] (jrv 4 x) σ' := by
  refine jMC_of (kd := 4) (by decide) rfl h ?_
  intro X hX
  have hG : jGd X (jE_Tape_cutTo F) jtb_Tape_cutTo := jGd_of hX jtk_Tape_cutTo (jcon jfl_X9_15 jnil) jnil jnil jnil hs
  exact jRf_by (jex_ok hG (cs := []) jnil 16 0 [some (jmr 1), some (jmi v1)] [] σ0) rfl
theorem jad_Tape_cutTo (F : Nat) (sh : List jxC) (hs : jHas sh jc_T) : jAdV (jca_Tape_cutTo F) yX9_cutTo cX9_cutTo 2 4 0 0 1 sh := by
  intro as σ k x σ' h
  unfold jca_Tape_cutTo at h
  split at h
  · rename_i t0 v1
    obtain ⟨g0, hh1⟩ := jcond h
    obtain rfl := jbeq g0
    obtain ⟨r, h1, h2⟩ := Option.bind_eq_some_iff.mp hh1
    exact ⟨_, _, h2, ⟨_, _, _, _, _, _, rfl, rfl, (hs _ (jkf_in (l := jc_T) (idx := 1) rfl)).1, rfl⟩, jmet_Tape_cutTo F  sh hs σ v1 r.1 r.2 h1⟩
  · cases h
def jtb_LL1_end : List (Nat × Instr) := [(0, .aload_n 0), (1, .getfield 10), (4, .iload_n 1), (5, .invokevirtual 41), (8, .ifCond .eq 7), (11, .iload_n 1), (12, .goto 4), (15, .iconst (-1)), (16, .ireturn)]
theorem jtk_LL1_end : jtok cX11_end jtb_LL1_end = true := by decide +kernel
set_option maxRecDepth 100000 in
theorem jlk_X11_41 : jLkV RX11 41 yX9_cutTo cX9_cutTo 2 4 1 := ⟨(jTB_at 231 rfl rfl), (jTB_at 232 rfl rfl), (jTB_at 233 rfl rfl), (jTB_at 113 rfl rfl), jTB_at 234 rfl rfl, ⟨by decide, by decide, by decide +kernel⟩⟩
def jE_LL1_end (F : Nat) : jxE := jmk [(10, 11, 0)] [] [] [(41, (2, false), jca_Tape_cutTo F)] 1 jc_L1
set_option maxRecDepth 100000 in
set_option maxHeartbeats 4000000 in
theorem jmet_LL1_end (F : Nat) (sh : List jxC) (hs : jHas sh jc_L1) (σ0 : jxS) (v1 : Int) (x : Int) (σ' : jxS) (h : LL1_end F σ0 v1 = some (x, σ')) : jMC yX11_end cX11_end 2 (jrt 1) 1 21 sh σ0 [(jmr 0), (jmi v1)] (jrv 1 x) σ' := by
  refine jMC_of (kd := 1) (by decide) rfl h ?_
  intro X hX
  have hG : jGd X (jE_LL1_end F) jtb_LL1_end := jGd_of hX jtk_LL1_end (jcon jfl_X11_10 jnil) jnil jnil (jcon (jsV jlk_X11_41 ⟨rfl, rfl⟩ (jad_Tape_cutTo F sh (jh_L1T hs))) jnil) hs
  exact jRf_by (jex_ok hG (cs := []) jnil 12 0 [some (jmr 0), some (jmi v1)] [] σ0) rfl
theorem jad_LL1_end (F : Nat) (sh : List jxC) (hs : jHas sh jc_L1) : jAdV (jca_LL1_end F) yX11_end cX11_end 2 1 1 21 1 sh := by
  intro as σ k x σ' h
  unfold jca_LL1_end at h
  split at h
  · rename_i t0 v1
    obtain ⟨g0, hh1⟩ := jcond h
    obtain rfl := jbeq g0
    obtain ⟨r, h1, h2⟩ := Option.bind_eq_some_iff.mp hh1
    exact ⟨_, _, h2, ⟨_, _, _, _, _, _, rfl, rfl, (hs _ (jkf_in (l := jc_L1) (idx := 0) rfl)).1, rfl⟩, jmet_LL1_end F  sh hs σ v1 r.1 r.2 h1⟩
  · cases h
def jtb_Tape_at : List (Nat × Instr) := [(0, .iload_n 1), (1, .ifCond .lt 20), (4, .iload_n 1), (5, .aload_n 0), (6, .getfield 15), (9, .if_icmp .ge 12), (12, .aload_n 0), (13, .getfield 11), (16, .iload_n 1), (17, .iaload), (18, .goto 4), (21, .iconst (-1)), (22, .ireturn)]
theorem jtk_Tape_at : jtok cX9_at jtb_Tape_at = true := by decide +kernel
def jE_Tape_at (F : Nat) : jxE := jmk [(11, 9, 0), (15, 9, 1)] [] [] [] 1 jc_T
set_option maxRecDepth 100000 in
set_option maxHeartbeats 4000000 in
theorem jmet_Tape_at (F : Nat) (sh : List jxC) (hs : jHas sh jc_T) (σ0 : jxS) (v1 : Int) (x : Int) (σ' : jxS) (h : Tape_at F σ0 v1 = some (x, σ')) : jMC yX9_at cX9_at 2 (jrt 1) 0 0 sh σ0 [(jmr 1), (jmi v1)] (jrv 1 x) σ' := by
  refine jMC_of (kd := 1) (by decide) rfl h ?_
  intro X hX
  have hG : jGd X (jE_Tape_at F) jtb_Tape_at := jGd_of hX jtk_Tape_at (jcon jfl_X9_11 (jcon jfl_X9_15 jnil)) jnil jnil jnil hs
  exact jRf_by (jex_ok hG (cs := []) jnil 16 0 [some (jmr 1), some (jmi v1)] [] σ0) rfl
theorem jad_Tape_at (F : Nat) (sh : List jxC) (hs : jHas sh jc_T) : jAdV (jca_Tape_at F) yX9_at cX9_at 2 1 0 0 1 sh := by
  intro as σ k x σ' h
  unfold jca_Tape_at at h
  split at h
  · rename_i t0 v1
    obtain ⟨g0, hh1⟩ := jcond h
    obtain rfl := jbeq g0
    obtain ⟨r, h1, h2⟩ := Option.bind_eq_some_iff.mp hh1
    exact ⟨_, _, h2, ⟨_, _, _, _, _, _, rfl, rfl, (hs _ (jkf_in (l := jc_T) (idx := 1) rfl)).1, rfl⟩, jmet_Tape_at F  sh hs σ v1 r.1 r.2 h1⟩
  · cases h
def jtb_Reader_skipBlanks : List (Nat × Instr) := [(0, .aload_n 0), (1, .getfield 27), (4, .invokevirtual 90), (7, .istore_n 1), (8, .iload_n 1), (9, .ifCond .le 35), (12, .aload_n 0), (13, .getfield 27), (16, .aload_n 0), (17, .getfield 31), (20, .invokevirtual 81), (23, .bipush 32), (25, .if_icmp .ne 19), (28, .aload_n 0), (29, .dup), (30, .getfield 31), (33, .iconst 1), (34, .iadd), (35, .putfield 31), (38, .iinc 1 (-1)), (41, .goto (-33)), (44, .return_)]
theorem jtk_Reader_skipBlanks : jtok cX7_skipBlanks jtb_Reader_skipBlanks = true := by decide +kernel
set_option maxRecDepth 100000 in
theorem jfl_X7_27 : jFl RX7 27 7 0 := ⟨RX7, TX7, 10, tyX7, rfl, by decide, jin_X7, tyX7_ok, nmX7, jow_X7, (Or.inl (jTB_at 160 rfl rfl))⟩
set_option maxRecDepth 100000 in
theorem jfl_X7_31 : jFl RX7 31 7 8 := ⟨RX7, TX7, 10, tyX7, rfl, by decide, jin_X7, tyX7_ok, nmX7, jow_X7, (Or.inl (jTB_at 175 rfl rfl))⟩
set_option maxRecDepth 100000 in
theorem jlk_X7_81 : jLkV RX7 81 yX9_at cX9_at 2 1 1 := ⟨(jTB_at 252 rfl rfl), (jTB_at 253 rfl rfl), (jTB_at 254 rfl rfl), (jTB_at 113 rfl rfl), jTB_at 255 rfl rfl, ⟨by decide, by decide, by decide +kernel⟩⟩
set_option maxRecDepth 100000 in
theorem jlk_X7_90 : jLkV RX7 90 yX9_size cX9_size 1 1 0 := ⟨(jTB_at 251 rfl rfl), (jTB_at 224 rfl rfl), (jTB_at 225 rfl rfl), (jTB_at 113 rfl rfl), jTB_at 226 rfl rfl, ⟨by decide, by decide, by decide +kernel⟩⟩
def jE_Reader_skipBlanks (F : Nat) : jxE := jmk [(27, 7, 0), (31, 7, 8)] [] [] [(81, (2, false), jca_Tape_at F), (90, (1, false), jca_Tape_size F)] 0 jc_T
set_option maxRecDepth 100000 in
set_option maxHeartbeats 4000000 in
theorem jmet_Reader_skipBlanks (F : Nat) (sh : List jxC) (hs : jHas sh jc_T) (σ0 : jxS) (x : Int) (σ' : jxS) (h : Reader_skipBlanks F σ0 = some (x, σ')) : jMC yX7_skipBlanks cX7_skipBlanks 2 (jrt 0) 1 21 sh σ0 [(jmr 3)] (jrv 0 x) σ' := by
  refine jMC_of (kd := 0) (by decide) rfl h ?_
  intro X hX
  have hG : jGd X (jE_Reader_skipBlanks F) jtb_Reader_skipBlanks := jGd_of hX jtk_Reader_skipBlanks (jcon jfl_X7_27 (jcon jfl_X7_31 jnil)) jnil jnil (jcon (jsV jlk_X7_81 ⟨rfl, rfl⟩ (jad_Tape_at F sh hs)) (jcon (jsV jlk_X7_90 ⟨rfl, rfl⟩ (jad_Tape_size F sh hs)) jnil)) hs
  have rr8 : ∀ (fu : Nat) (v1 : Int) (σ : jxS), jRf X (Reader_skipBlanks_c8 F fu v1 σ) 8 [some (jmr 3), some (jmi v1)] [] σ := by
    intro  fu
    induction fu with
    | zero => intros; exact jRf_none
    | succ fu ih =>
      intro v1 σ
      exact jRf_by (jex_ok hG (cs := [(8, [some (.inr (some 3)), some (.inl 0)], [], fun xs σ => match xs with
      | [v1] => (Reader_skipBlanks_c8 F fu) v1 σ
      | _ => none)]) (jcon (jl1 (fun y0 => jl0 (fun σ => ih y0 σ))) jnil) 25 8 [some (jmr 3), some (jmi v1)] [] σ) rfl
  exact jRf_by (jex_ok hG (cs := [(8, [some (.inr (some 3)), some (.inl 0)], [], fun xs σ => match xs with
      | [v1] => Reader_skipBlanks_c8 F F v1 σ
      | _ => none)]) (jcon (jl1 (fun y0 => jl0 (fun σ => rr8 F y0 σ))) jnil) 25 0 [some (jmr 3), none] [] σ0) rfl
theorem jad_Reader_skipBlanks (F : Nat) (sh : List jxC) (hs : jHas sh jc_T) : jAdV (jca_Reader_skipBlanks F) yX7_skipBlanks cX7_skipBlanks 2 0 1 21 0 sh := by
  intro as σ k x σ' h
  unfold jca_Reader_skipBlanks at h
  split at h
  · rename_i t0
    obtain ⟨g0, hh1⟩ := jcond h
    obtain rfl := jbeq g0
    obtain ⟨r, h1, h2⟩ := Option.bind_eq_some_iff.mp hh1
    exact ⟨_, _, h2, ⟨_, _, _, _, _, _, rfl, rfl, (hs _ (jkf_in (l := jc_T) (idx := 3) rfl)).1, rfl⟩, jmet_Reader_skipBlanks F  sh hs σ  r.1 r.2 h1⟩
  · cases h
def jtb_Reader_isLetter : List (Nat × Instr) := [(0, .iload_n 0), (1, .bipush 97), (3, .if_icmp .lt 13), (6, .iload_n 0), (7, .bipush 122), (9, .if_icmp .gt 7), (12, .iconst 1), (13, .goto 4), (16, .iconst 0), (17, .ireturn)]
theorem jtk_Reader_isLetter : jtok cX7_isLetter jtb_Reader_isLetter = true := by decide +kernel
def jE_Reader_isLetter (F : Nat) : jxE := jmk [] [] [] [] 4 jc_T
set_option maxRecDepth 100000 in
set_option maxHeartbeats 4000000 in
theorem jmet_Reader_isLetter (F : Nat) (sh : List jxC) (hs : jHas sh jc_T) (σ0 : jxS) (v0 : Int) (x : Int) (σ' : jxS) (h : Reader_isLetter F σ0 v0 = some (x, σ')) : jMC yX7_isLetter cX7_isLetter 1 (jrt 4) 0 0 sh σ0 [(jmi v0)] (jrv 4 x) σ' := by
  refine jMC_of (kd := 4) (by decide) rfl h ?_
  intro X hX
  have hG : jGd X (jE_Reader_isLetter F) jtb_Reader_isLetter := jGd_of hX jtk_Reader_isLetter jnil jnil jnil jnil hs
  exact jRf_by (jex_ok hG (cs := []) jnil 13 0 [some (jmi v0)] [] σ0) rfl
theorem jad_Reader_isLetter (F : Nat) (sh : List jxC) (hs : jHas sh jc_T) : jAdS (jca_Reader_isLetter F) yX7_isLetter cX7_isLetter 1 4 0 0 1 sh := by
  intro as σ k x σ' h
  unfold jca_Reader_isLetter at h
  split at h
  · rename_i v0
    obtain ⟨r, h1, h2⟩ := Option.bind_eq_some_iff.mp h
    exact ⟨_, _, h2, rfl, jmet_Reader_isLetter F  sh hs σ v0 r.1 r.2 h1⟩
  · cases h
def jtb_Reader_passWord : List (Nat × Instr) := [(0, .iconst 0), (1, .istore_n 2), (2, .iload_n 2), (3, .aload_n 1), (4, .invokevirtual 107), (7, .if_icmp .ge 32), (10, .aload_n 0), (11, .getfield 27), (14, .aload_n 0), (15, .getfield 31), (18, .iload_n 2), (19, .iadd), (20, .invokevirtual 81), (23, .aload_n 1), (24, .iload_n 2), (25, .invokevirtual 112), (28, .if_icmp .eq 5), (31, .iconst 0), (32, .ireturn), (33, .iinc 2 1), (36, .goto (-34)), (39, .aload_n 0), (40, .getfield 27), (43, .aload_n 0), (44, .getfield 31), (47, .aload_n 1), (48, .invokevirtual 107), (51, .iadd), (52, .invokevirtual 81), (55, .invokestatic 116), (58, .ifCond .eq 5), (61, .iconst 0), (62, .ireturn), (63, .aload_n 0), (64, .dup), (65, .getfield 31), (68, .aload_n 1), (69, .invokevirtual 107), (72, .iadd), (73, .putfield 31), (76, .iconst 1), (77, .ireturn)]
theorem jtk_Reader_passWord : jtok cX7_passWord jtb_Reader_passWord = true := by decide +kernel
set_option maxRecDepth 100000 in
theorem jlk_X7_116 : jLkS RX7 116 yX7_isLetter cX7_isLetter 1 4 1 := ⟨Or.inl (jTB_at 313 rfl rfl), (jTB_at 314 rfl rfl), (jTB_at 114 rfl rfl), jTB_at 315 rfl rfl, ⟨by decide, by decide, by decide +kernel⟩⟩
def jE_Reader_passWord (F : Nat) : jxE := jmk [(27, 7, 0), (31, 7, 8)] [] [] [(81, (2, false), jca_Tape_at F), (107, (1, false), jca_stlength), (112, (2, false), jca_stcharAt), (116, (1, true), jca_Reader_isLetter F)] 4 jc_T
set_option maxRecDepth 100000 in
set_option maxHeartbeats 4000000 in
theorem jmet_Reader_passWord_1002 (F : Nat) (sh : List jxC) (hs : jHas sh jc_T) (σ0 : jxS) (x : Int) (σ' : jxS) (h : Reader_passWord F 1002 σ0 = some (x, σ')) : jMC yX7_passWord cX7_passWord 3 (jrt 4) 4 100 sh σ0 [(jmr 3), (jmr 1002)] (jrv 4 x) σ' := by
  refine jMC_of (kd := 4) (by decide) rfl h ?_
  intro X hX
  have hG : jGd X (jE_Reader_passWord F) jtb_Reader_passWord := jGd_of hX jtk_Reader_passWord (jcon jfl_X7_27 (jcon jfl_X7_31 jnil)) jnil jnil (jcon (jsV jlk_X7_81 ⟨rfl, rfl⟩ (jad_Tape_at F sh hs)) (jcon (js_stlength (by decide) (by decide)) (jcon (js_stcharAt (by decide) (by decide)) (jcon (jsS jlk_X7_116 ⟨rfl, rfl⟩ (jad_Reader_isLetter F sh hs)) jnil)))) hs
  have rr2 : ∀ (fu : Nat) (v2 : Int) (σ : jxS), jRf X (Reader_passWord_c2 F 1002 fu v2 σ) 2 [some (jmr 3), some (jmr 1002), some (jmi v2)] [] σ := by
    intro  fu
    induction fu with
    | zero => intros; exact jRf_none
    | succ fu ih =>
      intro v2 σ
      exact jRf_by (jex_ok hG (cs := [(2, [some (.inr (some 3)), some (.inr (some 1002)), some (.inl 0)], [], fun xs σ => match xs with
      | [v2] => (Reader_passWord_c2 F 1002 fu) v2 σ
      | _ => none)]) (jcon (jl1 (fun y0 => jl0 (fun σ => ih y0 σ))) jnil) 45 2 [some (jmr 3), some (jmr 1002), some (jmi v2)] [] σ) rfl
  exact jRf_by (jex_ok hG (cs := [(2, [some (.inr (some 3)), some (.inr (some 1002)), some (.inl 0)], [], fun xs σ => match xs with
      | [v2] => Reader_passWord_c2 F 1002 F v2 σ
      | _ => none)]) (jcon (jl1 (fun y0 => jl0 (fun σ => rr2 F y0 σ))) jnil) 45 0 [some (jmr 3), some (jmr 1002), none] [] σ0) rfl
set_option maxRecDepth 100000 in
set_option maxHeartbeats 4000000 in
theorem jmet_Reader_passWord_1003 (F : Nat) (sh : List jxC) (hs : jHas sh jc_T) (σ0 : jxS) (x : Int) (σ' : jxS) (h : Reader_passWord F 1003 σ0 = some (x, σ')) : jMC yX7_passWord cX7_passWord 3 (jrt 4) 4 100 sh σ0 [(jmr 3), (jmr 1003)] (jrv 4 x) σ' := by
  refine jMC_of (kd := 4) (by decide) rfl h ?_
  intro X hX
  have hG : jGd X (jE_Reader_passWord F) jtb_Reader_passWord := jGd_of hX jtk_Reader_passWord (jcon jfl_X7_27 (jcon jfl_X7_31 jnil)) jnil jnil (jcon (jsV jlk_X7_81 ⟨rfl, rfl⟩ (jad_Tape_at F sh hs)) (jcon (js_stlength (by decide) (by decide)) (jcon (js_stcharAt (by decide) (by decide)) (jcon (jsS jlk_X7_116 ⟨rfl, rfl⟩ (jad_Reader_isLetter F sh hs)) jnil)))) hs
  have rr2 : ∀ (fu : Nat) (v2 : Int) (σ : jxS), jRf X (Reader_passWord_c2 F 1003 fu v2 σ) 2 [some (jmr 3), some (jmr 1003), some (jmi v2)] [] σ := by
    intro  fu
    induction fu with
    | zero => intros; exact jRf_none
    | succ fu ih =>
      intro v2 σ
      exact jRf_by (jex_ok hG (cs := [(2, [some (.inr (some 3)), some (.inr (some 1003)), some (.inl 0)], [], fun xs σ => match xs with
      | [v2] => (Reader_passWord_c2 F 1003 fu) v2 σ
      | _ => none)]) (jcon (jl1 (fun y0 => jl0 (fun σ => ih y0 σ))) jnil) 45 2 [some (jmr 3), some (jmr 1003), some (jmi v2)] [] σ) rfl
  exact jRf_by (jex_ok hG (cs := [(2, [some (.inr (some 3)), some (.inr (some 1003)), some (.inl 0)], [], fun xs σ => match xs with
      | [v2] => Reader_passWord_c2 F 1003 F v2 σ
      | _ => none)]) (jcon (jl1 (fun y0 => jl0 (fun σ => rr2 F y0 σ))) jnil) 45 0 [some (jmr 3), some (jmr 1003), none] [] σ0) rfl
set_option maxRecDepth 100000 in
set_option maxHeartbeats 4000000 in
theorem jmet_Reader_passWord_1004 (F : Nat) (sh : List jxC) (hs : jHas sh jc_T) (σ0 : jxS) (x : Int) (σ' : jxS) (h : Reader_passWord F 1004 σ0 = some (x, σ')) : jMC yX7_passWord cX7_passWord 3 (jrt 4) 4 100 sh σ0 [(jmr 3), (jmr 1004)] (jrv 4 x) σ' := by
  refine jMC_of (kd := 4) (by decide) rfl h ?_
  intro X hX
  have hG : jGd X (jE_Reader_passWord F) jtb_Reader_passWord := jGd_of hX jtk_Reader_passWord (jcon jfl_X7_27 (jcon jfl_X7_31 jnil)) jnil jnil (jcon (jsV jlk_X7_81 ⟨rfl, rfl⟩ (jad_Tape_at F sh hs)) (jcon (js_stlength (by decide) (by decide)) (jcon (js_stcharAt (by decide) (by decide)) (jcon (jsS jlk_X7_116 ⟨rfl, rfl⟩ (jad_Reader_isLetter F sh hs)) jnil)))) hs
  have rr2 : ∀ (fu : Nat) (v2 : Int) (σ : jxS), jRf X (Reader_passWord_c2 F 1004 fu v2 σ) 2 [some (jmr 3), some (jmr 1004), some (jmi v2)] [] σ := by
    intro  fu
    induction fu with
    | zero => intros; exact jRf_none
    | succ fu ih =>
      intro v2 σ
      exact jRf_by (jex_ok hG (cs := [(2, [some (.inr (some 3)), some (.inr (some 1004)), some (.inl 0)], [], fun xs σ => match xs with
      | [v2] => (Reader_passWord_c2 F 1004 fu) v2 σ
      | _ => none)]) (jcon (jl1 (fun y0 => jl0 (fun σ => ih y0 σ))) jnil) 45 2 [some (jmr 3), some (jmr 1004), some (jmi v2)] [] σ) rfl
  exact jRf_by (jex_ok hG (cs := [(2, [some (.inr (some 3)), some (.inr (some 1004)), some (.inl 0)], [], fun xs σ => match xs with
      | [v2] => Reader_passWord_c2 F 1004 F v2 σ
      | _ => none)]) (jcon (jl1 (fun y0 => jl0 (fun σ => rr2 F y0 σ))) jnil) 45 0 [some (jmr 3), some (jmr 1004), none] [] σ0) rfl
set_option maxRecDepth 100000 in
set_option maxHeartbeats 4000000 in
theorem jmet_Reader_passWord_1005 (F : Nat) (sh : List jxC) (hs : jHas sh jc_T) (σ0 : jxS) (x : Int) (σ' : jxS) (h : Reader_passWord F 1005 σ0 = some (x, σ')) : jMC yX7_passWord cX7_passWord 3 (jrt 4) 4 100 sh σ0 [(jmr 3), (jmr 1005)] (jrv 4 x) σ' := by
  refine jMC_of (kd := 4) (by decide) rfl h ?_
  intro X hX
  have hG : jGd X (jE_Reader_passWord F) jtb_Reader_passWord := jGd_of hX jtk_Reader_passWord (jcon jfl_X7_27 (jcon jfl_X7_31 jnil)) jnil jnil (jcon (jsV jlk_X7_81 ⟨rfl, rfl⟩ (jad_Tape_at F sh hs)) (jcon (js_stlength (by decide) (by decide)) (jcon (js_stcharAt (by decide) (by decide)) (jcon (jsS jlk_X7_116 ⟨rfl, rfl⟩ (jad_Reader_isLetter F sh hs)) jnil)))) hs
  have rr2 : ∀ (fu : Nat) (v2 : Int) (σ : jxS), jRf X (Reader_passWord_c2 F 1005 fu v2 σ) 2 [some (jmr 3), some (jmr 1005), some (jmi v2)] [] σ := by
    intro  fu
    induction fu with
    | zero => intros; exact jRf_none
    | succ fu ih =>
      intro v2 σ
      exact jRf_by (jex_ok hG (cs := [(2, [some (.inr (some 3)), some (.inr (some 1005)), some (.inl 0)], [], fun xs σ => match xs with
      | [v2] => (Reader_passWord_c2 F 1005 fu) v2 σ
      | _ => none)]) (jcon (jl1 (fun y0 => jl0 (fun σ => ih y0 σ))) jnil) 45 2 [some (jmr 3), some (jmr 1005), some (jmi v2)] [] σ) rfl
  exact jRf_by (jex_ok hG (cs := [(2, [some (.inr (some 3)), some (.inr (some 1005)), some (.inl 0)], [], fun xs σ => match xs with
      | [v2] => Reader_passWord_c2 F 1005 F v2 σ
      | _ => none)]) (jcon (jl1 (fun y0 => jl0 (fun σ => rr2 F y0 σ))) jnil) 45 0 [some (jmr 3), some (jmr 1005), none] [] σ0) rfl
theorem jmet_Reader_passWord (F : Nat) (w1 : Nat) (hw1 : w1 ∈ jids_Reader_passWord_w1) (sh : List jxC) (hs : jHas sh jc_T) (σ0 : jxS) (x : Int) (σ' : jxS) (h : Reader_passWord F w1 σ0 = some (x, σ')) : jMC yX7_passWord cX7_passWord 3 (jrt 4) 4 100 sh σ0 [(jmr 3), (jmr w1)] (jrv 4 x) σ' := by
  simp only [jids_Reader_passWord_w1, List.mem_cons, List.not_mem_nil, or_false] at hw1
  rcases hw1 with rfl | rfl | rfl | rfl
  · exact jmet_Reader_passWord_1002 F sh hs σ0  x σ' h
  · exact jmet_Reader_passWord_1003 F sh hs σ0  x σ' h
  · exact jmet_Reader_passWord_1004 F sh hs σ0  x σ' h
  · exact jmet_Reader_passWord_1005 F sh hs σ0  x σ' h
theorem jad_Reader_passWord (F : Nat) (sh : List jxC) (hs : jHas sh jc_T) : jAdV (jca_Reader_passWord F) yX7_passWord cX7_passWord 3 4 4 100 1 sh := by
  intro as σ k x σ' h
  unfold jca_Reader_passWord at h
  split at h
  · rename_i t0 t1
    obtain ⟨g0, hh1⟩ := jcond h
    obtain rfl := jbeq g0
    obtain ⟨g1, hh2⟩ := jcond hh1
    have g1 := jin_of g1
    obtain ⟨r, h1, h2⟩ := Option.bind_eq_some_iff.mp hh2
    exact ⟨_, _, h2, ⟨_, _, _, _, _, _, rfl, rfl, (hs _ (jkf_in (l := jc_T) (idx := 3) rfl)).1, rfl⟩, jmet_Reader_passWord F t1 g1 sh hs σ  r.1 r.2 h1⟩
  · cases h
def jtb_Reader_readKind : List (Nat × Instr) := [(0, .aload_n 0), (1, .ldc 71), (3, .invokevirtual 73), (6, .ifCond .eq 5), (9, .iconst 1), (10, .ireturn), (11, .aload_n 0), (12, .ldc 77), (14, .invokevirtual 73), (17, .ifCond .eq 5), (20, .iconst 2), (21, .ireturn), (22, .aload_n 0), (23, .ldc 79), (25, .invokevirtual 73), (28, .ifCond .eq 7), (31, .iconst 3), (32, .goto 4), (35, .iconst 0), (36, .ireturn)]
theorem jtk_Reader_readKind : jtok cX7_readKind jtb_Reader_readKind = true := by decide +kernel
set_option maxRecDepth 100000 in
theorem jlk_X7_73 : jLkV RX7 73 yX7_passWord cX7_passWord 3 4 1 := ⟨(jTB_at 261 rfl rfl), (jTB_at 263 rfl rfl), (jTB_at 3 rfl rfl), (jTB_at 114 rfl rfl), jTB_at 264 rfl rfl, ⟨by decide, by decide, by decide +kernel⟩⟩
def jE_Reader_readKind (F : Nat) : jxE := jmk [] [(71, jmr 1002), (77, jmr 1003), (79, jmr 1004)] [] [(73, (2, false), jca_Reader_passWord F)] 1 jc_T
set_option maxRecDepth 100000 in
set_option maxHeartbeats 4000000 in
theorem jmet_Reader_readKind (F : Nat) (sh : List jxC) (hs : jHas sh jc_T) (σ0 : jxS) (x : Int) (σ' : jxS) (h : Reader_readKind F σ0 = some (x, σ')) : jMC yX7_readKind cX7_readKind 1 (jrt 1) 5 122 sh σ0 [(jmr 3)] (jrv 1 x) σ' := by
  refine jMC_of (kd := 1) (by decide) rfl h ?_
  intro X hX
  have hG : jGd X (jE_Reader_readKind F) jtb_Reader_readKind := jGd_of hX jtk_Reader_readKind jnil (jcon ⟨rfl, 0, by decide, rfl, rfl⟩ (jcon ⟨rfl, 1, by decide, rfl, rfl⟩ (jcon ⟨rfl, 2, by decide, rfl, rfl⟩ jnil))) jnil (jcon (jsV jlk_X7_73 ⟨rfl, rfl⟩ (jad_Reader_passWord F sh hs)) jnil) hs
  exact jRf_by (jex_ok hG (cs := []) jnil 23 0 [some (jmr 3)] [] σ0) rfl
theorem jad_Reader_readKind (F : Nat) (sh : List jxC) (hs : jHas sh jc_T) : jAdV (jca_Reader_readKind F) yX7_readKind cX7_readKind 1 1 5 122 0 sh := by
  intro as σ k x σ' h
  unfold jca_Reader_readKind at h
  split at h
  · rename_i t0
    obtain ⟨g0, hh1⟩ := jcond h
    obtain rfl := jbeq g0
    obtain ⟨r, h1, h2⟩ := Option.bind_eq_some_iff.mp hh1
    exact ⟨_, _, h2, ⟨_, _, _, _, _, _, rfl, rfl, (hs _ (jkf_in (l := jc_T) (idx := 3) rfl)).1, rfl⟩, jmet_Reader_readKind F  sh hs σ  r.1 r.2 h1⟩
  · cases h
def jtb_Reader_fail : List (Nat × Instr) := [(0, .aload_n 0), (1, .getfield 35), (4, .ifCond .ne 13), (7, .aload_n 0), (8, .bipush 8), (10, .iload_n 1), (11, .imul), (12, .iload_n 2), (13, .iadd), (14, .putfield 35), (17, .return_)]
theorem jtk_Reader_fail : jtok cX7_fail jtb_Reader_fail = true := by decide +kernel
set_option maxRecDepth 100000 in
theorem jfl_X7_35 : jFl RX7 35 7 9 := ⟨RX7, TX7, 10, tyX7, rfl, by decide, jin_X7, tyX7_ok, nmX7, jow_X7, (Or.inl (jTB_at 176 rfl rfl))⟩
def jE_Reader_fail (F : Nat) : jxE := jmk [(35, 7, 9)] [] [] [] 0 jc_T
set_option maxRecDepth 100000 in
set_option maxHeartbeats 4000000 in
theorem jmet_Reader_fail (F : Nat) (sh : List jxC) (hs : jHas sh jc_T) (σ0 : jxS) (v1 : Int) (v2 : Int) (x : Int) (σ' : jxS) (h : Reader_fail F σ0 v1 v2 = some (x, σ')) : jMC yX7_fail cX7_fail 3 (jrt 0) 0 0 sh σ0 [(jmr 3), (jmi v1), (jmi v2)] (jrv 0 x) σ' := by
  refine jMC_of (kd := 0) (by decide) rfl h ?_
  intro X hX
  have hG : jGd X (jE_Reader_fail F) jtb_Reader_fail := jGd_of hX jtk_Reader_fail (jcon jfl_X7_35 jnil) jnil jnil jnil hs
  exact jRf_by (jex_ok hG (cs := []) jnil 14 0 [some (jmr 3), some (jmi v1), some (jmi v2)] [] σ0) rfl
theorem jad_Reader_fail (F : Nat) (sh : List jxC) (hs : jHas sh jc_T) : jAdV (jca_Reader_fail F) yX7_fail cX7_fail 3 0 0 0 2 sh := by
  intro as σ k x σ' h
  unfold jca_Reader_fail at h
  split at h
  · rename_i t0 v1 v2
    obtain ⟨g0, hh1⟩ := jcond h
    obtain rfl := jbeq g0
    obtain ⟨r, h1, h2⟩ := Option.bind_eq_some_iff.mp hh1
    exact ⟨_, _, h2, ⟨_, _, _, _, _, _, rfl, rfl, (hs _ (jkf_in (l := jc_T) (idx := 3) rfl)).1, rfl⟩, jmet_Reader_fail F  sh hs σ v1 v2 r.1 r.2 h1⟩
  · cases h
def jtb_Reader_isDigit : List (Nat × Instr) := [(0, .iload_n 0), (1, .bipush 48), (3, .if_icmp .lt 13), (6, .iload_n 0), (7, .bipush 57), (9, .if_icmp .gt 7), (12, .iconst 1), (13, .goto 4), (16, .iconst 0), (17, .ireturn)]
theorem jtk_Reader_isDigit : jtok cX7_isDigit jtb_Reader_isDigit = true := by decide +kernel
def jE_Reader_isDigit (F : Nat) : jxE := jmk [] [] [] [] 4 jc_T
set_option maxRecDepth 100000 in
set_option maxHeartbeats 4000000 in
theorem jmet_Reader_isDigit (F : Nat) (sh : List jxC) (hs : jHas sh jc_T) (σ0 : jxS) (v0 : Int) (x : Int) (σ' : jxS) (h : Reader_isDigit F σ0 v0 = some (x, σ')) : jMC yX7_isDigit cX7_isDigit 1 (jrt 4) 0 0 sh σ0 [(jmi v0)] (jrv 4 x) σ' := by
  refine jMC_of (kd := 4) (by decide) rfl h ?_
  intro X hX
  have hG : jGd X (jE_Reader_isDigit F) jtb_Reader_isDigit := jGd_of hX jtk_Reader_isDigit jnil jnil jnil jnil hs
  exact jRf_by (jex_ok hG (cs := []) jnil 13 0 [some (jmi v0)] [] σ0) rfl
theorem jad_Reader_isDigit (F : Nat) (sh : List jxC) (hs : jHas sh jc_T) : jAdS (jca_Reader_isDigit F) yX7_isDigit cX7_isDigit 1 4 0 0 1 sh := by
  intro as σ k x σ' h
  unfold jca_Reader_isDigit at h
  split at h
  · rename_i v0
    obtain ⟨r, h1, h2⟩ := Option.bind_eq_some_iff.mp h
    exact ⟨_, _, h2, rfl, jmet_Reader_isDigit F  sh hs σ v0 r.1 r.2 h1⟩
  · cases h
def jtb_Reader_readDigit : List (Nat × Instr) := [(0, .iload_n 1), (1, .bipush 7), (3, .if_icmp .gt 12), (6, .aload_n 0), (7, .getfield 41), (10, .bipush 8), (12, .if_icmp .lt 13), (15, .aload_n 0), (16, .aload_n 0), (17, .getfield 31), (20, .iconst 3), (21, .invokevirtual 58), (24, .return_), (25, .aload_n 0), (26, .getfield 11), (29, .aload_n 0), (30, .getfield 41), (33, .iload_n 1), (34, .iastore), (35, .aload_n 0), (36, .dup), (37, .getfield 41), (40, .iconst 1), (41, .iadd), (42, .putfield 41), (45, .aload_n 0), (46, .dup), (47, .getfield 31), (50, .iconst 1), (51, .iadd), (52, .putfield 31), (55, .return_)]
theorem jtk_Reader_readDigit : jtok cX7_readDigit jtb_Reader_readDigit = true := by decide +kernel
set_option maxRecDepth 100000 in
theorem jfl_X7_11 : jFl RX7 11 7 1 := ⟨RX7, TX7, 10, tyX7, rfl, by decide, jin_X7, tyX7_ok, nmX7, jow_X7, (Or.inl (jTB_at 161 rfl rfl))⟩
set_option maxRecDepth 100000 in
theorem jfl_X7_41 : jFl RX7 41 7 6 := ⟨RX7, TX7, 10, tyX7, rfl, by decide, jin_X7, tyX7_ok, nmX7, jow_X7, (Or.inl (jTB_at 172 rfl rfl))⟩
set_option maxRecDepth 100000 in
theorem jlk_X7_58 : jLkV RX7 58 yX7_fail cX7_fail 3 0 2 := ⟨(jTB_at 318 rfl rfl), (jTB_at 320 rfl rfl), (jTB_at 4 rfl rfl), (jTB_at 114 rfl rfl), jTB_at 321 rfl rfl, ⟨by decide, by decide, by decide +kernel⟩⟩
def jE_Reader_readDigit (F : Nat) : jxE := jmk [(11, 7, 1), (31, 7, 8), (41, 7, 6)] [] [] [(58, (3, false), jca_Reader_fail F)] 0 jc_T
set_option maxRecDepth 100000 in
set_option maxHeartbeats 4000000 in
theorem jmet_Reader_readDigit (F : Nat) (sh : List jxC) (hs : jHas sh jc_T) (σ0 : jxS) (v1 : Int) (x : Int) (σ' : jxS) (h : Reader_readDigit F σ0 v1 = some (x, σ')) : jMC yX7_readDigit cX7_readDigit 2 (jrt 0) 1 22 sh σ0 [(jmr 3), (jmi v1)] (jrv 0 x) σ' := by
  refine jMC_of (kd := 0) (by decide) rfl h ?_
  intro X hX
  have hG : jGd X (jE_Reader_readDigit F) jtb_Reader_readDigit := jGd_of hX jtk_Reader_readDigit (jcon jfl_X7_11 (jcon jfl_X7_31 (jcon jfl_X7_41 jnil))) jnil jnil (jcon (jsV jlk_X7_58 ⟨rfl, rfl⟩ (jad_Reader_fail F sh hs)) jnil) hs
  have rr15 : ∀ (σ : jxS), jRf X (Reader_readDigit_c15 F  σ) 15 [some (jmr 3), none] [] σ := by
    intro   σ
    exact jRf_by (jex_ok hG (cs := []) jnil 35 15 [some (jmr 3), none] [] σ) rfl
  exact jRf_by (jex_ok hG (cs := [(15, [some (.inr (some 3)), none], [], fun xs σ => match xs with
      | [] => Reader_readDigit_c15 F  σ
      | _ => none)]) (jcon (jl0 (jl0 (fun σ => rr15  σ))) jnil) 35 0 [some (jmr 3), some (jmi v1)] [] σ0) rfl
theorem jad_Reader_readDigit (F : Nat) (sh : List jxC) (hs : jHas sh jc_T) : jAdV (jca_Reader_readDigit F) yX7_readDigit cX7_readDigit 2 0 1 22 1 sh := by
  intro as σ k x σ' h
  unfold jca_Reader_readDigit at h
  split at h
  · rename_i t0 v1
    obtain ⟨g0, hh1⟩ := jcond h
    obtain rfl := jbeq g0
    obtain ⟨r, h1, h2⟩ := Option.bind_eq_some_iff.mp hh1
    exact ⟨_, _, h2, ⟨_, _, _, _, _, _, rfl, rfl, (hs _ (jkf_in (l := jc_T) (idx := 3) rfl)).1, rfl⟩, jmet_Reader_readDigit F  sh hs σ v1 r.1 r.2 h1⟩
  · cases h
def jtb_Reader_readCode : List (Nat × Instr) := [(0, .aload_n 0), (1, .invokevirtual 51), (4, .aload_n 0), (5, .getfield 27), (8, .aload_n 0), (9, .getfield 31), (12, .invokevirtual 81), (15, .bipush 46), (17, .if_icmp .eq 13), (20, .aload_n 0), (21, .aload_n 0), (22, .getfield 31), (25, .iconst 1), (26, .invokevirtual 58), (29, .return_), (30, .aload_n 0), (31, .dup), (32, .getfield 31), (35, .iconst 1), (36, .iadd), (37, .putfield 31), (40, .aload_n 0), (41, .invokevirtual 51), (44, .aload_n 0), (45, .getfield 27), (48, .aload_n 0), (49, .getfield 31), (52, .invokevirtual 81), (55, .invokestatic 86), (58, .ifCond .ne 13), (61, .aload_n 0), (62, .aload_n 0), (63, .getfield 31), (66, .iconst 1), (67, .invokevirtual 58), (70, .return_), (71, .aload_n 0), (72, .getfield 27), (75, .invokevirtual 90), (78, .istore_n 1), (79, .iload_n 1), (80, .ifCond .le 51), (83, .aload_n 0), (84, .getfield 35), (87, .ifCond .ne 44), (90, .aload_n 0), (91, .getfield 27), (94, .aload_n 0), (95, .getfield 31), (98, .invokevirtual 81), (101, .invokestatic 86), (104, .ifCond .eq 27), (107, .aload_n 0), (108, .aload_n 0), (109, .getfield 27), (112, .aload_n 0), (113, .getfield 31), (116, .invokevirtual 81), (119, .bipush 48), (121, .isub), (122, .invokevirtual 93), (125, .iinc 1 (-1)), (128, .goto (-49)), (131, .return_)]
theorem jtk_Reader_readCode : jtok cX7_readCode jtb_Reader_readCode = true := by decide +kernel
set_option maxRecDepth 100000 in
theorem jlk_X7_51 : jLkV RX7 51 yX7_skipBlanks cX7_skipBlanks 2 0 0 := ⟨(jTB_at 247 rfl rfl), (jTB_at 249 rfl rfl), (jTB_at 1 rfl rfl), (jTB_at 114 rfl rfl), jTB_at 250 rfl rfl, ⟨by decide, by decide, by decide +kernel⟩⟩
set_option maxRecDepth 100000 in
theorem jlk_X7_86 : jLkS RX7 86 yX7_isDigit cX7_isDigit 1 4 1 := ⟨Or.inl (jTB_at 326 rfl rfl), (jTB_at 327 rfl rfl), (jTB_at 114 rfl rfl), jTB_at 328 rfl rfl, ⟨by decide, by decide, by decide +kernel⟩⟩
set_option maxRecDepth 100000 in
theorem jlk_X7_93 : jLkV RX7 93 yX7_readDigit cX7_readDigit 2 0 1 := ⟨(jTB_at 329 rfl rfl), (jTB_at 331 rfl rfl), (jTB_at 6 rfl rfl), (jTB_at 114 rfl rfl), jTB_at 332 rfl rfl, ⟨by decide, by decide, by decide +kernel⟩⟩
def jE_Reader_readCode (F : Nat) : jxE := jmk [(27, 7, 0), (31, 7, 8), (35, 7, 9)] [] [] [(51, (1, false), jca_Reader_skipBlanks F), (58, (3, false), jca_Reader_fail F), (81, (2, false), jca_Tape_at F), (86, (1, true), jca_Reader_isDigit F), (90, (1, false), jca_Tape_size F), (93, (2, false), jca_Reader_readDigit F)] 0 jc_T
set_option maxRecDepth 100000 in
set_option maxHeartbeats 4000000 in
theorem jmet_Reader_readCode (F : Nat) (sh : List jxC) (hs : jHas sh jc_T) (σ0 : jxS) (x : Int) (σ' : jxS) (h : Reader_readCode F σ0 = some (x, σ')) : jMC yX7_readCode cX7_readCode 2 (jrt 0) 2 43 sh σ0 [(jmr 3)] (jrv 0 x) σ' := by
  refine jMC_of (kd := 0) (by decide) rfl h ?_
  intro X hX
  have hG : jGd X (jE_Reader_readCode F) jtb_Reader_readCode := jGd_of hX jtk_Reader_readCode (jcon jfl_X7_27 (jcon jfl_X7_31 (jcon jfl_X7_35 jnil))) jnil jnil (jcon (jsV jlk_X7_51 ⟨rfl, rfl⟩ (jad_Reader_skipBlanks F sh hs)) (jcon (jsV jlk_X7_58 ⟨rfl, rfl⟩ (jad_Reader_fail F sh hs)) (jcon (jsV jlk_X7_81 ⟨rfl, rfl⟩ (jad_Tape_at F sh hs)) (jcon (jsS jlk_X7_86 ⟨rfl, rfl⟩ (jad_Reader_isDigit F sh hs)) (jcon (jsV jlk_X7_90 ⟨rfl, rfl⟩ (jad_Tape_size F sh hs)) (jcon (jsV jlk_X7_93 ⟨rfl, rfl⟩ (jad_Reader_readDigit F sh hs)) jnil)))))) hs
  have rr79 : ∀ (fu : Nat) (v1 : Int) (σ : jxS), jRf X (Reader_readCode_c79 F fu v1 σ) 79 [some (jmr 3), some (jmi v1)] [] σ := by
    intro  fu
    induction fu with
    | zero => intros; exact jRf_none
    | succ fu ih =>
      intro v1 σ
      exact jRf_by (jex_ok hG (cs := [(79, [some (.inr (some 3)), some (.inl 0)], [], fun xs σ => match xs with
      | [v1] => (Reader_readCode_c79 F fu) v1 σ
      | _ => none)]) (jcon (jl1 (fun y0 => jl0 (fun σ => ih y0 σ))) jnil) 67 79 [some (jmr 3), some (jmi v1)] [] σ) rfl
  exact jRf_by (jex_ok hG (cs := [(79, [some (.inr (some 3)), some (.inl 0)], [], fun xs σ => match xs with
      | [v1] => Reader_readCode_c79 F F v1 σ
      | _ => none)]) (jcon (jl1 (fun y0 => jl0 (fun σ => rr79 F y0 σ))) jnil) 67 0 [some (jmr 3), none] [] σ0) rfl
theorem jad_Reader_readCode (F : Nat) (sh : List jxC) (hs : jHas sh jc_T) : jAdV (jca_Reader_readCode F) yX7_readCode cX7_readCode 2 0 2 43 0 sh := by
  intro as σ k x σ' h
  unfold jca_Reader_readCode at h
  split at h
  · rename_i t0
    obtain ⟨g0, hh1⟩ := jcond h
    obtain rfl := jbeq g0
    obtain ⟨r, h1, h2⟩ := Option.bind_eq_some_iff.mp hh1
    exact ⟨_, _, h2, ⟨_, _, _, _, _, _, rfl, rfl, (hs _ (jkf_in (l := jc_T) (idx := 3) rfl)).1, rfl⟩, jmet_Reader_readCode F  sh hs σ  r.1 r.2 h1⟩
  · cases h
def jtb_Reader_readNumber : List (Nat × Instr) := [(0, .aload_n 0), (1, .invokevirtual 51), (4, .aload_n 0), (5, .getfield 31), (8, .istore_n 3), (9, .iconst 0), (10, .istore 4), (12, .aload_n 0), (13, .getfield 27), (16, .invokevirtual 90), (19, .istore 5), (21, .iload 5), (23, .ifCond .le 68), (26, .aload_n 0), (27, .getfield 27), (30, .aload_n 0), (31, .getfield 31), (34, .invokevirtual 81), (37, .invokestatic 86), (40, .ifCond .eq 51), (43, .aload_n 0), (44, .getfield 31), (47, .iload_n 3), (48, .isub), (49, .iconst 3), (50, .if_icmp .ge 25), (53, .iload 4), (55, .bipush 10), (57, .imul), (58, .aload_n 0), (59, .getfield 27), (62, .aload_n 0), (63, .getfield 31), (66, .invokevirtual 81), (69, .iadd), (70, .bipush 48), (72, .isub), (73, .istore 4), (75, .aload_n 0), (76, .dup), (77, .getfield 31), (80, .iconst 1), (81, .iadd), (82, .putfield 31), (85, .iinc 5 (-1)), (88, .goto (-67)), (91, .aload_n 0), (92, .getfield 31), (95, .iload_n 3), (96, .if_icmp .ne 12), (99, .aload_n 0), (100, .iload_n 3), (101, .iconst 1), (102, .invokevirtual 58), (105, .goto 31), (108, .aload_n 0), (109, .getfield 31), (112, .iload_n 3), (113, .isub), (114, .iconst 3), (115, .if_icmp .gt 15), (118, .iload 4), (120, .iload_n 1), (121, .if_icmp .lt 9), (124, .iload 4), (126, .iload_n 2), (127, .if_icmp .le 9), (130, .aload_n 0), (131, .iload_n 3), (132, .iconst 2), (133, .invokevirtual 58), (136, .iload 4), (138, .ireturn)]
theorem jtk_Reader_readNumber : jtok cX7_readNumber jtb_Reader_readNumber = true := by decide +kernel
def jE_Reader_readNumber (F : Nat) : jxE := jmk [(27, 7, 0), (31, 7, 8)] [] [] [(51, (1, false), jca_Reader_skipBlanks F), (58, (3, false), jca_Reader_fail F), (81, (2, false), jca_Tape_at F), (86, (1, true), jca_Reader_isDigit F), (90, (1, false), jca_Tape_size F)] 1 jc_T
set_option maxRecDepth 100000 in
set_option maxHeartbeats 4000000 in
theorem jmet_Reader_readNumber (F : Nat) (sh : List jxC) (hs : jHas sh jc_T) (σ0 : jxS) (v1 : Int) (v2 : Int) (x : Int) (σ' : jxS) (h : Reader_readNumber F σ0 v1 v2 = some (x, σ')) : jMC yX7_readNumber cX7_readNumber 6 (jrt 1) 2 42 sh σ0 [(jmr 3), (jmi v1), (jmi v2)] (jrv 1 x) σ' := by
  refine jMC_of (kd := 1) (by decide) rfl h ?_
  intro X hX
  have hG : jGd X (jE_Reader_readNumber F) jtb_Reader_readNumber := jGd_of hX jtk_Reader_readNumber (jcon jfl_X7_27 (jcon jfl_X7_31 jnil)) jnil jnil (jcon (jsV jlk_X7_51 ⟨rfl, rfl⟩ (jad_Reader_skipBlanks F sh hs)) (jcon (jsV jlk_X7_58 ⟨rfl, rfl⟩ (jad_Reader_fail F sh hs)) (jcon (jsV jlk_X7_81 ⟨rfl, rfl⟩ (jad_Tape_at F sh hs)) (jcon (jsS jlk_X7_86 ⟨rfl, rfl⟩ (jad_Reader_isDigit F sh hs)) (jcon (jsV jlk_X7_90 ⟨rfl, rfl⟩ (jad_Tape_size F sh hs)) jnil))))) hs
  have rr130 : ∀ (v3 v4 : Int) (σ : jxS), jRf X (Reader_readNumber_c130 F v3 v4 σ) 130 [some (jmr 3), none, none, some (jmi v3), some (jmi v4), none] [] σ := by
    intro  v3 v4 σ
    exact jRf_by (jex_ok hG (cs := []) jnil 76 130 [some (jmr 3), none, none, some (jmi v3), some (jmi v4), none] [] σ) rfl
  have rr91 : ∀ (v1 v2 v3 v4 : Int) (σ : jxS), jRf X (Reader_readNumber_c91 F v1 v2 v3 v4 σ) 91 [some (jmr 3), some (jmi v1), some (jmi v2), some (jmi v3), some (jmi v4), none] [] σ := by
    intro  v1 v2 v3 v4 σ
    exact jRf_by (jex_ok hG (cs := [(130, [some (.inr (some 3)), none, none, some (.inl 0), some (.inl 0), none], [], fun xs σ => match xs with
      | [v3, v4] => Reader_readNumber_c130 F v3 v4 σ
      | _ => none)]) (jcon (jl2 (fun y0 y1 => jl0 (fun σ => rr130 y0 y1 σ))) jnil) 76 91 [some (jmr 3), some (jmi v1), some (jmi v2), some (jmi v3), some (jmi v4), none] [] σ) rfl
  have rr75 : ∀ (k21 : Int → Int → Int → Int → Int → jxS → Option jxR) (h21 : ∀ v1 v2 v3 v4 v5 σ, jRf X (k21 v1 v2 v3 v4 v5 σ) 21 [some (jmr 3), some (jmi v1), some (jmi v2), some (jmi v3), some (jmi v4), some (jmi v5)] [] σ) (v1 v2 v3 v4 v5 : Int) (σ : jxS), jRf X (Reader_readNumber_c75 F k21 v1 v2 v3 v4 v5 σ) 75 [some (jmr 3), some (jmi v1), some (jmi v2), some (jmi v3), some (jmi v4), some (jmi v5)] [] σ := by
    intro k21 h21 v1 v2 v3 v4 v5 σ
    exact jRf_by (jex_ok hG (cs := [(21, [some (.inr (some 3)), some (.inl 0), some (.inl 0), some (.inl 0), some (.inl 0), some (.inl 0)], [], fun xs σ => match xs with
      | [v1, v2, v3, v4, v5] => k21 v1 v2 v3 v4 v5 σ
      | _ => none)]) (jcon (jl5 (fun y0 y1 y2 y3 y4 => jl0 (fun σ => h21 y0 y1 y2 y3 y4 σ))) jnil) 76 75 [some (jmr 3), some (jmi v1), some (jmi v2), some (jmi v3), some (jmi v4), some (jmi v5)] [] σ) rfl
  have rr21 : ∀ (fu : Nat) (v1 v2 v3 v4 v5 : Int) (σ : jxS), jRf X (Reader_readNumber_c21 F fu v1 v2 v3 v4 v5 σ) 21 [some (jmr 3), some (jmi v1), some (jmi v2), some (jmi v3), some (jmi v4), some (jmi v5)] [] σ := by
    intro  fu
    induction fu with
    | zero => intros; exact jRf_none
    | succ fu ih =>
      intro v1 v2 v3 v4 v5 σ
      exact jRf_by (jex_ok hG (cs := [(75, [some (.inr (some 3)), some (.inl 0), some (.inl 0), some (.inl 0), some (.inl 0), some (.inl 0)], [], fun xs σ => match xs with
      | [v1, v2, v3, v4, v5] => Reader_readNumber_c75 F (Reader_readNumber_c21 F fu) v1 v2 v3 v4 v5 σ
      | _ => none), (91, [some (.inr (some 3)), some (.inl 0), some (.inl 0), some (.inl 0), some (.inl 0), none], [], fun xs σ => match xs with
      | [v1, v2, v3, v4] => Reader_readNumber_c91 F v1 v2 v3 v4 σ
      | _ => none)]) (jcon (jl5 (fun y0 y1 y2 y3 y4 => jl0 (fun σ => rr75 _ ih y0 y1 y2 y3 y4 σ))) (jcon (jl4 (fun y0 y1 y2 y3 => jl0 (fun σ => rr91 y0 y1 y2 y3 σ))) jnil)) 76 21 [some (jmr 3), some (jmi v1), some (jmi v2), some (jmi v3), some (jmi v4), some (jmi v5)] [] σ) rfl
  exact jRf_by (jex_ok hG (cs := [(21, [some (.inr (some 3)), some (.inl 0), some (.inl 0), some (.inl 0), some (.inl 0), some (.inl 0)], [], fun xs σ => match xs with
      | [v1, v2, v3, v4, v5] => Reader_readNumber_c21 F F v1 v2 v3 v4 v5 σ
      | _ => none)]) (jcon (jl5 (fun y0 y1 y2 y3 y4 => jl0 (fun σ => rr21 F y0 y1 y2 y3 y4 σ))) jnil) 76 0 [some (jmr 3), some (jmi v1), some (jmi v2), none, none, none] [] σ0) rfl
theorem jad_Reader_readNumber (F : Nat) (sh : List jxC) (hs : jHas sh jc_T) : jAdV (jca_Reader_readNumber F) yX7_readNumber cX7_readNumber 6 1 2 42 2 sh := by
  intro as σ k x σ' h
  unfold jca_Reader_readNumber at h
  split at h
  · rename_i t0 v1 v2
    obtain ⟨g0, hh1⟩ := jcond h
    obtain rfl := jbeq g0
    obtain ⟨r, h1, h2⟩ := Option.bind_eq_some_iff.mp hh1
    exact ⟨_, _, h2, ⟨_, _, _, _, _, _, rfl, rfl, (hs _ (jkf_in (l := jc_T) (idx := 3) rfl)).1, rfl⟩, jmet_Reader_readNumber F  sh hs σ v1 v2 r.1 r.2 h1⟩
  · cases h
def jtb_Reader_store : List (Nat × Instr) := [(0, .aload_n 0), (1, .getfield 38), (4, .bipush 16), (6, .if_icmp .ge 33), (9, .aload_n 0), (10, .getfield 18), (13, .aload_n 0), (14, .getfield 38), (17, .iload_n 1), (18, .iastore), (19, .aload_n 0), (20, .getfield 21), (23, .aload_n 0), (24, .getfield 38), (27, .iload_n 2), (28, .iastore), (29, .aload_n 0), (30, .getfield 24), (33, .aload_n 0), (34, .getfield 38), (37, .iload_n 3), (38, .iastore), (39, .return_)]
theorem jtk_Reader_store : jtok cX7_store jtb_Reader_store = true := by decide +kernel
set_option maxRecDepth 100000 in
theorem jfl_X7_18 : jFl RX7 18 7 3 := ⟨RX7, TX7, 10, tyX7, rfl, by decide, jin_X7, tyX7_ok, nmX7, jow_X7, (Or.inl (jTB_at 165 rfl rfl))⟩
set_option maxRecDepth 100000 in
theorem jfl_X7_21 : jFl RX7 21 7 4 := ⟨RX7, TX7, 10, tyX7, rfl, by decide, jin_X7, tyX7_ok, nmX7, jow_X7, (Or.inl (jTB_at 167 rfl rfl))⟩
set_option maxRecDepth 100000 in
theorem jfl_X7_24 : jFl RX7 24 7 5 := ⟨RX7, TX7, 10, tyX7, rfl, by decide, jin_X7, tyX7_ok, nmX7, jow_X7, (Or.inl (jTB_at 169 rfl rfl))⟩
set_option maxRecDepth 100000 in
theorem jfl_X7_38 : jFl RX7 38 7 7 := ⟨RX7, TX7, 10, tyX7, rfl, by decide, jin_X7, tyX7_ok, nmX7, jow_X7, (Or.inl (jTB_at 174 rfl rfl))⟩
def jE_Reader_store (F : Nat) : jxE := jmk [(18, 7, 3), (21, 7, 4), (24, 7, 5), (38, 7, 7)] [] [] [] 0 jc_T
set_option maxRecDepth 100000 in
set_option maxHeartbeats 4000000 in
theorem jmet_Reader_store (F : Nat) (sh : List jxC) (hs : jHas sh jc_T) (σ0 : jxS) (v1 : Int) (v2 : Int) (v3 : Int) (x : Int) (σ' : jxS) (h : Reader_store F σ0 v1 v2 v3 = some (x, σ')) : jMC yX7_store cX7_store 4 (jrt 0) 0 0 sh σ0 [(jmr 3), (jmi v1), (jmi v2), (jmi v3)] (jrv 0 x) σ' := by
  refine jMC_of (kd := 0) (by decide) rfl h ?_
  intro X hX
  have hG : jGd X (jE_Reader_store F) jtb_Reader_store := jGd_of hX jtk_Reader_store (jcon jfl_X7_18 (jcon jfl_X7_21 (jcon jfl_X7_24 (jcon jfl_X7_38 jnil)))) jnil jnil jnil hs
  exact jRf_by (jex_ok hG (cs := []) jnil 26 0 [some (jmr 3), some (jmi v1), some (jmi v2), some (jmi v3)] [] σ0) rfl
theorem jad_Reader_store (F : Nat) (sh : List jxC) (hs : jHas sh jc_T) : jAdV (jca_Reader_store F) yX7_store cX7_store 4 0 0 0 3 sh := by
  intro as σ k x σ' h
  unfold jca_Reader_store at h
  split at h
  · rename_i t0 v1 v2 v3
    obtain ⟨g0, hh1⟩ := jcond h
    obtain rfl := jbeq g0
    obtain ⟨r, h1, h2⟩ := Option.bind_eq_some_iff.mp hh1
    exact ⟨_, _, h2, ⟨_, _, _, _, _, _, rfl, rfl, (hs _ (jkf_in (l := jc_T) (idx := 3) rfl)).1, rfl⟩, jmet_Reader_store F  sh hs σ v1 v2 v3 r.1 r.2 h1⟩
  · cases h
def jtb_Reader_readAlso : List (Nat × Instr) := [(0, .aload_n 0), (1, .iconst 1), (2, .bipush 12), (4, .invokevirtual 97), (7, .istore_n 1), (8, .aload_n 0), (9, .getfield 35), (12, .ifCond .eq 4), (15, .return_), (16, .aload_n 0), (17, .invokevirtual 51), (20, .aload_n 0), (21, .ldc 101), (23, .invokevirtual 73), (26, .ifCond .ne 13), (29, .aload_n 0), (30, .aload_n 0), (31, .getfield 31), (34, .iconst 1), (35, .invokevirtual 58), (38, .return_), (39, .aload_n 0), (40, .iconst 0), (41, .iload_n 1), (42, .iconst 1), (43, .isub), (44, .invokevirtual 97), (47, .istore_n 2), (48, .aload_n 0), (49, .invokevirtual 51), (52, .iconst 0), (53, .istore_n 3), (54, .aload_n 0), (55, .getfield 35), (58, .ifCond .ne 31), (61, .aload_n 0), (62, .getfield 27), (65, .aload_n 0), (66, .getfield 31), (69, .invokevirtual 81), (72, .invokestatic 86), (75, .ifCond .eq 14), (78, .aload_n 0), (79, .iconst 0), (80, .iload_n 1), (81, .iconst 1), (82, .isub), (83, .iload_n 2), (84, .isub), (85, .invokevirtual 97), (88, .istore_n 3), (89, .aload_n 0), (90, .iload_n 1), (91, .iload_n 2), (92, .iload_n 3), (93, .invokevirtual 103), (96, .return_)]
theorem jtk_Reader_readAlso : jtok cX7_readAlso jtb_Reader_readAlso = true := by decide +kernel
set_option maxRecDepth 100000 in
theorem jlk_X7_97 : jLkV RX7 97 yX7_readNumber cX7_readNumber 6 1 2 := ⟨(jTB_at 337 rfl rfl), (jTB_at 339 rfl rfl), (jTB_at 8 rfl rfl), (jTB_at 114 rfl rfl), jTB_at 340 rfl rfl, ⟨by decide, by decide, by decide +kernel⟩⟩
set_option maxRecDepth 100000 in
theorem jlk_X7_103 : jLkV RX7 103 yX7_store cX7_store 4 0 3 := ⟨(jTB_at 342 rfl rfl), (jTB_at 344 rfl rfl), (jTB_at 9 rfl rfl), (jTB_at 114 rfl rfl), jTB_at 345 rfl rfl, ⟨by decide, by decide, by decide +kernel⟩⟩
def jE_Reader_readAlso (F : Nat) : jxE := jmk [(27, 7, 0), (31, 7, 8), (35, 7, 9)] [(101, jmr 1005)] [] [(51, (1, false), jca_Reader_skipBlanks F), (58, (3, false), jca_Reader_fail F), (73, (2, false), jca_Reader_passWord F), (81, (2, false), jca_Tape_at F), (86, (1, true), jca_Reader_isDigit F), (97, (3, false), jca_Reader_readNumber F), (103, (4, false), jca_Reader_store F)] 0 jc_T
set_option maxRecDepth 100000 in
set_option maxHeartbeats 4000000 in
theorem jmet_Reader_readAlso (F : Nat) (sh : List jxC) (hs : jHas sh jc_T) (σ0 : jxS) (x : Int) (σ' : jxS) (h : Reader_readAlso F σ0 = some (x, σ')) : jMC yX7_readAlso cX7_readAlso 4 (jrt 0) 5 122 sh σ0 [(jmr 3)] (jrv 0 x) σ' := by
  refine jMC_of (kd := 0) (by decide) rfl h ?_
  intro X hX
  have hG : jGd X (jE_Reader_readAlso F) jtb_Reader_readAlso := jGd_of hX jtk_Reader_readAlso (jcon jfl_X7_27 (jcon jfl_X7_31 (jcon jfl_X7_35 jnil))) (jcon ⟨rfl, 3, by decide, rfl, rfl⟩ jnil) jnil (jcon (jsV jlk_X7_51 ⟨rfl, rfl⟩ (jad_Reader_skipBlanks F sh hs)) (jcon (jsV jlk_X7_58 ⟨rfl, rfl⟩ (jad_Reader_fail F sh hs)) (jcon (jsV jlk_X7_73 ⟨rfl, rfl⟩ (jad_Reader_passWord F sh hs)) (jcon (jsV jlk_X7_81 ⟨rfl, rfl⟩ (jad_Tape_at F sh hs)) (jcon (jsS jlk_X7_86 ⟨rfl, rfl⟩ (jad_Reader_isDigit F sh hs)) (jcon (jsV jlk_X7_97 ⟨rfl, rfl⟩ (jad_Reader_readNumber F sh hs)) (jcon (jsV jlk_X7_103 ⟨rfl, rfl⟩ (jad_Reader_store F sh hs)) jnil))))))) hs
  have rr89 : ∀ (v1 v2 v3 : Int) (σ : jxS), jRf X (Reader_readAlso_c89 F v1 v2 v3 σ) 89 [some (jmr 3), some (jmi v1), some (jmi v2), some (jmi v3)] [] σ := by
    intro  v1 v2 v3 σ
    exact jRf_by (jex_ok hG (cs := []) jnil 60 89 [some (jmr 3), some (jmi v1), some (jmi v2), some (jmi v3)] [] σ) rfl
  exact jRf_by (jex_ok hG (cs := [(89, [some (.inr (some 3)), some (.inl 0), some (.inl 0), some (.inl 0)], [], fun xs σ => match xs with
      | [v1, v2, v3] => Reader_readAlso_c89 F v1 v2 v3 σ
      | _ => none)]) (jcon (jl3 (fun y0 y1 y2 => jl0 (fun σ => rr89 y0 y1 y2 σ))) jnil) 60 0 [some (jmr 3), none, none, none] [] σ0) rfl
theorem jad_Reader_readAlso (F : Nat) (sh : List jxC) (hs : jHas sh jc_T) : jAdV (jca_Reader_readAlso F) yX7_readAlso cX7_readAlso 4 0 5 122 0 sh := by
  intro as σ k x σ' h
  unfold jca_Reader_readAlso at h
  split at h
  · rename_i t0
    obtain ⟨g0, hh1⟩ := jcond h
    obtain rfl := jbeq g0
    obtain ⟨r, h1, h2⟩ := Option.bind_eq_some_iff.mp hh1
    exact ⟨_, _, h2, ⟨_, _, _, _, _, _, rfl, rfl, (hs _ (jkf_in (l := jc_T) (idx := 3) rfl)).1, rfl⟩, jmet_Reader_readAlso F  sh hs σ  r.1 r.2 h1⟩
  · cases h
def jtb_Reader_readNever : List (Nat × Instr) := [(0, .aload_n 0), (1, .iconst 1), (2, .bipush 12), (4, .invokevirtual 97), (7, .istore_n 1), (8, .aload_n 0), (9, .getfield 35), (12, .ifCond .ne 13), (15, .aload_n 0), (16, .iconst 1), (17, .bipush 8), (19, .invokevirtual 97), (22, .goto 4), (25, .iconst 0), (26, .istore_n 2), (27, .aload_n 0), (28, .iload_n 1), (29, .iload_n 2), (30, .iconst 0), (31, .invokevirtual 103), (34, .return_)]
theorem jtk_Reader_readNever : jtok cX7_readNever jtb_Reader_readNever = true := by decide +kernel
def jE_Reader_readNever (F : Nat) : jxE := jmk [(35, 7, 9)] [] [] [(97, (3, false), jca_Reader_readNumber F), (103, (4, false), jca_Reader_store F)] 0 jc_T
set_option maxRecDepth 100000 in
set_option maxHeartbeats 4000000 in
theorem jmet_Reader_readNever (F : Nat) (sh : List jxC) (hs : jHas sh jc_T) (σ0 : jxS) (x : Int) (σ' : jxS) (h : Reader_readNever F σ0 = some (x, σ')) : jMC yX7_readNever cX7_readNever 3 (jrt 0) 3 67 sh σ0 [(jmr 3)] (jrv 0 x) σ' := by
  refine jMC_of (kd := 0) (by decide) rfl h ?_
  intro X hX
  have hG : jGd X (jE_Reader_readNever F) jtb_Reader_readNever := jGd_of hX jtk_Reader_readNever (jcon jfl_X7_35 jnil) jnil jnil (jcon (jsV jlk_X7_97 ⟨rfl, rfl⟩ (jad_Reader_readNumber F sh hs)) (jcon (jsV jlk_X7_103 ⟨rfl, rfl⟩ (jad_Reader_store F sh hs)) jnil)) hs
  have rr26 : ∀ (v1 t0 : Int) (σ : jxS), jRf X (Reader_readNever_c26 F v1 t0 σ) 26 [some (jmr 3), some (jmi v1), none] [(jmi t0)] σ := by
    intro  v1 t0 σ
    exact jRf_by (jex_ok hG (cs := []) jnil 24 26 [some (jmr 3), some (jmi v1), none] [(jmi t0)] σ) rfl
  exact jRf_by (jex_ok hG (cs := [(26, [some (.inr (some 3)), some (.inl 0), none], [(.inl 0)], fun xs σ => match xs with
      | [v1, t0] => Reader_readNever_c26 F v1 t0 σ
      | _ => none)]) (jcon (jl1 (fun y0 => jl1 (fun y1 => (fun σ => rr26 y0 y1 σ)))) jnil) 24 0 [some (jmr 3), none, none] [] σ0) rfl
theorem jad_Reader_readNever (F : Nat) (sh : List jxC) (hs : jHas sh jc_T) : jAdV (jca_Reader_readNever F) yX7_readNever cX7_readNever 3 0 3 67 0 sh := by
  intro as σ k x σ' h
  unfold jca_Reader_readNever at h
  split at h
  · rename_i t0
    obtain ⟨g0, hh1⟩ := jcond h
    obtain rfl := jbeq g0
    obtain ⟨r, h1, h2⟩ := Option.bind_eq_some_iff.mp hh1
    exact ⟨_, _, h2, ⟨_, _, _, _, _, _, rfl, rfl, (hs _ (jkf_in (l := jc_T) (idx := 3) rfl)).1, rfl⟩, jmet_Reader_readNever F  sh hs σ  r.1 r.2 h1⟩
  · cases h
def jtb_Reader_readLine : List (Nat × Instr) := [(0, .aload_n 0), (1, .invokevirtual 51), (4, .aload_n 0), (5, .getfield 31), (8, .istore_n 1), (9, .aload_n 0), (10, .invokevirtual 54), (13, .istore_n 2), (14, .iload_n 2), (15, .ifCond .ne 10), (18, .aload_n 0), (19, .iload_n 1), (20, .iconst 1), (21, .invokevirtual 58), (24, .return_), (25, .aload_n 0), (26, .getfield 38), (29, .bipush 16), (31, .if_icmp .ge 28), (34, .iload_n 2), (35, .iconst 1), (36, .if_icmp .ne 7), (39, .iconst 1), (40, .goto 4), (43, .iconst 0), (44, .aload_n 0), (45, .getfield 38), (48, .ifCond .ne 7), (51, .iconst 1), (52, .goto 4), (55, .iconst 0), (56, .if_icmp .eq 10), (59, .aload_n 0), (60, .iload_n 1), (61, .iconst 4), (62, .invokevirtual 58), (65, .return_), (66, .aload_n 0), (67, .getfield 15), (70, .aload_n 0), (71, .getfield 38), (74, .iload_n 2), (75, .iastore), (76, .iload_n 2), (77, .iconst 1), (78, .if_icmp .ne 10), (81, .aload_n 0), (82, .invokevirtual 62), (85, .goto 19), (88, .iload_n 2), (89, .iconst 2), (90, .if_icmp .ne 10), (93, .aload_n 0), (94, .invokevirtual 65), (97, .goto 7), (100, .aload_n 0), (101, .invokevirtual 68), (104, .aload_n 0), (105, .dup), (106, .getfield 38), (109, .iconst 1), (110, .iadd), (111, .putfield 38), (114, .return_)]
theorem jtk_Reader_readLine : jtok cX7_readLine jtb_Reader_readLine = true := by decide +kernel
set_option maxRecDepth 100000 in
theorem jfl_X7_15 : jFl RX7 15 7 2 := ⟨RX7, TX7, 10, tyX7, rfl, by decide, jin_X7, tyX7_ok, nmX7, jow_X7, (Or.inl (jTB_at 163 rfl rfl))⟩
set_option maxRecDepth 100000 in
theorem jlk_X7_54 : jLkV RX7 54 yX7_readKind cX7_readKind 1 1 0 := ⟨(jTB_at 256 rfl rfl), (jTB_at 258 rfl rfl), (jTB_at 2 rfl rfl), (jTB_at 114 rfl rfl), jTB_at 259 rfl rfl, ⟨by decide, by decide, by decide +kernel⟩⟩
set_option maxRecDepth 100000 in
theorem jlk_X7_62 : jLkV RX7 62 yX7_readCode cX7_readCode 2 0 0 := ⟨(jTB_at 322 rfl rfl), (jTB_at 324 rfl rfl), (jTB_at 5 rfl rfl), (jTB_at 114 rfl rfl), jTB_at 325 rfl rfl, ⟨by decide, by decide, by decide +kernel⟩⟩
set_option maxRecDepth 100000 in
theorem jlk_X7_65 : jLkV RX7 65 yX7_readAlso cX7_readAlso 4 0 0 := ⟨(jTB_at 333 rfl rfl), (jTB_at 335 rfl rfl), (jTB_at 7 rfl rfl), (jTB_at 114 rfl rfl), jTB_at 336 rfl rfl, ⟨by decide, by decide, by decide +kernel⟩⟩
set_option maxRecDepth 100000 in
theorem jlk_X7_68 : jLkV RX7 68 yX7_readNever cX7_readNever 3 0 0 := ⟨(jTB_at 346 rfl rfl), (jTB_at 348 rfl rfl), (jTB_at 10 rfl rfl), (jTB_at 114 rfl rfl), jTB_at 349 rfl rfl, ⟨by decide, by decide, by decide +kernel⟩⟩
def jE_Reader_readLine (F : Nat) : jxE := jmk [(15, 7, 2), (31, 7, 8), (38, 7, 7)] [] [] [(51, (1, false), jca_Reader_skipBlanks F), (54, (1, false), jca_Reader_readKind F), (58, (3, false), jca_Reader_fail F), (62, (1, false), jca_Reader_readCode F), (65, (1, false), jca_Reader_readAlso F), (68, (1, false), jca_Reader_readNever F)] 0 jc_T
set_option maxRecDepth 100000 in
set_option maxHeartbeats 4000000 in
theorem jmet_Reader_readLine (F : Nat) (sh : List jxC) (hs : jHas sh jc_T) (σ0 : jxS) (x : Int) (σ' : jxS) (h : Reader_readLine F σ0 = some (x, σ')) : jMC yX7_readLine cX7_readLine 3 (jrt 0) 6 145 sh σ0 [(jmr 3)] (jrv 0 x) σ' := by
  refine jMC_of (kd := 0) (by decide) rfl h ?_
  intro X hX
  have hG : jGd X (jE_Reader_readLine F) jtb_Reader_readLine := jGd_of hX jtk_Reader_readLine (jcon jfl_X7_15 (jcon jfl_X7_31 (jcon jfl_X7_38 jnil))) jnil jnil (jcon (jsV jlk_X7_51 ⟨rfl, rfl⟩ (jad_Reader_skipBlanks F sh hs)) (jcon (jsV jlk_X7_54 ⟨rfl, rfl⟩ (jad_Reader_readKind F sh hs)) (jcon (jsV jlk_X7_58 ⟨rfl, rfl⟩ (jad_Reader_fail F sh hs)) (jcon (jsV jlk_X7_62 ⟨rfl, rfl⟩ (jad_Reader_readCode F sh hs)) (jcon (jsV jlk_X7_65 ⟨rfl, rfl⟩ (jad_Reader_readAlso F sh hs)) (jcon (jsV jlk_X7_68 ⟨rfl, rfl⟩ (jad_Reader_readNever F sh hs)) jnil)))))) hs
  have rr104 : ∀ (σ : jxS), jRf X (Reader_readLine_c104 F  σ) 104 [some (jmr 3), none, none] [] σ := by
    intro   σ
    exact jRf_by (jex_ok hG (cs := []) jnil 67 104 [some (jmr 3), none, none] [] σ) rfl
  have rr59 : ∀ (v1 : Int) (σ : jxS), jRf X (Reader_readLine_c59 F v1 σ) 59 [some (jmr 3), some (jmi v1), none] [] σ := by
    intro  v1 σ
    exact jRf_by (jex_ok hG (cs := []) jnil 67 59 [some (jmr 3), some (jmi v1), none] [] σ) rfl
  have rr56 : ∀ (v1 v2 t0 t1 : Int) (σ : jxS), jRf X (Reader_readLine_c56 F v1 v2 t0 t1 σ) 56 [some (jmr 3), some (jmi v1), some (jmi v2)] [(jmi t0), (jmi t1)] σ := by
    intro  v1 v2 t0 t1 σ
    exact jRf_by (jex_ok hG (cs := [(59, [some (.inr (some 3)), some (.inl 0), none], [], fun xs σ => match xs with
      | [v1] => Reader_readLine_c59 F v1 σ
      | _ => none), (104, [some (.inr (some 3)), none, none], [], fun xs σ => match xs with
      | [] => Reader_readLine_c104 F  σ
      | _ => none)]) (jcon (jl1 (fun y0 => jl0 (fun σ => rr59 y0 σ))) (jcon (jl0 (jl0 (fun σ => rr104  σ))) jnil)) 67 56 [some (jmr 3), some (jmi v1), some (jmi v2)] [(jmi t0), (jmi t1)] σ) rfl
  have rr44 : ∀ (v1 v2 t0 : Int) (σ : jxS), jRf X (Reader_readLine_c44 F v1 v2 t0 σ) 44 [some (jmr 3), some (jmi v1), some (jmi v2)] [(jmi t0)] σ := by
    intro  v1 v2 t0 σ
    exact jRf_by (jex_ok hG (cs := [(56, [some (.inr (some 3)), some (.inl 0), some (.inl 0)], [(.inl 0), (.inl 0)], fun xs σ => match xs with
      | [v1, v2, t0, t1] => Reader_readLine_c56 F v1 v2 t0 t1 σ
      | _ => none)]) (jcon (jl2 (fun y0 y1 => jl2 (fun y2 y3 => (fun σ => rr56 y0 y1 y2 y3 σ)))) jnil) 67 44 [some (jmr 3), some (jmi v1), some (jmi v2)] [(jmi t0)] σ) rfl
  exact jRf_by (jex_ok hG (cs := [(44, [some (.inr (some 3)), some (.inl 0), some (.inl 0)], [(.inl 0)], fun xs σ => match xs with
      | [v1, v2, t0] => Reader_readLine_c44 F v1 v2 t0 σ
      | _ => none), (59, [some (.inr (some 3)), some (.inl 0), none], [], fun xs σ => match xs with
      | [v1] => Reader_readLine_c59 F v1 σ
      | _ => none)]) (jcon (jl2 (fun y0 y1 => jl1 (fun y2 => (fun σ => rr44 y0 y1 y2 σ)))) (jcon (jl1 (fun y0 => jl0 (fun σ => rr59 y0 σ))) jnil)) 67 0 [some (jmr 3), none, none] [] σ0) rfl
theorem jad_Reader_readLine (F : Nat) (sh : List jxC) (hs : jHas sh jc_T) : jAdV (jca_Reader_readLine F) yX7_readLine cX7_readLine 3 0 6 145 0 sh := by
  intro as σ k x σ' h
  unfold jca_Reader_readLine at h
  split at h
  · rename_i t0
    obtain ⟨g0, hh1⟩ := jcond h
    obtain rfl := jbeq g0
    obtain ⟨r, h1, h2⟩ := Option.bind_eq_some_iff.mp hh1
    exact ⟨_, _, h2, ⟨_, _, _, _, _, _, rfl, rfl, (hs _ (jkf_in (l := jc_T) (idx := 3) rfl)).1, rfl⟩, jmet_Reader_readLine F  sh hs σ  r.1 r.2 h1⟩
  · cases h
def jtb_Reader_passSemicolon : List (Nat × Instr) := [(0, .aload_n 0), (1, .invokevirtual 51), (4, .aload_n 0), (5, .getfield 31), (8, .aload_n 0), (9, .getfield 27), (12, .invokevirtual 90), (15, .if_icmp .lt 5), (18, .iconst 0), (19, .ireturn), (20, .aload_n 0), (21, .getfield 27), (24, .aload_n 0), (25, .getfield 31), (28, .invokevirtual 81), (31, .bipush 59), (33, .if_icmp .eq 14), (36, .aload_n 0), (37, .aload_n 0), (38, .getfield 31), (41, .iconst 1), (42, .invokevirtual 58), (45, .iconst 0), (46, .ireturn), (47, .aload_n 0), (48, .dup), (49, .getfield 31), (52, .iconst 1), (53, .iadd), (54, .putfield 31), (57, .iconst 1), (58, .ireturn)]
theorem jtk_Reader_passSemicolon : jtok cX7_passSemicolon jtb_Reader_passSemicolon = true := by decide +kernel
def jE_Reader_passSemicolon (F : Nat) : jxE := jmk [(27, 7, 0), (31, 7, 8)] [] [] [(51, (1, false), jca_Reader_skipBlanks F), (58, (3, false), jca_Reader_fail F), (81, (2, false), jca_Tape_at F), (90, (1, false), jca_Tape_size F)] 4 jc_T
set_option maxRecDepth 100000 in
set_option maxHeartbeats 4000000 in
theorem jmet_Reader_passSemicolon (F : Nat) (sh : List jxC) (hs : jHas sh jc_T) (σ0 : jxS) (x : Int) (σ' : jxS) (h : Reader_passSemicolon F σ0 = some (x, σ')) : jMC yX7_passSemicolon cX7_passSemicolon 1 (jrt 4) 2 42 sh σ0 [(jmr 3)] (jrv 4 x) σ' := by
  refine jMC_of (kd := 4) (by decide) rfl h ?_
  intro X hX
  have hG : jGd X (jE_Reader_passSemicolon F) jtb_Reader_passSemicolon := jGd_of hX jtk_Reader_passSemicolon (jcon jfl_X7_27 (jcon jfl_X7_31 jnil)) jnil jnil (jcon (jsV jlk_X7_51 ⟨rfl, rfl⟩ (jad_Reader_skipBlanks F sh hs)) (jcon (jsV jlk_X7_58 ⟨rfl, rfl⟩ (jad_Reader_fail F sh hs)) (jcon (jsV jlk_X7_81 ⟨rfl, rfl⟩ (jad_Tape_at F sh hs)) (jcon (jsV jlk_X7_90 ⟨rfl, rfl⟩ (jad_Tape_size F sh hs)) jnil)))) hs
  exact jRf_by (jex_ok hG (cs := []) jnil 35 0 [some (jmr 3)] [] σ0) rfl
theorem jad_Reader_passSemicolon (F : Nat) (sh : List jxC) (hs : jHas sh jc_T) : jAdV (jca_Reader_passSemicolon F) yX7_passSemicolon cX7_passSemicolon 1 4 2 42 0 sh := by
  intro as σ k x σ' h
  unfold jca_Reader_passSemicolon at h
  split at h
  · rename_i t0
    obtain ⟨g0, hh1⟩ := jcond h
    obtain rfl := jbeq g0
    obtain ⟨r, h1, h2⟩ := Option.bind_eq_some_iff.mp hh1
    exact ⟨_, _, h2, ⟨_, _, _, _, _, _, rfl, rfl, (hs _ (jkf_in (l := jc_T) (idx := 3) rfl)).1, rfl⟩, jmet_Reader_passSemicolon F  sh hs σ  r.1 r.2 h1⟩
  · cases h
def jtb_Reader_readText : List (Nat × Instr) := [(0, .aload_n 0), (1, .iconst 0), (2, .putfield 31), (5, .aload_n 0), (6, .iconst 0), (7, .putfield 35), (10, .aload_n 0), (11, .iconst 0), (12, .putfield 38), (15, .aload_n 0), (16, .iconst 0), (17, .putfield 41), (20, .iconst 1), (21, .istore_n 1), (22, .iconst 0), (23, .istore_n 2), (24, .iload_n 1), (25, .ifCond .eq 39), (28, .iload_n 2), (29, .bipush 16), (31, .if_icmp .gt 33), (34, .aload_n 0), (35, .invokevirtual 44), (38, .aload_n 0), (39, .getfield 35), (42, .ifCond .ne 14), (45, .aload_n 0), (46, .invokevirtual 47), (49, .ifCond .eq 7), (52, .iconst 1), (53, .goto 4), (56, .iconst 0), (57, .istore_n 1), (58, .iinc 2 1), (61, .goto (-37)), (64, .aload_n 0), (65, .getfield 35), (68, .ifCond .ne 10), (71, .aload_n 0), (72, .getfield 38), (75, .goto 10), (78, .bipush (-2)), (80, .aload_n 0), (81, .getfield 35), (84, .isub), (85, .ireturn)]
theorem jtk_Reader_readText : jtok cX7_readText jtb_Reader_readText = true := by decide +kernel
set_option maxRecDepth 100000 in
theorem jlk_X7_44 : jLkV RX7 44 yX7_readLine cX7_readLine 3 0 0 := ⟨(jTB_at 243 rfl rfl), (jTB_at 245 rfl rfl), (jTB_at 0 rfl rfl), (jTB_at 114 rfl rfl), jTB_at 246 rfl rfl, ⟨by decide, by decide, by decide +kernel⟩⟩
set_option maxRecDepth 100000 in
theorem jlk_X7_47 : jLkV RX7 47 yX7_passSemicolon cX7_passSemicolon 1 4 0 := ⟨(jTB_at 350 rfl rfl), (jTB_at 352 rfl rfl), (jTB_at 11 rfl rfl), (jTB_at 114 rfl rfl), jTB_at 353 rfl rfl, ⟨by decide, by decide, by decide +kernel⟩⟩
def jE_Reader_readText (F : Nat) : jxE := jmk [(31, 7, 8), (35, 7, 9), (38, 7, 7), (41, 7, 6)] [] [] [(44, (1, false), jca_Reader_readLine F), (47, (1, false), jca_Reader_passSemicolon F)] 1 jc_T
set_option maxRecDepth 100000 in
set_option maxHeartbeats 4000000 in
theorem jmet_Reader_readText (F : Nat) (sh : List jxC) (hs : jHas sh jc_T) (σ0 : jxS) (x : Int) (σ' : jxS) (h : Reader_readText F σ0 = some (x, σ')) : jMC yX7_readText cX7_readText 3 (jrt 1) 7 167 sh σ0 [(jmr 3)] (jrv 1 x) σ' := by
  refine jMC_of (kd := 1) (by decide) rfl h ?_
  intro X hX
  have hG : jGd X (jE_Reader_readText F) jtb_Reader_readText := jGd_of hX jtk_Reader_readText (jcon jfl_X7_31 (jcon jfl_X7_35 (jcon jfl_X7_38 (jcon jfl_X7_41 jnil)))) jnil jnil (jcon (jsV jlk_X7_44 ⟨rfl, rfl⟩ (jad_Reader_readLine F sh hs)) (jcon (jsV jlk_X7_47 ⟨rfl, rfl⟩ (jad_Reader_passSemicolon F sh hs)) jnil)) hs
  have rr64 : ∀ (σ : jxS), jRf X (Reader_readText_c64 F  σ) 64 [some (jmr 3), none, none] [] σ := by
    intro   σ
    exact jRf_by (jex_ok hG (cs := []) jnil 49 64 [some (jmr 3), none, none] [] σ) rfl
  have rr24 : ∀ (fu : Nat) (v1 v2 : Int) (σ : jxS), jRf X (Reader_readText_c24 F fu v1 v2 σ) 24 [some (jmr 3), some (jmi v1), some (jmi v2)] [] σ := by
    intro  fu
    induction fu with
    | zero => intros; exact jRf_none
    | succ fu ih =>
      intro v1 v2 σ
      exact jRf_by (jex_ok hG (cs := [(24, [some (.inr (some 3)), some (.inl 0), some (.inl 0)], [], fun xs σ => match xs with
      | [v1, v2] => (Reader_readText_c24 F fu) v1 v2 σ
      | _ => none), (64, [some (.inr (some 3)), none, none], [], fun xs σ => match xs with
      | [] => Reader_readText_c64 F  σ
      | _ => none)]) (jcon (jl2 (fun y0 y1 => jl0 (fun σ => ih y0 y1 σ))) (jcon (jl0 (jl0 (fun σ => rr64  σ))) jnil)) 49 24 [some (jmr 3), some (jmi v1), some (jmi v2)] [] σ) rfl
  exact jRf_by (jex_ok hG (cs := [(24, [some (.inr (some 3)), some (.inl 0), some (.inl 0)], [], fun xs σ => match xs with
      | [v1, v2] => Reader_readText_c24 F F v1 v2 σ
      | _ => none)]) (jcon (jl2 (fun y0 y1 => jl0 (fun σ => rr24 F y0 y1 σ))) jnil) 49 0 [some (jmr 3), none, none] [] σ0) rfl
theorem jad_Reader_readText (F : Nat) (sh : List jxC) (hs : jHas sh jc_T) : jAdV (jca_Reader_readText F) yX7_readText cX7_readText 3 1 7 167 0 sh := by
  intro as σ k x σ' h
  unfold jca_Reader_readText at h
  split at h
  · rename_i t0
    obtain ⟨g0, hh1⟩ := jcond h
    obtain rfl := jbeq g0
    obtain ⟨r, h1, h2⟩ := Option.bind_eq_some_iff.mp hh1
    exact ⟨_, _, h2, ⟨_, _, _, _, _, _, rfl, rfl, (hs _ (jkf_in (l := jc_T) (idx := 3) rfl)).1, rfl⟩, jmet_Reader_readText F  sh hs σ  r.1 r.2 h1⟩
  · cases h
