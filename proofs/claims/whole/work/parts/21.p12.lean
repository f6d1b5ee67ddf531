/-! Contracts: LL0_period LL0_odd LL0_wild LL0_put LL0_move LL0_reply LL0_clear LL0_undo LL0_hand LL0_state LL0_genus LL0_line LL0_losers LL0_keep LL0_apart LL0_simplest LL0_answers LL0_draws LL0_games LL0_quotientOf LL0_elements LL0_word LL0_next LL0_times LL0_sets LL0_pairs LL0_proved LL0_stays LL0_power LL0_place LL0_count Positions_waysOf Positions_countWays -/
def jtb_LL0_period : List (Nat × Instr) := [(0, .aload_n 0), (1, .getfield 48), (4, .ifnull 12), (16, .iconst (-1)), (17, .ireturn)]
theorem jtk_LL0_period : jtok cX11_period jtb_LL0_period = true := by decide +kernel
def jE_LL0_period (F : Nat) : jxE := jmk [(48, 11, 2)] [] [] [] 1 jc_L0
set_option maxRecDepth 100000 in
set_option maxHeartbeats 4000000 in
theorem jmet_LL0_period (F : Nat) (sh : List jxC) (hs : jHas sh jc_L0) (σ0 : jxS) (v1 : Int) (x : Int) (σ' : jxS) (h : LL0_period F σ0 v1 = some (x, σ')) : jMC yX11_period cX11_period 2 (jrt 1) 0 0 sh σ0 [(jmr 0), (jmi v1)] (jrv 1 x) σ' := by
  refine jMC_of (kd := 1) (by decide) rfl h ?_
  intro X hX
  have hG : jGd X (jE_LL0_period F) jtb_LL0_period := jGd_of hX jtk_LL0_period (jcon jfl_X11_48 jnil) jnil jnil jnil hs
  exact jRf_by (jex_ok hG (cs := []) jnil 29 0 [some (jmr 0), some (jmi v1)] [] σ0) rfl
theorem jad_LL0_period (F : Nat) (sh : List jxC) (hs : jHas sh jc_L0) : jAdV (jca_LL0_period F) yX11_period cX11_period 2 1 0 0 1 sh := by
  intro as σ k x σ' h
  unfold jca_LL0_period at h
  split at h
  · rename_i t0 v1
    obtain ⟨g0, hh1⟩ := jcond h
    obtain rfl := jbeq g0
    obtain ⟨r, h1, h2⟩ := Option.bind_eq_some_iff.mp hh1
    exact ⟨_, _, h2, ⟨_, _, _, _, _, _, rfl, rfl, (hs _ (jkf_in (l := jc_L0) (idx := 0) rfl)).1, rfl⟩, jmet_LL0_period F  sh hs σ v1 r.1 r.2 h1⟩
  · cases h
def jtb_LL0_odd : List (Nat × Instr) := [(0, .aload_n 0), (1, .getfield 48), (4, .ifnull 10), (14, .iconst (-1)), (15, .ireturn)]
theorem jtk_LL0_odd : jtok cX11_odd jtb_LL0_odd = true := by decide +kernel
def jE_LL0_odd (F : Nat) : jxE := jmk [(48, 11, 2)] [] [] [] 1 jc_L0
set_option maxRecDepth 100000 in
set_option maxHeartbeats 4000000 in
theorem jmet_LL0_odd (F : Nat) (sh : List jxC) (hs : jHas sh jc_L0) (σ0 : jxS) (v1 : Int) (x : Int) (σ' : jxS) (h : LL0_odd F σ0 v1 = some (x, σ')) : jMC yX11_odd cX11_odd 2 (jrt 1) 0 0 sh σ0 [(jmr 0), (jmi v1)] (jrv 1 x) σ' := by
  refine jMC_of (kd := 1) (by decide) rfl h ?_
  intro X hX
  have hG : jGd X (jE_LL0_odd F) jtb_LL0_odd := jGd_of hX jtk_LL0_odd (jcon jfl_X11_48 jnil) jnil jnil jnil hs
  exact jRf_by (jex_ok hG (cs := []) jnil 18 0 [some (jmr 0), some (jmi v1)] [] σ0) rfl
theorem jad_LL0_odd (F : Nat) (sh : List jxC) (hs : jHas sh jc_L0) : jAdV (jca_LL0_odd F) yX11_odd cX11_odd 2 1 0 0 1 sh := by
  intro as σ k x σ' h
  unfold jca_LL0_odd at h
  split at h
  · rename_i t0 v1
    obtain ⟨g0, hh1⟩ := jcond h
    obtain rfl := jbeq g0
    obtain ⟨r, h1, h2⟩ := Option.bind_eq_some_iff.mp hh1
    exact ⟨_, _, h2, ⟨_, _, _, _, _, _, rfl, rfl, (hs _ (jkf_in (l := jc_L0) (idx := 0) rfl)).1, rfl⟩, jmet_LL0_odd F  sh hs σ v1 r.1 r.2 h1⟩
  · cases h
def jtb_LL0_wild : List (Nat × Instr) := [(0, .aload_n 0), (1, .getfield 48), (4, .ifnull 10), (14, .iconst (-1)), (15, .ireturn)]
theorem jtk_LL0_wild : jtok cX11_wild jtb_LL0_wild = true := by decide +kernel
def jE_LL0_wild (F : Nat) : jxE := jmk [(48, 11, 2)] [] [] [] 1 jc_L0
set_option maxRecDepth 100000 in
set_option maxHeartbeats 4000000 in
theorem jmet_LL0_wild (F : Nat) (sh : List jxC) (hs : jHas sh jc_L0) (σ0 : jxS) (v1 : Int) (x : Int) (σ' : jxS) (h : LL0_wild F σ0 v1 = some (x, σ')) : jMC yX11_wild cX11_wild 2 (jrt 1) 0 0 sh σ0 [(jmr 0), (jmi v1)] (jrv 1 x) σ' := by
  refine jMC_of (kd := 1) (by decide) rfl h ?_
  intro X hX
  have hG : jGd X (jE_LL0_wild F) jtb_LL0_wild := jGd_of hX jtk_LL0_wild (jcon jfl_X11_48 jnil) jnil jnil jnil hs
  exact jRf_by (jex_ok hG (cs := []) jnil 18 0 [some (jmr 0), some (jmi v1)] [] σ0) rfl
theorem jad_LL0_wild (F : Nat) (sh : List jxC) (hs : jHas sh jc_L0) : jAdV (jca_LL0_wild F) yX11_wild cX11_wild 2 1 0 0 1 sh := by
  intro as σ k x σ' h
  unfold jca_LL0_wild at h
  split at h
  · rename_i t0 v1
    obtain ⟨g0, hh1⟩ := jcond h
    obtain rfl := jbeq g0
    obtain ⟨r, h1, h2⟩ := Option.bind_eq_some_iff.mp hh1
    exact ⟨_, _, h2, ⟨_, _, _, _, _, _, rfl, rfl, (hs _ (jkf_in (l := jc_L0) (idx := 0) rfl)).1, rfl⟩, jmet_LL0_wild F  sh hs σ v1 r.1 r.2 h1⟩
  · cases h
def jtb_LL0_put : List (Nat × Instr) := [(0, .aload_n 0), (1, .getfield 48), (4, .ifnull 10), (14, .iconst (-1)), (15, .ireturn)]
theorem jtk_LL0_put : jtok cX11_put jtb_LL0_put = true := by decide +kernel
def jE_LL0_put (F : Nat) : jxE := jmk [(48, 11, 2)] [] [] [] 1 jc_L0
set_option maxRecDepth 100000 in
set_option maxHeartbeats 4000000 in
theorem jmet_LL0_put (F : Nat) (sh : List jxC) (hs : jHas sh jc_L0) (σ0 : jxS) (v1 : Int) (x : Int) (σ' : jxS) (h : LL0_put F σ0 v1 = some (x, σ')) : jMC yX11_put cX11_put 3 (jrt 1) 0 0 sh σ0 [(jmr 0), (jmi v1)] (jrv 1 x) σ' := by
  refine jMC_of (kd := 1) (by decide) rfl h ?_
  intro X hX
  have hG : jGd X (jE_LL0_put F) jtb_LL0_put := jGd_of hX jtk_LL0_put (jcon jfl_X11_48 jnil) jnil jnil jnil hs
  exact jRf_by (jex_ok hG (cs := []) jnil 36 0 [some (jmr 0), some (jmi v1), none] [] σ0) rfl
theorem jad_LL0_put (F : Nat) (sh : List jxC) (hs : jHas sh jc_L0) : jAdV (jca_LL0_put F) yX11_put cX11_put 3 1 0 0 1 sh := by
  intro as σ k x σ' h
  unfold jca_LL0_put at h
  split at h
  · rename_i t0 v1
    obtain ⟨g0, hh1⟩ := jcond h
    obtain rfl := jbeq g0
    obtain ⟨r, h1, h2⟩ := Option.bind_eq_some_iff.mp hh1
    exact ⟨_, _, h2, ⟨_, _, _, _, _, _, rfl, rfl, (hs _ (jkf_in (l := jc_L0) (idx := 0) rfl)).1, rfl⟩, jmet_LL0_put F  sh hs σ v1 r.1 r.2 h1⟩
  · cases h
def jtb_LL0_move : List (Nat × Instr) := [(0, .aload_n 0), (1, .getfield 48), (4, .ifnull 26), (30, .iconst (-1)), (31, .ireturn)]
theorem jtk_LL0_move : jtok cX11_move jtb_LL0_move = true := by decide +kernel
def jE_LL0_move (F : Nat) : jxE := jmk [(48, 11, 2)] [] [] [] 1 jc_L0
set_option maxRecDepth 100000 in
set_option maxHeartbeats 4000000 in
theorem jmet_LL0_move (F : Nat) (sh : List jxC) (hs : jHas sh jc_L0) (σ0 : jxS) (v1 : Int) (v2 : Int) (v3 : Int) (x : Int) (σ' : jxS) (h : LL0_move F σ0 v1 v2 v3 = some (x, σ')) : jMC yX11_move cX11_move 6 (jrt 1) 0 0 sh σ0 [(jmr 0), (jmi v1), (jmi v2), (jmi v3)] (jrv 1 x) σ' := by
  refine jMC_of (kd := 1) (by decide) rfl h ?_
  intro X hX
  have hG : jGd X (jE_LL0_move F) jtb_LL0_move := jGd_of hX jtk_LL0_move (jcon jfl_X11_48 jnil) jnil jnil jnil hs
  exact jRf_by (jex_ok hG (cs := []) jnil 59 0 [some (jmr 0), some (jmi v1), some (jmi v2), some (jmi v3), none, none] [] σ0) rfl
theorem jad_LL0_move (F : Nat) (sh : List jxC) (hs : jHas sh jc_L0) : jAdV (jca_LL0_move F) yX11_move cX11_move 6 1 0 0 3 sh := by
  intro as σ k x σ' h
  unfold jca_LL0_move at h
  split at h
  · rename_i t0 v1 v2 v3
    obtain ⟨g0, hh1⟩ := jcond h
    obtain rfl := jbeq g0
    obtain ⟨r, h1, h2⟩ := Option.bind_eq_some_iff.mp hh1
    exact ⟨_, _, h2, ⟨_, _, _, _, _, _, rfl, rfl, (hs _ (jkf_in (l := jc_L0) (idx := 0) rfl)).1, rfl⟩, jmet_LL0_move F  sh hs σ v1 v2 v3 r.1 r.2 h1⟩
  · cases h
def jtb_LL0_reply : List (Nat × Instr) := [(0, .aload_n 0), (1, .getfield 48), (4, .ifnonnull 7), (7, .iconst (-1)), (8, .goto 10), (18, .ireturn)]
theorem jtk_LL0_reply : jtok cX11_reply jtb_LL0_reply = true := by decide +kernel
def jE_LL0_reply (F : Nat) : jxE := jmk [(48, 11, 2)] [] [] [] 1 jc_L0
set_option maxRecDepth 100000 in
set_option maxHeartbeats 4000000 in
theorem jmet_LL0_reply (F : Nat) (sh : List jxC) (hs : jHas sh jc_L0) (σ0 : jxS) (x : Int) (σ' : jxS) (h : LL0_reply F σ0 = some (x, σ')) : jMC yX11_reply cX11_reply 1 (jrt 1) 0 0 sh σ0 [(jmr 0)] (jrv 1 x) σ' := by
  refine jMC_of (kd := 1) (by decide) rfl h ?_
  intro X hX
  have hG : jGd X (jE_LL0_reply F) jtb_LL0_reply := jGd_of hX jtk_LL0_reply (jcon jfl_X11_48 jnil) jnil jnil jnil hs
  exact jRf_by (jex_ok hG (cs := []) jnil 12 0 [some (jmr 0)] [] σ0) rfl
theorem jad_LL0_reply (F : Nat) (sh : List jxC) (hs : jHas sh jc_L0) : jAdV (jca_LL0_reply F) yX11_reply cX11_reply 1 1 0 0 0 sh := by
  intro as σ k x σ' h
  unfold jca_LL0_reply at h
  split at h
  · rename_i t0
    obtain ⟨g0, hh1⟩ := jcond h
    obtain rfl := jbeq g0
    obtain ⟨r, h1, h2⟩ := Option.bind_eq_some_iff.mp hh1
    exact ⟨_, _, h2, ⟨_, _, _, _, _, _, rfl, rfl, (hs _ (jkf_in (l := jc_L0) (idx := 0) rfl)).1, rfl⟩, jmet_LL0_reply F  sh hs σ  r.1 r.2 h1⟩
  · cases h
def jtb_LL0_clear : List (Nat × Instr) := [(0, .aload_n 0), (1, .getfield 48), (4, .ifnull 16), (20, .iconst (-1)), (21, .ireturn)]
theorem jtk_LL0_clear : jtok cX11_clear jtb_LL0_clear = true := by decide +kernel
def jE_LL0_clear (F : Nat) : jxE := jmk [(48, 11, 2)] [] [] [] 1 jc_L0
set_option maxRecDepth 100000 in
set_option maxHeartbeats 4000000 in
theorem jmet_LL0_clear (F : Nat) (sh : List jxC) (hs : jHas sh jc_L0) (σ0 : jxS) (x : Int) (σ' : jxS) (h : LL0_clear F σ0 = some (x, σ')) : jMC yX11_clear cX11_clear 2 (jrt 1) 0 0 sh σ0 [(jmr 0)] (jrv 1 x) σ' := by
  refine jMC_of (kd := 1) (by decide) rfl h ?_
  intro X hX
  have hG : jGd X (jE_LL0_clear F) jtb_LL0_clear := jGd_of hX jtk_LL0_clear (jcon jfl_X11_48 jnil) jnil jnil jnil hs
  exact jRf_by (jex_ok hG (cs := []) jnil 29 0 [some (jmr 0), none] [] σ0) rfl
theorem jad_LL0_clear (F : Nat) (sh : List jxC) (hs : jHas sh jc_L0) : jAdV (jca_LL0_clear F) yX11_clear cX11_clear 2 1 0 0 0 sh := by
  intro as σ k x σ' h
  unfold jca_LL0_clear at h
  split at h
  · rename_i t0
    obtain ⟨g0, hh1⟩ := jcond h
    obtain rfl := jbeq g0
    obtain ⟨r, h1, h2⟩ := Option.bind_eq_some_iff.mp hh1
    exact ⟨_, _, h2, ⟨_, _, _, _, _, _, rfl, rfl, (hs _ (jkf_in (l := jc_L0) (idx := 0) rfl)).1, rfl⟩, jmet_LL0_clear F  sh hs σ  r.1 r.2 h1⟩
  · cases h
def jtb_LL0_undo : List (Nat × Instr) := [(0, .aload_n 0), (1, .getfield 48), (4, .ifnonnull 7), (7, .iconst (-1)), (8, .goto 13), (21, .ireturn)]
theorem jtk_LL0_undo : jtok cX11_undo jtb_LL0_undo = true := by decide +kernel
def jE_LL0_undo (F : Nat) : jxE := jmk [(48, 11, 2)] [] [] [] 1 jc_L0
set_option maxRecDepth 100000 in
set_option maxHeartbeats 4000000 in
theorem jmet_LL0_undo (F : Nat) (sh : List jxC) (hs : jHas sh jc_L0) (σ0 : jxS) (x : Int) (σ' : jxS) (h : LL0_undo F σ0 = some (x, σ')) : jMC yX11_undo cX11_undo 1 (jrt 1) 0 0 sh σ0 [(jmr 0)] (jrv 1 x) σ' := by
  refine jMC_of (kd := 1) (by decide) rfl h ?_
  intro X hX
  have hG : jGd X (jE_LL0_undo F) jtb_LL0_undo := jGd_of hX jtk_LL0_undo (jcon jfl_X11_48 jnil) jnil jnil jnil hs
  exact jRf_by (jex_ok hG (cs := []) jnil 13 0 [some (jmr 0)] [] σ0) rfl
theorem jad_LL0_undo (F : Nat) (sh : List jxC) (hs : jHas sh jc_L0) : jAdV (jca_LL0_undo F) yX11_undo cX11_undo 1 1 0 0 0 sh := by
  intro as σ k x σ' h
  unfold jca_LL0_undo at h
  split at h
  · rename_i t0
    obtain ⟨g0, hh1⟩ := jcond h
    obtain rfl := jbeq g0
    obtain ⟨r, h1, h2⟩ := Option.bind_eq_some_iff.mp hh1
    exact ⟨_, _, h2, ⟨_, _, _, _, _, _, rfl, rfl, (hs _ (jkf_in (l := jc_L0) (idx := 0) rfl)).1, rfl⟩, jmet_LL0_undo F  sh hs σ  r.1 r.2 h1⟩
  · cases h
def jtb_LL0_hand : List (Nat × Instr) := [(0, .iload_n 1), (1, .invokestatic 92), (4, .ifCond .ne 5), (7, .iconst (-1)), (8, .ireturn), (9, .aload_n 0), (10, .getfield 48), (13, .ifnonnull 7), (16, .iconst 0), (17, .goto 24), (41, .ireturn)]
theorem jtk_LL0_hand : jtok cX11_hand jtb_LL0_hand = true := by decide +kernel
def jE_LL0_hand (F : Nat) : jxE := jmk [(48, 11, 2)] [] [] [(92, (1, true), jca_LL_isHeapOrAll F)] 1 jc_L0
set_option maxRecDepth 100000 in
set_option maxHeartbeats 4000000 in
theorem jmet_LL0_hand (F : Nat) (sh : List jxC) (hs : jHas sh jc_L0) (σ0 : jxS) (v1 : Int) (x : Int) (σ' : jxS) (h : LL0_hand F σ0 v1 = some (x, σ')) : jMC yX11_hand cX11_hand 2 (jrt 1) 1 20 sh σ0 [(jmr 0), (jmi v1)] (jrv 1 x) σ' := by
  refine jMC_of (kd := 1) (by decide) rfl h ?_
  intro X hX
  have hG : jGd X (jE_LL0_hand F) jtb_LL0_hand := jGd_of hX jtk_LL0_hand (jcon jfl_X11_48 jnil) jnil jnil (jcon (jsS jlk_X11_92 ⟨rfl, rfl⟩ (jad_LL_isHeapOrAll F sh jh_E)) jnil) hs
  exact jRf_by (jex_ok hG (cs := []) jnil 23 0 [some (jmr 0), some (jmi v1)] [] σ0) rfl
theorem jad_LL0_hand (F : Nat) (sh : List jxC) (hs : jHas sh jc_L0) : jAdV (jca_LL0_hand F) yX11_hand cX11_hand 2 1 1 20 1 sh := by
  intro as σ k x σ' h
  unfold jca_LL0_hand at h
  split at h
  · rename_i t0 v1
    obtain ⟨g0, hh1⟩ := jcond h
    obtain rfl := jbeq g0
    obtain ⟨r, h1, h2⟩ := Option.bind_eq_some_iff.mp hh1
    exact ⟨_, _, h2, ⟨_, _, _, _, _, _, rfl, rfl, (hs _ (jkf_in (l := jc_L0) (idx := 0) rfl)).1, rfl⟩, jmet_LL0_hand F  sh hs σ v1 r.1 r.2 h1⟩
  · cases h
def jtb_LL0_state : List (Nat × Instr) := [(0, .aload_n 0), (1, .getfield 48), (4, .ifnonnull 7), (7, .iconst (-1)), (8, .goto 24), (32, .ireturn)]
theorem jtk_LL0_state : jtok cX11_state jtb_LL0_state = true := by decide +kernel
def jE_LL0_state (F : Nat) : jxE := jmk [(48, 11, 2)] [] [] [] 1 jc_L0
set_option maxRecDepth 100000 in
set_option maxHeartbeats 4000000 in
theorem jmet_LL0_state (F : Nat) (sh : List jxC) (hs : jHas sh jc_L0) (σ0 : jxS) (v1 : Int) (x : Int) (σ' : jxS) (h : LL0_state F σ0 v1 = some (x, σ')) : jMC yX11_state cX11_state 2 (jrt 1) 0 0 sh σ0 [(jmr 0), (jmi v1)] (jrv 1 x) σ' := by
  refine jMC_of (kd := 1) (by decide) rfl h ?_
  intro X hX
  have hG : jGd X (jE_LL0_state F) jtb_LL0_state := jGd_of hX jtk_LL0_state (jcon jfl_X11_48 jnil) jnil jnil jnil hs
  exact jRf_by (jex_ok hG (cs := []) jnil 18 0 [some (jmr 0), some (jmi v1)] [] σ0) rfl
theorem jad_LL0_state (F : Nat) (sh : List jxC) (hs : jHas sh jc_L0) : jAdV (jca_LL0_state F) yX11_state cX11_state 2 1 0 0 1 sh := by
  intro as σ k x σ' h
  unfold jca_LL0_state at h
  split at h
  · rename_i t0 v1
    obtain ⟨g0, hh1⟩ := jcond h
    obtain rfl := jbeq g0
    obtain ⟨r, h1, h2⟩ := Option.bind_eq_some_iff.mp hh1
    exact ⟨_, _, h2, ⟨_, _, _, _, _, _, rfl, rfl, (hs _ (jkf_in (l := jc_L0) (idx := 0) rfl)).1, rfl⟩, jmet_LL0_state F  sh hs σ v1 r.1 r.2 h1⟩
  · cases h
def jtb_LL0_genus : List (Nat × Instr) := [(0, .aload_n 0), (1, .getfield 48), (4, .ifnull 12), (16, .iconst (-1)), (17, .ireturn)]
theorem jtk_LL0_genus : jtok cX11_genus jtb_LL0_genus = true := by decide +kernel
def jE_LL0_genus (F : Nat) : jxE := jmk [(48, 11, 2)] [] [] [] 1 jc_L0
set_option maxRecDepth 100000 in
set_option maxHeartbeats 4000000 in
theorem jmet_LL0_genus (F : Nat) (sh : List jxC) (hs : jHas sh jc_L0) (σ0 : jxS) (v1 : Int) (x : Int) (σ' : jxS) (h : LL0_genus F σ0 v1 = some (x, σ')) : jMC yX11_genus cX11_genus 2 (jrt 1) 0 0 sh σ0 [(jmr 0), (jmi v1)] (jrv 1 x) σ' := by
  refine jMC_of (kd := 1) (by decide) rfl h ?_
  intro X hX
  have hG : jGd X (jE_LL0_genus F) jtb_LL0_genus := jGd_of hX jtk_LL0_genus (jcon jfl_X11_48 jnil) jnil jnil jnil hs
  exact jRf_by (jex_ok hG (cs := []) jnil 23 0 [some (jmr 0), some (jmi v1)] [] σ0) rfl
theorem jad_LL0_genus (F : Nat) (sh : List jxC) (hs : jHas sh jc_L0) : jAdV (jca_LL0_genus F) yX11_genus cX11_genus 2 1 0 0 1 sh := by
  intro as σ k x σ' h
  unfold jca_LL0_genus at h
  split at h
  · rename_i t0 v1
    obtain ⟨g0, hh1⟩ := jcond h
    obtain rfl := jbeq g0
    obtain ⟨r, h1, h2⟩ := Option.bind_eq_some_iff.mp hh1
    exact ⟨_, _, h2, ⟨_, _, _, _, _, _, rfl, rfl, (hs _ (jkf_in (l := jc_L0) (idx := 0) rfl)).1, rfl⟩, jmet_LL0_genus F  sh hs σ v1 r.1 r.2 h1⟩
  · cases h
def jtb_LL0_line : List (Nat × Instr) := [(0, .aload_n 0), (1, .getfield 48), (4, .ifnull 7), (11, .iconst (-1)), (12, .goto 11), (23, .ireturn)]
theorem jtk_LL0_line : jtok cX11_line jtb_LL0_line = true := by decide +kernel
def jE_LL0_line (F : Nat) : jxE := jmk [(48, 11, 2)] [] [] [] 1 jc_L0
set_option maxRecDepth 100000 in
set_option maxHeartbeats 4000000 in
theorem jmet_LL0_line (F : Nat) (sh : List jxC) (hs : jHas sh jc_L0) (σ0 : jxS) (v1 : Int) (x : Int) (σ' : jxS) (h : LL0_line F σ0 v1 = some (x, σ')) : jMC yX11_line cX11_line 2 (jrt 1) 0 0 sh σ0 [(jmr 0), (jmi v1)] (jrv 1 x) σ' := by
  refine jMC_of (kd := 1) (by decide) rfl h ?_
  intro X hX
  have hG : jGd X (jE_LL0_line F) jtb_LL0_line := jGd_of hX jtk_LL0_line (jcon jfl_X11_48 jnil) jnil jnil jnil hs
  exact jRf_by (jex_ok hG (cs := []) jnil 15 0 [some (jmr 0), some (jmi v1)] [] σ0) rfl
theorem jad_LL0_line (F : Nat) (sh : List jxC) (hs : jHas sh jc_L0) : jAdV (jca_LL0_line F) yX11_line cX11_line 2 1 0 0 1 sh := by
  intro as σ k x σ' h
  unfold jca_LL0_line at h
  split at h
  · rename_i t0 v1
    obtain ⟨g0, hh1⟩ := jcond h
    obtain rfl := jbeq g0
    obtain ⟨r, h1, h2⟩ := Option.bind_eq_some_iff.mp hh1
    exact ⟨_, _, h2, ⟨_, _, _, _, _, _, rfl, rfl, (hs _ (jkf_in (l := jc_L0) (idx := 0) rfl)).1, rfl⟩, jmet_LL0_line F  sh hs σ v1 r.1 r.2 h1⟩
  · cases h
def jtb_LL0_losers : List (Nat × Instr) := [(0, .iload_n 2), (1, .iconst (-1)), (2, .if_icmp .eq 10), (5, .iload_n 2), (6, .invokestatic 59), (9, .ifCond .eq 7), (12, .iconst 1), (13, .goto 4), (16, .iconst 0), (17, .istore_n 3), (18, .aload_n 0), (19, .getfield 48), (22, .ifnull 17), (39, .iconst (-1)), (40, .ireturn)]
theorem jtk_LL0_losers : jtok cX11_losers jtb_LL0_losers = true := by decide +kernel
def jE_LL0_losers (F : Nat) : jxE := jmk [(48, 11, 2)] [] [] [(59, (1, true), jca_LL_isHeap F)] 1 jc_L0
set_option maxRecDepth 100000 in
set_option maxHeartbeats 4000000 in
theorem jmet_LL0_losers (F : Nat) (sh : List jxC) (hs : jHas sh jc_L0) (σ0 : jxS) (v1 : Int) (v2 : Int) (x : Int) (σ' : jxS) (h : LL0_losers F σ0 v1 v2 = some (x, σ')) : jMC yX11_losers cX11_losers 4 (jrt 1) 1 20 sh σ0 [(jmr 0), (jmi v1), (jmi v2)] (jrv 1 x) σ' := by
  refine jMC_of (kd := 1) (by decide) rfl h ?_
  intro X hX
  have hG : jGd X (jE_LL0_losers F) jtb_LL0_losers := jGd_of hX jtk_LL0_losers (jcon jfl_X11_48 jnil) jnil jnil (jcon (jsS jlk_X11_59 ⟨rfl, rfl⟩ (jad_LL_isHeap F sh jh_E)) jnil) hs
  have rr17 : ∀ (v1 v2 t0 : Int) (σ : jxS), jRf X (LL0_losers_c17 F v1 v2 t0 σ) 17 [some (jmr 0), some (jmi v1), some (jmi v2), none] [(jmi t0)] σ := by
    intro  v1 v2 t0 σ
    exact jRf_by (jex_ok hG (cs := []) jnil 43 17 [some (jmr 0), some (jmi v1), some (jmi v2), none] [(jmi t0)] σ) rfl
  have rr12 : ∀ (v1 v2 : Int) (σ : jxS), jRf X (LL0_losers_c12 F v1 v2 σ) 12 [some (jmr 0), some (jmi v1), some (jmi v2), none] [] σ := by
    intro  v1 v2 σ
    exact jRf_by (jex_ok hG (cs := [(17, [some (.inr (some 0)), some (.inl 0), some (.inl 0), none], [(.inl 0)], fun xs σ => match xs with
      | [v1, v2, t0] => LL0_losers_c17 F v1 v2 t0 σ
      | _ => none)]) (jcon (jl2 (fun y0 y1 => jl1 (fun y2 => (fun σ => rr17 y0 y1 y2 σ)))) jnil) 43 12 [some (jmr 0), some (jmi v1), some (jmi v2), none] [] σ) rfl
  exact jRf_by (jex_ok hG (cs := [(12, [some (.inr (some 0)), some (.inl 0), some (.inl 0), none], [], fun xs σ => match xs with
      | [v1, v2] => LL0_losers_c12 F v1 v2 σ
      | _ => none), (17, [some (.inr (some 0)), some (.inl 0), some (.inl 0), none], [(.inl 0)], fun xs σ => match xs with
      | [v1, v2, t0] => LL0_losers_c17 F v1 v2 t0 σ
      | _ => none)]) (jcon (jl2 (fun y0 y1 => jl0 (fun σ => rr12 y0 y1 σ))) (jcon (jl2 (fun y0 y1 => jl1 (fun y2 => (fun σ => rr17 y0 y1 y2 σ)))) jnil)) 43 0 [some (jmr 0), some (jmi v1), some (jmi v2), none] [] σ0) rfl
theorem jad_LL0_losers (F : Nat) (sh : List jxC) (hs : jHas sh jc_L0) : jAdV (jca_LL0_losers F) yX11_losers cX11_losers 4 1 1 20 2 sh := by
  intro as σ k x σ' h
  unfold jca_LL0_losers at h
  split at h
  · rename_i t0 v1 v2
    obtain ⟨g0, hh1⟩ := jcond h
    obtain rfl := jbeq g0
    obtain ⟨r, h1, h2⟩ := Option.bind_eq_some_iff.mp hh1
    exact ⟨_, _, h2, ⟨_, _, _, _, _, _, rfl, rfl, (hs _ (jkf_in (l := jc_L0) (idx := 0) rfl)).1, rfl⟩, jmet_LL0_losers F  sh hs σ v1 v2 r.1 r.2 h1⟩
  · cases h
def jtb_LL0_keep : List (Nat × Instr) := [(0, .aload_n 0), (1, .getfield 48), (4, .ifnull 12), (16, .iconst (-1)), (17, .ireturn)]
theorem jtk_LL0_keep : jtok cX11_keep jtb_LL0_keep = true := by decide +kernel
def jE_LL0_keep (F : Nat) : jxE := jmk [(48, 11, 2)] [] [] [] 1 jc_L0
set_option maxRecDepth 100000 in
set_option maxHeartbeats 4000000 in
theorem jmet_LL0_keep (F : Nat) (sh : List jxC) (hs : jHas sh jc_L0) (σ0 : jxS) (v1 : Int) (x : Int) (σ' : jxS) (h : LL0_keep F σ0 v1 = some (x, σ')) : jMC yX11_keep cX11_keep 2 (jrt 1) 0 0 sh σ0 [(jmr 0), (jmi v1)] (jrv 1 x) σ' := by
  refine jMC_of (kd := 1) (by decide) rfl h ?_
  intro X hX
  have hG : jGd X (jE_LL0_keep F) jtb_LL0_keep := jGd_of hX jtk_LL0_keep (jcon jfl_X11_48 jnil) jnil jnil jnil hs
  exact jRf_by (jex_ok hG (cs := []) jnil 27 0 [some (jmr 0), some (jmi v1)] [] σ0) rfl
theorem jad_LL0_keep (F : Nat) (sh : List jxC) (hs : jHas sh jc_L0) : jAdV (jca_LL0_keep F) yX11_keep cX11_keep 2 1 0 0 1 sh := by
  intro as σ k x σ' h
  unfold jca_LL0_keep at h
  split at h
  · rename_i t0 v1
    obtain ⟨g0, hh1⟩ := jcond h
    obtain rfl := jbeq g0
    obtain ⟨r, h1, h2⟩ := Option.bind_eq_some_iff.mp hh1
    exact ⟨_, _, h2, ⟨_, _, _, _, _, _, rfl, rfl, (hs _ (jkf_in (l := jc_L0) (idx := 0) rfl)).1, rfl⟩, jmet_LL0_keep F  sh hs σ v1 r.1 r.2 h1⟩
  · cases h
def jtb_LL0_apart : List (Nat × Instr) := [(0, .aload_n 0), (1, .getfield 48), (4, .ifnull 10), (14, .iconst (-1)), (15, .ireturn)]
theorem jtk_LL0_apart : jtok cX11_apart jtb_LL0_apart = true := by decide +kernel
def jE_LL0_apart (F : Nat) : jxE := jmk [(48, 11, 2)] [] [] [] 1 jc_L0
set_option maxRecDepth 100000 in
set_option maxHeartbeats 4000000 in
theorem jmet_LL0_apart (F : Nat) (sh : List jxC) (hs : jHas sh jc_L0) (σ0 : jxS) (v1 : Int) (v2 : Int) (x : Int) (σ' : jxS) (h : LL0_apart F σ0 v1 v2 = some (x, σ')) : jMC yX11_apart cX11_apart 4 (jrt 1) 0 0 sh σ0 [(jmr 0), (jmi v1), (jmi v2)] (jrv 1 x) σ' := by
  refine jMC_of (kd := 1) (by decide) rfl h ?_
  intro X hX
  have hG : jGd X (jE_LL0_apart F) jtb_LL0_apart := jGd_of hX jtk_LL0_apart (jcon jfl_X11_48 jnil) jnil jnil jnil hs
  exact jRf_by (jex_ok hG (cs := []) jnil 51 0 [some (jmr 0), some (jmi v1), some (jmi v2), none] [] σ0) rfl
theorem jad_LL0_apart (F : Nat) (sh : List jxC) (hs : jHas sh jc_L0) : jAdV (jca_LL0_apart F) yX11_apart cX11_apart 4 1 0 0 2 sh := by
  intro as σ k x σ' h
  unfold jca_LL0_apart at h
  split at h
  · rename_i t0 v1 v2
    obtain ⟨g0, hh1⟩ := jcond h
    obtain rfl := jbeq g0
    obtain ⟨r, h1, h2⟩ := Option.bind_eq_some_iff.mp hh1
    exact ⟨_, _, h2, ⟨_, _, _, _, _, _, rfl, rfl, (hs _ (jkf_in (l := jc_L0) (idx := 0) rfl)).1, rfl⟩, jmet_LL0_apart F  sh hs σ v1 v2 r.1 r.2 h1⟩
  · cases h
def jtb_LL0_simplest : List (Nat × Instr) := [(0, .aload_n 0), (1, .getfield 48), (4, .ifnull 10), (14, .iconst (-1)), (15, .ireturn)]
theorem jtk_LL0_simplest : jtok cX11_simplest jtb_LL0_simplest = true := by decide +kernel
def jE_LL0_simplest (F : Nat) : jxE := jmk [(48, 11, 2)] [] [] [] 1 jc_L0
set_option maxRecDepth 100000 in
set_option maxHeartbeats 4000000 in
theorem jmet_LL0_simplest (F : Nat) (sh : List jxC) (hs : jHas sh jc_L0) (σ0 : jxS) (v1 : Int) (x : Int) (σ' : jxS) (h : LL0_simplest F σ0 v1 = some (x, σ')) : jMC yX11_simplest cX11_simplest 2 (jrt 1) 0 0 sh σ0 [(jmr 0), (jmi v1)] (jrv 1 x) σ' := by
  refine jMC_of (kd := 1) (by decide) rfl h ?_
  intro X hX
  have hG : jGd X (jE_LL0_simplest F) jtb_LL0_simplest := jGd_of hX jtk_LL0_simplest (jcon jfl_X11_48 jnil) jnil jnil jnil hs
  exact jRf_by (jex_ok hG (cs := []) jnil 34 0 [some (jmr 0), some (jmi v1)] [] σ0) rfl
theorem jad_LL0_simplest (F : Nat) (sh : List jxC) (hs : jHas sh jc_L0) : jAdV (jca_LL0_simplest F) yX11_simplest cX11_simplest 2 1 0 0 1 sh := by
  intro as σ k x σ' h
  unfold jca_LL0_simplest at h
  split at h
  · rename_i t0 v1
    obtain ⟨g0, hh1⟩ := jcond h
    obtain rfl := jbeq g0
    obtain ⟨r, h1, h2⟩ := Option.bind_eq_some_iff.mp hh1
    exact ⟨_, _, h2, ⟨_, _, _, _, _, _, rfl, rfl, (hs _ (jkf_in (l := jc_L0) (idx := 0) rfl)).1, rfl⟩, jmet_LL0_simplest F  sh hs σ v1 r.1 r.2 h1⟩
  · cases h
def jtb_LL0_answers : List (Nat × Instr) := [(0, .aload_n 0), (1, .getfield 48), (4, .ifnull 8), (12, .iconst (-1)), (13, .goto 11), (24, .ireturn)]
theorem jtk_LL0_answers : jtok cX11_answers jtb_LL0_answers = true := by decide +kernel
def jE_LL0_answers (F : Nat) : jxE := jmk [(48, 11, 2)] [] [] [] 1 jc_L0
set_option maxRecDepth 100000 in
set_option maxHeartbeats 4000000 in
theorem jmet_LL0_answers (F : Nat) (sh : List jxC) (hs : jHas sh jc_L0) (σ0 : jxS) (v1 : Int) (x : Int) (σ' : jxS) (h : LL0_answers F σ0 v1 = some (x, σ')) : jMC yX11_answers cX11_answers 2 (jrt 1) 0 0 sh σ0 [(jmr 0), (jmi v1)] (jrv 1 x) σ' := by
  refine jMC_of (kd := 1) (by decide) rfl h ?_
  intro X hX
  have hG : jGd X (jE_LL0_answers F) jtb_LL0_answers := jGd_of hX jtk_LL0_answers (jcon jfl_X11_48 jnil) jnil jnil jnil hs
  exact jRf_by (jex_ok hG (cs := []) jnil 16 0 [some (jmr 0), some (jmi v1)] [] σ0) rfl
theorem jad_LL0_answers (F : Nat) (sh : List jxC) (hs : jHas sh jc_L0) : jAdV (jca_LL0_answers F) yX11_answers cX11_answers 2 1 0 0 1 sh := by
  intro as σ k x σ' h
  unfold jca_LL0_answers at h
  split at h
  · rename_i t0 v1
    obtain ⟨g0, hh1⟩ := jcond h
    obtain rfl := jbeq g0
    obtain ⟨r, h1, h2⟩ := Option.bind_eq_some_iff.mp hh1
    exact ⟨_, _, h2, ⟨_, _, _, _, _, _, rfl, rfl, (hs _ (jkf_in (l := jc_L0) (idx := 0) rfl)).1, rfl⟩, jmet_LL0_answers F  sh hs σ v1 r.1 r.2 h1⟩
  · cases h
def jtb_LL0_draws : List (Nat × Instr) := [(0, .iload_n 1), (1, .ifCond .ge 5), (4, .iconst (-1)), (5, .ireturn), (6, .aload_n 0), (7, .getfield 25), (10, .istore_n 2), (11, .aload_n 0), (12, .iload_n 1), (13, .putfield 25), (16, .iload_n 2), (17, .ireturn)]
theorem jtk_LL0_draws : jtok cX11_draws jtb_LL0_draws = true := by decide +kernel
def jE_LL0_draws (F : Nat) : jxE := jmk [(25, 11, 3)] [] [] [] 1 jc_L0
set_option maxRecDepth 100000 in
set_option maxHeartbeats 4000000 in
theorem jmet_LL0_draws (F : Nat) (sh : List jxC) (hs : jHas sh jc_L0) (σ0 : jxS) (v1 : Int) (x : Int) (σ' : jxS) (h : LL0_draws F σ0 v1 = some (x, σ')) : jMC yX11_draws cX11_draws 3 (jrt 1) 0 0 sh σ0 [(jmr 0), (jmi v1)] (jrv 1 x) σ' := by
  refine jMC_of (kd := 1) (by decide) rfl h ?_
  intro X hX
  have hG : jGd X (jE_LL0_draws F) jtb_LL0_draws := jGd_of hX jtk_LL0_draws (jcon jfl_X11_25 jnil) jnil jnil jnil hs
  exact jRf_by (jex_ok hG (cs := []) jnil 15 0 [some (jmr 0), some (jmi v1), none] [] σ0) rfl
theorem jad_LL0_draws (F : Nat) (sh : List jxC) (hs : jHas sh jc_L0) : jAdV (jca_LL0_draws F) yX11_draws cX11_draws 3 1 0 0 1 sh := by
  intro as σ k x σ' h
  unfold jca_LL0_draws at h
  split at h
  · rename_i t0 v1
    obtain ⟨g0, hh1⟩ := jcond h
    obtain rfl := jbeq g0
    obtain ⟨r, h1, h2⟩ := Option.bind_eq_some_iff.mp hh1
    exact ⟨_, _, h2, ⟨_, _, _, _, _, _, rfl, rfl, (hs _ (jkf_in (l := jc_L0) (idx := 0) rfl)).1, rfl⟩, jmet_LL0_draws F  sh hs σ v1 r.1 r.2 h1⟩
  · cases h
def jtb_LL0_games : List (Nat × Instr) := [(0, .aload_n 0), (1, .getfield 48), (4, .ifnull 23), (27, .iconst (-1)), (28, .ireturn)]
theorem jtk_LL0_games : jtok cX11_games jtb_LL0_games = true := by decide +kernel
def jE_LL0_games (F : Nat) : jxE := jmk [(48, 11, 2)] [] [] [] 1 jc_L0
set_option maxRecDepth 100000 in
set_option maxHeartbeats 4000000 in
theorem jmet_LL0_games (F : Nat) (sh : List jxC) (hs : jHas sh jc_L0) (σ0 : jxS) (v1 : Int) (v2 : Int) (x : Int) (σ' : jxS) (h : LL0_games F σ0 v1 v2 = some (x, σ')) : jMC yX11_games cX11_games 3 (jrt 1) 0 0 sh σ0 [(jmr 0), (jmi v1), (jmi v2)] (jrv 1 x) σ' := by
  refine jMC_of (kd := 1) (by decide) rfl h ?_
  intro X hX
  have hG : jGd X (jE_LL0_games F) jtb_LL0_games := jGd_of hX jtk_LL0_games (jcon jfl_X11_48 jnil) jnil jnil jnil hs
  exact jRf_by (jex_ok hG (cs := []) jnil 27 0 [some (jmr 0), some (jmi v1), some (jmi v2)] [] σ0) rfl
theorem jad_LL0_games (F : Nat) (sh : List jxC) (hs : jHas sh jc_L0) : jAdV (jca_LL0_games F) yX11_games cX11_games 3 1 0 0 2 sh := by
  intro as σ k x σ' h
  unfold jca_LL0_games at h
  split at h
  · rename_i t0 v1 v2
    obtain ⟨g0, hh1⟩ := jcond h
    obtain rfl := jbeq g0
    obtain ⟨r, h1, h2⟩ := Option.bind_eq_some_iff.mp hh1
    exact ⟨_, _, h2, ⟨_, _, _, _, _, _, rfl, rfl, (hs _ (jkf_in (l := jc_L0) (idx := 0) rfl)).1, rfl⟩, jmet_LL0_games F  sh hs σ v1 v2 r.1 r.2 h1⟩
  · cases h
def jtb_LL0_quotientOf : List (Nat × Instr) := [(0, .aload_n 0), (1, .getfield 48), (4, .ifnull 14), (18, .aconst_null), (19, .areturn)]
theorem jtk_LL0_quotientOf : jtok cX11_quotientOf jtb_LL0_quotientOf = true := by decide +kernel
def jE_LL0_quotientOf (F : Nat) : jxE := jmk [(48, 11, 2)] [] [] [] 3 jc_L0
set_option maxRecDepth 100000 in
set_option maxHeartbeats 4000000 in
theorem jmet_LL0_quotientOf (F : Nat) (sh : List jxC) (hs : jHas sh jc_L0) (σ0 : jxS) (v1 : Int) (x : Int) (σ' : jxS) (h : LL0_quotientOf F σ0 v1 = some (x, σ')) : jMC yX11_quotientOf cX11_quotientOf 3 (jrt 3) 0 0 sh σ0 [(jmr 0), (jmi v1)] (jrv 3 x) σ' := by
  refine jMC_of (kd := 3) (by decide) rfl h ?_
  intro X hX
  have hG : jGd X (jE_LL0_quotientOf F) jtb_LL0_quotientOf := jGd_of hX jtk_LL0_quotientOf (jcon jfl_X11_48 jnil) jnil jnil jnil hs
  exact jRf_by (jex_ok hG (cs := []) jnil 28 0 [some (jmr 0), some (jmi v1), none] [] σ0) rfl
theorem jad_LL0_quotientOf (F : Nat) (sh : List jxC) (hs : jHas sh jc_L0) : jAdV (jca_LL0_quotientOf F) yX11_quotientOf cX11_quotientOf 3 3 0 0 1 sh := by
  intro as σ k x σ' h
  unfold jca_LL0_quotientOf at h
  split at h
  · rename_i t0 v1
    obtain ⟨g0, hh1⟩ := jcond h
    obtain rfl := jbeq g0
    obtain ⟨r, h1, h2⟩ := Option.bind_eq_some_iff.mp hh1
    by_cases h0 : r.1 = 0
    · rw [if_pos h0] at h2
      have e := jmet_LL0_quotientOf F  sh hs σ v1 r.1 r.2 h1
      simp only [jrv, if_pos h0] at e
      exact ⟨_, _, h2, ⟨_, _, _, _, _, _, rfl, rfl, (hs _ (jkf_in (l := jc_L0) (idx := 0) rfl)).1, rfl⟩, e⟩
    · rw [if_neg h0] at h2
      cases h2
  · cases h
def jtb_LL0_elements : List (Nat × Instr) := [(0, .aload_n 0), (1, .iload_n 1), (2, .invokevirtual 193), (5, .astore_n 2), (6, .aload_n 2), (7, .ifnonnull 7), (10, .iconst (-1)), (11, .goto 7), (18, .ireturn)]
theorem jtk_LL0_elements : jtok cX11_elements jtb_LL0_elements = true := by decide +kernel
def jE_LL0_elements (F : Nat) : jxE := jmk [] [] [] [(193, (2, false), jca_LL0_quotientOf F)] 1 jc_L0
set_option maxRecDepth 100000 in
set_option maxHeartbeats 4000000 in
theorem jmet_LL0_elements (F : Nat) (sh : List jxC) (hs : jHas sh jc_L0) (σ0 : jxS) (v1 : Int) (x : Int) (σ' : jxS) (h : LL0_elements F σ0 v1 = some (x, σ')) : jMC yX11_elements cX11_elements 3 (jrt 1) 1 22 sh σ0 [(jmr 0), (jmi v1)] (jrv 1 x) σ' := by
  refine jMC_of (kd := 1) (by decide) rfl h ?_
  intro X hX
  have hG : jGd X (jE_LL0_elements F) jtb_LL0_elements := jGd_of hX jtk_LL0_elements jnil jnil jnil (jcon (jsV jlk_X11_193 ⟨rfl, rfl⟩ (jad_LL0_quotientOf F sh hs)) jnil) hs
  exact jRf_by (jex_ok hG (cs := []) jnil 14 0 [some (jmr 0), some (jmi v1), none] [] σ0) rfl
theorem jad_LL0_elements (F : Nat) (sh : List jxC) (hs : jHas sh jc_L0) : jAdV (jca_LL0_elements F) yX11_elements cX11_elements 3 1 1 22 1 sh := by
  intro as σ k x σ' h
  unfold jca_LL0_elements at h
  split at h
  · rename_i t0 v1
    obtain ⟨g0, hh1⟩ := jcond h
    obtain rfl := jbeq g0
    obtain ⟨r, h1, h2⟩ := Option.bind_eq_some_iff.mp hh1
    exact ⟨_, _, h2, ⟨_, _, _, _, _, _, rfl, rfl, (hs _ (jkf_in (l := jc_L0) (idx := 0) rfl)).1, rfl⟩, jmet_LL0_elements F  sh hs σ v1 r.1 r.2 h1⟩
  · cases h
def jtb_LL0_word : List (Nat × Instr) := [(0, .aload_n 0), (1, .iload_n 1), (2, .invokevirtual 193), (5, .astore 4), (7, .aload 4), (9, .ifnull 12), (21, .iconst (-1)), (22, .ireturn)]
theorem jtk_LL0_word : jtok cX11_word jtb_LL0_word = true := by decide +kernel
def jE_LL0_word (F : Nat) : jxE := jmk [] [] [] [(193, (2, false), jca_LL0_quotientOf F)] 1 jc_L0
set_option maxRecDepth 100000 in
set_option maxHeartbeats 4000000 in
theorem jmet_LL0_word (F : Nat) (sh : List jxC) (hs : jHas sh jc_L0) (σ0 : jxS) (v1 : Int) (v2 : Int) (v3 : Int) (x : Int) (σ' : jxS) (h : LL0_word F σ0 v1 v2 v3 = some (x, σ')) : jMC yX11_word cX11_word 5 (jrt 1) 1 22 sh σ0 [(jmr 0), (jmi v1), (jmi v2), (jmi v3)] (jrv 1 x) σ' := by
  refine jMC_of (kd := 1) (by decide) rfl h ?_
  intro X hX
  have hG : jGd X (jE_LL0_word F) jtb_LL0_word := jGd_of hX jtk_LL0_word jnil jnil jnil (jcon (jsV jlk_X11_193 ⟨rfl, rfl⟩ (jad_LL0_quotientOf F sh hs)) jnil) hs
  exact jRf_by (jex_ok hG (cs := []) jnil 36 0 [some (jmr 0), some (jmi v1), some (jmi v2), some (jmi v3), none] [] σ0) rfl
theorem jad_LL0_word (F : Nat) (sh : List jxC) (hs : jHas sh jc_L0) : jAdV (jca_LL0_word F) yX11_word cX11_word 5 1 1 22 3 sh := by
  intro as σ k x σ' h
  unfold jca_LL0_word at h
  split at h
  · rename_i t0 v1 v2 v3
    obtain ⟨g0, hh1⟩ := jcond h
    obtain rfl := jbeq g0
    obtain ⟨r, h1, h2⟩ := Option.bind_eq_some_iff.mp hh1
    exact ⟨_, _, h2, ⟨_, _, _, _, _, _, rfl, rfl, (hs _ (jkf_in (l := jc_L0) (idx := 0) rfl)).1, rfl⟩, jmet_LL0_word F  sh hs σ v1 v2 v3 r.1 r.2 h1⟩
  · cases h
def jtb_LL0_next : List (Nat × Instr) := [(0, .aload_n 0), (1, .iload_n 1), (2, .invokevirtual 193), (5, .astore 4), (7, .aload 4), (9, .ifnull 13), (22, .iconst (-1)), (23, .ireturn)]
theorem jtk_LL0_next : jtok cX11_next jtb_LL0_next = true := by decide +kernel
def jE_LL0_next (F : Nat) : jxE := jmk [] [] [] [(193, (2, false), jca_LL0_quotientOf F)] 1 jc_L0
set_option maxRecDepth 100000 in
set_option maxHeartbeats 4000000 in
theorem jmet_LL0_next (F : Nat) (sh : List jxC) (hs : jHas sh jc_L0) (σ0 : jxS) (v1 : Int) (v2 : Int) (v3 : Int) (x : Int) (σ' : jxS) (h : LL0_next F σ0 v1 v2 v3 = some (x, σ')) : jMC yX11_next cX11_next 5 (jrt 1) 1 22 sh σ0 [(jmr 0), (jmi v1), (jmi v2), (jmi v3)] (jrv 1 x) σ' := by
  refine jMC_of (kd := 1) (by decide) rfl h ?_
  intro X hX
  have hG : jGd X (jE_LL0_next F) jtb_LL0_next := jGd_of hX jtk_LL0_next jnil jnil jnil (jcon (jsV jlk_X11_193 ⟨rfl, rfl⟩ (jad_LL0_quotientOf F sh hs)) jnil) hs
  exact jRf_by (jex_ok hG (cs := []) jnil 33 0 [some (jmr 0), some (jmi v1), some (jmi v2), some (jmi v3), none] [] σ0) rfl
theorem jad_LL0_next (F : Nat) (sh : List jxC) (hs : jHas sh jc_L0) : jAdV (jca_LL0_next F) yX11_next cX11_next 5 1 1 22 3 sh := by
  intro as σ k x σ' h
  unfold jca_LL0_next at h
  split at h
  · rename_i t0 v1 v2 v3
    obtain ⟨g0, hh1⟩ := jcond h
    obtain rfl := jbeq g0
    obtain ⟨r, h1, h2⟩ := Option.bind_eq_some_iff.mp hh1
    exact ⟨_, _, h2, ⟨_, _, _, _, _, _, rfl, rfl, (hs _ (jkf_in (l := jc_L0) (idx := 0) rfl)).1, rfl⟩, jmet_LL0_next F  sh hs σ v1 v2 v3 r.1 r.2 h1⟩
  · cases h
def jtb_LL0_times : List (Nat × Instr) := [(0, .aload_n 0), (1, .iload_n 1), (2, .invokevirtual 193), (5, .astore 4), (7, .aload 4), (9, .ifnonnull 5), (12, .iconst (-1)), (13, .ireturn)]
theorem jtk_LL0_times : jtok cX11_times jtb_LL0_times = true := by decide +kernel
def jE_LL0_times (F : Nat) : jxE := jmk [] [] [] [(193, (2, false), jca_LL0_quotientOf F)] 1 jc_L0
set_option maxRecDepth 100000 in
set_option maxHeartbeats 4000000 in
theorem jmet_LL0_times (F : Nat) (sh : List jxC) (hs : jHas sh jc_L0) (σ0 : jxS) (v1 : Int) (v2 : Int) (v3 : Int) (x : Int) (σ' : jxS) (h : LL0_times F σ0 v1 v2 v3 = some (x, σ')) : jMC yX11_times cX11_times 5 (jrt 1) 1 22 sh σ0 [(jmr 0), (jmi v1), (jmi v2), (jmi v3)] (jrv 1 x) σ' := by
  refine jMC_of (kd := 1) (by decide) rfl h ?_
  intro X hX
  have hG : jGd X (jE_LL0_times F) jtb_LL0_times := jGd_of hX jtk_LL0_times jnil jnil jnil (jcon (jsV jlk_X11_193 ⟨rfl, rfl⟩ (jad_LL0_quotientOf F sh hs)) jnil) hs
  exact jRf_by (jex_ok hG (cs := []) jnil 31 0 [some (jmr 0), some (jmi v1), some (jmi v2), some (jmi v3), none] [] σ0) rfl
theorem jad_LL0_times (F : Nat) (sh : List jxC) (hs : jHas sh jc_L0) : jAdV (jca_LL0_times F) yX11_times cX11_times 5 1 1 22 3 sh := by
  intro as σ k x σ' h
  unfold jca_LL0_times at h
  split at h
  · rename_i t0 v1 v2 v3
    obtain ⟨g0, hh1⟩ := jcond h
    obtain rfl := jbeq g0
    obtain ⟨r, h1, h2⟩ := Option.bind_eq_some_iff.mp hh1
    exact ⟨_, _, h2, ⟨_, _, _, _, _, _, rfl, rfl, (hs _ (jkf_in (l := jc_L0) (idx := 0) rfl)).1, rfl⟩, jmet_LL0_times F  sh hs σ v1 v2 v3 r.1 r.2 h1⟩
  · cases h
def jtb_LL0_sets : List (Nat × Instr) := [(0, .aload_n 0), (1, .iload_n 1), (2, .invokevirtual 193), (5, .astore_n 3), (6, .aload_n 3), (7, .ifnull 12), (19, .iconst (-1)), (20, .ireturn)]
theorem jtk_LL0_sets : jtok cX11_sets jtb_LL0_sets = true := by decide +kernel
def jE_LL0_sets (F : Nat) : jxE := jmk [] [] [] [(193, (2, false), jca_LL0_quotientOf F)] 1 jc_L0
set_option maxRecDepth 100000 in
set_option maxHeartbeats 4000000 in
theorem jmet_LL0_sets (F : Nat) (sh : List jxC) (hs : jHas sh jc_L0) (σ0 : jxS) (v1 : Int) (v2 : Int) (x : Int) (σ' : jxS) (h : LL0_sets F σ0 v1 v2 = some (x, σ')) : jMC yX11_sets cX11_sets 4 (jrt 1) 1 22 sh σ0 [(jmr 0), (jmi v1), (jmi v2)] (jrv 1 x) σ' := by
  refine jMC_of (kd := 1) (by decide) rfl h ?_
  intro X hX
  have hG : jGd X (jE_LL0_sets F) jtb_LL0_sets := jGd_of hX jtk_LL0_sets jnil jnil jnil (jcon (jsV jlk_X11_193 ⟨rfl, rfl⟩ (jad_LL0_quotientOf F sh hs)) jnil) hs
  exact jRf_by (jex_ok hG (cs := []) jnil 25 0 [some (jmr 0), some (jmi v1), some (jmi v2), none] [] σ0) rfl
theorem jad_LL0_sets (F : Nat) (sh : List jxC) (hs : jHas sh jc_L0) : jAdV (jca_LL0_sets F) yX11_sets cX11_sets 4 1 1 22 2 sh := by
  intro as σ k x σ' h
  unfold jca_LL0_sets at h
  split at h
  · rename_i t0 v1 v2
    obtain ⟨g0, hh1⟩ := jcond h
    obtain rfl := jbeq g0
    obtain ⟨r, h1, h2⟩ := Option.bind_eq_some_iff.mp hh1
    exact ⟨_, _, h2, ⟨_, _, _, _, _, _, rfl, rfl, (hs _ (jkf_in (l := jc_L0) (idx := 0) rfl)).1, rfl⟩, jmet_LL0_sets F  sh hs σ v1 v2 r.1 r.2 h1⟩
  · cases h
def jtb_LL0_pairs : List (Nat × Instr) := [(0, .aload_n 0), (1, .iload_n 1), (2, .invokevirtual 193), (5, .astore_n 2), (6, .aload_n 2), (7, .ifnonnull 5), (10, .iconst (-1)), (11, .ireturn)]
theorem jtk_LL0_pairs : jtok cX11_pairs jtb_LL0_pairs = true := by decide +kernel
def jE_LL0_pairs (F : Nat) : jxE := jmk [] [] [] [(193, (2, false), jca_LL0_quotientOf F)] 1 jc_L0
set_option maxRecDepth 100000 in
set_option maxHeartbeats 4000000 in
theorem jmet_LL0_pairs (F : Nat) (sh : List jxC) (hs : jHas sh jc_L0) (σ0 : jxS) (v1 : Int) (x : Int) (σ' : jxS) (h : LL0_pairs F σ0 v1 = some (x, σ')) : jMC yX11_pairs cX11_pairs 3 (jrt 1) 1 22 sh σ0 [(jmr 0), (jmi v1)] (jrv 1 x) σ' := by
  refine jMC_of (kd := 1) (by decide) rfl h ?_
  intro X hX
  have hG : jGd X (jE_LL0_pairs F) jtb_LL0_pairs := jGd_of hX jtk_LL0_pairs jnil jnil jnil (jcon (jsV jlk_X11_193 ⟨rfl, rfl⟩ (jad_LL0_quotientOf F sh hs)) jnil) hs
  exact jRf_by (jex_ok hG (cs := []) jnil 21 0 [some (jmr 0), some (jmi v1), none] [] σ0) rfl
theorem jad_LL0_pairs (F : Nat) (sh : List jxC) (hs : jHas sh jc_L0) : jAdV (jca_LL0_pairs F) yX11_pairs cX11_pairs 3 1 1 22 1 sh := by
  intro as σ k x σ' h
  unfold jca_LL0_pairs at h
  split at h
  · rename_i t0 v1
    obtain ⟨g0, hh1⟩ := jcond h
    obtain rfl := jbeq g0
    obtain ⟨r, h1, h2⟩ := Option.bind_eq_some_iff.mp hh1
    exact ⟨_, _, h2, ⟨_, _, _, _, _, _, rfl, rfl, (hs _ (jkf_in (l := jc_L0) (idx := 0) rfl)).1, rfl⟩, jmet_LL0_pairs F  sh hs σ v1 r.1 r.2 h1⟩
  · cases h
def jtb_LL0_proved : List (Nat × Instr) := [(0, .aload_n 0), (1, .iload_n 1), (2, .invokevirtual 193), (5, .astore_n 2), (6, .aload_n 2), (7, .ifnonnull 5), (10, .iconst (-1)), (11, .ireturn)]
theorem jtk_LL0_proved : jtok cX11_proved jtb_LL0_proved = true := by decide +kernel
def jE_LL0_proved (F : Nat) : jxE := jmk [] [] [] [(193, (2, false), jca_LL0_quotientOf F)] 1 jc_L0
set_option maxRecDepth 100000 in
set_option maxHeartbeats 4000000 in
theorem jmet_LL0_proved (F : Nat) (sh : List jxC) (hs : jHas sh jc_L0) (σ0 : jxS) (v1 : Int) (x : Int) (σ' : jxS) (h : LL0_proved F σ0 v1 = some (x, σ')) : jMC yX11_proved cX11_proved 3 (jrt 1) 1 22 sh σ0 [(jmr 0), (jmi v1)] (jrv 1 x) σ' := by
  refine jMC_of (kd := 1) (by decide) rfl h ?_
  intro X hX
  have hG : jGd X (jE_LL0_proved F) jtb_LL0_proved := jGd_of hX jtk_LL0_proved jnil jnil jnil (jcon (jsV jlk_X11_193 ⟨rfl, rfl⟩ (jad_LL0_quotientOf F sh hs)) jnil) hs
  exact jRf_by (jex_ok hG (cs := []) jnil 21 0 [some (jmr 0), some (jmi v1), none] [] σ0) rfl
theorem jad_LL0_proved (F : Nat) (sh : List jxC) (hs : jHas sh jc_L0) : jAdV (jca_LL0_proved F) yX11_proved cX11_proved 3 1 1 22 1 sh := by
  intro as σ k x σ' h
  unfold jca_LL0_proved at h
  split at h
  · rename_i t0 v1
    obtain ⟨g0, hh1⟩ := jcond h
    obtain rfl := jbeq g0
    obtain ⟨r, h1, h2⟩ := Option.bind_eq_some_iff.mp hh1
    exact ⟨_, _, h2, ⟨_, _, _, _, _, _, rfl, rfl, (hs _ (jkf_in (l := jc_L0) (idx := 0) rfl)).1, rfl⟩, jmet_LL0_proved F  sh hs σ v1 r.1 r.2 h1⟩
  · cases h
def jtb_LL0_stays : List (Nat × Instr) := [(0, .aload_n 0), (1, .iload_n 1), (2, .invokevirtual 193), (5, .astore_n 2), (6, .aload_n 2), (7, .ifnonnull 5), (10, .iconst (-1)), (11, .ireturn)]
theorem jtk_LL0_stays : jtok cX11_stays jtb_LL0_stays = true := by decide +kernel
def jE_LL0_stays (F : Nat) : jxE := jmk [] [] [] [(193, (2, false), jca_LL0_quotientOf F)] 1 jc_L0
set_option maxRecDepth 100000 in
set_option maxHeartbeats 4000000 in
theorem jmet_LL0_stays (F : Nat) (sh : List jxC) (hs : jHas sh jc_L0) (σ0 : jxS) (v1 : Int) (x : Int) (σ' : jxS) (h : LL0_stays F σ0 v1 = some (x, σ')) : jMC yX11_stays cX11_stays 6 (jrt 1) 1 22 sh σ0 [(jmr 0), (jmi v1)] (jrv 1 x) σ' := by
  refine jMC_of (kd := 1) (by decide) rfl h ?_
  intro X hX
  have hG : jGd X (jE_LL0_stays F) jtb_LL0_stays := jGd_of hX jtk_LL0_stays jnil jnil jnil (jcon (jsV jlk_X11_193 ⟨rfl, rfl⟩ (jad_LL0_quotientOf F sh hs)) jnil) hs
  exact jRf_by (jex_ok hG (cs := []) jnil 46 0 [some (jmr 0), some (jmi v1), none, none, none, none] [] σ0) rfl
theorem jad_LL0_stays (F : Nat) (sh : List jxC) (hs : jHas sh jc_L0) : jAdV (jca_LL0_stays F) yX11_stays cX11_stays 6 1 1 22 1 sh := by
  intro as σ k x σ' h
  unfold jca_LL0_stays at h
  split at h
  · rename_i t0 v1
    obtain ⟨g0, hh1⟩ := jcond h
    obtain rfl := jbeq g0
    obtain ⟨r, h1, h2⟩ := Option.bind_eq_some_iff.mp hh1
    exact ⟨_, _, h2, ⟨_, _, _, _, _, _, rfl, rfl, (hs _ (jkf_in (l := jc_L0) (idx := 0) rfl)).1, rfl⟩, jmet_LL0_stays F  sh hs σ v1 r.1 r.2 h1⟩
  · cases h
def jtb_LL0_power : List (Nat × Instr) := [(0, .aload_n 0), (1, .iload_n 1), (2, .invokevirtual 193), (5, .astore 4), (7, .aload 4), (9, .ifnull 12), (21, .iconst (-1)), (22, .ireturn)]
theorem jtk_LL0_power : jtok cX11_power jtb_LL0_power = true := by decide +kernel
def jE_LL0_power (F : Nat) : jxE := jmk [] [] [] [(193, (2, false), jca_LL0_quotientOf F)] 1 jc_L0
set_option maxRecDepth 100000 in
set_option maxHeartbeats 4000000 in
theorem jmet_LL0_power (F : Nat) (sh : List jxC) (hs : jHas sh jc_L0) (σ0 : jxS) (v1 : Int) (v2 : Int) (v3 : Int) (x : Int) (σ' : jxS) (h : LL0_power F σ0 v1 v2 v3 = some (x, σ')) : jMC yX11_power cX11_power 5 (jrt 1) 1 22 sh σ0 [(jmr 0), (jmi v1), (jmi v2), (jmi v3)] (jrv 1 x) σ' := by
  refine jMC_of (kd := 1) (by decide) rfl h ?_
  intro X hX
  have hG : jGd X (jE_LL0_power F) jtb_LL0_power := jGd_of hX jtk_LL0_power jnil jnil jnil (jcon (jsV jlk_X11_193 ⟨rfl, rfl⟩ (jad_LL0_quotientOf F sh hs)) jnil) hs
  exact jRf_by (jex_ok hG (cs := []) jnil 32 0 [some (jmr 0), some (jmi v1), some (jmi v2), some (jmi v3), none] [] σ0) rfl
theorem jad_LL0_power (F : Nat) (sh : List jxC) (hs : jHas sh jc_L0) : jAdV (jca_LL0_power F) yX11_power cX11_power 5 1 1 22 3 sh := by
  intro as σ k x σ' h
  unfold jca_LL0_power at h
  split at h
  · rename_i t0 v1 v2 v3
    obtain ⟨g0, hh1⟩ := jcond h
    obtain rfl := jbeq g0
    obtain ⟨r, h1, h2⟩ := Option.bind_eq_some_iff.mp hh1
    exact ⟨_, _, h2, ⟨_, _, _, _, _, _, rfl, rfl, (hs _ (jkf_in (l := jc_L0) (idx := 0) rfl)).1, rfl⟩, jmet_LL0_power F  sh hs σ v1 v2 v3 r.1 r.2 h1⟩
  · cases h
def jtb_LL0_place : List (Nat × Instr) := [(0, .aload_n 0), (1, .iload_n 1), (2, .invokevirtual 193), (5, .astore_n 2), (6, .aload_n 2), (7, .ifnonnull 5), (10, .iconst (-1)), (11, .ireturn)]
theorem jtk_LL0_place : jtok cX11_place jtb_LL0_place = true := by decide +kernel
def jE_LL0_place (F : Nat) : jxE := jmk [] [] [] [(193, (2, false), jca_LL0_quotientOf F)] 1 jc_L0
set_option maxRecDepth 100000 in
set_option maxHeartbeats 4000000 in
theorem jmet_LL0_place (F : Nat) (sh : List jxC) (hs : jHas sh jc_L0) (σ0 : jxS) (v1 : Int) (x : Int) (σ' : jxS) (h : LL0_place F σ0 v1 = some (x, σ')) : jMC yX11_place cX11_place 4 (jrt 1) 1 22 sh σ0 [(jmr 0), (jmi v1)] (jrv 1 x) σ' := by
  refine jMC_of (kd := 1) (by decide) rfl h ?_
  intro X hX
  have hG : jGd X (jE_LL0_place F) jtb_LL0_place := jGd_of hX jtk_LL0_place jnil jnil jnil (jcon (jsV jlk_X11_193 ⟨rfl, rfl⟩ (jad_LL0_quotientOf F sh hs)) jnil) hs
  exact jRf_by (jex_ok hG (cs := []) jnil 23 0 [some (jmr 0), some (jmi v1), none, none] [] σ0) rfl
theorem jad_LL0_place (F : Nat) (sh : List jxC) (hs : jHas sh jc_L0) : jAdV (jca_LL0_place F) yX11_place cX11_place 4 1 1 22 1 sh := by
  intro as σ k x σ' h
  unfold jca_LL0_place at h
  split at h
  · rename_i t0 v1
    obtain ⟨g0, hh1⟩ := jcond h
    obtain rfl := jbeq g0
    obtain ⟨r, h1, h2⟩ := Option.bind_eq_some_iff.mp hh1
    exact ⟨_, _, h2, ⟨_, _, _, _, _, _, rfl, rfl, (hs _ (jkf_in (l := jc_L0) (idx := 0) rfl)).1, rfl⟩, jmet_LL0_place F  sh hs σ v1 r.1 r.2 h1⟩
  · cases h
def jtb_LL0_count : List (Nat × Instr) := [(0, .iload_n 1), (1, .tableswitch 140 0 5 #[39, 61, 83, 88, 110, 132]), (40, .aload_n 0), (41, .getfield 48), (44, .ifnonnull 7), (47, .iconst 0), (48, .goto 13), (61, .ireturn), (62, .aload_n 0), (63, .getfield 48), (66, .ifnonnull 7), (69, .iconst 0), (70, .goto 13), (83, .ireturn), (84, .aload_n 0), (85, .getfield 25), (88, .ireturn), (89, .aload_n 0), (90, .getfield 48), (93, .ifnonnull 7), (96, .iconst 0), (97, .goto 13), (110, .ireturn), (111, .aload_n 0), (112, .getfield 48), (115, .ifnonnull 7), (118, .iconst 0), (119, .goto 13), (132, .ireturn), (133, .aload_n 0), (134, .getfield 10), (137, .invokevirtual 37), (140, .ireturn), (141, .iconst (-1)), (142, .ireturn)]
theorem jtk_LL0_count : jtok cX11_count jtb_LL0_count = true := by decide +kernel
def jE_LL0_count (F : Nat) : jxE := jmk [(10, 11, 0), (25, 11, 3), (48, 11, 2)] [] [] [(37, (1, false), jca_Tape_size F)] 1 jc_L0
set_option maxRecDepth 100000 in
set_option maxHeartbeats 4000000 in
theorem jmet_LL0_count (F : Nat) (sh : List jxC) (hs : jHas sh jc_L0) (σ0 : jxS) (v1 : Int) (x : Int) (σ' : jxS) (h : LL0_count F σ0 v1 = some (x, σ')) : jMC yX11_count cX11_count 2 (jrt 1) 1 20 sh σ0 [(jmr 0), (jmi v1)] (jrv 1 x) σ' := by
  refine jMC_of (kd := 1) (by decide) rfl h ?_
  intro X hX
  have hG : jGd X (jE_LL0_count F) jtb_LL0_count := jGd_of hX jtk_LL0_count (jcon jfl_X11_10 (jcon jfl_X11_25 (jcon jfl_X11_48 jnil))) jnil jnil (jcon (jsV jlk_X11_37 ⟨rfl, rfl⟩ (jad_Tape_size F sh (jh_L0T hs))) jnil) hs
  exact jRf_by (jex_ok hG (cs := []) jnil 54 0 [some (jmr 0), some (jmi v1)] [] σ0) rfl
theorem jad_LL0_count (F : Nat) (sh : List jxC) (hs : jHas sh jc_L0) : jAdV (jca_LL0_count F) yX11_count cX11_count 2 1 1 20 1 sh := by
  intro as σ k x σ' h
  unfold jca_LL0_count at h
  split at h
  · rename_i t0 v1
    obtain ⟨g0, hh1⟩ := jcond h
    obtain rfl := jbeq g0
    obtain ⟨r, h1, h2⟩ := Option.bind_eq_some_iff.mp hh1
    exact ⟨_, _, h2, ⟨_, _, _, _, _, _, rfl, rfl, (hs _ (jkf_in (l := jc_L0) (idx := 0) rfl)).1, rfl⟩, jmet_LL0_count F  sh hs σ v1 r.1 r.2 h1⟩
  · cases h
def jtb_Positions_waysOf : List (Nat × Instr) := [(0, .iload_n 1), (1, .iconst 1), (2, .if_icmp .lt 23), (5, .iload_n 1), (6, .bipush 13), (8, .if_icmp .gt 17), (11, .iload_n 2), (12, .ifCond .lt 13), (15, .iload_n 2), (16, .bipush 22), (18, .if_icmp .gt 7), (21, .iconst 1), (22, .goto 4), (25, .iconst 0), (26, .istore_n 3), (27, .iload_n 3), (28, .ifCond .eq 17), (31, .aload_n 0), (32, .getfield 9), (35, .iload_n 1), (36, .bipush 23), (38, .imul), (39, .iload_n 2), (40, .iadd), (41, .iaload), (42, .goto 4), (45, .iconst 0), (46, .ireturn)]
theorem jtk_Positions_waysOf : jtok cX5_waysOf jtb_Positions_waysOf = true := by decide +kernel
set_option maxRecDepth 100000 in
theorem jfl_X5_9 : jFl RX5 9 5 0 := ⟨RX5, TX5, 6, tyX5, rfl, by decide, jin_X5, tyX5_ok, nmX5, jow_X5, (Or.inl (jTB_at 469 rfl rfl))⟩
def jE_Positions_waysOf (F : Nat) : jxE := jmk [(9, 5, 0)] [] [] [] 1 jc_P
set_option maxRecDepth 100000 in
set_option maxHeartbeats 4000000 in
theorem jmet_Positions_waysOf (F : Nat) (sh : List jxC) (hs : jHas sh jc_P) (σ0 : jxS) (v1 : Int) (v2 : Int) (x : Int) (σ' : jxS) (h : Positions_waysOf F σ0 v1 v2 = some (x, σ')) : jMC yX5_waysOf cX5_waysOf 4 (jrt 1) 0 0 sh σ0 [(jmr 22), (jmi v1), (jmi v2)] (jrv 1 x) σ' := by
  refine jMC_of (kd := 1) (by decide) rfl h ?_
  intro X hX
  have hG : jGd X (jE_Positions_waysOf F) jtb_Positions_waysOf := jGd_of hX jtk_Positions_waysOf (jcon jfl_X5_9 jnil) jnil jnil jnil hs
  have rr26 : ∀ (v1 v2 t0 : Int) (σ : jxS), jRf X (Positions_waysOf_c26 F v1 v2 t0 σ) 26 [some (jmr 22), some (jmi v1), some (jmi v2), none] [(jmi t0)] σ := by
    intro  v1 v2 t0 σ
    exact jRf_by (jex_ok hG (cs := []) jnil 31 26 [some (jmr 22), some (jmi v1), some (jmi v2), none] [(jmi t0)] σ) rfl
  have rr25 : ∀ (v1 v2 : Int) (σ : jxS), jRf X (Positions_waysOf_c25 F v1 v2 σ) 25 [some (jmr 22), some (jmi v1), some (jmi v2), none] [] σ := by
    intro  v1 v2 σ
    exact jRf_by (jex_ok hG (cs := [(26, [some (.inr (some 22)), some (.inl 0), some (.inl 0), none], [(.inl 0)], fun xs σ => match xs with
      | [v1, v2, t0] => Positions_waysOf_c26 F v1 v2 t0 σ
      | _ => none)]) (jcon (jl2 (fun y0 y1 => jl1 (fun y2 => (fun σ => rr26 y0 y1 y2 σ)))) jnil) 31 25 [some (jmr 22), some (jmi v1), some (jmi v2), none] [] σ) rfl
  exact jRf_by (jex_ok hG (cs := [(25, [some (.inr (some 22)), some (.inl 0), some (.inl 0), none], [], fun xs σ => match xs with
      | [v1, v2] => Positions_waysOf_c25 F v1 v2 σ
      | _ => none), (26, [some (.inr (some 22)), some (.inl 0), some (.inl 0), none], [(.inl 0)], fun xs σ => match xs with
      | [v1, v2, t0] => Positions_waysOf_c26 F v1 v2 t0 σ
      | _ => none)]) (jcon (jl2 (fun y0 y1 => jl0 (fun σ => rr25 y0 y1 σ))) (jcon (jl2 (fun y0 y1 => jl1 (fun y2 => (fun σ => rr26 y0 y1 y2 σ)))) jnil)) 31 0 [some (jmr 22), some (jmi v1), some (jmi v2), none] [] σ0) rfl
theorem jad_Positions_waysOf (F : Nat) (sh : List jxC) (hs : jHas sh jc_P) : jAdV (jca_Positions_waysOf F) yX5_waysOf cX5_waysOf 4 1 0 0 2 sh := by
  intro as σ k x σ' h
  unfold jca_Positions_waysOf at h
  split at h
  · rename_i t0 v1 v2
    obtain ⟨g0, hh1⟩ := jcond h
    obtain rfl := jbeq g0
    obtain ⟨r, h1, h2⟩ := Option.bind_eq_some_iff.mp hh1
    exact ⟨_, _, h2, ⟨_, _, _, _, _, _, rfl, rfl, (hs _ (jkf_in (l := jc_P) (idx := 22) rfl)).1, rfl⟩, jmet_Positions_waysOf F  sh hs σ v1 v2 r.1 r.2 h1⟩
  · cases h
def jtb_Positions_countWays : List (Nat × Instr) := [(0, .aload_n 0), (1, .getfield 9), (4, .sipush 299), (7, .iconst 1), (8, .iastore), (9, .bipush 12), (11, .istore_n 1), (12, .iload_n 1), (13, .iconst 1), (14, .if_icmp .lt 62), (17, .iconst 0), (18, .istore_n 2), (19, .iload_n 2), (20, .bipush 22), (22, .if_icmp .gt 48), (25, .iload_n 2), (26, .iload_n 1), (27, .if_icmp .ge 7), (30, .iconst 0), (31, .goto 11), (34, .aload_n 0), (35, .iload_n 1), (36, .iload_n 2), (37, .iload_n 1), (38, .isub), (39, .invokevirtual 37), (42, .istore_n 3), (43, .aload_n 0), (44, .getfield 9), (47, .iload_n 1), (48, .bipush 23), (50, .imul), (51, .iload_n 2), (52, .iadd), (53, .aload_n 0), (54, .iload_n 1), (55, .iconst 1), (56, .iadd), (57, .iload_n 2), (58, .invokevirtual 37), (61, .iload_n 3), (62, .iadd), (63, .iastore), (64, .iinc 2 1), (67, .goto (-48)), (70, .iinc 1 (-1)), (73, .goto (-61)), (76, .iconst 0), (77, .istore_n 1), (78, .iload_n 1), (79, .bipush 22), (81, .if_icmp .gt 30), (84, .aload_n 0), (85, .getfield 15), (88, .iload_n 1), (89, .iconst 1), (90, .iadd), (91, .aload_n 0), (92, .getfield 15), (95, .iload_n 1), (96, .iaload), (97, .aload_n 0), (98, .iconst 1), (99, .iload_n 1), (100, .invokevirtual 37), (103, .iadd), (104, .iastore), (105, .iinc 1 1), (108, .goto (-30)), (111, .iconst 1), (112, .istore_n 1), (113, .iload_n 1), (114, .bipush 12), (116, .if_icmp .gt 33), (119, .aload_n 0), (120, .getfield 18), (123, .iload_n 1), (124, .iconst 1), (125, .iadd), (126, .aload_n 0), (127, .getfield 18), (130, .iload_n 1), (131, .iaload), (132, .aload_n 0), (133, .getfield 15), (136, .bipush 23), (138, .iload_n 1), (139, .isub), (140, .iaload), (141, .iadd), (142, .iastore), (143, .iinc 1 1), (146, .goto (-33)), (149, .return_)]
theorem jtk_Positions_countWays : jtok cX5_countWays jtb_Positions_countWays = true := by decide +kernel
set_option maxRecDepth 100000 in
theorem jlk_X5_37 : jLkV RX5 37 yX5_waysOf cX5_waysOf 4 1 2 := ⟨(jTB_at 430 rfl rfl), (jTB_at 432 rfl rfl), (jTB_at 13 rfl rfl), (jTB_at 123 rfl rfl), jTB_at 433 rfl rfl, ⟨by decide, by decide, by decide +kernel⟩⟩
def jE_Positions_countWays (F : Nat) : jxE := jmk [(9, 5, 0), (15, 5, 1), (18, 5, 2)] [] [] [(37, (3, false), jca_Positions_waysOf F)] 0 jc_P
set_option maxRecDepth 100000 in
set_option maxHeartbeats 4000000 in
theorem jmet_Positions_countWays (F : Nat) (sh : List jxC) (hs : jHas sh jc_P) (σ0 : jxS) (x : Int) (σ' : jxS) (h : Positions_countWays F σ0 = some (x, σ')) : jMC yX5_countWays cX5_countWays 4 (jrt 0) 1 23 sh σ0 [(jmr 22)] (jrv 0 x) σ' := by
  refine jMC_of (kd := 0) (by decide) rfl h ?_
  intro X hX
  have hG : jGd X (jE_Positions_countWays F) jtb_Positions_countWays := jGd_of hX jtk_Positions_countWays (jcon jfl_X5_9 (jcon jfl_X5_15 (jcon jfl_X5_18 jnil))) jnil jnil (jcon (jsV jlk_X5_37 ⟨rfl, rfl⟩ (jad_Positions_waysOf F sh hs)) jnil) hs
  have rr113 : ∀ (fu : Nat) (v1 : Int) (σ : jxS), jRf X (Positions_countWays_c113 F fu v1 σ) 113 [some (jmr 22), some (jmi v1), none, none] [] σ := by
    intro  fu
    induction fu with
    | zero => intros; exact jRf_none
    | succ fu ih =>
      intro v1 σ
      exact jRf_by (jex_ok hG (cs := [(113, [some (.inr (some 22)), some (.inl 0), none, none], [], fun xs σ => match xs with
      | [v1] => (Positions_countWays_c113 F fu) v1 σ
      | _ => none)]) (jcon (jl1 (fun y0 => jl0 (fun σ => ih y0 σ))) jnil) 97 113 [some (jmr 22), some (jmi v1), none, none] [] σ) rfl
  have rr78 : ∀ (fu : Nat) (v1 : Int) (σ : jxS), jRf X (Positions_countWays_c78 F fu v1 σ) 78 [some (jmr 22), some (jmi v1), none, none] [] σ := by
    intro  fu
    induction fu with
    | zero => intros; exact jRf_none
    | succ fu ih =>
      intro v1 σ
      exact jRf_by (jex_ok hG (cs := [(78, [some (.inr (some 22)), some (.inl 0), none, none], [], fun xs σ => match xs with
      | [v1] => (Positions_countWays_c78 F fu) v1 σ
      | _ => none), (113, [some (.inr (some 22)), some (.inl 0), none, none], [], fun xs σ => match xs with
      | [v1] => Positions_countWays_c113 F F v1 σ
      | _ => none)]) (jcon (jl1 (fun y0 => jl0 (fun σ => ih y0 σ))) (jcon (jl1 (fun y0 => jl0 (fun σ => rr113 F y0 σ))) jnil)) 97 78 [some (jmr 22), some (jmi v1), none, none] [] σ) rfl
  have rr42 : ∀ (k12 : Int → jxS → Option jxR) (h12 : ∀ v1 σ, jRf X (k12 v1 σ) 12 [some (jmr 22), some (jmi v1), none, none] [] σ) (k19 : Int → Int → jxS → Option jxR) (h19 : ∀ v1 v2 σ, jRf X (k19 v1 v2 σ) 19 [some (jmr 22), some (jmi v1), some (jmi v2), none] [] σ) (v1 v2 t0 : Int) (σ : jxS), jRf X (Positions_countWays_c42 F k12 k19 v1 v2 t0 σ) 42 [some (jmr 22), some (jmi v1), some (jmi v2), none] [(jmi t0)] σ := by
    intro k12 h12 k19 h19 v1 v2 t0 σ
    exact jRf_by (jex_ok hG (cs := [(19, [some (.inr (some 22)), some (.inl 0), some (.inl 0), none], [], fun xs σ => match xs with
      | [v1, v2] => k19 v1 v2 σ
      | _ => none)]) (jcon (jl2 (fun y0 y1 => jl0 (fun σ => h19 y0 y1 σ))) jnil) 97 42 [some (jmr 22), some (jmi v1), some (jmi v2), none] [(jmi t0)] σ) rfl
  have rr19 : ∀ (k12 : Int → jxS → Option jxR) (h12 : ∀ v1 σ, jRf X (k12 v1 σ) 12 [some (jmr 22), some (jmi v1), none, none] [] σ) (fu : Nat) (v1 v2 : Int) (σ : jxS), jRf X (Positions_countWays_c19 F k12 fu v1 v2 σ) 19 [some (jmr 22), some (jmi v1), some (jmi v2), none] [] σ := by
    intro k12 h12 fu
    induction fu with
    | zero => intros; exact jRf_none
    | succ fu ih =>
      intro v1 v2 σ
      exact jRf_by (jex_ok hG (cs := [(12, [some (.inr (some 22)), some (.inl 0), none, none], [], fun xs σ => match xs with
      | [v1] => k12 v1 σ
      | _ => none), (42, [some (.inr (some 22)), some (.inl 0), some (.inl 0), none], [(.inl 0)], fun xs σ => match xs with
      | [v1, v2, t0] => Positions_countWays_c42 F k12 (Positions_countWays_c19 F k12 fu) v1 v2 t0 σ
      | _ => none)]) (jcon (jl1 (fun y0 => jl0 (fun σ => h12 y0 σ))) (jcon (jl2 (fun y0 y1 => jl1 (fun y2 => (fun σ => rr42 _ h12 _ ih y0 y1 y2 σ)))) jnil)) 97 19 [some (jmr 22), some (jmi v1), some (jmi v2), none] [] σ) rfl
  have rr12 : ∀ (fu : Nat) (v1 : Int) (σ : jxS), jRf X (Positions_countWays_c12 F fu v1 σ) 12 [some (jmr 22), some (jmi v1), none, none] [] σ := by
    intro  fu
    induction fu with
    | zero => intros; exact jRf_none
    | succ fu ih =>
      intro v1 σ
      exact jRf_by (jex_ok hG (cs := [(19, [some (.inr (some 22)), some (.inl 0), some (.inl 0), none], [], fun xs σ => match xs with
      | [v1, v2] => Positions_countWays_c19 F (Positions_countWays_c12 F fu) F v1 v2 σ
      | _ => none), (78, [some (.inr (some 22)), some (.inl 0), none, none], [], fun xs σ => match xs with
      | [v1] => Positions_countWays_c78 F F v1 σ
      | _ => none)]) (jcon (jl2 (fun y0 y1 => jl0 (fun σ => rr19 _ ih F y0 y1 σ))) (jcon (jl1 (fun y0 => jl0 (fun σ => rr78 F y0 σ))) jnil)) 97 12 [some (jmr 22), some (jmi v1), none, none] [] σ) rfl
  exact jRf_by (jex_ok hG (cs := [(12, [some (.inr (some 22)), some (.inl 0), none, none], [], fun xs σ => match xs with
      | [v1] => Positions_countWays_c12 F F v1 σ
      | _ => none)]) (jcon (jl1 (fun y0 => jl0 (fun σ => rr12 F y0 σ))) jnil) 97 0 [some (jmr 22), none, none, none] [] σ0) rfl
theorem jad_Positions_countWays (F : Nat) (sh : List jxC) (hs : jHas sh jc_P) : jAdV (jca_Positions_countWays F) yX5_countWays cX5_countWays 4 0 1 23 0 sh := by
  intro as σ k x σ' h
  unfold jca_Positions_countWays at h
  split at h
  · rename_i t0
    obtain ⟨g0, hh1⟩ := jcond h
    obtain rfl := jbeq g0
    obtain ⟨r, h1, h2⟩ := Option.bind_eq_some_iff.mp hh1
    exact ⟨_, _, h2, ⟨_, _, _, _, _, _, rfl, rfl, (hs _ (jkf_in (l := jc_P) (idx := 22) rfl)).1, rfl⟩, jmet_Positions_countWays F  sh hs σ  r.1 r.2 h1⟩
  · cases h
