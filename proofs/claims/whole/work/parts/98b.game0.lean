/-! LastLoses.game where there is no board and the text fails. -/
def LL0_game (F : Nat) (σ : jxS) : Option jxR :=
  (Reader_readText F σ).bind fun r4 =>
  (Tape_cutTo F r4.2 0).bind fun r13 =>
  if 0 < jw r4.1 then
    none
  else
    some (r4.1, r13.2)
def jca_LL0_game (F : Nat) : jxA := fun as σ k => match as with
  | [.inr (.inr (.inl t0))] => bif Nat.beq t0 0 then (LL0_game F σ).bind (fun r => k (some (jmi r.1)) r.2) else none
  | _ => none
def jtb_LL0_game : List (Nat × Instr) := [(0, .aload_n 0), (1, .getfield 21), (4, .invokevirtual 45), (7, .istore_n 1), (8, .aload_n 0), (9, .getfield 10), (12, .iconst 0), (13, .invokevirtual 41), (16, .pop), (17, .iload_n 1), (18, .ifCond .le 32), (21, .aload_n 0), (22, .getfield 48), (25, .ifnonnull 14), (28, .aload_n 0), (50, .iload_n 1), (51, .ireturn)]
theorem jtk_LL0_game : jtok cX11_game jtb_LL0_game = true := by decide +kernel
def jE_LL0_game (F : Nat) : jxE := jmk [(10, 11, 0), (21, 11, 1), (48, 11, 2)] [] [] [(41, (2, false), jca_Tape_cutTo F), (45, (1, false), jca_Reader_readText F)] 1 jc_L0
set_option maxRecDepth 100000 in
set_option maxHeartbeats 4000000 in
theorem jmet_LL0_game (F : Nat) (sh : List jxC) (hs : jHas sh jc_L0) (σ0 : jxS) (x : Int) (σ' : jxS) (h : LL0_game F σ0 = some (x, σ')) : jMC yX11_game cX11_game 2 (jrt 1) 8 189 sh σ0 [(jmr 0)] (jrv 1 x) σ' := by
  refine jMC_of (kd := 1) (by decide) rfl h ?_
  intro X hX
  have hG : jGd X (jE_LL0_game F) jtb_LL0_game := jGd_of hX jtk_LL0_game (jcon jfl_X11_10 (jcon jfl_X11_21 (jcon jfl_X11_48 jnil))) jnil jnil (jcon (jsV jlk_X11_41 ⟨rfl, rfl⟩ (jad_Tape_cutTo F sh (jh_L0T hs))) (jcon (jsV jlk_X11_45 ⟨rfl, rfl⟩ (jad_Reader_readText F sh (jh_L0T hs))) jnil)) hs
  exact jRf_by (jex_ok hG (cs := []) jnil 29 0 [some (jmr 0), none] [] σ0) rfl
theorem jad_LL0_game (F : Nat) (sh : List jxC) (hs : jHas sh jc_L0) : jAdV (jca_LL0_game F) yX11_game cX11_game 2 1 8 189 0 sh := by
  intro as σ k x σ' h
  unfold jca_LL0_game at h
  split at h
  · rename_i t0
    obtain ⟨g0, hh1⟩ := jcond h
    obtain rfl := jbeq g0
    obtain ⟨r, h1, h2⟩ := Option.bind_eq_some_iff.mp hh1
    exact ⟨_, _, h2, ⟨_, _, _, _, _, _, rfl, rfl, (hs _ (jkf_in (l := jc_L0) (idx := 0) rfl)).1, rfl⟩, jmet_LL0_game F  sh hs σ  r.1 r.2 h1⟩
  · cases h
