/-! Contracts: the constructors that go on; the first game. -/
/-- cells as a world has them, decided -/
def jPfb (ci f kd : Nat) : Bool := match vwCl[ci]? with
  | some (_, T, _) => (match (T f).2.2.2 with
    | false => decide (parseFieldDescriptor (T f).2.2.1 = some (jpt kd))
    | true => false)
  | none => false
theorem jPfb_ok {ci f kd : Nat} (h : jPfb ci f kd = true) : jPf ci f kd := by
  unfold jPfb at h
  split at h
  · rename_i C T N hv
    split at h
    · rename_i hf
      exact ⟨C, T, N, hv, hf, of_decide_eq_true h⟩
    · cases h
  · cases h
def jFsb (ci f : Nat) (fks : List jxF) : Bool := match fks with
  | [] => true
  | .inl kd :: t => (Nat.ble 3 kd || jPfb ci f kd) && jFsb ci (f + 1) t
  | _ :: t => jFsb ci (f + 1) t
theorem jFsb_ok {ci : Nat} : ∀ {fks : List jxF} {b : Nat}, jFsb ci b fks = true → ∀ (f kd : Nat), kd ≤ 2 → fks[f]? = some (.inl kd) → jPf ci (b + f) kd
  | [], b, _, f, kd, _, h => by simp at h
  | .inl k :: t, b, hb, f, kd, hk, h => by
    simp only [jFsb, Bool.and_eq_true, Bool.or_eq_true] at hb
    match f, h with
    | 0, h =>
      simp only [List.getElem?_cons_zero, Option.some.injEq, Sum.inl.injEq] at h
      subst h
      rcases hb.1 with q | q
      · have := jble q; omega
      · exact jPfb_ok q
    | f + 1, h =>
      have := jFsb_ok hb.2 f kd hk (by simpa using h)
      rw [show b + (f + 1) = b + 1 + f by omega]
      exact this
  | .inr r :: t, b, hb, f, kd, hk, h => by
    simp only [jFsb] at hb
    match f, h with
    | 0, h => simp at h
    | f + 1, h =>
      have := jFsb_ok hb f kd hk (by simpa using h)
      rw [show b + (f + 1) = b + 1 + f by omega]
      exact this
def jHasB (sh : List jxC) (ce : List (Nat × jxC)) : Bool := ce.all (fun q => match q.2 with
  | .inr (.inr tb) => (Nat.beq q.1 1000 && decide (tb = jtab0)) || (Nat.beq q.1 1001 && decide (tb = jtab1))
  | .inr (.inl (_, n)) => decide (sh[q.1]? = some q.2) && Nat.ble n 100000
  | .inl (ci, fks) => decide (sh[q.1]? = some q.2) && jFsb ci 0 fks)
theorem jHas_of {sh : List jxC} {ce : List (Nat × jxC)} (h : jHasB sh ce = true) : jHas sh ce := by
  intro q hq
  have h1 := List.all_eq_true.mp h q hq
  obtain ⟨id, c⟩ := q
  match c, h1 with
  | .inr (.inr tb), h1 =>
    simp only [Bool.or_eq_true, Bool.and_eq_true, decide_eq_true_eq] at h1
    exact h1.imp (fun z => ⟨jbeq z.1, z.2⟩) (fun z => ⟨jbeq z.1, z.2⟩)
  | .inr (.inl (t, n)), h1 =>
    simp only [Bool.and_eq_true, decide_eq_true_eq] at h1
    have := jble h1.2
    exact ⟨h1.1, by omega⟩
  | .inl (ci, fks), h1 =>
    simp only [Bool.and_eq_true, decide_eq_true_eq] at h1
    exact ⟨h1.1, fun f kd hk hf => by have := jFsb_ok h1.2 f kd hk hf; rwa [Nat.zero_add] at this⟩
theorem jhs_L0 : jHas jshL0 jc_L0 := jHas_of (by decide +kernel)
theorem jhs_L1 : jHas jshL1 jc_L1 := jHas_of (by decide +kernel)
theorem jhs_M : jHas jshM jc_M := jHas_of (by decide +kernel)
theorem jhs_P : jHas jshB2 jc_P := jHas_of (by decide +kernel)
def jgJB (n : Nat) (sh : List jxC) : Bool := sh.all (fun c => match c with
  | .inl (_, fks) => jgofs n fks
  | .inr (.inl (t, _)) => Nat.ble t 3
  | .inr (.inr _) => true)
theorem jgJ_of {sh : List jxC} {σ : jxS} (h : jgJB sh.length sh = true) (hz : ∀ a, sh.length ≤ a → ∀ j, σ a j = 0) : jgJ sh σ := by
  refine ⟨fun i c hi => ?_, hz⟩
  have h1 := List.all_eq_true.mp h c (List.mem_of_getElem? hi)
  match c, h1 with
  | .inl (ci, fks), h1 => exact h1
  | .inr (.inl (0, n)), _ => trivial
  | .inr (.inl (1, n)), _ => trivial
  | .inr (.inl (2, n)), _ => trivial
  | .inr (.inl (3, n)), _ => trivial
  | .inr (.inl (t + 4, n)), h1 => have := jble h1; omega
  | .inr (.inr tb), _ => trivial
theorem jJ_L : jgJ jshL jz := jgJ_of (by decide +kernel) (fun _ _ _ => rfl)
theorem jJ_N : jgJ jshN jz := jgJ_of (by decide +kernel) (fun _ _ _ => rfl)
theorem jJ_L0 {σ : jxS} (h : ∀ a, 9 ≤ a → ∀ j, σ a j = 0) : jgJ jshL0 σ := jgJ_of (by decide +kernel) h
theorem jJ_B2 {σ : jxS} (h : ∀ a, 29 ≤ a → ∀ j, σ a j = 0) : jgJ jshB2 σ := jgJ_of (by decide +kernel) h
theorem jJ_B0 {σ : jxS} (h : jgJ jshL0 σ) : jgJ jshB0 σ := jgJ_of (by decide +kernel) (fun a (ha : 10 ≤ a) j => h.2 a (show 9 ≤ a by omega) j)
/-- at a method's end -/
theorem jg_fin {p : Program} {l : Launch} {e : Env} {R : Room} {s : State} {m : MethodId} {args : Array Value} {below : List Frame} {meth : Method} {c : Code} {cc : ByteArray} {nL : Nat} {own : String} {D : va_G} {cy : Nat → ClassId} {A : Nat → Prop} {ad : Nat → Nat} {kd ca sl mc ms pc : Nat} {sh sh' : List jxC} {X' : jxX} {v : Option jxV} {σ' σ2 : jxS} {loc : jxL} {st : List jxV} (hE : jgE (p, l, e, R, s, m, args, below, meth, c, cc, nL, own, D, cy, A, ad, sh, kd, ca, sl) X' sh' mc ms) (hv : ∀ ad', v.map (jtoV ad') = v.map (jtoV ad)) (h : jWj X' (jQ X' v σ2) pc loc st σ') : jWj X' (MQ below (jQg D cy A ad sh sh' v σ2) args s mc ms A) pc loc st σ' := by
  obtain ⟨ad', ha, rfl, hca, hsl, hl⟩ := hE
  intro H locs ls hP2 hD2 hS2 hL2 T hT St
  obtain ⟨t, a1, o, b1, b2, ⟨c1, c2, c3⟩, b3⟩ := h H locs ls hP2 hD2 hS2 hL2 T hT St
  exact ⟨t, a1, o, b1, b2, ⟨by rw [c1, hv ad'], ⟨ad', ha, c2, jW_D hD2⟩, c3⟩, b3⟩
/-- a constructor's contract out of a walk -/
theorem jMG_by {y : MethodName} {bytes : ByteArray} {maxL fr lo mc ms stop : Nat} {as : List jxV} {sh sh' : List jxC} {σ σ' σ2 : jxS} {loc' : jxL} (hy : plainName y.cls = true) (hc : Nat.ble (jcat as) maxL = true) (hnm : y.name = "<init>")
    (hW : ∀ X Q, jAt X y bytes fr lo 0 sh → jgI X → jgIn X → (jroom X).cells = mc ∧ (jroom X).slots = ms → jgW X Q (stop, loc', [], sh', σ', mc, ms) → jgW X Q (0, jpad maxL as, [], sh, σ, 0, 0))
    (hk : ∀ X, jAt X y bytes fr lo 0 sh' → jWj X (jQ X none σ2) stop loc' [] σ') : jMG y bytes maxL 0 fr lo mc ms sh σ as none sh' σ2 := by
  intro l D cy A ad
  refine Met.ofW (cc := bytes) (maxL := maxL) (ret := jrt 0) hy rfl ?_
  intro p e s m args below meth c s₁ B hml hv
  obtain ⟨⟨rfl, hP1, hD, hK, hA, hBG⟩, hAO⟩ := hv
  have hts := atoms_spec (ws := .code y bytes maxL (jrt 0) :: jTB) B.pre
  have hown : s.vm.findClass y.cls = some m.cls := findClass_of_methodNamed B.named
  have hin : meth.name = "<init>" := by rw [← hnm]; exact (name_of_methodNamed B.named B.method).1
  have hX0 : jOK (p, l, e, { frames := fr, cells := mc, slots := ms, locals := lo }, s, m, (as.map (jtoV ad)).toArray, below, meth, c, bytes, maxL, y.cls, D, cy, A, ad, sh, 0, 0, 0) := ⟨B.exec, B.bytes, hml, hown, fun w hw => hts w (List.mem_cons_of_mem _ hw), B.notSynchronized, hK, hA, hBG, B.returns, Nat.zero_le _, Nat.zero_le _⟩
  have k := hW _ (MQ below (jQg D cy A ad sh sh' none σ2) (as.map (jtoV ad)).toArray s mc ms A) ⟨hX0, rfl, rfl, ⟨rfl, rfl⟩, rfl, rfl⟩ hAO hin ⟨rfl, rfl⟩ (fun X hE => jg_fin hE (fun _ => rfl) (hk X ⟨hE.ok hX0, hE.cc, hE.own, by rw [hE.room]; exact ⟨rfl, rfl⟩, hE.shp, hE.kd⟩)) _ (jgE.refl hX0 rfl rfl)
  rw [lg_entry_eq]
  have hl := lv_entry (as.map (jtoV ad)) (n := maxL) (by rw [jcat_sl]; exact jble hc)
  exact k s.heap [] _ hP1 hD va_S.rf ⟨hl.1, hl.2.1, jpad_len as maxL, fun i v hv => hl.2.2 (i, jtoV ad v) (by simpa using jpad_get (ad := ad) as maxL 0 i v (jble hc) hv)⟩
theorem jtl_use {X : jxX} {y : MethodName} {bytes : ByteArray} {fr lo pc : Nat} {sh : List jxC} {f : Option jxR} {loc : jxL} {x : Int} {σ σ' : jxS} (hX : jAt X y bytes fr lo 0 sh) (h : jRf X f pc loc [] σ) (e : f = some (x, σ')) : jWj X (jQ X none σ') pc loc [] σ := by
  have k := h x σ' e
  rw [hX.2.2.2.2.2] at k
  exact k

theorem met_M {F : Nat} {σm : jxS} {x : Int} (h : Model_init F jsM1 = some (x, σm)) : jMG yX12_init cX12_init 1 0 1 22 41 59922 jshN jz [jmr 0] none jshM σm :=
  jMG_of (by decide) rfl rfl jgk_Model jgp_Model (jgg_Model jshN) ev_M jJ_N (fun X hX => jtl_use hX (jtl_Model_init F jshM jhs_M X hX jsM1) h)
theorem met_L : jMG yX11_init cX11_init 1 0 2 41 8 284 jshL jz [jmr 0] none jshL0 (jup jz 0 3 0) := jmi_LL _ _ _ _ _ _ _ ev_L jJ_L
theorem met_P {F : Nat} {σ σ' : jxS} {x : Int} (hJ : jgJ jshB1 σ) (h : Positions_init F σ = some (x, σ')) : jMG yX5_init cX5_init 4 0 4 96 6 32989 jshB1 σ [jmr 22] none jshB2 σ' :=
  jMG_of (by decide) rfl rfl jgk_Positions jgp_Positions (jgg_Positions jshB1) (ev_P σ) hJ (fun X hX => jtl_use hX (jtl_Positions_init F jshB2 jhs_P X hX σ) h)
set_option maxRecDepth 100000 in
set_option maxHeartbeats 4000000 in
theorem met_B {F : Nat} {σ σ3 : jxS} {x : Int} (hJ : jgJ jshB0 σ) (h : Positions_init F σ = some (x, σ3)) (hJ3 : jgJ jshB2 σ3) : jMG yX0_init cX0_init 2 0 5 119 68 51001 jshB0 σ [jmr 9] none jshB3 (jsB σ3) := by
  refine jMG_by (stop := 148) (loc' := [some (jmr 9), some (jmi 7)]) (σ' := jsB σ3) (by decide) rfl rfl (fun X0 Q hA hI hIn hR k => ?_) (fun X hX => jw_vret hX.1 hX.2.2.2.2.2 (by rw [hX.2.1]; decide +kernel))
  have hG := jgg_Board jshB0 X0 hA hI hIn hR
  have tk : jgtok (jcc X0) jgt_Board = true := by rw [hA.2.1]; exact jgk_Board
  have k2 := (jgn_ok jgp_Board 400 34 _ _ jshB2 σ3 19 33873 (ev_B σ3) hJ3).2 X0 Q hG tk k
  obtain ⟨⟨-, hJ1⟩, k3⟩ := jgn_ok jgp_Board 400 0 _ [] jshB0 σ 0 0 (ev_A σ) hJ
  refine k3 X0 Q hG tk (fun X hE => ?_)
  obtain ⟨g1, g2, g3, g4, g5, g6, g7, g8⟩ := hE.all hG
  exact jw_ctor (as := []) (rest := [jmr 22, jmr 9]) (id := 22) (idx := 27) (n := 0) g1 g2 g4 g5 (by rw [g7, hA.2.2.1]; exact jli_X0_27) (by rw [g8, hA.2.2.2.1.1, hA.2.2.2.1.2]; exact ⟨jble rfl, jble rfl⟩) (by rw [g8, hR.1]; exact jble rfl) (by rw [g8, hR.2]; exact jble rfl) rfl (met_P hJ1 h) (by decide +kernel) (by decide) rfl rfl (by rw [g6, hA.2.1]; decide +kernel) (fun X' hE' => k2 X' (hE.trans hE'))
set_option maxRecDepth 100000 in
theorem jnw_X11_52 : jNw RX11 52 0 [.inr none, .inr none, .inr none, .inr none, .inr none, .inr none, .inr none, .inr none, .inl 0, .inl 0] := by
  have h : ∀ j, j < 10 → defaultValue (tyX0 j) = vp_V (([.inr none, .inr none, .inr none, .inr none, .inr none, .inr none, .inr none, .inr none, .inl 0, .inl 0] : List jxF).map jgdv) j := by
    intro j hj
    match j, hj with
    | 0, _ => rfl
    | 1, _ => rfl
    | 2, _ => rfl
    | 3, _ => rfl
    | 4, _ => rfl
    | 5, _ => rfl
    | 6, _ => rfl
    | 7, _ => rfl
    | 8, _ => rfl
    | 9, _ => rfl
    | k + 10, h => exact absurd h (by omega)
  exact ⟨RX0, TX0, tyX0, rfl, jin_X0, tyX0_ok, (jTB_at 354 rfl rfl), (jTB_at 355 rfl rfl), (jTB_at 120 rfl rfl), h, rfl⟩
set_option maxRecDepth 100000 in
theorem jli_X11_54 : jLkI RX11 54 yX0_init cX0_init 2 0 := ⟨Or.inl (jTB_at 356 rfl rfl), (jTB_at 357 rfl rfl), (jTB_at 120 rfl rfl), (jTB_at 358 rfl rfl), rfl, ⟨by decide, by decide, by decide +kernel⟩⟩
set_option maxRecDepth 100000 in
theorem jpf_X11_48 : jPF RX11 48 11 2 (.object "LastLoses$Board") false := ⟨RX11, TX11, 4, tyX11, rfl, by decide, jin_X11, tyX11_ok, nmX11, jow_X11, (jTB_at 200 rfl rfl), by decide +kernel, rfl, rfl⟩
theorem jdg_0 : decode cX11_game 0 = .ok (.aload_n 0, 1) := by decide +kernel
theorem jdg_1 : decode cX11_game 1 = .ok (.getfield 21, 3) := by decide +kernel
theorem jdg_4 : decode cX11_game 4 = .ok (.invokevirtual 45, 3) := by decide +kernel
theorem jdg_7 : decode cX11_game 7 = .ok (.istore_n 1, 1) := by decide +kernel
theorem jdg_8 : decode cX11_game 8 = .ok (.aload_n 0, 1) := by decide +kernel
theorem jdg_9 : decode cX11_game 9 = .ok (.getfield 10, 3) := by decide +kernel
theorem jdg_12 : decode cX11_game 12 = .ok (.iconst 0, 1) := by decide +kernel
theorem jdg_13 : decode cX11_game 13 = .ok (.invokevirtual 41, 3) := by decide +kernel
theorem jdg_16 : decode cX11_game 16 = .ok (.pop, 1) := by decide +kernel
theorem jdg_17 : decode cX11_game 17 = .ok (.iload_n 1, 1) := by decide +kernel
theorem jdg_18 : decode cX11_game 18 = .ok (.ifCond .le 32, 3) := by decide +kernel
theorem jdg_21 : decode cX11_game 21 = .ok (.aload_n 0, 1) := by decide +kernel
theorem jdg_22 : decode cX11_game 22 = .ok (.getfield 48, 3) := by decide +kernel
theorem jdg_25 : decode cX11_game 25 = .ok (.ifnonnull 14, 3) := by decide +kernel
theorem jdg_28 : decode cX11_game 28 = .ok (.aload_n 0, 1) := by decide +kernel
theorem jdg_29 : decode cX11_game 29 = .ok (.new 52, 3) := by decide +kernel
theorem jdg_32 : decode cX11_game 32 = .ok (.dup, 1) := by decide +kernel
theorem jdg_33 : decode cX11_game 33 = .ok (.invokespecial 54, 3) := by decide +kernel
theorem jdg_36 : decode cX11_game 36 = .ok (.putfield 48, 3) := by decide +kernel
theorem jdg_39 : decode cX11_game 39 = .ok (.aload_n 0, 1) := by decide +kernel
theorem jdg_40 : decode cX11_game 40 = .ok (.getfield 48, 3) := by decide +kernel
theorem jdg_43 : decode cX11_game 43 = .ok (.aload_n 0, 1) := by decide +kernel
theorem jdg_44 : decode cX11_game 44 = .ok (.getfield 21, 3) := by decide +kernel
theorem jdg_47 : decode cX11_game 47 = .ok (.invokevirtual 55, 3) := by decide +kernel
theorem jdg_50 : decode cX11_game 50 = .ok (.iload_n 1, 1) := by decide +kernel
theorem jdg_51 : decode cX11_game 51 = .ok (.ireturn, 1) := by decide +kernel
theorem jcall_use {X : jxX} {sh : List jxC} {idx id maxL kd fr lo n : Nat} {y : MethodName} {bytes : ByteArray} {as : List jxV} {v : Option jxV} {σ σ1 : jxS} (hM : jMC y bytes maxL (jrt kd) fr lo sh σ (jmr id :: as) v σ1) (hX : jOK X) (hsh : jsh X = sh) (hl : jLkV (jown X) idx y bytes maxL kd n) (hr : fr + 1 ≤ (jroom X).frames ∧ 8 + (maxL + 11) + lo ≤ (jroom X).locals) (hs : ∃ (ci : Nat) (fks : List jxF) (T : u_T) (N : Nat), sh[id]? = some (.inl (ci, fks)) ∧ vwCl[ci]? = some (y.cls, T, N)) (hn : as.length = n) : jCall X (.invokevirtual idx) (jmr id :: as) v σ σ1 := by
  obtain ⟨ci, fks, T, N, h1, h2⟩ := hs
  subst hsh
  exact jCallV hX hl hr h1 h2 hn hM
set_option maxRecDepth 100000 in
set_option maxHeartbeats 1000000 in
theorem met_G1 {F n : Nat} {X : jxX} {Q : State → Prop} {σ σ1 σ2 : jxS} {b : Int} (h1 : Reader_readText F σ = some ((n : Int), σ1)) (h2 : Tape_cutTo F σ1 0 = some (b, σ2)) (hn1 : 1 ≤ n) (hn2 : n ≤ 16) (hX0 : jOK X) (hcc : jcc X = cX11_game) (hsh : jsh X = jshL0) (hw : jown X = RX11) (hR : (jroom X).frames = 8 ∧ (jroom X).locals = 189) (k : jWj X Q 29 [some (jmr 0), some (jmi (n : Int))] [jmr 0] σ2) : jWj X Q 0 [some (jmr 0), none] [] σ := by
  have c1 : jCall X (.invokevirtual 45) [jmr 3] (some (jmi (n : Int))) σ σ1 := jcall_use (jmet_Reader_readText F jshL0 (jh_L0T jhs_L0) σ (n : Int) σ1 h1) hX0 hsh (by rw [hw]; exact jlk_X11_45) (by rw [hR.1, hR.2]; exact ⟨jble rfl, jble rfl⟩) ⟨7, _, _, _, rfl, rfl⟩ rfl
  have c2 : jCall X (.invokevirtual 41) [jmr 1, jmi 0] (some (jmi b)) σ1 σ2 := jcall_use (jmet_Tape_cutTo F jshL0 (jh_L0T jhs_L0) σ1 0 b σ2 h2) hX0 hsh (by rw [hw]; exact jlk_X11_41) (by rw [hR.1, hR.2]; exact ⟨jble rfl, jble rfl⟩) ⟨9, _, _, _, rfl, rfl⟩ rfl
  refine jw_lda_n (x := 0) rfl hX0 (by rw [hcc]; exact jdg_0) ?_
  refine jw_get (id := 0) (ci := 11) (f := 1) (fk := .inr (some 3)) (v := jmr 3) hX0 (by rw [hsh]; rfl) rfl (fun _ => rfl) (by rw [hw]; exact jfl_X11_21) (by rw [hcc]; exact jdg_1) ?_
  refine c1 Q 4 _ [] (by rw [hcc]; exact jdg_4) (by decide) ?_
  refine jw_sti_n (n := 1) (x := (n : Int)) hX0 (by decide) (by rw [hcc]; exact jdg_7) ?_
  refine jw_lda_n (x := 0) rfl hX0 (by rw [hcc]; exact jdg_8) ?_
  refine jw_get (id := 0) (ci := 11) (f := 0) (fk := .inr (some 1)) (v := jmr 1) hX0 (by rw [hsh]; rfl) rfl (fun _ => rfl) (by rw [hw]; exact jfl_X11_10) (by rw [hcc]; exact jdg_9) ?_
  refine jw_iconst hX0 (by rw [hcc]; exact jdg_12) ?_
  refine c2 Q 13 _ [] (by rw [hcc]; exact jdg_13) (by decide) ?_
  refine jw_popi hX0 (by rw [hcc]; exact jdg_16) ?_
  refine jw_ldi_n (x := (n : Int)) rfl hX0 (by rw [hcc]; exact jdg_17) ?_
  refine jw_if_le (off := 32) (t := 50) hX0 (by decide) (by rw [hcc]; exact jdg_18) (fun q => absurd q (by rw [jw_id (by omega) (by omega)]; omega)) (fun _ => ?_)
  refine jw_lda_n (x := 0) rfl hX0 (by rw [hcc]; exact jdg_21) ?_
  refine jw_get (id := 0) (ci := 11) (f := 2) (fk := .inr none) (v := jmn) hX0 (by rw [hsh]; rfl) rfl (fun _ => rfl) (by rw [hw]; exact jfl_X11_48) (by rw [hcc]; exact jdg_22) ?_
  refine jw_ifnonnullN (x := 0) (t := 0) hX0 (by rw [hcc]; exact jdg_25) ?_
  exact jw_lda_n (x := 0) rfl hX0 (by rw [hcc]; exact jdg_28) k
set_option maxRecDepth 100000 in
set_option maxHeartbeats 1000000 in
theorem met_G3 {F n : Nat} {X3 : jxX} {σ3 σ5 : jxS} {y : Int} (h5 : Board_begin F (jsB σ3) = some (y, σ5)) (hX3 : jOK X3) (hcc : jcc X3 = cX11_game) (hs3 : jsh X3 = jshL1) (hw : jown X3 = RX11) (hR : (jroom X3).frames = 8 ∧ (jroom X3).locals = 189) (hkd : jkd X3 = 1) : jWj X3 (jQ X3 (some (jmi (n : Int))) σ5) 39 [some (jmr 0), some (jmi (n : Int))] [] (jsB σ3) := by
  have c1 : jCall X3 (.invokevirtual 55) [jmr 9, jmr 3] none (jsB σ3) σ5 := jcall_use (jmet_Board_begin F jshL1 (jh_L1C jhs_L1) (jsB σ3) y σ5 h5) hX3 hs3 (by rw [hw]; exact jlk_X11_55) (by rw [hR.1, hR.2]; exact ⟨jble rfl, jble rfl⟩) ⟨0, _, _, _, rfl, rfl⟩ rfl
  refine jw_lda_n (x := 0) rfl hX3 (by rw [hcc]; exact jdg_39) ?_
  refine jw_get (id := 0) (ci := 11) (f := 2) (fk := .inr (some 9)) (v := jmr 9) hX3 (by rw [hs3]; rfl) rfl (fun _ => rfl) (by rw [hw]; exact jfl_X11_48) (by rw [hcc]; exact jdg_40) ?_
  refine jw_lda_n (x := 0) rfl hX3 (by rw [hcc]; exact jdg_43) ?_
  refine jw_get (id := 0) (ci := 11) (f := 1) (fk := .inr (some 3)) (v := jmr 3) hX3 (by rw [hs3]; rfl) rfl (fun _ => rfl) (by rw [hw]; exact jfl_X11_21) (by rw [hcc]; exact jdg_44) ?_
  refine c1 _ 47 _ [] (by rw [hcc]; exact jdg_47) (by decide) ?_
  refine jw_ldi_n (x := (n : Int)) rfl hX3 (by rw [hcc]; exact jdg_50) ?_
  exact jw_iret hX3 hkd (by rw [hcc]; exact jdg_51)
set_option maxRecDepth 100000 in
set_option maxHeartbeats 1000000 in
theorem met_G2 {F n : Nat} {X : jxX} {Q : State → Prop} {σ2 σ3 : jxS} {x : Int} (hJ : jgJ jshL0 σ2) (h3 : Positions_init F σ2 = some (x, σ3)) (hJ3 : jgJ jshB2 σ3) (hX0 : jOK X) (hI0 : jgI X) (hcc : jcc X = cX11_game) (hsh : jsh X = jshL0) (hN : jgN X = (0, 0)) (hw : jown X = RX11) (hR : (jroom X).frames = 8 ∧ (jroom X).locals = 189) (hC : (jroom X).cells = 69 ∧ (jroom X).slots = 51011) (k : ∀ X3, jgE X X3 jshL1 69 51011 → jWj X3 Q 39 [some (jmr 0), some (jmi (n : Int))] [] (jsB σ3)) : jWj X Q 29 [some (jmr 0), some (jmi (n : Int))] [jmr 0] σ2 := by
  refine jw_new (sh := jshL0) (ca := 0) (sl := 0) hX0 hsh hN hJ (by decide) rfl rfl (by rw [hw]; exact jnw_X11_52) (by rw [hC.1]; exact jble rfl) (by rw [hC.2]; exact jble rfl) (by rw [hcc]; exact jdg_29) (fun X1 hE1 => ?_)
  refine jw_dupr (hE1.ok hX0) (by rw [hE1.cc, hcc]; exact jdg_32) ?_
  refine jw_ctor (sh := jshB0) (as := []) (rest := [jmr 9, jmr 0]) (id := 9) (idx := 54) (n := 0) (hE1.ok hX0) (hE1.I hI0) hE1.shp hE1.n (by rw [hE1.own, hw]; exact jli_X11_54) (by rw [hE1.room, hR.1, hR.2]; exact ⟨jble rfl, jble rfl⟩) (by rw [hE1.room, hC.1]; exact jble rfl) (by rw [hE1.room, hC.2]; exact jble rfl) rfl (met_B (jJ_B0 hJ) h3 hJ3) (by decide +kernel) (by decide) rfl rfl (by rw [hE1.cc, hcc]; exact jdg_33) (fun X2 hE2 => ?_)
  have hE2 := hE1.trans hE2
  refine jw_putF (sh := jshB3) (sh' := jshL1) (σ' := jsB σ3) (id := 0) (ci := 11) (f := 2) (fin := false) (hE2.ok hX0) hE2.shp hE2.n rfl (by decide) (by rw [hE2.own, hw]; exact jpf_X11_48) (fun q => by cases q) (fun _ => ⟨rfl, rfl⟩) (fun ad cy => (jW_ref (sh := jshB3) (id := 0) (ci := 11) (f := 2) (j := 9) rfl (by decide) ad cy).trans rfl) rfl (by rw [hE2.cc, hcc]; exact jdg_36) (fun X3 hE3 => k X3 (hE2.trans hE3))
set_option maxRecDepth 100000 in
set_option maxHeartbeats 1000000 in
/-- the first game of an object -/
theorem met_G {F n : Nat} {σ σ1 σ2 σ3 σ5 : jxS} {b x y : Int} (hJ : jgJ jshL0 σ2) (h1 : Reader_readText F σ = some ((n : Int), σ1)) (h2 : Tape_cutTo F σ1 0 = some (b, σ2)) (hn1 : 1 ≤ n) (hn2 : n ≤ 16) (h3 : Positions_init F σ2 = some (x, σ3)) (hJ3 : jgJ jshB2 σ3) (h5 : Board_begin F (jsB σ3) = some (y, σ5)) : jMG yX11_game cX11_game 2 1 8 189 69 51011 jshL0 σ [jmr 0] (some (jmi (n : Int))) jshL1 σ5 := by
  intro l D cy A ad
  refine Met.ofW (cc := cX11_game) (maxL := 2) (ret := jrt 1) (by decide) rfl ?_
  intro p e s m args below meth c s₁ B hml hv
  obtain ⟨⟨rfl, hP1, hD, hK, hA, hBG⟩, hAO⟩ := hv
  have hts := atoms_spec (ws := .code yX11_game cX11_game 2 (jrt 1) :: jTB) B.pre
  have hown : s.vm.findClass yX11_game.cls = some m.cls := findClass_of_methodNamed B.named
  have hX0 : jOK (p, l, e, { frames := 8, cells := 69, slots := 51011, locals := 189 }, s, m, (([jmr 0] : List jxV).map (jtoV ad)).toArray, below, meth, c, cX11_game, 2, yX11_game.cls, D, cy, A, ad, jshL0, 1, 0, 0) := ⟨B.exec, B.bytes, hml, hown, fun w hw => hts w (List.mem_cons_of_mem _ hw), B.notSynchronized, hK, hA, hBG, B.returns, Nat.zero_le _, Nat.zero_le _⟩
  have main := met_G1 (Q := MQ below (jQg D cy A ad jshL0 jshL1 (some (jmi (n : Int))) σ5) (([jmr 0] : List jxV).map (jtoV ad)).toArray s 69 51011 A) h1 h2 hn1 hn2 hX0 rfl rfl rfl ⟨rfl, rfl⟩ (met_G2 hJ h3 hJ3 hX0 hAO rfl rfl rfl rfl ⟨rfl, rfl⟩ ⟨rfl, rfl⟩ (fun X3 hE3 => jg_fin hE3 (fun _ => rfl) (met_G3 h5 (hE3.ok hX0) hE3.cc hE3.shp hE3.own (by rw [hE3.room]; exact ⟨rfl, rfl⟩) hE3.kd)))
  rw [lg_entry_eq]
  have hl := lv_entry (([jmr 0] : List jxV).map (jtoV ad)) (n := 2) (by rw [jcat_sl]; decide)
  exact main s.heap [] _ hP1 hD va_S.rf ⟨hl.1, hl.2.1, by decide, fun i v hv => hl.2.2 (i, jtoV ad v) (by simpa using jpad_get (ad := ad) [jmr 0] 2 0 i v (by decide) hv)⟩
