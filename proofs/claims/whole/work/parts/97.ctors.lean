/-! Constructors: their tables, their contracts. -/
def jlp (l : List (Nat × Nat × Nat × Nat)) (idx : Nat) : Option (Nat × Nat × Nat) := match l with
  | [] => none
  | q :: t => bif Nat.beq q.1 idx then some q.2 else jlp t idx
def jln (l : List (Nat × Nat × List jxF)) (idx : Nat) : Option (Nat × List jxF) := match l with
  | [] => none
  | q :: t => bif Nat.beq q.1 idx then some q.2 else jln t idx
def jlq (l : List (Nat × Nat × jgF)) (idx : Nat) : Option (Nat × jgF) := match l with
  | [] => none
  | q :: t => bif Nat.beq q.1 idx then some q.2 else jlq t idx
theorem jlp_in {l : List (Nat × Nat × Nat × Nat)} {idx : Nat} {q : Nat × Nat × Nat} (h : jlp l idx = some q) : (idx, q) ∈ l := by
  induction l with
  | nil => simp [jlp] at h
  | cons a t ih =>
    simp only [jlp] at h
    cases hb : Nat.beq a.1 idx with
    | true => rw [hb] at h; simp only [cond_true, Option.some.injEq] at h; have e := jbeq hb; subst e; subst h; exact List.mem_cons_self
    | false => rw [hb] at h; exact List.mem_cons_of_mem _ (ih (by simpa using h))
theorem jln_in {l : List (Nat × Nat × List jxF)} {idx : Nat} {q : Nat × List jxF} (h : jln l idx = some q) : (idx, q) ∈ l := by
  induction l with
  | nil => simp [jln] at h
  | cons a t ih =>
    simp only [jln] at h
    cases hb : Nat.beq a.1 idx with
    | true => rw [hb] at h; simp only [cond_true, Option.some.injEq] at h; have e := jbeq hb; subst e; subst h; exact List.mem_cons_self
    | false => rw [hb] at h; exact List.mem_cons_of_mem _ (ih (by simpa using h))
theorem jlq_in {l : List (Nat × Nat × jgF)} {idx : Nat} {q : Nat × jgF} (h : jlq l idx = some q) : (idx, q) ∈ l := by
  induction l with
  | nil => simp [jlq] at h
  | cons a t ih =>
    simp only [jlq] at h
    cases hb : Nat.beq a.1 idx with
    | true => rw [hb] at h; simp only [cond_true, Option.some.injEq] at h; have e := jbeq hb; subst e; subst h; exact List.mem_cons_self
    | false => rw [hb] at h; exact List.mem_cons_of_mem _ (ih (by simpa using h))
def jgm (fl : List (Nat × Nat × Nat)) (pl : List (Nat × Nat × Nat × Nat)) (nl : List (Nat × Nat × List jxF)) (oi ai : Nat) (cl : List (Nat × Nat × jgF)) (mc ms : Nat) : jgT := (jlf fl, jlp pl, jln nl, oi, ai, jlq cl, mc, ms)
def jPk (own : String) (q : Nat × Nat × Nat × Nat) : Prop := match q.2.2.2 with
  | 0 => jPF own q.1 q.2.1 q.2.2.1 .int false
  | 1 => jPF own q.1 q.2.1 q.2.2.1 .int true
  | _ => ∃ t fin, jPF own q.1 q.2.1 q.2.2.1 t fin ∧ ∀ a, narrow t (.ref a) = .ref a ∧ fits t (.ref a) = true
def jCk (own : String) (fr lo : Nat) (q : Nat × Nat × jgF) : Prop := ∃ (y : MethodName) (bytes : ByteArray) (maxL fr' lo' : Nat), jLkI own q.1 y bytes maxL q.2.1 ∧ (fr' + 1 ≤ fr ∧ 8 + (maxL + 11) + lo' ≤ lo) ∧ ∀ as sh σ sh' σ' mc ms, q.2.2 as sh σ = some (sh', σ', mc, ms) → jgJ sh σ → jMG y bytes maxL 0 fr' lo' mc ms sh σ as none sh' σ'
def jCp (q : Nat × Nat × jgF) : Prop := ∀ as sh σ sh' σ' mc ms, q.2.2 as sh σ = some (sh', σ', mc, ms) → jgJ sh σ → sh.length ≤ sh'.length ∧ jgJ sh' σ'
theorem jGP_of {fl : List (Nat × Nat × Nat)} {pl : List (Nat × Nat × Nat × Nat)} {nl : List (Nat × Nat × List jxF)} {oi ai : Nat} {cl : List (Nat × Nat × jgF)} {mc ms : Nat} (hnl : nl.all (fun q => jgnu q.2.2) = true) (hcl : ∀ q ∈ cl, jCp q) : jGP (jgm fl pl nl oi ai cl mc ms) :=
  ⟨fun _ _ _ h => List.all_eq_true.mp hnl _ (jln_in h), fun _ _ _ h => hcl _ (jlq_in h)⟩

set_option maxRecDepth 100000 in
theorem jOI1 : Cond.instanceMethod objectInit ∈ jTB := (jTB_at 138 rfl rfl)
set_option maxRecDepth 100000 in
theorem jOI2 : Cond.code objectInit ⟨#[0xb1]⟩ 1 none ∈ jTB := (jTB_at 139 rfl rfl)
set_option maxRecDepth 100000 in
theorem jAr4 : ∀ t, t < 4 → Cond.arrayClass (newarray.typeOf (jgat t)) ∈ jTB := by
  intro t ht
  match t, ht with
  | 0, _ => exact (jTB_at 153 rfl rfl)
  | 1, _ => exact (jTB_at 397 rfl rfl)
  | 2, _ => exact (jTB_at 1513 rfl rfl)
  | 3, _ => exact (jTB_at 542 rfl rfl)
  | k + 4, h => exact absurd h (by omega)
theorem jGT_of {X : jxX} {y : MethodName} {bytes : ByteArray} {fr lo : Nat} {sh : List jxC} {fl : List (Nat × Nat × Nat)} {pl : List (Nat × Nat × Nat × Nat)} {nl : List (Nat × Nat × List jxF)} {oi ai : Nat} {cl : List (Nat × Nat × jgF)} {mc ms : Nat} (hA : jAt X y bytes fr lo 0 sh) (hI : jgI X) (hIn : jgIn X) (hR : (jroom X).cells = mc ∧ (jroom X).slots = ms) (hf : Nat.ble 1 fr = true ∧ Nat.ble 20 lo = true)
    (hfl : ∀ q ∈ fl, jFl y.cls q.1 q.2.1 q.2.2) (hpl : ∀ q ∈ pl, jPk y.cls q) (hnl : ∀ q ∈ nl, jNw y.cls q.1 q.2.1 q.2.2) (hoi : Cond.methodLink y.cls oi objectInit ∈ jTB) (hai : ai = 0 ∨ Cond.classLink y.cls ai "LastLoses$Quotient" ∈ jTB) (hcl : ∀ q ∈ cl, jCk y.cls fr lo q) : jGT X (jgm fl pl nl oi ai cl mc ms) := by
  obtain ⟨h1, h2, h3, h4, h5, h6⟩ := hA
  refine ⟨h1, hI, hIn, ⟨by rw [h4.1]; exact jble hf.1, by rw [h4.2]; exact jble hf.2⟩, hR, fun idx ci f h => by rw [h3]; exact hfl _ (jlf_in h), fun idx ci f kd h => ?_, fun idx ci fks h => by rw [h3]; exact hnl _ (jln_in h), ⟨by rw [h3]; exact hoi, jOI1, jOI2⟩, by rw [h3]; exact hai, fun idx n fn h => ?_, jAr4⟩
  · have := hpl _ (jlp_in h)
    rw [h3]
    exact this
  · have := hcl _ (jlq_in h)
    unfold jGC
    rw [h3, h4.1, h4.2]
    exact this

set_option maxRecDepth 100000 in
theorem jpf_X9_11 : jPF RX9 11 9 0 (.array .int) true := ⟨RX9, TX9, 2, tyX9, rfl, by decide, jin_X9, tyX9_ok, nmX9, jow_X9, (jTB_at 146 rfl rfl), by decide +kernel, rfl, rfl⟩
def jgt_Tape : List (Nat × Instr) := [(0, .aload_n 0), (1, .invokespecial 3), (4, .aload_n 0), (5, .sipush 200), (8, .newarray .int), (10, .putfield 11)]
theorem jgk_Tape : jgtok cX9_init jgt_Tape = true := by decide +kernel
def jgG_Tape : jgT := jgm [] [(11, 9, 0, 2)] [] 3 0 [] 1 200
theorem jgp_Tape : jGP jgG_Tape := jGP_of rfl jnil
set_option maxRecDepth 100000 in
theorem jgg_Tape (sh : List jxC) (X : jxX) (hA : jAt X yX9_init cX9_init 1 20 0 sh) (hI : jgI X) (hIn : jgIn X) (hR : (jroom X).cells = 1 ∧ (jroom X).slots = 200) : jGT X jgG_Tape := jGT_of hA hI hIn hR ⟨rfl, rfl⟩ jnil (jcon ⟨_, _, jpf_X9_11, fun _ => ⟨rfl, rfl⟩⟩ jnil) jnil (jTB_at 145 rfl rfl) (Or.inl rfl) jnil
def jgi_Tape : jgF := jgfn jgG_Tape jgt_Tape 13 12 1 1 200
theorem jip_Tape : ∀ as sh σ sh' σ' a b, jgi_Tape as sh σ = some (sh', σ', a, b) → jgJ sh σ → sh.length ≤ sh'.length ∧ jgJ sh' σ' := jgfn_p jgp_Tape
theorem jmi_Tape : ∀ as sh σ sh' σ' a b, jgi_Tape as sh σ = some (sh', σ', a, b) → jgJ sh σ → jMG yX9_init cX9_init 1 0 1 20 a b sh σ as none sh' σ' := jgfn_ok (by decide) rfl jgk_Tape (by decide +kernel) jgp_Tape (jgg_Tape)
set_option maxRecDepth 100000 in
theorem jpf_X7_11 : jPF RX7 11 7 1 (.array .int) true := ⟨RX7, TX7, 10, tyX7, rfl, by decide, jin_X7, tyX7_ok, nmX7, jow_X7, (jTB_at 161 rfl rfl), by decide +kernel, rfl, rfl⟩
set_option maxRecDepth 100000 in
theorem jpf_X7_15 : jPF RX7 15 7 2 (.array .int) true := ⟨RX7, TX7, 10, tyX7, rfl, by decide, jin_X7, tyX7_ok, nmX7, jow_X7, (jTB_at 163 rfl rfl), by decide +kernel, rfl, rfl⟩
set_option maxRecDepth 100000 in
theorem jpf_X7_18 : jPF RX7 18 7 3 (.array .int) true := ⟨RX7, TX7, 10, tyX7, rfl, by decide, jin_X7, tyX7_ok, nmX7, jow_X7, (jTB_at 165 rfl rfl), by decide +kernel, rfl, rfl⟩
set_option maxRecDepth 100000 in
theorem jpf_X7_21 : jPF RX7 21 7 4 (.array .int) true := ⟨RX7, TX7, 10, tyX7, rfl, by decide, jin_X7, tyX7_ok, nmX7, jow_X7, (jTB_at 167 rfl rfl), by decide +kernel, rfl, rfl⟩
set_option maxRecDepth 100000 in
theorem jpf_X7_24 : jPF RX7 24 7 5 (.array .int) true := ⟨RX7, TX7, 10, tyX7, rfl, by decide, jin_X7, tyX7_ok, nmX7, jow_X7, (jTB_at 169 rfl rfl), by decide +kernel, rfl, rfl⟩
set_option maxRecDepth 100000 in
theorem jpf_X7_27 : jPF RX7 27 7 0 (.object "LastLoses$Tape") true := ⟨RX7, TX7, 10, tyX7, rfl, by decide, jin_X7, tyX7_ok, nmX7, jow_X7, (jTB_at 160 rfl rfl), by decide +kernel, rfl, rfl⟩
def jgt_Reader : List (Nat × Instr) := [(0, .aload_n 0), (1, .invokespecial 3), (4, .aload_n 0), (5, .bipush 8), (7, .newarray .int), (9, .putfield 11), (12, .aload_n 0), (13, .bipush 16), (15, .newarray .int), (17, .putfield 15), (20, .aload_n 0), (21, .bipush 16), (23, .newarray .int), (25, .putfield 18), (28, .aload_n 0), (29, .bipush 16), (31, .newarray .int), (33, .putfield 21), (36, .aload_n 0), (37, .bipush 16), (39, .newarray .int), (41, .putfield 24), (44, .aload_n 0), (45, .aload_n 1), (46, .putfield 27)]
theorem jgk_Reader : jgtok cX7_init jgt_Reader = true := by decide +kernel
def jgG_Reader : jgT := jgm [] [(11, 7, 1, 2), (15, 7, 2, 2), (18, 7, 3, 2), (21, 7, 4, 2), (24, 7, 5, 2), (27, 7, 0, 2)] [] 3 0 [] 5 72
theorem jgp_Reader : jGP jgG_Reader := jGP_of rfl jnil
set_option maxRecDepth 100000 in
theorem jgg_Reader (sh : List jxC) (X : jxX) (hA : jAt X yX7_init cX7_init 1 20 0 sh) (hI : jgI X) (hIn : jgIn X) (hR : (jroom X).cells = 5 ∧ (jroom X).slots = 72) : jGT X jgG_Reader := jGT_of hA hI hIn hR ⟨rfl, rfl⟩ jnil (jcon ⟨_, _, jpf_X7_11, fun _ => ⟨rfl, rfl⟩⟩ (jcon ⟨_, _, jpf_X7_15, fun _ => ⟨rfl, rfl⟩⟩ (jcon ⟨_, _, jpf_X7_18, fun _ => ⟨rfl, rfl⟩⟩ (jcon ⟨_, _, jpf_X7_21, fun _ => ⟨rfl, rfl⟩⟩ (jcon ⟨_, _, jpf_X7_24, fun _ => ⟨rfl, rfl⟩⟩ (jcon ⟨_, _, jpf_X7_27, fun _ => ⟨rfl, rfl⟩⟩ jnil)))))) jnil (jTB_at 159 rfl rfl) (Or.inl rfl) jnil
def jgi_Reader : jgF := jgfn jgG_Reader jgt_Reader 49 31 2 5 72
theorem jip_Reader : ∀ as sh σ sh' σ' a b, jgi_Reader as sh σ = some (sh', σ', a, b) → jgJ sh σ → sh.length ≤ sh'.length ∧ jgJ sh' σ' := jgfn_p jgp_Reader
theorem jmi_Reader : ∀ as sh σ sh' σ' a b, jgi_Reader as sh σ = some (sh', σ', a, b) → jgJ sh σ → jMG yX7_init cX7_init 2 0 1 20 a b sh σ as none sh' σ' := jgfn_ok (by decide) rfl jgk_Reader (by decide +kernel) jgp_Reader (jgg_Reader)
set_option maxRecDepth 100000 in
theorem jpf_X11_10 : jPF RX11 10 11 0 (.object "LastLoses$Tape") true := ⟨RX11, TX11, 4, tyX11, rfl, by decide, jin_X11, tyX11_ok, nmX11, jow_X11, (jTB_at 198 rfl rfl), by decide +kernel, rfl, rfl⟩
set_option maxRecDepth 100000 in
theorem jpf_X11_21 : jPF RX11 21 11 1 (.object "LastLoses$Reader") true := ⟨RX11, TX11, 4, tyX11, rfl, by decide, jin_X11, tyX11_ok, nmX11, jow_X11, (jTB_at 199 rfl rfl), by decide +kernel, rfl, rfl⟩
set_option maxRecDepth 100000 in
theorem jpf_X11_25 : jPF RX11 25 11 3 .int false := ⟨RX11, TX11, 4, tyX11, rfl, by decide, jin_X11, tyX11_ok, nmX11, jow_X11, (jTB_at 201 rfl rfl), by decide +kernel, rfl, rfl⟩
set_option maxRecDepth 100000 in
theorem jnw_X11_7 : jNw RX11 7 9 [.inr none, .inl 0] := by
  have h : ∀ j, j < 2 → defaultValue (tyX9 j) = vp_V (([.inr none, .inl 0] : List jxF).map jgdv) j := by
    intro j hj
    match j, hj with
    | 0, _ => rfl
    | 1, _ => rfl
    | k + 2, h => exact absurd h (by omega)
  exact ⟨RX9, TX9, tyX9, rfl, jin_X9, tyX9_ok, (jTB_at 140 rfl rfl), (jTB_at 141 rfl rfl), (jTB_at 113 rfl rfl), h, rfl⟩
set_option maxRecDepth 100000 in
theorem jnw_X11_16 : jNw RX11 16 7 [.inr none, .inr none, .inr none, .inr none, .inr none, .inr none, .inl 0, .inl 0, .inl 0, .inl 0] := by
  have h : ∀ j, j < 10 → defaultValue (tyX7 j) = vp_V (([.inr none, .inr none, .inr none, .inr none, .inr none, .inr none, .inl 0, .inl 0, .inl 0, .inl 0] : List jxF).map jgdv) j := by
    intro j hj
    match j, hj with
    | 0, _ => rfl
    | 1, _ => rfl
    | 2, _ => rfl
    | 3, _ => rfl
    | 4, _ => rfl
    | 5, _ => rfl
    | 6, _ => rfl
    | 7, _ => rfl
    | 8, _ => rfl
    | 9, _ => rfl
    | k + 10, h => exact absurd h (by omega)
  exact ⟨RX7, TX7, tyX7, rfl, jin_X7, tyX7_ok, (jTB_at 154 rfl rfl), (jTB_at 155 rfl rfl), (jTB_at 114 rfl rfl), h, rfl⟩
set_option maxRecDepth 100000 in
theorem jli_X11_9 : jLkI RX11 9 yX9_init cX9_init 1 0 := ⟨Or.inr ⟨"LastLoses", (jNS_at 142 rfl rfl)⟩, (jTB_at 143 rfl rfl), (jTB_at 113 rfl rfl), (jTB_at 144 rfl rfl), rfl, ⟨by decide, by decide, by decide +kernel⟩⟩
set_option maxRecDepth 100000 in
theorem jli_X11_18 : jLkI RX11 18 yX7_init cX7_init 2 1 := ⟨Or.inl (jTB_at 156 rfl rfl), (jTB_at 157 rfl rfl), (jTB_at 114 rfl rfl), (jTB_at 158 rfl rfl), rfl, ⟨by decide, by decide, by decide +kernel⟩⟩
def jgt_LL : List (Nat × Instr) := [(0, .aload_n 0), (1, .invokespecial 1), (4, .aload_n 0), (5, .new 7), (8, .dup), (9, .invokespecial 9), (12, .putfield 10), (15, .aload_n 0), (16, .new 16), (19, .dup), (20, .aload_n 0), (21, .getfield 10), (24, .invokespecial 18), (27, .putfield 21), (30, .aload_n 0), (31, .iconst 0), (32, .putfield 25)]
theorem jgk_LL : jgtok cX11_init jgt_LL = true := by decide +kernel
def jgG_LL : jgT := jgm [(10, 11, 0)] [(10, 11, 0, 2), (21, 11, 1, 2), (25, 11, 3, 0)] [(7, 9, [.inr none, .inl 0]), (16, 7, [.inr none, .inr none, .inr none, .inr none, .inr none, .inr none, .inl 0, .inl 0, .inl 0, .inl 0])] 1 0 [(9, 0, jgi_Tape), (18, 1, jgi_Reader)] 8 284
theorem jgp_LL : jGP jgG_LL := jGP_of rfl (jcon jip_Tape (jcon jip_Reader jnil))
set_option maxRecDepth 100000 in
theorem jgg_LL (sh : List jxC) (X : jxX) (hA : jAt X yX11_init cX11_init 2 41 0 sh) (hI : jgI X) (hIn : jgIn X) (hR : (jroom X).cells = 8 ∧ (jroom X).slots = 284) : jGT X jgG_LL := jGT_of hA hI hIn hR ⟨rfl, rfl⟩ (jcon jfl_X11_10 jnil) (jcon ⟨_, _, jpf_X11_10, fun _ => ⟨rfl, rfl⟩⟩ (jcon ⟨_, _, jpf_X11_21, fun _ => ⟨rfl, rfl⟩⟩ (jcon jpf_X11_25 jnil))) (jcon jnw_X11_7 (jcon jnw_X11_16 jnil)) (jTB_at 137 rfl rfl) (Or.inl rfl) (jcon ⟨_, _, _, _, _, jli_X11_9, ⟨jble rfl, jble rfl⟩, jmi_Tape⟩ (jcon ⟨_, _, _, _, _, jli_X11_18, ⟨jble rfl, jble rfl⟩, jmi_Reader⟩ jnil))
def jgi_LL : jgF := jgfn jgG_LL jgt_LL 35 23 1 8 284
theorem jip_LL : ∀ as sh σ sh' σ' a b, jgi_LL as sh σ = some (sh', σ', a, b) → jgJ sh σ → sh.length ≤ sh'.length ∧ jgJ sh' σ' := jgfn_p jgp_LL
theorem jmi_LL : ∀ as sh σ sh' σ' a b, jgi_LL as sh σ = some (sh', σ', a, b) → jgJ sh σ → jMG yX11_init cX11_init 1 0 2 41 a b sh σ as none sh' σ' := jgfn_ok (by decide) rfl jgk_LL (by decide +kernel) jgp_LL (jgg_LL)
set_option maxRecDepth 100000 in
theorem jpf_X8_11 : jPF RX8 11 8 0 (.array .int) true := ⟨RX8, TX8, 10, tyX8, rfl, by decide, jin_X8, tyX8_ok, nmX8, jow_X8, (jTB_at 366 rfl rfl), by decide +kernel, rfl, rfl⟩
set_option maxRecDepth 100000 in
theorem jpf_X8_17 : jPF RX8 17 8 1 (.array .int) true := ⟨RX8, TX8, 10, tyX8, rfl, by decide, jin_X8, tyX8_ok, nmX8, jow_X8, (jTB_at 367 rfl rfl), by decide +kernel, rfl, rfl⟩
set_option maxRecDepth 100000 in
theorem jpf_X8_20 : jPF RX8 20 8 2 (.array .int) true := ⟨RX8, TX8, 10, tyX8, rfl, by decide, jin_X8, tyX8_ok, nmX8, jow_X8, (jTB_at 368 rfl rfl), by decide +kernel, rfl, rfl⟩
set_option maxRecDepth 100000 in
theorem jpf_X8_23 : jPF RX8 23 8 3 (.array .int) true := ⟨RX8, TX8, 10, tyX8, rfl, by decide, jin_X8, tyX8_ok, nmX8, jow_X8, (jTB_at 369 rfl rfl), by decide +kernel, rfl, rfl⟩
set_option maxRecDepth 100000 in
theorem jpf_X8_26 : jPF RX8 26 8 4 (.array .int) true := ⟨RX8, TX8, 10, tyX8, rfl, by decide, jin_X8, tyX8_ok, nmX8, jow_X8, (jTB_at 370 rfl rfl), by decide +kernel, rfl, rfl⟩
set_option maxRecDepth 100000 in
theorem jpf_X8_29 : jPF RX8 29 8 5 (.array .int) true := ⟨RX8, TX8, 10, tyX8, rfl, by decide, jin_X8, tyX8_ok, nmX8, jow_X8, (jTB_at 371 rfl rfl), by decide +kernel, rfl, rfl⟩
set_option maxRecDepth 100000 in
theorem jpf_X8_32 : jPF RX8 32 8 6 (.array .int) true := ⟨RX8, TX8, 10, tyX8, rfl, by decide, jin_X8, tyX8_ok, nmX8, jow_X8, (jTB_at 372 rfl rfl), by decide +kernel, rfl, rfl⟩
set_option maxRecDepth 100000 in
theorem jpf_X8_35 : jPF RX8 35 8 7 (.array .int) true := ⟨RX8, TX8, 10, tyX8, rfl, by decide, jin_X8, tyX8_ok, nmX8, jow_X8, (jTB_at 373 rfl rfl), by decide +kernel, rfl, rfl⟩
def jgt_Rules : List (Nat × Instr) := [(0, .aload_n 0), (1, .invokespecial 3), (4, .aload_n 0), (5, .bipush 8), (7, .newarray .int), (9, .putfield 11), (12, .aload_n 0), (13, .bipush 13), (15, .newarray .int), (17, .putfield 17), (20, .aload_n 0), (21, .sipush 169), (24, .newarray .int), (26, .putfield 20), (29, .aload_n 0), (30, .bipush 14), (32, .newarray .int), (34, .putfield 23), (37, .aload_n 0), (38, .sipush 203), (41, .newarray .int), (43, .putfield 26), (46, .aload_n 0), (47, .bipush 13), (49, .newarray .int), (51, .putfield 29), (54, .aload_n 0), (55, .bipush 13), (57, .newarray .int), (59, .putfield 32), (62, .aload_n 0), (63, .bipush 13), (65, .newarray .int), (67, .putfield 35)]
theorem jgk_Rules : jgtok cX8_init jgt_Rules = true := by decide +kernel
def jgG_Rules : jgT := jgm [] [(11, 8, 0, 2), (17, 8, 1, 2), (20, 8, 2, 2), (23, 8, 3, 2), (26, 8, 4, 2), (29, 8, 5, 2), (32, 8, 6, 2), (35, 8, 7, 2)] [] 3 0 [] 8 446
theorem jgp_Rules : jGP jgG_Rules := jGP_of rfl jnil
set_option maxRecDepth 100000 in
theorem jgg_Rules (sh : List jxC) (X : jxX) (hA : jAt X yX8_init cX8_init 1 20 0 sh) (hI : jgI X) (hIn : jgIn X) (hR : (jroom X).cells = 8 ∧ (jroom X).slots = 446) : jGT X jgG_Rules := jGT_of hA hI hIn hR ⟨rfl, rfl⟩ jnil (jcon ⟨_, _, jpf_X8_11, fun _ => ⟨rfl, rfl⟩⟩ (jcon ⟨_, _, jpf_X8_17, fun _ => ⟨rfl, rfl⟩⟩ (jcon ⟨_, _, jpf_X8_20, fun _ => ⟨rfl, rfl⟩⟩ (jcon ⟨_, _, jpf_X8_23, fun _ => ⟨rfl, rfl⟩⟩ (jcon ⟨_, _, jpf_X8_26, fun _ => ⟨rfl, rfl⟩⟩ (jcon ⟨_, _, jpf_X8_29, fun _ => ⟨rfl, rfl⟩⟩ (jcon ⟨_, _, jpf_X8_32, fun _ => ⟨rfl, rfl⟩⟩ (jcon ⟨_, _, jpf_X8_35, fun _ => ⟨rfl, rfl⟩⟩ jnil)))))))) jnil (jTB_at 365 rfl rfl) (Or.inl rfl) jnil
def jgi_Rules : jgF := jgfn jgG_Rules jgt_Rules 70 40 1 8 446
theorem jip_Rules : ∀ as sh σ sh' σ' a b, jgi_Rules as sh σ = some (sh', σ', a, b) → jgJ sh σ → sh.length ≤ sh'.length ∧ jgJ sh' σ' := jgfn_p jgp_Rules
theorem jmi_Rules : ∀ as sh σ sh' σ' a b, jgi_Rules as sh σ = some (sh', σ', a, b) → jgJ sh σ → jMG yX8_init cX8_init 1 0 1 20 a b sh σ as none sh' σ' := jgfn_ok (by decide) rfl jgk_Rules (by decide +kernel) jgp_Rules (jgg_Rules)
set_option maxRecDepth 100000 in
theorem jpf_X1_11 : jPF RX1 11 1 0 (.array .int) true := ⟨RX1, TX1, 5, tyX1, rfl, by decide, jin_X1, tyX1_ok, nmX1, jow_X1, (jTB_at 404 rfl rfl), by decide +kernel, rfl, rfl⟩
set_option maxRecDepth 100000 in
theorem jpf_X1_15 : jPF RX1 15 1 1 (.array .int) true := ⟨RX1, TX1, 5, tyX1, rfl, by decide, jin_X1, tyX1_ok, nmX1, jow_X1, (jTB_at 405 rfl rfl), by decide +kernel, rfl, rfl⟩
def jgt_Cycle : List (Nat × Instr) := [(0, .aload_n 0), (1, .invokespecial 3), (4, .aload_n 0), (5, .sipush 161), (8, .newarray .int), (10, .putfield 11), (13, .aload_n 0), (14, .sipush 256), (17, .newarray .int), (19, .putfield 15)]
theorem jgk_Cycle : jgtok cX1_init jgt_Cycle = true := by decide +kernel
def jgG_Cycle : jgT := jgm [] [(11, 1, 0, 2), (15, 1, 1, 2)] [] 3 0 [] 2 417
theorem jgp_Cycle : jGP jgG_Cycle := jGP_of rfl jnil
set_option maxRecDepth 100000 in
theorem jgg_Cycle (sh : List jxC) (X : jxX) (hA : jAt X yX1_init cX1_init 1 20 0 sh) (hI : jgI X) (hIn : jgIn X) (hR : (jroom X).cells = 2 ∧ (jroom X).slots = 417) : jGT X jgG_Cycle := jGT_of hA hI hIn hR ⟨rfl, rfl⟩ jnil (jcon ⟨_, _, jpf_X1_11, fun _ => ⟨rfl, rfl⟩⟩ (jcon ⟨_, _, jpf_X1_15, fun _ => ⟨rfl, rfl⟩⟩ jnil)) jnil (jTB_at 403 rfl rfl) (Or.inl rfl) jnil
def jgi_Cycle : jgF := jgfn jgG_Cycle jgt_Cycle 22 16 1 2 417
theorem jip_Cycle : ∀ as sh σ sh' σ' a b, jgi_Cycle as sh σ = some (sh', σ', a, b) → jgJ sh σ → sh.length ≤ sh'.length ∧ jgJ sh' σ' := jgfn_p jgp_Cycle
theorem jmi_Cycle : ∀ as sh σ sh' σ' a b, jgi_Cycle as sh σ = some (sh', σ', a, b) → jgJ sh σ → jMG yX1_init cX1_init 1 0 1 20 a b sh σ as none sh' σ' := jgfn_ok (by decide) rfl jgk_Cycle (by decide +kernel) jgp_Cycle (jgg_Cycle)
set_option maxRecDepth 100000 in
theorem jpf_X2_11 : jPF RX2 11 2 0 (.array .int) true := ⟨RX2, TX2, 5, tyX2, rfl, by decide, jin_X2, tyX2_ok, nmX2, jow_X2, (jTB_at 494 rfl rfl), by decide +kernel, rfl, rfl⟩
set_option maxRecDepth 100000 in
theorem jpf_X2_15 : jPF RX2 15 2 1 (.array .int) true := ⟨RX2, TX2, 5, tyX2, rfl, by decide, jin_X2, tyX2_ok, nmX2, jow_X2, (jTB_at 495 rfl rfl), by decide +kernel, rfl, rfl⟩
def jgt_Hand : List (Nat × Instr) := [(0, .aload_n 0), (1, .invokespecial 3), (4, .aload_n 0), (5, .bipush 30), (7, .newarray .int), (9, .putfield 11), (12, .aload_n 0), (13, .iconst 3), (14, .newarray .int), (16, .putfield 15)]
theorem jgk_Hand : jgtok cX2_init jgt_Hand = true := by decide +kernel
def jgG_Hand : jgT := jgm [] [(11, 2, 0, 2), (15, 2, 1, 2)] [] 3 0 [] 2 33
theorem jgp_Hand : jGP jgG_Hand := jGP_of rfl jnil
set_option maxRecDepth 100000 in
theorem jgg_Hand (sh : List jxC) (X : jxX) (hA : jAt X yX2_init cX2_init 1 20 0 sh) (hI : jgI X) (hIn : jgIn X) (hR : (jroom X).cells = 2 ∧ (jroom X).slots = 33) : jGT X jgG_Hand := jGT_of hA hI hIn hR ⟨rfl, rfl⟩ jnil (jcon ⟨_, _, jpf_X2_11, fun _ => ⟨rfl, rfl⟩⟩ (jcon ⟨_, _, jpf_X2_15, fun _ => ⟨rfl, rfl⟩⟩ jnil)) jnil (jTB_at 493 rfl rfl) (Or.inl rfl) jnil
def jgi_Hand : jgF := jgfn jgG_Hand jgt_Hand 19 16 1 2 33
theorem jip_Hand : ∀ as sh σ sh' σ' a b, jgi_Hand as sh σ = some (sh', σ', a, b) → jgJ sh σ → sh.length ≤ sh'.length ∧ jgJ sh' σ' := jgfn_p jgp_Hand
theorem jmi_Hand : ∀ as sh σ sh' σ' a b, jgi_Hand as sh σ = some (sh', σ', a, b) → jgJ sh σ → jMG yX2_init cX2_init 1 0 1 20 a b sh σ as none sh' σ' := jgfn_ok (by decide) rfl jgk_Hand (by decide +kernel) jgp_Hand (jgg_Hand)
set_option maxRecDepth 100000 in
theorem jpf_X3_11 : jPF RX3 11 3 2 (.array .int) true := ⟨RX3, TX3, 5, tyX3, rfl, by decide, jin_X3, tyX3_ok, nmX3, jow_X3, (jTB_at 526 rfl rfl), by decide +kernel, rfl, rfl⟩
set_option maxRecDepth 100000 in
theorem jpf_X3_17 : jPF RX3 17 3 3 (.array .int) true := ⟨RX3, TX3, 5, tyX3, rfl, by decide, jin_X3, tyX3_ok, nmX3, jow_X3, (jTB_at 528 rfl rfl), by decide +kernel, rfl, rfl⟩
set_option maxRecDepth 100000 in
theorem jpf_X3_20 : jPF RX3 20 3 0 (.object "LastLoses$Positions") true := ⟨RX3, TX3, 5, tyX3, rfl, by decide, jin_X3, tyX3_ok, nmX3, jow_X3, (jTB_at 524 rfl rfl), by decide +kernel, rfl, rfl⟩
set_option maxRecDepth 100000 in
theorem jpf_X3_24 : jPF RX3 24 3 1 (.object "LastLoses$Rules") true := ⟨RX3, TX3, 5, tyX3, rfl, by decide, jin_X3, tyX3_ok, nmX3, jow_X3, (jTB_at 525 rfl rfl), by decide +kernel, rfl, rfl⟩
def jgt_Options : List (Nat × Instr) := [(0, .aload_n 0), (1, .invokespecial 3), (4, .aload_n 0), (5, .sipush 203), (8, .newarray .int), (10, .putfield 11), (13, .aload_n 0), (14, .sipush 203), (17, .newarray .int), (19, .putfield 17), (22, .aload_n 0), (23, .aload_n 1), (24, .putfield 20), (27, .aload_n 0), (28, .aload_n 2), (29, .putfield 24)]
theorem jgk_Options : jgtok cX3_init jgt_Options = true := by decide +kernel
def jgG_Options : jgT := jgm [] [(11, 3, 2, 2), (17, 3, 3, 2), (20, 3, 0, 2), (24, 3, 1, 2)] [] 3 0 [] 2 406
theorem jgp_Options : jGP jgG_Options := jGP_of rfl jnil
set_option maxRecDepth 100000 in
theorem jgg_Options (sh : List jxC) (X : jxX) (hA : jAt X yX3_init cX3_init 1 20 0 sh) (hI : jgI X) (hIn : jgIn X) (hR : (jroom X).cells = 2 ∧ (jroom X).slots = 406) : jGT X jgG_Options := jGT_of hA hI hIn hR ⟨rfl, rfl⟩ jnil (jcon ⟨_, _, jpf_X3_11, fun _ => ⟨rfl, rfl⟩⟩ (jcon ⟨_, _, jpf_X3_17, fun _ => ⟨rfl, rfl⟩⟩ (jcon ⟨_, _, jpf_X3_20, fun _ => ⟨rfl, rfl⟩⟩ (jcon ⟨_, _, jpf_X3_24, fun _ => ⟨rfl, rfl⟩⟩ jnil)))) jnil (jTB_at 523 rfl rfl) (Or.inl rfl) jnil
def jgi_Options : jgF := jgfn jgG_Options jgt_Options 32 22 3 2 406
theorem jip_Options : ∀ as sh σ sh' σ' a b, jgi_Options as sh σ = some (sh', σ', a, b) → jgJ sh σ → sh.length ≤ sh'.length ∧ jgJ sh' σ' := jgfn_p jgp_Options
theorem jmi_Options : ∀ as sh σ sh' σ' a b, jgi_Options as sh σ = some (sh', σ', a, b) → jgJ sh σ → jMG yX3_init cX3_init 3 0 1 20 a b sh σ as none sh' σ' := jgfn_ok (by decide) rfl jgk_Options (by decide +kernel) jgp_Options (jgg_Options)
set_option maxRecDepth 100000 in
theorem jpf_X10_11 : jPF RX10 11 10 3 (.array .int) true := ⟨RX10, TX10, 9, tyX10, rfl, by decide, jin_X10, tyX10_ok, nmX10, jow_X10, (jTB_at 546 rfl rfl), by decide +kernel, rfl, rfl⟩
set_option maxRecDepth 100000 in
theorem jpf_X10_17 : jPF RX10 17 10 4 (.array .int) true := ⟨RX10, TX10, 9, tyX10, rfl, by decide, jin_X10, tyX10_ok, nmX10, jow_X10, (jTB_at 547 rfl rfl), by decide +kernel, rfl, rfl⟩
set_option maxRecDepth 100000 in
theorem jpf_X10_20 : jPF RX10 20 10 5 (.array .int) true := ⟨RX10, TX10, 9, tyX10, rfl, by decide, jin_X10, tyX10_ok, nmX10, jow_X10, (jTB_at 548 rfl rfl), by decide +kernel, rfl, rfl⟩
set_option maxRecDepth 100000 in
theorem jpf_X10_23 : jPF RX10 23 10 6 (.array .long) true := ⟨RX10, TX10, 9, tyX10, rfl, by decide, jin_X10, tyX10_ok, nmX10, jow_X10, (jTB_at 549 rfl rfl), by decide +kernel, rfl, rfl⟩
set_option maxRecDepth 100000 in
theorem jpf_X10_27 : jPF RX10 27 10 0 (.object "LastLoses$Positions") true := ⟨RX10, TX10, 9, tyX10, rfl, by decide, jin_X10, tyX10_ok, nmX10, jow_X10, (jTB_at 543 rfl rfl), by decide +kernel, rfl, rfl⟩
set_option maxRecDepth 100000 in
theorem jpf_X10_31 : jPF RX10 31 10 1 (.object "LastLoses$Rules") true := ⟨RX10, TX10, 9, tyX10, rfl, by decide, jin_X10, tyX10_ok, nmX10, jow_X10, (jTB_at 544 rfl rfl), by decide +kernel, rfl, rfl⟩
set_option maxRecDepth 100000 in
theorem jpf_X10_40 : jPF RX10 40 10 2 (.object "LastLoses$Options") true := ⟨RX10, TX10, 9, tyX10, rfl, by decide, jin_X10, tyX10_ok, nmX10, jow_X10, (jTB_at 545 rfl rfl), by decide +kernel, rfl, rfl⟩
set_option maxRecDepth 100000 in
theorem jnw_X10_35 : jNw RX10 35 3 [.inr none, .inr none, .inr none, .inr none, .inl 0] := by
  have h : ∀ j, j < 5 → defaultValue (tyX3 j) = vp_V (([.inr none, .inr none, .inr none, .inr none, .inl 0] : List jxF).map jgdv) j := by
    intro j hj
    match j, hj with
    | 0, _ => rfl
    | 1, _ => rfl
    | 2, _ => rfl
    | 3, _ => rfl
    | 4, _ => rfl
    | k + 5, h => exact absurd h (by omega)
  exact ⟨RX3, TX3, tyX3, rfl, jin_X3, tyX3_ok, (jTB_at 518 rfl rfl), (jTB_at 519 rfl rfl), (jTB_at 126 rfl rfl), h, rfl⟩
set_option maxRecDepth 100000 in
theorem jli_X10_37 : jLkI RX10 37 yX3_init cX3_init 3 2 := ⟨Or.inl (jTB_at 520 rfl rfl), (jTB_at 521 rfl rfl), (jTB_at 126 rfl rfl), (jTB_at 522 rfl rfl), rfl, ⟨by decide, by decide, by decide +kernel⟩⟩
def jgt_Values : List (Nat × Instr) := [(0, .aload_n 0), (1, .invokespecial 3), (4, .aload_n 0), (5, .sipush 4224), (8, .newarray .int), (10, .putfield 11), (13, .aload_n 0), (14, .sipush 4224), (17, .newarray .int), (19, .putfield 17), (22, .aload_n 0), (23, .bipush 6), (25, .newarray .int), (27, .putfield 20), (30, .aload_n 0), (31, .sipush 677), (34, .newarray .long), (36, .putfield 23), (39, .aload_n 0), (40, .aload_n 1), (41, .putfield 27), (44, .aload_n 0), (45, .aload_n 2), (46, .putfield 31), (49, .aload_n 0), (50, .new 35), (53, .dup), (54, .aload_n 1), (55, .aload_n 2), (56, .invokespecial 37), (59, .putfield 40)]
theorem jgk_Values : jgtok cX10_init jgt_Values = true := by decide +kernel
def jgG_Values : jgT := jgm [] [(11, 10, 3, 2), (17, 10, 4, 2), (20, 10, 5, 2), (23, 10, 6, 2), (27, 10, 0, 2), (31, 10, 1, 2), (40, 10, 2, 2)] [(35, 3, [.inr none, .inr none, .inr none, .inr none, .inl 0])] 3 0 [(37, 2, jgi_Options)] 7 9542
theorem jgp_Values : jGP jgG_Values := jGP_of rfl (jcon jip_Options jnil)
set_option maxRecDepth 100000 in
theorem jgg_Values (sh : List jxC) (X : jxX) (hA : jAt X yX10_init cX10_init 2 42 0 sh) (hI : jgI X) (hIn : jgIn X) (hR : (jroom X).cells = 7 ∧ (jroom X).slots = 9542) : jGT X jgG_Values := jGT_of hA hI hIn hR ⟨rfl, rfl⟩ jnil (jcon ⟨_, _, jpf_X10_11, fun _ => ⟨rfl, rfl⟩⟩ (jcon ⟨_, _, jpf_X10_17, fun _ => ⟨rfl, rfl⟩⟩ (jcon ⟨_, _, jpf_X10_20, fun _ => ⟨rfl, rfl⟩⟩ (jcon ⟨_, _, jpf_X10_23, fun _ => ⟨rfl, rfl⟩⟩ (jcon ⟨_, _, jpf_X10_27, fun _ => ⟨rfl, rfl⟩⟩ (jcon ⟨_, _, jpf_X10_31, fun _ => ⟨rfl, rfl⟩⟩ (jcon ⟨_, _, jpf_X10_40, fun _ => ⟨rfl, rfl⟩⟩ jnil))))))) (jcon jnw_X10_35 jnil) (jTB_at 517 rfl rfl) (Or.inl rfl) (jcon ⟨_, _, _, _, _, jli_X10_37, ⟨jble rfl, jble rfl⟩, jmi_Options⟩ jnil)
def jgi_Values : jgF := jgfn jgG_Values jgt_Values 62 37 3 7 9542
theorem jip_Values : ∀ as sh σ sh' σ' a b, jgi_Values as sh σ = some (sh', σ', a, b) → jgJ sh σ → sh.length ≤ sh'.length ∧ jgJ sh' σ' := jgfn_p jgp_Values
theorem jmi_Values : ∀ as sh σ sh' σ' a b, jgi_Values as sh σ = some (sh', σ', a, b) → jgJ sh σ → jMG yX10_init cX10_init 3 0 2 42 a b sh σ as none sh' σ' := jgfn_ok (by decide) rfl jgk_Values (by decide +kernel) jgp_Values (jgg_Values)
set_option maxRecDepth 100000 in
theorem jpf_X4_11 : jPF RX4 11 4 1 (.array .int) true := ⟨RX4, TX4, 6, tyX4, rfl, by decide, jin_X4, tyX4_ok, nmX4, jow_X4, (jTB_at 580 rfl rfl), by decide +kernel, rfl, rfl⟩
set_option maxRecDepth 100000 in
theorem jpf_X4_15 : jPF RX4 15 4 2 (.array .int) true := ⟨RX4, TX4, 6, tyX4, rfl, by decide, jin_X4, tyX4_ok, nmX4, jow_X4, (jTB_at 581 rfl rfl), by decide +kernel, rfl, rfl⟩
set_option maxRecDepth 100000 in
theorem jpf_X4_18 : jPF RX4 18 4 3 (.array .int) true := ⟨RX4, TX4, 6, tyX4, rfl, by decide, jin_X4, tyX4_ok, nmX4, jow_X4, (jTB_at 582 rfl rfl), by decide +kernel, rfl, rfl⟩
set_option maxRecDepth 100000 in
theorem jpf_X4_21 : jPF RX4 21 4 0 (.object "LastLoses$Rules") true := ⟨RX4, TX4, 6, tyX4, rfl, by decide, jin_X4, tyX4_ok, nmX4, jow_X4, (jTB_at 579 rfl rfl), by decide +kernel, rfl, rfl⟩
def jgt_Pairs : List (Nat × Instr) := [(0, .aload_n 0), (1, .invokespecial 3), (4, .aload_n 0), (5, .sipush 2000), (8, .newarray .int), (10, .putfield 11), (13, .aload_n 0), (14, .sipush 4096), (17, .newarray .int), (19, .putfield 15), (22, .aload_n 0), (23, .bipush 96), (25, .newarray .int), (27, .putfield 18), (30, .aload_n 0), (31, .aload_n 1), (32, .putfield 21)]
theorem jgk_Pairs : jgtok cX4_init jgt_Pairs = true := by decide +kernel
def jgG_Pairs : jgT := jgm [] [(11, 4, 1, 2), (15, 4, 2, 2), (18, 4, 3, 2), (21, 4, 0, 2)] [] 3 0 [] 3 6192
theorem jgp_Pairs : jGP jgG_Pairs := jGP_of rfl jnil
set_option maxRecDepth 100000 in
theorem jgg_Pairs (sh : List jxC) (X : jxX) (hA : jAt X yX4_init cX4_init 1 20 0 sh) (hI : jgI X) (hIn : jgIn X) (hR : (jroom X).cells = 3 ∧ (jroom X).slots = 6192) : jGT X jgG_Pairs := jGT_of hA hI hIn hR ⟨rfl, rfl⟩ jnil (jcon ⟨_, _, jpf_X4_11, fun _ => ⟨rfl, rfl⟩⟩ (jcon ⟨_, _, jpf_X4_15, fun _ => ⟨rfl, rfl⟩⟩ (jcon ⟨_, _, jpf_X4_18, fun _ => ⟨rfl, rfl⟩⟩ (jcon ⟨_, _, jpf_X4_21, fun _ => ⟨rfl, rfl⟩⟩ jnil)))) jnil (jTB_at 578 rfl rfl) (Or.inl rfl) jnil
def jgi_Pairs : jgF := jgfn jgG_Pairs jgt_Pairs 35 23 2 3 6192
theorem jip_Pairs : ∀ as sh σ sh' σ' a b, jgi_Pairs as sh σ = some (sh', σ', a, b) → jgJ sh σ → sh.length ≤ sh'.length ∧ jgJ sh' σ' := jgfn_p jgp_Pairs
theorem jmi_Pairs : ∀ as sh σ sh' σ' a b, jgi_Pairs as sh σ = some (sh', σ', a, b) → jgJ sh σ → jMG yX4_init cX4_init 2 0 1 20 a b sh σ as none sh' σ' := jgfn_ok (by decide) rfl jgk_Pairs (by decide +kernel) jgp_Pairs (jgg_Pairs)
set_option maxRecDepth 100000 in
theorem jpf_X6_9 : jPF RX6 9 6 3 (.array .int) true := ⟨RX6, TX6, 10, tyX6, rfl, by decide, jin_X6, tyX6_ok, nmX6, jow_X6, (jTB_at 606 rfl rfl), by decide +kernel, rfl, rfl⟩
set_option maxRecDepth 100000 in
theorem jpf_X6_15 : jPF RX6 15 6 4 (.array .long) true := ⟨RX6, TX6, 10, tyX6, rfl, by decide, jin_X6, tyX6_ok, nmX6, jow_X6, (jTB_at 607 rfl rfl), by decide +kernel, rfl, rfl⟩
set_option maxRecDepth 100000 in
theorem jpf_X6_19 : jPF RX6 19 6 5 (.array .int) true := ⟨RX6, TX6, 10, tyX6, rfl, by decide, jin_X6, tyX6_ok, nmX6, jow_X6, (jTB_at 608 rfl rfl), by decide +kernel, rfl, rfl⟩
set_option maxRecDepth 100000 in
theorem jpf_X6_22 : jPF RX6 22 6 6 (.array .int) true := ⟨RX6, TX6, 10, tyX6, rfl, by decide, jin_X6, tyX6_ok, nmX6, jow_X6, (jTB_at 609 rfl rfl), by decide +kernel, rfl, rfl⟩
set_option maxRecDepth 100000 in
theorem jpf_X6_25 : jPF RX6 25 6 0 .int true := ⟨RX6, TX6, 10, tyX6, rfl, by decide, jin_X6, tyX6_ok, nmX6, jow_X6, (jTB_at 603 rfl rfl), by decide +kernel, rfl, rfl⟩
set_option maxRecDepth 100000 in
theorem jpf_X6_29 : jPF RX6 29 6 1 (.object "LastLoses$Positions") true := ⟨RX6, TX6, 10, tyX6, rfl, by decide, jin_X6, tyX6_ok, nmX6, jow_X6, (jTB_at 604 rfl rfl), by decide +kernel, rfl, rfl⟩
set_option maxRecDepth 100000 in
theorem jpf_X6_33 : jPF RX6 33 6 2 (.object "LastLoses$Values") true := ⟨RX6, TX6, 10, tyX6, rfl, by decide, jin_X6, tyX6_ok, nmX6, jow_X6, (jTB_at 605 rfl rfl), by decide +kernel, rfl, rfl⟩
def jgt_Quotient : List (Nat × Instr) := [(0, .aload_n 0), (1, .invokespecial 3), (4, .aload_n 0), (5, .bipush 16), (7, .newarray .int), (9, .putfield 9), (12, .aload_n 0), (13, .bipush 16), (15, .newarray .long), (17, .putfield 15), (20, .aload_n 0), (21, .bipush 96), (23, .newarray .int), (25, .putfield 19), (28, .aload_n 0), (29, .bipush 16), (31, .newarray .int), (33, .putfield 22), (36, .aload_n 0), (37, .iload_n 1), (38, .putfield 25), (41, .aload_n 0), (42, .aload_n 2), (43, .putfield 29), (46, .aload_n 0), (47, .aload_n 3), (48, .putfield 33)]
theorem jgk_Quotient : jgtok cX6_init jgt_Quotient = true := by decide +kernel
def jgG_Quotient : jgT := jgm [] [(9, 6, 3, 2), (15, 6, 4, 2), (19, 6, 5, 2), (22, 6, 6, 2), (25, 6, 0, 1), (29, 6, 1, 2), (33, 6, 2, 2)] [] 3 0 [] 4 144
theorem jgp_Quotient : jGP jgG_Quotient := jGP_of rfl jnil
set_option maxRecDepth 100000 in
theorem jgg_Quotient (sh : List jxC) (X : jxX) (hA : jAt X yX6_init cX6_init 1 20 0 sh) (hI : jgI X) (hIn : jgIn X) (hR : (jroom X).cells = 4 ∧ (jroom X).slots = 144) : jGT X jgG_Quotient := jGT_of hA hI hIn hR ⟨rfl, rfl⟩ jnil (jcon ⟨_, _, jpf_X6_9, fun _ => ⟨rfl, rfl⟩⟩ (jcon ⟨_, _, jpf_X6_15, fun _ => ⟨rfl, rfl⟩⟩ (jcon ⟨_, _, jpf_X6_19, fun _ => ⟨rfl, rfl⟩⟩ (jcon ⟨_, _, jpf_X6_22, fun _ => ⟨rfl, rfl⟩⟩ (jcon jpf_X6_25 (jcon ⟨_, _, jpf_X6_29, fun _ => ⟨rfl, rfl⟩⟩ (jcon ⟨_, _, jpf_X6_33, fun _ => ⟨rfl, rfl⟩⟩ jnil))))))) jnil (jTB_at 602 rfl rfl) (Or.inl rfl) jnil
def jgi_Quotient : jgF := jgfn jgG_Quotient jgt_Quotient 51 33 4 4 144
theorem jip_Quotient : ∀ as sh σ sh' σ' a b, jgi_Quotient as sh σ = some (sh', σ', a, b) → jgJ sh σ → sh.length ≤ sh'.length ∧ jgJ sh' σ' := jgfn_p jgp_Quotient
theorem jmi_Quotient : ∀ as sh σ sh' σ' a b, jgi_Quotient as sh σ = some (sh', σ', a, b) → jgJ sh σ → jMG yX6_init cX6_init 4 0 1 20 a b sh σ as none sh' σ' := jgfn_ok (by decide) rfl jgk_Quotient (by decide +kernel) jgp_Quotient (jgg_Quotient)
set_option maxRecDepth 100000 in
theorem jpf_X5_9 : jPF RX5 9 5 0 (.array .int) true := ⟨RX5, TX5, 6, tyX5, rfl, by decide, jin_X5, tyX5_ok, nmX5, jow_X5, (jTB_at 469 rfl rfl), by decide +kernel, rfl, rfl⟩
set_option maxRecDepth 100000 in
theorem jpf_X5_15 : jPF RX5 15 5 1 (.array .int) true := ⟨RX5, TX5, 6, tyX5, rfl, by decide, jin_X5, tyX5_ok, nmX5, jow_X5, (jTB_at 470 rfl rfl), by decide +kernel, rfl, rfl⟩
set_option maxRecDepth 100000 in
theorem jpf_X5_18 : jPF RX5 18 5 2 (.array .int) true := ⟨RX5, TX5, 6, tyX5, rfl, by decide, jin_X5, tyX5_ok, nmX5, jow_X5, (jTB_at 471 rfl rfl), by decide +kernel, rfl, rfl⟩
set_option maxRecDepth 100000 in
theorem jpf_X5_21 : jPF RX5 21 5 3 (.array .int) true := ⟨RX5, TX5, 6, tyX5, rfl, by decide, jin_X5, tyX5_ok, nmX5, jow_X5, (jTB_at 472 rfl rfl), by decide +kernel, rfl, rfl⟩
set_option maxRecDepth 100000 in
theorem jpf_X5_24 : jPF RX5 24 5 4 (.array .int) true := ⟨RX5, TX5, 6, tyX5, rfl, by decide, jin_X5, tyX5_ok, nmX5, jow_X5, (jTB_at 473 rfl rfl), by decide +kernel, rfl, rfl⟩
set_option maxRecDepth 100000 in
theorem jpf_X5_27 : jPF RX5 27 5 5 (.array .int) true := ⟨RX5, TX5, 6, tyX5, rfl, by decide, jin_X5, tyX5_ok, nmX5, jow_X5, (jTB_at 474 rfl rfl), by decide +kernel, rfl, rfl⟩
def jgt_Positions : List (Nat × Instr) := [(0, .aload_n 0), (1, .invokespecial 3), (4, .aload_n 0), (5, .sipush 322), (8, .newarray .int), (10, .putfield 9), (13, .aload_n 0), (14, .bipush 24), (16, .newarray .int), (18, .putfield 15), (21, .aload_n 0), (22, .bipush 14), (24, .newarray .int), (26, .putfield 18), (29, .aload_n 0), (30, .sipush 14202), (33, .newarray .int), (35, .putfield 21), (38, .aload_n 0), (39, .sipush 4225), (42, .newarray .int), (44, .putfield 24), (47, .aload_n 0), (48, .sipush 14202), (51, .newarray .int), (53, .putfield 27)]
theorem jgk_Positions : jgtok cX5_init jgt_Positions = true := by decide +kernel
def jgG_Positions : jgT := jgm [] [(9, 5, 0, 2), (15, 5, 1, 2), (18, 5, 2, 2), (21, 5, 3, 2), (24, 5, 4, 2), (27, 5, 5, 2)] [] 3 0 [] 6 32989
theorem jgp_Positions : jGP jgG_Positions := jGP_of rfl jnil
set_option maxRecDepth 100000 in
theorem jgg_Positions (sh : List jxC) (X : jxX) (hA : jAt X yX5_init cX5_init 4 96 0 sh) (hI : jgI X) (hIn : jgIn X) (hR : (jroom X).cells = 6 ∧ (jroom X).slots = 32989) : jGT X jgG_Positions := jGT_of hA hI hIn hR ⟨rfl, rfl⟩ jnil (jcon ⟨_, _, jpf_X5_9, fun _ => ⟨rfl, rfl⟩⟩ (jcon ⟨_, _, jpf_X5_15, fun _ => ⟨rfl, rfl⟩⟩ (jcon ⟨_, _, jpf_X5_18, fun _ => ⟨rfl, rfl⟩⟩ (jcon ⟨_, _, jpf_X5_21, fun _ => ⟨rfl, rfl⟩⟩ (jcon ⟨_, _, jpf_X5_24, fun _ => ⟨rfl, rfl⟩⟩ (jcon ⟨_, _, jpf_X5_27, fun _ => ⟨rfl, rfl⟩⟩ jnil)))))) jnil (jTB_at 425 rfl rfl) (Or.inl rfl) jnil
set_option maxRecDepth 100000 in
theorem jpf_X0_12 : jPF RX0 12 0 0 (.object "LastLoses$Rules") true := ⟨RX0, TX0, 10, tyX0, rfl, by decide, jin_X0, tyX0_ok, nmX0, jow_X0, (jTB_at 638 rfl rfl), by decide +kernel, rfl, rfl⟩
set_option maxRecDepth 100000 in
theorem jpf_X0_21 : jPF RX0 21 0 1 (.object "LastLoses$Cycle") true := ⟨RX0, TX0, 10, tyX0, rfl, by decide, jin_X0, tyX0_ok, nmX0, jow_X0, (jTB_at 640 rfl rfl), by decide +kernel, rfl, rfl⟩
set_option maxRecDepth 100000 in
theorem jpf_X0_28 : jPF RX0 28 0 2 (.object "LastLoses$Positions") true := ⟨RX0, TX0, 10, tyX0, rfl, by decide, jin_X0, tyX0_ok, nmX0, jow_X0, (jTB_at 642 rfl rfl), by decide +kernel, rfl, rfl⟩
set_option maxRecDepth 100000 in
theorem jpf_X0_35 : jPF RX0 35 0 3 (.object "LastLoses$Hand") true := ⟨RX0, TX0, 10, tyX0, rfl, by decide, jin_X0, tyX0_ok, nmX0, jow_X0, (jTB_at 644 rfl rfl), by decide +kernel, rfl, rfl⟩
set_option maxRecDepth 100000 in
theorem jpf_X0_41 : jPF RX0 41 0 7 (.array (.object "LastLoses$Quotient")) true := ⟨RX0, TX0, 10, tyX0, rfl, by decide, jin_X0, tyX0_ok, nmX0, jow_X0, (jTB_at 650 rfl rfl), by decide +kernel, rfl, rfl⟩
set_option maxRecDepth 100000 in
theorem jpf_X0_50 : jPF RX0 50 0 4 (.object "LastLoses$Values") true := ⟨RX0, TX0, 10, tyX0, rfl, by decide, jin_X0, tyX0_ok, nmX0, jow_X0, (jTB_at 646 rfl rfl), by decide +kernel, rfl, rfl⟩
set_option maxRecDepth 100000 in
theorem jpf_X0_57 : jPF RX0 57 0 5 (.object "LastLoses$Options") true := ⟨RX0, TX0, 10, tyX0, rfl, by decide, jin_X0, tyX0_ok, nmX0, jow_X0, (jTB_at 648 rfl rfl), by decide +kernel, rfl, rfl⟩
set_option maxRecDepth 100000 in
theorem jpf_X0_66 : jPF RX0 66 0 6 (.object "LastLoses$Pairs") true := ⟨RX0, TX0, 10, tyX0, rfl, by decide, jin_X0, tyX0_ok, nmX0, jow_X0, (jTB_at 649 rfl rfl), by decide +kernel, rfl, rfl⟩
set_option maxRecDepth 100000 in
theorem jnw_X0_9 : jNw RX0 9 8 [.inr none, .inr none, .inr none, .inr none, .inr none, .inr none, .inr none, .inr none, .inl 0, .inl 0] := by
  have h : ∀ j, j < 10 → defaultValue (tyX8 j) = vp_V (([.inr none, .inr none, .inr none, .inr none, .inr none, .inr none, .inr none, .inr none, .inl 0, .inl 0] : List jxF).map jgdv) j := by
    intro j hj
    match j, hj with
    | 0, _ => rfl
    | 1, _ => rfl
    | 2, _ => rfl
    | 3, _ => rfl
    | 4, _ => rfl
    | 5, _ => rfl
    | 6, _ => rfl
    | 7, _ => rfl
    | 8, _ => rfl
    | 9, _ => rfl
    | k + 10, h => exact absurd h (by omega)
  exact ⟨RX8, TX8, tyX8, rfl, jin_X8, tyX8_ok, (jTB_at 360 rfl rfl), (jTB_at 361 rfl rfl), (jTB_at 121 rfl rfl), h, rfl⟩
set_option maxRecDepth 100000 in
theorem jnw_X0_18 : jNw RX0 18 1 [.inr none, .inr none, .inl 2, .inl 0, .inl 0] := by
  have h : ∀ j, j < 5 → defaultValue (tyX1 j) = vp_V (([.inr none, .inr none, .inl 2, .inl 0, .inl 0] : List jxF).map jgdv) j := by
    intro j hj
    match j, hj with
    | 0, _ => rfl
    | 1, _ => rfl
    | 2, _ => rfl
    | 3, _ => rfl
    | 4, _ => rfl
    | k + 5, h => exact absurd h (by omega)
  exact ⟨RX1, TX1, tyX1, rfl, jin_X1, tyX1_ok, (jTB_at 398 rfl rfl), (jTB_at 399 rfl rfl), (jTB_at 122 rfl rfl), h, rfl⟩
set_option maxRecDepth 100000 in
theorem jnw_X0_25 : jNw RX0 25 5 [.inr none, .inr none, .inr none, .inr none, .inr none, .inr none] := by
  have h : ∀ j, j < 6 → defaultValue (tyX5 j) = vp_V (([.inr none, .inr none, .inr none, .inr none, .inr none, .inr none] : List jxF).map jgdv) j := by
    intro j hj
    match j, hj with
    | 0, _ => rfl
    | 1, _ => rfl
    | 2, _ => rfl
    | 3, _ => rfl
    | 4, _ => rfl
    | 5, _ => rfl
    | k + 6, h => exact absurd h (by omega)
  exact ⟨RX5, TX5, tyX5, rfl, jin_X5, tyX5_ok, (jTB_at 420 rfl rfl), (jTB_at 421 rfl rfl), (jTB_at 123 rfl rfl), h, rfl⟩
set_option maxRecDepth 100000 in
theorem jnw_X0_32 : jNw RX0 32 2 [.inr none, .inr none, .inl 0, .inl 0, .inl 0] := by
  have h : ∀ j, j < 5 → defaultValue (tyX2 j) = vp_V (([.inr none, .inr none, .inl 0, .inl 0, .inl 0] : List jxF).map jgdv) j := by
    intro j hj
    match j, hj with
    | 0, _ => rfl
    | 1, _ => rfl
    | 2, _ => rfl
    | 3, _ => rfl
    | 4, _ => rfl
    | k + 5, h => exact absurd h (by omega)
  exact ⟨RX2, TX2, tyX2, rfl, jin_X2, tyX2_ok, (jTB_at 488 rfl rfl), (jTB_at 489 rfl rfl), (jTB_at 124 rfl rfl), h, rfl⟩
set_option maxRecDepth 100000 in
theorem jnw_X0_39 : jNw RX0 39 6 [.inl 5, .inr none, .inr none, .inr none, .inr none, .inr none, .inr none, .inl 0, .inl 0, .inl 2] := by
  have h : ∀ j, j < 10 → defaultValue (tyX6 j) = vp_V (([.inl 5, .inr none, .inr none, .inr none, .inr none, .inr none, .inr none, .inl 0, .inl 0, .inl 2] : List jxF).map jgdv) j := by
    intro j hj
    match j, hj with
    | 0, _ => rfl
    | 1, _ => rfl
    | 2, _ => rfl
    | 3, _ => rfl
    | 4, _ => rfl
    | 5, _ => rfl
    | 6, _ => rfl
    | 7, _ => rfl
    | 8, _ => rfl
    | 9, _ => rfl
    | k + 10, h => exact absurd h (by omega)
  exact ⟨RX6, TX6, tyX6, rfl, jin_X6, tyX6_ok, (jTB_at 510 rfl rfl), (jTB_at 598 rfl rfl), (jTB_at 128 rfl rfl), h, rfl⟩
set_option maxRecDepth 100000 in
theorem jnw_X0_45 : jNw RX0 45 10 [.inr none, .inr none, .inr none, .inr none, .inr none, .inr none, .inr none, .inl 0, .inl 0] := by
  have h : ∀ j, j < 9 → defaultValue (tyX10 j) = vp_V (([.inr none, .inr none, .inr none, .inr none, .inr none, .inr none, .inr none, .inl 0, .inl 0] : List jxF).map jgdv) j := by
    intro j hj
    match j, hj with
    | 0, _ => rfl
    | 1, _ => rfl
    | 2, _ => rfl
    | 3, _ => rfl
    | 4, _ => rfl
    | 5, _ => rfl
    | 6, _ => rfl
    | 7, _ => rfl
    | 8, _ => rfl
    | k + 9, h => exact absurd h (by omega)
  exact ⟨RX10, TX10, tyX10, rfl, jin_X10, tyX10_ok, (jTB_at 512 rfl rfl), (jTB_at 513 rfl rfl), (jTB_at 125 rfl rfl), h, rfl⟩
set_option maxRecDepth 100000 in
theorem jnw_X0_54 : jNw RX0 54 3 [.inr none, .inr none, .inr none, .inr none, .inl 0] := by
  have h : ∀ j, j < 5 → defaultValue (tyX3 j) = vp_V (([.inr none, .inr none, .inr none, .inr none, .inl 0] : List jxF).map jgdv) j := by
    intro j hj
    match j, hj with
    | 0, _ => rfl
    | 1, _ => rfl
    | 2, _ => rfl
    | 3, _ => rfl
    | 4, _ => rfl
    | k + 5, h => exact absurd h (by omega)
  exact ⟨RX3, TX3, tyX3, rfl, jin_X3, tyX3_ok, (jTB_at 571 rfl rfl), (jTB_at 519 rfl rfl), (jTB_at 126 rfl rfl), h, rfl⟩
set_option maxRecDepth 100000 in
theorem jnw_X0_61 : jNw RX0 61 4 [.inr none, .inr none, .inr none, .inr none, .inl 0, .inl 2] := by
  have h : ∀ j, j < 6 → defaultValue (tyX4 j) = vp_V (([.inr none, .inr none, .inr none, .inr none, .inl 0, .inl 2] : List jxF).map jgdv) j := by
    intro j hj
    match j, hj with
    | 0, _ => rfl
    | 1, _ => rfl
    | 2, _ => rfl
    | 3, _ => rfl
    | 4, _ => rfl
    | 5, _ => rfl
    | k + 6, h => exact absurd h (by omega)
  exact ⟨RX4, TX4, tyX4, rfl, jin_X4, tyX4_ok, (jTB_at 573 rfl rfl), (jTB_at 574 rfl rfl), (jTB_at 127 rfl rfl), h, rfl⟩
set_option maxRecDepth 100000 in
theorem jli_X0_11 : jLkI RX0 11 yX8_init cX8_init 1 0 := ⟨Or.inr ⟨"LastLoses", (jNS_at 362 rfl rfl)⟩, (jTB_at 363 rfl rfl), (jTB_at 121 rfl rfl), (jTB_at 364 rfl rfl), rfl, ⟨by decide, by decide, by decide +kernel⟩⟩
set_option maxRecDepth 100000 in
theorem jli_X0_20 : jLkI RX0 20 yX1_init cX1_init 1 0 := ⟨Or.inr ⟨"LastLoses", (jNS_at 400 rfl rfl)⟩, (jTB_at 401 rfl rfl), (jTB_at 122 rfl rfl), (jTB_at 402 rfl rfl), rfl, ⟨by decide, by decide, by decide +kernel⟩⟩
set_option maxRecDepth 100000 in
theorem jli_X0_27 : jLkI RX0 27 yX5_init cX5_init 4 0 := ⟨Or.inl (jTB_at 422 rfl rfl), (jTB_at 423 rfl rfl), (jTB_at 123 rfl rfl), (jTB_at 424 rfl rfl), rfl, ⟨by decide, by decide, by decide +kernel⟩⟩
set_option maxRecDepth 100000 in
theorem jli_X0_34 : jLkI RX0 34 yX2_init cX2_init 1 0 := ⟨Or.inr ⟨"LastLoses", (jNS_at 490 rfl rfl)⟩, (jTB_at 491 rfl rfl), (jTB_at 124 rfl rfl), (jTB_at 492 rfl rfl), rfl, ⟨by decide, by decide, by decide +kernel⟩⟩
set_option maxRecDepth 100000 in
theorem jli_X0_47 : jLkI RX0 47 yX10_init cX10_init 3 2 := ⟨Or.inl (jTB_at 514 rfl rfl), (jTB_at 515 rfl rfl), (jTB_at 125 rfl rfl), (jTB_at 516 rfl rfl), rfl, ⟨by decide, by decide, by decide +kernel⟩⟩
set_option maxRecDepth 100000 in
theorem jli_X0_56 : jLkI RX0 56 yX3_init cX3_init 3 2 := ⟨Or.inl (jTB_at 572 rfl rfl), (jTB_at 521 rfl rfl), (jTB_at 126 rfl rfl), (jTB_at 522 rfl rfl), rfl, ⟨by decide, by decide, by decide +kernel⟩⟩
set_option maxRecDepth 100000 in
theorem jli_X0_63 : jLkI RX0 63 yX4_init cX4_init 2 1 := ⟨Or.inl (jTB_at 575 rfl rfl), (jTB_at 576 rfl rfl), (jTB_at 127 rfl rfl), (jTB_at 577 rfl rfl), rfl, ⟨by decide, by decide, by decide +kernel⟩⟩
set_option maxRecDepth 100000 in
theorem jli_X0_70 : jLkI RX0 70 yX6_init cX6_init 4 3 := ⟨Or.inl (jTB_at 599 rfl rfl), (jTB_at 600 rfl rfl), (jTB_at 128 rfl rfl), (jTB_at 601 rfl rfl), rfl, ⟨by decide, by decide, by decide +kernel⟩⟩
def jgt_Board : List (Nat × Instr) := [(0, .aload_n 0), (1, .invokespecial 3), (4, .aload_n 0), (5, .new 9), (8, .dup), (9, .invokespecial 11), (12, .putfield 12), (15, .aload_n 0), (16, .new 18), (19, .dup), (20, .invokespecial 20), (23, .putfield 21), (26, .aload_n 0), (27, .new 25), (30, .dup), (31, .invokespecial 27), (34, .putfield 28), (37, .aload_n 0), (38, .new 32), (41, .dup), (42, .invokespecial 34), (45, .putfield 35), (48, .aload_n 0), (49, .bipush 6), (51, .anewarray 39), (54, .putfield 41), (57, .aload_n 0), (58, .new 45), (61, .dup), (62, .aload_n 0), (63, .getfield 28), (66, .aload_n 0), (67, .getfield 12), (70, .invokespecial 47), (73, .putfield 50), (76, .aload_n 0), (77, .new 54), (80, .dup), (81, .aload_n 0), (82, .getfield 28), (85, .aload_n 0), (86, .getfield 12), (89, .invokespecial 56), (92, .putfield 57), (95, .aload_n 0), (96, .new 61), (99, .dup), (100, .aload_n 0), (101, .getfield 12), (104, .invokespecial 63), (107, .putfield 66), (110, .iconst 1), (111, .istore_n 1), (112, .iload_n 1), (113, .bipush 6), (115, .if_icmp .gt 33), (118, .aload_n 0), (119, .getfield 41), (122, .iload_n 1), (123, .iconst 1), (124, .isub), (125, .new 39), (128, .dup), (129, .iload_n 1), (130, .aload_n 0), (131, .getfield 28), (134, .aload_n 0), (135, .getfield 50), (138, .invokespecial 70), (141, .aastore), (142, .iinc 1 1), (145, .goto (-33))]
theorem jgk_Board : jgtok cX0_init jgt_Board = true := by decide +kernel
def jgG_Board : jgT := jgm [(12, 0, 0), (28, 0, 2), (41, 0, 7), (50, 0, 4)] [(12, 0, 0, 2), (21, 0, 1, 2), (28, 0, 2, 2), (35, 0, 3, 2), (41, 0, 7, 2), (50, 0, 4, 2), (57, 0, 5, 2), (66, 0, 6, 2)] [(9, 8, [.inr none, .inr none, .inr none, .inr none, .inr none, .inr none, .inr none, .inr none, .inl 0, .inl 0]), (18, 1, [.inr none, .inr none, .inl 2, .inl 0, .inl 0]), (25, 5, [.inr none, .inr none, .inr none, .inr none, .inr none, .inr none]), (32, 2, [.inr none, .inr none, .inl 0, .inl 0, .inl 0]), (39, 6, [.inl 5, .inr none, .inr none, .inr none, .inr none, .inr none, .inr none, .inl 0, .inl 0, .inl 2]), (45, 10, [.inr none, .inr none, .inr none, .inr none, .inr none, .inr none, .inr none, .inl 0, .inl 0]), (54, 3, [.inr none, .inr none, .inr none, .inr none, .inl 0]), (61, 4, [.inr none, .inr none, .inr none, .inr none, .inl 0, .inl 2])] 3 39 [(11, 0, jgi_Rules), (20, 0, jgi_Cycle), (34, 0, jgi_Hand), (47, 2, jgi_Values), (56, 2, jgi_Options), (63, 1, jgi_Pairs), (70, 3, jgi_Quotient)] 68 51001
theorem jgp_Board : jGP jgG_Board := jGP_of rfl (jcon jip_Rules (jcon jip_Cycle (jcon jip_Hand (jcon jip_Values (jcon jip_Options (jcon jip_Pairs (jcon jip_Quotient jnil)))))))
set_option maxRecDepth 100000 in
theorem jgg_Board (sh : List jxC) (X : jxX) (hA : jAt X yX0_init cX0_init 5 119 0 sh) (hI : jgI X) (hIn : jgIn X) (hR : (jroom X).cells = 68 ∧ (jroom X).slots = 51001) : jGT X jgG_Board := jGT_of hA hI hIn hR ⟨rfl, rfl⟩ (jcon jfl_X0_12 (jcon jfl_X0_28 (jcon jfl_X0_41 (jcon jfl_X0_50 jnil)))) (jcon ⟨_, _, jpf_X0_12, fun _ => ⟨rfl, rfl⟩⟩ (jcon ⟨_, _, jpf_X0_21, fun _ => ⟨rfl, rfl⟩⟩ (jcon ⟨_, _, jpf_X0_28, fun _ => ⟨rfl, rfl⟩⟩ (jcon ⟨_, _, jpf_X0_35, fun _ => ⟨rfl, rfl⟩⟩ (jcon ⟨_, _, jpf_X0_41, fun _ => ⟨rfl, rfl⟩⟩ (jcon ⟨_, _, jpf_X0_50, fun _ => ⟨rfl, rfl⟩⟩ (jcon ⟨_, _, jpf_X0_57, fun _ => ⟨rfl, rfl⟩⟩ (jcon ⟨_, _, jpf_X0_66, fun _ => ⟨rfl, rfl⟩⟩ jnil)))))))) (jcon jnw_X0_9 (jcon jnw_X0_18 (jcon jnw_X0_25 (jcon jnw_X0_32 (jcon jnw_X0_39 (jcon jnw_X0_45 (jcon jnw_X0_54 (jcon jnw_X0_61 jnil)))))))) (jTB_at 359 rfl rfl) (Or.inr (jTB_at 510 rfl rfl)) (jcon ⟨_, _, _, _, _, jli_X0_11, ⟨jble rfl, jble rfl⟩, jmi_Rules⟩ (jcon ⟨_, _, _, _, _, jli_X0_20, ⟨jble rfl, jble rfl⟩, jmi_Cycle⟩ (jcon ⟨_, _, _, _, _, jli_X0_34, ⟨jble rfl, jble rfl⟩, jmi_Hand⟩ (jcon ⟨_, _, _, _, _, jli_X0_47, ⟨jble rfl, jble rfl⟩, jmi_Values⟩ (jcon ⟨_, _, _, _, _, jli_X0_56, ⟨jble rfl, jble rfl⟩, jmi_Options⟩ (jcon ⟨_, _, _, _, _, jli_X0_63, ⟨jble rfl, jble rfl⟩, jmi_Pairs⟩ (jcon ⟨_, _, _, _, _, jli_X0_70, ⟨jble rfl, jble rfl⟩, jmi_Quotient⟩ jnil)))))))
set_option maxRecDepth 100000 in
theorem jpf_X12_7 : jPF RX12 7 12 0 (.array .byte) true := ⟨RX12, TX12, 57, tyX12, rfl, by decide, jin_X12, tyX12_ok, nmX12, jow_X12, (jTB_at 1341 rfl rfl), by decide +kernel, rfl, rfl⟩
set_option maxRecDepth 100000 in
theorem jpf_X12_13 : jPF RX12 13 12 5 (.array .byte) true := ⟨RX12, TX12, 57, tyX12, rfl, by decide, jin_X12, tyX12_ok, nmX12, jow_X12, (jTB_at 1346 rfl rfl), by decide +kernel, rfl, rfl⟩
set_option maxRecDepth 100000 in
theorem jpf_X12_16 : jPF RX12 16 12 8 (.array .int) true := ⟨RX12, TX12, 57, tyX12, rfl, by decide, jin_X12, tyX12_ok, nmX12, jow_X12, (jTB_at 1349 rfl rfl), by decide +kernel, rfl, rfl⟩
set_option maxRecDepth 100000 in
theorem jpf_X12_20 : jPF RX12 20 12 9 (.array .boolean) true := ⟨RX12, TX12, 57, tyX12, rfl, by decide, jin_X12, tyX12_ok, nmX12, jow_X12, (jTB_at 1350 rfl rfl), by decide +kernel, rfl, rfl⟩
set_option maxRecDepth 100000 in
theorem jpf_X12_24 : jPF RX12 24 12 10 (.array .boolean) true := ⟨RX12, TX12, 57, tyX12, rfl, by decide, jin_X12, tyX12_ok, nmX12, jow_X12, (jTB_at 1351 rfl rfl), by decide +kernel, rfl, rfl⟩
set_option maxRecDepth 100000 in
theorem jpf_X12_27 : jPF RX12 27 12 14 (.array .int) true := ⟨RX12, TX12, 57, tyX12, rfl, by decide, jin_X12, tyX12_ok, nmX12, jow_X12, (jTB_at 1355 rfl rfl), by decide +kernel, rfl, rfl⟩
set_option maxRecDepth 100000 in
theorem jpf_X12_30 : jPF RX12 30 12 15 (.array .boolean) true := ⟨RX12, TX12, 57, tyX12, rfl, by decide, jin_X12, tyX12_ok, nmX12, jow_X12, (jTB_at 1356 rfl rfl), by decide +kernel, rfl, rfl⟩
set_option maxRecDepth 100000 in
theorem jpf_X12_33 : jPF RX12 33 12 16 (.array .boolean) true := ⟨RX12, TX12, 57, tyX12, rfl, by decide, jin_X12, tyX12_ok, nmX12, jow_X12, (jTB_at 1357 rfl rfl), by decide +kernel, rfl, rfl⟩
set_option maxRecDepth 100000 in
theorem jpf_X12_36 : jPF RX12 36 12 18 (.array .int) true := ⟨RX12, TX12, 57, tyX12, rfl, by decide, jin_X12, tyX12_ok, nmX12, jow_X12, (jTB_at 1359 rfl rfl), by decide +kernel, rfl, rfl⟩
set_option maxRecDepth 100000 in
theorem jpf_X12_39 : jPF RX12 39 12 19 (.array .int) true := ⟨RX12, TX12, 57, tyX12, rfl, by decide, jin_X12, tyX12_ok, nmX12, jow_X12, (jTB_at 1360 rfl rfl), by decide +kernel, rfl, rfl⟩
set_option maxRecDepth 100000 in
theorem jpf_X12_42 : jPF RX12 42 12 20 (.array .int) true := ⟨RX12, TX12, 57, tyX12, rfl, by decide, jin_X12, tyX12_ok, nmX12, jow_X12, (jTB_at 1361 rfl rfl), by decide +kernel, rfl, rfl⟩
set_option maxRecDepth 100000 in
theorem jpf_X12_45 : jPF RX12 45 12 21 (.array .boolean) true := ⟨RX12, TX12, 57, tyX12, rfl, by decide, jin_X12, tyX12_ok, nmX12, jow_X12, (jTB_at 1362 rfl rfl), by decide +kernel, rfl, rfl⟩
set_option maxRecDepth 100000 in
theorem jpf_X12_48 : jPF RX12 48 12 22 (.array .int) true := ⟨RX12, TX12, 57, tyX12, rfl, by decide, jin_X12, tyX12_ok, nmX12, jow_X12, (jTB_at 1363 rfl rfl), by decide +kernel, rfl, rfl⟩
set_option maxRecDepth 100000 in
theorem jpf_X12_51 : jPF RX12 51 12 23 (.array .int) true := ⟨RX12, TX12, 57, tyX12, rfl, by decide, jin_X12, tyX12_ok, nmX12, jow_X12, (jTB_at 1364 rfl rfl), by decide +kernel, rfl, rfl⟩
set_option maxRecDepth 100000 in
theorem jpf_X12_54 : jPF RX12 54 12 25 (.array .boolean) true := ⟨RX12, TX12, 57, tyX12, rfl, by decide, jin_X12, tyX12_ok, nmX12, jow_X12, (jTB_at 1366 rfl rfl), by decide +kernel, rfl, rfl⟩
set_option maxRecDepth 100000 in
theorem jpf_X12_57 : jPF RX12 57 12 26 (.array .int) true := ⟨RX12, TX12, 57, tyX12, rfl, by decide, jin_X12, tyX12_ok, nmX12, jow_X12, (jTB_at 1367 rfl rfl), by decide +kernel, rfl, rfl⟩
set_option maxRecDepth 100000 in
theorem jpf_X12_60 : jPF RX12 60 12 27 (.array .int) true := ⟨RX12, TX12, 57, tyX12, rfl, by decide, jin_X12, tyX12_ok, nmX12, jow_X12, (jTB_at 1368 rfl rfl), by decide +kernel, rfl, rfl⟩
set_option maxRecDepth 100000 in
theorem jpf_X12_63 : jPF RX12 63 12 28 (.array .int) true := ⟨RX12, TX12, 57, tyX12, rfl, by decide, jin_X12, tyX12_ok, nmX12, jow_X12, (jTB_at 1369 rfl rfl), by decide +kernel, rfl, rfl⟩
set_option maxRecDepth 100000 in
theorem jpf_X12_66 : jPF RX12 66 12 29 (.array .int) true := ⟨RX12, TX12, 57, tyX12, rfl, by decide, jin_X12, tyX12_ok, nmX12, jow_X12, (jTB_at 1370 rfl rfl), by decide +kernel, rfl, rfl⟩
set_option maxRecDepth 100000 in
theorem jpf_X12_69 : jPF RX12 69 12 30 (.array .int) true := ⟨RX12, TX12, 57, tyX12, rfl, by decide, jin_X12, tyX12_ok, nmX12, jow_X12, (jTB_at 1371 rfl rfl), by decide +kernel, rfl, rfl⟩
set_option maxRecDepth 100000 in
theorem jpf_X12_72 : jPF RX12 72 12 31 (.array .int) true := ⟨RX12, TX12, 57, tyX12, rfl, by decide, jin_X12, tyX12_ok, nmX12, jow_X12, (jTB_at 1372 rfl rfl), by decide +kernel, rfl, rfl⟩
set_option maxRecDepth 100000 in
theorem jpf_X12_75 : jPF RX12 75 12 33 (.array .int) true := ⟨RX12, TX12, 57, tyX12, rfl, by decide, jin_X12, tyX12_ok, nmX12, jow_X12, (jTB_at 1374 rfl rfl), by decide +kernel, rfl, rfl⟩
set_option maxRecDepth 100000 in
theorem jpf_X12_78 : jPF RX12 78 12 34 (.array .int) true := ⟨RX12, TX12, 57, tyX12, rfl, by decide, jin_X12, tyX12_ok, nmX12, jow_X12, (jTB_at 1375 rfl rfl), by decide +kernel, rfl, rfl⟩
set_option maxRecDepth 100000 in
theorem jpf_X12_81 : jPF RX12 81 12 35 (.array .int) true := ⟨RX12, TX12, 57, tyX12, rfl, by decide, jin_X12, tyX12_ok, nmX12, jow_X12, (jTB_at 1376 rfl rfl), by decide +kernel, rfl, rfl⟩
set_option maxRecDepth 100000 in
theorem jpf_X12_84 : jPF RX12 84 12 36 (.array .int) true := ⟨RX12, TX12, 57, tyX12, rfl, by decide, jin_X12, tyX12_ok, nmX12, jow_X12, (jTB_at 1377 rfl rfl), by decide +kernel, rfl, rfl⟩
set_option maxRecDepth 100000 in
theorem jpf_X12_87 : jPF RX12 87 12 38 (.array .int) true := ⟨RX12, TX12, 57, tyX12, rfl, by decide, jin_X12, tyX12_ok, nmX12, jow_X12, (jTB_at 1379 rfl rfl), by decide +kernel, rfl, rfl⟩
set_option maxRecDepth 100000 in
theorem jpf_X12_90 : jPF RX12 90 12 39 (.array .int) true := ⟨RX12, TX12, 57, tyX12, rfl, by decide, jin_X12, tyX12_ok, nmX12, jow_X12, (jTB_at 1380 rfl rfl), by decide +kernel, rfl, rfl⟩
set_option maxRecDepth 100000 in
theorem jpf_X12_93 : jPF RX12 93 12 41 (.array .int) true := ⟨RX12, TX12, 57, tyX12, rfl, by decide, jin_X12, tyX12_ok, nmX12, jow_X12, (jTB_at 1382 rfl rfl), by decide +kernel, rfl, rfl⟩
set_option maxRecDepth 100000 in
theorem jpf_X12_96 : jPF RX12 96 12 42 (.array .int) true := ⟨RX12, TX12, 57, tyX12, rfl, by decide, jin_X12, tyX12_ok, nmX12, jow_X12, (jTB_at 1383 rfl rfl), by decide +kernel, rfl, rfl⟩
set_option maxRecDepth 100000 in
theorem jpf_X12_99 : jPF RX12 99 12 45 (.array .boolean) true := ⟨RX12, TX12, 57, tyX12, rfl, by decide, jin_X12, tyX12_ok, nmX12, jow_X12, (jTB_at 1386 rfl rfl), by decide +kernel, rfl, rfl⟩
set_option maxRecDepth 100000 in
theorem jpf_X12_102 : jPF RX12 102 12 46 (.array .int) true := ⟨RX12, TX12, 57, tyX12, rfl, by decide, jin_X12, tyX12_ok, nmX12, jow_X12, (jTB_at 1387 rfl rfl), by decide +kernel, rfl, rfl⟩
set_option maxRecDepth 100000 in
theorem jpf_X12_105 : jPF RX12 105 12 47 (.array .int) true := ⟨RX12, TX12, 57, tyX12, rfl, by decide, jin_X12, tyX12_ok, nmX12, jow_X12, (jTB_at 1388 rfl rfl), by decide +kernel, rfl, rfl⟩
set_option maxRecDepth 100000 in
theorem jpf_X12_108 : jPF RX12 108 12 48 (.array .int) true := ⟨RX12, TX12, 57, tyX12, rfl, by decide, jin_X12, tyX12_ok, nmX12, jow_X12, (jTB_at 1389 rfl rfl), by decide +kernel, rfl, rfl⟩
set_option maxRecDepth 100000 in
theorem jpf_X12_111 : jPF RX12 111 12 49 (.array .int) true := ⟨RX12, TX12, 57, tyX12, rfl, by decide, jin_X12, tyX12_ok, nmX12, jow_X12, (jTB_at 1390 rfl rfl), by decide +kernel, rfl, rfl⟩
set_option maxRecDepth 100000 in
theorem jpf_X12_114 : jPF RX12 114 12 50 (.array .int) true := ⟨RX12, TX12, 57, tyX12, rfl, by decide, jin_X12, tyX12_ok, nmX12, jow_X12, (jTB_at 1391 rfl rfl), by decide +kernel, rfl, rfl⟩
set_option maxRecDepth 100000 in
theorem jpf_X12_117 : jPF RX12 117 12 51 (.array .int) true := ⟨RX12, TX12, 57, tyX12, rfl, by decide, jin_X12, tyX12_ok, nmX12, jow_X12, (jTB_at 1392 rfl rfl), by decide +kernel, rfl, rfl⟩
set_option maxRecDepth 100000 in
theorem jpf_X12_120 : jPF RX12 120 12 52 (.array .long) true := ⟨RX12, TX12, 57, tyX12, rfl, by decide, jin_X12, tyX12_ok, nmX12, jow_X12, (jTB_at 1393 rfl rfl), by decide +kernel, rfl, rfl⟩
set_option maxRecDepth 100000 in
theorem jpf_X12_124 : jPF RX12 124 12 53 (.array .int) true := ⟨RX12, TX12, 57, tyX12, rfl, by decide, jin_X12, tyX12_ok, nmX12, jow_X12, (jTB_at 1394 rfl rfl), by decide +kernel, rfl, rfl⟩
set_option maxRecDepth 100000 in
theorem jpf_X12_127 : jPF RX12 127 12 54 (.array .int) true := ⟨RX12, TX12, 57, tyX12, rfl, by decide, jin_X12, tyX12_ok, nmX12, jow_X12, (jTB_at 1395 rfl rfl), by decide +kernel, rfl, rfl⟩
set_option maxRecDepth 100000 in
theorem jpf_X12_130 : jPF RX12 130 12 55 (.array .int) true := ⟨RX12, TX12, 57, tyX12, rfl, by decide, jin_X12, tyX12_ok, nmX12, jow_X12, (jTB_at 1396 rfl rfl), by decide +kernel, rfl, rfl⟩
set_option maxRecDepth 100000 in
theorem jpf_X12_133 : jPF RX12 133 12 56 (.array .int) true := ⟨RX12, TX12, 57, tyX12, rfl, by decide, jin_X12, tyX12_ok, nmX12, jow_X12, (jTB_at 1397 rfl rfl), by decide +kernel, rfl, rfl⟩
def jgt_Model : List (Nat × Instr) := [(0, .aload_n 0), (1, .invokespecial 1), (4, .aload_n 0), (5, .sipush 200), (8, .newarray .byte), (10, .putfield 7), (13, .aload_n 0), (14, .bipush 24), (16, .newarray .byte), (18, .dup), (19, .iconst 0), (20, .bipush 111), (22, .bastore), (23, .dup), (24, .iconst 1), (25, .bipush 99), (27, .bastore), (28, .dup), (29, .iconst 2), (30, .bipush 116), (32, .bastore), (33, .dup), (34, .iconst 3), (35, .bipush 97), (37, .bastore), (38, .dup), (39, .iconst 4), (40, .bipush 108), (42, .bastore), (43, .dup), (44, .iconst 5), (45, .iconst 0), (46, .bastore), (47, .dup), (48, .bipush 6), (50, .bipush 97), (52, .bastore), (53, .dup), (54, .bipush 7), (56, .bipush 108), (58, .bastore), (59, .dup), (60, .bipush 8), (62, .bipush 115), (64, .bastore), (65, .dup), (66, .bipush 9), (68, .bipush 111), (70, .bastore), (71, .dup), (72, .bipush 10), (74, .iconst 0), (75, .bastore), (76, .dup), (77, .bipush 11), (79, .iconst 0), (80, .bastore), (81, .dup), (82, .bipush 12), (84, .bipush 110), (86, .bastore), (87, .dup), (88, .bipush 13), (90, .bipush 101), (92, .bastore), (93, .dup), (94, .bipush 14), (96, .bipush 118), (98, .bastore), (99, .dup), (100, .bipush 15), (102, .bipush 101), (104, .bastore), (105, .dup), (106, .bipush 16), (108, .bipush 114), (110, .bastore), (111, .dup), (112, .bipush 17), (114, .iconst 0), (115, .bastore), (116, .dup), (117, .bipush 18), (119, .bipush 116), (121, .bastore), (122, .dup), (123, .bipush 19), (125, .bipush 111), (127, .bastore), (128, .dup), (129, .bipush 20), (131, .iconst 0), (132, .bastore), (133, .dup), (134, .bipush 21), (136, .iconst 0), (137, .bastore), (138, .dup), (139, .bipush 22), (141, .iconst 0), (142, .bastore), (143, .dup), (144, .bipush 23), (146, .iconst 0), (147, .bastore), (148, .putfield 13), (151, .aload_n 0), (152, .bipush 8), (154, .newarray .int), (156, .putfield 16), (159, .aload_n 0), (160, .sipush 2197), (163, .newarray .boolean), (165, .putfield 20), (168, .aload_n 0), (169, .bipush 117), (171, .newarray .boolean), (173, .putfield 24), (176, .aload_n 0), (177, .bipush 8), (179, .newarray .int), (181, .putfield 27), (184, .aload_n 0), (185, .sipush 2197), (188, .newarray .boolean), (190, .putfield 30), (193, .aload_n 0), (194, .bipush 117), (196, .newarray .boolean), (198, .putfield 33), (201, .aload_n 0), (202, .sipush 832), (205, .newarray .int), (207, .putfield 36), (210, .aload_n 0), (211, .bipush 13), (213, .newarray .int), (215, .putfield 39), (218, .aload_n 0), (219, .sipush 161), (222, .newarray .int), (224, .putfield 42), (227, .aload_n 0), (228, .sipush 1024), (231, .newarray .boolean), (233, .putfield 45), (236, .aload_n 0), (237, .sipush 322), (240, .newarray .int), (242, .putfield 48), (245, .aload_n 0), (246, .bipush 24), (248, .newarray .int), (250, .putfield 51), (253, .aload_n 0), (254, .sipush 4600), (257, .newarray .boolean), (259, .putfield 54), (262, .aload_n 0), (263, .sipush 4600), (266, .newarray .int), (268, .putfield 57), (271, .aload_n 0), (272, .sipush 4600), (275, .newarray .int), (277, .putfield 60), (280, .aload_n 0), (281, .sipush 4600), (284, .newarray .int), (286, .putfield 63), (289, .aload_n 0), (290, .sipush 27600), (293, .newarray .int), (295, .putfield 66), (298, .aload_n 0), (299, .bipush 13), (301, .newarray .int), (303, .putfield 69), (306, .aload_n 0), (307, .sipush 512), (310, .newarray .int), (312, .putfield 72), (315, .aload_n 0), (316, .bipush 6), (318, .newarray .int), (320, .dup), (321, .iconst 0), (322, .iconst 0), (323, .iastore), (324, .dup), (325, .iconst 1), (326, .iconst 1), (327, .iastore), (328, .dup), (329, .iconst 2), (330, .iconst 1), (331, .iastore), (332, .dup), (333, .iconst 3), (334, .iconst 2), (335, .iastore), (336, .dup), (337, .iconst 4), (338, .iconst 3), (339, .iastore), (340, .dup), (341, .iconst 5), (342, .iconst 2), (343, .iastore), (344, .putfield 75), (347, .aload_n 0), (348, .bipush 18), (350, .newarray .int), (352, .dup), (353, .iconst 0), (354, .iconst 0), (355, .iastore), (356, .dup), (357, .iconst 1), (358, .iconst 0), (359, .iastore), (360, .dup), (361, .iconst 2), (362, .iconst 0), (363, .iastore), (364, .dup), (365, .iconst 3), (366, .iconst 0), (367, .iastore), (368, .dup), (369, .iconst 4), (370, .iconst 0), (371, .iastore), (372, .dup), (373, .iconst 5), (374, .iconst 0), (375, .iastore), (376, .dup), (377, .bipush 6), (379, .iconst 1), (380, .iastore), (381, .dup), (382, .bipush 7), (384, .iconst 0), (385, .iastore), (386, .dup), (387, .bipush 8), (389, .iconst 0), (390, .iastore), (391, .dup), (392, .bipush 9), (394, .iconst 0), (395, .iastore), (396, .dup), (397, .bipush 10), (399, .iconst 1), (400, .iastore), (401, .dup), (402, .bipush 11), (404, .iconst 0), (405, .iastore), (406, .dup), (407, .bipush 12), (409, .iconst 1), (410, .iastore), (411, .dup), (412, .bipush 13), (414, .iconst 2), (415, .iastore), (416, .dup), (417, .bipush 14), (419, .iconst 3), (420, .iastore), (421, .dup), (422, .bipush 15), (424, .iconst 3), (425, .iastore), (426, .dup), (427, .bipush 16), (429, .iconst 4), (430, .iastore), (431, .dup), (432, .bipush 17), (434, .iconst 0), (435, .iastore), (436, .putfield 78), (439, .aload_n 0), (440, .bipush 13), (442, .newarray .int), (444, .putfield 81), (447, .aload_n 0), (448, .sipush 390), (451, .newarray .int), (453, .putfield 84), (456, .aload_n 0), (457, .bipush 13), (459, .newarray .int), (461, .putfield 87), (464, .aload_n 0), (465, .bipush 39), (467, .newarray .int), (469, .putfield 90), (472, .aload_n 0), (473, .bipush 13), (475, .newarray .int), (477, .putfield 93), (480, .aload_n 0), (481, .bipush 13), (483, .newarray .int), (485, .putfield 96), (488, .aload_n 0), (489, .bipush 7), (491, .newarray .boolean), (493, .putfield 99), (496, .aload_n 0), (497, .bipush 7), (499, .newarray .int), (501, .putfield 102), (504, .aload_n 0), (505, .sipush 784), (508, .newarray .int), (510, .putfield 105), (513, .aload_n 0), (514, .sipush 784), (517, .newarray .int), (519, .putfield 108), (522, .aload_n 0), (523, .bipush 7), (525, .newarray .int), (527, .putfield 111), (530, .aload_n 0), (531, .bipush 7), (533, .newarray .int), (535, .putfield 114), (538, .aload_n 0), (539, .bipush 7), (541, .newarray .int), (543, .putfield 117), (546, .aload_n 0), (547, .bipush 16), (549, .newarray .long), (551, .putfield 120), (554, .aload_n 0), (555, .bipush 13), (557, .newarray .int), (559, .putfield 124), (562, .aload_n 0), (563, .sipush 2000), (566, .newarray .int), (568, .putfield 127), (571, .aload_n 0), (572, .sipush 2000), (575, .newarray .int), (577, .putfield 130), (580, .aload_n 0), (581, .bipush 16), (583, .newarray .int), (585, .putfield 133)]
theorem jgk_Model : jgtok cX12_init jgt_Model = true := by decide +kernel
def jgG_Model : jgT := jgm [] [(7, 12, 0, 2), (13, 12, 5, 2), (16, 12, 8, 2), (20, 12, 9, 2), (24, 12, 10, 2), (27, 12, 14, 2), (30, 12, 15, 2), (33, 12, 16, 2), (36, 12, 18, 2), (39, 12, 19, 2), (42, 12, 20, 2), (45, 12, 21, 2), (48, 12, 22, 2), (51, 12, 23, 2), (54, 12, 25, 2), (57, 12, 26, 2), (60, 12, 27, 2), (63, 12, 28, 2), (66, 12, 29, 2), (69, 12, 30, 2), (72, 12, 31, 2), (75, 12, 33, 2), (78, 12, 34, 2), (81, 12, 35, 2), (84, 12, 36, 2), (87, 12, 38, 2), (90, 12, 39, 2), (93, 12, 41, 2), (96, 12, 42, 2), (99, 12, 45, 2), (102, 12, 46, 2), (105, 12, 47, 2), (108, 12, 48, 2), (111, 12, 49, 2), (114, 12, 50, 2), (117, 12, 51, 2), (120, 12, 52, 2), (124, 12, 53, 2), (127, 12, 54, 2), (130, 12, 55, 2), (133, 12, 56, 2)] [] 1 0 [] 41 59922
theorem jgp_Model : jGP jgG_Model := jGP_of rfl jnil
set_option maxRecDepth 100000 in
theorem jgg_Model (sh : List jxC) (X : jxX) (hA : jAt X yX12_init cX12_init 1 22 0 sh) (hI : jgI X) (hIn : jgIn X) (hR : (jroom X).cells = 41 ∧ (jroom X).slots = 59922) : jGT X jgG_Model := jGT_of hA hI hIn hR ⟨rfl, rfl⟩ jnil (jcon ⟨_, _, jpf_X12_7, fun _ => ⟨rfl, rfl⟩⟩ (jcon ⟨_, _, jpf_X12_13, fun _ => ⟨rfl, rfl⟩⟩ (jcon ⟨_, _, jpf_X12_16, fun _ => ⟨rfl, rfl⟩⟩ (jcon ⟨_, _, jpf_X12_20, fun _ => ⟨rfl, rfl⟩⟩ (jcon ⟨_, _, jpf_X12_24, fun _ => ⟨rfl, rfl⟩⟩ (jcon ⟨_, _, jpf_X12_27, fun _ => ⟨rfl, rfl⟩⟩ (jcon ⟨_, _, jpf_X12_30, fun _ => ⟨rfl, rfl⟩⟩ (jcon ⟨_, _, jpf_X12_33, fun _ => ⟨rfl, rfl⟩⟩ (jcon ⟨_, _, jpf_X12_36, fun _ => ⟨rfl, rfl⟩⟩ (jcon ⟨_, _, jpf_X12_39, fun _ => ⟨rfl, rfl⟩⟩ (jcon ⟨_, _, jpf_X12_42, fun _ => ⟨rfl, rfl⟩⟩ (jcon ⟨_, _, jpf_X12_45, fun _ => ⟨rfl, rfl⟩⟩ (jcon ⟨_, _, jpf_X12_48, fun _ => ⟨rfl, rfl⟩⟩ (jcon ⟨_, _, jpf_X12_51, fun _ => ⟨rfl, rfl⟩⟩ (jcon ⟨_, _, jpf_X12_54, fun _ => ⟨rfl, rfl⟩⟩ (jcon ⟨_, _, jpf_X12_57, fun _ => ⟨rfl, rfl⟩⟩ (jcon ⟨_, _, jpf_X12_60, fun _ => ⟨rfl, rfl⟩⟩ (jcon ⟨_, _, jpf_X12_63, fun _ => ⟨rfl, rfl⟩⟩ (jcon ⟨_, _, jpf_X12_66, fun _ => ⟨rfl, rfl⟩⟩ (jcon ⟨_, _, jpf_X12_69, fun _ => ⟨rfl, rfl⟩⟩ (jcon ⟨_, _, jpf_X12_72, fun _ => ⟨rfl, rfl⟩⟩ (jcon ⟨_, _, jpf_X12_75, fun _ => ⟨rfl, rfl⟩⟩ (jcon ⟨_, _, jpf_X12_78, fun _ => ⟨rfl, rfl⟩⟩ (jcon ⟨_, _, jpf_X12_81, fun _ => ⟨rfl, rfl⟩⟩ (jcon ⟨_, _, jpf_X12_84, fun _ => ⟨rfl, rfl⟩⟩ (jcon ⟨_, _, jpf_X12_87, fun _ => ⟨rfl, rfl⟩⟩ (jcon ⟨_, _, jpf_X12_90, fun _ => ⟨rfl, rfl⟩⟩ (jcon ⟨_, _, jpf_X12_93, fun _ => ⟨rfl, rfl⟩⟩ (jcon ⟨_, _, jpf_X12_96, fun _ => ⟨rfl, rfl⟩⟩ (jcon ⟨_, _, jpf_X12_99, fun _ => ⟨rfl, rfl⟩⟩ (jcon ⟨_, _, jpf_X12_102, fun _ => ⟨rfl, rfl⟩⟩ (jcon ⟨_, _, jpf_X12_105, fun _ => ⟨rfl, rfl⟩⟩ (jcon ⟨_, _, jpf_X12_108, fun _ => ⟨rfl, rfl⟩⟩ (jcon ⟨_, _, jpf_X12_111, fun _ => ⟨rfl, rfl⟩⟩ (jcon ⟨_, _, jpf_X12_114, fun _ => ⟨rfl, rfl⟩⟩ (jcon ⟨_, _, jpf_X12_117, fun _ => ⟨rfl, rfl⟩⟩ (jcon ⟨_, _, jpf_X12_120, fun _ => ⟨rfl, rfl⟩⟩ (jcon ⟨_, _, jpf_X12_124, fun _ => ⟨rfl, rfl⟩⟩ (jcon ⟨_, _, jpf_X12_127, fun _ => ⟨rfl, rfl⟩⟩ (jcon ⟨_, _, jpf_X12_130, fun _ => ⟨rfl, rfl⟩⟩ (jcon ⟨_, _, jpf_X12_133, fun _ => ⟨rfl, rfl⟩⟩ jnil))))))))))))))))))))))))))))))))))))))))) jnil (jTB_at 1336 rfl rfl) (Or.inl rfl) jnil
