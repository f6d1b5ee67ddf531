/-! The small machine is the machine: what a run of it answers, the machine does. -/
def jTB : List Cond := lw_tbl.filter goodWord
def jnst (w : Cond) : Bool := match w with
  | .fieldLinkNest .. => true
  | .methodLinkNest .. => true
  | _ => false
def jNS : List Cond := lw_tbl.filter jnst
theorem jTB_at {w : Cond} (i : Nat) (h : lw_tbl[i]? = some w) (hg : goodWord w = true) : w ∈ jTB := List.mem_filter.mpr ⟨List.mem_of_getElem? h, hg⟩
theorem jNS_at {w : Cond} (i : Nat) (h : lw_tbl[i]? = some w) (hg : jnst w = true) : w ∈ jNS := List.mem_filter.mpr ⟨List.mem_of_getElem? h, hg⟩
theorem jTB_good {w : Cond} (h : w ∈ jTB) : goodWord w = true := (List.mem_filter.mp h).2
theorem jTB_in {y : MethodName} {bytes : ByteArray} {maxL : Nat} {ret : Option FieldType} {big : List Cond} (hb : ∀ w ∈ jTB, w ∈ big) (h : Cond.code y bytes maxL ret ∈ jTB) : GoodIn big (Cond.code y bytes maxL ret :: jTB) := by
  intro w hw
  rcases List.mem_cons.mp hw with rfl | hw
  · exact ⟨hb _ h, good_of_word (jTB_good h)⟩
  · exact ⟨hb _ hw, good_of_word (jTB_good hw)⟩
def jtys (cy : Nat → ClassId) : List (ClassId × FieldType) := [(cy 0, .int), (cy 1, .byte), (cy 2, .boolean), (cy 3, .long), (cy 4, .object "LastLoses$Quotient")]
def jtab0 : List Int := [0, 1, 2, 3, 14, 24]
def jtab1 : List Int := [0, 3, 5]
def jslen : List Nat := [5, 4, 5, 2]
def jsbyt : List (List Int32) := [[111, 99, 116, 97, 108], [97, 108, 115, 111], [110, 101, 118, 101, 114], [116, 111]]
def jsown : String := "LastLoses$Reader"
def jsidx (i : Nat) : Nat := match i with
  | 0 => 71
  | 1 => 77
  | 2 => 79
  | _ => 101
def jstx (i : Nat) : String := match i with
  | 0 => "octal"
  | 1 => "also"
  | 2 => "never"
  | _ => "to"
/-- what stands outside the cells that change: tables, texts, links among nest mates -/
def jBG (ad : Nat → Nat) (A : Nat → Prop) (U : State) : Prop :=
  (∀ w ∈ jNS, va_Nw w U) ∧
  va_Z "LastLoses$Values" "BESIDE_MOVES" "[I" (.ref (ad 1000)) A U U.heap ∧ va_T .int (ad 1000) 6 (fun j => .int (jI (jtab0.getD j 0))) A U U.heap ∧
  va_Z "LastLoses$Values" "BESIDE_OF_GENUS" "[I" (.ref (ad 1001)) A U U.heap ∧ va_T .int (ad 1001) 3 (fun j => .int (jI (jtab1.getD j 0))) A U U.heap ∧
  vk_S 4 jslen jsbyt (fun i => ad (1002 + i)) (fun i => ad (1006 + i)) A U U.heap ∧ (∀ i, i < 4 → vk_R jsown (jsidx i) (jstx i) (ad (1002 + i)) U) ∧
  va_Z "java/lang/String" "COMPACT_STRINGS" "Z" (.int 1) A U U.heap ∧ (va_Z "jdk/internal/util/Preconditions" "SIOOBE_FORMATTER" "Ljava/util/function/BiFunction;" .null A U U.heap ∨ va_Z "jdk/internal/util/Preconditions" "SIOOBE_FORMATTER" "Ljava/util/function/BiFunction;" (.ref (ad 1010)) A U U.heap)
theorem jNS_warm {w : Cond} (h : w ∈ jNS) {s U : State} (hW : s.WarmedH U.vm) (hz : va_Nw w s) : va_Nw w U := by
  have h2 := (List.mem_filter.mp h).2
  cases w <;> first | exact va_Nw.warmF hW hz | exact va_Nw.warmM hW hz | (exact absurd h2 (by simp [jnst]))
theorem jNS_tab {w : Cond} (h : w ∈ jNS) : w.onTables = true := by
  have h2 := (List.mem_filter.mp h).2
  cases w <;> first | rfl | (exact absurd h2 (by simp [jnst]))
/-- behind a stretch of a run: a later heap, warmer tables -/
theorem jBG.go {ad : Nat → Nat} {A : Nat → Prop} {s U : State} (h : jBG ad A s) (hW : s.WarmedH U.vm) (hq : ∀ a : Nat, a < s.heap.size → ¬ A a → U.heap[a]? = s.heap[a]?) : jBG ad A U := by
  obtain ⟨h1, h2, h3, h4, h5, h6, h7, h8, h9⟩ := h
  have hv := hW.alike
  exact ⟨fun w hw => jNS_warm hw hW (h1 w hw), (h2.kept hq).moved hv, (h3.kept hq).moved hv, (h4.kept hq).moved hv, (h5.kept hq).moved hv, (h6.kept hq).moved hv, fun i hi => vk_R.warm hW (h7 i hi), (h8.kept hq).moved hv, h9.imp (fun h => (h.kept hq).moved hv) (fun h => (h.kept hq).moved hv)⟩
theorem jBG.same {ad : Nat → Nat} {A : Nat → Prop} {s U : State} (h : jBG ad A s) (hv : U.vm = s.vm) (hh : U.heap = s.heap) : jBG ad A U := by
  obtain ⟨h1, h2, h3, h4, h5, h6, h7, h8, h9⟩ := h
  have ha : s.vm.Alike U.vm := by rw [hv]; exact Vm.Alike.refl _
  rw [← hh] at h2 h3 h4 h5 h6 h8 h9
  exact ⟨fun w hw => va_Nw.same (jNS_tab hw) hv.symm (h1 w hw), h2.moved ha, h3.moved ha, h4.moved ha, h5.moved ha, h6.moved ha, fun i hi => vk_R.same hv (h7 i hi), h8.moved ha, h9.imp (fun h => h.moved ha) (fun h => h.moved ha)⟩
/-- a method under way: the machine, its code, where its cells lie -/
abbrev jxX : Type := Program × Launch × Env × Room × State × MethodId × Array Value × List Frame × Method × Code × ByteArray × Nat × String × va_G × (Nat → ClassId) × (Nat → Prop) × (Nat → Nat) × List jxC × Nat × Nat × Nat
def jrt (kd : Nat) : Option FieldType := match kd with
  | 0 => none
  | 1 => some .int
  | 2 => some .long
  | 3 => some (.object "LastLoses$Quotient")
  | 4 => some .boolean
  | 5 => some .char
  | _ => some .byte
def jOK (X : jxX) : Prop := match X with
  | (p, l, e, R, s, m, args, below, meth, c, cc, nL, own, D, cy, A, ad, sh, kd, ca, sl) => p.tables.exec = Jvm.exec ∧ c.code = cc ∧ c.maxLocals = nL ∧ s.vm.findClass own = some m.cls ∧ (∀ w ∈ jTB, w.before args s = true) ∧ meth.locks = false ∧ va_K D vwCl (jtys cy) s ∧ (∀ q, s.heap.size ≤ q → A q) ∧ jBG ad A s ∧ meth.sig.returnType = jrt kd ∧ ca ≤ R.cells ∧ sl ≤ R.slots
def jLH (ls : Array Slot) (nL : Nat) (ad : Nat → Nat) (loc : jxL) : Prop := ls.size = nL ∧ lv_wf ls ∧ loc.length ≤ nL ∧ ∀ i v, jget loc i = some v → ls[i]? = some (.val (jtoV ad v))
def jWj (X : jxX) (Q : State → Prop) (pc : Nat) (loc : jxL) (st : List jxV) (σ : jxS) : Prop := match X with
  | (p, l, e, R, s, m, args, below, meth, c, _, nL, _, D, cy, A, ad, sh, _, ca, sl) => ∀ (H : Heap) (locs : List Loc) (ls : Array Slot), va_P D vwCl (jW ad cy sh σ) H → va_D A (jW ad cy sh σ) → va_S A s.heap H locs → jLH ls nL ad loc → W p l e R s m args below meth c H locs ca sl Q (F0 m pc ls (st.map (jtoV ad)))
def jQc (D : va_G) (cy : Nat → ClassId) (A : Nat → Prop) (ad : Nat → Nat) (sh : List jxC) (r : Option jxV) (σ' : jxS) : Array Value → State → Outcome → State → Prop := fun _ st oc t => oc = .returned (r.map (jtoV ad)) ∧ va_P D vwCl (jW ad cy sh σ') t.heap ∧ va_F A st t
def jQ (X : jxX) (r : Option jxV) (σ' : jxS) : State → Prop := match X with
  | (_, _, _, _, s, _, args, below, _, _, _, _, _, D, cy, A, ad, sh, _, ca, sl) => MQ below (jQc D cy A ad sh r σ') args s ca sl A
def jrv (kd : Nat) (x : Int) : Option jxV := match kd with
  | 0 => none
  | 2 => some (jml x)
  | 3 => some (if x = 0 then jmn else jmr x.toNat)
  | _ => some (jmi x)
def jkd (X : jxX) : Nat := match X with
  | (_, _, _, _, _, _, _, _, _, _, _, _, _, _, _, _, _, _, kd, _) => kd
def jcc (X : jxX) : ByteArray := match X with
  | (_, _, _, _, _, _, _, _, _, _, cc, _) => cc
def jsh (X : jxX) : List jxC := match X with
  | (_, _, _, _, _, _, _, _, _, _, _, _, _, _, _, _, _, sh, _) => sh
def jown (X : jxX) : String := match X with
  | (_, _, _, _, _, _, _, _, _, _, _, _, own, _) => own
/-- a run's function is what the machine does from here on -/
def jRf (X : jxX) (f : Option jxR) (pc : Nat) (loc : jxL) (st : List jxV) (σ : jxS) : Prop := ∀ x σ', f = some (x, σ') → jWj X (jQ X (jrv (jkd X) x) σ') pc loc st σ
theorem jRf_none {X : jxX} {pc : Nat} {loc : jxL} {st : List jxV} {σ : jxS} : jRf X none pc loc st σ := fun _ _ h => by cases h
/-- numbers -/
theorem jI_add (x y : Int) : jI (x + y) = jI x + jI y := Int32.ofInt_add x y
theorem jI_sub (x y : Int) : jI (x - y) = jI x - jI y := Int32.ofInt_sub x y
theorem jI_mul (x y : Int) : jI (x * y) = jI x * jI y := Int32.ofInt_mul x y
theorem jL_add (x y : Int) : jL (x + y) = jL x + jL y := Int64.ofInt_add x y
theorem jL_mul (x y : Int) : jL (x * y) = jL x * jL y := Int64.ofInt_mul x y
theorem jI_and (x y : Int) : jI (jand x y) = jI x &&& jI y := jI_toInt _
theorem jI_or (x y : Int) : jI (jor x y) = jI x ||| jI y := jI_toInt _
theorem jI_xor (x y : Int) : jI (jxor x y) = jI x ^^^ jI y := jI_toInt _
theorem jI_shl (x y : Int) : jI (jshl x y) = jI x <<< (jI y &&& 31) := jI_toInt _
theorem jI_shr (x y : Int) : jI (jshr x y) = jI x >>> (jI y &&& 31) := jI_toInt _
theorem jI_ushr (x y : Int) : jI (jushr x y) = ((jI x).toUInt32 >>> ((jI y).toUInt32 &&& Int32.toUInt32 31)).toInt32 := jI_toInt _
theorem jL_and (x y : Int) : jL (jland x y) = jL x &&& jL y := jL_toInt _
theorem jL_or (x y : Int) : jL (jlor x y) = jL x ||| jL y := jL_toInt _
theorem jL_xor (x y : Int) : jL (jlxor x y) = jL x ^^^ jL y := jL_toInt _
theorem jL_shl (x y : Int) : jL (jlshl x y) = jL x <<< ((jI y).toInt64 &&& 63) := jL_toInt _
theorem jL_shr (x y : Int) : jL (jlshr x y) = jL x >>> ((jI y).toInt64 &&& 63) := jL_toInt _
theorem jI_lt (x y : Int) : jI x < jI y ↔ jw x < jw y := by rw [Int32.lt_iff_toInt_lt, jw_toInt, jw_toInt]
theorem jI_le (x y : Int) : jI x ≤ jI y ↔ jw x ≤ jw y := by rw [Int32.le_iff_toInt_le, jw_toInt, jw_toInt]
theorem jI_eq (x y : Int) : jI x = jI y ↔ jw x = jw y := by rw [← Int32.toInt_inj, jw_toInt, jw_toInt]
theorem jI_0 : (0 : Int32) = jI 0 := rfl
theorem jw_0 : jw 0 = 0 := rfl
theorem jI_eq0 (x : Int) : jI x = 0 ↔ jw x = 0 := by rw [jI_0, jI_eq, jw_0]
theorem jI_lt0 (x : Int) : jI x < 0 ↔ jw x < 0 := by rw [jI_0, jI_lt, jw_0]
theorem jI_gt0 (x : Int) : 0 < jI x ↔ 0 < jw x := by rw [jI_0, jI_lt, jw_0]
theorem jL_lt (x y : Int) : jL x < jL y ↔ jw64 x < jw64 y := by rw [Int64.lt_iff_toInt_lt, jw64_toInt, jw64_toInt]
theorem jL_eq (x y : Int) : jL x = jL y ↔ jw64 x = jw64 y := by rw [← Int64.toInt_inj, jw64_toInt, jw64_toInt]
theorem jL_eq0 (x : Int) : jL x = 0 ↔ jw64 x = 0 := by rw [show (0 : Int64) = jL 0 from rfl, jL_eq, show jw64 0 = 0 from rfl]
theorem jI_div (x y : Int) : jI (jdiv x y) = jI x / jI y := by
  apply Int32.toInt_inj.mp
  rw [jw_toInt, Int32.toInt_div, jw_toInt, jw_toInt, jdiv, ← jw_toInt, jI, Int32.toInt_ofInt]
theorem jI_rem (x y : Int) : jI (jrem x y) = jI x - jI x / jI y * jI y := by
  rw [jrem, Int.tmod_def, jI_sub, jI_w, jI_mul, jI_w, ← jI_div, jdiv, Int32.mul_comm]
theorem jL_div (x y : Int) : jL (jldiv x y) = jL x / jL y := by
  apply Int64.toInt_inj.mp
  rw [jw64_toInt, Int64.toInt_div, jw64_toInt, jw64_toInt, jldiv, ← jw64_toInt, jL, Int64.toInt_ofInt]
theorem jL_rem (x y : Int) : jL (jlrem x y) = jL x - jL x / jL y * jL y := by
  have hs : ∀ a b : Int, jL (a - b) = jL a - jL b := fun a b => Int64.ofInt_sub a b
  rw [jlrem, Int.tmod_def, hs, jL_w, jL_mul, jL_w, ← jL_div, jldiv, Int64.mul_comm]
theorem jI_lcmp (x y : Int) : jI (jlcmp x y) = lg_cmp (jL x) (jL y) := by
  unfold jlcmp lg_cmp
  simp only [gt_iff_lt, jL_lt, jL_eq]
  split
  · rfl
  · split <;> rfl
theorem jL_i (x : Int) : jL (jw x) = (jI x).toInt64 := by
  apply Int64.toInt_inj.mp
  rw [Int32.toInt_toInt64, jw_toInt, jw64_toInt]
  unfold jw64 jw
  omega
theorem jI_l (x : Int) : jI x = (jL x).toInt32 := by
  apply Int32.toInt_inj.mp
  rw [Int64.toInt_toInt32, jw_toInt, jw64_toInt, Int.bmod_def]
  unfold jw jw64
  have : ((2 ^ 32 : Nat) : Int) = 4294967296 := rfl
  split <;> simp_all <;> omega
theorem jI_b (x : Int) : jI (jw8 x) = (jI x).toInt8.toInt32 := by
  apply Int32.toInt_inj.mp
  rw [Int8.toInt_toInt32, Int32.toInt_toInt8, jw_toInt, jw_toInt, Int.bmod_def]
  unfold jw jw8
  have : ((2 ^ 8 : Nat) : Int) = 256 := rfl
  split <;> simp_all <;> omega
theorem j_in {x : Int} {n : Nat} (hn : n < 2 ^ 31) (h : 0 ≤ x ∧ x < (n : Int)) : vp_in (jI x) n ∧ (jI x).toNatClampNeg = x.toNat := by
  have h1 : (jI x).toInt = x := by rw [jw_toInt, jw]; omega
  have h2 : (jI x).toNatClampNeg = x.toNat := by show (jI x).toInt.toNat = _; rw [h1]
  refine ⟨?_, h2⟩
  rw [vp_in_iff, h1]
  exact h
