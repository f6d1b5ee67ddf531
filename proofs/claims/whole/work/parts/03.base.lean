/-! The small machine: values, states, shapes of cells, and one run of instructions as a function. -/
/-- the numbers of a state: by the cell, then by the place in it -/
abbrev jxS : Type := Nat → Int → Int
/-- a value: a number, a long, a cell, nothing -/
abbrev jxV : Type := Int ⊕ Int ⊕ Nat ⊕ Unit
abbrev jmi (x : Int) : jxV := Sum.inl x
abbrev jml (x : Int) : jxV := Sum.inr (Sum.inl x)
abbrev jmr (k : Nat) : jxV := Sum.inr (Sum.inr (Sum.inl k))
abbrev jmn : jxV := Sum.inr (Sum.inr (Sum.inr ()))
def jI (x : Int) : Int32 := Int32.ofInt x
def jL (x : Int) : Int64 := Int64.ofInt x
def jtoV (ad : Nat → Nat) (v : jxV) : Value := match v with
  | .inl x => .int (jI x)
  | .inr (.inl x) => .long (jL x)
  | .inr (.inr (.inl k)) => .ref (ad k)
  | .inr (.inr (.inr _)) => .null
/-- a field: 0 an int, 1 a long, 2 a boolean; or a cell that never changes, or null -/
abbrev jxF : Type := Nat ⊕ Option Nat
/-- a cell: an object (its class, its fields), a row (0 int, 1 byte, 2 boolean, 3 long, 4 references; how long), a table that nobody writes -/
abbrev jxC : Type := (Nat × List jxF) ⊕ (Nat × Nat) ⊕ List Int
def jfv (ad : Nat → Nat) (f : Int → Int) (k : Nat) (fk : jxF) : Value := match fk with
  | .inl 1 => .long (jL (f k))
  | .inl _ => .int (jI (f k))
  | .inr none => .null
  | .inr (some j) => .ref (ad j)
def jrf (ad : Nat → Nat) (v : Int) : Option Nat := if v = 0 then none else some (ad v.toNat)
def jent (ad : Nat → Nat) (cy : Nat → ClassId) (c : jxC) (f : Int → Int) : va_E := match c with
  | .inl (ci, fks) => .inr (ci, fks.mapIdx (fun k fk => jfv ad f k fk))
  | .inr (.inl (3, n)) => .inl (cy 3, n, .inr (.inl (fun j => jL (f j))))
  | .inr (.inl (4, n)) => .inl (cy 4, n, .inr (.inr (.inr (.inr (fun j => jrf ad (f j))))))
  | .inr (.inl (t, n)) => .inl (cy t, n, .inl (fun j => jI (f j)))
  | .inr (.inr _) => .inr (0, [])
def jW (ad : Nat → Nat) (cy : Nat → ClassId) (sh : List jxC) (σ : jxS) : va_W := sh.mapIdx (fun i c => (ad i, jent ad cy c (σ i)))
def jup (σ : jxS) (i : Nat) (k v : Int) : jxS := fun a j => if a = i ∧ j = k then v else σ a j
theorem jW_get {ad : Nat → Nat} {cy : Nat → ClassId} {sh : List jxC} {σ : jxS} {i : Nat} {c : jxC} (h : sh[i]? = some c) : (jW ad cy sh σ)[i]? = some (ad i, jent ad cy c (σ i)) := by
  simp [jW, List.getElem?_mapIdx, h]
theorem jup_ne {σ : jxS} {i a : Nat} {k v : Int} (h : a ≠ i) : jup σ i k v a = σ a := by
  funext j
  simp [jup, h]
theorem jW_set {ad : Nat → Nat} {cy : Nat → ClassId} {sh : List jxC} {σ : jxS} {i : Nat} {c : jxC} {k v : Int} {e : va_E} (h : sh[i]? = some c) (he : e = jent ad cy c (jup σ i k v i)) : (jW ad cy sh σ).set i (ad i, e) = jW ad cy sh (jup σ i k v) := by
  subst he
  refine List.ext_getElem? fun a => ?_
  by_cases ha : a = i
  · subst ha
    have hl : a < (jW ad cy sh σ).length := by
      rw [jW, List.length_mapIdx]
      exact (List.getElem?_eq_some_iff.mp h).1
    rw [List.getElem?_set_self hl, jW_get h]
  · rw [List.getElem?_set_ne (Ne.symm ha)]
    simp [jW, List.getElem?_mapIdx, jup_ne ha]
theorem jW_D {ad : Nat → Nat} {cy : Nat → ClassId} {sh : List jxC} {σ σ' : jxS} {A : Nat → Prop} (h : va_D A (jW ad cy sh σ)) : va_D A (jW ad cy sh σ') := by
  have key : ∀ (k : Nat) (q : Nat × va_E), (jW ad cy sh σ')[k]? = some q → ∃ q0, (jW ad cy sh σ)[k]? = some q0 ∧ q0.1 = q.1 := by
    intro k q hk
    simp only [jW, List.getElem?_mapIdx, Option.map_eq_some_iff] at hk ⊢
    obtain ⟨c, hc, rfl⟩ := hk
    exact ⟨_, ⟨c, hc, rfl⟩, rfl⟩
  refine ⟨fun i j x y hi hj hxy => ?_, fun k q hk => ?_⟩
  · obtain ⟨x0, h1, h2⟩ := key i x hi
    obtain ⟨y0, h3, h4⟩ := key j y hj
    exact h.1 i j x0 y0 h1 h3 (h2.trans (hxy.trans h4.symm))
  · obtain ⟨q0, h1, h2⟩ := key k q hk
    rw [← h2]
    exact h.2 k q0 h1
/-- a number as an int of 32 bits shows it -/
def jw (x : Int) : Int := (x + 2147483648) % 4294967296 - 2147483648
def jw64 (x : Int) : Int := (x + 9223372036854775808) % 18446744073709551616 - 9223372036854775808
def jw8 (x : Int) : Int := (x + 128) % 256 - 128
theorem jw_toInt (x : Int) : (jI x).toInt = jw x := by
  simp only [jI, Int32.toInt_ofInt, Int.bmod_def, jw]
  have : (Int32.size : Int) = 4294967296 := rfl
  split <;> simp_all <;> omega
theorem jw64_toInt (x : Int) : (jL x).toInt = jw64 x := by
  simp only [jL, Int64.toInt_ofInt, Int.bmod_def, jw64]
  have : (Int64.size : Int) = 18446744073709551616 := rfl
  split <;> simp_all <;> omega
theorem jw_id {x : Int} (h1 : -2147483648 ≤ x) (h2 : x ≤ 2147483647) : jw x = x := by unfold jw; omega
theorem jI_w (x : Int) : jI (jw x) = jI x := by
  apply Int32.toInt_inj.mp
  rw [jw_toInt, jw_toInt]
  unfold jw
  omega
theorem jL_w (x : Int) : jL (jw64 x) = jL x := by
  apply Int64.toInt_inj.mp
  rw [jw64_toInt, jw64_toInt]
  unfold jw64
  omega
theorem jI_toInt (x : Int32) : jI x.toInt = x := by simp [jI]
theorem jL_toInt (x : Int64) : jL x.toInt = x := by simp [jL]
/-- the bits -/
def jand (x y : Int) : Int := (jI x &&& jI y).toInt
def jor (x y : Int) : Int := (jI x ||| jI y).toInt
def jxor (x y : Int) : Int := (jI x ^^^ jI y).toInt
def jshl (x y : Int) : Int := (jI x <<< (jI y &&& 31)).toInt
def jshr (x y : Int) : Int := (jI x >>> (jI y &&& 31)).toInt
def jushr (x y : Int) : Int := ((jI x).toUInt32 >>> ((jI y).toUInt32 &&& Int32.toUInt32 31)).toInt32.toInt
def jland (x y : Int) : Int := (jL x &&& jL y).toInt
def jlor (x y : Int) : Int := (jL x ||| jL y).toInt
def jlxor (x y : Int) : Int := (jL x ^^^ jL y).toInt
def jlshl (x y : Int) : Int := (jL x <<< ((jI y).toInt64 &&& 63)).toInt
def jlshr (x y : Int) : Int := (jL x >>> ((jI y).toInt64 &&& 63)).toInt
def jdiv (x y : Int) : Int := Int.tdiv (jw x) (jw y)
def jrem (x y : Int) : Int := Int.tmod (jw x) (jw y)
def jldiv (x y : Int) : Int := Int.tdiv (jw64 x) (jw64 y)
def jlrem (x y : Int) : Int := Int.tmod (jw64 x) (jw64 y)
def jlcmp (x y : Int) : Int := if jw64 y < jw64 x then 1 else if jw64 x = jw64 y then 0 else -1
/-- a run's end: the answer as a number (0 for none; a cell by its number, 0 null), and the state -/
abbrev jxR : Type := Int × jxS
abbrev jxL : Type := List (Option jxV)
abbrev jxK : Type := Nat → jxL → List jxV → jxS → Option jxR
/-- what a method's instructions mean: fields by pool number (class, field); calls: how many arguments, what they do; constants; statics; the answer's kind (0 none, 1 int, 2 long, 3 cell, 4 boolean); shapes -/
abbrev jxE : Type := (Nat → Option (Nat × Nat)) × (Nat → Option (Nat × Bool)) × (Nat → List jxV → jxS → (Option jxV → jxS → Option jxR) → Option jxR) × (Nat → Option jxV) × (Nat → Option Nat) × Nat × (Nat → Option jxC)
def jset1 (l : jxL) (i : Nat) (v : jxV) : jxL := match l, i with
  | [], _ => []
  | _ :: t, 0 => some v :: t
  | a :: t, 1 => (match a with
      | some (.inr (.inl _)) => none
      | x => x) :: jset1 t 0 v
  | a :: t, n + 2 => a :: jset1 t (n + 1) v
def jset2 (l : jxL) (i : Nat) (v : jxV) : jxL := match l, i with
  | [], _ => []
  | _ :: t, 0 => some v :: (match t with
      | [] => []
      | _ :: t' => none :: t')
  | a :: t, 1 => (match a with
      | some (.inr (.inl _)) => none
      | x => x) :: jset2 t 0 v
  | a :: t, n + 2 => a :: jset2 t (n + 1) v
def jget (l : jxL) (i : Nat) : Option jxV := match l, i with
  | [], _ => none
  | a :: _, 0 => a
  | _ :: t, n + 1 => jget t n
def jcat (st : List jxV) : Nat := match st with
  | [] => 0
  | .inr (.inl _) :: t => jcat t + 2
  | _ :: t => jcat t + 1
def jtgt (pc : Nat) (off : Int) (k : Nat → Option jxR) : Option jxR := match (pc : Int) + off with
  | .ofNat n => k n
  | .negSucc _ => none
def jsw (x lo : Int) (os : List Int) (kd : Option jxR) (kk : Int → Option jxR) : Option jxR := match os with
  | [] => kd
  | o :: t => if x = lo then kk o else jsw x (lo + 1) t kd kk
def jstore (t : Nat) (v : Int) : Int := match t with
  | 1 => jw8 v
  | 2 => v % 2
  | _ => v
/-- the cells of the quotients -/
def jQS : List Nat := [48, 53, 58, 63, 68, 73]
def jsel (qs : List Nat) (v : Int) (k : Nat → Option jxR) : Option jxR := match qs with
  | [] => none
  | q :: t => if v = (q : Int) then k q else jsel t v k
/-- one instruction, and what goes on behind it -/
def jx1 (E : jxE) (i : Instr) (pc : Nat) (loc : jxL) (st : List jxV) (σ : jxS) (k : jxK) : Option jxR := match i with
  | .iconst n => k (pc + 1) loc (jmi n :: st) σ
  | .bipush n => if -128 ≤ n ∧ n ≤ 127 then k (pc + 2) loc (jmi n :: st) σ else none
  | .sipush n => if -32768 ≤ n ∧ n ≤ 32767 then k (pc + 3) loc (jmi n :: st) σ else none
  | .lconst n => k (pc + 1) loc (jml (n.val : Int) :: st) σ
  | .aconst_null => k (pc + 1) loc (jmn :: st) σ
  | .ldc n => (match E.2.2.2.1 n with
    | some (.inl x) => k (pc + 2) loc (jmi x :: st) σ
    | some (.inr (.inr z)) => k (pc + 2) loc (.inr (.inr z) :: st) σ
    | _ => none)
  | .ldc2_w n => (match E.2.2.2.1 n with
    | some (.inr (.inl x)) => k (pc + 3) loc (jml x :: st) σ
    | _ => none)
  | .iload_n n => (match jget loc n.val with
    | some (.inl x) => k (pc + 1) loc (jmi x :: st) σ
    | _ => none)
  | .iload n => (match jget loc n with
    | some (.inl x) => k (pc + 2) loc (jmi x :: st) σ
    | _ => none)
  | .lload_n n => (match jget loc n.val with
    | some (.inr (.inl x)) => k (pc + 1) loc (jml x :: st) σ
    | _ => none)
  | .lload n => (match jget loc n with
    | some (.inr (.inl x)) => k (pc + 2) loc (jml x :: st) σ
    | _ => none)
  | .aload_n n => (match jget loc n.val with
    | some (.inr (.inr (.inl x))) => k (pc + 1) loc (jmr x :: st) σ
    | some (.inr (.inr (.inr _))) => k (pc + 1) loc (jmn :: st) σ
    | _ => none)
  | .aload n => (match jget loc n with
    | some (.inr (.inr (.inl x))) => k (pc + 2) loc (jmr x :: st) σ
    | some (.inr (.inr (.inr _))) => k (pc + 2) loc (jmn :: st) σ
    | _ => none)
  | .istore_n n => (match st with
    | .inl x :: r => bif Nat.ble (n.val + 1) loc.length then k (pc + 1) (jset1 loc n.val (jmi x)) r σ else none
    | _ => none)
  | .istore n => (match st with
    | .inl x :: r => bif Nat.ble (n + 1) loc.length then k (pc + 2) (jset1 loc n (jmi x)) r σ else none
    | _ => none)
  | .lstore_n n => (match st with
    | .inr (.inl x) :: r => bif Nat.ble (n.val + 2) loc.length then k (pc + 1) (jset2 loc n.val (jml x)) r σ else none
    | _ => none)
  | .lstore n => (match st with
    | .inr (.inl x) :: r => bif Nat.ble (n + 2) loc.length then k (pc + 2) (jset2 loc n (jml x)) r σ else none
    | _ => none)
  | .astore_n n => (match st with
    | .inr (.inr (.inl x)) :: r => bif Nat.ble (n.val + 1) loc.length then k (pc + 1) (jset1 loc n.val (jmr x)) r σ else none
    | .inr (.inr (.inr _)) :: r => bif Nat.ble (n.val + 1) loc.length then k (pc + 1) (jset1 loc n.val jmn) r σ else none
    | _ => none)
  | .astore n => (match st with
    | .inr (.inr (.inl x)) :: r => bif Nat.ble (n + 1) loc.length then k (pc + 2) (jset1 loc n (jmr x)) r σ else none
    | .inr (.inr (.inr _)) :: r => bif Nat.ble (n + 1) loc.length then k (pc + 2) (jset1 loc n jmn) r σ else none
    | _ => none)
  | .iinc n d => (match jget loc n with
    | some (.inl x) => bif Nat.ble (n + 1) loc.length then k (pc + 3) (jset1 loc n (jmi (x + d))) st σ else none
    | _ => none)
  | .iadd => (match st with
    | .inl y :: .inl x :: r => k (pc + 1) loc (jmi (x + y) :: r) σ
    | _ => none)
  | .isub => (match st with
    | .inl y :: .inl x :: r => k (pc + 1) loc (jmi (x - y) :: r) σ
    | _ => none)
  | .imul => (match st with
    | .inl y :: .inl x :: r => k (pc + 1) loc (jmi (x * y) :: r) σ
    | _ => none)
  | .idiv => (match st with
    | .inl y :: .inl x :: r => if jw y = 0 then none else k (pc + 1) loc (jmi (jdiv x y) :: r) σ
    | _ => none)
  | .irem => (match st with
    | .inl y :: .inl x :: r => if jw y = 0 then none else k (pc + 1) loc (jmi (jrem x y) :: r) σ
    | _ => none)
  | .iand => (match st with
    | .inl y :: .inl x :: r => k (pc + 1) loc (jmi (jand x y) :: r) σ
    | _ => none)
  | .ior => (match st with
    | .inl y :: .inl x :: r => k (pc + 1) loc (jmi (jor x y) :: r) σ
    | _ => none)
  | .ixor => (match st with
    | .inl y :: .inl x :: r => k (pc + 1) loc (jmi (jxor x y) :: r) σ
    | _ => none)
  | .ishl => (match st with
    | .inl y :: .inl x :: r => k (pc + 1) loc (jmi (jshl x y) :: r) σ
    | _ => none)
  | .ishr => (match st with
    | .inl y :: .inl x :: r => k (pc + 1) loc (jmi (jshr x y) :: r) σ
    | _ => none)
  | .iushr => (match st with
    | .inl y :: .inl x :: r => k (pc + 1) loc (jmi (jushr x y) :: r) σ
    | _ => none)
  | .ladd => (match st with
    | .inr (.inl y) :: .inr (.inl x) :: r => k (pc + 1) loc (jml (x + y) :: r) σ
    | _ => none)
  | .lmul => (match st with
    | .inr (.inl y) :: .inr (.inl x) :: r => k (pc + 1) loc (jml (x * y) :: r) σ
    | _ => none)
  | .ldiv => (match st with
    | .inr (.inl y) :: .inr (.inl x) :: r => if jw64 y = 0 then none else k (pc + 1) loc (jml (jldiv x y) :: r) σ
    | _ => none)
  | .lrem => (match st with
    | .inr (.inl y) :: .inr (.inl x) :: r => if jw64 y = 0 then none else k (pc + 1) loc (jml (jlrem x y) :: r) σ
    | _ => none)
  | .land => (match st with
    | .inr (.inl y) :: .inr (.inl x) :: r => k (pc + 1) loc (jml (jland x y) :: r) σ
    | _ => none)
  | .lor => (match st with
    | .inr (.inl y) :: .inr (.inl x) :: r => k (pc + 1) loc (jml (jlor x y) :: r) σ
    | _ => none)
  | .lxor => (match st with
    | .inr (.inl y) :: .inr (.inl x) :: r => k (pc + 1) loc (jml (jlxor x y) :: r) σ
    | _ => none)
  | .lshl => (match st with
    | .inl y :: .inr (.inl x) :: r => k (pc + 1) loc (jml (jlshl x y) :: r) σ
    | _ => none)
  | .lshr => (match st with
    | .inl y :: .inr (.inl x) :: r => k (pc + 1) loc (jml (jlshr x y) :: r) σ
    | _ => none)
  | .lcmp => (match st with
    | .inr (.inl y) :: .inr (.inl x) :: r => k (pc + 1) loc (jmi (jlcmp x y) :: r) σ
    | _ => none)
  | .i2l => (match st with
    | .inl x :: r => k (pc + 1) loc (jml (jw x) :: r) σ
    | _ => none)
  | .l2i => (match st with
    | .inr (.inl x) :: r => k (pc + 1) loc (jmi x :: r) σ
    | _ => none)
  | .i2b => (match st with
    | .inl x :: r => k (pc + 1) loc (jmi (jw8 x) :: r) σ
    | _ => none)
  | .dup => (match st with
    | .inl x :: r => k (pc + 1) loc (jmi x :: jmi x :: r) σ
    | .inr (.inr x) :: r => k (pc + 1) loc (.inr (.inr x) :: .inr (.inr x) :: r) σ
    | _ => none)
  | .dup2 => (match st with
    | .inl y :: .inr (.inr x) :: r => k (pc + 1) loc (jmi y :: .inr (.inr x) :: jmi y :: .inr (.inr x) :: r) σ
    | _ => none)
  | .pop => (match st with
    | .inl _ :: r => k (pc + 1) loc r σ
    | .inr (.inr _) :: r => k (pc + 1) loc r σ
    | _ => none)
  | .goto off => jtgt pc off (fun t => k t loc st σ)
  | .ifCond c off => (match st with
    | .inl x :: r => (match c with
      | .eq => if jw x = 0 then jtgt pc off (fun t => k t loc r σ) else k (pc + 3) loc r σ
      | .ne => if jw x = 0 then k (pc + 3) loc r σ else jtgt pc off (fun t => k t loc r σ)
      | .lt => if jw x < 0 then jtgt pc off (fun t => k t loc r σ) else k (pc + 3) loc r σ
      | .ge => if jw x < 0 then k (pc + 3) loc r σ else jtgt pc off (fun t => k t loc r σ)
      | .gt => if 0 < jw x then jtgt pc off (fun t => k t loc r σ) else k (pc + 3) loc r σ
      | .le => if 0 < jw x then k (pc + 3) loc r σ else jtgt pc off (fun t => k t loc r σ))
    | _ => none)
  | .if_icmp c off => (match st with
    | .inl y :: .inl x :: r => (match c with
      | .eq => if jw x = jw y then jtgt pc off (fun t => k t loc r σ) else k (pc + 3) loc r σ
      | .ne => if jw x = jw y then k (pc + 3) loc r σ else jtgt pc off (fun t => k t loc r σ)
      | .lt => if jw x < jw y then jtgt pc off (fun t => k t loc r σ) else k (pc + 3) loc r σ
      | .ge => if jw x < jw y then k (pc + 3) loc r σ else jtgt pc off (fun t => k t loc r σ)
      | .gt => if jw y < jw x then jtgt pc off (fun t => k t loc r σ) else k (pc + 3) loc r σ
      | .le => if jw y < jw x then k (pc + 3) loc r σ else jtgt pc off (fun t => k t loc r σ))
    | _ => none)
  | .ifnull off => (match st with
    | .inr (.inr (.inl _)) :: r => k (pc + 3) loc r σ
    | .inr (.inr (.inr _)) :: r => jtgt pc off (fun t => k t loc r σ)
    | _ => none)
  | .ifnonnull off => (match st with
    | .inr (.inr (.inl _)) :: r => jtgt pc off (fun t => k t loc r σ)
    | .inr (.inr (.inr _)) :: r => k (pc + 3) loc r σ
    | _ => none)
  | .iaload => (match st with
    | .inl x :: .inr (.inr (.inl id)) :: r => (match E.2.2.2.2.2.2 id with
      | some (.inr (.inl (0, n))) => if 0 ≤ x ∧ x < (n : Int) then k (pc + 1) loc (jmi (σ id x) :: r) σ else none
      | some (.inr (.inr tb)) => if 0 ≤ x ∧ x < (tb.length : Int) then k (pc + 1) loc (jmi (tb.getD x.toNat 0) :: r) σ else none
      | _ => none)
    | _ => none)
  | .baload => (match st with
    | .inl x :: .inr (.inr (.inl id)) :: r => (match E.2.2.2.2.2.2 id with
      | some (.inr (.inl (1, n))) => if 0 ≤ x ∧ x < (n : Int) then k (pc + 1) loc (jmi (σ id x) :: r) σ else none
      | some (.inr (.inl (2, n))) => if 0 ≤ x ∧ x < (n : Int) then k (pc + 1) loc (jmi (σ id x) :: r) σ else none
      | _ => none)
    | _ => none)
  | .aaload => (match st with
    | .inl x :: .inr (.inr (.inl id)) :: r => (match E.2.2.2.2.2.2 id with
      | some (.inr (.inl (4, n))) => if 0 ≤ x ∧ x < (n : Int) then (if σ id x = 0 then k (pc + 1) loc (jmn :: r) σ else jsel jQS (σ id x) (fun q => k (pc + 1) loc (jmr q :: r) σ)) else none
      | _ => none)
    | _ => none)
  | .laload => (match st with
    | .inl x :: .inr (.inr (.inl id)) :: r => (match E.2.2.2.2.2.2 id with
      | some (.inr (.inl (3, n))) => if 0 ≤ x ∧ x < (n : Int) then k (pc + 1) loc (jml (σ id x) :: r) σ else none
      | _ => none)
    | _ => none)
  | .iastore => (match st with
    | .inl v :: .inl x :: .inr (.inr (.inl id)) :: r => (match E.2.2.2.2.2.2 id with
      | some (.inr (.inl (0, n))) => if 0 ≤ x ∧ x < (n : Int) then k (pc + 1) loc r (jup σ id x v) else none
      | _ => none)
    | _ => none)
  | .bastore => (match st with
    | .inl v :: .inl x :: .inr (.inr (.inl id)) :: r => (match E.2.2.2.2.2.2 id with
      | some (.inr (.inl (1, n))) => if 0 ≤ x ∧ x < (n : Int) then k (pc + 1) loc r (jup σ id x (jw8 v)) else none
      | some (.inr (.inl (2, n))) => if 0 ≤ x ∧ x < (n : Int) then k (pc + 1) loc r (jup σ id x (v % 2)) else none
      | _ => none)
    | _ => none)
  | .lastore => (match st with
    | .inr (.inl v) :: .inl x :: .inr (.inr (.inl id)) :: r => (match E.2.2.2.2.2.2 id with
      | some (.inr (.inl (3, n))) => if 0 ≤ x ∧ x < (n : Int) then k (pc + 1) loc r (jup σ id x v) else none
      | _ => none)
    | _ => none)
  | .arraylength => (match st with
    | .inr (.inr (.inl id)) :: r => (match E.2.2.2.2.2.2 id with
      | some (.inr (.inl (0, n))) => k (pc + 1) loc (jmi (n : Int) :: r) σ
      | some (.inr (.inl (3, n))) => k (pc + 1) loc (jmi (n : Int) :: r) σ
      | some (.inr (.inr tb)) => k (pc + 1) loc (jmi (tb.length : Int) :: r) σ
      | _ => none)
    | _ => none)
  | .getfield n => (match st with
    | .inr (.inr (.inl id)) :: r => (match E.1 n, E.2.2.2.2.2.2 id with
      | some (ci, f), some (.inl (cj, fks)) => bif Nat.beq ci cj then (match fks[f]? with
        | some (.inl 1) => k (pc + 3) loc (jml (σ id f) :: r) σ
        | some (.inl _) => k (pc + 3) loc (jmi (σ id f) :: r) σ
        | some (.inr (some j)) => k (pc + 3) loc (jmr j :: r) σ
        | some (.inr none) => k (pc + 3) loc (jmn :: r) σ
        | none => none) else none
      | _, _ => none)
    | _ => none)
  | .putfield n => (match st with
    | .inl v :: .inr (.inr (.inl id)) :: r => (match E.1 n, E.2.2.2.2.2.2 id with
      | some (ci, f), some (.inl (cj, fks)) => bif Nat.beq ci cj then (match fks[f]? with
        | some (.inl 0) => k (pc + 3) loc r (jup σ id f v)
        | some (.inl 2) => if v = 0 ∨ v = 1 then k (pc + 3) loc r (jup σ id f v) else none
        | _ => none) else none
      | _, _ => none)
    | .inr (.inl v) :: .inr (.inr (.inl id)) :: r => (match E.1 n, E.2.2.2.2.2.2 id with
      | some (ci, f), some (.inl (cj, fks)) => bif Nat.beq ci cj then (match fks[f]? with
        | some (.inl 1) => k (pc + 3) loc r (jup σ id f v)
        | _ => none) else none
      | _, _ => none)
    | _ => none)
  | .getstatic n => (match E.2.2.2.2.1 n with
    | some id => k (pc + 3) loc (jmr id :: st) σ
    | none => none)
  | .invokevirtual n => (match E.2.1 n with
    | some (a, false) => bif Nat.ble (jcat (st.drop a)) 8 then E.2.2.1 n (st.take a).reverse σ (fun r σ' => k (pc + 3) loc (r.toList ++ st.drop a) σ') else none
    | _ => none)
  | .invokestatic n => (match E.2.1 n with
    | some (a, true) => bif Nat.ble (jcat (st.drop a)) 8 then E.2.2.1 n (st.take a).reverse σ (fun r σ' => k (pc + 3) loc (r.toList ++ st.drop a) σ') else none
    | _ => none)
  | .ireturn => (match st with
    | [.inl x] => (match E.2.2.2.2.2.1 with
      | 1 => some (x, σ)
      | 4 => if x = 0 ∨ x = 1 then some (x, σ) else none
      | _ => none)
    | _ => none)
  | .lreturn => (match st with
    | [.inr (.inl x)] => (match E.2.2.2.2.2.1 with
      | 2 => some (x, σ)
      | _ => none)
    | _ => none)
  | .areturn => (match st with
    | [.inr (.inr (.inl (id + 1)))] => (match E.2.2.2.2.2.1 with
      | 3 => some (((id + 1 : Nat) : Int), σ)
      | _ => none)
    | [.inr (.inr (.inr _))] => (match E.2.2.2.2.2.1 with
      | 3 => some (0, σ)
      | _ => none)
    | _ => none)
  | .return_ => (match st with
    | [] => (match E.2.2.2.2.2.1 with
      | 0 => some (0, σ)
      | _ => none)
    | _ => none)
  | .tableswitch d lo hi offs => (match st with
    | .inl x :: r => if hi = lo + (offs.toList.length : Int) - 1 then jsw (jw x) lo offs.toList (jtgt pc d (fun t => k t loc r σ)) (fun o => jtgt pc o (fun t => k t loc r σ)) else none
    | _ => none)
  | _ => none
/-- how long an instruction is (a switch: as it is decoded) -/
def jlen (i : Instr) : Nat := match i with
  | .bipush _ | .ldc _ | .iload _ | .lload _ | .aload _ | .istore _ | .lstore _ | .astore _ => 2
  | .sipush _ | .ldc2_w _ | .iinc _ _ | .goto _ | .ifCond _ _ | .if_icmp _ _ | .ifnull _ | .ifnonnull _ | .getfield _ | .putfield _ | .getstatic _ | .invokevirtual _ | .invokestatic _ => 3
  | .tableswitch _ _ _ _ => 0
  | _ => 1
def jlk (tb : List (Nat × Instr)) (pc : Nat) : Option Instr := match tb with
  | [] => none
  | q :: t => bif Nat.beq q.1 pc then some q.2 else jlk t pc
def jin (l : List Nat) (n : Nat) : Bool := match l with
  | [] => false
  | a :: t => bif Nat.beq a n then true else jin t n
/-- a run of at most so many instructions, up to the next of the places 'cuts' -/
def jex (E : jxE) (tb : List (Nat × Instr)) (cuts : List Nat) (k : jxK) (n : Nat) (pc : Nat) (loc : jxL) (st : List jxV) (σ : jxS) : Option jxR := match n with
  | 0 => none
  | n + 1 => (match jlk tb pc with
    | none => none
    | some i => jx1 E i pc loc st σ (fun pc' loc' st' σ' => bif jin cuts pc' then k pc' loc' st' σ' else jex E tb cuts k n pc' loc' st' σ'))
/-- the table of a method's instructions is its code's -/
def jtab (cc : ByteArray) (tb : List (Nat × Instr)) : Bool := tb.all (fun q => match decode cc q.1 with
  | .ok (i, n) => decide (i = q.2) && (Nat.beq (jlen i) 0 || Nat.beq n (jlen i))
  | .error _ => false)
