/-! Rows: a new object, a new row, a value put into a field of a new object, a constructor called. -/
/-- a class that may be made: its number, its fields as they are when it is new -/
def jNw (own : String) (idx ci : Nat) (fks : List jxF) : Prop := ∃ (C : String) (T : u_T) (ty : Nat → FieldType), vwCl[ci]? = some (C, T, fks.length) ∧ (∀ w ∈ u_ws C T fks.length, w ∈ jTB) ∧ (∀ k, k < fks.length → parseFieldDescriptor (T k).2.2.1 = some (ty k)) ∧ Cond.classLink own idx C ∈ jTB ∧ Cond.instantiable C fks.length ∈ jTB ∧ Cond.initialized C ∈ jTB ∧ (∀ j, j < fks.length → defaultValue (ty j) = vp_V (fks.map jgdv) j) ∧ jgnu fks = true
def jgad (ad : Nat → Nat) (n q : Nat) : Nat → Nat := fun i => if i = n then q else ad i
theorem jgad_eq {ad : Nat → Nat} {n q : Nat} (h : n < 1000) : ∀ i, i < n ∨ 1000 ≤ i → jgad ad n q i = ad i := by
  intro i hi
  unfold jgad
  rw [if_neg (by omega)]
section GRW
variable {X : jxX} {Q : State → Prop} {pc : Nat} {loc : jxL} {r st : List jxV} {σ σ' : jxS} {sh sh' : List jxC} {ca sl : Nat}
theorem jg_app {ad : Nat → Nat} {cy : Nat → ClassId} {c : jxC} {ev : va_E} {q : Nat} (hJ : jgJ sh σ) (he : ∀ ad', jent ad' cy c (σ sh.length) = ev) : jW (jgad ad sh.length q) cy (sh ++ [c]) σ = jW ad cy sh σ ++ [(q, ev)] := by
  rw [jW_app, jW_ad (ad := ad) (fun i hi => by unfold jgad; rw [if_neg (by omega)]) hJ, he]
  simp [jgad]
theorem jg_go {p : Program} {l : Launch} {e : Env} {R : Room} {s : State} {m : MethodId} {args : Array Value} {below : List Frame} {meth : Method} {c : Code} {cc : ByteArray} {nL : Nat} {own : String} {D : va_G} {cy : Nat → ClassId} {A : Nat → Prop} {ad : Nat → Nat} {kd ca' sl' q : Nat} {c' : jxC} {ev : va_E} {H1 : Heap} {locs : List Loc} {ls : Array Slot}
    (hk : ∀ X', jgE (p, l, e, R, s, m, args, below, meth, c, cc, nL, own, D, cy, A, ad, sh, kd, ca, sl) X' (sh ++ [c']) ca' sl' → jWj X' Q pc loc (jmr sh.length :: st) σ) (hJ : jgJ sh σ) (h1 : sh.length < 1000) (hl : jgbl sh.length loc = true) (hs : jgbs sh.length st = true) (hca : ca' ≤ R.cells) (hsl : sl' ≤ R.slots) (he : ∀ ad', jent ad' cy c' (σ sh.length) = ev)
    (hP1 : va_P D vwCl (jW ad cy sh σ ++ [(q, ev)]) H1) (hD1 : va_D A (jW ad cy sh σ ++ [(q, ev)])) (hS1 : va_S A s.heap H1 locs) (hL : jLH ls nL ad loc) : W p l e R s m args below meth c H1 locs ca' sl' Q (F0 m pc ls (.ref q :: st.map (jtoV ad))) := by
  have ha := jgad_eq (ad := ad) (q := q) h1
  have k := hk _ ⟨jgad ad sh.length q, ha, rfl, hca, hsl, by simp [jsh]⟩ H1 locs ls (by rw [jg_app hJ he]; exact hP1) (by rw [jg_app hJ he]; exact hD1) hS1 (jgbl_LH ha hl hL)
  rw [List.map_cons, jgbs_eq ha hs] at k
  have e0 : jtoV (jgad ad sh.length q) (jmr sh.length) = .ref q := by simp [jtoV, jgad]
  rw [e0] at k
  exact k
theorem jw_new {idx ci : Nat} {fks : List jxF} (hX : jOK X) (hsh : jsh X = sh) (hn : jgN X = (ca, sl)) (hJ : jgJ sh σ) (h1 : sh.length < 1000) (hl : jgbl sh.length loc = true) (hs : jgbs sh.length st = true) (hN : jNw (jown X) idx ci fks) (hca : ca + 1 ≤ (jroom X).cells) (hsl : sl + fks.length ≤ (jroom X).slots) (hd : decode (jcc X) pc = .ok (.new idx, 3))
    (hk : ∀ X', jgE X X' (sh ++ [.inl (ci, fks)]) (ca + 1) (sl + fks.length) → jWj X' Q (pc + 3) loc (jmr sh.length :: st) σ) : jWj X Q pc loc st σ := by
  obtain ⟨p, l, e, R, s, m, args, below, meth, c, cc, nL, own, D, cy, A, ad, sh0, kd, ca0, sl0⟩ := X
  obtain ⟨hx, hb, hml, hown, hts, hlk, hK, hA, hBG, hr, -, -⟩ := hX
  have hsh : sh0 = sh := hsh
  have hn : (ca0, sl0) = (ca, sl) := hn
  subst hsh
  cases hn
  obtain ⟨C, T, ty, h2, h3, h4, h5, h6, h7, h8, h9⟩ := hN
  intro H locs ls hP hD hS hL
  refine va_new (ci := ci) (fs := fks.map jgdv) (C := C) (T := T) (N := fks.length) hx hb hts h3 ty h4 hown (hts _ h5) (hts _ h6) (hts _ h7) hK hP hD hS hA h2 h8 hca hsl hd (fun q H1 hP1 hD1 hS1 => ?_)
  refine jg_go hk hJ h1 hl hs hca hsl (fun ad' => ?_) hP1 hD1 hS1 hL
  show (Sum.inr (ci, fks.mapIdx (fun k fk => jfv ad' (σ sh0.length) k fk)) : va_E) = .inr (ci, fks.map jgdv)
  rw [jgnu_v (hJ.2 _ (Nat.le_refl _)) h9]
def jgat (t : Nat) : ArrayType := match t with
  | 0 => .int
  | 1 => .byte
  | 2 => .boolean
  | _ => .long
theorem jI_nat {n : Nat} (h : n ≤ 100000) : ¬ jI (n : Int) < 0 ∧ (jI (n : Int)).toNatClampNeg = n := by
  obtain ⟨h1, h2⟩ := j_in (x := (n : Int)) (n := n + 1) (by omega) ⟨by omega, by omega⟩
  exact ⟨fun q => h1 (Or.inl q), by rw [h2]; simp⟩
theorem jw_newa {t n : Nat} (ht : t < 4) (hn1 : n ≤ 100000) (hX : jOK X) (hsh : jsh X = sh) (hn : jgN X = (ca, sl)) (hJ : jgJ sh σ) (h1 : sh.length < 1000) (hl : jgbl sh.length loc = true) (hs : jgbs sh.length st = true) (hw : Cond.arrayClass (newarray.typeOf (jgat t)) ∈ jTB) (hca : ca + 1 ≤ (jroom X).cells) (hsl : sl + n ≤ (jroom X).slots) (hd : decode (jcc X) pc = .ok (.newarray (jgat t), 2))
    (hk : ∀ X', jgE X X' (sh ++ [.inr (.inl (t, n))]) (ca + 1) (sl + n) → jWj X' Q (pc + 2) loc (jmr sh.length :: st) σ) : jWj X Q pc loc (jmi (n : Int) :: st) σ := by
  obtain ⟨p, l, e, R, s, m, args, below, meth, c, cc, nL, own, D, cy, A, ad, sh0, kd, ca0, sl0⟩ := X
  obtain ⟨hx, hb, hml, hown, hts, hlk, hK, hA, hBG, hr, -, -⟩ := hX
  have hsh : sh0 = sh := hsh
  have hn : (ca0, sl0) = (ca, sl) := hn
  subst hsh
  cases hn
  intro H locs ls hP hD hS hL
  obtain ⟨n1, n2⟩ := jI_nat hn1
  have z1 : (fun j : Nat => jI (σ sh0.length (j : Int))) = fun _ => 0 := funext fun j => by rw [hJ.2 _ (Nat.le_refl _)]; rfl
  have z2 : (fun j : Nat => jL (σ sh0.length (j : Int))) = fun _ => 0 := funext fun j => by rw [hJ.2 _ (Nat.le_refl _)]; rfl
  match t, ht with
  | 0, _ =>
    refine va_newa (atype := .int) (ty := .int) (a0 := (n, .inl (fun _ => 0))) hx hb (hts _ hw) rfl hK hP hD hS hA (fun cA => rfl) n1 n2 (by show n * 4 ≤ 536870912; omega) hca hsl hd (fun q cA H1 hK1 hP1 hD1 hS1 => ?_)
    have g1 : s.vm.findClass ("[" ++ FieldType.int.toString) = some cA := (hK1.2 5 (cA, .int) rfl).2
    have g2 : s.vm.findClass ("[" ++ FieldType.int.toString) = some (cy 0) := (hK.2 0 (cy 0, .int) rfl).2
    cases g1.symm.trans g2
    refine jg_go hk hJ h1 hl hs hca hsl (fun ad' => ?_) hP1 hD1 hS1 hL
    show (Sum.inl (cy 0, n, Sum.inl (fun j : Nat => jI (σ sh0.length (j : Int)))) : va_E) = _
    rw [z1]
  | 1, _ =>
    refine va_newa (atype := .byte) (ty := .byte) (a0 := (n, .inl (fun _ => 0))) hx hb (hts _ hw) rfl hK hP hD hS hA (fun cA => rfl) n1 n2 (by show n * 1 ≤ 536870912; omega) hca hsl hd (fun q cA H1 hK1 hP1 hD1 hS1 => ?_)
    have g1 : s.vm.findClass ("[" ++ FieldType.byte.toString) = some cA := (hK1.2 5 (cA, .byte) rfl).2
    have g2 : s.vm.findClass ("[" ++ FieldType.byte.toString) = some (cy 1) := (hK.2 1 (cy 1, .byte) rfl).2
    cases g1.symm.trans g2
    refine jg_go hk hJ h1 hl hs hca hsl (fun ad' => ?_) hP1 hD1 hS1 hL
    show (Sum.inl (cy 1, n, Sum.inl (fun j : Nat => jI (σ sh0.length (j : Int)))) : va_E) = _
    rw [z1]
  | 2, _ =>
    refine va_newa (atype := .boolean) (ty := .boolean) (a0 := (n, .inl (fun _ => 0))) hx hb (hts _ hw) rfl hK hP hD hS hA (fun cA => rfl) n1 n2 (by show n * 1 ≤ 536870912; omega) hca hsl hd (fun q cA H1 hK1 hP1 hD1 hS1 => ?_)
    have g1 : s.vm.findClass ("[" ++ FieldType.boolean.toString) = some cA := (hK1.2 5 (cA, .boolean) rfl).2
    have g2 : s.vm.findClass ("[" ++ FieldType.boolean.toString) = some (cy 2) := (hK.2 2 (cy 2, .boolean) rfl).2
    cases g1.symm.trans g2
    refine jg_go hk hJ h1 hl hs hca hsl (fun ad' => ?_) hP1 hD1 hS1 hL
    show (Sum.inl (cy 2, n, Sum.inl (fun j : Nat => jI (σ sh0.length (j : Int)))) : va_E) = _
    rw [z1]
  | 3, _ =>
    refine va_newa (atype := .long) (ty := .long) (a0 := (n, .inr (.inl (fun _ => 0)))) hx hb (hts _ hw) rfl hK hP hD hS hA (fun cA => rfl) n1 n2 (by show n * 8 ≤ 536870912; omega) hca hsl hd (fun q cA H1 hK1 hP1 hD1 hS1 => ?_)
    have g1 : s.vm.findClass ("[" ++ FieldType.long.toString) = some cA := (hK1.2 5 (cA, .long) rfl).2
    have g2 : s.vm.findClass ("[" ++ FieldType.long.toString) = some (cy 3) := (hK.2 3 (cy 3, .long) rfl).2
    cases g1.symm.trans g2
    refine jg_go hk hJ h1 hl hs hca hsl (fun ad' => ?_) hP1 hD1 hS1 hL
    show (Sum.inl (cy 3, n, Sum.inr (Sum.inl (fun j : Nat => jL (σ sh0.length (j : Int))))) : va_E) = _
    rw [z2]
theorem jw_anew {idx n : Nat} (hn1 : n ≤ 100000) (hX : jOK X) (hI : jgI X) (hsh : jsh X = sh) (hn : jgN X = (ca, sl)) (hJ : jgJ sh σ) (h1 : sh.length < 1000) (hl : jgbl sh.length loc = true) (hs : jgbs sh.length st = true) (hw : Cond.classLink (jown X) idx "LastLoses$Quotient" ∈ jTB) (hca : ca + 1 ≤ (jroom X).cells) (hsl : sl + n ≤ (jroom X).slots) (hd : decode (jcc X) pc = .ok (.anewarray idx, 3))
    (hk : ∀ X', jgE X X' (sh ++ [.inr (.inl (4, n))]) (ca + 1) (sl + n) → jWj X' Q (pc + 3) loc (jmr sh.length :: st) σ) : jWj X Q pc loc (jmi (n : Int) :: st) σ := by
  obtain ⟨p, l, e, R, s, m, args, below, meth, c, cc, nL, own, D, cy, A, ad, sh0, kd, ca0, sl0⟩ := X
  obtain ⟨hx, hb, hml, hown, hts, hlk, hK, hA, hBG, hr, -, -⟩ := hX
  have hsh : sh0 = sh := hsh
  have hn : (ca0, sl0) = (ca, sl) := hn
  subst hsh
  cases hn
  intro H locs ls hP hD hS hL
  obtain ⟨n1, n2⟩ := jI_nat hn1
  refine va_newq hx hb hown (hts _ hw) hI hK hP hD hS hA n1 n2 (by omega) hca hsl hd (fun q cA H1 hK1 hP1 hD1 hS1 => ?_)
  obtain ⟨-, -, -, -, -, g1⟩ := (hK1.2 5 (cA, .object "LastLoses$Quotient") rfl).2
  obtain ⟨-, -, -, -, -, g2⟩ := (hK.2 4 (cy 4, .object "LastLoses$Quotient") rfl).2
  cases g1.symm.trans g2
  refine jg_go hk hJ h1 hl hs hca hsl (fun ad' => ?_) hP1 hD1 hS1 hL
  show (Sum.inl (cy 4, n, Sum.inr (Sum.inr (Sum.inr (Sum.inr (fun j : Nat => jrf ad' (σ sh0.length (j : Int))))))) : va_E) = _
  have z : (fun j : Nat => jrf ad' (σ sh0.length (j : Int))) = fun _ => none := funext fun j => by rw [hJ.2 _ (Nat.le_refl _)]; rfl
  rw [z]
/-- a field that is written by a link of its own class: its type, whether it is final -/
def jPF (own : String) (idx ci f : Nat) (t : FieldType) (fin : Bool) : Prop := ∃ (C : String) (T : u_T) (N : Nat) (ty : Nat → FieldType), vwCl[ci]? = some (C, T, N) ∧ f < N ∧ (∀ w ∈ u_ws C T N, w ∈ jTB) ∧ (∀ k, k < N → parseFieldDescriptor (T k).2.2.1 = some (ty k)) ∧ (∀ a, a < N → ∀ b, b < N → a ≠ b → (T a).2.1 ≠ (T b).2.1) ∧ (∀ k, k < N → (T k).1 = C) ∧ Cond.fieldLink own idx C (T f).2.1 (T f).2.2.1 ∈ jTB ∧ parseFieldDescriptor (T f).2.2.1 = some t ∧ (T f).2.2.2 = fin ∧ own = C
theorem jw_putF {id idx ci f : Nat} {fks : List jxF} {fin : Bool} {t : FieldType} {w : jxV} (hX : jOK X) (hsh : jsh X = sh) (hn : jgN X = (ca, sl)) (hs : sh[id]? = some (.inl (ci, fks))) (hf : f < fks.length) (hl : jPF (jown X) idx ci f t fin) (hi : fin = true → jgIn X) (hv : ∀ ad, narrow t (jtoV ad w) = jtoV ad w ∧ fits t (jtoV ad w) = true)
    (hw : ∀ ad cy, (jW ad cy sh σ).set id (ad id, .inr (ci, (fks.mapIdx (fun k fk => jfv ad (σ id) k fk)).set f (jtoV ad w))) = jW ad cy sh' σ') (hlen : sh'.length = sh.length) (hd : decode (jcc X) pc = .ok (.putfield idx, 3)) (hk : ∀ X', jgE X X' sh' ca sl → jWj X' Q (pc + 3) loc r σ') : jWj X Q pc loc (w :: jmr id :: r) σ := by
  obtain ⟨p, l, e, R, s, m, args, below, meth, c, cc, nL, own, D, cy, A, ad, sh0, kd, ca0, sl0⟩ := X
  obtain ⟨hx, hb, hml, hown, hts, hlk, hK, hA, hBG, hr, hca, hsl⟩ := hX
  have hsh : sh0 = sh := hsh
  have hn : (ca0, sl0) = (ca, sl) := hn
  subst hsh
  cases hn
  have k := hk _ ⟨ad, fun i _ => rfl, rfl, hca, hsl, by simp [jsh, hlen]⟩
  intro H locs ls hP hD hS hL
  obtain ⟨C, T, N, ty, h1, h2, h3, h4, h5, h6, h7, h8, h9, h10⟩ := hl
  have h10 : own = C := h10
  have hle : f < (fks.mapIdx (fun k fk => jfv ad (σ id) k fk)).length := by rw [List.length_mapIdx]; exact hf
  cases fin with
  | true => exact va_putF hx hb hts h3 ty h4 h5 hown hK hP hD hS id (jW_get hs) h1 f h2 (hts _ h7) (by rw [h6 f h2]; exact fun _ h => h) h9 (hi rfl) (by rw [h6 f h2, h10]) h8 (hv ad).1 (hv ad).2 hle hd (fun H1 locs1 hP1 hD1 hS1 => k H1 locs1 ls (hw ad cy ▸ hP1) (hw ad cy ▸ hD1) hS1 hL)
  | false => exact va_put hx hb hts h3 ty h4 h5 hown hK hP hD hS id (jW_get hs) h1 f h2 (hts _ h7) (by rw [h6 f h2]; exact fun _ h => h) h9 h8 (hv ad).1 (hv ad).2 hle hd (fun H1 locs1 hP1 hD1 hS1 => k H1 locs1 ls (hw ad cy ▸ hP1) (hw ad cy ▸ hD1) hS1 hL)
/-- a reference put into a field: the cell's shape changes -/
theorem jW_ref {id ci f j : Nat} {fks : List jxF} (hs : sh[id]? = some (.inl (ci, fks))) (hf : f < fks.length) : ∀ (ad : Nat → Nat) (cy : Nat → ClassId), (jW ad cy sh σ).set id (ad id, .inr (ci, (fks.mapIdx (fun k fk => jfv ad (σ id) k fk)).set f (jtoV ad (jmr j)))) = jW ad cy (sh.set id (.inl (ci, fks.set f (.inr (some j))))) σ := by
  intro ad cy
  refine List.ext_getElem? fun a => ?_
  have hl : id < sh.length := (List.getElem?_eq_some_iff.mp hs).1
  by_cases ha : a = id
  · subst ha
    rw [List.getElem?_set_self (by rw [jW, List.length_mapIdx]; exact hl), jW_get (List.getElem?_set_self hl)]
    have e : (fks.mapIdx (fun k fk => jfv ad (σ a) k fk)).set f (jtoV ad (jmr j)) = (fks.set f (.inr (some j))).mapIdx (fun k fk => jfv ad (σ a) k fk) := by
      refine List.ext_getElem? fun b => ?_
      rw [List.getElem?_mapIdx]
      by_cases hb : b = f
      · subst hb
        rw [List.getElem?_set_self (by rw [List.length_mapIdx]; exact hf), List.getElem?_set_self hf]
        rfl
      · rw [List.getElem?_set_ne (Ne.symm hb), List.getElem?_set_ne (Ne.symm hb), List.getElem?_mapIdx]
    rw [e]
    rfl
  · rw [List.getElem?_set_ne (Ne.symm ha), jW, jW, List.getElem?_mapIdx, List.getElem?_mapIdx, List.getElem?_set_ne (Ne.symm ha)]
theorem jW_int {id ci f : Nat} {fks : List jxF} {fk : jxF} {v : Int} (hs : sh[id]? = some (.inl (ci, fks))) (hf : fks[f]? = some fk) (hv : ∀ ad, jfv ad (jup σ id f v id) f fk = jtoV ad (jmi v)) : ∀ (ad : Nat → Nat) (cy : Nat → ClassId), (jW ad cy sh σ).set id (ad id, .inr (ci, (fks.mapIdx (fun k fk => jfv ad (σ id) k fk)).set f (jtoV ad (jmi v)))) = jW ad cy sh (jup σ id f v) := by
  intro ad cy
  have e0 := jfs_set (ad := ad) (σ := σ) (id := id) (v := v) hf (hv ad)
  exact jW_set (ad := ad) (cy := cy) (sh := sh) (σ := σ) (k := (f : Int)) (v := v) hs (by rw [e0]; rfl)
theorem jw_aast {id j n ci x : Nat} {fks : List jxF} {T : u_T} {N : Nat} (hX : jOK X) (hs : (jsh X)[id]? = some (.inr (.inl (4, n)))) (hv : (jsh X)[j]? = some (.inl (ci, fks))) (hc : vwCl[ci]? = some ("LastLoses$Quotient", T, N)) (hj : 0 < j) (hn : n ≤ 100000) (hi : x < n) (hd : decode (jcc X) pc = .ok (.aastore, 1)) (hk : jWj X Q (pc + 1) loc r (jup σ id (x : Int) (j : Int))) : jWj X Q pc loc (jmr j :: jmi (x : Int) :: jmr id :: r) σ := by
  obtain ⟨p, l, e, R, s, m, args, below, meth, c, cc, nL, own, D, cy, A, ad, sh0, kd, ca0, sl0⟩ := X
  obtain ⟨hx, hb, hml, hown, hts, hlk, hK, hA, hBG, hr, hca, hsl⟩ := hX
  intro H locs ls hP hD hS hL
  obtain ⟨h1, h2⟩ := j_in (x := (x : Int)) (n := n) (by omega) ⟨by omega, by omega⟩
  have h2 : (jI (x : Int)).toNatClampNeg = x := by rw [h2]; simp
  have hw : (jW ad cy sh0 σ).set id (ad id, .inl (cy 4, n, .inr (.inr (.inr (.inr (va_up (fun q : Nat => jrf ad (σ id (q : Int))) (jI (x : Int)).toNatClampNeg (some (ad j)))))))) = jW ad cy sh0 (jup σ id (x : Int) (j : Int)) := by
    refine jW_set (k := (x : Int)) (v := (j : Int)) hs ?_
    show _ = (Sum.inl (cy 4, n, Sum.inr (Sum.inr (Sum.inr (Sum.inr (fun q : Nat => jrf ad (jup σ id (x : Int) (j : Int) id (q : Int))))))) : va_E)
    have z : va_up (fun q : Nat => jrf ad (σ id (q : Int))) (jI (x : Int)).toNatClampNeg (some (ad j)) = fun q : Nat => jrf ad (jup σ id (x : Int) (j : Int) id (q : Int)) := by
      rw [h2]
      funext q
      by_cases hq : q = x
      · subst hq
        have : ¬ j = 0 := by omega
        simp [va_up, jup, jrf, this]
      · have : ¬ (q : Int) = (x : Int) := by omega
        simp [va_up, jup, hq, this]
    rw [z]
  exact va_astq hx hb hK hP hD hS id 4 j ci (r := ("LastLoses$Quotient", T, N)) (jW_get hs) rfl (jW_get hv) hc h1 hd (fun H1 locs1 hP1 hD1 hS1 => hk H1 locs1 ls (hw ▸ hP1) (hw ▸ hD1) hS1 hL)
theorem jw_oi {id idx : Nat} (hX : jOK X) (hl : Cond.methodLink (jown X) idx objectInit ∈ jTB) (h1 : Cond.instanceMethod objectInit ∈ jTB) (h2 : Cond.code objectInit ⟨#[0xb1]⟩ 1 none ∈ jTB) (hfr : 1 ≤ (jroom X).frames) (hlo : 20 ≤ (jroom X).locals) (hcat : jcat r ≤ 8) (hd : decode (jcc X) pc = .ok (.invokespecial idx, 3)) (hk : jWj X Q (pc + 3) loc r σ) : jWj X Q pc loc (jmr id :: r) σ := by
  obtain ⟨p, l, e, R, s, m, args, below, meth, c, cc, nL, own, D, cy, A, ad, sh0, kd, ca0, sl0⟩ := X
  obtain ⟨hx, hb, hml, hown, hts, hlk, hK, hA, hBG, hr, hca, hsl⟩ := hX
  intro H locs ls hP hD hS hL
  refine W.objInit hx hb hown (hts _ hl) (hts _ h1) (hts _ h2) rfl (by rw [hml]; exact hL.1) rfl hd hfr ?_ ?_
  · have h8 : 2 * (F0 m pc ls (List.map (jtoV ad) (jmr id :: r))).monitorRoom + ((r.map (jtoV ad)).map fun v => v.category).sum ≤ 8 := lv_room (by rw [jcat_sum]; exact hcat)
    have hlo : 20 ≤ R.locals := hlo
    exact Nat.le_trans (Nat.add_le_add_right h8 12) hlo
  · exact W.eq (g2 := F0 m (pc + 3) ls (r.map (jtoV ad))) rfl (hk H locs ls hP hD hS hL)
end GRW
/-- a method's start, where rows of quotients may be made -/
def jPg (D : va_G) (cy : Nat → ClassId) (A : Nat → Prop) (ad : Nat → Nat) (sh : List jxC) (σ : jxS) (as : List jxV) : Array Value → State → Prop := fun v U => jPc D cy A ad sh σ as v U ∧ va_AO "LastLoses$Quotient" U
/-- a method's end, with more cells -/
def jQg (D : va_G) (cy : Nat → ClassId) (A : Nat → Prop) (ad : Nat → Nat) (sh sh' : List jxC) (r : Option jxV) (σ' : jxS) : Array Value → State → Outcome → State → Prop := fun _ st oc t => oc = .returned (r.map (jtoV ad)) ∧ (∃ ad' : Nat → Nat, (∀ i, i < sh.length ∨ 1000 ≤ i → ad' i = ad i) ∧ va_P D vwCl (jW ad' cy sh' σ') t.heap ∧ va_D A (jW ad' cy sh' σ')) ∧ va_F A st t
/-- a contract of a method that makes cells -/
def jMG (y : MethodName) (bytes : ByteArray) (maxL kd fr lo mc ms : Nat) (sh : List jxC) (σ : jxS) (as : List jxV) (v : Option jxV) (sh' : List jxC) (σ' : jxS) : Prop := ∀ (l : Launch) (D : va_G) (cy : Nat → ClassId) (A : Nat → Prop) (ad : Nat → Nat), Met l y (.code y bytes maxL (jrt kd) :: jTB) { frames := fr, cells := mc, slots := ms, locals := lo } (jPg D cy A ad sh σ as) (jQg D cy A ad sh sh' v σ') mc ms A
theorem jPg_blind {D : va_G} {cy : Nat → ClassId} {A : Nat → Prop} {ad : Nat → Nat} {sh : List jxC} {σ : jxS} {as : List jxV} : FrameBlind (jPg D cy A ad sh σ as) := fun a U g mk h => ⟨jPc_blind a U g mk h.1, va_AO.moved (u := U) (U := U.calling g mk a) (Vm.Alike.refl U.vm) h.2⟩
section GRC
variable {p : Program} {l : Launch} {e : Env} {R : Room} {s : State} {m : MethodId} {args : Array Value} {below : List Frame} {meth : Method} {c : Code} {H : Heap} {locs : List Loc} {Q : State → Prop} {pc : Nat} {ls : Array Slot} {rest st0 : List Value} {a : Array Value} {D : va_G} {cy : Nat → ClassId} {A A0 : Nat → Prop} {ad : Nat → Nat} {sh sh' : List jxC} {v : Option jxV} {σ1 : jxS} {ca sl mc ms : Nat}
theorem jcallG_on (hr : va_Run p l e R s m args below meth c H locs ca sl mc ms (F0 m pc ls st0) rest (jQg D cy A ad sh sh' v σ1 a) A) (hS : va_S A0 s.heap H locs) (hA : ∀ q, A q → A0 q)
    (hk : ∀ (H1 : Heap) (locs1 : List Loc) (ad' : Nat → Nat), (∀ i, i < sh.length ∨ 1000 ≤ i → ad' i = ad i) → va_P D vwCl (jW ad' cy sh' σ1) H1 → va_D A (jW ad' cy sh' σ1) → va_S A0 s.heap H1 locs1 → H.size ≤ H1.size → (∀ q : Nat, q < H.size → ¬ A q → H1[q]? = H[q]?) → W p l e R s m args below meth c H1 locs1 (ca + mc) (sl + ms) Q (F0 m (pc + 3) ls ((v.map (jtoV ad)).toList ++ rest))) : W p l e R s m args below meth c H locs ca sl Q (F0 m pc ls st0) := by
  intro T hT X
  obtain ⟨w, st₀, t, T', L, h0, X', hL, e1, e2, ⟨hv, ⟨ad', ha, hP, hD⟩, hz, hq⟩, st⟩ := hr T hT X
  cases hv
  rw [h0] at hz hq
  obtain ⟨t2, a1, b1⟩ := hk T'.heap (locs ++ L) ad' ha (by rw [e1]; exact hP) hD
    ⟨Nat.le_trans hS.1 (by rw [e1]; exact hz), fun q h1 h2 => by rw [e1, hq q (Nat.lt_of_lt_of_le h1 hS.1) (fun z => h2 (hA q z))]; exact hS.2.1 q h1 h2, fun q hq => by
      rcases List.mem_append.mp hq with h | h
      · exact hS.2.2 q h
      · exact hA _ (hL q h)⟩ (by rw [e1]; exact hz) (fun q h1 h2 => by rw [e1]; exact hq q h1 h2) T' rfl X'
  exact ⟨t2, st t2 a1, b1⟩
end GRC
/-- what the tables say of a constructor's call -/
def jLkI (own : String) (idx : Nat) (y : MethodName) (bytes : ByteArray) (maxL n : Nat) : Prop := (Cond.methodLink own idx y ∈ jTB ∨ ∃ host, Cond.methodLinkNest own idx y host ∈ jNS) ∧ Cond.instanceMethod y ∈ jTB ∧ Cond.initialized y.cls ∈ jTB ∧ Cond.code y bytes maxL none ∈ jTB ∧ y.name = "<init>" ∧ (y.cls ≠ "java/lang/invoke/MethodHandle" ∧ y.cls ≠ "java/lang/invoke/VarHandle" ∧ (parseMethodDescriptor y.desc).map (fun d => d.parameters.length) = some n)
theorem jw_ctor {X : jxX} {Q : State → Prop} {pc : Nat} {loc : jxL} {rest as : List jxV} {σ σ1 : jxS} {sh sh' : List jxC} {ca sl mc ms fr lo maxL n idx id : Nat} {y : MethodName} {bytes : ByteArray} (hX : jOK X) (hI : jgI X) (hsh : jsh X = sh) (hn : jgN X = (ca, sl)) (hl : jLkI (jown X) idx y bytes maxL n) (hr : fr + 1 ≤ (jroom X).frames ∧ 8 + (maxL + 11) + lo ≤ (jroom X).locals) (hca : ca + mc ≤ (jroom X).cells) (hsl : sl + ms ≤ (jroom X).slots) (has : as.length = n)
    (hM : jMG y bytes maxL 0 fr lo mc ms sh σ (jmr id :: as) none sh' σ1) (hlen : sh.length ≤ sh'.length) (hcat : jcat rest ≤ 8) (hbl : jgbl sh.length loc = true) (hbs : jgbs sh.length rest = true) (hd : decode (jcc X) pc = .ok (.invokespecial idx, 3)) (hk : ∀ X', jgE X X' sh' (ca + mc) (sl + ms) → jWj X' Q (pc + 3) loc rest σ1) : jWj X Q pc loc (as.reverse ++ jmr id :: rest) σ := by
  obtain ⟨p, l, e, R, s, m, args, below, meth, c, cc, nL, own, D, cy, A, ad, sh0, kd, ca0, sl0⟩ := X
  obtain ⟨hx, hb, hml, hown, hts, hlk, hK, hA, hBG, hrt, -, -⟩ := hX
  have hsh : sh0 = sh := hsh
  have hn : (ca0, sl0) = (ca, sl) := hn
  subst hsh
  cases hn
  intro H locs ls hP hD hS hL
  obtain ⟨h1, h2, h3, h4, h5, h6⟩ := hl
  have fin : va_Run p l e R s m args below meth c H locs ca sl mc ms (F0 m pc ls ((as.reverse ++ jmr id :: rest).map (jtoV ad))) (rest.map (jtoV ad)) (jQg D cy A ad sh0 sh' none σ1 ((jmr id :: as).map (jtoV ad)).toArray) A := by
    rcases h1 with h1 | ⟨host, h1⟩
    · exact va_runI (g := F0 m pc ls ((as.reverse ++ jmr id :: rest).map (jtoV ad))) (rest := rest.map (jtoV ad)) (locs := locs) (cells := ca) (slots := sl) (nL := nL) (As := as.map (jtoV ad)) (b := ad id) ⟨hx, hb, hml, hown, hts⟩ (hM l D cy A ad) (cwI n hts (jTB_in (fun _ h => h) h4) rfl rfl rfl (hts _ h3) (hts _ h1) (hts _ h2) h5 h6 hr) ⟨jPg_blind, fun U hU hW => ⟨jpre (as := jmr id :: as) hP hD hS hK hA hBG U hU hW, va_AO.moved hW.alike hI⟩⟩ rfl (by simpa using has) hL.1
        (by simp [List.map_append, List.map_reverse, jtoV]) (lv_room (by rw [jcat_sum]; exact hcat)) hd ⟨hca, hsl⟩
    · exact va_runIN (g := F0 m pc ls ((as.reverse ++ jmr id :: rest).map (jtoV ad))) (rest := rest.map (jtoV ad)) (locs := locs) (cells := ca) (slots := sl) (nL := nL) (As := as.map (jtoV ad)) (b := ad id) ⟨hx, hb, hml, hown, hts⟩ (hM l D cy A ad) ⟨va_cnB n hts (jTB_in (fun _ h => h) h4) rfl rfl rfl (hBG.1 _ h1) (hts _ h3) h6 hr, h5, hts _ h2⟩ ⟨jPg_blind, fun U hU hW => ⟨jpre (as := jmr id :: as) hP hD hS hK hA hBG U hU hW, va_AO.moved hW.alike hI⟩⟩ rfl (by simpa using has) hL.1
        (by simp [List.map_append, List.map_reverse, jtoV]) (lv_room (by rw [jcat_sum]; exact hcat)) hd ⟨hca, hsl⟩
  refine jcallG_on fin hS (fun _ h => h) (fun H1 locs1 ad' ha hP1 hD1 hS1 _ _ => ?_)
  have k := hk _ ⟨ad', ha, rfl, hca, hsl, hlen⟩ H1 locs1 ls hP1 hD1 hS1 (jgbl_LH ha hbl hL)
  rw [jgbs_eq ha hbs] at k
  exact k
