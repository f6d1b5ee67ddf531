/-! Fields, calls, returns; a whole run of the small machine. -/
/-- field f of class ci, as the class 'own' links it by a number of its pool -/
def jFl (own : String) (idx ci f : Nat) : Prop := ∃ (C : String) (T : u_T) (N : Nat) (ty : Nat → FieldType), vwCl[ci]? = some (C, T, N) ∧ f < N ∧ (∀ w ∈ u_ws C T N, w ∈ jTB) ∧ (∀ k, k < N → parseFieldDescriptor (T k).2.2.1 = some (ty k)) ∧ (∀ a, a < N → ∀ b, b < N → a ≠ b → (T a).2.1 ≠ (T b).2.1) ∧ (∀ k, k < N → (T k).1 = C) ∧
  (Cond.fieldLink own idx C (T f).2.1 (T f).2.2.1 ∈ jTB ∨ ∃ host, Cond.fieldLinkNest own idx C (T f).2.1 (T f).2.2.1 host ∈ jNS)
/-- what may be written to field f of class ci: its kind (0 an int, 1 a long, 2 a boolean) -/
def jpt (kd : Nat) : FieldType := match kd with
  | 0 => .int
  | 1 => .long
  | _ => .boolean
def jPf (ci f kd : Nat) : Prop := ∃ (C : String) (T : u_T) (N : Nat), vwCl[ci]? = some (C, T, N) ∧ (T f).2.2.2 = false ∧ parseFieldDescriptor (T f).2.2.1 = some (jpt kd)
section JR
variable {X : jxX} {Q : State → Prop} {pc : Nat} {loc : jxL} {r st : List jxV} {σ : jxS}
theorem jfs_at {ad : Nat → Nat} {f : Int → Int} {fks : List jxF} {k : Nat} {fk : jxF} (h : fks[k]? = some fk) : (fks.mapIdx (fun k fk => jfv ad f k fk))[k]? = some (jfv ad f k fk) := by
  simp [List.getElem?_mapIdx, h]
theorem jw_get {id idx ci f : Nat} {fks : List jxF} {fk : jxF} {v : jxV} (hX : jOK X) (hs : (jsh X)[id]? = some (.inl (ci, fks))) (hf : fks[f]? = some fk) (hv : ∀ ad, jfv ad (σ id) f fk = jtoV ad v) (hl : jFl (jown X) idx ci f) (hd : decode (jcc X) pc = .ok (.getfield idx, 3)) (hk : jWj X Q (pc + 3) loc (v :: r) σ) : jWj X Q pc loc (jmr id :: r) σ := by
  obtain ⟨p, l, e, R, s, m, args, below, meth, c, cc, nL, own, D, cy, A, ad, sh, kd, ca, sl⟩ := X
  obtain ⟨hx, hb, hml, hown, hts, hlk, hK, hA, hBG, hr, hca, hsl⟩ := hX
  intro H locs ls hP hD hS hL
  have k := hk H locs ls hP hD hS hL
  obtain ⟨C, T, N, ty, h1, h2, h3, h4, h5, h6, h7⟩ := hl
  have e := jfs_at (ad := ad) (f := σ id) hf
  rw [hv] at e
  rcases h7 with h7 | ⟨host, h7⟩
  · exact va_get hx hb hts h3 hown hK hP id (jW_get hs) h1 f h2 (hts _ h7) (by rw [h6 f h2]; exact fun _ h => h) e hd k
  · exact va_getN hx hb hts h3 hown hK hP id (jW_get hs) h1 f h2 (va_Nw.use rfl (hBG.1 _ h7)) (by rw [h6 f h2]; exact fun _ h => h) e hd k
theorem jfs_set {ad : Nat → Nat} {σ : jxS} {id : Nat} {v : Int} {w : Value} {fks : List jxF} {f : Nat} {fk : jxF} (h : fks[f]? = some fk) (hw : jfv ad (jup σ id f v id) f fk = w) : (fks.mapIdx (fun k fk => jfv ad (σ id) k fk)).set f w = fks.mapIdx (fun k fk => jfv ad (jup σ id f v id) k fk) := by
  refine List.ext_getElem? fun a => ?_
  by_cases ha : a = f
  · subst ha
    have hl : a < (fks.mapIdx (fun k fk => jfv ad (σ id) k fk)).length := by
      rw [List.length_mapIdx]
      exact (List.getElem?_eq_some_iff.mp h).1
    rw [List.getElem?_set_self hl, List.getElem?_mapIdx, h, ← hw]
    rfl
  · rw [List.getElem?_set_ne (Ne.symm ha), List.getElem?_mapIdx, List.getElem?_mapIdx]
    have e : ∀ fk, jfv ad (jup σ id f v id) a fk = jfv ad (σ id) a fk := by
      intro fk
      have h9 : jup σ id f v id (a : Int) = σ id (a : Int) := by
        have : ¬ (a : Int) = (f : Int) := by omega
        simp [jup, this]
      unfold jfv
      rw [h9]
    simp [e]
theorem jw_put {id idx ci f : Nat} {fks : List jxF} {fk : jxF} {v : Int} {w : jxV} {kd' : Nat} (hX : jOK X) (hs : (jsh X)[id]? = some (.inl (ci, fks))) (hf : fks[f]? = some fk) (hv : ∀ ad, jfv ad (jup σ id f v id) f fk = jtoV ad w) (hl : jFl (jown X) idx ci f) (hp : jPf ci f kd') (hn : ∀ ad, narrow (jpt kd') (jtoV ad w) = jtoV ad w ∧ fits (jpt kd') (jtoV ad w) = true) (hd : decode (jcc X) pc = .ok (.putfield idx, 3)) (hk : jWj X Q (pc + 3) loc r (jup σ id f v)) : jWj X Q pc loc (w :: jmr id :: r) σ := by
  obtain ⟨p, l, e, R, s, m, args, below, meth, c, cc, nL, own, D, cy, A, ad, sh, kd, ca, sl⟩ := X
  obtain ⟨hx, hb, hml, hown, hts, hlk, hK, hA, hBG, hr, hca, hsl⟩ := hX
  intro H locs ls hP hD hS hL
  obtain ⟨C, T, N, ty, h1, h2, h3, h4, h5, h6, h7⟩ := hl
  obtain ⟨C', T', N', g1, g2, g3⟩ := hp
  cases h1.symm.trans g1
  have hlen : f < (fks.mapIdx (fun k fk => jfv ad (σ id) k fk)).length := by
    rw [List.length_mapIdx]
    exact (List.getElem?_eq_some_iff.mp hf).1
  have e0 := jfs_set (ad := ad) (σ := σ) (id := id) (v := v) hf (hv ad)
  have e := jW_set (ad := ad) (cy := cy) (sh := sh) (σ := σ) (k := (f : Int)) (v := v) (e := .inr (ci, (fks.mapIdx (fun k fk => jfv ad (σ id) k fk)).set f (jtoV ad w))) hs (by rw [e0]; rfl)
  rcases h7 with h7 | ⟨host, h7⟩
  · exact va_put hx hb hts h3 ty h4 h5 hown hK hP hD hS id (jW_get hs) h1 f h2 (hts _ h7) (by rw [h6 f h2]; exact fun _ h => h) g2 g3 (hn ad).1 (hn ad).2 hlen hd (fun H1 locs1 hP1 hD1 hS1 => hk H1 locs1 ls (e ▸ hP1) (e ▸ hD1) hS1 hL)
  · exact va_putN hx hb hts h3 ty h4 h5 hown hK hP hD hS id (jW_get hs) h1 f h2 (va_Nw.use rfl (hBG.1 _ h7)) (by rw [h6 f h2]; exact fun _ h => h) g2 g3 (hn ad).1 (hn ad).2 hlen hd (fun H1 locs1 hP1 hD1 hS1 => hk H1 locs1 ls (e ▸ hP1) (e ▸ hD1) hS1 hL)
theorem jw_alen {id n : Nat} (hX : jOK X) (hs : (jsh X)[id]? = some (.inr (.inl (0, n)))) (hd : decode (jcc X) pc = .ok (.arraylength, 1)) (hk : jWj X Q (pc + 1) loc (jmi (n : Int) :: r) σ) : jWj X Q pc loc (jmr id :: r) σ := by
  obtain ⟨p, l, e, R, s, m, args, below, meth, c, cc, nL, own, D, cy, A, ad, sh, kd, ca, sl⟩ := X
  obtain ⟨hx, hb, hml, hown, hts, hlk, hK, hA, hBG, hr, hca, hsl⟩ := hX
  intro H locs ls hP hD hS hL
  exact va_alen hx hb hK hP id 0 (jW_get hs) rfl (by show Int32.ofNat n = Int32.ofInt (n : Int); simp [Int32.ofInt, Int32.ofNat]) hd (hk H locs ls hP hD hS hL)
theorem jw_lalen {id n : Nat} (hX : jOK X) (hs : (jsh X)[id]? = some (.inr (.inl (3, n)))) (hd : decode (jcc X) pc = .ok (.arraylength, 1)) (hk : jWj X Q (pc + 1) loc (jmi (n : Int) :: r) σ) : jWj X Q pc loc (jmr id :: r) σ := by
  obtain ⟨p, l, e, R, s, m, args, below, meth, c, cc, nL, own, D, cy, A, ad, sh, kd, ca, sl⟩ := X
  obtain ⟨hx, hb, hml, hown, hts, hlk, hK, hA, hBG, hr, hca, hsl⟩ := hX
  intro H locs ls hP hD hS hL
  exact va_alen hx hb hK hP id 3 (jW_get hs) rfl (by show Int32.ofNat n = Int32.ofInt (n : Int); simp [Int32.ofInt, Int32.ofNat]) hd (hk H locs ls hP hD hS hL)
/-- tables that nobody writes -/
def jTt (id : Nat) (tb : List Int) : Prop := (id = 1000 ∧ tb = jtab0) ∨ (id = 1001 ∧ tb = jtab1)
theorem jTt_T {id : Nat} {tb : List Int} (h : jTt id tb) {ad : Nat → Nat} {A : Nat → Prop} {s : State} (hB : jBG ad A s) : va_T .int (ad id) tb.length (fun j => .int (jI (tb.getD j 0))) A s s.heap ∧ tb.length < 2 ^ 31 := by
  rcases h with ⟨rfl, rfl⟩ | ⟨rfl, rfl⟩
  · exact ⟨hB.2.2.1, by decide⟩
  · exact ⟨hB.2.2.2.2.1, by decide⟩
theorem jw_tald {x : Int} {id : Nat} {tb : List Int} (hX : jOK X) (hs : jTt id tb) (hi : 0 ≤ x ∧ x < (tb.length : Int)) (hd : decode (jcc X) pc = .ok (.iaload, 1)) (hk : jWj X Q (pc + 1) loc (jmi (tb.getD x.toNat 0) :: r) σ) : jWj X Q pc loc (jmi x :: jmr id :: r) σ := by
  obtain ⟨p, l, e, R, s, m, args, below, meth, c, cc, nL, own, D, cy, A, ad, sh, kd, ca, sl⟩ := X
  obtain ⟨hx, hb, hml, hown, hts, hlk, hK, hA, hBG, hr, hca, hsl⟩ := hX
  intro H locs ls hP hD hS hL
  obtain ⟨hT, hn⟩ := jTt_T hs hBG
  obtain ⟨h1, h2⟩ := j_in hn hi
  exact va_ti hx hb hT hS h1 (by rw [h2]; rfl) hd (hk H locs ls hP hD hS hL)
theorem jw_talen {id : Nat} {tb : List Int} (hX : jOK X) (hs : jTt id tb) (hd : decode (jcc X) pc = .ok (.arraylength, 1)) (hk : jWj X Q (pc + 1) loc (jmi (tb.length : Int) :: r) σ) : jWj X Q pc loc (jmr id :: r) σ := by
  obtain ⟨p, l, e, R, s, m, args, below, meth, c, cc, nL, own, D, cy, A, ad, sh, kd, ca, sl⟩ := X
  obtain ⟨hx, hb, hml, hown, hts, hlk, hK, hA, hBG, hr, hca, hsl⟩ := hX
  intro H locs ls hP hD hS hL
  obtain ⟨hT, hn⟩ := jTt_T hs hBG
  exact va_tlen hx hb hT hS (by show Int32.ofNat _ = Int32.ofInt (_ : Int); simp [Int32.ofInt, Int32.ofNat]) hd (hk H locs ls hP hD hS hL)
/-- an instruction of n bytes that puts v on the stack -/
def jLd (X : jxX) (i : Instr) (n : Nat) (v : jxV) : Prop := ∀ (Q : State → Prop) (pc : Nat) (loc : jxL) (st : List jxV) (σ : jxS), decode (jcc X) pc = .ok (i, n) → jWj X Q (pc + n) loc (v :: st) σ → jWj X Q pc loc st σ
theorem jLd_int {idx : Nat} {x : Int} (hX : jOK X) (h : Cond.constant (jown X) idx (jI x) ∈ jTB) : jLd X (.ldc idx) 2 (jmi x) := by
  intro Q pc loc st σ hd hk
  obtain ⟨p, l, e, R, s, m, args, below, meth, c, cc, nL, own, D, cy, A, ad, sh, kd, ca, sl⟩ := X
  obtain ⟨hx, hb, hml, hown, hts, hlk, hK, hA, hBG, hr, hca, hsl⟩ := hX
  intro H locs ls hP hD hS hL
  exact lv_ldc hx hb hown (hts _ h) hd (hk H locs ls hP hD hS hL)
theorem jLd_long {idx : Nat} {x : Int} (hX : jOK X) (h : Cond.constantLong (jown X) idx (jL x) ∈ jTB) : jLd X (.ldc2_w idx) 3 (jml x) := by
  intro Q pc loc st σ hd hk
  obtain ⟨p, l, e, R, s, m, args, below, meth, c, cc, nL, own, D, cy, A, ad, sh, kd, ca, sl⟩ := X
  obtain ⟨hx, hb, hml, hown, hts, hlk, hK, hA, hBG, hr, hca, hsl⟩ := hX
  intro H locs ls hP hD hS hL
  exact lv_ldc2 hx hb hown (hts _ h) hd (hk H locs ls hP hD hS hL)
theorem jLd_text (i : Nat) (hi : i < 4) (hX : jOK X) (ho : jown X = jsown) : jLd X (.ldc (jsidx i)) 2 (jmr (1002 + i)) := by
  intro Q pc loc st σ hd hk
  obtain ⟨p, l, e, R, s, m, args, below, meth, c, cc, nL, own, D, cy, A, ad, sh, kd, ca, sl⟩ := X
  obtain ⟨hx, hb, hml, hown, hts, hlk, hK, hA, hBG, hr, hca, hsl⟩ := hX
  have ho : own = jsown := ho
  subst ho
  intro H locs ls hP hD hS hL
  exact va_ldcS hx hb hown (hBG.2.2.2.2.2.2.1 i hi) hd (hk H locs ls hP hD hS hL)
theorem jLd_st0 {idx : Nat} (hX : jOK X) (h : Cond.fieldLink (jown X) idx "LastLoses$Values" "BESIDE_MOVES" "[I" ∈ jTB) : jLd X (.getstatic idx) 3 (jmr 1000) := by
  intro Q pc loc st σ hd hk
  obtain ⟨p, l, e, R, s, m, args, below, meth, c, cc, nL, own, D, cy, A, ad, sh, kd, ca, sl⟩ := X
  obtain ⟨hx, hb, hml, hown, hts, hlk, hK, hA, hBG, hr, hca, hsl⟩ := hX
  intro H locs ls hP hD hS hL
  exact va_gets hx hb hBG.2.1 hS hown (hts _ h) (fun _ q => q) hd (hk H locs ls hP hD hS hL)
theorem jLd_st1 {idx : Nat} (hX : jOK X) (h : Cond.fieldLink (jown X) idx "LastLoses$Values" "BESIDE_OF_GENUS" "[I" ∈ jTB) : jLd X (.getstatic idx) 3 (jmr 1001) := by
  intro Q pc loc st σ hd hk
  obtain ⟨p, l, e, R, s, m, args, below, meth, c, cc, nL, own, D, cy, A, ad, sh, kd, ca, sl⟩ := X
  obtain ⟨hx, hb, hml, hown, hts, hlk, hK, hA, hBG, hr, hca, hsl⟩ := hX
  intro H locs ls hP hD hS hL
  exact va_gets hx hb hBG.2.2.2.1 hS hown (hts _ h) (fun _ q => q) hd (hk H locs ls hP hD hS hL)
theorem jw_aald {x : Int} {id n : Nat} (hX : jOK X) (hs : (jsh X)[id]? = some (.inr (.inl (4, n)))) (hn : n < 2 ^ 31) (hi : 0 ≤ x ∧ x < (n : Int)) (hd : decode (jcc X) pc = .ok (.aaload, 1)) (hk : jWj X Q (pc + 1) loc ((if σ id x = 0 then jmn else jmr (σ id x).toNat) :: r) σ) : jWj X Q pc loc (jmi x :: jmr id :: r) σ := by
  obtain ⟨p, l, e, R, s, m, args, below, meth, c, cc, nL, own, D, cy, A, ad, sh, kd, ca, sl⟩ := X
  obtain ⟨hx, hb, hml, hown, hts, hlk, hK, hA, hBG, hr, hca, hsl⟩ := hX
  intro H locs ls hP hD hS hL
  have k := hk H locs ls hP hD hS hL
  obtain ⟨h1, h2⟩ := j_in hn hi
  refine va_aldq hx hb hK hP id 4 (jW_get hs) rfl h1 hd ?_
  rw [h2, Int.toNat_of_nonneg hi.1]
  simp only [List.map_cons] at k
  unfold jrf
  split
  · rename_i h0
    rw [if_pos h0] at k
    exact k
  · rename_i h0
    rw [if_neg h0] at k
    exact k
theorem jw_sw {d lo hi : Int} {offs : Array Int} {len : Nat} {x : Int} (hX : jOK X) (hd : decode (jcc X) pc = .ok (.tableswitch d lo hi offs, len)) (hh : hi = lo + (offs.toList.length : Int) - 1)
    (hout : ∀ t : Nat, (pc : Int) + d = (t : Int) → (jw x < lo ∨ hi < jw x) → jWj X Q t loc r σ) (hin : ∀ (j : Nat) (off : Int) (t : Nat), offs.toList[j]? = some off → jw x = lo + j → (pc : Int) + off = (t : Int) → jWj X Q t loc r σ)
    (h1 : (jw x < lo ∨ hi < jw x) → 0 ≤ (pc : Int) + d) (h2 : ∀ (j : Nat) (off : Int), offs.toList[j]? = some off → jw x = lo + j → 0 ≤ (pc : Int) + off) : jWj X Q pc loc (jmi x :: r) σ := by
  obtain ⟨p, l, e, R, s, m, args, below, meth, c, cc, nL, own, D, cy, A, ad, sh, kd, ca, sl⟩ := X
  obtain ⟨hx, hb, hml, hown, hts, hlk, hK, hA, hBG, hr, hca, hsl⟩ := hX
  intro H locs ls hP hD hS hL
  by_cases hc : jw x < lo ∨ hi < jw x
  · have h0 := h1 hc
    have e : (pc : Int) + d = (((pc : Int) + d).toNat : Int) := (Int.toNat_of_nonneg h0).symm
    exact lv_tableOut hx hb hd (by rw [jw_toInt]; exact hc) e (hout _ e hc H locs ls hP hD hS hL)
  · have g1 : ¬ jw x < lo := fun q => hc (Or.inl q)
    have g2 : ¬ hi < jw x := fun q => hc (Or.inr q)
    obtain ⟨j, hj⟩ : ∃ j : Nat, jw x = lo + j := ⟨(jw x - lo).toNat, by omega⟩
    have hl : j < offs.toList.length := by omega
    have ho : offs.toList[j]? = some offs.toList[j] := List.getElem?_eq_getElem hl
    have h0 := h2 j _ ho hj
    have e : (pc : Int) + offs.toList[j] = (((pc : Int) + offs.toList[j]).toNat : Int) := (Int.toNat_of_nonneg h0).symm
    refine lv_tableIn (off := offs.toList[j]) hx hb hd (by rw [jw_toInt]; exact g1) (by rw [jw_toInt]; exact g2) ?_ e (hin j _ _ ho hj e H locs ls hP hD hS hL)
    rw [jw_toInt]
    have e2 : (jw x - lo).toNat = j := by omega
    rw [e2, ← Array.getElem?_toList]
    exact ho
theorem jw_iret {x : Int} (hX : jOK X) (hk : jkd X = 1) (hd : decode (jcc X) pc = .ok (.ireturn, 1)) : jWj X (jQ X (some (jmi x)) σ) pc loc [jmi x] σ := by
  obtain ⟨p, l, e, R, s, m, args, below, meth, c, cc, nL, own, D, cy, A, ad, sh, kd, ca, sl⟩ := X
  obtain ⟨hx, hb, hml, hown, hts, hlk, hK, hA, hBG, hr, hca, hsl⟩ := hX
  have hk : kd = 1 := hk
  subst hk
  intro H locs ls hP hD hS hL
  exact W.iret hx hb hr (fun t ht hW => ⟨rfl, by rw [ht]; exact hP, hS.F ht⟩) hS.2.2 hd hlk
theorem jw_zret {x : Int} (hX : jOK X) (hk : jkd X = 4) (h01 : x = 0 ∨ x = 1) (hd : decode (jcc X) pc = .ok (.ireturn, 1)) : jWj X (jQ X (some (jmi x)) σ) pc loc [jmi x] σ := by
  obtain ⟨p, l, e, R, s, m, args, below, meth, c, cc, nL, own, D, cy, A, ad, sh, kd, ca, sl⟩ := X
  obtain ⟨hx, hb, hml, hown, hts, hlk, hK, hA, hBG, hr, hca, hsl⟩ := hX
  have hk : kd = 4 := hk
  subst hk
  intro H locs ls hP hD hS hL
  refine W.zret (ty := .boolean) hx hb hr ?_ (fun t ht hW => ⟨rfl, by rw [ht]; exact hP, hS.F ht⟩) hS.2.2 hd hlk
  rcases h01 with rfl | rfl <;> rfl
theorem jw_lret {x : Int} (hX : jOK X) (hk : jkd X = 2) (hd : decode (jcc X) pc = .ok (.lreturn, 1)) : jWj X (jQ X (some (jml x)) σ) pc loc [jml x] σ := by
  obtain ⟨p, l, e, R, s, m, args, below, meth, c, cc, nL, own, D, cy, A, ad, sh, kd, ca, sl⟩ := X
  obtain ⟨hx, hb, hml, hown, hts, hlk, hK, hA, hBG, hr, hca, hsl⟩ := hX
  have hk : kd = 2 := hk
  subst hk
  intro H locs ls hP hD hS hL
  exact W.lret hx hb hr (fun t ht hW => ⟨rfl, by rw [ht]; exact hP, hS.F ht⟩) hS.2.2 hd hlk
theorem jw_aret {id : Nat} (hX : jOK X) (hk : jkd X = 3) (hd : decode (jcc X) pc = .ok (.areturn, 1)) : jWj X (jQ X (some (jmr id)) σ) pc loc [jmr id] σ := by
  obtain ⟨p, l, e, R, s, m, args, below, meth, c, cc, nL, own, D, cy, A, ad, sh, kd, ca, sl⟩ := X
  obtain ⟨hx, hb, hml, hown, hts, hlk, hK, hA, hBG, hr, hca, hsl⟩ := hX
  have hk : kd = 3 := hk
  subst hk
  intro H locs ls hP hD hS hL
  exact W.aret hx hb hr (Or.inl ⟨_, rfl⟩) (Or.inr ⟨_, rfl⟩) (fun t ht hW => ⟨rfl, by rw [ht]; exact hP, hS.F ht⟩) hS.2.2 hd hlk
theorem jw_nret (hX : jOK X) (hk : jkd X = 3) (hd : decode (jcc X) pc = .ok (.areturn, 1)) : jWj X (jQ X (some jmn) σ) pc loc [jmn] σ := by
  obtain ⟨p, l, e, R, s, m, args, below, meth, c, cc, nL, own, D, cy, A, ad, sh, kd, ca, sl⟩ := X
  obtain ⟨hx, hb, hml, hown, hts, hlk, hK, hA, hBG, hr, hca, hsl⟩ := hX
  have hk : kd = 3 := hk
  subst hk
  intro H locs ls hP hD hS hL
  exact W.aret hx hb hr (Or.inl ⟨_, rfl⟩) (Or.inl rfl) (fun t ht hW => ⟨rfl, by rw [ht]; exact hP, hS.F ht⟩) hS.2.2 hd hlk
theorem jw_vret (hX : jOK X) (hk : jkd X = 0) (hd : decode (jcc X) pc = .ok (.return_, 1)) : jWj X (jQ X none σ) pc loc [] σ := by
  obtain ⟨p, l, e, R, s, m, args, below, meth, c, cc, nL, own, D, cy, A, ad, sh, kd, ca, sl⟩ := X
  obtain ⟨hx, hb, hml, hown, hts, hlk, hK, hA, hBG, hr, hca, hsl⟩ := hX
  have hk : kd = 0 := hk
  subst hk
  intro H locs ls hP hD hS hL
  exact W.vret hx hb hr (fun t ht hW => ⟨rfl, by rw [ht]; exact hP, hS.F ht⟩) hS.2.2 hd hlk
/-- a call: from its arguments on the stack to its answer there -/
def jCall (X : jxX) (i : Instr) (as : List jxV) (v : Option jxV) (σ σ1 : jxS) : Prop := ∀ (Q : State → Prop) (pc : Nat) (loc : jxL) (rest : List jxV), decode (jcc X) pc = .ok (i, 3) → jcat rest ≤ 8 → jWj X Q (pc + 3) loc (v.toList ++ rest) σ1 → jWj X Q pc loc (as.reverse ++ rest) σ
/-- what a method's tables mean in the machine -/
def jEnv (X : jxX) (E : jxE) (tb : List (Nat × Instr)) : Prop :=
  (∀ pc i, jlk tb pc = some i → ∃ n, decode (jcc X) pc = .ok (i, n) ∧ (jlen i = 0 ∨ n = jlen i)) ∧
  (∀ idx ci f, E.1 idx = some (ci, f) → jFl (jown X) idx ci f) ∧
  (∀ idx n as σ k x σ', E.2.1 idx = some (n, false) → as.length ≤ n → E.2.2.1 idx as σ k = some (x, σ') → ∃ v σ1, k v σ1 = some (x, σ') ∧ jCall X (.invokevirtual idx) as v σ σ1) ∧
  (∀ idx n as σ k x σ', E.2.1 idx = some (n, true) → as.length ≤ n → E.2.2.1 idx as σ k = some (x, σ') → ∃ v σ1, k v σ1 = some (x, σ') ∧ jCall X (.invokestatic idx) as v σ σ1) ∧
  (∀ idx v, E.2.2.2.1 idx = some v → match v with
    | .inr (.inl _) => jLd X (.ldc2_w idx) 3 v
    | _ => jLd X (.ldc idx) 2 v) ∧
  (∀ idx id, E.2.2.2.2.1 idx = some id → jLd X (.getstatic idx) 3 (jmr id)) ∧
  E.2.2.2.2.2.1 = jkd X ∧
  (∀ id c, E.2.2.2.2.2.2 id = some c → match c with
    | .inr (.inr tb) => jTt id tb
    | .inr (.inl (_, n)) => (jsh X)[id]? = some c ∧ n < 2 ^ 31
    | .inl (ci, fks) => (jsh X)[id]? = some c ∧ ∀ (f kd : Nat), kd ≤ 2 → fks[f]? = some (.inl kd) → jPf ci f kd)
theorem jtgt_some {pc : Nat} {off : Int} {k : Nat → Option jxR} {z : jxR} (h : jtgt pc off k = some z) : ∃ t : Nat, (pc : Int) + off = (t : Int) ∧ k t = some z := by
  unfold jtgt at h
  split at h
  · rename_i n hn
    exact ⟨n, hn, h⟩
  · cases h
theorem jsel_some {qs : List Nat} {v : Int} {k : Nat → Option jxR} {z : jxR} (h : jsel qs v k = some z) : ∃ q : Nat, v = (q : Int) ∧ k q = some z := by
  induction qs with
  | nil => simp [jsel] at h
  | cons q t ih =>
    simp only [jsel] at h
    split at h
    · rename_i hq
      exact ⟨q, hq, h⟩
    · exact ih h
theorem jsw_some {x : Int} {os : List Int} : ∀ {lo : Int} {kd : Option jxR} {kk : Int → Option jxR} {z : jxR}, jsw x lo os kd kk = some z → ((∀ j : Nat, j < os.length → x ≠ lo + j) ∧ kd = some z) ∨ ∃ (j : Nat) (o : Int), os[j]? = some o ∧ x = lo + j ∧ kk o = some z := by
  induction os with
  | nil => intro lo kd kk z h; exact Or.inl ⟨fun j hj => absurd hj (Nat.not_lt_zero j), h⟩
  | cons a t ih =>
    intro lo kd kk z h
    simp only [jsw] at h
    split at h
    · rename_i hq
      exact Or.inr ⟨0, a, rfl, by omega, h⟩
    · rename_i hq
      rcases ih h with ⟨h1, h2⟩ | ⟨j, o, h1, h2, h3⟩
      · refine Or.inl ⟨fun j hj => ?_, h2⟩
        cases j with
        | zero => simpa using hq
        | succ j =>
          have := h1 j (by simpa using hj)
          omega
      · exact Or.inr ⟨j + 1, o, by simpa using h1, by omega, h3⟩
theorem jcond {b : Bool} {x : Option jxR} {z : jxR} (h : (bif b then x else none) = some z) : b = true ∧ x = some z := by
  cases b
  · cases h
  · exact ⟨rfl, h⟩
theorem jite {c : Prop} [Decidable c] {x : Option jxR} {z : jxR} (h : (if c then x else none) = some z) : c ∧ x = some z := by
  split at h
  · rename_i hc
    exact ⟨hc, h⟩
  · cases h
theorem jite2 {c : Prop} [Decidable c] {x : Option jxR} {z : jxR} (h : (if c then none else x) = some z) : ¬ c ∧ x = some z := by
  split at h
  · cases h
  · rename_i hc
    exact ⟨hc, h⟩
theorem jble {a b : Nat} (h : Nat.ble a b = true) : a ≤ b := Nat.le_of_ble_eq_true h
theorem jbeq {a b : Nat} (h : Nat.beq a b = true) : a = b := Nat.eq_of_beq_eq_true h
theorem jdrop (st : List jxV) (a : Nat) : (st.take a).reverse.reverse ++ st.drop a = st := by rw [List.reverse_reverse, List.take_append_drop]
end JR
