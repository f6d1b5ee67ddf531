/-! Calls into the JDK: Math, arraycopy, texts. -/
def jca_max : jxA := fun as σ k => match as with
  | [.inl x, .inl y] => k (some (jmi (jmax x y))) σ
  | _ => none
theorem jI_max (x y : Int) : jI (jmax x y) = if jI x < jI y then jI y else jI x := by
  unfold jmax
  simp only [jI_lt x y]
  split <;> rfl
set_option maxRecDepth 100000 in
theorem js_max {own : String} {fr lo idx : Nat} {sh : List jxC} (hl : Cond.methodLink own idx Lib.Math.max.name ∈ jTB) (hf : 1 ≤ fr) (ho : 21 ≤ lo) : jSite own fr lo sh (idx, (2, true), jca_max) := by
  intro X hX ho' hR hs as σ k x σ' h
  simp only [jca_max] at h
  split at h
  · rename_i a b
    refine ⟨_, _, h, ?_⟩
    intro Q pc loc rest hd hcat hk
    obtain ⟨p, l, e, R, s, m, args, below, meth, c, cc, nL, own, D, cy, A, ad, sh, kd, ca, sl⟩ := X
    obtain ⟨hx, hb, hml, hown, hts, hlk, hK, hA, hBG, hr, hca, hsl⟩ := hX
    have ho' : own = _ := ho'
    have hR : R.frames = fr ∧ R.locals = lo := hR
    subst ho'
    intro H locs ls hP hD hS hL
    have kk := hk H locs ls hP hD hS hL
    simp only [Option.toList_some, List.cons_append, List.nil_append, List.map_cons, jtoV, jI_max] at kk
    have hc2 : ((rest.map (jtoV ad)).map fun v => v.category).sum + 13 ≤ lo := by rw [jcat_sum]; omega
    exact va_mmax hx hb (by rw [hml, hL.1]) hown (hts _ hl) (hts _ (jTB_at 700 rfl rfl)) (hts _ (jTB_at 131 rfl rfl)) (hts _ (jTB_at 701 rfl rfl)) (by rw [hR.1]; exact hf) (by rw [hR.2]; exact hc2) hca hsl hd kk
  · cases h
def jca_min : jxA := fun as σ k => match as with
  | [.inl x, .inl y] => k (some (jmi (jmin x y))) σ
  | _ => none
theorem jI_min (x y : Int) : jI (jmin x y) = if jI y < jI x then jI y else jI x := by
  unfold jmin
  simp only [jI_lt y x]
  split <;> rfl
set_option maxRecDepth 100000 in
theorem js_min {own : String} {fr lo idx : Nat} {sh : List jxC} (hl : Cond.methodLink own idx Lib.Math.min.name ∈ jTB) (hf : 1 ≤ fr) (ho : 21 ≤ lo) : jSite own fr lo sh (idx, (2, true), jca_min) := by
  intro X hX ho' hR hs as σ k x σ' h
  simp only [jca_min] at h
  split at h
  · rename_i a b
    refine ⟨_, _, h, ?_⟩
    intro Q pc loc rest hd hcat hk
    obtain ⟨p, l, e, R, s, m, args, below, meth, c, cc, nL, own, D, cy, A, ad, sh, kd, ca, sl⟩ := X
    obtain ⟨hx, hb, hml, hown, hts, hlk, hK, hA, hBG, hr, hca, hsl⟩ := hX
    have ho' : own = _ := ho'
    have hR : R.frames = fr ∧ R.locals = lo := hR
    subst ho'
    intro H locs ls hP hD hS hL
    have kk := hk H locs ls hP hD hS hL
    simp only [Option.toList_some, List.cons_append, List.nil_append, List.map_cons, jtoV, jI_min] at kk
    have hc2 : ((rest.map (jtoV ad)).map fun v => v.category).sum + 13 ≤ lo := by rw [jcat_sum]; omega
    exact va_mmin hx hb (by rw [hml, hL.1]) hown (hts _ hl) (hts _ (jTB_at 697 rfl rfl)) (hts _ (jTB_at 131 rfl rfl)) (hts _ (jTB_at 698 rfl rfl)) (by rw [hR.1]; exact hf) (by rw [hR.2]; exact hc2) hca hsl hd kk
  · cases h
theorem jW_row {ad : Nat → Nat} {cy : Nat → ClassId} {sh : List jxC} {σ σ' : jxS} {i : Nat} {c : jxC} {e : va_E} (h : sh[i]? = some c) (hne : ∀ a, a ≠ i → σ' a = σ a) (he : e = jent ad cy c (σ' i)) : (jW ad cy sh σ).set i (ad i, e) = jW ad cy sh σ' := by
  subst he
  refine List.ext_getElem? fun a => ?_
  by_cases ha : a = i
  · subst ha
    have hl : a < (jW ad cy sh σ).length := by
      rw [jW, List.length_mapIdx]
      exact (List.getElem?_eq_some_iff.mp h).1
    rw [List.getElem?_set_self hl, jW_get h]
  · rw [List.getElem?_set_ne (Ne.symm ha)]
    simp [jW, List.getElem?_mapIdx, hne a ha]
def jca_copy : jxA := fun as σ k => match as with
  | [.inr (.inr (.inl a)), .inl x, .inr (.inr (.inl b)), .inl y, .inl n] => bif Nat.beq a 4 then (bif Nat.beq b 11 then (if x = 0 ∧ y = 0 ∧ n = 8 then k none (jcopy σ 4 11 8) else none) else none) else none
  | _ => none
set_option maxRecDepth 100000 in
theorem js_copy {fr lo : Nat} {sh : List jxC} (hs : jHas sh jc_C) (hf : 1 ≤ fr) (ho : 40 ≤ lo) : jSite RX8 fr lo sh (52, (5, true), jca_copy) := by
  intro X hX ho' hR hs' as σ k x σ' h
  simp only [jca_copy] at h
  split at h
  · rename_i a x y b n
    obtain ⟨g1, h1⟩ := jcond h
    obtain ⟨g2, h2⟩ := jcond h1
    obtain ⟨⟨g3, g4, g5⟩, h3⟩ := jite h2
    obtain rfl := jbeq g1
    obtain rfl := jbeq g2
    subst g3; subst g4; subst g5
    refine ⟨_, _, h3, ?_⟩
    intro Q pc loc rest hd hcat hk
    obtain ⟨p, l, e, R, s, m, args, below, meth, c, cc, nL, own, D, cy, A, ad, sh, kd, ca, sl⟩ := X
    obtain ⟨hx, hb, hml, hown, hts, hlk, hK, hA, hBG, hr, hca, hsl⟩ := hX
    have ho' : own = _ := ho'
    have hR : R.frames = fr ∧ R.locals = lo := hR
    have hs' : sh = _ := hs'
    subst ho'; subst hs'
    have hR1 : R.frames = fr := hR.1
    have hR2 : R.locals = lo := hR.2
    intro H locs ls hP hD hS hL
    have e4 : sh[4]? = some (.inr (.inl (0, 8))) := (hs _ (jkf_in (l := jc_C) (idx := 4) rfl)).1
    have e5 : sh[11]? = some (.inr (.inl (0, 8))) := (hs _ (jkf_in (l := jc_C) (idx := 11) rfl)).1
    have hc3 : nativeFrameWords "java/lang/System" "arraycopy" 5 + 11 ≤ 32 := by decide
    have hc2 : ((rest.map (jtoV ad)).map fun v => v.category).sum + (nativeFrameWords "java/lang/System" "arraycopy" 5 + 11) ≤ lo := by rw [jcat_sum]; omega
    refine va_copyi (sp := jI 0) (dp := jI 0) (n := jI 8) hx hb (by rw [hml, hL.1]) hown (hts _ (jTB_at 683 rfl rfl)) (hts _ (jTB_at 685 rfl rfl)) (hts _ (jTB_at 684 rfl rfl)) (hts _ (jTB_at 129 rfl rfl)) hK hP hD hS 4 11 0 0 (jW_get e4) (jW_get e5) rfl rfl rfl (by decide) (by decide) (by decide) (by decide) (by decide) (fun _ _ => rfl) (by rw [hR1]; exact hf) (by rw [hR2]; exact hc2) hd (fun H1 locs1 hP1 hD1 hS1 => ?_)
    have he : va_cpy (fun j : Nat => jI (σ 4 (j : Int))) (fun j : Nat => jI (σ 11 (j : Int))) (jI 0).toNatClampNeg (jI 0).toNatClampNeg (jI 8).toNatClampNeg = fun j : Nat => jI (jcopy σ 4 11 8 11 (j : Int)) := by
      funext j
      have z0 : (jI 0).toNatClampNeg = 0 := by decide
      have z8 : (jI 8).toNatClampNeg = 8 := by decide
      simp only [va_cpy, z0, z8, jcopy]
      by_cases hj : j < 8
      · have h1 : (j : Int) < 8 := by omega
        simp [hj, h1]
      · have h1 : ¬ (j : Int) < 8 := by omega
        simp [hj, h1]
    have e := jW_row (ad := ad) (cy := cy) (sh := sh) (σ := σ) (σ' := jcopy σ 4 11 8) (e := .inl (cy 0, 8, .inl (va_cpy (fun j : Nat => jI (σ 4 (j : Int))) (fun j : Nat => jI (σ 11 (j : Int))) (jI 0).toNatClampNeg (jI 0).toNatClampNeg (jI 8).toNatClampNeg))) e5 (fun a ha => by funext j; simp [jcopy, ha]) (by rw [he]; rfl)
    exact hk H1 locs1 ls (e ▸ hP1) (e ▸ hD1) hS1 hL
  · cases h
section JT
variable {X : jxX} {Q : State → Prop} {pc : Nat} {loc : jxL} {r : List jxV} {σ : jxS}
theorem jt_val {i idx : Nat} (hi : i < 4) (hX : jOK X) (h : Cond.fieldLink (jown X) idx "java/lang/String" "value" "[B" ∈ jTB) (hd : decode (jcc X) pc = .ok (.getfield idx, 3)) (hk : jWj X Q (pc + 3) loc (jmr (1006 + i) :: r) σ) : jWj X Q pc loc (jmr (1002 + i) :: r) σ := by
  obtain ⟨p, l, e, R, s, m, args, below, meth, c, cc, nL, own, D, cy, A, ad, sh, kd, ca, sl⟩ := X
  obtain ⟨hx, hb, hml, hown, hts, hlk, hK, hA, hBG, hr, hca, hsl⟩ := hX
  intro H locs ls hP hD hS hL
  exact vk_getf hx hb (hBG.2.2.2.2.2.1.1 i hi).2.2.1 hS hown (hts _ h) (fun _ q => q) hd (hk H locs ls hP hD hS hL)
theorem jt_cod {i idx : Nat} (hi : i < 4) (hX : jOK X) (h : Cond.fieldLink (jown X) idx "java/lang/String" "coder" "B" ∈ jTB) (hd : decode (jcc X) pc = .ok (.getfield idx, 3)) (hk : jWj X Q (pc + 3) loc (jmi 0 :: r) σ) : jWj X Q pc loc (jmr (1002 + i) :: r) σ := by
  obtain ⟨p, l, e, R, s, m, args, below, meth, c, cc, nL, own, D, cy, A, ad, sh, kd, ca, sl⟩ := X
  obtain ⟨hx, hb, hml, hown, hts, hlk, hK, hA, hBG, hr, hca, hsl⟩ := hX
  intro H locs ls hP hD hS hL
  exact vk_getf hx hb (hBG.2.2.2.2.2.1.1 i hi).2.1 hS hown (hts _ h) (fun _ q => q) hd (hk H locs ls hP hD hS hL)
theorem jt_len {i : Nat} (hi : i < 4) (hX : jOK X) (hd : decode (jcc X) pc = .ok (.arraylength, 1)) (hk : jWj X Q (pc + 1) loc (jmi (jslen.getD i 0 : Nat) :: r) σ) : jWj X Q pc loc (jmr (1006 + i) :: r) σ := by
  obtain ⟨p, l, e, R, s, m, args, below, meth, c, cc, nL, own, D, cy, A, ad, sh, kd, ca, sl⟩ := X
  obtain ⟨hx, hb, hml, hown, hts, hlk, hK, hA, hBG, hr, hca, hsl⟩ := hX
  intro H locs ls hP hD hS hL
  exact va_tlen hx hb (hBG.2.2.2.2.2.1.1 i hi).2.2.2 hS (by show Int32.ofNat _ = Int32.ofInt (_ : Int); simp [Int32.ofInt, Int32.ofNat]) hd (hk H locs ls hP hD hS hL)
theorem jt_at {i : Nat} {x : Int} (hi : i < 4) (hx0 : 0 ≤ x ∧ x < (jslen.getD i 0 : Nat)) (hX : jOK X) (hd : decode (jcc X) pc = .ok (.baload, 1)) (hk : jWj X Q (pc + 1) loc (jmi ((jsbyt.getD i []).getD x.toNat 0).toInt :: r) σ) : jWj X Q pc loc (jmi x :: jmr (1006 + i) :: r) σ := by
  obtain ⟨p, l, e, R, s, m, args, below, meth, c, cc, nL, own, D, cy, A, ad, sh, kd, ca, sl⟩ := X
  obtain ⟨hx, hb, hml, hown, hts, hlk, hK, hA, hBG, hr, hca, hsl⟩ := hX
  intro H locs ls hP hD hS hL
  obtain ⟨h1, h2⟩ := j_in (n := jslen.getD i 0) (by have : ∀ i, i < 4 → jslen.getD i 0 < 2 ^ 31 := by decide
                                                    exact this i hi) hx0
  refine va_tb hx hb (hBG.2.2.2.2.2.1.1 i hi).2.2.2 hS h1 (by rw [h2]) hd ?_
  have k := hk H locs ls hP hD hS hL
  simp only [List.map_cons, jtoV, jI_toInt] at k
  exact k
theorem jt_cmp {idx : Nat} (hX : jOK X) (h : Cond.fieldLink (jown X) idx "java/lang/String" "COMPACT_STRINGS" "Z" ∈ jTB) (hd : decode (jcc X) pc = .ok (.getstatic idx, 3)) (hk : jWj X Q (pc + 3) loc (jmi 1 :: r) σ) : jWj X Q pc loc r σ := by
  obtain ⟨p, l, e, R, s, m, args, below, meth, c, cc, nL, own, D, cy, A, ad, sh, kd, ca, sl⟩ := X
  obtain ⟨hx, hb, hml, hown, hts, hlk, hK, hA, hBG, hr, hca, hsl⟩ := hX
  intro H locs ls hP hD hS hL
  exact va_gets hx hb hBG.2.2.2.2.2.2.2.1 hS hown (hts _ h) (fun _ q => q) hd (hk H locs ls hP hD hS hL)
theorem jt_fmt {idx : Nat} (hX : jOK X) (h : Cond.fieldLink (jown X) idx "jdk/internal/util/Preconditions" "SIOOBE_FORMATTER" "Ljava/util/function/BiFunction;" ∈ jTB) (hd : decode (jcc X) pc = .ok (.getstatic idx, 3)) (hk : ∀ v, v = jmn ∨ v = jmr 1010 → jWj X Q (pc + 3) loc (v :: r) σ) : jWj X Q pc loc r σ := by
  obtain ⟨p, l, e, R, s, m, args, below, meth, c, cc, nL, own, D, cy, A, ad, sh, kd, ca, sl⟩ := X
  obtain ⟨hx, hb, hml, hown, hts, hlk, hK, hA, hBG, hr, hca, hsl⟩ := hX
  intro H locs ls hP hD hS hL
  rcases hBG.2.2.2.2.2.2.2.2 with h9 | h9
  · exact va_gets hx hb h9 hS hown (hts _ h) (fun _ q => q) hd (hk _ (Or.inl rfl) H locs ls hP hD hS hL)
  · exact va_gets hx hb h9 hS hown (hts _ h) (fun _ q => q) hd (hk _ (Or.inr rfl) H locs ls hP hD hS hL)
theorem jt_i2c {x : Int} (hx0 : 0 ≤ x ∧ x < 65536) (hX : jOK X) (hd : decode (jcc X) pc = .ok (.i2c, 1)) (hk : jWj X Q (pc + 1) loc (jmi x :: r) σ) : jWj X Q pc loc (jmi x :: r) σ := by
  obtain ⟨p, l, e, R, s, m, args, below, meth, c, cc, nL, own, D, cy, A, ad, sh, kd, ca, sl⟩ := X
  obtain ⟨hx, hb, hml, hown, hts, hlk, hK, hA, hBG, hr, hca, hsl⟩ := hX
  intro H locs ls hP hD hS hL
  refine lv_i2c hx hb hd ?_ (hk H locs ls hP hD hS hL)
  rw [pk_char]
  have h2 : (jI x).toBitVec.toNat = (x % 4294967296).toNat := by
    show (BitVec.ofInt 32 x).toNat = _
    rw [BitVec.toNat_ofInt]
    rfl
  rw [h2]
  apply Int32.toInt_inj.mp
  rw [nI_toInt (by omega), jw_toInt, jw]
  omega
theorem jt_bret (hX : jOK X) (hk : jkd X = 6) (hd : decode (jcc X) pc = .ok (.ireturn, 1)) : jWj X (jQ X (some (jmi 0)) σ) pc loc [jmi 0] σ := by
  obtain ⟨p, l, e, R, s, m, args, below, meth, c, cc, nL, own, D, cy, A, ad, sh, kd, ca, sl⟩ := X
  obtain ⟨hx, hb, hml, hown, hts, hlk, hK, hA, hBG, hr, hca, hsl⟩ := hX
  have hk : kd = 6 := hk
  subst hk
  intro H locs ls hP hD hS hL
  exact W.zret (ty := .byte) hx hb hr rfl (fun t ht hW => ⟨rfl, by rw [ht]; exact hP, hS.F ht⟩) hS.2.2 hd hlk
theorem jt_cret {x : Int} (hx0 : 0 ≤ x ∧ x < 65536) (hX : jOK X) (hk : jkd X = 5) (hd : decode (jcc X) pc = .ok (.ireturn, 1)) : jWj X (jQ X (some (jmi x)) σ) pc loc [jmi x] σ := by
  obtain ⟨p, l, e, R, s, m, args, below, meth, c, cc, nL, own, D, cy, A, ad, sh, kd, ca, sl⟩ := X
  obtain ⟨hx, hb, hml, hown, hts, hlk, hK, hA, hBG, hr, hca, hsl⟩ := hX
  have hk : kd = 5 := hk
  subst hk
  intro H locs ls hP hD hS hL
  refine W.zret (ty := .char) hx hb hr ?_ (fun t ht hW => ⟨rfl, by rw [ht]; exact hP, hS.F ht⟩) hS.2.2 hd hlk
  have e : jI x = nI x.toNat := by
    apply Int32.toInt_inj.mp
    rw [nI_toInt (by omega), jw_toInt, jw]
    omega
  rw [e]
  exact (pk_charN (by omega)).1
end JT
