/-! One instruction of the small machine is one of the machine. -/
theorem jget_len {l : jxL} : ∀ {i : Nat} {v : jxV}, jget l i = some v → i < l.length := by
  induction l with
  | nil => intro i v h; simp [jget] at h
  | cons a t ih =>
    intro i v h
    cases i with
    | zero => exact Nat.zero_lt_succ _
    | succ n => exact Nat.succ_lt_succ (ih (by simpa [jget] using h))
def jlv (ad : Nat → Nat) (n : Nat) (l : jxL) : List (Nat × Value) := match l with
  | [] => []
  | none :: t => jlv ad (n + 1) t
  | some v :: t => (n, jtoV ad v) :: jlv ad (n + 1) t
theorem jlv_of {ad : Nat → Nat} {l : jxL} : ∀ {n j : Nat} {v : jxV}, jget l j = some v → (n + j, jtoV ad v) ∈ jlv ad n l := by
  induction l with
  | nil => intro n j v h; simp [jget] at h
  | cons a t ih =>
    intro n j v h
    cases j with
    | zero =>
      simp only [jget] at h
      subst h
      simp [jlv]
    | succ j =>
      have h1 := ih (n := n + 1) (j := j) (v := v) (by simpa [jget] using h)
      have e : n + 1 + j = n + (j + 1) := by omega
      rw [e] at h1
      cases a with
      | none => simpa [jlv] using h1
      | some w => simp [jlv, h1]
theorem jlv_to {ad : Nat → Nat} {l : jxL} : ∀ {n : Nat} {q : Nat × Value}, q ∈ jlv ad n l → ∃ j v, q = (n + j, jtoV ad v) ∧ jget l j = some v := by
  induction l with
  | nil => intro n q h; simp [jlv] at h
  | cons a t ih =>
    intro n q h
    cases a with
    | none =>
      obtain ⟨j, v, h1, h2⟩ := ih (by simpa [jlv] using h)
      exact ⟨j + 1, v, by rw [h1]; congr 1; omega, by simpa [jget] using h2⟩
    | some w =>
      simp only [jlv, List.mem_cons] at h
      rcases h with h | h
      · exact ⟨0, w, h, rfl⟩
      · obtain ⟨j, v, h1, h2⟩ := ih h
        exact ⟨j + 1, v, by rw [h1]; congr 1; omega, by simpa [jget] using h2⟩
theorem jLH.has {ls : Array Slot} {nL : Nat} {ad : Nat → Nat} {loc : jxL} (h : jLH ls nL ad loc) : lv_has ls nL (jlv ad 0 loc) := by
  refine ⟨h.1, h.2.1, fun q hq => ?_⟩
  obtain ⟨j, v, rfl, h2⟩ := jlv_to hq
  simpa using h.2.2.2 j v h2
theorem jset1_len (l : jxL) : ∀ (i : Nat) (v : jxV), (jset1 l i v).length = l.length := by
  induction l with
  | nil => intro i v; simp [jset1]
  | cons a t ih =>
    intro i v
    match i with
    | 0 => simp [jset1]
    | 1 => simp [jset1, ih]
    | n + 2 => simp [jset1, ih]
def jlng (v : jxV) : Prop := match v with
  | .inr (.inl _) => True
  | _ => False
theorem jset1_get (l : jxL) : ∀ {i j : Nat} {v u : jxV}, jget (jset1 l i v) j = some u → (j = i ∧ u = v) ∨ (j ≠ i ∧ jget l j = some u ∧ ¬ (j + 1 = i ∧ jlng u)) := by
  induction l with
  | nil => intro i j v u h; simp [jset1, jget] at h
  | cons a t ih =>
    intro i j v u h
    match i, j with
    | 0, 0 => simp only [jset1, jget, Option.some.injEq] at h; exact Or.inl ⟨rfl, h.symm⟩
    | 0, j + 1 => simp only [jset1, jget] at h; exact Or.inr ⟨by omega, by simpa [jget] using h, by omega⟩
    | 1, 0 =>
      simp only [jset1, jget] at h
      refine Or.inr ⟨by omega, ?_, ?_⟩
      · split at h <;> first | (cases h; done) | simpa [jget] using h
      · rintro ⟨-, hl⟩
        split at h
        · cases h
        · rename_i hn
          subst h
          match u, hl with
          | .inr (.inl z), _ => exact hn z rfl
    | 1, j + 1 =>
      simp only [jset1, jget] at h
      rcases ih h with ⟨rfl, rfl⟩ | ⟨h1, h2, h3⟩
      · exact Or.inl ⟨rfl, rfl⟩
      · exact Or.inr ⟨by omega, by simpa [jget] using h2, by omega⟩
    | n + 2, 0 =>
      simp only [jset1, jget] at h
      exact Or.inr ⟨by omega, by simpa [jget] using h, by omega⟩
    | n + 2, j + 1 =>
      simp only [jset1, jget] at h
      rcases ih h with ⟨h1, rfl⟩ | ⟨h1, h2, h3⟩
      · exact Or.inl ⟨by omega, rfl⟩
      · exact Or.inr ⟨by omega, by simpa [jget] using h2, fun q => h3 ⟨by omega, q.2⟩⟩
theorem jset2_len (l : jxL) : ∀ (i : Nat) (v : jxV), (jset2 l i v).length = l.length := by
  induction l with
  | nil => intro i v; simp [jset2]
  | cons a t ih =>
    intro i v
    match i with
    | 0 => cases t <;> simp [jset2]
    | 1 => simp [jset2, ih]
    | n + 2 => simp [jset2, ih]
theorem jset2_get (l : jxL) : ∀ {i j : Nat} {v u : jxV}, jget (jset2 l i v) j = some u → (j = i ∧ u = v) ∨ (j ≠ i ∧ j ≠ i + 1 ∧ jget l j = some u ∧ ¬ (j + 1 = i ∧ jlng u)) := by
  induction l with
  | nil => intro i j v u h; simp [jset2, jget] at h
  | cons a t ih =>
    intro i j v u h
    match i, j with
    | 0, 0 => simp only [jset2, jget, Option.some.injEq] at h; exact Or.inl ⟨rfl, h.symm⟩
    | 0, 1 => cases t <;> simp [jset2, jget] at h
    | 0, j + 2 =>
      cases t with
      | nil => simp [jset2, jget] at h
      | cons b t => simp only [jset2, jget] at h; exact Or.inr ⟨by omega, by omega, by simpa [jget] using h, by omega⟩
    | 1, 0 =>
      simp only [jset2, jget] at h
      refine Or.inr ⟨by omega, by omega, ?_, ?_⟩
      · split at h <;> first | (cases h; done) | simpa [jget] using h
      · rintro ⟨-, hl⟩
        split at h
        · cases h
        · rename_i hn
          subst h
          match u, hl with
          | .inr (.inl z), _ => exact hn z rfl
    | 1, j + 1 =>
      simp only [jset2, jget] at h
      rcases ih h with ⟨rfl, rfl⟩ | ⟨h1, h2, h3, h4⟩
      · exact Or.inl ⟨rfl, rfl⟩
      · exact Or.inr ⟨by omega, by omega, by simpa [jget] using h3, by omega⟩
    | n + 2, 0 =>
      simp only [jset2, jget] at h
      exact Or.inr ⟨by omega, by omega, by simpa [jget] using h, by omega⟩
    | n + 2, j + 1 =>
      simp only [jset2, jget] at h
      rcases ih h with ⟨h1, rfl⟩ | ⟨h1, h2, h3, h4⟩
      · exact Or.inl ⟨by omega, rfl⟩
      · exact Or.inr ⟨by omega, by omega, by simpa [jget] using h3, fun q => h4 ⟨by omega, q.2⟩⟩
theorem jcat2 {ad : Nat → Nat} {u : jxV} (h : (jtoV ad u).category = 2) : jlng u := by
  match u with
  | .inl x => simp [jtoV, Value.category] at h
  | .inr (.inl x) => trivial
  | .inr (.inr (.inl x)) => simp [jtoV, Value.category] at h
  | .inr (.inr (.inr x)) => simp [jtoV, Value.category] at h
theorem jLH.set1 {ls ls' : Array Slot} {nL i : Nat} {ad : Nat → Nat} {loc : jxL} {v : jxV} (h : jLH ls nL ad loc) (h' : lv_has ls' nL ((i, jtoV ad v) :: (jlv ad 0 loc).filter (fun q => !(q.1 == i) && !(q.1 + 1 == i && q.2.category == 2)))) : jLH ls' nL ad (jset1 loc i v) := by
  refine ⟨h'.1, h'.2.1, by rw [jset1_len]; exact h.2.2.1, fun j u hu => ?_⟩
  rcases jset1_get loc hu with ⟨rfl, rfl⟩ | ⟨h1, h2, h3⟩
  · exact h'.2.2 (j, jtoV ad u) List.mem_cons_self
  · refine h'.2.2 (j, jtoV ad u) (List.mem_cons_of_mem _ (List.mem_filter.mpr ⟨by simpa using jlv_of (n := 0) h2, ?_⟩))
    by_cases hj : j + 1 = i
    · have hc : ¬ (jtoV ad u).category = 2 := fun q => h3 ⟨hj, jcat2 q⟩
      simp [h1, hc]
    · simp [h1, hj]
theorem jLH.set2 {ls ls' : Array Slot} {nL i : Nat} {ad : Nat → Nat} {loc : jxL} {v : jxV} (h : jLH ls nL ad loc) (h' : lv_has ls' nL ((i, jtoV ad v) :: (jlv ad 0 loc).filter (fun q => !(q.1 == i) && (!(q.1 == i + 1) && !(q.1 + 1 == i && q.2.category == 2))))) : jLH ls' nL ad (jset2 loc i v) := by
  refine ⟨h'.1, h'.2.1, by rw [jset2_len]; exact h.2.2.1, fun j u hu => ?_⟩
  rcases jset2_get loc hu with ⟨rfl, rfl⟩ | ⟨h1, h2, h3, h4⟩
  · exact h'.2.2 (j, jtoV ad u) List.mem_cons_self
  · refine h'.2.2 (j, jtoV ad u) (List.mem_cons_of_mem _ (List.mem_filter.mpr ⟨by simpa using jlv_of (n := 0) h3, ?_⟩))
    by_cases hj : j + 1 = i
    · have hc : ¬ (jtoV ad u).category = 2 := fun q => h4 ⟨hj, jcat2 q⟩
      simp [h1, h2, hc]
    · simp [h1, h2, hj]
theorem jnar_z (v : Int) : vp_nar .boolean (jI v) = jI (v % 2) := by
  have e : vp_nar .boolean (jI v) = jI v &&& 1 := by simp [vp_nar, narrow]
  rw [e]
  have h1 := pk_and (jI v) (m := 1) 1 rfl
  rw [h1]
  apply Int32.toInt_inj.mp
  rw [jw_toInt]
  have h2 : (jI v).toBitVec.toNat = (v % 4294967296).toNat := by
    show (BitVec.ofInt 32 v).toNat = _
    rw [BitVec.toNat_ofInt]
    rfl
  have h3 : (jI v).toBitVec.toNat % 2 ^ 1 < 2 ^ 31 := by omega
  rw [nI_toInt h3, h2]
  unfold jw
  omega
section JS
variable {X : jxX} {Q : State → Prop} {pc : Nat} {loc : jxL} {r st : List jxV} {σ : jxS}
theorem jw_iadd {x y : Int} (hX : jOK X) (hd : decode (jcc X) pc = .ok (.iadd, 1)) (hk : jWj X Q (pc + 1) loc (jmi (x + y) :: r) σ) : jWj X Q pc loc (jmi y :: jmi x :: r) σ := by
  obtain ⟨p, l, e, R, s, m, args, below, meth, c, cc, nL, own, D, cy, A, ad, sh, kd, ca, sl⟩ := X
  obtain ⟨hx, hb, hml, hown, hts, hlk, hK, hA, hBG, hr, hca, hsl⟩ := hX
  intro H locs ls hP hD hS hL
  have k := hk H locs ls hP hD hS hL
  simp only [List.map_cons, jtoV, jI_add] at k ⊢
  exact lv_iadd hx hb hd k
theorem jw_isub {x y : Int} (hX : jOK X) (hd : decode (jcc X) pc = .ok (.isub, 1)) (hk : jWj X Q (pc + 1) loc (jmi (x - y) :: r) σ) : jWj X Q pc loc (jmi y :: jmi x :: r) σ := by
  obtain ⟨p, l, e, R, s, m, args, below, meth, c, cc, nL, own, D, cy, A, ad, sh, kd, ca, sl⟩ := X
  obtain ⟨hx, hb, hml, hown, hts, hlk, hK, hA, hBG, hr, hca, hsl⟩ := hX
  intro H locs ls hP hD hS hL
  have k := hk H locs ls hP hD hS hL
  simp only [List.map_cons, jtoV, jI_sub] at k ⊢
  exact lv_isub hx hb hd k
theorem jw_imul {x y : Int} (hX : jOK X) (hd : decode (jcc X) pc = .ok (.imul, 1)) (hk : jWj X Q (pc + 1) loc (jmi (x * y) :: r) σ) : jWj X Q pc loc (jmi y :: jmi x :: r) σ := by
  obtain ⟨p, l, e, R, s, m, args, below, meth, c, cc, nL, own, D, cy, A, ad, sh, kd, ca, sl⟩ := X
  obtain ⟨hx, hb, hml, hown, hts, hlk, hK, hA, hBG, hr, hca, hsl⟩ := hX
  intro H locs ls hP hD hS hL
  have k := hk H locs ls hP hD hS hL
  simp only [List.map_cons, jtoV, jI_mul] at k ⊢
  exact lv_imul hx hb hd k
theorem jw_iand {x y : Int} (hX : jOK X) (hd : decode (jcc X) pc = .ok (.iand, 1)) (hk : jWj X Q (pc + 1) loc (jmi (jand x y) :: r) σ) : jWj X Q pc loc (jmi y :: jmi x :: r) σ := by
  obtain ⟨p, l, e, R, s, m, args, below, meth, c, cc, nL, own, D, cy, A, ad, sh, kd, ca, sl⟩ := X
  obtain ⟨hx, hb, hml, hown, hts, hlk, hK, hA, hBG, hr, hca, hsl⟩ := hX
  intro H locs ls hP hD hS hL
  have k := hk H locs ls hP hD hS hL
  simp only [List.map_cons, jtoV, jI_and] at k ⊢
  exact lv_iand hx hb hd k
theorem jw_ior {x y : Int} (hX : jOK X) (hd : decode (jcc X) pc = .ok (.ior, 1)) (hk : jWj X Q (pc + 1) loc (jmi (jor x y) :: r) σ) : jWj X Q pc loc (jmi y :: jmi x :: r) σ := by
  obtain ⟨p, l, e, R, s, m, args, below, meth, c, cc, nL, own, D, cy, A, ad, sh, kd, ca, sl⟩ := X
  obtain ⟨hx, hb, hml, hown, hts, hlk, hK, hA, hBG, hr, hca, hsl⟩ := hX
  intro H locs ls hP hD hS hL
  have k := hk H locs ls hP hD hS hL
  simp only [List.map_cons, jtoV, jI_or] at k ⊢
  exact lv_ior hx hb hd k
theorem jw_ixor {x y : Int} (hX : jOK X) (hd : decode (jcc X) pc = .ok (.ixor, 1)) (hk : jWj X Q (pc + 1) loc (jmi (jxor x y) :: r) σ) : jWj X Q pc loc (jmi y :: jmi x :: r) σ := by
  obtain ⟨p, l, e, R, s, m, args, below, meth, c, cc, nL, own, D, cy, A, ad, sh, kd, ca, sl⟩ := X
  obtain ⟨hx, hb, hml, hown, hts, hlk, hK, hA, hBG, hr, hca, hsl⟩ := hX
  intro H locs ls hP hD hS hL
  have k := hk H locs ls hP hD hS hL
  simp only [List.map_cons, jtoV, jI_xor] at k ⊢
  exact lv_ixor hx hb hd k
theorem jw_ishl {x y : Int} (hX : jOK X) (hd : decode (jcc X) pc = .ok (.ishl, 1)) (hk : jWj X Q (pc + 1) loc (jmi (jshl x y) :: r) σ) : jWj X Q pc loc (jmi y :: jmi x :: r) σ := by
  obtain ⟨p, l, e, R, s, m, args, below, meth, c, cc, nL, own, D, cy, A, ad, sh, kd, ca, sl⟩ := X
  obtain ⟨hx, hb, hml, hown, hts, hlk, hK, hA, hBG, hr, hca, hsl⟩ := hX
  intro H locs ls hP hD hS hL
  have k := hk H locs ls hP hD hS hL
  simp only [List.map_cons, jtoV, jI_shl] at k ⊢
  exact lv_ishl hx hb hd k
theorem jw_ishr {x y : Int} (hX : jOK X) (hd : decode (jcc X) pc = .ok (.ishr, 1)) (hk : jWj X Q (pc + 1) loc (jmi (jshr x y) :: r) σ) : jWj X Q pc loc (jmi y :: jmi x :: r) σ := by
  obtain ⟨p, l, e, R, s, m, args, below, meth, c, cc, nL, own, D, cy, A, ad, sh, kd, ca, sl⟩ := X
  obtain ⟨hx, hb, hml, hown, hts, hlk, hK, hA, hBG, hr, hca, hsl⟩ := hX
  intro H locs ls hP hD hS hL
  have k := hk H locs ls hP hD hS hL
  simp only [List.map_cons, jtoV, jI_shr] at k ⊢
  exact lv_ishr hx hb hd k
theorem jw_iushr {x y : Int} (hX : jOK X) (hd : decode (jcc X) pc = .ok (.iushr, 1)) (hk : jWj X Q (pc + 1) loc (jmi (jushr x y) :: r) σ) : jWj X Q pc loc (jmi y :: jmi x :: r) σ := by
  obtain ⟨p, l, e, R, s, m, args, below, meth, c, cc, nL, own, D, cy, A, ad, sh, kd, ca, sl⟩ := X
  obtain ⟨hx, hb, hml, hown, hts, hlk, hK, hA, hBG, hr, hca, hsl⟩ := hX
  intro H locs ls hP hD hS hL
  have k := hk H locs ls hP hD hS hL
  simp only [List.map_cons, jtoV, jI_ushr] at k ⊢
  exact lv_iushr hx hb hd rfl k
theorem jw_ladd {x y : Int} (hX : jOK X) (hd : decode (jcc X) pc = .ok (.ladd, 1)) (hk : jWj X Q (pc + 1) loc (jml (x + y) :: r) σ) : jWj X Q pc loc (jml y :: jml x :: r) σ := by
  obtain ⟨p, l, e, R, s, m, args, below, meth, c, cc, nL, own, D, cy, A, ad, sh, kd, ca, sl⟩ := X
  obtain ⟨hx, hb, hml, hown, hts, hlk, hK, hA, hBG, hr, hca, hsl⟩ := hX
  intro H locs ls hP hD hS hL
  have k := hk H locs ls hP hD hS hL
  simp only [List.map_cons, jtoV, jL_add] at k ⊢
  exact lv_ladd hx hb hd k
theorem jw_lmul {x y : Int} (hX : jOK X) (hd : decode (jcc X) pc = .ok (.lmul, 1)) (hk : jWj X Q (pc + 1) loc (jml (x * y) :: r) σ) : jWj X Q pc loc (jml y :: jml x :: r) σ := by
  obtain ⟨p, l, e, R, s, m, args, below, meth, c, cc, nL, own, D, cy, A, ad, sh, kd, ca, sl⟩ := X
  obtain ⟨hx, hb, hml, hown, hts, hlk, hK, hA, hBG, hr, hca, hsl⟩ := hX
  intro H locs ls hP hD hS hL
  have k := hk H locs ls hP hD hS hL
  simp only [List.map_cons, jtoV, jL_mul] at k ⊢
  exact lv_lmul hx hb hd k
theorem jw_land {x y : Int} (hX : jOK X) (hd : decode (jcc X) pc = .ok (.land, 1)) (hk : jWj X Q (pc + 1) loc (jml (jland x y) :: r) σ) : jWj X Q pc loc (jml y :: jml x :: r) σ := by
  obtain ⟨p, l, e, R, s, m, args, below, meth, c, cc, nL, own, D, cy, A, ad, sh, kd, ca, sl⟩ := X
  obtain ⟨hx, hb, hml, hown, hts, hlk, hK, hA, hBG, hr, hca, hsl⟩ := hX
  intro H locs ls hP hD hS hL
  have k := hk H locs ls hP hD hS hL
  simp only [List.map_cons, jtoV, jL_and] at k ⊢
  exact lv_land hx hb hd k
theorem jw_lor {x y : Int} (hX : jOK X) (hd : decode (jcc X) pc = .ok (.lor, 1)) (hk : jWj X Q (pc + 1) loc (jml (jlor x y) :: r) σ) : jWj X Q pc loc (jml y :: jml x :: r) σ := by
  obtain ⟨p, l, e, R, s, m, args, below, meth, c, cc, nL, own, D, cy, A, ad, sh, kd, ca, sl⟩ := X
  obtain ⟨hx, hb, hml, hown, hts, hlk, hK, hA, hBG, hr, hca, hsl⟩ := hX
  intro H locs ls hP hD hS hL
  have k := hk H locs ls hP hD hS hL
  simp only [List.map_cons, jtoV, jL_or] at k ⊢
  exact lv_lor hx hb hd k
theorem jw_lxor {x y : Int} (hX : jOK X) (hd : decode (jcc X) pc = .ok (.lxor, 1)) (hk : jWj X Q (pc + 1) loc (jml (jlxor x y) :: r) σ) : jWj X Q pc loc (jml y :: jml x :: r) σ := by
  obtain ⟨p, l, e, R, s, m, args, below, meth, c, cc, nL, own, D, cy, A, ad, sh, kd, ca, sl⟩ := X
  obtain ⟨hx, hb, hml, hown, hts, hlk, hK, hA, hBG, hr, hca, hsl⟩ := hX
  intro H locs ls hP hD hS hL
  have k := hk H locs ls hP hD hS hL
  simp only [List.map_cons, jtoV, jL_xor] at k ⊢
  exact lv_lxor hx hb hd k
theorem jw_idiv {x y : Int} (h0 : ¬ jw y = 0) (hX : jOK X) (hd : decode (jcc X) pc = .ok (.idiv, 1)) (hk : jWj X Q (pc + 1) loc (jmi (jdiv x y) :: r) σ) : jWj X Q pc loc (jmi y :: jmi x :: r) σ := by
  obtain ⟨p, l, e, R, s, m, args, below, meth, c, cc, nL, own, D, cy, A, ad, sh, kd, ca, sl⟩ := X
  obtain ⟨hx, hb, hml, hown, hts, hlk, hK, hA, hBG, hr, hca, hsl⟩ := hX
  intro H locs ls hP hD hS hL
  have k := hk H locs ls hP hD hS hL
  simp only [List.map_cons, jtoV, jI_div] at k ⊢
  exact lv_idiv hx hb hd (fun h => h0 ((jI_eq0 y).mp h)) k
theorem jw_irem {x y : Int} (h0 : ¬ jw y = 0) (hX : jOK X) (hd : decode (jcc X) pc = .ok (.irem, 1)) (hk : jWj X Q (pc + 1) loc (jmi (jrem x y) :: r) σ) : jWj X Q pc loc (jmi y :: jmi x :: r) σ := by
  obtain ⟨p, l, e, R, s, m, args, below, meth, c, cc, nL, own, D, cy, A, ad, sh, kd, ca, sl⟩ := X
  obtain ⟨hx, hb, hml, hown, hts, hlk, hK, hA, hBG, hr, hca, hsl⟩ := hX
  intro H locs ls hP hD hS hL
  have k := hk H locs ls hP hD hS hL
  simp only [List.map_cons, jtoV, jI_rem] at k ⊢
  exact lv_irem hx hb hd (fun h => h0 ((jI_eq0 y).mp h)) k
theorem jw_ldiv {x y : Int} (h0 : ¬ jw64 y = 0) (hX : jOK X) (hd : decode (jcc X) pc = .ok (.ldiv, 1)) (hk : jWj X Q (pc + 1) loc (jml (jldiv x y) :: r) σ) : jWj X Q pc loc (jml y :: jml x :: r) σ := by
  obtain ⟨p, l, e, R, s, m, args, below, meth, c, cc, nL, own, D, cy, A, ad, sh, kd, ca, sl⟩ := X
  obtain ⟨hx, hb, hml, hown, hts, hlk, hK, hA, hBG, hr, hca, hsl⟩ := hX
  intro H locs ls hP hD hS hL
  have k := hk H locs ls hP hD hS hL
  simp only [List.map_cons, jtoV, jL_div] at k ⊢
  exact lv_ldiv hx hb hd (fun h => h0 ((jL_eq0 y).mp h)) k
theorem jw_lrem {x y : Int} (h0 : ¬ jw64 y = 0) (hX : jOK X) (hd : decode (jcc X) pc = .ok (.lrem, 1)) (hk : jWj X Q (pc + 1) loc (jml (jlrem x y) :: r) σ) : jWj X Q pc loc (jml y :: jml x :: r) σ := by
  obtain ⟨p, l, e, R, s, m, args, below, meth, c, cc, nL, own, D, cy, A, ad, sh, kd, ca, sl⟩ := X
  obtain ⟨hx, hb, hml, hown, hts, hlk, hK, hA, hBG, hr, hca, hsl⟩ := hX
  intro H locs ls hP hD hS hL
  have k := hk H locs ls hP hD hS hL
  simp only [List.map_cons, jtoV, jL_rem] at k ⊢
  exact lv_lrem hx hb hd (fun h => h0 ((jL_eq0 y).mp h)) k
theorem jw_lshl {x y : Int} (hX : jOK X) (hd : decode (jcc X) pc = .ok (.lshl, 1)) (hk : jWj X Q (pc + 1) loc (jml (jlshl x y) :: r) σ) : jWj X Q pc loc (jmi y :: jml x :: r) σ := by
  obtain ⟨p, l, e, R, s, m, args, below, meth, c, cc, nL, own, D, cy, A, ad, sh, kd, ca, sl⟩ := X
  obtain ⟨hx, hb, hml, hown, hts, hlk, hK, hA, hBG, hr, hca, hsl⟩ := hX
  intro H locs ls hP hD hS hL
  have k := hk H locs ls hP hD hS hL
  simp only [List.map_cons, jtoV, jL_shl] at k ⊢
  exact lv_lshl hx hb hd rfl k
theorem jw_lshr {x y : Int} (hX : jOK X) (hd : decode (jcc X) pc = .ok (.lshr, 1)) (hk : jWj X Q (pc + 1) loc (jml (jlshr x y) :: r) σ) : jWj X Q pc loc (jmi y :: jml x :: r) σ := by
  obtain ⟨p, l, e, R, s, m, args, below, meth, c, cc, nL, own, D, cy, A, ad, sh, kd, ca, sl⟩ := X
  obtain ⟨hx, hb, hml, hown, hts, hlk, hK, hA, hBG, hr, hca, hsl⟩ := hX
  intro H locs ls hP hD hS hL
  have k := hk H locs ls hP hD hS hL
  simp only [List.map_cons, jtoV, jL_shr] at k ⊢
  exact lv_lshr hx hb hd rfl k
theorem jw_lcmp {x y : Int} (hX : jOK X) (hd : decode (jcc X) pc = .ok (.lcmp, 1)) (hk : jWj X Q (pc + 1) loc (jmi (jlcmp x y) :: r) σ) : jWj X Q pc loc (jml y :: jml x :: r) σ := by
  obtain ⟨p, l, e, R, s, m, args, below, meth, c, cc, nL, own, D, cy, A, ad, sh, kd, ca, sl⟩ := X
  obtain ⟨hx, hb, hml, hown, hts, hlk, hK, hA, hBG, hr, hca, hsl⟩ := hX
  intro H locs ls hP hD hS hL
  have k := hk H locs ls hP hD hS hL
  simp only [List.map_cons, jtoV, jI_lcmp] at k ⊢
  exact W.lcmp hx hb hd k
theorem jw_i2l {x : Int} (hX : jOK X) (hd : decode (jcc X) pc = .ok (.i2l, 1)) (hk : jWj X Q (pc + 1) loc (jml (jw x) :: r) σ) : jWj X Q pc loc (jmi x :: r) σ := by
  obtain ⟨p, l, e, R, s, m, args, below, meth, c, cc, nL, own, D, cy, A, ad, sh, kd, ca, sl⟩ := X
  obtain ⟨hx, hb, hml, hown, hts, hlk, hK, hA, hBG, hr, hca, hsl⟩ := hX
  intro H locs ls hP hD hS hL
  have k := hk H locs ls hP hD hS hL
  simp only [List.map_cons, jtoV, jL_i] at k ⊢
  exact lv_i2l hx hb hd rfl k
theorem jw_l2i {x : Int} (hX : jOK X) (hd : decode (jcc X) pc = .ok (.l2i, 1)) (hk : jWj X Q (pc + 1) loc (jmi x :: r) σ) : jWj X Q pc loc (jml x :: r) σ := by
  obtain ⟨p, l, e, R, s, m, args, below, meth, c, cc, nL, own, D, cy, A, ad, sh, kd, ca, sl⟩ := X
  obtain ⟨hx, hb, hml, hown, hts, hlk, hK, hA, hBG, hr, hca, hsl⟩ := hX
  intro H locs ls hP hD hS hL
  have k := hk H locs ls hP hD hS hL
  simp only [List.map_cons, jtoV] at k ⊢
  exact lv_l2i hx hb hd (jI_l x).symm k
theorem jw_i2b {x : Int} (hX : jOK X) (hd : decode (jcc X) pc = .ok (.i2b, 1)) (hk : jWj X Q (pc + 1) loc (jmi (jw8 x) :: r) σ) : jWj X Q pc loc (jmi x :: r) σ := by
  obtain ⟨p, l, e, R, s, m, args, below, meth, c, cc, nL, own, D, cy, A, ad, sh, kd, ca, sl⟩ := X
  obtain ⟨hx, hb, hml, hown, hts, hlk, hK, hA, hBG, hr, hca, hsl⟩ := hX
  intro H locs ls hP hD hS hL
  have k := hk H locs ls hP hD hS hL
  simp only [List.map_cons, jtoV, jI_b] at k ⊢
  exact lv_i2b hx hb hd rfl k
theorem jw_iconst {n : Int} (hX : jOK X) (hd : decode (jcc X) pc = .ok (.iconst n, 1)) (hk : jWj X Q (pc + 1) loc (jmi n :: st) σ) : jWj X Q pc loc (st) σ := by
  obtain ⟨p, l, e, R, s, m, args, below, meth, c, cc, nL, own, D, cy, A, ad, sh, kd, ca, sl⟩ := X
  obtain ⟨hx, hb, hml, hown, hts, hlk, hK, hA, hBG, hr, hca, hsl⟩ := hX
  intro H locs ls hP hD hS hL
  have k := hk H locs ls hP hD hS hL
  simp only [List.map_cons, jtoV] at k ⊢
  exact lv_iconst hx hb hd rfl k
theorem jw_bipush {n : Int} (hn : -128 ≤ n ∧ n ≤ 127) (hX : jOK X) (hd : decode (jcc X) pc = .ok (.bipush n, 2)) (hk : jWj X Q (pc + 2) loc (jmi n :: st) σ) : jWj X Q pc loc (st) σ := by
  obtain ⟨p, l, e, R, s, m, args, below, meth, c, cc, nL, own, D, cy, A, ad, sh, kd, ca, sl⟩ := X
  obtain ⟨hx, hb, hml, hown, hts, hlk, hK, hA, hBG, hr, hca, hsl⟩ := hX
  intro H locs ls hP hD hS hL
  have k := hk H locs ls hP hD hS hL
  simp only [List.map_cons, jtoV] at k ⊢
  exact lv_bipush hx hb hd (by apply Int32.toInt_inj.mp; rw [Int8.toInt_toInt32, Int8.toInt_ofInt, jw_toInt, Int.bmod_def]; unfold jw; have : ((Int8.size : Nat) : Int) = 256 := rfl; split <;> simp_all <;> omega) k
theorem jw_sipush {n : Int} (hn : -32768 ≤ n ∧ n ≤ 32767) (hX : jOK X) (hd : decode (jcc X) pc = .ok (.sipush n, 3)) (hk : jWj X Q (pc + 3) loc (jmi n :: st) σ) : jWj X Q pc loc (st) σ := by
  obtain ⟨p, l, e, R, s, m, args, below, meth, c, cc, nL, own, D, cy, A, ad, sh, kd, ca, sl⟩ := X
  obtain ⟨hx, hb, hml, hown, hts, hlk, hK, hA, hBG, hr, hca, hsl⟩ := hX
  intro H locs ls hP hD hS hL
  have k := hk H locs ls hP hD hS hL
  simp only [List.map_cons, jtoV] at k ⊢
  exact lv_sipush hx hb hd (by apply Int32.toInt_inj.mp; rw [Int16.toInt_toInt32, Int16.toInt_ofInt, jw_toInt, Int.bmod_def]; unfold jw; have : ((Int16.size : Nat) : Int) = 65536 := rfl; split <;> simp_all <;> omega) k
theorem jw_lconst {n : Fin 2} (hX : jOK X) (hd : decode (jcc X) pc = .ok (.lconst n, 1)) (hk : jWj X Q (pc + 1) loc (jml (n.val : Int) :: st) σ) : jWj X Q pc loc (st) σ := by
  obtain ⟨p, l, e, R, s, m, args, below, meth, c, cc, nL, own, D, cy, A, ad, sh, kd, ca, sl⟩ := X
  obtain ⟨hx, hb, hml, hown, hts, hlk, hK, hA, hBG, hr, hca, hsl⟩ := hX
  intro H locs ls hP hD hS hL
  have k := hk H locs ls hP hD hS hL
  simp only [List.map_cons, jtoV] at k ⊢
  exact lv_lconst hx hb hd rfl k
theorem jw_null (hX : jOK X) (hd : decode (jcc X) pc = .ok (.aconst_null, 1)) (hk : jWj X Q (pc + 1) loc (jmn :: st) σ) : jWj X Q pc loc (st) σ := by
  obtain ⟨p, l, e, R, s, m, args, below, meth, c, cc, nL, own, D, cy, A, ad, sh, kd, ca, sl⟩ := X
  obtain ⟨hx, hb, hml, hown, hts, hlk, hK, hA, hBG, hr, hca, hsl⟩ := hX
  intro H locs ls hP hD hS hL
  have k := hk H locs ls hP hD hS hL
  simp only [List.map_cons, jtoV] at k ⊢
  exact lv_null hx hb hd k
theorem jw_dupi {x : Int} (hX : jOK X) (hd : decode (jcc X) pc = .ok (.dup, 1)) (hk : jWj X Q (pc + 1) loc (jmi x :: jmi x :: r) σ) : jWj X Q pc loc (jmi x :: r) σ := by
  obtain ⟨p, l, e, R, s, m, args, below, meth, c, cc, nL, own, D, cy, A, ad, sh, kd, ca, sl⟩ := X
  obtain ⟨hx, hb, hml, hown, hts, hlk, hK, hA, hBG, hr, hca, hsl⟩ := hX
  intro H locs ls hP hD hS hL
  have k := hk H locs ls hP hD hS hL
  simp only [List.map_cons, jtoV] at k ⊢
  exact lv_dup hx hb hd rfl k
theorem jw_dupr {x : Nat} (hX : jOK X) (hd : decode (jcc X) pc = .ok (.dup, 1)) (hk : jWj X Q (pc + 1) loc (jmr x :: jmr x :: r) σ) : jWj X Q pc loc (jmr x :: r) σ := by
  obtain ⟨p, l, e, R, s, m, args, below, meth, c, cc, nL, own, D, cy, A, ad, sh, kd, ca, sl⟩ := X
  obtain ⟨hx, hb, hml, hown, hts, hlk, hK, hA, hBG, hr, hca, hsl⟩ := hX
  intro H locs ls hP hD hS hL
  have k := hk H locs ls hP hD hS hL
  simp only [List.map_cons, jtoV] at k ⊢
  exact lv_dup hx hb hd rfl k
theorem jw_dupn (hX : jOK X) (hd : decode (jcc X) pc = .ok (.dup, 1)) (hk : jWj X Q (pc + 1) loc (jmn :: jmn :: r) σ) : jWj X Q pc loc (jmn :: r) σ := by
  obtain ⟨p, l, e, R, s, m, args, below, meth, c, cc, nL, own, D, cy, A, ad, sh, kd, ca, sl⟩ := X
  obtain ⟨hx, hb, hml, hown, hts, hlk, hK, hA, hBG, hr, hca, hsl⟩ := hX
  intro H locs ls hP hD hS hL
  have k := hk H locs ls hP hD hS hL
  simp only [List.map_cons, jtoV] at k ⊢
  exact lv_dup hx hb hd rfl k
theorem jw_dup2r {y : Int} {x : Nat} (hX : jOK X) (hd : decode (jcc X) pc = .ok (.dup2, 1)) (hk : jWj X Q (pc + 1) loc (jmi y :: jmr x :: jmi y :: jmr x :: r) σ) : jWj X Q pc loc (jmi y :: jmr x :: r) σ := by
  obtain ⟨p, l, e, R, s, m, args, below, meth, c, cc, nL, own, D, cy, A, ad, sh, kd, ca, sl⟩ := X
  obtain ⟨hx, hb, hml, hown, hts, hlk, hK, hA, hBG, hr, hca, hsl⟩ := hX
  intro H locs ls hP hD hS hL
  have k := hk H locs ls hP hD hS hL
  simp only [List.map_cons, jtoV] at k ⊢
  exact lv_dup2_11 hx hb hd rfl rfl k
theorem jw_dup2n {y : Int} (hX : jOK X) (hd : decode (jcc X) pc = .ok (.dup2, 1)) (hk : jWj X Q (pc + 1) loc (jmi y :: jmn :: jmi y :: jmn :: r) σ) : jWj X Q pc loc (jmi y :: jmn :: r) σ := by
  obtain ⟨p, l, e, R, s, m, args, below, meth, c, cc, nL, own, D, cy, A, ad, sh, kd, ca, sl⟩ := X
  obtain ⟨hx, hb, hml, hown, hts, hlk, hK, hA, hBG, hr, hca, hsl⟩ := hX
  intro H locs ls hP hD hS hL
  have k := hk H locs ls hP hD hS hL
  simp only [List.map_cons, jtoV] at k ⊢
  exact lv_dup2_11 hx hb hd rfl rfl k
theorem jw_popi {x : Int} (hX : jOK X) (hd : decode (jcc X) pc = .ok (.pop, 1)) (hk : jWj X Q (pc + 1) loc (r) σ) : jWj X Q pc loc (jmi x :: r) σ := by
  obtain ⟨p, l, e, R, s, m, args, below, meth, c, cc, nL, own, D, cy, A, ad, sh, kd, ca, sl⟩ := X
  obtain ⟨hx, hb, hml, hown, hts, hlk, hK, hA, hBG, hr, hca, hsl⟩ := hX
  intro H locs ls hP hD hS hL
  have k := hk H locs ls hP hD hS hL
  simp only [List.map_cons, jtoV] at k ⊢
  exact lv_pop hx hb hd rfl k
theorem jw_popr {x : Nat} (hX : jOK X) (hd : decode (jcc X) pc = .ok (.pop, 1)) (hk : jWj X Q (pc + 1) loc (r) σ) : jWj X Q pc loc (jmr x :: r) σ := by
  obtain ⟨p, l, e, R, s, m, args, below, meth, c, cc, nL, own, D, cy, A, ad, sh, kd, ca, sl⟩ := X
  obtain ⟨hx, hb, hml, hown, hts, hlk, hK, hA, hBG, hr, hca, hsl⟩ := hX
  intro H locs ls hP hD hS hL
  have k := hk H locs ls hP hD hS hL
  simp only [List.map_cons, jtoV] at k ⊢
  exact lv_pop hx hb hd rfl k
theorem jw_popn (hX : jOK X) (hd : decode (jcc X) pc = .ok (.pop, 1)) (hk : jWj X Q (pc + 1) loc (r) σ) : jWj X Q pc loc (jmn :: r) σ := by
  obtain ⟨p, l, e, R, s, m, args, below, meth, c, cc, nL, own, D, cy, A, ad, sh, kd, ca, sl⟩ := X
  obtain ⟨hx, hb, hml, hown, hts, hlk, hK, hA, hBG, hr, hca, hsl⟩ := hX
  intro H locs ls hP hD hS hL
  have k := hk H locs ls hP hD hS hL
  simp only [List.map_cons, jtoV] at k ⊢
  exact lv_pop hx hb hd rfl k
theorem jw_ldi_n {n : Fin 4} {x : Int} (hg : jget loc n.val = some (jmi x)) (hX : jOK X) (hd : decode (jcc X) pc = .ok (.iload_n n, 1)) (hk : jWj X Q (pc + 1) loc (jmi x :: st) σ) : jWj X Q pc loc (st) σ := by
  obtain ⟨p, l, e, R, s, m, args, below, meth, c, cc, nL, own, D, cy, A, ad, sh, kd, ca, sl⟩ := X
  obtain ⟨hx, hb, hml, hown, hts, hlk, hK, hA, hBG, hr, hca, hsl⟩ := hX
  intro H locs ls hP hD hS hL
  have k := hk H locs ls hP hD hS hL
  simp only [List.map_cons, jtoV] at k ⊢
  exact lv_iload_n hx hb hd rfl (hL.2.2.2 _ _ hg) k
theorem jw_ldl_n {n : Fin 4} {x : Int} (hg : jget loc n.val = some (jml x)) (hX : jOK X) (hd : decode (jcc X) pc = .ok (.lload_n n, 1)) (hk : jWj X Q (pc + 1) loc (jml x :: st) σ) : jWj X Q pc loc (st) σ := by
  obtain ⟨p, l, e, R, s, m, args, below, meth, c, cc, nL, own, D, cy, A, ad, sh, kd, ca, sl⟩ := X
  obtain ⟨hx, hb, hml, hown, hts, hlk, hK, hA, hBG, hr, hca, hsl⟩ := hX
  intro H locs ls hP hD hS hL
  have k := hk H locs ls hP hD hS hL
  simp only [List.map_cons, jtoV] at k ⊢
  exact lv_lload_n hx hb hd rfl (hL.2.2.2 _ _ hg) k
theorem jw_lda_n {n : Fin 4} {x : Nat} (hg : jget loc n.val = some (jmr x)) (hX : jOK X) (hd : decode (jcc X) pc = .ok (.aload_n n, 1)) (hk : jWj X Q (pc + 1) loc (jmr x :: st) σ) : jWj X Q pc loc (st) σ := by
  obtain ⟨p, l, e, R, s, m, args, below, meth, c, cc, nL, own, D, cy, A, ad, sh, kd, ca, sl⟩ := X
  obtain ⟨hx, hb, hml, hown, hts, hlk, hK, hA, hBG, hr, hca, hsl⟩ := hX
  intro H locs ls hP hD hS hL
  have k := hk H locs ls hP hD hS hL
  simp only [List.map_cons, jtoV] at k ⊢
  exact lv_aload_n hx hb hd rfl (hL.2.2.2 _ _ hg) k
theorem jw_ldaN_n {n : Fin 4}  (hg : jget loc n.val = some (jmn)) (hX : jOK X) (hd : decode (jcc X) pc = .ok (.aload_n n, 1)) (hk : jWj X Q (pc + 1) loc (jmn :: st) σ) : jWj X Q pc loc (st) σ := by
  obtain ⟨p, l, e, R, s, m, args, below, meth, c, cc, nL, own, D, cy, A, ad, sh, kd, ca, sl⟩ := X
  obtain ⟨hx, hb, hml, hown, hts, hlk, hK, hA, hBG, hr, hca, hsl⟩ := hX
  intro H locs ls hP hD hS hL
  have k := hk H locs ls hP hD hS hL
  simp only [List.map_cons, jtoV] at k ⊢
  exact lv_aload_nN hx hb hd rfl (hL.2.2.2 _ _ hg) k
theorem jw_ldi {n : Nat} {x : Int} (hg : jget loc n = some (jmi x)) (hX : jOK X) (hd : decode (jcc X) pc = .ok (.iload n, 2)) (hk : jWj X Q (pc + 2) loc (jmi x :: st) σ) : jWj X Q pc loc (st) σ := by
  obtain ⟨p, l, e, R, s, m, args, below, meth, c, cc, nL, own, D, cy, A, ad, sh, kd, ca, sl⟩ := X
  obtain ⟨hx, hb, hml, hown, hts, hlk, hK, hA, hBG, hr, hca, hsl⟩ := hX
  intro H locs ls hP hD hS hL
  have k := hk H locs ls hP hD hS hL
  simp only [List.map_cons, jtoV] at k ⊢
  exact lv_iload hx hb hd (hL.2.2.2 _ _ hg) k
theorem jw_ldl {n : Nat} {x : Int} (hg : jget loc n = some (jml x)) (hX : jOK X) (hd : decode (jcc X) pc = .ok (.lload n, 2)) (hk : jWj X Q (pc + 2) loc (jml x :: st) σ) : jWj X Q pc loc (st) σ := by
  obtain ⟨p, l, e, R, s, m, args, below, meth, c, cc, nL, own, D, cy, A, ad, sh, kd, ca, sl⟩ := X
  obtain ⟨hx, hb, hml, hown, hts, hlk, hK, hA, hBG, hr, hca, hsl⟩ := hX
  intro H locs ls hP hD hS hL
  have k := hk H locs ls hP hD hS hL
  simp only [List.map_cons, jtoV] at k ⊢
  exact lv_lload hx hb hd (hL.2.2.2 _ _ hg) k
theorem jw_lda {n : Nat} {x : Nat} (hg : jget loc n = some (jmr x)) (hX : jOK X) (hd : decode (jcc X) pc = .ok (.aload n, 2)) (hk : jWj X Q (pc + 2) loc (jmr x :: st) σ) : jWj X Q pc loc (st) σ := by
  obtain ⟨p, l, e, R, s, m, args, below, meth, c, cc, nL, own, D, cy, A, ad, sh, kd, ca, sl⟩ := X
  obtain ⟨hx, hb, hml, hown, hts, hlk, hK, hA, hBG, hr, hca, hsl⟩ := hX
  intro H locs ls hP hD hS hL
  have k := hk H locs ls hP hD hS hL
  simp only [List.map_cons, jtoV] at k ⊢
  exact lv_aload hx hb hd (hL.2.2.2 _ _ hg) k
theorem jw_ldaN {n : Nat}  (hg : jget loc n = some (jmn)) (hX : jOK X) (hd : decode (jcc X) pc = .ok (.aload n, 2)) (hk : jWj X Q (pc + 2) loc (jmn :: st) σ) : jWj X Q pc loc (st) σ := by
  obtain ⟨p, l, e, R, s, m, args, below, meth, c, cc, nL, own, D, cy, A, ad, sh, kd, ca, sl⟩ := X
  obtain ⟨hx, hb, hml, hown, hts, hlk, hK, hA, hBG, hr, hca, hsl⟩ := hX
  intro H locs ls hP hD hS hL
  have k := hk H locs ls hP hD hS hL
  simp only [List.map_cons, jtoV] at k ⊢
  exact lv_aloadN hx hb hd (hL.2.2.2 _ _ hg) k
theorem jw_sti_n {n : Fin 4} {x : Int} (hX : jOK X) (hn : n.val + 1 ≤ loc.length) (hd : decode (jcc X) pc = .ok (.istore_n n, 1)) (hk : jWj X Q (pc + 1) (jset1 loc n.val (jmi x)) r σ) : jWj X Q pc loc (jmi x :: r) σ := by
  obtain ⟨p, l, e, R, s, m, args, below, meth, c, cc, nL, own, D, cy, A, ad, sh, kd, ca, sl⟩ := X
  obtain ⟨hx, hb, hml, hown, hts, hlk, hK, hA, hBG, hr, hca, hsl⟩ := hX
  intro H locs ls hP hD hS hL
  have hi := hL.2.2.1
  exact lv_istore_n hx hb hd rfl hL.has (by omega) rfl (fun ls' h' => hk H locs ls' hP hD hS (hL.set1 h'))
theorem jw_stl_n {n : Fin 4} {x : Int} (hX : jOK X) (hn : n.val + 2 ≤ loc.length) (hd : decode (jcc X) pc = .ok (.lstore_n n, 1)) (hk : jWj X Q (pc + 1) (jset2 loc n.val (jml x)) r σ) : jWj X Q pc loc (jml x :: r) σ := by
  obtain ⟨p, l, e, R, s, m, args, below, meth, c, cc, nL, own, D, cy, A, ad, sh, kd, ca, sl⟩ := X
  obtain ⟨hx, hb, hml, hown, hts, hlk, hK, hA, hBG, hr, hca, hsl⟩ := hX
  intro H locs ls hP hD hS hL
  have hi := hL.2.2.1
  exact lv_lstore_n hx hb hd rfl hL.has (by omega) rfl (fun ls' h' => hk H locs ls' hP hD hS (hL.set2 h'))
theorem jw_sta_n {n : Fin 4} {x : Nat} (hX : jOK X) (hn : n.val + 1 ≤ loc.length) (hd : decode (jcc X) pc = .ok (.astore_n n, 1)) (hk : jWj X Q (pc + 1) (jset1 loc n.val (jmr x)) r σ) : jWj X Q pc loc (jmr x :: r) σ := by
  obtain ⟨p, l, e, R, s, m, args, below, meth, c, cc, nL, own, D, cy, A, ad, sh, kd, ca, sl⟩ := X
  obtain ⟨hx, hb, hml, hown, hts, hlk, hK, hA, hBG, hr, hca, hsl⟩ := hX
  intro H locs ls hP hD hS hL
  have hi := hL.2.2.1
  exact lv_astore_n hx hb hd rfl hL.has (by omega) rfl (fun ls' h' => hk H locs ls' hP hD hS (hL.set1 h'))
theorem jw_sti {n : Nat} {x : Int} (hX : jOK X) (hn : n + 1 ≤ loc.length) (hd : decode (jcc X) pc = .ok (.istore n, 2)) (hk : jWj X Q (pc + 2) (jset1 loc n (jmi x)) r σ) : jWj X Q pc loc (jmi x :: r) σ := by
  obtain ⟨p, l, e, R, s, m, args, below, meth, c, cc, nL, own, D, cy, A, ad, sh, kd, ca, sl⟩ := X
  obtain ⟨hx, hb, hml, hown, hts, hlk, hK, hA, hBG, hr, hca, hsl⟩ := hX
  intro H locs ls hP hD hS hL
  have hi := hL.2.2.1
  exact lv_istore hx hb hd hL.has (by omega) rfl (fun ls' h' => hk H locs ls' hP hD hS (hL.set1 h'))
theorem jw_stl {n : Nat} {x : Int} (hX : jOK X) (hn : n + 2 ≤ loc.length) (hd : decode (jcc X) pc = .ok (.lstore n, 2)) (hk : jWj X Q (pc + 2) (jset2 loc n (jml x)) r σ) : jWj X Q pc loc (jml x :: r) σ := by
  obtain ⟨p, l, e, R, s, m, args, below, meth, c, cc, nL, own, D, cy, A, ad, sh, kd, ca, sl⟩ := X
  obtain ⟨hx, hb, hml, hown, hts, hlk, hK, hA, hBG, hr, hca, hsl⟩ := hX
  intro H locs ls hP hD hS hL
  have hi := hL.2.2.1
  exact lv_lstore hx hb hd hL.has (by omega) rfl (fun ls' h' => hk H locs ls' hP hD hS (hL.set2 h'))
theorem jw_sta {n : Nat} {x : Nat} (hX : jOK X) (hn : n + 1 ≤ loc.length) (hd : decode (jcc X) pc = .ok (.astore n, 2)) (hk : jWj X Q (pc + 2) (jset1 loc n (jmr x)) r σ) : jWj X Q pc loc (jmr x :: r) σ := by
  obtain ⟨p, l, e, R, s, m, args, below, meth, c, cc, nL, own, D, cy, A, ad, sh, kd, ca, sl⟩ := X
  obtain ⟨hx, hb, hml, hown, hts, hlk, hK, hA, hBG, hr, hca, hsl⟩ := hX
  intro H locs ls hP hD hS hL
  have hi := hL.2.2.1
  exact lv_astore hx hb hd hL.has (by omega) rfl (fun ls' h' => hk H locs ls' hP hD hS (hL.set1 h'))
theorem jw_staN_n {n : Fin 4} (hX : jOK X) (hn : n.val + 1 ≤ loc.length) (hd : decode (jcc X) pc = .ok (.astore_n n, 1)) (hk : jWj X Q (pc + 1) (jset1 loc n.val jmn) r σ) : jWj X Q pc loc (jmn :: r) σ := by
  obtain ⟨p, l, e, R, s, m, args, below, meth, c, cc, nL, own, D, cy, A, ad, sh, kd, ca, sl⟩ := X
  obtain ⟨hx, hb, hml, hown, hts, hlk, hK, hA, hBG, hr, hca, hsl⟩ := hX
  intro H locs ls hP hD hS hL
  have hi := hL.2.2.1
  exact lv_astore_nN hx hb hd rfl hL.has (by omega) rfl (fun ls' h' => hk H locs ls' hP hD hS (hL.set1 h'))
theorem jw_staN {n : Nat} (hX : jOK X) (hn : n + 1 ≤ loc.length) (hd : decode (jcc X) pc = .ok (.astore n, 2)) (hk : jWj X Q (pc + 2) (jset1 loc n jmn) r σ) : jWj X Q pc loc (jmn :: r) σ := by
  obtain ⟨p, l, e, R, s, m, args, below, meth, c, cc, nL, own, D, cy, A, ad, sh, kd, ca, sl⟩ := X
  obtain ⟨hx, hb, hml, hown, hts, hlk, hK, hA, hBG, hr, hca, hsl⟩ := hX
  intro H locs ls hP hD hS hL
  have hi := hL.2.2.1
  exact lv_astoreN hx hb hd hL.has (by omega) rfl (fun ls' h' => hk H locs ls' hP hD hS (hL.set1 h'))
theorem jw_iinc {n : Nat} {d x : Int} (hX : jOK X) (hg : jget loc n = some (jmi x)) (hn : n + 1 ≤ loc.length) (hd : decode (jcc X) pc = .ok (.iinc n d, 3)) (hk : jWj X Q (pc + 3) (jset1 loc n (jmi (x + d))) st σ) : jWj X Q pc loc st σ := by
  obtain ⟨p, l, e, R, s, m, args, below, meth, c, cc, nL, own, D, cy, A, ad, sh, kd, ca, sl⟩ := X
  obtain ⟨hx, hb, hml, hown, hts, hlk, hK, hA, hBG, hr, hca, hsl⟩ := hX
  intro H locs ls hP hD hS hL
  have hi := hL.2.2.1
  obtain ⟨q, hq⟩ := List.getElem?_of_mem (jlv_of (ad := ad) (n := 0) hg)
  rw [Nat.zero_add] at hq
  exact lv_iinc hx hb hd hL.has hq (jI_add x d).symm (by omega) rfl (fun ls' h' => hk H locs ls' hP hD hS (hL.set1 (v := jmi (x + d)) h'))
theorem jw_if_eq {x : Int} {off : Int} {t : Nat} (hX : jOK X) (ht : (pc : Int) + off = (t : Int)) (hd : decode (jcc X) pc = .ok (.ifCond .eq off, 3)) (kt : (jw x = 0) → jWj X Q t loc r σ) (kf : ¬ (jw x = 0) → jWj X Q (pc + 3) loc r σ) : jWj X Q pc loc (jmi x :: r) σ := by
  obtain ⟨p, l, e, R, s, m, args, below, meth, c, cc, nL, own, D, cy, A, ad, sh, kd, ca, sl⟩ := X
  obtain ⟨hx, hb, hml, hown, hts, hlk, hK, hA, hBG, hr, hca, hsl⟩ := hX
  intro H locs ls hP hD hS hL
  exact lv_if_eq hx hb hd ht (fun q => kt ((jI_eq0 x).mp q) H locs ls hP hD hS hL) (fun q => kf (fun z => q ((jI_eq0 x).mpr z)) H locs ls hP hD hS hL)
theorem jw_if_ne {x : Int} {off : Int} {t : Nat} (hX : jOK X) (ht : (pc : Int) + off = (t : Int)) (hd : decode (jcc X) pc = .ok (.ifCond .ne off, 3)) (kt : (¬ jw x = 0) → jWj X Q t loc r σ) (kf : ¬ (¬ jw x = 0) → jWj X Q (pc + 3) loc r σ) : jWj X Q pc loc (jmi x :: r) σ := by
  obtain ⟨p, l, e, R, s, m, args, below, meth, c, cc, nL, own, D, cy, A, ad, sh, kd, ca, sl⟩ := X
  obtain ⟨hx, hb, hml, hown, hts, hlk, hK, hA, hBG, hr, hca, hsl⟩ := hX
  intro H locs ls hP hD hS hL
  exact lv_if_ne hx hb hd ht (fun q => kt ((not_congr (jI_eq0 x)).mp q) H locs ls hP hD hS hL) (fun q => kf (fun z => z ((jI_eq0 x).mp q)) H locs ls hP hD hS hL)
theorem jw_if_lt {x : Int} {off : Int} {t : Nat} (hX : jOK X) (ht : (pc : Int) + off = (t : Int)) (hd : decode (jcc X) pc = .ok (.ifCond .lt off, 3)) (kt : (jw x < 0) → jWj X Q t loc r σ) (kf : ¬ (jw x < 0) → jWj X Q (pc + 3) loc r σ) : jWj X Q pc loc (jmi x :: r) σ := by
  obtain ⟨p, l, e, R, s, m, args, below, meth, c, cc, nL, own, D, cy, A, ad, sh, kd, ca, sl⟩ := X
  obtain ⟨hx, hb, hml, hown, hts, hlk, hK, hA, hBG, hr, hca, hsl⟩ := hX
  intro H locs ls hP hD hS hL
  exact lv_if_lt hx hb hd ht (fun q => kt ((jI_lt0 x).mp q) H locs ls hP hD hS hL) (fun q => kf (fun z => q ((jI_lt0 x).mpr z)) H locs ls hP hD hS hL)
theorem jw_if_ge {x : Int} {off : Int} {t : Nat} (hX : jOK X) (ht : (pc : Int) + off = (t : Int)) (hd : decode (jcc X) pc = .ok (.ifCond .ge off, 3)) (kt : (¬ jw x < 0) → jWj X Q t loc r σ) (kf : ¬ (¬ jw x < 0) → jWj X Q (pc + 3) loc r σ) : jWj X Q pc loc (jmi x :: r) σ := by
  obtain ⟨p, l, e, R, s, m, args, below, meth, c, cc, nL, own, D, cy, A, ad, sh, kd, ca, sl⟩ := X
  obtain ⟨hx, hb, hml, hown, hts, hlk, hK, hA, hBG, hr, hca, hsl⟩ := hX
  intro H locs ls hP hD hS hL
  exact lv_if_ge hx hb hd ht (fun q => kt (((by rw [← Int32.not_lt, jI_lt0] : (0 : Int32) ≤ jI x ↔ ¬ jw x < 0)).mp q) H locs ls hP hD hS hL) (fun q => kf (fun z => q (((by rw [← Int32.not_lt, jI_lt0] : (0 : Int32) ≤ jI x ↔ ¬ jw x < 0)).mpr z)) H locs ls hP hD hS hL)
theorem jw_if_gt {x : Int} {off : Int} {t : Nat} (hX : jOK X) (ht : (pc : Int) + off = (t : Int)) (hd : decode (jcc X) pc = .ok (.ifCond .gt off, 3)) (kt : (0 < jw x) → jWj X Q t loc r σ) (kf : ¬ (0 < jw x) → jWj X Q (pc + 3) loc r σ) : jWj X Q pc loc (jmi x :: r) σ := by
  obtain ⟨p, l, e, R, s, m, args, below, meth, c, cc, nL, own, D, cy, A, ad, sh, kd, ca, sl⟩ := X
  obtain ⟨hx, hb, hml, hown, hts, hlk, hK, hA, hBG, hr, hca, hsl⟩ := hX
  intro H locs ls hP hD hS hL
  exact lv_if_gt hx hb hd ht (fun q => kt ((jI_gt0 x).mp q) H locs ls hP hD hS hL) (fun q => kf (fun z => q ((jI_gt0 x).mpr z)) H locs ls hP hD hS hL)
theorem jw_if_le {x : Int} {off : Int} {t : Nat} (hX : jOK X) (ht : (pc : Int) + off = (t : Int)) (hd : decode (jcc X) pc = .ok (.ifCond .le off, 3)) (kt : (¬ 0 < jw x) → jWj X Q t loc r σ) (kf : ¬ (¬ 0 < jw x) → jWj X Q (pc + 3) loc r σ) : jWj X Q pc loc (jmi x :: r) σ := by
  obtain ⟨p, l, e, R, s, m, args, below, meth, c, cc, nL, own, D, cy, A, ad, sh, kd, ca, sl⟩ := X
  obtain ⟨hx, hb, hml, hown, hts, hlk, hK, hA, hBG, hr, hca, hsl⟩ := hX
  intro H locs ls hP hD hS hL
  exact lv_if_le hx hb hd ht (fun q => kt (((by rw [← Int32.not_lt, jI_gt0] : jI x ≤ (0 : Int32) ↔ ¬ 0 < jw x)).mp q) H locs ls hP hD hS hL) (fun q => kf (fun z => q (((by rw [← Int32.not_lt, jI_gt0] : jI x ≤ (0 : Int32) ↔ ¬ 0 < jw x)).mpr z)) H locs ls hP hD hS hL)
theorem jw_icmp_eq {x y : Int} {off : Int} {t : Nat} (hX : jOK X) (ht : (pc : Int) + off = (t : Int)) (hd : decode (jcc X) pc = .ok (.if_icmp .eq off, 3)) (kt : (jw x = jw y) → jWj X Q t loc r σ) (kf : ¬ (jw x = jw y) → jWj X Q (pc + 3) loc r σ) : jWj X Q pc loc (jmi y :: jmi x :: r) σ := by
  obtain ⟨p, l, e, R, s, m, args, below, meth, c, cc, nL, own, D, cy, A, ad, sh, kd, ca, sl⟩ := X
  obtain ⟨hx, hb, hml, hown, hts, hlk, hK, hA, hBG, hr, hca, hsl⟩ := hX
  intro H locs ls hP hD hS hL
  exact lv_icmp_eq hx hb hd ht (fun q => kt ((jI_eq x y).mp q) H locs ls hP hD hS hL) (fun q => kf (fun z => q ((jI_eq x y).mpr z)) H locs ls hP hD hS hL)
theorem jw_icmp_ne {x y : Int} {off : Int} {t : Nat} (hX : jOK X) (ht : (pc : Int) + off = (t : Int)) (hd : decode (jcc X) pc = .ok (.if_icmp .ne off, 3)) (kt : (¬ jw x = jw y) → jWj X Q t loc r σ) (kf : ¬ (¬ jw x = jw y) → jWj X Q (pc + 3) loc r σ) : jWj X Q pc loc (jmi y :: jmi x :: r) σ := by
  obtain ⟨p, l, e, R, s, m, args, below, meth, c, cc, nL, own, D, cy, A, ad, sh, kd, ca, sl⟩ := X
  obtain ⟨hx, hb, hml, hown, hts, hlk, hK, hA, hBG, hr, hca, hsl⟩ := hX
  intro H locs ls hP hD hS hL
  exact lv_icmp_ne hx hb hd ht (fun q => kt ((not_congr (jI_eq x y)).mp q) H locs ls hP hD hS hL) (fun q => kf (fun z => z ((jI_eq x y).mp q)) H locs ls hP hD hS hL)
theorem jw_icmp_lt {x y : Int} {off : Int} {t : Nat} (hX : jOK X) (ht : (pc : Int) + off = (t : Int)) (hd : decode (jcc X) pc = .ok (.if_icmp .lt off, 3)) (kt : (jw x < jw y) → jWj X Q t loc r σ) (kf : ¬ (jw x < jw y) → jWj X Q (pc + 3) loc r σ) : jWj X Q pc loc (jmi y :: jmi x :: r) σ := by
  obtain ⟨p, l, e, R, s, m, args, below, meth, c, cc, nL, own, D, cy, A, ad, sh, kd, ca, sl⟩ := X
  obtain ⟨hx, hb, hml, hown, hts, hlk, hK, hA, hBG, hr, hca, hsl⟩ := hX
  intro H locs ls hP hD hS hL
  exact lv_icmp_lt hx hb hd ht (fun q => kt ((jI_lt x y).mp q) H locs ls hP hD hS hL) (fun q => kf (fun z => q ((jI_lt x y).mpr z)) H locs ls hP hD hS hL)
theorem jw_icmp_ge {x y : Int} {off : Int} {t : Nat} (hX : jOK X) (ht : (pc : Int) + off = (t : Int)) (hd : decode (jcc X) pc = .ok (.if_icmp .ge off, 3)) (kt : (¬ jw x < jw y) → jWj X Q t loc r σ) (kf : ¬ (¬ jw x < jw y) → jWj X Q (pc + 3) loc r σ) : jWj X Q pc loc (jmi y :: jmi x :: r) σ := by
  obtain ⟨p, l, e, R, s, m, args, below, meth, c, cc, nL, own, D, cy, A, ad, sh, kd, ca, sl⟩ := X
  obtain ⟨hx, hb, hml, hown, hts, hlk, hK, hA, hBG, hr, hca, hsl⟩ := hX
  intro H locs ls hP hD hS hL
  exact lv_icmp_ge hx hb hd ht (fun q => kt (((by rw [← Int32.not_lt, jI_lt] : jI y ≤ jI x ↔ ¬ jw x < jw y)).mp q) H locs ls hP hD hS hL) (fun q => kf (fun z => q (((by rw [← Int32.not_lt, jI_lt] : jI y ≤ jI x ↔ ¬ jw x < jw y)).mpr z)) H locs ls hP hD hS hL)
theorem jw_icmp_gt {x y : Int} {off : Int} {t : Nat} (hX : jOK X) (ht : (pc : Int) + off = (t : Int)) (hd : decode (jcc X) pc = .ok (.if_icmp .gt off, 3)) (kt : (jw y < jw x) → jWj X Q t loc r σ) (kf : ¬ (jw y < jw x) → jWj X Q (pc + 3) loc r σ) : jWj X Q pc loc (jmi y :: jmi x :: r) σ := by
  obtain ⟨p, l, e, R, s, m, args, below, meth, c, cc, nL, own, D, cy, A, ad, sh, kd, ca, sl⟩ := X
  obtain ⟨hx, hb, hml, hown, hts, hlk, hK, hA, hBG, hr, hca, hsl⟩ := hX
  intro H locs ls hP hD hS hL
  exact lv_icmp_gt hx hb hd ht (fun q => kt ((jI_lt y x).mp q) H locs ls hP hD hS hL) (fun q => kf (fun z => q ((jI_lt y x).mpr z)) H locs ls hP hD hS hL)
theorem jw_icmp_le {x y : Int} {off : Int} {t : Nat} (hX : jOK X) (ht : (pc : Int) + off = (t : Int)) (hd : decode (jcc X) pc = .ok (.if_icmp .le off, 3)) (kt : (¬ jw y < jw x) → jWj X Q t loc r σ) (kf : ¬ (¬ jw y < jw x) → jWj X Q (pc + 3) loc r σ) : jWj X Q pc loc (jmi y :: jmi x :: r) σ := by
  obtain ⟨p, l, e, R, s, m, args, below, meth, c, cc, nL, own, D, cy, A, ad, sh, kd, ca, sl⟩ := X
  obtain ⟨hx, hb, hml, hown, hts, hlk, hK, hA, hBG, hr, hca, hsl⟩ := hX
  intro H locs ls hP hD hS hL
  exact lv_icmp_le hx hb hd ht (fun q => kt (((by rw [← Int32.not_lt, jI_lt] : jI x ≤ jI y ↔ ¬ jw y < jw x)).mp q) H locs ls hP hD hS hL) (fun q => kf (fun z => q (((by rw [← Int32.not_lt, jI_lt] : jI x ≤ jI y ↔ ¬ jw y < jw x)).mpr z)) H locs ls hP hD hS hL)
theorem jw_goto {x : Nat} {off : Int} {t : Nat} (hX : jOK X) (ht : (pc : Int) + off = (t : Int)) (hd : decode (jcc X) pc = .ok (.goto off, 3)) (hk : jWj X Q t loc r σ) : jWj X Q pc loc (r) σ := by
  obtain ⟨p, l, e, R, s, m, args, below, meth, c, cc, nL, own, D, cy, A, ad, sh, kd, ca, sl⟩ := X
  obtain ⟨hx, hb, hml, hown, hts, hlk, hK, hA, hBG, hr, hca, hsl⟩ := hX
  intro H locs ls hP hD hS hL
  exact lv_goto hx hb hd ht (hk H locs ls hP hD hS hL)
theorem jw_ifnull {x : Nat} {off : Int} {t : Nat} (hX : jOK X) (hd : decode (jcc X) pc = .ok (.ifnull off, 3)) (hk : jWj X Q (pc + 3) loc r σ) : jWj X Q pc loc (jmr x :: r) σ := by
  obtain ⟨p, l, e, R, s, m, args, below, meth, c, cc, nL, own, D, cy, A, ad, sh, kd, ca, sl⟩ := X
  obtain ⟨hx, hb, hml, hown, hts, hlk, hK, hA, hBG, hr, hca, hsl⟩ := hX
  intro H locs ls hP hD hS hL
  exact lv_ifnull hx hb hd (hk H locs ls hP hD hS hL)
theorem jw_ifnullN {x : Nat} {off : Int} {t : Nat} (hX : jOK X) (ht : (pc : Int) + off = (t : Int)) (hd : decode (jcc X) pc = .ok (.ifnull off, 3)) (hk : jWj X Q t loc r σ) : jWj X Q pc loc (jmn :: r) σ := by
  obtain ⟨p, l, e, R, s, m, args, below, meth, c, cc, nL, own, D, cy, A, ad, sh, kd, ca, sl⟩ := X
  obtain ⟨hx, hb, hml, hown, hts, hlk, hK, hA, hBG, hr, hca, hsl⟩ := hX
  intro H locs ls hP hD hS hL
  exact lv_ifnullN hx hb hd ht (hk H locs ls hP hD hS hL)
theorem jw_ifnonnull {x : Nat} {off : Int} {t : Nat} (hX : jOK X) (ht : (pc : Int) + off = (t : Int)) (hd : decode (jcc X) pc = .ok (.ifnonnull off, 3)) (hk : jWj X Q t loc r σ) : jWj X Q pc loc (jmr x :: r) σ := by
  obtain ⟨p, l, e, R, s, m, args, below, meth, c, cc, nL, own, D, cy, A, ad, sh, kd, ca, sl⟩ := X
  obtain ⟨hx, hb, hml, hown, hts, hlk, hK, hA, hBG, hr, hca, hsl⟩ := hX
  intro H locs ls hP hD hS hL
  exact lv_ifnonnull hx hb hd ht (hk H locs ls hP hD hS hL)
theorem jw_ifnonnullN {x : Nat} {off : Int} {t : Nat} (hX : jOK X) (hd : decode (jcc X) pc = .ok (.ifnonnull off, 3)) (hk : jWj X Q (pc + 3) loc r σ) : jWj X Q pc loc (jmn :: r) σ := by
  obtain ⟨p, l, e, R, s, m, args, below, meth, c, cc, nL, own, D, cy, A, ad, sh, kd, ca, sl⟩ := X
  obtain ⟨hx, hb, hml, hown, hts, hlk, hK, hA, hBG, hr, hca, hsl⟩ := hX
  intro H locs ls hP hD hS hL
  exact lv_ifnonnullN hx hb hd (hk H locs ls hP hD hS hL)
theorem jw_iaload {x : Int} {id n : Nat} (hX : jOK X) (hs : (jsh X)[id]? = some (.inr (.inl (0, n)))) (hn : n < 2 ^ 31) (hi : 0 ≤ x ∧ x < (n : Int)) (hd : decode (jcc X) pc = .ok (.iaload, 1)) (hk : jWj X Q (pc + 1) loc (jmi (σ id x) :: r) σ) : jWj X Q pc loc (jmi x :: jmr id :: r) σ := by
  obtain ⟨p, l, e, R, s, m, args, below, meth, c, cc, nL, own, D, cy, A, ad, sh, kd, ca, sl⟩ := X
  obtain ⟨hx, hb, hml, hown, hts, hlk, hK, hA, hBG, hr, hca, hsl⟩ := hX
  intro H locs ls hP hD hS hL
  have k := hk H locs ls hP hD hS hL
  obtain ⟨h1, h2⟩ := j_in hn hi
  refine va_iald hx hb hK hP id 0 (jW_get hs) rfl h1 hd ?_
  rw [h2, Int.toNat_of_nonneg hi.1]
  exact k
theorem jw_baload {x : Int} {id n : Nat} (hX : jOK X) (hs : (jsh X)[id]? = some (.inr (.inl (1, n)))) (hn : n < 2 ^ 31) (hi : 0 ≤ x ∧ x < (n : Int)) (hd : decode (jcc X) pc = .ok (.baload, 1)) (hk : jWj X Q (pc + 1) loc (jmi (σ id x) :: r) σ) : jWj X Q pc loc (jmi x :: jmr id :: r) σ := by
  obtain ⟨p, l, e, R, s, m, args, below, meth, c, cc, nL, own, D, cy, A, ad, sh, kd, ca, sl⟩ := X
  obtain ⟨hx, hb, hml, hown, hts, hlk, hK, hA, hBG, hr, hca, hsl⟩ := hX
  intro H locs ls hP hD hS hL
  have k := hk H locs ls hP hD hS hL
  obtain ⟨h1, h2⟩ := j_in hn hi
  refine va_bald hx hb hK hP id 1 (jW_get hs) rfl h1 hd ?_
  rw [h2, Int.toNat_of_nonneg hi.1]
  exact k
theorem jw_zaload {x : Int} {id n : Nat} (hX : jOK X) (hs : (jsh X)[id]? = some (.inr (.inl (2, n)))) (hn : n < 2 ^ 31) (hi : 0 ≤ x ∧ x < (n : Int)) (hd : decode (jcc X) pc = .ok (.baload, 1)) (hk : jWj X Q (pc + 1) loc (jmi (σ id x) :: r) σ) : jWj X Q pc loc (jmi x :: jmr id :: r) σ := by
  obtain ⟨p, l, e, R, s, m, args, below, meth, c, cc, nL, own, D, cy, A, ad, sh, kd, ca, sl⟩ := X
  obtain ⟨hx, hb, hml, hown, hts, hlk, hK, hA, hBG, hr, hca, hsl⟩ := hX
  intro H locs ls hP hD hS hL
  have k := hk H locs ls hP hD hS hL
  obtain ⟨h1, h2⟩ := j_in hn hi
  refine va_zald hx hb hK hP id 2 (jW_get hs) rfl h1 hd ?_
  rw [h2, Int.toNat_of_nonneg hi.1]
  exact k
theorem jw_laload {x : Int} {id n : Nat} (hX : jOK X) (hs : (jsh X)[id]? = some (.inr (.inl (3, n)))) (hn : n < 2 ^ 31) (hi : 0 ≤ x ∧ x < (n : Int)) (hd : decode (jcc X) pc = .ok (.laload, 1)) (hk : jWj X Q (pc + 1) loc (jml (σ id x) :: r) σ) : jWj X Q pc loc (jmi x :: jmr id :: r) σ := by
  obtain ⟨p, l, e, R, s, m, args, below, meth, c, cc, nL, own, D, cy, A, ad, sh, kd, ca, sl⟩ := X
  obtain ⟨hx, hb, hml, hown, hts, hlk, hK, hA, hBG, hr, hca, hsl⟩ := hX
  intro H locs ls hP hD hS hL
  have k := hk H locs ls hP hD hS hL
  obtain ⟨h1, h2⟩ := j_in hn hi
  refine va_lald hx hb hK hP id 3 (jW_get hs) rfl h1 hd ?_
  rw [h2, Int.toNat_of_nonneg hi.1]
  exact k
theorem jw_iastore {x v : Int} {id n : Nat} (hX : jOK X) (hs : (jsh X)[id]? = some (.inr (.inl (0, n)))) (hn : n < 2 ^ 31) (hi : 0 ≤ x ∧ x < (n : Int)) (hd : decode (jcc X) pc = .ok (.iastore, 1)) (hk : jWj X Q (pc + 1) loc r (jup σ id x (v))) : jWj X Q pc loc (jmi v :: jmi x :: jmr id :: r) σ := by
  obtain ⟨p, l, e, R, s, m, args, below, meth, c, cc, nL, own, D, cy, A, ad, sh, kd, ca, sl⟩ := X
  obtain ⟨hx, hb, hml, hown, hts, hlk, hK, hA, hBG, hr, hca, hsl⟩ := hX
  intro H locs ls hP hD hS hL
  obtain ⟨h1, h2⟩ := j_in hn hi
  refine va_iast hx hb hK hP hD hS id 0 (jW_get hs) rfl h1 hd (fun H1 locs1 hP1 hD1 hS1 => ?_)
  have he : upd (fun j : Nat => jI (σ id (j : Int))) (jI x).toNatClampNeg (jI v) = fun j : Nat => jI (jup σ id x (v) id (j : Int)) := by
    funext j
    have hx0 := Int.toNat_of_nonneg hi.1
    simp only [upd, h2, jup, true_and]
    by_cases hj : j = x.toNat
    · have hz : (j : Int) = x := by omega
      simp [hj, hx0]
    · have hz : ¬ (j : Int) = x := by omega
      simp [hj, hz]
  have e := jW_set (ad := ad) (cy := cy) (sh := sh) (σ := σ) (k := x) (v := v) (e := .inl (cy 0, n, .inl (upd (fun j : Nat => jI (σ id (j : Int))) (jI x).toNatClampNeg (jI v)))) hs (by rw [he]; rfl)
  exact hk H1 locs1 ls (e ▸ hP1) (e ▸ hD1) hS1 hL
theorem jw_bastore {x v : Int} {id n : Nat} (hX : jOK X) (hs : (jsh X)[id]? = some (.inr (.inl (1, n)))) (hn : n < 2 ^ 31) (hi : 0 ≤ x ∧ x < (n : Int)) (hd : decode (jcc X) pc = .ok (.bastore, 1)) (hk : jWj X Q (pc + 1) loc r (jup σ id x (jw8 v))) : jWj X Q pc loc (jmi v :: jmi x :: jmr id :: r) σ := by
  obtain ⟨p, l, e, R, s, m, args, below, meth, c, cc, nL, own, D, cy, A, ad, sh, kd, ca, sl⟩ := X
  obtain ⟨hx, hb, hml, hown, hts, hlk, hK, hA, hBG, hr, hca, hsl⟩ := hX
  intro H locs ls hP hD hS hL
  obtain ⟨h1, h2⟩ := j_in hn hi
  refine va_bast hx hb hK hP hD hS id 1 (jW_get hs) rfl h1 hd (fun H1 locs1 hP1 hD1 hS1 => ?_)
  have he : upd (fun j : Nat => jI (σ id (j : Int))) (jI x).toNatClampNeg (vp_nar .byte (jI v)) = fun j : Nat => jI (jup σ id x (jw8 v) id (j : Int)) := by
    funext j
    have hx0 := Int.toNat_of_nonneg hi.1
    simp only [upd, h2, jup, vp_nar_byte, jI_b, true_and]
    by_cases hj : j = x.toNat
    · have hz : (j : Int) = x := by omega
      simp [hj, hx0, jI_b]
    · have hz : ¬ (j : Int) = x := by omega
      simp [hj, hz]
  have e := jW_set (ad := ad) (cy := cy) (sh := sh) (σ := σ) (k := x) (v := jw8 v) (e := .inl (cy 1, n, .inl (upd (fun j : Nat => jI (σ id (j : Int))) (jI x).toNatClampNeg (vp_nar .byte (jI v))))) hs (by rw [he]; rfl)
  exact hk H1 locs1 ls (e ▸ hP1) (e ▸ hD1) hS1 hL
theorem jw_zastore {x v : Int} {id n : Nat} (hX : jOK X) (hs : (jsh X)[id]? = some (.inr (.inl (2, n)))) (hn : n < 2 ^ 31) (hi : 0 ≤ x ∧ x < (n : Int)) (hd : decode (jcc X) pc = .ok (.bastore, 1)) (hk : jWj X Q (pc + 1) loc r (jup σ id x (v % 2))) : jWj X Q pc loc (jmi v :: jmi x :: jmr id :: r) σ := by
  obtain ⟨p, l, e, R, s, m, args, below, meth, c, cc, nL, own, D, cy, A, ad, sh, kd, ca, sl⟩ := X
  obtain ⟨hx, hb, hml, hown, hts, hlk, hK, hA, hBG, hr, hca, hsl⟩ := hX
  intro H locs ls hP hD hS hL
  obtain ⟨h1, h2⟩ := j_in hn hi
  refine va_zast hx hb hK hP hD hS id 2 (jW_get hs) rfl h1 hd (fun H1 locs1 hP1 hD1 hS1 => ?_)
  have he : upd (fun j : Nat => jI (σ id (j : Int))) (jI x).toNatClampNeg (vp_nar .boolean (jI v)) = fun j : Nat => jI (jup σ id x (v % 2) id (j : Int)) := by
    funext j
    have hx0 := Int.toNat_of_nonneg hi.1
    simp only [upd, h2, jup, jnar_z, true_and]
    by_cases hj : j = x.toNat
    · have hz : (j : Int) = x := by omega
      simp [hj, hx0]
    · have hz : ¬ (j : Int) = x := by omega
      simp [hj, hz]
  have e := jW_set (ad := ad) (cy := cy) (sh := sh) (σ := σ) (k := x) (v := v % 2) (e := .inl (cy 2, n, .inl (upd (fun j : Nat => jI (σ id (j : Int))) (jI x).toNatClampNeg (vp_nar .boolean (jI v))))) hs (by rw [he]; rfl)
  exact hk H1 locs1 ls (e ▸ hP1) (e ▸ hD1) hS1 hL
theorem jw_lastore {x v : Int} {id n : Nat} (hX : jOK X) (hs : (jsh X)[id]? = some (.inr (.inl (3, n)))) (hn : n < 2 ^ 31) (hi : 0 ≤ x ∧ x < (n : Int)) (hd : decode (jcc X) pc = .ok (.lastore, 1)) (hk : jWj X Q (pc + 1) loc r (jup σ id x (v))) : jWj X Q pc loc (jml v :: jmi x :: jmr id :: r) σ := by
  obtain ⟨p, l, e, R, s, m, args, below, meth, c, cc, nL, own, D, cy, A, ad, sh, kd, ca, sl⟩ := X
  obtain ⟨hx, hb, hml, hown, hts, hlk, hK, hA, hBG, hr, hca, hsl⟩ := hX
  intro H locs ls hP hD hS hL
  obtain ⟨h1, h2⟩ := j_in hn hi
  refine va_last hx hb hK hP hD hS id 3 (jW_get hs) rfl h1 hd (fun H1 locs1 hP1 hD1 hS1 => ?_)
  have he : vp_updL (fun j : Nat => jL (σ id (j : Int))) (jI x).toNatClampNeg (jL v) = fun j : Nat => jL (jup σ id x (v) id (j : Int)) := by
    funext j
    have hx0 := Int.toNat_of_nonneg hi.1
    simp only [vp_updL, h2, jup, true_and]
    by_cases hj : j = x.toNat
    · have hz : (j : Int) = x := by omega
      simp [hj, hx0]
    · have hz : ¬ (j : Int) = x := by omega
      simp [hj, hz]
  have e := jW_set (ad := ad) (cy := cy) (sh := sh) (σ := σ) (k := x) (v := v) (e := .inl (cy 3, n, .inr (.inl (vp_updL (fun j : Nat => jL (σ id (j : Int))) (jI x).toNatClampNeg (jL v))))) hs (by rw [he]; rfl)
  exact hk H1 locs1 ls (e ▸ hP1) (e ▸ hD1) hS1 hL
end JS
