/-! The heap grows: new objects, new rows, references put into fields. -/
def jgX (X : jxX) (ad' : Nat → Nat) (sh' : List jxC) (ca' sl' : Nat) : jxX := match X with
  | (p, l, e, R, s, m, args, below, meth, c, cc, nL, own, D, cy, A, _, _, kd, _, _) => (p, l, e, R, s, m, args, below, meth, c, cc, nL, own, D, cy, A, ad', sh', kd, ca', sl')
def jgA (X : jxX) : Nat → Nat := match X with
  | (_, _, _, _, _, _, _, _, _, _, _, _, _, _, _, _, ad, _) => ad
def jgN (X : jxX) : Nat × Nat := match X with
  | (_, _, _, _, _, _, _, _, _, _, _, _, _, _, _, _, _, _, _, ca, sl) => (ca, sl)
/-- rows of quotients may be made -/
def jgI (X : jxX) : Prop := match X with
  | (_, _, _, _, s, _) => va_AO "LastLoses$Quotient" s
/-- it is a constructor -/
def jgIn (X : jxX) : Prop := match X with
  | (_, _, _, _, _, _, _, _, meth, _) => meth.name = "<init>"
/-- the same method, further on: more cells -/
def jgE (X X' : jxX) (sh' : List jxC) (ca' sl' : Nat) : Prop := ∃ ad', (∀ i, i < (jsh X).length ∨ 1000 ≤ i → ad' i = jgA X i) ∧ X' = jgX X ad' sh' ca' sl' ∧ ca' ≤ (jroom X).cells ∧ sl' ≤ (jroom X).slots ∧ (jsh X).length ≤ sh'.length
theorem jBG_ad {ad ad' : Nat → Nat} {A : Nat → Prop} {U : State} (h : ∀ i, 1000 ≤ i → ad' i = ad i) (hB : jBG ad A U) : jBG ad' A U := by
  have e0 := h 1000 (by omega)
  have e1 := h 1001 (by omega)
  have e2 : ∀ i, ad' (1002 + i) = ad (1002 + i) := fun i => h _ (by omega)
  have e3 : ∀ i, ad' (1006 + i) = ad (1006 + i) := fun i => h _ (by omega)
  have e4 := h 1010 (by omega)
  unfold jBG at hB ⊢
  simp only [e0, e1, e2, e3, e4]
  exact hB
section GR
variable {X X' X'' : jxX} {Q : State → Prop} {pc : Nat} {loc : jxL} {r st : List jxV} {σ : jxS} {sh sh' sh'' : List jxC} {ca sl ca' sl' ca'' sl'' : Nat}
theorem jgE.ok (h : jgE X X' sh' ca' sl') (hX : jOK X) : jOK X' := by
  obtain ⟨ad', h1, rfl, h2, h3, h4⟩ := h
  obtain ⟨p, l, e, R, s, m, args, below, meth, c, cc, nL, own, D, cy, A, ad, sh, kd, ca, sl⟩ := X
  obtain ⟨hx, hb, hml, hown, hts, hlk, hK, hA, hBG, hr, hca, hsl⟩ := hX
  exact ⟨hx, hb, hml, hown, hts, hlk, hK, hA, jBG_ad (fun i hi => h1 i (Or.inr hi)) hBG, hr, h2, h3⟩
theorem jgE.shp (h : jgE X X' sh' ca' sl') : jsh X' = sh' := by obtain ⟨ad', h1, rfl, h2, h3, h4⟩ := h; rfl
theorem jgE.n (h : jgE X X' sh' ca' sl') : jgN X' = (ca', sl') := by obtain ⟨ad', h1, rfl, h2, h3, h4⟩ := h; rfl
theorem jgE.cc (h : jgE X X' sh' ca' sl') : jcc X' = jcc X := by obtain ⟨ad', h1, rfl, h2, h3, h4⟩ := h; rfl
theorem jgE.own (h : jgE X X' sh' ca' sl') : jown X' = jown X := by obtain ⟨ad', h1, rfl, h2, h3, h4⟩ := h; rfl
theorem jgE.room (h : jgE X X' sh' ca' sl') : jroom X' = jroom X := by obtain ⟨ad', h1, rfl, h2, h3, h4⟩ := h; rfl
theorem jgE.kd (h : jgE X X' sh' ca' sl') : jkd X' = jkd X := by obtain ⟨ad', h1, rfl, h2, h3, h4⟩ := h; rfl
theorem jgE.I (h : jgE X X' sh' ca' sl') (hI : jgI X) : jgI X' := by obtain ⟨ad', h1, rfl, h2, h3, h4⟩ := h; exact hI
theorem jgE.In (h : jgE X X' sh' ca' sl') (hI : jgIn X) : jgIn X' := by obtain ⟨ad', h1, rfl, h2, h3, h4⟩ := h; exact hI
theorem jgE.refl (hX : jOK X) (h1 : jsh X = sh) (h2 : jgN X = (ca, sl)) : jgE X X sh ca sl := by
  obtain ⟨p, l, e, R, s, m, args, below, meth, c, cc, nL, own, D, cy, A, ad, sh0, kd, ca0, sl0⟩ := X
  obtain ⟨hx, hb, hml, hown, hts, hlk, hK, hA, hBG, hr, hca, hsl⟩ := hX
  have h1 : sh0 = sh := h1
  have h2 : (ca0, sl0) = (ca, sl) := h2
  subst h1
  cases h2
  exact ⟨ad, fun i _ => rfl, rfl, hca, hsl, Nat.le_refl _⟩
theorem jgX_X {ad1 ad2 : Nat → Nat} : jgX (jgX X ad1 sh' ca' sl') ad2 sh'' ca'' sl'' = jgX X ad2 sh'' ca'' sl'' := by
  obtain ⟨p, l, e, R, s, m, args, below, meth, c, cc, nL, own, D, cy, A, ad, sh0, kd, ca0, sl0⟩ := X
  simp only [jgX]
theorem jgX_sh {ad1 : Nat → Nat} : jsh (jgX X ad1 sh' ca' sl') = sh' := by
  obtain ⟨p, l, e, R, s, m, args, below, meth, c, cc, nL, own, D, cy, A, ad, sh0, kd, ca0, sl0⟩ := X
  simp only [jgX, jsh]
theorem jgX_A {ad1 : Nat → Nat} : jgA (jgX X ad1 sh' ca' sl') = ad1 := by
  obtain ⟨p, l, e, R, s, m, args, below, meth, c, cc, nL, own, D, cy, A, ad, sh0, kd, ca0, sl0⟩ := X
  simp only [jgX, jgA]
theorem jgX_R {ad1 : Nat → Nat} : jroom (jgX X ad1 sh' ca' sl') = jroom X := by
  obtain ⟨p, l, e, R, s, m, args, below, meth, c, cc, nL, own, D, cy, A, ad, sh0, kd, ca0, sl0⟩ := X
  simp only [jgX, jroom]
theorem jgE.trans (h : jgE X X' sh' ca' sl') (h' : jgE X' X'' sh'' ca'' sl'') : jgE X X'' sh'' ca'' sl'' := by
  obtain ⟨ad', h1, h2, h3, h4, h5⟩ := h
  obtain ⟨ad'', g1, g2, g3, g4, g5⟩ := h'
  rw [h2, jgX_sh, jgX_A] at g1
  rw [h2, jgX_X] at g2
  rw [h2, jgX_R] at g3 g4
  rw [h2, jgX_sh] at g5
  exact ⟨ad'', fun i hi => (g1 i (hi.imp (fun q => Nat.lt_of_lt_of_le q h5) id)).trans (h1 i hi), g2, g3, g4, Nat.le_trans h5 g5⟩
/-- references that lie below n (or stand outside) -/
def jgb (n : Nat) (v : jxV) : Bool := match v with
  | .inr (.inr (.inl k)) => Nat.ble (k + 1) n || Nat.ble 1000 k
  | _ => true
def jgbl (n : Nat) (l : jxL) : Bool := match l with
  | [] => true
  | none :: t => jgbl n t
  | some v :: t => jgb n v && jgbl n t
def jgbs (n : Nat) (l : List jxV) : Bool := match l with
  | [] => true
  | v :: t => jgb n v && jgbs n t
def jgof (n : Nat) (f : jxF) : Bool := match f with
  | .inr (some k) => Nat.ble (k + 1) n
  | _ => true
def jgofs (n : Nat) (l : List jxF) : Bool := match l with
  | [] => true
  | v :: t => jgof n v && jgofs n t
def jgoc (n : Nat) (c : jxC) (f : Int → Int) : Prop := match c with
  | .inl (_, fks) => jgofs n fks = true
  | .inr (.inl (4, _)) => ∀ j, (f j).toNat < n
  | _ => True
/-- a state between two makings: references lie below, what isn't made is 0 -/
def jgJ (sh : List jxC) (σ : jxS) : Prop := (∀ i c, sh[i]? = some c → jgoc sh.length c (σ i)) ∧ ∀ a, sh.length ≤ a → ∀ j, σ a j = 0
theorem jgb_eq {n : Nat} {v : jxV} {ad ad' : Nat → Nat} (h : jgb n v = true) (he : ∀ i, i < n ∨ 1000 ≤ i → ad' i = ad i) : jtoV ad' v = jtoV ad v := by
  match v, h with
  | .inl x, _ => rfl
  | .inr (.inl x), _ => rfl
  | .inr (.inr (.inr x)), _ => rfl
  | .inr (.inr (.inl k)), h =>
    simp only [jgb, Bool.or_eq_true, Nat.ble_eq] at h
    show Value.ref (ad' k) = .ref (ad k)
    rw [he k (by omega)]
theorem jgbs_eq {n : Nat} {ad ad' : Nat → Nat} (he : ∀ i, i < n ∨ 1000 ≤ i → ad' i = ad i) : ∀ {l : List jxV}, jgbs n l = true → l.map (jtoV ad') = l.map (jtoV ad)
  | [], _ => rfl
  | v :: t, h => by
    simp only [jgbs, Bool.and_eq_true] at h
    rw [List.map_cons, List.map_cons, jgb_eq h.1 he, jgbs_eq he h.2]
theorem jgbl_get {n : Nat} : ∀ {l : jxL} {i : Nat} {v : jxV}, jgbl n l = true → jget l i = some v → jgb n v = true
  | [], i, v, _, h => by simp [jget] at h
  | a :: t, 0, v, hb, h => by
    simp only [jget] at h
    subst h
    simp only [jgbl, Bool.and_eq_true] at hb
    exact hb.1
  | none :: t, i + 1, v, hb, h => jgbl_get (l := t) (i := i) (by simpa [jgbl] using hb) (by simpa [jget] using h)
  | some w :: t, i + 1, v, hb, h => by
    simp only [jgbl, Bool.and_eq_true] at hb
    exact jgbl_get (l := t) (i := i) hb.2 (by simpa [jget] using h)
theorem jgbl_LH {n nL : Nat} {ls : Array Slot} {l : jxL} {ad ad' : Nat → Nat} (he : ∀ i, i < n ∨ 1000 ≤ i → ad' i = ad i) (hb : jgbl n l = true) (h : jLH ls nL ad l) : jLH ls nL ad' l :=
  ⟨h.1, h.2.1, h.2.2.1, fun i v hv => by rw [jgb_eq (jgbl_get hb hv) he]; exact h.2.2.2 i v hv⟩
theorem jgofs_at {n : Nat} : ∀ {l : List jxF} {k : Nat} {f : jxF}, jgofs n l = true → l[k]? = some f → jgof n f = true
  | [], k, f, _, h => by simp at h
  | a :: t, 0, f, hb, h => by
    simp only [List.getElem?_cons_zero, Option.some.injEq] at h
    subst h
    simp only [jgofs, Bool.and_eq_true] at hb
    exact hb.1
  | a :: t, k + 1, f, hb, h => by
    simp only [jgofs, Bool.and_eq_true] at hb
    exact jgofs_at (l := t) (k := k) hb.2 (by simpa using h)
theorem jgoc_eq {n : Nat} {c : jxC} {f : Int → Int} {ad ad' : Nat → Nat} {cy : Nat → ClassId} (he : ∀ i, i < n → ad' i = ad i) (h : jgoc n c f) : jent ad' cy c f = jent ad cy c f := by
  match c, h with
  | .inl (ci, fks), h =>
    have e : fks.mapIdx (fun k fk => jfv ad' f k fk) = fks.mapIdx (fun k fk => jfv ad f k fk) := by
      refine List.ext_getElem? fun k => ?_
      rw [List.getElem?_mapIdx, List.getElem?_mapIdx]
      cases hk : fks[k]? with
      | none => rfl
      | some fk =>
        have h1 := jgofs_at h hk
        match fk, h1 with
        | .inl 1, _ => rfl
        | .inl 0, _ => rfl
        | .inl (_ + 2), _ => rfl
        | .inr none, _ => rfl
        | .inr (some j), h1 =>
          simp only [jgof, Nat.ble_eq] at h1
          show some (Value.ref (ad' j)) = some (.ref (ad j))
          rw [he j h1]
    show (Sum.inr (ci, fks.mapIdx (fun k fk => jfv ad' f k fk)) : va_E) = .inr (ci, fks.mapIdx (fun k fk => jfv ad f k fk))
    rw [e]
  | .inr (.inl (4, m)), h =>
    have e : (fun j : Nat => jrf ad' (f (j : Int))) = fun j : Nat => jrf ad (f (j : Int)) := by
      funext j
      unfold jrf
      rw [he _ (h j)]
    show (Sum.inl (cy 4, m, .inr (.inr (.inr (.inr (fun j : Nat => jrf ad' (f (j : Int))))))) : va_E) = .inl (cy 4, m, .inr (.inr (.inr (.inr (fun j : Nat => jrf ad (f (j : Int)))))))
    rw [e]
  | .inr (.inl (0, m)), _ => rfl
  | .inr (.inl (1, m)), _ => rfl
  | .inr (.inl (2, m)), _ => rfl
  | .inr (.inl (3, m)), _ => rfl
  | .inr (.inl (_ + 5, m)), _ => rfl
  | .inr (.inr tb), _ => rfl
theorem jW_ad {ad ad' : Nat → Nat} {cy : Nat → ClassId} (he : ∀ i, i < sh.length → ad' i = ad i) (hJ : jgJ sh σ) : jW ad' cy sh σ = jW ad cy sh σ := by
  refine List.ext_getElem? fun i => ?_
  rw [jW, jW, List.getElem?_mapIdx, List.getElem?_mapIdx]
  cases hi : sh[i]? with
  | none => rfl
  | some c =>
    have h1 := (List.getElem?_eq_some_iff.mp hi).1
    show some (ad' i, jent ad' cy c (σ i)) = some (ad i, jent ad cy c (σ i))
    rw [he i h1, jgoc_eq he (hJ.1 i c hi)]
theorem jW_app {ad : Nat → Nat} {cy : Nat → ClassId} {c : jxC} : jW ad cy (sh ++ [c]) σ = jW ad cy sh σ ++ [(ad sh.length, jent ad cy c (σ sh.length))] := by
  simp [jW, List.mapIdx_append]
theorem jgoc_mono {n m : Nat} {c : jxC} {f : Int → Int} (hm : n ≤ m) (h : jgoc n c f) : jgoc m c f := by
  have hf : ∀ {l : List jxF}, jgofs n l = true → jgofs m l = true := by
    intro l
    induction l with
    | nil => intro h; rfl
    | cons a t ih =>
      intro h
      simp only [jgofs, Bool.and_eq_true] at h ⊢
      refine ⟨?_, ih h.2⟩
      match a, h.1 with
      | .inl _, _ => rfl
      | .inr none, _ => rfl
      | .inr (some k), h1 =>
        simp only [jgof, Nat.ble_eq] at h1 ⊢
        omega
  match c, h with
  | .inl (ci, fks), h => exact hf h
  | .inr (.inl (4, _)), h => exact fun j => Nat.lt_of_lt_of_le (h j) hm
  | .inr (.inl (0, m)), _ => trivial
  | .inr (.inl (1, m)), _ => trivial
  | .inr (.inl (2, m)), _ => trivial
  | .inr (.inl (3, m)), _ => trivial
  | .inr (.inl (_ + 5, m)), _ => trivial
  | .inr (.inr tb), _ => trivial
/-- fields as a new object has them -/
def jgnu (l : List jxF) : Bool := match l with
  | [] => true
  | .inr (some _) :: _ => false
  | _ :: t => jgnu t
theorem jgnu_fs {n : Nat} : ∀ {l : List jxF}, jgnu l = true → jgofs n l = true
  | [], _ => rfl
  | .inl _ :: t, h => by simp only [jgofs, jgof, Bool.true_and]; exact jgnu_fs (l := t) (by simpa [jgnu] using h)
  | .inr none :: t, h => by simp only [jgofs, jgof, Bool.true_and]; exact jgnu_fs (l := t) (by simpa [jgnu] using h)
def jgdv (f : jxF) : Value := match f with
  | .inl 1 => .long 0
  | .inl _ => .int 0
  | .inr _ => .null
theorem jgnu_at : ∀ {l : List jxF} {k : Nat} {f : jxF}, jgnu l = true → l[k]? = some f → f ≠ .inr none → ∃ a, f = .inl a
  | [], k, f, _, h, _ => by simp at h
  | .inl a :: t, 0, f, hb, h, _ => by
    simp only [List.getElem?_cons_zero, Option.some.injEq] at h
    exact ⟨a, h.symm⟩
  | .inr none :: t, 0, f, hb, h, hn => by
    simp only [List.getElem?_cons_zero, Option.some.injEq] at h
    exact absurd h.symm hn
  | .inr (some a) :: t, 0, f, hb, h, hn => by simp [jgnu] at hb
  | .inl a :: t, k + 1, f, hb, h, hn => jgnu_at (l := t) (k := k) (by simpa [jgnu] using hb) (by simpa using h) hn
  | .inr none :: t, k + 1, f, hb, h, hn => jgnu_at (l := t) (k := k) (by simpa [jgnu] using hb) (by simpa using h) hn
  | .inr (some a) :: t, k + 1, f, hb, h, hn => by simp [jgnu] at hb
theorem jgnu_v {ad : Nat → Nat} {f : Int → Int} {l : List jxF} (hf : ∀ j, f j = 0) (h : jgnu l = true) : l.mapIdx (fun k fk => jfv ad f k fk) = l.map jgdv := by
  refine List.ext_getElem? fun k => ?_
  rw [List.getElem?_mapIdx, List.getElem?_map]
  cases hk : l[k]? with
  | none => rfl
  | some fk =>
    by_cases hn : fk = .inr none
    · subst hn
      rfl
    · obtain ⟨a, rfl⟩ := jgnu_at h hk hn
      match a with
      | 0 => show some (Value.int (jI (f k))) = _; rw [hf]; rfl
      | 1 => show some (Value.long (jL (f k))) = _; rw [hf]; rfl
      | _ + 2 => show some (Value.int (jI (f k))) = _; rw [hf]; rfl
theorem jgJ_app {c : jxC} (hJ : jgJ sh σ) (hc : ∀ n, (∀ j, σ sh.length j = 0) → 0 < n → jgoc n c (σ sh.length)) : jgJ (sh ++ [c]) σ := by
  refine ⟨fun i c' hi => ?_, fun a ha j => hJ.2 a (by simp only [List.length_append, List.length_cons, List.length_nil] at ha; omega) j⟩
  rw [List.length_append]
  by_cases h1 : i < sh.length
  · rw [List.getElem?_append_left h1] at hi
    exact jgoc_mono (Nat.le_add_right _ _) (hJ.1 i c' hi)
  · rw [List.getElem?_append_right (by omega)] at hi
    have h2 : i - sh.length = 0 := by
      have := (List.getElem?_eq_some_iff.mp hi).1
      simp only [List.length_cons, List.length_nil] at this
      omega
    rw [h2] at hi
    simp only [List.getElem?_cons_zero, Option.some.injEq] at hi
    subst hi
    have h3 : i = sh.length := by omega
    subst h3
    exact hc _ (hJ.2 _ (Nat.le_refl _)) (by simp)
end GR
