/-! What a method's tables are made of; calls as sites. -/
def jmax (x y : Int) : Int := if jw x < jw y then y else x
def jmin (x y : Int) : Int := if jw y < jw x then y else x
/-- the first n of a row, laid over another one's first n -/
def jcopy (σ : jxS) (a b : Nat) (n : Int) : jxS := fun c j => if c = b ∧ 0 ≤ j ∧ j < n then σ a j else σ c j
def jstl (w : Nat) : Int := ((jslen.getD (w - 1002) 0 : Nat) : Int)
def jsta (w : Nat) (x : Int) : Int := ((jsbyt.getD (w - 1002) []).getD x.toNat 0).toInt
def jlf (l : List (Nat × Nat × Nat)) (idx : Nat) : Option (Nat × Nat) := match l with
  | [] => none
  | q :: t => bif Nat.beq q.1 idx then some q.2 else jlf t idx
def jlc (l : List (Nat × jxV)) (idx : Nat) : Option jxV := match l with
  | [] => none
  | q :: t => bif Nat.beq q.1 idx then some q.2 else jlc t idx
def jls (l : List (Nat × Nat)) (idx : Nat) : Option Nat := match l with
  | [] => none
  | q :: t => bif Nat.beq q.1 idx then some q.2 else jls t idx
def jkf (l : List (Nat × jxC)) (id : Nat) : Option jxC := match l with
  | [] => none
  | q :: t => bif Nat.beq q.1 id then some q.2 else jkf t id
abbrev jxA : Type := List jxV → jxS → (Option jxV → jxS → Option jxR) → Option jxR
abbrev jxP : Type := Nat × (Nat × Bool) × jxA
def jnf (l : List jxP) (idx : Nat) : Option (Nat × Bool) := match l with
  | [] => none
  | q :: t => bif Nat.beq q.1 idx then some q.2.1 else jnf t idx
def jcf (l : List jxP) (idx : Nat) (as : List jxV) (σ : jxS) (k : Option jxV → jxS → Option jxR) : Option jxR := match l with
  | [] => none
  | q :: t => bif Nat.beq q.1 idx then q.2.2 as σ k else jcf t idx as σ k
def jmk (fl : List (Nat × Nat × Nat)) (lc : List (Nat × jxV)) (ls : List (Nat × Nat)) (si : List jxP) (kd : Nat) (ce : List (Nat × jxC)) : jxE := (jlf fl, jnf si, jcf si, jlc lc, jls ls, kd, jkf ce)
/-- these cells stand in the world so -/
def jHas (sh : List jxC) (ce : List (Nat × jxC)) : Prop := ∀ q ∈ ce, match q.2 with
  | .inr (.inr tb) => jTt q.1 tb
  | .inr (.inl (_, n)) => sh[q.1]? = some q.2 ∧ n < 2 ^ 31
  | .inl (ci, fks) => sh[q.1]? = some q.2 ∧ ∀ (f kd : Nat), kd ≤ 2 → fks[f]? = some (.inl kd) → jPf ci f kd
def jSite (own : String) (fr lo : Nat) (sh : List jxC) (q : jxP) : Prop := ∀ X : jxX, jOK X → jown X = own → ((jroom X).frames = fr ∧ (jroom X).locals = lo) → jsh X = sh → ∀ as σ k x σ', q.2.2 as σ k = some (x, σ') → ∃ v σ1, k v σ1 = some (x, σ') ∧ jCall X (bif q.2.1.2 then .invokestatic q.1 else .invokevirtual q.1) as v σ σ1
def jLc (own : String) (q : Nat × jxV) : Prop := match q.2 with
  | .inl x => Cond.constant own q.1 (jI x) ∈ jTB
  | .inr (.inl x) => Cond.constantLong own q.1 (jL x) ∈ jTB
  | .inr (.inr (.inl id)) => own = jsown ∧ ∃ i, i < 4 ∧ q.1 = jsidx i ∧ id = 1002 + i
  | .inr (.inr (.inr _)) => False
def jLs (own : String) (q : Nat × Nat) : Prop := (q.2 = 1000 ∧ Cond.fieldLink own q.1 "LastLoses$Values" "BESIDE_MOVES" "[I" ∈ jTB) ∨ (q.2 = 1001 ∧ Cond.fieldLink own q.1 "LastLoses$Values" "BESIDE_OF_GENUS" "[I" ∈ jTB)
theorem jlf_in {l : List (Nat × Nat × Nat)} {idx : Nat} {q : Nat × Nat} (h : jlf l idx = some q) : (idx, q) ∈ l := by
  induction l with
  | nil => simp [jlf] at h
  | cons a t ih =>
    simp only [jlf] at h
    cases hb : Nat.beq a.1 idx with
    | true => rw [hb] at h; simp only [cond_true, Option.some.injEq] at h; have e := jbeq hb; subst e; subst h; exact List.mem_cons_self
    | false => rw [hb] at h; exact List.mem_cons_of_mem _ (ih (by simpa using h))
theorem jlc_in {l : List (Nat × jxV)} {idx : Nat} {q : jxV} (h : jlc l idx = some q) : (idx, q) ∈ l := by
  induction l with
  | nil => simp [jlc] at h
  | cons a t ih =>
    simp only [jlc] at h
    cases hb : Nat.beq a.1 idx with
    | true => rw [hb] at h; simp only [cond_true, Option.some.injEq] at h; have e := jbeq hb; subst e; subst h; exact List.mem_cons_self
    | false => rw [hb] at h; exact List.mem_cons_of_mem _ (ih (by simpa using h))
theorem jls_in {l : List (Nat × Nat)} {idx : Nat} {q : Nat} (h : jls l idx = some q) : (idx, q) ∈ l := by
  induction l with
  | nil => simp [jls] at h
  | cons a t ih =>
    simp only [jls] at h
    cases hb : Nat.beq a.1 idx with
    | true => rw [hb] at h; simp only [cond_true, Option.some.injEq] at h; have e := jbeq hb; subst e; subst h; exact List.mem_cons_self
    | false => rw [hb] at h; exact List.mem_cons_of_mem _ (ih (by simpa using h))
theorem jkf_in {l : List (Nat × jxC)} {idx : Nat} {q : jxC} (h : jkf l idx = some q) : (idx, q) ∈ l := by
  induction l with
  | nil => simp [jkf] at h
  | cons a t ih =>
    simp only [jkf] at h
    cases hb : Nat.beq a.1 idx with
    | true => rw [hb] at h; simp only [cond_true, Option.some.injEq] at h; have e := jbeq hb; subst e; subst h; exact List.mem_cons_self
    | false => rw [hb] at h; exact List.mem_cons_of_mem _ (ih (by simpa using h))
theorem jcf_in {l : List jxP} {idx : Nat} {nb : Nat × Bool} {as : List jxV} {σ : jxS} {k : Option jxV → jxS → Option jxR} {z : jxR} (h1 : jnf l idx = some nb) (h2 : jcf l idx as σ k = some z) : ∃ q ∈ l, q.1 = idx ∧ q.2.1 = nb ∧ q.2.2 as σ k = some z := by
  induction l with
  | nil => simp [jnf] at h1
  | cons a t ih =>
    simp only [jnf, jcf] at h1 h2
    cases hb : Nat.beq a.1 idx with
    | true => rw [hb] at h1 h2; simp only [cond_true, Option.some.injEq] at h1 h2; exact ⟨a, List.mem_cons_self, jbeq hb, h1, h2⟩
    | false =>
      rw [hb] at h1 h2
      obtain ⟨q, hq, h3⟩ := ih (by simpa using h1) (by simpa using h2)
      exact ⟨q, List.mem_cons_of_mem _ hq, h3⟩
theorem jGd_of {X : jxX} {y : MethodName} {bytes : ByteArray} {fr lo kd : Nat} {sh : List jxC} {tb : List (Nat × Instr)} {fl : List (Nat × Nat × Nat)} {lc : List (Nat × jxV)} {ls : List (Nat × Nat)} {si : List jxP} {ce : List (Nat × jxC)} (hA : jAt X y bytes fr lo kd sh) (ht : jtok bytes tb = true)
    (hfl : ∀ q ∈ fl, jFl y.cls q.1 q.2.1 q.2.2) (hlc : ∀ q ∈ lc, jLc y.cls q) (hls : ∀ q ∈ ls, jLs y.cls q) (hsi : ∀ q ∈ si, jSite y.cls fr lo sh q) (hce : jHas sh ce) : jGd X (jmk fl lc ls si kd ce) tb := by
  obtain ⟨hX, h1, h2, h3, h4, h5⟩ := hA
  refine ⟨hX, ⟨fun pc i hi => by rw [h1]; exact (jtok_at ht hi).1, fun idx ci f h => by rw [h2]; exact hfl _ (jlf_in h), ?_, ?_, ?_, ?_, h5.symm, ?_⟩, fun pc i hi => (jtok_at ht hi).2⟩
  · intro idx n as σ k x σ' hn _ h
    obtain ⟨⟨i, nb, ca⟩, hq, q1, q2, q3⟩ := jcf_in hn h
    simp only at q1 q2
    subst q1; subst q2
    exact hsi _ hq X hX h2 h3 h4 as σ k x σ' q3
  · intro idx n as σ k x σ' hn _ h
    obtain ⟨⟨i, nb, ca⟩, hq, q1, q2, q3⟩ := jcf_in hn h
    simp only at q1 q2
    subst q1; subst q2
    exact hsi _ hq X hX h2 h3 h4 as σ k x σ' q3
  · intro idx v h
    have h6 := hlc _ (jlc_in h)
    match v, h6 with
    | .inl x, h6 => exact jLd_int hX (by rw [h2]; exact h6)
    | .inr (.inl x), h6 => exact jLd_long hX (by rw [h2]; exact h6)
    | .inr (.inr (.inl id)), h6 =>
      obtain ⟨g1, i, g2, g3, g4⟩ := h6
      simp only at g3 g4
      subst g3; subst g4
      exact jLd_text i g2 hX (by rw [h2]; exact g1)
  · intro idx id h
    rcases hls _ (jls_in h) with ⟨g1, g2⟩ | ⟨g1, g2⟩
    · simp only at g1
      subst g1
      exact jLd_st0 hX (by rw [h2]; exact g2)
    · simp only at g1
      subst g1
      exact jLd_st1 hX (by rw [h2]; exact g2)
  · intro id c h
    have h6 := hce _ (jkf_in h)
    rw [h4]
    match c, h6 with
    | .inr (.inr tb), h6 => exact h6
    | .inr (.inl (t, n)), h6 => exact h6
    | .inl (ci, fks), h6 => exact h6
/-- a method's contract, as its callers use it -/
def jAdV (ca : jxA) (y : MethodName) (bytes : ByteArray) (maxL kd fr lo n : Nat) (sh : List jxC) : Prop := ∀ as σ k x σ', ca as σ k = some (x, σ') → ∃ v σ1, k v σ1 = some (x, σ') ∧ (∃ (id : Nat) (as' : List jxV) (ci : Nat) (fks : List jxF) (T : u_T) (N : Nat), as = jmr id :: as' ∧ as'.length = n ∧ sh[id]? = some (.inl (ci, fks)) ∧ vwCl[ci]? = some (y.cls, T, N)) ∧ jMC y bytes maxL (jrt kd) fr lo sh σ as v σ1
def jAdS (ca : jxA) (y : MethodName) (bytes : ByteArray) (maxL kd fr lo n : Nat) (sh : List jxC) : Prop := ∀ as σ k x σ', ca as σ k = some (x, σ') → ∃ v σ1, k v σ1 = some (x, σ') ∧ as.length = n ∧ jMC y bytes maxL (jrt kd) fr lo sh σ as v σ1
theorem jsV {own : String} {fr lo idx a : Nat} {sh : List jxC} {ca : jxA} {y : MethodName} {bytes : ByteArray} {maxL kd fr' lo' n : Nat} (hl : jLkV own idx y bytes maxL kd n) (hr : Nat.ble (fr' + 1) fr = true ∧ Nat.ble (8 + (maxL + 11) + lo') lo = true) (h : jAdV ca y bytes maxL kd fr' lo' n sh) : jSite own fr lo sh (idx, (a, false), ca) := by
  intro X hX ho hR hs as σ k x σ' hk
  obtain ⟨v, σ1, h1, ⟨id, as', ci, fks, T, N, rfl, h3, h4, h5⟩, h6⟩ := h as σ k x σ' hk
  refine ⟨v, σ1, h1, ?_⟩
  subst ho; subst hs
  exact jCallV hX hl ⟨by rw [hR.1]; exact jble hr.1, by rw [hR.2]; exact jble hr.2⟩ h4 h5 h3 h6
theorem jsS {own : String} {fr lo idx a : Nat} {sh : List jxC} {ca : jxA} {y : MethodName} {bytes : ByteArray} {maxL kd fr' lo' n : Nat} (hl : jLkS own idx y bytes maxL kd n) (hr : Nat.ble (fr' + 1) fr = true ∧ Nat.ble (8 + (maxL + 11) + lo') lo = true) (h : jAdS ca y bytes maxL kd fr' lo' n sh) : jSite own fr lo sh (idx, (a, true), ca) := by
  intro X hX ho hR hs as σ k x σ' hk
  obtain ⟨v, σ1, h1, h3, h6⟩ := h as σ k x σ' hk
  refine ⟨v, σ1, h1, ?_⟩
  subst ho; subst hs
  exact jCallS hX hl ⟨by rw [hR.1]; exact jble hr.1, by rw [hR.2]; exact jble hr.2⟩ h3 h6
theorem jnil {α : Type} {P : α → Prop} : ∀ q ∈ ([] : List α), P q := fun _ h => absurd h List.not_mem_nil
theorem jcon {α : Type} {P : α → Prop} {a : α} {t : List α} (h : P a) (ht : ∀ q ∈ t, P q) : ∀ q ∈ a :: t, P q := List.forall_mem_cons.mpr ⟨h, ht⟩
theorem jRf_by {X : jxX} {f g : Option jxR} {pc : Nat} {loc : jxL} {st : List jxV} {σ : jxS} (h : jRf X g pc loc st σ) (e : f = g) : jRf X f pc loc st σ := e ▸ h
theorem jl0 {P : List Int → Prop} (h : P []) : ∀ xs : List Int, xs.length = 0 → P xs := fun xs hx => by
  match xs, hx with
  | [], _ => exact h
theorem jl1 {P : List Int → Prop} (h : ∀ x0, P [x0]) : ∀ xs : List Int, xs.length = 1 → P xs := fun xs hx => by
  match xs, hx with
  | [x0], _ => exact h x0
theorem jl2 {P : List Int → Prop} (h : ∀ x0 x1, P [x0, x1]) : ∀ xs : List Int, xs.length = 2 → P xs := fun xs hx => by
  match xs, hx with
  | [x0, x1], _ => exact h x0 x1
theorem jl3 {P : List Int → Prop} (h : ∀ x0 x1 x2, P [x0, x1, x2]) : ∀ xs : List Int, xs.length = 3 → P xs := fun xs hx => by
  match xs, hx with
  | [x0, x1, x2], _ => exact h x0 x1 x2
theorem jl4 {P : List Int → Prop} (h : ∀ x0 x1 x2 x3, P [x0, x1, x2, x3]) : ∀ xs : List Int, xs.length = 4 → P xs := fun xs hx => by
  match xs, hx with
  | [x0, x1, x2, x3], _ => exact h x0 x1 x2 x3
theorem jl5 {P : List Int → Prop} (h : ∀ x0 x1 x2 x3 x4, P [x0, x1, x2, x3, x4]) : ∀ xs : List Int, xs.length = 5 → P xs := fun xs hx => by
  match xs, hx with
  | [x0, x1, x2, x3, x4], _ => exact h x0 x1 x2 x3 x4
theorem jl6 {P : List Int → Prop} (h : ∀ x0 x1 x2 x3 x4 x5, P [x0, x1, x2, x3, x4, x5]) : ∀ xs : List Int, xs.length = 6 → P xs := fun xs hx => by
  match xs, hx with
  | [x0, x1, x2, x3, x4, x5], _ => exact h x0 x1 x2 x3 x4 x5
theorem jl7 {P : List Int → Prop} (h : ∀ x0 x1 x2 x3 x4 x5 x6, P [x0, x1, x2, x3, x4, x5, x6]) : ∀ xs : List Int, xs.length = 7 → P xs := fun xs hx => by
  match xs, hx with
  | [x0, x1, x2, x3, x4, x5, x6], _ => exact h x0 x1 x2 x3 x4 x5 x6
theorem jl8 {P : List Int → Prop} (h : ∀ x0 x1 x2 x3 x4 x5 x6 x7, P [x0, x1, x2, x3, x4, x5, x6, x7]) : ∀ xs : List Int, xs.length = 8 → P xs := fun xs hx => by
  match xs, hx with
  | [x0, x1, x2, x3, x4, x5, x6, x7], _ => exact h x0 x1 x2 x3 x4 x5 x6 x7
theorem jl9 {P : List Int → Prop} (h : ∀ x0 x1 x2 x3 x4 x5 x6 x7 x8, P [x0, x1, x2, x3, x4, x5, x6, x7, x8]) : ∀ xs : List Int, xs.length = 9 → P xs := fun xs hx => by
  match xs, hx with
  | [x0, x1, x2, x3, x4, x5, x6, x7, x8], _ => exact h x0 x1 x2 x3 x4 x5 x6 x7 x8
theorem jl10 {P : List Int → Prop} (h : ∀ x0 x1 x2 x3 x4 x5 x6 x7 x8 x9, P [x0, x1, x2, x3, x4, x5, x6, x7, x8, x9]) : ∀ xs : List Int, xs.length = 10 → P xs := fun xs hx => by
  match xs, hx with
  | [x0, x1, x2, x3, x4, x5, x6, x7, x8, x9], _ => exact h x0 x1 x2 x3 x4 x5 x6 x7 x8 x9
theorem jl11 {P : List Int → Prop} (h : ∀ x0 x1 x2 x3 x4 x5 x6 x7 x8 x9 x10, P [x0, x1, x2, x3, x4, x5, x6, x7, x8, x9, x10]) : ∀ xs : List Int, xs.length = 11 → P xs := fun xs hx => by
  match xs, hx with
  | [x0, x1, x2, x3, x4, x5, x6, x7, x8, x9, x10], _ => exact h x0 x1 x2 x3 x4 x5 x6 x7 x8 x9 x10
theorem jl12 {P : List Int → Prop} (h : ∀ x0 x1 x2 x3 x4 x5 x6 x7 x8 x9 x10 x11, P [x0, x1, x2, x3, x4, x5, x6, x7, x8, x9, x10, x11]) : ∀ xs : List Int, xs.length = 12 → P xs := fun xs hx => by
  match xs, hx with
  | [x0, x1, x2, x3, x4, x5, x6, x7, x8, x9, x10, x11], _ => exact h x0 x1 x2 x3 x4 x5 x6 x7 x8 x9 x10 x11
theorem jl13 {P : List Int → Prop} (h : ∀ x0 x1 x2 x3 x4 x5 x6 x7 x8 x9 x10 x11 x12, P [x0, x1, x2, x3, x4, x5, x6, x7, x8, x9, x10, x11, x12]) : ∀ xs : List Int, xs.length = 13 → P xs := fun xs hx => by
  match xs, hx with
  | [x0, x1, x2, x3, x4, x5, x6, x7, x8, x9, x10, x11, x12], _ => exact h x0 x1 x2 x3 x4 x5 x6 x7 x8 x9 x10 x11 x12
theorem jl14 {P : List Int → Prop} (h : ∀ x0 x1 x2 x3 x4 x5 x6 x7 x8 x9 x10 x11 x12 x13, P [x0, x1, x2, x3, x4, x5, x6, x7, x8, x9, x10, x11, x12, x13]) : ∀ xs : List Int, xs.length = 14 → P xs := fun xs hx => by
  match xs, hx with
  | [x0, x1, x2, x3, x4, x5, x6, x7, x8, x9, x10, x11, x12, x13], _ => exact h x0 x1 x2 x3 x4 x5 x6 x7 x8 x9 x10 x11 x12 x13
theorem jl15 {P : List Int → Prop} (h : ∀ x0 x1 x2 x3 x4 x5 x6 x7 x8 x9 x10 x11 x12 x13 x14, P [x0, x1, x2, x3, x4, x5, x6, x7, x8, x9, x10, x11, x12, x13, x14]) : ∀ xs : List Int, xs.length = 15 → P xs := fun xs hx => by
  match xs, hx with
  | [x0, x1, x2, x3, x4, x5, x6, x7, x8, x9, x10, x11, x12, x13, x14], _ => exact h x0 x1 x2 x3 x4 x5 x6 x7 x8 x9 x10 x11 x12 x13 x14
theorem jl16 {P : List Int → Prop} (h : ∀ x0 x1 x2 x3 x4 x5 x6 x7 x8 x9 x10 x11 x12 x13 x14 x15, P [x0, x1, x2, x3, x4, x5, x6, x7, x8, x9, x10, x11, x12, x13, x14, x15]) : ∀ xs : List Int, xs.length = 16 → P xs := fun xs hx => by
  match xs, hx with
  | [x0, x1, x2, x3, x4, x5, x6, x7, x8, x9, x10, x11, x12, x13, x14, x15], _ => exact h x0 x1 x2 x3 x4 x5 x6 x7 x8 x9 x10 x11 x12 x13 x14 x15
theorem jin_of {l : List Nat} {n : Nat} (h : jin l n = true) : n ∈ l := by
  induction l with
  | nil => simp [jin] at h
  | cons a t ih =>
    simp only [jin] at h
    cases hb : Nat.beq a n with
    | true => have := jbeq hb; subst this; exact List.mem_cons_self
    | false => rw [hb] at h; exact List.mem_cons_of_mem _ (ih (by simpa using h))
