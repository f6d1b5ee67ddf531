/-! Runs up to the next cut; contracts of methods; calls. -/
section JC
variable {X : jxX} {E : jxE} {tb : List (Nat × Instr)}
/-- a table of instructions: each decoded so, each branch to a place -/
def jtok (cc : ByteArray) (tb : List (Nat × Instr)) : Bool := tb.all (fun q => (match decode cc q.1 with
  | .ok (i, n) => decide (i = q.2) && (Nat.beq (jlen i) 0 || Nat.beq n (jlen i))
  | .error _ => false) && jjmp q.1 q.2)
theorem jlk_in {tb : List (Nat × Instr)} {pc : Nat} {i : Instr} (h : jlk tb pc = some i) : (pc, i) ∈ tb := by
  induction tb with
  | nil => simp [jlk] at h
  | cons q t ih =>
    simp only [jlk] at h
    cases hb : Nat.beq q.1 pc with
    | true =>
      rw [hb] at h
      simp only [cond_true, Option.some.injEq] at h
      have := jbeq hb
      obtain ⟨a, b⟩ := q
      simp only at h this
      subst h; subst this
      exact List.mem_cons_self
    | false =>
      rw [hb] at h
      exact List.mem_cons_of_mem _ (ih (by simpa using h))
theorem jtok_at {cc : ByteArray} {tb : List (Nat × Instr)} (h : jtok cc tb = true) {pc : Nat} {i : Instr} (hi : jlk tb pc = some i) : (∃ n, decode cc pc = .ok (i, n) ∧ (jlen i = 0 ∨ n = jlen i)) ∧ jjmp pc i = true := by
  have h1 := List.all_eq_true.mp h _ (jlk_in hi)
  simp only [Bool.and_eq_true] at h1
  obtain ⟨h1, h2⟩ := h1
  refine ⟨?_, h2⟩
  cases hd : decode cc pc with
  | error e => rw [hd] at h1; cases h1
  | ok q =>
    obtain ⟨j, n⟩ := q
    rw [hd] at h1
    simp only [Bool.and_eq_true, Bool.or_eq_true, decide_eq_true_eq] at h1
    obtain ⟨rfl, h3⟩ := h1
    exact ⟨n, rfl, h3.imp jbeq jbeq⟩
/-- a cut: its place, what the locals and the stack hold there (0 a number, 1 a long, a cell, null; none: nothing that is used), and what goes on from there -/
abbrev jxT : Type := Nat ⊕ Option Nat
abbrev jxU : Type := Nat × List (Option jxT) × List jxT × (List Int → jxS → Option jxR)
def jext (tl : List (Option jxT)) (l : jxL) : Option (List Int) := match tl, l with
  | [], _ => some []
  | none :: t, _ :: l => jext t l
  | some (.inl 0) :: t, some (.inl x) :: l => (match jext t l with
    | some xs => some (x :: xs)
    | none => none)
  | some (.inl 1) :: t, some (.inr (.inl x)) :: l => (match jext t l with
    | some xs => some (x :: xs)
    | none => none)
  | some (.inr (some j)) :: t, some (.inr (.inr (.inl k))) :: l => bif Nat.beq j k then jext t l else none
  | some (.inr none) :: t, some (.inr (.inr (.inr _))) :: l => jext t l
  | _, _ => none
def jexs (ts : List jxT) (st : List jxV) : Option (List Int) := match ts, st with
  | [], [] => some []
  | .inl 0 :: t, .inl x :: l => (match jexs t l with
    | some xs => some (x :: xs)
    | none => none)
  | .inl 1 :: t, .inr (.inl x) :: l => (match jexs t l with
    | some xs => some (x :: xs)
    | none => none)
  | .inr (some j) :: t, .inr (.inr (.inl k)) :: l => bif Nat.beq j k then jexs t l else none
  | .inr none :: t, .inr (.inr (.inr _)) :: l => jexs t l
  | _, _ => none
def jins (tl : List (Option jxT)) (xs : List Int) : jxL := match tl, xs with
  | [], _ => []
  | none :: t, xs => none :: jins t xs
  | some (.inl 0) :: t, x :: xs => some (jmi x) :: jins t xs
  | some (.inl _) :: t, x :: xs => some (jml x) :: jins t xs
  | some (.inl _) :: t, [] => none :: jins t []
  | some (.inr (some j)) :: t, xs => some (jmr j) :: jins t xs
  | some (.inr none) :: t, xs => some jmn :: jins t xs
def jinz (ts : List jxT) (xs : List Int) : List jxV := match ts, xs with
  | [], _ => []
  | .inl 0 :: t, x :: xs => jmi x :: jinz t xs
  | .inl _ :: t, x :: xs => jml x :: jinz t xs
  | .inl _ :: t, [] => jmi 0 :: jinz t []
  | .inr (some j) :: t, xs => jmr j :: jinz t xs
  | .inr none :: t, xs => jmn :: jinz t xs
def jcnt (tl : List (Option jxT)) : Nat := match tl with
  | [] => 0
  | some (.inl _) :: t => jcnt t + 1
  | _ :: t => jcnt t
def jcns (ts : List jxT) : Nat := match ts with
  | [] => 0
  | .inl _ :: t => jcns t + 1
  | _ :: t => jcns t
def jkk (cs : List jxU) : jxK := fun pc loc st σ => match cs with
  | [] => none
  | (p, tl, ts, f) :: t => bif Nat.beq p pc then (match jext tl loc with
    | some xs => (match jexs ts st with
      | some ys => f (xs ++ ys) σ
      | none => jkk t pc loc st σ)
    | none => jkk t pc loc st σ) else jkk t pc loc st σ
theorem jext_ok {tl : List (Option jxT)} : ∀ {l : jxL} {xs : List Int}, jext tl l = some xs → xs.length = jcnt tl ∧ (jins tl xs).length ≤ l.length ∧ ∀ i v, jget (jins tl xs) i = some v → jget l i = some v := by
  induction tl with
  | nil =>
    intro l xs h
    simp only [jext, Option.some.injEq] at h
    subst h
    exact ⟨rfl, Nat.zero_le _, fun i v h => by simp [jins, jget] at h⟩
  | cons a t ih =>
    intro l xs h
    match a, l, h with
    | none, [], h => simp [jext] at h
    | none, b :: l, h =>
      obtain ⟨h1, h2, h3⟩ := ih (by simpa [jext] using h)
      refine ⟨h1, by simp only [jins, List.length_cons]; omega, fun i v hv => ?_⟩
      cases i with
      | zero => simp [jins, jget] at hv
      | succ i => exact h3 i v (by simpa [jins, jget] using hv)
    | some (.inl 0), some (.inl x) :: l, h =>
      simp only [jext] at h
      split at h
      · rename_i ys hy
        cases h
        obtain ⟨h1, h2, h3⟩ := ih hy
        refine ⟨by simp [jcnt, h1], by simp only [jins, List.length_cons]; omega, fun i v hv => ?_⟩
        cases i with
        | zero => simpa [jins, jget] using hv
        | succ i => exact h3 i v (by simpa [jins, jget] using hv)
      · cases h
    | some (.inl 1), some (.inr (.inl x)) :: l, h =>
      simp only [jext] at h
      split at h
      · rename_i ys hy
        cases h
        obtain ⟨h1, h2, h3⟩ := ih hy
        refine ⟨by simp [jcnt, h1], by simp only [jins, List.length_cons]; omega, fun i v hv => ?_⟩
        cases i with
        | zero => simpa [jins, jget] using hv
        | succ i => exact h3 i v (by simpa [jins, jget] using hv)
      · cases h
    | some (.inr (some j)), some (.inr (.inr (.inl k))) :: l, h =>
      simp only [jext] at h
      cases hb : Nat.beq j k with
      | false => rw [hb] at h; cases h
      | true =>
        rw [hb] at h
        have e := jbeq hb
        subst e
        obtain ⟨h1, h2, h3⟩ := ih (by simpa using h)
        refine ⟨h1, by simp only [jins, List.length_cons]; omega, fun i v hv => ?_⟩
        cases i with
        | zero => simpa [jins, jget] using hv
        | succ i => exact h3 i v (by simpa [jins, jget] using hv)
    | some (.inr none), some (.inr (.inr (.inr u))) :: l, h =>
      obtain ⟨h1, h2, h3⟩ := ih (by simpa [jext] using h)
      refine ⟨h1, by simp only [jins, List.length_cons]; omega, fun i v hv => ?_⟩
      cases i with
      | zero => simpa [jins, jget] using hv
      | succ i => exact h3 i v (by simpa [jins, jget] using hv)
theorem jexs_ok {ts : List jxT} : ∀ {l : List jxV} {xs : List Int}, jexs ts l = some xs → xs.length = jcns ts ∧ jinz ts xs = l := by
  induction ts with
  | nil =>
    intro l xs h
    match l, h with
    | [], h => simp only [jexs, Option.some.injEq] at h; subst h; exact ⟨rfl, rfl⟩
  | cons a t ih =>
    intro l xs h
    match a, l, h with
    | .inl 0, .inl x :: l, h =>
      simp only [jexs] at h
      split at h
      · rename_i ys hy
        cases h
        obtain ⟨h1, h2⟩ := ih hy
        exact ⟨by simp [jcns, h1], by simp [jinz, h2]⟩
      · cases h
    | .inl 1, .inr (.inl x) :: l, h =>
      simp only [jexs] at h
      split at h
      · rename_i ys hy
        cases h
        obtain ⟨h1, h2⟩ := ih hy
        exact ⟨by simp [jcns, h1], by simp [jinz, h2]⟩
      · cases h
    | .inr (some j), .inr (.inr (.inl k)) :: l, h =>
      simp only [jexs] at h
      cases hb : Nat.beq j k with
      | false => rw [hb] at h; cases h
      | true =>
        rw [hb] at h
        have e := jbeq hb
        subst e
        obtain ⟨h1, h2⟩ := ih (by simpa using h)
        exact ⟨h1, by simp [jinz, h2]⟩
    | .inr none, .inr (.inr (.inr u)) :: l, h =>
      obtain ⟨h1, h2⟩ := ih (by simpa [jexs] using h)
      exact ⟨h1, by simp [jinz, h2]⟩
/-- fewer locals are known: nothing is lost -/
theorem jWj_less {Q : State → Prop} {pc : Nat} {loc loc' : jxL} {st : List jxV} {σ : jxS} (h1 : loc'.length ≤ loc.length) (h2 : ∀ i v, jget loc' i = some v → jget loc i = some v) (h : jWj X Q pc loc' st σ) : jWj X Q pc loc st σ := by
  obtain ⟨p, l, e, R, s, m, args, below, meth, c, cc, nL, own, D, cy, A, ad, sh, kd, ca, sl⟩ := X
  intro H locs ls hP hD hS hL
  exact h H locs ls hP hD hS ⟨hL.1, hL.2.1, Nat.le_trans h1 hL.2.2.1, fun i v hv => hL.2.2.2 i v (h2 i v hv)⟩
def jCut (X : jxX) (q : jxU) : Prop := ∀ xs : List Int, xs.length = jcnt q.2.1 → ∀ ys : List Int, ys.length = jcns q.2.2.1 → ∀ σ, jRf X (q.2.2.2 (xs ++ ys) σ) q.1 (jins q.2.1 xs) (jinz q.2.2.1 ys) σ
theorem jkk_ok {cs : List jxU} (hc : ∀ q ∈ cs, jCut X q) {pc : Nat} {loc : jxL} {st : List jxV} {σ : jxS} : jRf X (jkk cs pc loc st σ) pc loc st σ := by
  induction cs with
  | nil => exact jRf_none
  | cons q t ih =>
    obtain ⟨p, tl, ts, f⟩ := q
    intro x σ' h
    simp only [jkk] at h
    cases hb : Nat.beq p pc with
    | false =>
      rw [hb] at h
      exact ih (fun q hq => hc q (List.mem_cons_of_mem _ hq)) x σ' (by simpa using h)
    | true =>
      rw [hb] at h
      have e := jbeq hb
      subst e
      simp only [cond_true] at h
      split at h
      · rename_i xs hx
        split at h
        · rename_i ys hy
          obtain ⟨h1, h2, h3⟩ := jext_ok hx
          obtain ⟨g1, g2⟩ := jexs_ok hy
          have k := hc _ List.mem_cons_self xs h1 ys g1 σ x σ' h
          rw [g2] at k
          exact jWj_less h2 h3 k
        · exact ih (fun q hq => hc q (List.mem_cons_of_mem _ hq)) x σ' h
      · exact ih (fun q hq => hc q (List.mem_cons_of_mem _ hq)) x σ' h
/-- a method's tables, and what its code is -/
def jGd (X : jxX) (E : jxE) (tb : List (Nat × Instr)) : Prop := jOK X ∧ jEnv X E tb ∧ ∀ pc i, jlk tb pc = some i → jjmp pc i = true
theorem jex_ok (hG : jGd X E tb) {cs : List jxU} (hc : ∀ q ∈ cs, jCut X q) : ∀ (n pc : Nat) (loc : jxL) (st : List jxV) (σ : jxS), jRf X (jex E tb (cs.map (·.1)) (jkk cs) n pc loc st σ) pc loc st σ := by
  intro n
  induction n with
  | zero => intro pc loc st σ; exact jRf_none
  | succ n ih =>
    intro pc loc st σ x σ' h
    simp only [jex] at h
    split at h
    · cases h
    · rename_i i hi
      obtain ⟨m, hd, hm⟩ := hG.2.1.1 pc i hi
      refine jx1_ok hG.1 hG.2.1 hd hm (hG.2.2 pc i hi) (fun pc' loc' st' σ1 hk => ?_) h
      cases hb : jin (cs.map (·.1)) pc' with
      | true =>
        rw [hb] at hk
        exact jkk_ok hc x σ' hk
      | false =>
        rw [hb] at hk
        exact ih pc' loc' st' σ1 x σ' hk
/-- a method's start: its arguments, its cells -/
def jPc (D : va_G) (cy : Nat → ClassId) (A : Nat → Prop) (ad : Nat → Nat) (sh : List jxC) (σ : jxS) (as : List jxV) : Array Value → State → Prop := fun v U => v = (as.map (jtoV ad)).toArray ∧ va_P D vwCl (jW ad cy sh σ) U.heap ∧ va_D A (jW ad cy sh σ) ∧ va_K D vwCl (jtys cy) U ∧ (∀ q, U.heap.size ≤ q → A q) ∧ jBG ad A U
/-- a contract: from these arguments and this state to that answer and that state -/
def jMC (y : MethodName) (bytes : ByteArray) (maxL : Nat) (ret : Option FieldType) (fr lo : Nat) (sh : List jxC) (σ : jxS) (as : List jxV) (v : Option jxV) (σ1 : jxS) : Prop := ∀ (l : Launch) (D : va_G) (cy : Nat → ClassId) (A : Nat → Prop) (ad : Nat → Nat), Met l y (.code y bytes maxL ret :: jTB) { frames := fr, cells := 0, slots := 0, locals := lo } (jPc D cy A ad sh σ as) (jQc D cy A ad sh v σ1) 0 0 A
theorem jPc_blind {D : va_G} {cy : Nat → ClassId} {A : Nat → Prop} {ad : Nat → Nat} {sh : List jxC} {σ : jxS} {as : List jxV} : FrameBlind (jPc D cy A ad sh σ as) := by
  intro a U g mk h
  obtain ⟨h1, h2, h3, h4, h5, h6⟩ := h
  exact ⟨h1, h2, h3, va_K.moved (u := U) (U := U.calling g mk a) (Vm.Alike.refl U.vm) h4, h5, h6.same rfl rfl⟩
def jpad (n : Nat) (as : List jxV) : jxL := match as, n with
  | [], n => List.replicate n none
  | .inr (.inl x) :: t, n + 2 => some (jml x) :: none :: jpad n t
  | a :: t, n + 1 => some a :: jpad n t
  | _ :: _, 0 => []
end JC
