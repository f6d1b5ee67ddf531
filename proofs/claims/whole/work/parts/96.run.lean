/-! A run that makes cells, as a function; what it answers, the machine does. -/
/-- a place of such a run: where, locals, stack, shapes, numbers, how many cells and slots are made -/
abbrev jgQ : Type := Nat × jxL × List jxV × List jxC × jxS × Nat × Nat
abbrev jgF : Type := List jxV → List jxC → jxS → Option (List jxC × jxS × Nat × Nat)
/-- fields read; fields written (class, field, kind: 0 a number, 1 a final number, 2 a reference); classes made; Object's constructor; the row of quotients; other constructors; at most so many cells and slots -/
abbrev jgT : Type := (Nat → Option (Nat × Nat)) × (Nat → Option (Nat × Nat × Nat)) × (Nat → Option (Nat × List jxF)) × Nat × Nat × (Nat → Option (Nat × jgF)) × Nat × Nat
def jgta (a : ArrayType) : Nat := match a with
  | .int => 0
  | .byte => 1
  | .boolean => 2
  | .long => 3
  | _ => 9
def jgl (i : Instr) : Nat := match i with
  | .bipush _ | .newarray _ => 2
  | .sipush _ | .iinc _ _ | .goto _ | .if_icmp _ _ | .getfield _ | .putfield _ | .new _ | .anewarray _ | .invokespecial _ => 3
  | _ => 1
/-- a cell is made -/
def jgmk (G : jgT) (n : Nat) (c : jxC) (pc : Nat) (loc : jxL) (st : List jxV) (sh : List jxC) (σ : jxS) (ca sl : Nat) : Option jgQ :=
  bif Nat.ble (sh.length + 1) 999 && (jgbl sh.length loc && (jgbs sh.length st && (Nat.ble (ca + 1) G.2.2.2.2.2.2.1 && Nat.ble (sl + n) G.2.2.2.2.2.2.2))) then some (pc, loc, jmr sh.length :: st, sh ++ [c], σ, ca + 1, sl + n) else none
def jgs (G : jgT) (i : Instr) (pc : Nat) (loc : jxL) (st : List jxV) (sh : List jxC) (σ : jxS) (ca sl : Nat) : Option jgQ := match i with
  | .iconst n => some (pc + 1, loc, jmi n :: st, sh, σ, ca, sl)
  | .bipush n => if -128 ≤ n ∧ n ≤ 127 then some (pc + 2, loc, jmi n :: st, sh, σ, ca, sl) else none
  | .sipush n => if -32768 ≤ n ∧ n ≤ 32767 then some (pc + 3, loc, jmi n :: st, sh, σ, ca, sl) else none
  | .aload_n n => (match jget loc n.val with
    | some (.inr (.inr (.inl x))) => some (pc + 1, loc, jmr x :: st, sh, σ, ca, sl)
    | _ => none)
  | .iload_n n => (match jget loc n.val with
    | some (.inl x) => some (pc + 1, loc, jmi x :: st, sh, σ, ca, sl)
    | _ => none)
  | .istore_n n => (match st with
    | .inl x :: r => bif Nat.ble (n.val + 1) loc.length then some (pc + 1, jset1 loc n.val (jmi x), r, sh, σ, ca, sl) else none
    | _ => none)
  | .iinc n d => (match jget loc n with
    | some (.inl x) => bif Nat.ble (n + 1) loc.length then some (pc + 3, jset1 loc n (jmi (x + d)), st, sh, σ, ca, sl) else none
    | _ => none)
  | .isub => (match st with
    | .inl y :: .inl x :: r => some (pc + 1, loc, jmi (x - y) :: r, sh, σ, ca, sl)
    | _ => none)
  | .dup => (match st with
    | .inr (.inr (.inl x)) :: r => some (pc + 1, loc, jmr x :: jmr x :: r, sh, σ, ca, sl)
    | _ => none)
  | .goto off => (match (pc : Int) + off with
    | .ofNat t => some (t, loc, st, sh, σ, ca, sl)
    | .negSucc _ => none)
  | .if_icmp .gt off => (match st with
    | .inl y :: .inl x :: r => (match (pc : Int) + off with
      | .ofNat t => if jw y < jw x then some (t, loc, r, sh, σ, ca, sl) else some (pc + 3, loc, r, sh, σ, ca, sl)
      | .negSucc _ => none)
    | _ => none)
  | .iastore => (match st with
    | .inl v :: .inl x :: .inr (.inr (.inl id)) :: r => (match sh[id]? with
      | some (.inr (.inl (0, n))) => if 0 ≤ x ∧ x < (n : Int) then (bif Nat.ble n 100000 then some (pc + 1, loc, r, sh, jup σ id x v, ca, sl) else none) else none
      | _ => none)
    | _ => none)
  | .bastore => (match st with
    | .inl v :: .inl x :: .inr (.inr (.inl id)) :: r => (match sh[id]? with
      | some (.inr (.inl (1, n))) => if 0 ≤ x ∧ x < (n : Int) then (bif Nat.ble n 100000 then some (pc + 1, loc, r, sh, jup σ id x (jw8 v), ca, sl) else none) else none
      | _ => none)
    | _ => none)
  | .getfield idx => (match st with
    | .inr (.inr (.inl id)) :: r => (match G.1 idx, sh[id]? with
      | some (ci, f), some (.inl (cj, fks)) => bif Nat.beq ci cj then (match fks[f]? with
        | some (.inr (some j)) => some (pc + 3, loc, jmr j :: r, sh, σ, ca, sl)
        | _ => none) else none
      | _, _ => none)
    | _ => none)
  | .putfield idx => (match st with
    | .inl v :: .inr (.inr (.inl id)) :: r => (match G.2.1 idx, sh[id]? with
      | some (ci, f, 0), some (.inl (cj, fks)) => bif Nat.beq ci cj then (match fks[f]? with
        | some (.inl 0) => some (pc + 3, loc, r, sh, jup σ id f v, ca, sl)
        | _ => none) else none
      | some (ci, f, 1), some (.inl (cj, fks)) => bif Nat.beq ci cj then (match fks[f]? with
        | some (.inl 5) => some (pc + 3, loc, r, sh, jup σ id f v, ca, sl)
        | _ => none) else none
      | _, _ => none)
    | .inr (.inr (.inl j)) :: .inr (.inr (.inl id)) :: r => (match G.2.1 idx, sh[id]? with
      | some (ci, f, 2), some (.inl (cj, fks)) => bif Nat.beq ci cj && (Nat.ble (j + 1) sh.length && Nat.ble (f + 1) fks.length) then some (pc + 3, loc, r, sh.set id (.inl (cj, fks.set f (.inr (some j)))), σ, ca, sl) else none
      | _, _ => none)
    | _ => none)
  | .new idx => (match G.2.2.1 idx with
    | some (ci, fks) => jgmk G fks.length (.inl (ci, fks)) (pc + 3) loc st sh σ ca sl
    | none => none)
  | .newarray a => (match st with
    | .inl (.ofNat n) :: r => bif Nat.ble n 100000 && Nat.ble (jgta a) 3 then jgmk G n (.inr (.inl (jgta a, n))) (pc + 2) loc r sh σ ca sl else none
    | _ => none)
  | .anewarray idx => (match st with
    | .inl (.ofNat n) :: r => bif Nat.ble n 100000 && (Nat.beq idx G.2.2.2.2.1 && Nat.ble 1 idx) then jgmk G n (.inr (.inl (4, n))) (pc + 3) loc r sh σ ca sl else none
    | _ => none)
  | .aastore => (match st with
    | .inr (.inr (.inl j)) :: .inl (.ofNat x) :: .inr (.inr (.inl id)) :: r => (match sh[id]?, sh[j]? with
      | some (.inr (.inl (4, n))), some (.inl (6, _)) => bif Nat.ble 1 j && (Nat.ble n 100000 && Nat.ble (x + 1) n) then some (pc + 1, loc, r, sh, jup σ id (x : Int) (j : Int), ca, sl) else none
      | _, _ => none)
    | _ => none)
  | .invokespecial idx => bif Nat.beq idx G.2.2.2.1 then (match st with
      | .inr (.inr (.inl _)) :: r => bif Nat.ble (jcat r) 8 then some (pc + 3, loc, r, sh, σ, ca, sl) else none
      | _ => none) else (match G.2.2.2.2.2.1 idx with
      | some (n, fn) => (match st.drop n with
        | .inr (.inr (.inl id)) :: r => bif Nat.beq (st.take n).length n && (Nat.ble (jcat r) 8 && (jgbl sh.length loc && jgbs sh.length r)) then (match fn (jmr id :: (st.take n).reverse) sh σ with
          | some (sh', σ', mc, ms) => bif Nat.ble (ca + mc) G.2.2.2.2.2.2.1 && Nat.ble (sl + ms) G.2.2.2.2.2.2.2 then some (pc + 3, loc, r, sh', σ', ca + mc, sl + ms) else none
          | none => none) else none
        | _ => none)
      | none => none)
  | _ => none
def jgn (G : jgT) (tb : List (Nat × Instr)) (stop : Nat) (n : Nat) (q : jgQ) : Option jgQ := match n with
  | 0 => none
  | n + 1 => (match q with
    | (pc, loc, st, sh, σ, ca, sl) => bif Nat.beq pc stop then some (pc, loc, st, sh, σ, ca, sl) else (match jlk tb pc with
      | none => none
      | some i => (match jgs G i pc loc st sh σ ca sl with
        | none => none
        | some q' => jgn G tb stop n q')))
def jgtok (cc : ByteArray) (tb : List (Nat × Instr)) : Bool := tb.all (fun q => match decode cc q.1 with
  | .ok (i, n) => decide (i = q.2) && Nat.beq n (jgl i)
  | .error _ => false)
theorem jgtok_at {cc : ByteArray} {tb : List (Nat × Instr)} (h : jgtok cc tb = true) {pc : Nat} {i : Instr} (hi : jlk tb pc = some i) : decode cc pc = .ok (i, jgl i) := by
  have h1 := List.all_eq_true.mp h _ (jlk_in hi)
  simp only at h1
  cases hd : decode cc pc with
  | error e => rw [hd] at h1; cases h1
  | ok q =>
    obtain ⟨j, n⟩ := q
    rw [hd] at h1
    simp only [Bool.and_eq_true, decide_eq_true_eq] at h1
    obtain ⟨rfl, h3⟩ := h1
    rw [jbeq h3]
/-- a constructor's call: its links, its contract -/
def jGC (X : jxX) (idx n : Nat) (fn : jgF) : Prop := ∃ (y : MethodName) (bytes : ByteArray) (maxL fr lo : Nat), jLkI (jown X) idx y bytes maxL n ∧ (fr + 1 ≤ (jroom X).frames ∧ 8 + (maxL + 11) + lo ≤ (jroom X).locals) ∧ ∀ as sh σ sh' σ' mc ms, fn as sh σ = some (sh', σ', mc, ms) → jgJ sh σ → jMG y bytes maxL 0 fr lo mc ms sh σ as none sh' σ'
/-- what of a run's tables is no matter of the machine -/
def jGP (G : jgT) : Prop := (∀ idx ci fks, G.2.2.1 idx = some (ci, fks) → jgnu fks = true) ∧ ∀ idx n fn, G.2.2.2.2.2.1 idx = some (n, fn) → ∀ as sh σ sh' σ' mc ms, fn as sh σ = some (sh', σ', mc, ms) → jgJ sh σ → sh.length ≤ sh'.length ∧ jgJ sh' σ'
def jGT (X : jxX) (G : jgT) : Prop := jOK X ∧ jgI X ∧ jgIn X ∧ (1 ≤ (jroom X).frames ∧ 20 ≤ (jroom X).locals) ∧ ((jroom X).cells = G.2.2.2.2.2.2.1 ∧ (jroom X).slots = G.2.2.2.2.2.2.2) ∧
  (∀ idx ci f, G.1 idx = some (ci, f) → jFl (jown X) idx ci f) ∧
  (∀ idx ci f kd, G.2.1 idx = some (ci, f, kd) → match kd with
    | 0 => jPF (jown X) idx ci f .int false
    | 1 => jPF (jown X) idx ci f .int true
    | _ => ∃ t fin, jPF (jown X) idx ci f t fin ∧ ∀ a, narrow t (.ref a) = .ref a ∧ fits t (.ref a) = true) ∧
  (∀ idx ci fks, G.2.2.1 idx = some (ci, fks) → jNw (jown X) idx ci fks) ∧
  (Cond.methodLink (jown X) G.2.2.2.1 objectInit ∈ jTB ∧ Cond.instanceMethod objectInit ∈ jTB ∧ Cond.code objectInit ⟨#[0xb1]⟩ 1 none ∈ jTB) ∧
  (G.2.2.2.2.1 = 0 ∨ Cond.classLink (jown X) G.2.2.2.2.1 "LastLoses$Quotient" ∈ jTB) ∧
  (∀ idx n fn, G.2.2.2.2.2.1 idx = some (n, fn) → jGC X idx n fn) ∧
  (∀ t, t < 4 → Cond.arrayClass (newarray.typeOf (jgat t)) ∈ jTB)
def jgW (X0 : jxX) (Q : State → Prop) (q : jgQ) : Prop := match q with
  | (pc, loc, st, sh, σ, ca, sl) => ∀ X, jgE X0 X sh ca sl → jWj X Q pc loc st σ
def jgP (n : Nat) (q : jgQ) : Prop := match q with
  | (_, _, _, sh, σ, _, _) => n ≤ sh.length ∧ jgJ sh σ
section GOK
variable {X0 : jxX} {G : jgT} {Q : State → Prop} {pc : Nat} {loc : jxL} {st : List jxV} {sh : List jxC} {σ : jxS} {ca sl : Nat} {q' : jgQ}
theorem jgJ_up {id : Nat} {c : jxC} {x v : Int} (hs : sh[id]? = some c) (hc : ∀ f, jgoc sh.length c f) (hJ : jgJ sh σ) : jgJ sh (jup σ id x v) := by
  have hl := (List.getElem?_eq_some_iff.mp hs).1
  refine ⟨fun i c' hi => ?_, fun a ha j => ?_⟩
  · by_cases h : i = id
    · subst h
      cases hs.symm.trans hi
      exact hc _
    · rw [jup_ne h]
      exact hJ.1 i c' hi
  · rw [jup_ne (show a ≠ id by omega)]
    exact hJ.2 a ha j
theorem jgJ_q {id n j : Nat} {x : Int} (hs : sh[id]? = some (.inr (.inl (4, n)))) (hj : j < sh.length) (hJ : jgJ sh σ) : jgJ sh (jup σ id x (j : Int)) := by
  have hl := (List.getElem?_eq_some_iff.mp hs).1
  refine ⟨fun i c' hi => ?_, fun a ha j => ?_⟩
  · by_cases h : i = id
    · subst h
      cases hs.symm.trans hi
      intro b
      have h0 : ∀ b, (σ i b).toNat < sh.length := hJ.1 i _ hs
      unfold jup
      split
      · simpa using hj
      · exact h0 b
    · rw [jup_ne h]
      exact hJ.1 i c' hi
  · rw [jup_ne (show a ≠ id by omega)]
    exact hJ.2 a ha j
theorem jgofs_set {n : Nat} {j : Nat} (hj : j < n) : ∀ {l : List jxF} {f : Nat}, jgofs n l = true → jgofs n (l.set f (.inr (some j))) = true
  | [], _, _ => rfl
  | a :: t, 0, h => by
    simp only [jgofs, Bool.and_eq_true] at h
    simp only [List.set_cons_zero, jgofs, Bool.and_eq_true]
    exact ⟨by simp only [jgof, Nat.ble_eq]; omega, h.2⟩
  | a :: t, f + 1, h => by
    simp only [jgofs, Bool.and_eq_true] at h
    simp only [List.set_cons_succ, jgofs, Bool.and_eq_true]
    exact ⟨h.1, jgofs_set hj h.2⟩
theorem jgJ_ref {id ci f j : Nat} {fks : List jxF} (hs : sh[id]? = some (.inl (ci, fks))) (hj : j < sh.length) (hJ : jgJ sh σ) : jgJ (sh.set id (.inl (ci, fks.set f (.inr (some j))))) σ := by
  have hl := (List.getElem?_eq_some_iff.mp hs).1
  refine ⟨fun i c' hi => ?_, fun a ha j => hJ.2 a (by simpa using ha) j⟩
  rw [List.length_set]
  by_cases h : i = id
  · subst h
    rw [List.getElem?_set_self hl] at hi
    cases hi
    have h0 : jgofs sh.length fks = true := hJ.1 i _ hs
    exact jgofs_set hj h0
  · rw [List.getElem?_set_ne (Ne.symm h)] at hi
    exact hJ.1 i c' hi
theorem jgJ_new {ci : Nat} {fks : List jxF} (hn : jgnu fks = true) (hJ : jgJ sh σ) : jgJ (sh ++ [.inl (ci, fks)]) σ := jgJ_app hJ (fun _ _ _ => jgnu_fs hn)
theorem jgJ_row {t n : Nat} (ht : t ≤ 4) (hJ : jgJ sh σ) : jgJ (sh ++ [.inr (.inl (t, n))]) σ := jgJ_app hJ (fun k h0 hk => by
  match t, ht with
  | 0, _ => trivial
  | 1, _ => trivial
  | 2, _ => trivial
  | 3, _ => trivial
  | 4, _ => intro j; rw [h0]; simpa using hk)
theorem jgat_ta {a : ArrayType} (h : jgta a ≤ 3) : jgat (jgta a) = a := by
  cases a <;> first | rfl | (exfalso; revert h; decide)
theorem jgE.all {X X0 : jxX} (h : jgE X0 X sh ca sl) (hG : jGT X0 G) : jOK X ∧ jgI X ∧ jgIn X ∧ jsh X = sh ∧ jgN X = (ca, sl) ∧ jcc X = jcc X0 ∧ jown X = jown X0 ∧ jroom X = jroom X0 := ⟨h.ok hG.1, h.I hG.2.1, h.In hG.2.2.1, h.shp, h.n, h.cc, h.own, h.room⟩
theorem jGT.fr (h : jGT X0 G) : 1 ≤ (jroom X0).frames ∧ 20 ≤ (jroom X0).locals := h.2.2.2.1
theorem jGT.mc (h : jGT X0 G) : (jroom X0).cells = G.2.2.2.2.2.2.1 := h.2.2.2.2.1.1
theorem jGT.ms (h : jGT X0 G) : (jroom X0).slots = G.2.2.2.2.2.2.2 := h.2.2.2.2.1.2
theorem jGT.F (h : jGT X0 G) : ∀ idx ci f, G.1 idx = some (ci, f) → jFl (jown X0) idx ci f := h.2.2.2.2.2.1
theorem jGT.Pt (h : jGT X0 G) : ∀ idx ci f kd, G.2.1 idx = some (ci, f, kd) → match kd with
    | 0 => jPF (jown X0) idx ci f .int false
    | 1 => jPF (jown X0) idx ci f .int true
    | _ => ∃ t fin, jPF (jown X0) idx ci f t fin ∧ ∀ a, narrow t (.ref a) = .ref a ∧ fits t (.ref a) = true := h.2.2.2.2.2.2.1
theorem jGT.Nw (h : jGT X0 G) : ∀ idx ci fks, G.2.2.1 idx = some (ci, fks) → jNw (jown X0) idx ci fks := h.2.2.2.2.2.2.2.1
theorem jGT.Oi (h : jGT X0 G) : Cond.methodLink (jown X0) G.2.2.2.1 objectInit ∈ jTB ∧ Cond.instanceMethod objectInit ∈ jTB ∧ Cond.code objectInit ⟨#[0xb1]⟩ 1 none ∈ jTB := h.2.2.2.2.2.2.2.2.1
theorem jGT.An (h : jGT X0 G) : G.2.2.2.2.1 = 0 ∨ Cond.classLink (jown X0) G.2.2.2.2.1 "LastLoses$Quotient" ∈ jTB := h.2.2.2.2.2.2.2.2.2.1
theorem jGT.Ca (h : jGT X0 G) : ∀ idx n fn, G.2.2.2.2.2.1 idx = some (n, fn) → jGC X0 idx n fn := h.2.2.2.2.2.2.2.2.2.2.1
theorem jGT.Ar (h : jGT X0 G) : ∀ t, t < 4 → Cond.arrayClass (newarray.typeOf (jgat t)) ∈ jTB := h.2.2.2.2.2.2.2.2.2.2.2
set_option maxHeartbeats 4000000 in
theorem jgs_ok (hP : jGP G) {i : Instr} (h : jgs G i pc loc st sh σ ca sl = some q') (hJ : jgJ sh σ) : jgP sh.length q' ∧ ∀ (X0 : jxX) (Q : State → Prop), jGT X0 G → decode (jcc X0) pc = .ok (i, jgl i) → jgW X0 Q q' → jgW X0 Q (pc, loc, st, sh, σ, ca, sl) := by
  cases i with
  | iconst a =>
    simp only [jgs, Option.some.injEq] at h; subst h
    exact ⟨⟨Nat.le_refl _, hJ⟩, fun X0 Q hG hd hk X hE => jw_iconst (hE.all hG).1 (by rw [hE.cc]; exact hd) (hk X hE)⟩
  | bipush a =>
    simp only [jgs] at h
    split at h
    · rename_i h1
      cases h
      exact ⟨⟨Nat.le_refl _, hJ⟩, fun X0 Q hG hd hk X hE => jw_bipush h1 (hE.all hG).1 (by rw [hE.cc]; exact hd) (hk X hE)⟩
    · cases h
  | sipush a =>
    simp only [jgs] at h
    split at h
    · rename_i h1
      cases h
      exact ⟨⟨Nat.le_refl _, hJ⟩, fun X0 Q hG hd hk X hE => jw_sipush h1 (hE.all hG).1 (by rw [hE.cc]; exact hd) (hk X hE)⟩
    · cases h
  | aload_n a =>
    simp only [jgs] at h
    split at h
    · rename_i z hv
      cases h
      exact ⟨⟨Nat.le_refl _, hJ⟩, fun X0 Q hG hd hk X hE => jw_lda_n hv (hE.all hG).1 (by rw [hE.cc]; exact hd) (hk X hE)⟩
    · cases h
  | iload_n a =>
    simp only [jgs] at h
    split at h
    · rename_i z hv
      cases h
      exact ⟨⟨Nat.le_refl _, hJ⟩, fun X0 Q hG hd hk X hE => jw_ldi_n hv (hE.all hG).1 (by rw [hE.cc]; exact hd) (hk X hE)⟩
    · cases h
  | istore_n a =>
    simp only [jgs] at h
    split at h
    · rename_i x r
      cases hb : Nat.ble (a.val + 1) loc.length with
      | false => rw [hb] at h; cases h
      | true =>
        rw [hb] at h
        cases h
        exact ⟨⟨Nat.le_refl _, hJ⟩, fun X0 Q hG hd hk X hE => jw_sti_n (hE.all hG).1 (jble hb) (by rw [hE.cc]; exact hd) (hk X hE)⟩
    · cases h
  | iinc a d =>
    simp only [jgs] at h
    split at h
    · rename_i x hv
      cases hb : Nat.ble (a + 1) loc.length with
      | false => rw [hb] at h; cases h
      | true =>
        rw [hb] at h
        cases h
        exact ⟨⟨Nat.le_refl _, hJ⟩, fun X0 Q hG hd hk X hE => jw_iinc (hE.all hG).1 hv (jble hb) (by rw [hE.cc]; exact hd) (hk X hE)⟩
    · cases h
  | isub =>
    simp only [jgs] at h
    split at h
    · cases h
      exact ⟨⟨Nat.le_refl _, hJ⟩, fun X0 Q hG hd hk X hE => jw_isub (hE.all hG).1 (by rw [hE.cc]; exact hd) (hk X hE)⟩
    · cases h
  | dup =>
    simp only [jgs] at h
    split at h
    · cases h
      exact ⟨⟨Nat.le_refl _, hJ⟩, fun X0 Q hG hd hk X hE => jw_dupr (hE.all hG).1 (by rw [hE.cc]; exact hd) (hk X hE)⟩
    · cases h
  | goto off =>
    simp only [jgs] at h
    split at h
    · rename_i t ht
      cases h
      exact ⟨⟨Nat.le_refl _, hJ⟩, fun X0 Q hG hd hk X hE => jw_goto (x := 0) (hE.all hG).1 ht (by rw [hE.cc]; exact hd) (hk X hE)⟩
    · cases h
  | if_icmp c off =>
    cases c with
    | gt =>
      simp only [jgs] at h
      split at h
      · split at h
        · rename_i t ht
          split at h
          · rename_i hc
            cases h
            exact ⟨⟨Nat.le_refl _, hJ⟩, fun X0 Q hG hd hk X hE => jw_icmp_gt (hE.all hG).1 ht (by rw [hE.cc]; exact hd) (fun _ => hk X hE) (fun q => absurd hc q)⟩
          · rename_i hc
            cases h
            exact ⟨⟨Nat.le_refl _, hJ⟩, fun X0 Q hG hd hk X hE => jw_icmp_gt (hE.all hG).1 ht (by rw [hE.cc]; exact hd) (fun q => absurd q hc) (fun _ => hk X hE)⟩
        · cases h
      · cases h
    | _ => simp only [jgs] at h; cases h
  | iastore =>
    simp only [jgs] at h
    split at h
    · split at h
      · rename_i n hv
        split at h
        · rename_i h1
          obtain ⟨h2, h⟩ : Nat.ble n 100000 = true ∧ _ := by
            cases hb : Nat.ble n 100000 with
            | false => rw [hb] at h; cases h
            | true => rw [hb] at h; exact ⟨rfl, h⟩
          cases h
          have h2 := jble h2
          exact ⟨⟨Nat.le_refl _, jgJ_up hv (fun _ => trivial) hJ⟩, fun X0 Q hG hd hk X hE => jw_iastore (hE.all hG).1 (by rw [hE.shp]; exact hv) (by omega) h1 (by rw [hE.cc]; exact hd) (hk X hE)⟩
        · cases h
      · cases h
    · cases h
  | bastore =>
    simp only [jgs] at h
    split at h
    · split at h
      · rename_i n hv
        split at h
        · rename_i h1
          obtain ⟨h2, h⟩ : Nat.ble n 100000 = true ∧ _ := by
            cases hb : Nat.ble n 100000 with
            | false => rw [hb] at h; cases h
            | true => rw [hb] at h; exact ⟨rfl, h⟩
          cases h
          have h2 := jble h2
          exact ⟨⟨Nat.le_refl _, jgJ_up hv (fun _ => trivial) hJ⟩, fun X0 Q hG hd hk X hE => jw_bastore (hE.all hG).1 (by rw [hE.shp]; exact hv) (by omega) h1 (by rw [hE.cc]; exact hd) (hk X hE)⟩
        · cases h
      · cases h
    · cases h
  | getfield idx =>
    simp only [jgs] at h
    split at h
    · split at h
      · rename_i ci f cj fks hv hw
        cases hb : Nat.beq ci cj with
        | false => rw [hb] at h; cases h
        | true =>
          rw [hb] at h
          obtain rfl := jbeq hb
          simp only [cond_true] at h
          split at h
          · rename_i j hf
            cases h
            exact ⟨⟨Nat.le_refl _, hJ⟩, fun X0 Q hG hd hk X hE => jw_get (hE.all hG).1 (by rw [hE.shp]; exact hw) hf (fun _ => rfl) (by rw [hE.own]; exact hG.F _ _ _ hv) (by rw [hE.cc]; exact hd) (hk X hE)⟩
          · cases h
      · cases h
    · cases h
  | putfield idx =>
    simp only [jgs] at h
    split at h
    · split at h
      · rename_i ci f cj fks hv hw
        cases hb : Nat.beq ci cj with
        | false => rw [hb] at h; cases h
        | true =>
          rw [hb] at h
          obtain rfl := jbeq hb
          simp only [cond_true] at h
          split at h
          · rename_i hf
            cases h
            exact ⟨⟨Nat.le_refl _, jgJ_up hw (fun _ => hJ.1 _ _ hw) hJ⟩, fun X0 Q hG hd hk X hE => jw_putF (sh := sh) (sh' := sh) (fin := false) (t := .int) (hE.all hG).1 (hE.all hG).2.2.2.1 (hE.all hG).2.2.2.2.1 hw (List.getElem?_eq_some_iff.mp hf).1 (by rw [hE.own]; exact hG.Pt _ _ _ _ hv) (fun q => by cases q) (fun _ => ⟨rfl, rfl⟩) (jW_int hw hf (fun ad => by show Value.int (jI (jup σ _ (f : Int) _ _ (f : Int))) = .int _; simp [jup])) rfl (by rw [hE.cc]; exact hd) (fun X' hE' => hk X' (hE.trans hE'))⟩
          · cases h
      · rename_i ci f cj fks hv hw
        cases hb : Nat.beq ci cj with
        | false => rw [hb] at h; cases h
        | true =>
          rw [hb] at h
          obtain rfl := jbeq hb
          simp only [cond_true] at h
          split at h
          · rename_i hf
            cases h
            exact ⟨⟨Nat.le_refl _, jgJ_up hw (fun _ => hJ.1 _ _ hw) hJ⟩, fun X0 Q hG hd hk X hE => jw_putF (sh := sh) (sh' := sh) (fin := true) (t := .int) (hE.all hG).1 (hE.all hG).2.2.2.1 (hE.all hG).2.2.2.2.1 hw (List.getElem?_eq_some_iff.mp hf).1 (by rw [hE.own]; exact hG.Pt _ _ _ _ hv) (fun _ => (hE.all hG).2.2.1) (fun _ => ⟨rfl, rfl⟩) (jW_int hw hf (fun ad => by show Value.int (jI (jup σ _ (f : Int) _ _ (f : Int))) = .int _; simp [jup])) rfl (by rw [hE.cc]; exact hd) (fun X' hE' => hk X' (hE.trans hE'))⟩
          · cases h
      · cases h
    · split at h
      · rename_i ci f cj fks hv hw
        cases hb : Nat.beq ci cj && (Nat.ble (_ + 1) sh.length && Nat.ble (f + 1) fks.length) with
        | false => rw [hb] at h; cases h
        | true =>
          rw [hb] at h
          simp only [Bool.and_eq_true] at hb
          obtain ⟨hb1, hb2, hb3⟩ := hb
          obtain rfl := jbeq hb1
          have hj := jble hb2
          have hf := jble hb3
          cases h
          refine ⟨⟨by rw [List.length_set]; exact Nat.le_refl _, jgJ_ref hw hj hJ⟩, fun X0 Q hG hd hk X hE => ?_⟩
          obtain ⟨t, fin, hp, ha⟩ := hG.Pt _ _ _ _ hv
          exact jw_putF (sh := sh) (fin := fin) (t := t) (hE.all hG).1 (hE.all hG).2.2.2.1 (hE.all hG).2.2.2.2.1 hw hf (by rw [hE.own]; exact hp) (fun _ => (hE.all hG).2.2.1) (fun ad => ha _) (jW_ref hw hf) (by rw [List.length_set]) (by rw [hE.cc]; exact hd) (fun X' hE' => hk X' (hE.trans hE'))
      · cases h
    · cases h
  | new idx =>
    simp only [jgs] at h
    split at h
    · rename_i ci fks hv
      unfold jgmk at h
      cases hb : Nat.ble (sh.length + 1) 999 && (jgbl sh.length loc && (jgbs sh.length st && (Nat.ble (ca + 1) G.2.2.2.2.2.2.1 && Nat.ble (sl + fks.length) G.2.2.2.2.2.2.2))) with
      | false => rw [hb] at h; cases h
      | true =>
        rw [hb] at h
        simp only [Bool.and_eq_true] at hb
        obtain ⟨b1, b2, b3, b4, b5⟩ := hb
        have b1 := jble b1
        cases h
        refine ⟨⟨by simp, jgJ_new (hP.1 _ _ _ hv) hJ⟩, fun X0 Q hG hd hk X hE => ?_⟩
        · obtain ⟨g1, g2, g3, g4, g5, g6, g7, g8⟩ := hE.all hG
          exact jw_new g1 g4 g5 hJ (by omega) b2 b3 (by rw [g7]; exact hG.Nw _ _ _ hv) (by rw [g8, hG.mc]; exact jble b4) (by rw [g8, hG.ms]; exact jble b5) (by rw [g6]; exact hd) (fun X' hE' => hk X' (hE.trans hE'))
    · cases h
  | newarray a =>
    simp only [jgs] at h
    split at h
    · rename_i n r
      cases hb0 : Nat.ble n 100000 && Nat.ble (jgta a) 3 with
      | false => rw [hb0] at h; cases h
      | true =>
        rw [hb0] at h
        simp only [Bool.and_eq_true] at hb0
        have hn := jble hb0.1
        have ht := jble hb0.2
        simp only [cond_true] at h
        unfold jgmk at h
        cases hb : Nat.ble (sh.length + 1) 999 && (jgbl sh.length loc && (jgbs sh.length r && (Nat.ble (ca + 1) G.2.2.2.2.2.2.1 && Nat.ble (sl + n) G.2.2.2.2.2.2.2))) with
        | false => rw [hb] at h; cases h
        | true =>
          rw [hb] at h
          simp only [Bool.and_eq_true] at hb
          obtain ⟨b1, b2, b3, b4, b5⟩ := hb
          have b1 := jble b1
          cases h
          refine ⟨⟨by simp, jgJ_row (by omega) hJ⟩, fun X0 Q hG hd hk X hE => ?_⟩
          obtain ⟨g1, g2, g3, g4, g5, g6, g7, g8⟩ := hE.all hG
          exact jw_newa (t := jgta a) (n := n) (by omega) hn g1 g4 g5 hJ (by omega) b2 b3 (hG.Ar _ (by omega)) (by rw [g8, hG.mc]; exact jble b4) (by rw [g8, hG.ms]; exact jble b5) (by rw [g6, jgat_ta ht]; exact hd) (fun X' hE' => hk X' (hE.trans hE'))
    · cases h
  | anewarray idx =>
    simp only [jgs] at h
    split at h
    · rename_i n r
      cases hb0 : Nat.ble n 100000 && (Nat.beq idx G.2.2.2.2.1 && Nat.ble 1 idx) with
      | false => rw [hb0] at h; cases h
      | true =>
        rw [hb0] at h
        simp only [Bool.and_eq_true] at hb0
        have hn := jble hb0.1
        have hi := jbeq hb0.2.1
        have hi1 := jble hb0.2.2
        simp only [cond_true] at h
        unfold jgmk at h
        cases hb : Nat.ble (sh.length + 1) 999 && (jgbl sh.length loc && (jgbs sh.length r && (Nat.ble (ca + 1) G.2.2.2.2.2.2.1 && Nat.ble (sl + n) G.2.2.2.2.2.2.2))) with
        | false => rw [hb] at h; cases h
        | true =>
          rw [hb] at h
          simp only [Bool.and_eq_true] at hb
          obtain ⟨b1, b2, b3, b4, b5⟩ := hb
          have b1 := jble b1
          cases h
          refine ⟨⟨by simp, jgJ_row (by omega) hJ⟩, fun X0 Q hG hd hk X hE => ?_⟩
          obtain ⟨g1, g2, g3, g4, g5, g6, g7, g8⟩ := hE.all hG
          exact jw_anew (idx := idx) (n := n) hn g1 g2 g4 g5 hJ (by omega) b2 b3 (by rw [g7, hi]; exact hG.An.resolve_left (by omega)) (by rw [g8, hG.mc]; exact jble b4) (by rw [g8, hG.ms]; exact jble b5) (by rw [g6]; exact hd) (fun X' hE' => hk X' (hE.trans hE'))
    · cases h
  | aastore =>
    simp only [jgs] at h
    split at h
    · rename_i j x id r
      split at h
      · rename_i n fks hv hw
        cases hb : Nat.ble 1 j && (Nat.ble n 100000 && Nat.ble (x + 1) n) with
        | false => rw [hb] at h; cases h
        | true =>
          rw [hb] at h
          simp only [Bool.and_eq_true] at hb
          obtain ⟨b1, b2, b3⟩ := hb
          cases h
          refine ⟨⟨Nat.le_refl _, jgJ_q hv (List.getElem?_eq_some_iff.mp hw).1 hJ⟩, fun X0 Q hG hd hk X hE => ?_⟩
          exact jw_aast (T := TX6) (N := 10) (hE.all hG).1 (by rw [hE.shp]; exact hv) (by rw [hE.shp]; exact hw) rfl (jble b1) (jble b2) (jble b3) (by rw [hE.cc]; exact hd) (hk X hE)
      · cases h
    · cases h
  | invokespecial idx =>
    simp only [jgs] at h
    cases hb0 : Nat.beq idx G.2.2.2.1 with
    | true =>
      rw [hb0] at h
      obtain rfl := jbeq hb0
      simp only [cond_true] at h
      split at h
      · rename_i id r
        cases hb : Nat.ble (jcat r) 8 with
        | false => rw [hb] at h; cases h
        | true =>
          rw [hb] at h
          cases h
          refine ⟨⟨Nat.le_refl _, hJ⟩, fun X0 Q hG hd hk X hE => ?_⟩
          obtain ⟨g1, g2, g3, g4, g5, g6, g7, g8⟩ := hE.all hG
          exact jw_oi g1 (by rw [g7]; exact hG.Oi.1) hG.Oi.2.1 hG.Oi.2.2 (by rw [g8]; exact hG.fr.1) (by rw [g8]; exact hG.fr.2) (jble hb) (by rw [g6]; exact hd) (hk X hE)
      · cases h
    | false =>
      rw [hb0] at h
      simp only [cond_false] at h
      split at h
      · rename_i n fn hc
        split at h
        · rename_i id r hst
          cases hb : Nat.beq (st.take n).length n && (Nat.ble (jcat r) 8 && (jgbl sh.length loc && jgbs sh.length r)) with
          | false => rw [hb] at h; cases h
          | true =>
            rw [hb] at h
            simp only [Bool.and_eq_true] at hb
            obtain ⟨b1, b2, b3, b4⟩ := hb
            simp only [cond_true] at h
            split at h
            · rename_i sh' σ' mc ms hf
              cases hb2 : Nat.ble (ca + mc) G.2.2.2.2.2.2.1 && Nat.ble (sl + ms) G.2.2.2.2.2.2.2 with
              | false => rw [hb2] at h; cases h
              | true =>
                rw [hb2] at h
                simp only [Bool.and_eq_true] at hb2
                cases h
                obtain ⟨m1, m2⟩ := hP.2 _ _ _ hc _ _ _ _ _ _ _ hf hJ
                refine ⟨⟨m1, m2⟩, fun X0 Q hG hd hk X hE => ?_⟩
                obtain ⟨y, bytes, maxL, fr, lo, hl, hr, hm⟩ := hG.Ca _ _ _ hc
                have m3 := hm _ _ _ _ _ _ _ hf hJ
                obtain ⟨g1, g2, g3, g4, g5, g6, g7, g8⟩ := hE.all hG
                have k := jw_ctor (Q := Q) (pc := pc) (loc := loc) (as := (st.take n).reverse) (rest := r) (id := id) (n := n) (idx := idx) g1 g2 g4 g5 (by rw [g7]; exact hl) (by rw [g8]; exact hr) (by rw [g8, hG.mc]; exact jble hb2.1) (by rw [g8, hG.ms]; exact jble hb2.2) (by rw [List.length_reverse]; exact jbeq b1) m3 m1 (jble b2) b3 b4 (by rw [g6]; exact hd) (fun X' hE' => hk X' (hE.trans hE'))
                have e : (st.take n).reverse.reverse ++ jmr id :: r = st := by
                  rw [List.reverse_reverse]
                  have e1 : jmr id :: r = st.drop n := hst.symm
                  rw [e1, List.take_append_drop]
                rw [e] at k
                exact k
            · cases h
        · cases h
      · cases h
  | _ => simp only [jgs] at h; cases h
theorem jgn_ok (hP : jGP G) {tb : List (Nat × Instr)} {stop : Nat} : ∀ (n pc : Nat) (loc : jxL) (st : List jxV) (sh : List jxC) (σ : jxS) (ca sl : Nat), jgn G tb stop n (pc, loc, st, sh, σ, ca, sl) = some q' → jgJ sh σ → jgP sh.length q' ∧ ∀ (X0 : jxX) (Q : State → Prop), jGT X0 G → jgtok (jcc X0) tb = true → jgW X0 Q q' → jgW X0 Q (pc, loc, st, sh, σ, ca, sl) := by
  intro n
  induction n with
  | zero => intro pc loc st sh σ ca sl h; cases h
  | succ n ih =>
    intro pc loc st sh σ ca sl h hJ
    simp only [jgn] at h
    cases hb : Nat.beq pc stop with
    | true =>
      rw [hb] at h
      cases h
      exact ⟨⟨Nat.le_refl _, hJ⟩, fun _ _ _ _ hk => hk⟩
    | false =>
      rw [hb] at h
      simp only [cond_false] at h
      split at h
      · cases h
      · rename_i i hi
        split at h
        · cases h
        · rename_i q1 hq
          obtain ⟨h1, h2⟩ := jgs_ok hP hq hJ
          obtain ⟨pc1, loc1, st1, sh1, σ1, ca1, sl1⟩ := q1
          obtain ⟨h3, h4⟩ := ih pc1 loc1 st1 sh1 σ1 ca1 sl1 h h1.2
          obtain ⟨pc2, loc2, st2, sh2, σ2, ca2, sl2⟩ := q'
          exact ⟨⟨Nat.le_trans h1.1 h3.1, h3.2⟩, fun X0 Q hG ht hk => h2 X0 Q hG (jgtok_at ht hi) (h4 X0 Q hG ht hk)⟩
end GOK
/-- a constructor's contract out of such a run, and of what goes on behind it -/
theorem jMG_of {y : MethodName} {bytes : ByteArray} {maxL fr lo mc ms stop n : Nat} {G : jgT} {tb : List (Nat × Instr)} {as : List jxV} {sh sh' : List jxC} {σ σ' σ2 : jxS} {loc' : jxL} (hy : plainName y.cls = true) (hc : Nat.ble (jcat as) maxL = true) (hnm : y.name = "<init>") (ht : jgtok bytes tb = true) (hP : jGP G)
    (hG : ∀ X, jAt X y bytes fr lo 0 sh → jgI X → jgIn X → (jroom X).cells = mc ∧ (jroom X).slots = ms → jGT X G) (hrun : jgn G tb stop n (0, jpad maxL as, [], sh, σ, 0, 0) = some (stop, loc', [], sh', σ', mc, ms)) (hJ : jgJ sh σ)
    (hk : ∀ X, jAt X y bytes fr lo 0 sh' → jWj X (jQ X none σ2) stop loc' [] σ') : jMG y bytes maxL 0 fr lo mc ms sh σ as none sh' σ2 := by
  intro l D cy A ad
  refine Met.ofW (cc := bytes) (maxL := maxL) (ret := jrt 0) hy rfl ?_
  intro p e s m args below meth c s₁ B hml hv
  obtain ⟨⟨rfl, hP1, hD, hK, hA, hBG⟩, hAO⟩ := hv
  have hts := atoms_spec (ws := .code y bytes maxL (jrt 0) :: jTB) B.pre
  have hown : s.vm.findClass y.cls = some m.cls := findClass_of_methodNamed B.named
  have hin : meth.name = "<init>" := by rw [← hnm]; exact (name_of_methodNamed B.named B.method).1
  have hX0 : jOK (p, l, e, { frames := fr, cells := mc, slots := ms, locals := lo }, s, m, (as.map (jtoV ad)).toArray, below, meth, c, bytes, maxL, y.cls, D, cy, A, ad, sh, 0, 0, 0) := ⟨B.exec, B.bytes, hml, hown, fun w hw => hts w (List.mem_cons_of_mem _ hw), B.notSynchronized, hK, hA, hBG, B.returns, Nat.zero_le _, Nat.zero_le _⟩
  have hG0 := hG _ ⟨hX0, rfl, rfl, ⟨rfl, rfl⟩, rfl, rfl⟩ hAO hin ⟨rfl, rfl⟩
  obtain ⟨-, h2⟩ := jgn_ok hP n 0 _ [] sh σ 0 0 hrun hJ
  have k := h2 _ (MQ below (jQg D cy A ad sh sh' none σ2) (as.map (jtoV ad)).toArray s mc ms A) hG0 ht (fun X hE => by
    have hok := hE.ok hX0
    have h3 := hk X ⟨hok, hE.cc, hE.own, by rw [hE.room]; exact ⟨rfl, rfl⟩, hE.shp, hE.kd⟩
    obtain ⟨ad', ha, rfl, hca, hsl, hl⟩ := hE
    intro H locs ls hP2 hD2 hS2 hL2 T hT St
    obtain ⟨t, a1, o, b1, b2, ⟨c1, c2, c3⟩, b3⟩ := h3 H locs ls hP2 hD2 hS2 hL2 T hT St
    exact ⟨t, a1, o, b1, b2, ⟨c1, ⟨ad', ha, c2, jW_D hD2⟩, c3⟩, b3⟩) _ (jgE.refl hX0 rfl rfl)
  rw [lg_entry_eq]
  have hl := lv_entry (as.map (jtoV ad)) (n := maxL) (by rw [jcat_sl]; exact jble hc)
  exact k s.heap [] _ hP1 hD va_S.rf ⟨hl.1, hl.2.1, jpad_len as maxL, fun i v hv => hl.2.2 (i, jtoV ad v) (by simpa using jpad_get (ad := ad) as maxL 0 i v (jble hc) hv)⟩
/-- a constructor that only makes cells, as a function -/
def jgfn (G : jgT) (tb : List (Nat × Instr)) (stop n maxL mc ms : Nat) : jgF := fun as sh σ => bif Nat.ble (jcat as) maxL then (match jgn G tb stop n (0, jpad maxL as, [], sh, σ, 0, 0) with
  | some (p, _, [], sh', σ', a, b) => bif Nat.beq p stop && (Nat.beq a mc && Nat.beq b ms) then some (sh', σ', mc, ms) else none
  | _ => none) else none
theorem jgfn_in {G : jgT} {tb : List (Nat × Instr)} {stop n maxL mc ms a b : Nat} {as : List jxV} {sh sh' : List jxC} {σ σ' : jxS} (h : jgfn G tb stop n maxL mc ms as sh σ = some (sh', σ', a, b)) : Nat.ble (jcat as) maxL = true ∧ a = mc ∧ b = ms ∧ ∃ loc', jgn G tb stop n (0, jpad maxL as, [], sh, σ, 0, 0) = some (stop, loc', [], sh', σ', mc, ms) := by
  unfold jgfn at h
  cases hb : Nat.ble (jcat as) maxL with
  | false => rw [hb] at h; cases h
  | true =>
    rw [hb] at h
    simp only [cond_true] at h
    split at h
    · rename_i p loc' sh1 σ1 a1 b1 he
      cases hc : Nat.beq p stop && (Nat.beq a1 mc && Nat.beq b1 ms) with
      | false => rw [hc] at h; cases h
      | true =>
        rw [hc] at h
        simp only [Bool.and_eq_true] at hc
        obtain ⟨c1, c2, c3⟩ := hc
        have c1 := jbeq c1
        have c2 := jbeq c2
        have c3 := jbeq c3
        subst c1; subst c2; subst c3
        cases h
        exact ⟨rfl, rfl, rfl, loc', he⟩
    · cases h
theorem jgfn_p {G : jgT} {tb : List (Nat × Instr)} {stop n maxL mc ms : Nat} (hP : jGP G) : ∀ as sh σ sh' σ' a b, jgfn G tb stop n maxL mc ms as sh σ = some (sh', σ', a, b) → jgJ sh σ → sh.length ≤ sh'.length ∧ jgJ sh' σ' := by
  intro as sh σ sh' σ' a b h hJ
  obtain ⟨-, -, -, loc', h1⟩ := jgfn_in h
  exact (jgn_ok hP n 0 _ [] sh σ 0 0 h1 hJ).1
theorem jgfn_ok {y : MethodName} {bytes : ByteArray} {maxL fr lo mc ms stop n : Nat} {G : jgT} {tb : List (Nat × Instr)} (hy : plainName y.cls = true) (hnm : y.name = "<init>") (ht : jgtok bytes tb = true) (hd : decode bytes stop = .ok (.return_, 1)) (hP : jGP G)
    (hG : ∀ sh X, jAt X y bytes fr lo 0 sh → jgI X → jgIn X → (jroom X).cells = mc ∧ (jroom X).slots = ms → jGT X G) : ∀ as sh σ sh' σ' a b, jgfn G tb stop n maxL mc ms as sh σ = some (sh', σ', a, b) → jgJ sh σ → jMG y bytes maxL 0 fr lo a b sh σ as none sh' σ' := by
  intro as sh σ sh' σ' a b h hJ
  obtain ⟨h0, rfl, rfl, loc', h1⟩ := jgfn_in h
  exact jMG_of hy h0 hnm ht hP (hG sh) h1 hJ (fun X hA => jw_vret hA.1 hA.2.2.2.2.2 (by rw [hA.2.1]; exact hd))
