/-! A contract out of a run; a call out of a contract. -/
section JD
theorem jpad_len (as : List jxV) : ∀ n, (jpad n as).length ≤ n := by
  induction as with
  | nil => intro n; simp [jpad]
  | cons a t ih =>
    intro n
    match a, n with
    | .inl x, 0 => simp [jpad]
    | .inl x, n + 1 => simp only [jpad, List.length_cons]; have := ih n; omega
    | .inr (.inl x), 0 => simp [jpad]
    | .inr (.inl x), 1 => simp only [jpad, List.length_cons]; have := ih 0; omega
    | .inr (.inl x), n + 2 => simp only [jpad, List.length_cons]; have := ih n; omega
    | .inr (.inr x), 0 => simp [jpad]
    | .inr (.inr x), n + 1 => simp only [jpad, List.length_cons]; have := ih n; omega
theorem jpad_get {ad : Nat → Nat} (as : List jxV) : ∀ (n b i : Nat) (v : jxV), jcat as ≤ n → jget (jpad n as) i = some v → (b + i, jtoV ad v) ∈ lv_args b (as.map (jtoV ad)) := by
  induction as with
  | nil =>
    intro n b i v _ h
    exfalso
    have hz : ∀ (n i : Nat), jget (List.replicate n none) i = none := by
      intro n
      induction n with
      | zero => intro i; simp [jget]
      | succ n ih => intro i; cases i <;> simp [List.replicate_succ, jget, ih]
    simp [jpad, hz] at h
  | cons a t ih =>
    intro n b i v hc h
    match a, n with
    | .inl x, 0 => simp [jcat] at hc
    | .inl x, n + 1 =>
      simp only [jpad] at h
      simp only [jcat] at hc
      cases i with
      | zero => simp only [jget, Option.some.injEq] at h; subst h; simp [lv_args]
      | succ i =>
        have := ih n (b + 1) i v (by omega) (by simpa [jget] using h)
        have e : b + 1 + i = b + (i + 1) := by omega
        rw [e] at this
        exact List.mem_cons_of_mem _ this
    | .inr (.inl x), 0 => simp [jcat] at hc
    | .inr (.inl x), 1 => simp [jcat] at hc
    | .inr (.inl x), n + 2 =>
      simp only [jpad] at h
      simp only [jcat] at hc
      match i with
      | 0 => simp only [jget, Option.some.injEq] at h; subst h; simp [lv_args]
      | 1 => simp [jget] at h
      | i + 2 =>
        have := ih n (b + 2) i v (by omega) (by simpa [jget] using h)
        have e : b + 2 + i = b + (i + 2) := by omega
        rw [e] at this
        exact List.mem_cons_of_mem _ this
    | .inr (.inr x), 0 => match x, hc with
      | .inl x, hc => simp [jcat] at hc
      | .inr x, hc => simp [jcat] at hc
    | .inr (.inr x), n + 1 =>
      have hc' : jcat t ≤ n := by
        match x, hc with
        | .inl x, hc => simp only [jcat] at hc; omega
        | .inr x, hc => simp only [jcat] at hc; omega
      have h1 : (if (jtoV ad (.inr (.inr x))).category = 2 then b + 2 else b + 1) = b + 1 := by
        match x with
        | .inl x => rfl
        | .inr x => rfl
      simp only [jpad] at h
      cases i with
      | zero => simp only [jget, Option.some.injEq] at h; subst h; simp [lv_args]
      | succ i =>
        have := ih n (b + 1) i v hc' (by simpa [jget] using h)
        have e : b + 1 + i = b + (i + 1) := by omega
        rw [e] at this
        simp only [List.map_cons, lv_args, h1]
        exact List.mem_cons_of_mem _ this
theorem jcat_sl {ad : Nat → Nat} (as : List jxV) : (lg_sl (as.map (jtoV ad))).length = jcat as := by
  induction as with
  | nil => rfl
  | cons a t ih =>
    have e : ∀ v, lg_sl (v :: t.map (jtoV ad)) = (if v.category = 2 then [Slot.val v, .second] else [.val v]) ++ lg_sl (t.map (jtoV ad)) := fun v => rfl
    rw [List.map_cons, e, List.length_append, ih]
    match a with
    | .inl x => simp [jtoV, Value.category, jcat]; omega
    | .inr (.inl x) => simp [jtoV, Value.category, jcat]; omega
    | .inr (.inr (.inl x)) => simp [jtoV, Value.category, jcat]; omega
    | .inr (.inr (.inr x)) => simp [jtoV, Value.category, jcat]; omega
theorem jcat_sum {ad : Nat → Nat} (as : List jxV) : ((as.map (jtoV ad)).map fun v => v.category).sum = jcat as := by
  induction as with
  | nil => rfl
  | cons a t ih =>
    rw [List.map_cons, List.map_cons, List.sum_cons, ih]
    match a with
    | .inl x => simp [jtoV, Value.category, jcat]; omega
    | .inr (.inl x) => simp [jtoV, Value.category, jcat]; omega
    | .inr (.inr (.inl x)) => simp [jtoV, Value.category, jcat]; omega
    | .inr (.inr (.inr x)) => simp [jtoV, Value.category, jcat]; omega
def jroom (X : jxX) : Room := match X with
  | (_, _, _, R, _) => R
/-- where a method is at its start -/
def jAt (X : jxX) (y : MethodName) (bytes : ByteArray) (fr lo kd : Nat) (sh : List jxC) : Prop := jOK X ∧ jcc X = bytes ∧ jown X = y.cls ∧ ((jroom X).frames = fr ∧ (jroom X).locals = lo) ∧ jsh X = sh ∧ jkd X = kd
theorem jMC_of {y : MethodName} {bytes : ByteArray} {maxL fr lo kd : Nat} {sh : List jxC} {σ σ' : jxS} {as : List jxV} {f : Option jxR} {x : Int} (hy : plainName y.cls = true) (hc : Nat.ble (jcat as) maxL = true) (h : f = some (x, σ'))
    (hb : ∀ X, jAt X y bytes fr lo kd sh → jRf X f 0 (jpad maxL as) [] σ) : jMC y bytes maxL (jrt kd) fr lo sh σ as (jrv kd x) σ' := by
  intro l D cy A ad
  refine Met.ofW (cc := bytes) (maxL := maxL) (ret := jrt kd) hy rfl ?_
  intro p e s m args below meth c s₁ B hml hv
  obtain ⟨rfl, hP, hD, hK, hA, hBG⟩ := hv
  have hts := atoms_spec (ws := .code y bytes maxL (jrt kd) :: jTB) B.pre
  have hown : s.vm.findClass y.cls = some m.cls := findClass_of_methodNamed B.named
  have k := hb (p, l, e, { frames := fr, cells := 0, slots := 0, locals := lo }, s, m, (as.map (jtoV ad)).toArray, below, meth, c, bytes, maxL, y.cls, D, cy, A, ad, sh, kd, 0, 0) ⟨⟨B.exec, B.bytes, hml, hown, fun w hw => hts w (List.mem_cons_of_mem _ hw), B.notSynchronized, hK, hA, hBG, B.returns, Nat.le_refl _, Nat.le_refl _⟩, rfl, rfl, ⟨rfl, rfl⟩, rfl, rfl⟩ x σ' h
  rw [lg_entry_eq]
  have hl := lv_entry (as.map (jtoV ad)) (n := maxL) (by rw [jcat_sl]; exact jble hc)
  exact k s.heap [] _ hP hD va_S.rf ⟨hl.1, hl.2.1, jpad_len as maxL, fun i v hv => hl.2.2 (i, jtoV ad v) (by simpa using jpad_get (ad := ad) as maxL 0 i v (jble hc) hv)⟩
section CA
variable {p : Program} {l : Launch} {e : Env} {R : Room} {s : State} {m : MethodId} {args : Array Value} {below : List Frame} {meth : Method} {c : Code} {H : Heap} {locs : List Loc} {Q : State → Prop} {pc : Nat} {ls : Array Slot} {rest st0 : List Value} {a : Array Value} {D : va_G} {cy : Nat → ClassId} {A : Nat → Prop} {ad : Nat → Nat} {sh : List jxC} {v : Option jxV} {σ1 : jxS} {ca sl : Nat}
theorem jcall_on (hr : va_Run p l e R s m args below meth c H locs ca sl 0 0 (F0 m pc ls st0) rest (jQc D cy A ad sh v σ1 a) A) (hS : va_S A s.heap H locs)
    (hk : ∀ (H1 : Heap) (locs1 : List Loc), va_P D vwCl (jW ad cy sh σ1) H1 → va_S A s.heap H1 locs1 → W p l e R s m args below meth c H1 locs1 ca sl Q (F0 m (pc + 3) ls ((v.map (jtoV ad)).toList ++ rest))) : W p l e R s m args below meth c H locs ca sl Q (F0 m pc ls st0) := by
  intro T hT X
  obtain ⟨w, st₀, t, T', L, h0, X', hL, e1, e2, ⟨hv, hP, hz, hq⟩, st⟩ := hr T hT X
  cases hv
  rw [h0] at hz hq
  obtain ⟨t2, a1, b1⟩ := hk T'.heap (locs ++ L) (by rw [e1]; exact hP)
    ⟨Nat.le_trans hS.1 (by rw [e1]; exact hz), fun q h1 h2 => by rw [e1, hq q (Nat.lt_of_lt_of_le h1 hS.1) h2]; exact hS.2.1 q h1 h2, fun q hq => by
      rcases List.mem_append.mp hq with h | h
      · exact hS.2.2 q h
      · exact hL q h⟩ T' rfl X'
  exact ⟨t2, st t2 a1, b1⟩
theorem jpre {as : List jxV} {σ : jxS} (hP : va_P D vwCl (jW ad cy sh σ) H) (hD : va_D A (jW ad cy sh σ)) (hS : va_S A s.heap H locs) (hK : va_K D vwCl (jtys cy) s) (hA : ∀ q, s.heap.size ≤ q → A q) (hB : jBG ad A s) (U : State) (hU : U.heap = H) (hW : s.WarmedH U.vm) : jPc D cy A ad sh σ as (as.map (jtoV ad)).toArray U :=
  ⟨rfl, by rw [hU]; exact hP, hD, va_K.moved hW.alike hK, fun q hq => hA q (Nat.le_trans hS.1 (by rw [← hU]; exact hq)), hB.go hW (by rw [hU]; exact hS.2.1)⟩
end CA
variable {X : jxX} {y : MethodName} {bytes : ByteArray} {maxL fr lo kd n idx : Nat} {σ σ1 : jxS} {v : Option jxV}
/-- what the tables say of a call -/
def jLkV (own : String) (idx : Nat) (y : MethodName) (bytes : ByteArray) (maxL kd n : Nat) : Prop := Cond.methodLink own idx y ∈ jTB ∧ Cond.instanceMethod y ∈ jTB ∧ Cond.selects y.cls y y ∈ jTB ∧ Cond.initialized y.cls ∈ jTB ∧ Cond.code y bytes maxL (jrt kd) ∈ jTB ∧ (y.cls ≠ "java/lang/invoke/MethodHandle" ∧ y.cls ≠ "java/lang/invoke/VarHandle" ∧ (parseMethodDescriptor y.desc).map (fun d => d.parameters.length) = some n)
def jLkS (own : String) (idx : Nat) (y : MethodName) (bytes : ByteArray) (maxL kd n : Nat) : Prop := (Cond.methodLink own idx y ∈ jTB ∨ ∃ host, Cond.methodLinkNest own idx y host ∈ jNS) ∧ Cond.static y ∈ jTB ∧ Cond.initialized y.cls ∈ jTB ∧ Cond.code y bytes maxL (jrt kd) ∈ jTB ∧ (y.cls ≠ "java/lang/invoke/MethodHandle" ∧ y.cls ≠ "java/lang/invoke/VarHandle" ∧ (parseMethodDescriptor y.desc).map (fun d => d.parameters.length) = some n)
theorem jGoodV {own : String} (h : jLkV own idx y bytes maxL kd n) : GoodIn jTB (wsV own idx y.cls y (.code y bytes maxL (jrt kd) :: jTB)) := by
  obtain ⟨h1, h2, h3, h4, h5, -⟩ := h
  have g : ∀ {w}, w ∈ jTB → w ∈ jTB ∧ ((w.onTables && w.keeps) = true ∨ ∃ ty, w = .arrayClass ty) := fun h => ⟨h, good_of_word (jTB_good h)⟩
  intro w hw
  unfold wsV at hw
  rcases List.mem_append.mp hw with hw | hw
  · simp only [List.mem_cons, List.not_mem_nil, or_false] at hw
    rcases hw with rfl | rfl | rfl | rfl
    · exact g h1
    · exact g h2
    · exact g h3
    · exact g h4
  · exact jTB_in (fun _ h => h) h5 w hw
theorem jCallV {id ci : Nat} {fks : List jxF} {T : u_T} {N : Nat} {as : List jxV} (hX : jOK X) (hl : jLkV (jown X) idx y bytes maxL kd n) (hr : fr + 1 ≤ (jroom X).frames ∧ 8 + (maxL + 11) + lo ≤ (jroom X).locals) (hs : (jsh X)[id]? = some (.inl (ci, fks))) (hc : vwCl[ci]? = some (y.cls, T, N)) (hn : as.length = n)
    (hM : jMC y bytes maxL (jrt kd) fr lo (jsh X) σ (jmr id :: as) v σ1) : jCall X (.invokevirtual idx) (jmr id :: as) v σ σ1 := by
  intro Q pc loc rest hd hcat hk
  obtain ⟨p, l, e, R, s, m, args, below, meth, c, cc, nL, own, D, cy, A, ad, sh, kd', ca, sl⟩ := X
  obtain ⟨hx, hb, hml, hown, hts, hlk, hK, hA, hBG, hrt, hca, hsl⟩ := hX
  intro H locs ls hP hD hS hL
  have hg := jGoodV hl
  obtain ⟨h1, h2, h3, h4, h5, h6⟩ := hl
  have hrun : va_Run p l e R s m args below meth c H locs ca sl 0 0 (F0 m pc ls (((jmr id :: as).reverse ++ rest).map (jtoV ad))) (rest.map (jtoV ad)) (jQc D cy A ad sh v σ1 ((jmr id :: as).map (jtoV ad)).toArray) A := va_runV (g := F0 m pc ls (((jmr id :: as).reverse ++ rest).map (jtoV ad))) (rest := rest.map (jtoV ad)) (locs := locs) (cells := ca) (slots := sl) (nL := nL) (As := as.map (jtoV ad)) (b := ad id) ⟨hx, hb, hml, hown, hts⟩ (hM l D cy A ad) (cwV n hts hg rfl rfl rfl ⟨rfl, h6⟩ hr) ⟨jPc_blind, va_recv hK hP hc (jW_get hs), fun U hU hW => jpre (as := jmr id :: as) hP hD hS hK hA hBG U hU hW⟩ rfl (by simpa using hn) hL.1
    (by simp [List.map_append, List.map_reverse, jtoV]) (lv_room (by rw [jcat_sum]; exact hcat)) hd ⟨hca, hsl⟩
  refine jcall_on hrun hS (fun H1 locs1 hP1 hS1 => ?_)
  have k := hk H1 locs1 ls hP1 (jW_D hD) hS1 hL
  cases v with
  | none => exact k
  | some w => exact k
theorem jCallS {as : List jxV} (hX : jOK X) (hl : jLkS (jown X) idx y bytes maxL kd n) (hr : fr + 1 ≤ (jroom X).frames ∧ 8 + (maxL + 11) + lo ≤ (jroom X).locals) (hn : as.length = n)
    (hM : jMC y bytes maxL (jrt kd) fr lo (jsh X) σ as v σ1) : jCall X (.invokestatic idx) as v σ σ1 := by
  intro Q pc loc rest hd hcat hk
  obtain ⟨p, l, e, R, s, m, args, below, meth, c, cc, nL, own, D, cy, A, ad, sh, kd', ca, sl⟩ := X
  obtain ⟨hx, hb, hml, hown, hts, hlk, hK, hA, hBG, hrt, hca, hsl⟩ := hX
  intro H locs ls hP hD hS hL
  obtain ⟨h1, h2, h3, h4, h5⟩ := hl
  have fin : va_Run p l e R s m args below meth c H locs ca sl 0 0 (F0 m pc ls ((as.reverse ++ rest).map (jtoV ad))) (rest.map (jtoV ad)) (jQc D cy A ad sh v σ1 (as.map (jtoV ad)).toArray) A := by
    rcases h1 with h1 | ⟨host, h1⟩
    · exact va_runS (g := F0 m pc ls ((as.reverse ++ rest).map (jtoV ad))) (rest := rest.map (jtoV ad)) (locs := locs) (cells := ca) (slots := sl) (nL := nL) (As := as.map (jtoV ad)) ⟨hx, hb, hml, hown, hts⟩ (hM l D cy A ad) ⟨callB_of n hts (jTB_in (fun _ h => h) h4) rfl rfl rfl (hts _ h3) (hts _ h1) h5 hr, hts _ h2⟩ ⟨jPc_blind, fun U hU hW => jpre hP hD hS hK hA hBG U hU hW⟩ rfl (by simpa using hn) hL.1
        (by simp [List.map_append, List.map_reverse]) (lv_room (by rw [jcat_sum]; exact hcat)) hd ⟨hca, hsl⟩
    · exact va_runSN (g := F0 m pc ls ((as.reverse ++ rest).map (jtoV ad))) (rest := rest.map (jtoV ad)) (locs := locs) (cells := ca) (slots := sl) (nL := nL) (As := as.map (jtoV ad)) ⟨hx, hb, hml, hown, hts⟩ (hM l D cy A ad) ⟨va_cnB n hts (jTB_in (fun _ h => h) h4) rfl rfl rfl (hBG.1 _ h1) (hts _ h3) h5 hr, hts _ h2, trivial⟩ ⟨jPc_blind, fun U hU hW => jpre hP hD hS hK hA hBG U hU hW⟩ rfl (by simpa using hn) hL.1
        (by simp [List.map_append, List.map_reverse]) (lv_room (by rw [jcat_sum]; exact hcat)) hd ⟨hca, hsl⟩
  refine jcall_on fin hS (fun H1 locs1 hP1 hS1 => ?_)
  have k := hk H1 locs1 ls hP1 (jW_D hD) hS1 hL
  cases v with
  | none => exact k
  | some w => exact k
end JD
