/-! Calls out of the law: one world changes, the other stays. -/
section LWC
variable {p : Program} {l : Launch} {e : Env} {s : State} {m : MethodId} {below : List Frame} {meth : Method} {c : Code} {H : Heap} {locs : List Loc} {Q : State → Prop} {pc : Nat} {ls : Array Slot} {rest : List Value} {D : va_G} {cy : Nat → ClassId} {ad ad2 : Nat → Nat} {sh sh' sh2 : List jxC} {v : Option jxV} {σ σ1 σ2 : jxS} {ca sl mc ms b : Nat}
/-- what stands at every place of the law -/
def jLw (p : Program) (s : State) (m : MethodId) (c : Code) (b : Nat) (D : va_G) (cy : Nat → ClassId) : Prop := p.tables.exec = Jvm.exec ∧ c.code = code ∧ c.maxLocals = 4 ∧ s.vm.findClass RL = some m.cls ∧ (∀ w ∈ jTB, w.before #[Value.ref b] s = true) ∧ va_K D vwCl (jtys cy) s ∧ va_AO "LastLoses$Quotient" s
theorem jW_ix {i : Nat} {x : Nat × va_E} (h : (jW ad cy sh σ)[i]? = some x) : i < sh.length ∧ x.1 = ad i := by
  rw [jW, List.getElem?_mapIdx] at h
  cases hc : sh[i]? with
  | none => rw [hc] at h; cases h
  | some c0 =>
    rw [hc] at h
    cases h
    exact ⟨(List.getElem?_eq_some_iff.mp hc).1, rfl⟩
theorem jW_ad_at {i : Nat} (h : i < sh.length) : ∃ ev, (jW ad cy sh σ)[i]? = some (ad i, ev) := ⟨_, jW_get (List.getElem?_eq_getElem h)⟩
theorem jA1_in (hD : va_D (fun q => s.heap.size ≤ q) (jW ad cy sh σ)) (hS : va_S (fun q => s.heap.size ≤ q) s.heap H locs) : ∀ q, va_A (jW ad cy sh σ) H.size q → s.heap.size ≤ q := by
  intro q hq
  rcases hq with ⟨k, ev, hk⟩ | h
  · exact hD.2 k _ hk
  · exact Nat.le_trans hS.1 h
theorem jA1_not (hap : ∀ i j, i < sh.length → j < sh2.length → ad i ≠ ad2 j) (hP2 : va_P D vwCl (jW ad2 cy sh2 σ2) H) {j : Nat} (hj : j < sh2.length) : ad2 j < H.size ∧ ¬ va_A (jW ad cy sh σ) H.size (ad2 j) := by
  obtain ⟨ev, hev⟩ := jW_ad_at (ad := ad2) (cy := cy) (σ := σ2) hj
  have hlt : ad2 j < H.size := (hP2 j _ hev).lt
  refine ⟨hlt, fun q => ?_⟩
  rcases q with ⟨k, ev2, hk⟩ | h
  · obtain ⟨h1, h2⟩ := jW_ix hk
    exact hap k j h1 hj h2.symm
  · omega
theorem jA1_kept (hap : ∀ i j, i < sh.length → j < sh2.length → ad i ≠ ad2 j) (hP2 : va_P D vwCl (jW ad2 cy sh2 σ2) H) {H1 : Heap} (hk : ∀ q : Nat, q < H.size → ¬ va_A (jW ad cy sh σ) H.size q → H1[q]? = H[q]?) : va_P D vwCl (jW ad2 cy sh2 σ2) H1 := by
  refine hP2.kept (fun k x hx => ?_)
  obtain ⟨h1, h2⟩ := jW_ix hx
  obtain ⟨h3, h4⟩ := jA1_not hap hP2 h1
  rw [h2]
  exact hk _ h3 h4
theorem jlaw_pre {as : List jxV} (hw : jLw p s m c b D cy) (hBG : jBG ad (fun q => s.heap.size ≤ q) s) (hP : va_P D vwCl (jW ad cy sh σ) H) (hD : va_D (fun q => s.heap.size ≤ q) (jW ad cy sh σ)) (hS : va_S (fun q => s.heap.size ≤ q) s.heap H locs) (U : State) (hU : U.heap = H) (hW : s.WarmedH U.vm) : jPg D cy (va_A (jW ad cy sh σ) H.size) ad sh σ as (as.map (jtoV ad)).toArray U := by
  obtain ⟨-, -, -, -, -, hK, hAO⟩ := hw
  refine ⟨⟨rfl, by rw [hU]; exact hP, hD.self, va_K.moved hW.alike hK, fun q hq => Or.inr (by rw [← hU]; exact hq), (hBG.narrow (jA1_in hD hS)).go hW (fun a ha _ => ?_)⟩, va_AO.moved hW.alike hAO⟩
  rw [hU]
  exact hS.2.1 a ha (Nat.not_le.mpr ha)
/-- a call that makes no cell -/
theorem law_callV {idx n fr lo maxL kd ci : Nat} {y : MethodName} {bytes : ByteArray} {fks : List jxF} {Tc : u_T} {N : Nat} {as : List jxV} (hM : jMC y bytes maxL (jrt kd) fr lo sh σ (jmr 0 :: as) v σ1) (hl : jLkV RL idx y bytes maxL kd n) (hr : fr + 1 ≤ 12 ∧ 8 + (maxL + 11) + lo ≤ 434) (hs0 : sh[0]? = some (.inl (ci, fks))) (hc : vwCl[ci]? = some (y.cls, Tc, N)) (hn : as.length = n)
    (hw : jLw p s m c b D cy) (hBG : jBG ad (fun q => s.heap.size ≤ q) s) (hP : va_P D vwCl (jW ad cy sh σ) H) (hP2 : va_P D vwCl (jW ad2 cy sh2 σ2) H) (hD : va_D (fun q => s.heap.size ≤ q) (jW ad cy sh σ)) (hap : ∀ i j, i < sh.length → j < sh2.length → ad i ≠ ad2 j) (hS : va_S (fun q => s.heap.size ≤ q) s.heap H locs) (hls : ls.size = 4) (hcat : (rest.map fun v => v.category).sum ≤ 8) (hf : ca ≤ 600000 ∧ sl ≤ 7302250) (hd : decode code pc = .ok (.invokevirtual idx, 3))
    (hk : ∀ (H1 : Heap) (locs1 : List Loc), va_P D vwCl (jW ad cy sh σ1) H1 → va_P D vwCl (jW ad2 cy sh2 σ2) H1 → va_S (fun q => s.heap.size ≤ q) s.heap H1 locs1 → W p l e room_1 s m #[Value.ref b] below meth c H1 locs1 ca sl Q (F0 m (pc + 3) ls ((v.map (jtoV ad)).toList ++ rest))) : W p l e room_1 s m #[Value.ref b] below meth c H locs ca sl Q (F0 m pc ls ((as.map (jtoV ad)).reverse ++ .ref (ad 0) :: rest)) := by
  obtain ⟨hx, hb, hml, hown, hts, hK, hAO⟩ := id hw
  have hg := jGoodV hl
  have h6 := hl.2.2.2.2.2
  have hrun : va_Run p l e room_1 s m #[Value.ref b] below meth c H locs ca sl 0 0 (F0 m pc ls ((as.map (jtoV ad)).reverse ++ .ref (ad 0) :: rest)) rest (jQc D cy (va_A (jW ad cy sh σ) H.size) ad sh v σ1 ((jmr 0 :: as).map (jtoV ad)).toArray) (va_A (jW ad cy sh σ) H.size) := va_runV (g := F0 m pc ls ((as.map (jtoV ad)).reverse ++ .ref (ad 0) :: rest)) (rest := rest) (locs := locs) (cells := ca) (slots := sl) (nL := 4) (As := as.map (jtoV ad)) (b := ad 0) ⟨hx, hb, hml, hown, hts⟩ (hM l D cy (va_A (jW ad cy sh σ) H.size) ad) (cwV n hts hg rfl rfl rfl ⟨rfl, h6⟩ hr) ⟨jPc_blind, va_recv hK hP hc (jW_get hs0), fun U hU hW => (jlaw_pre (as := jmr 0 :: as) hw hBG hP hD hS U hU hW).1⟩ rfl (by simpa using hn) hls rfl (lv_room hcat) hd hf
  intro T hT X
  obtain ⟨w, st₀, t, T', L, h0, X', hL, e1, e2, ⟨hv, hP1, hz, hq⟩, st⟩ := hrun T hT X
  cases hv
  rw [h0] at hz hq
  have hin := jA1_in hD hS
  have hq' : ∀ q : Nat, q < H.size → ¬ va_A (jW ad cy sh σ) H.size q → T'.heap[q]? = H[q]? := fun q h1 h2 => by rw [e1]; exact hq q h1 h2
  obtain ⟨t2, a1, b1⟩ := hk T'.heap (locs ++ L) (by rw [e1]; exact hP1) (jA1_kept hap hP2 hq')
    ⟨Nat.le_trans hS.1 (by rw [e1]; exact hz), fun q h1 h2 => by rw [hq' q (Nat.lt_of_lt_of_le h1 hS.1) (fun z => h2 (hin q z))]; exact hS.2.1 q h1 h2, fun q hq => by
      rcases List.mem_append.mp hq with h | h
      · exact hS.2.2 q h
      · exact hin _ (hL q h)⟩ T' rfl X'
  exact ⟨t2, st t2 a1, b1⟩
/-- behind a call that makes cells -/
theorem law_onG {st0 : List Value} {a : Array Value} (hrun : va_Run p l e room_1 s m #[Value.ref b] below meth c H locs ca sl mc ms (F0 m pc ls st0) rest (jQg D cy (va_A (jW ad cy sh σ) H.size) ad sh sh' v σ1 a) (va_A (jW ad cy sh σ) H.size)) (hP2 : va_P D vwCl (jW ad2 cy sh2 σ2) H) (hD : va_D (fun q => s.heap.size ≤ q) (jW ad cy sh σ)) (hap : ∀ i j, i < sh.length → j < sh2.length → ad i ≠ ad2 j) (hS : va_S (fun q => s.heap.size ≤ q) s.heap H locs)
    (hk : ∀ (H1 : Heap) (locs1 : List Loc) (ad' : Nat → Nat), (∀ i, i < sh.length ∨ 1000 ≤ i → ad' i = ad i) → va_P D vwCl (jW ad' cy sh' σ1) H1 → va_D (fun q => s.heap.size ≤ q) (jW ad' cy sh' σ1) → va_P D vwCl (jW ad2 cy sh2 σ2) H1 → (∀ i j, i < sh'.length → j < sh2.length → ad' i ≠ ad2 j) → va_S (fun q => s.heap.size ≤ q) s.heap H1 locs1 → W p l e room_1 s m #[Value.ref b] below meth c H1 locs1 (ca + mc) (sl + ms) Q (F0 m (pc + 3) ls ((v.map (jtoV ad)).toList ++ rest))) : W p l e room_1 s m #[Value.ref b] below meth c H locs ca sl Q (F0 m pc ls st0) := by
  have hin := jA1_in hD hS
  refine jcallG_on hrun hS hin (fun H1 locs1 ad' ha hP1 hD1 hS1 hz hq => ?_)
  refine hk H1 locs1 ad' ha hP1 (hD1.weaken (fun k x _ z => hin _ z)) (jA1_kept hap hP2 hq) (fun i j hi hj e => ?_) hS1
  obtain ⟨ev, hev⟩ := jW_ad_at (ad := ad') (cy := cy) (σ := σ1) hi
  have h1 := hD1.2 i _ hev
  exact (jA1_not hap hP2 hj).2 (e ▸ h1)
theorem law_callG {idx n fr lo maxL kd ci : Nat} {y : MethodName} {bytes : ByteArray} {fks : List jxF} {Tc : u_T} {N : Nat} {as : List jxV} (hM : jMG y bytes maxL kd fr lo mc ms sh σ (jmr 0 :: as) v sh' σ1) (hl : jLkV RL idx y bytes maxL kd n) (hr : fr + 1 ≤ 12 ∧ 8 + (maxL + 11) + lo ≤ 434) (hs0 : sh[0]? = some (.inl (ci, fks))) (hc : vwCl[ci]? = some (y.cls, Tc, N)) (hn : as.length = n)
    (hw : jLw p s m c b D cy) (hBG : jBG ad (fun q => s.heap.size ≤ q) s) (hP : va_P D vwCl (jW ad cy sh σ) H) (hP2 : va_P D vwCl (jW ad2 cy sh2 σ2) H) (hD : va_D (fun q => s.heap.size ≤ q) (jW ad cy sh σ)) (hap : ∀ i j, i < sh.length → j < sh2.length → ad i ≠ ad2 j) (hS : va_S (fun q => s.heap.size ≤ q) s.heap H locs) (hls : ls.size = 4) (hcat : (rest.map fun v => v.category).sum ≤ 8) (hf : ca + mc ≤ 600000 ∧ sl + ms ≤ 7302250) (hd : decode code pc = .ok (.invokevirtual idx, 3))
    (hk : ∀ (H1 : Heap) (locs1 : List Loc) (ad' : Nat → Nat), (∀ i, i < sh.length ∨ 1000 ≤ i → ad' i = ad i) → va_P D vwCl (jW ad' cy sh' σ1) H1 → va_D (fun q => s.heap.size ≤ q) (jW ad' cy sh' σ1) → va_P D vwCl (jW ad2 cy sh2 σ2) H1 → (∀ i j, i < sh'.length → j < sh2.length → ad' i ≠ ad2 j) → va_S (fun q => s.heap.size ≤ q) s.heap H1 locs1 → W p l e room_1 s m #[Value.ref b] below meth c H1 locs1 (ca + mc) (sl + ms) Q (F0 m (pc + 3) ls ((v.map (jtoV ad)).toList ++ rest))) : W p l e room_1 s m #[Value.ref b] below meth c H locs ca sl Q (F0 m pc ls ((as.map (jtoV ad)).reverse ++ .ref (ad 0) :: rest)) := by
  obtain ⟨hx, hb, hml, hown, hts, hK, hAO⟩ := id hw
  have hg := jGoodV hl
  have h6 := hl.2.2.2.2.2
  refine law_onG (σ2 := σ2) (va_runV (g := F0 m pc ls ((as.map (jtoV ad)).reverse ++ .ref (ad 0) :: rest)) (rest := rest) (locs := locs) (cells := ca) (slots := sl) (nL := 4) (As := as.map (jtoV ad)) (b := ad 0) ⟨hx, hb, hml, hown, hts⟩ (hM l D cy (va_A (jW ad cy sh σ) H.size) ad) (cwV n hts hg rfl rfl rfl ⟨rfl, h6⟩ hr) ⟨jPg_blind, va_recv hK hP hc (jW_get hs0), fun U hU hW => jlaw_pre (as := jmr 0 :: as) hw hBG hP hD hS U hU hW⟩ rfl (by simpa using hn) hls rfl (lv_room hcat) hd hf) hP2 hD hap hS hk
/-- a constructor's call -/
theorem law_callI {idx fr lo maxL : Nat} {y : MethodName} {bytes : ByteArray} (hM : jMG y bytes maxL 0 fr lo mc ms sh σ [jmr 0] none sh' σ1) (hl : jLkI RL idx y bytes maxL 0) (hr : fr + 1 ≤ 12 ∧ 8 + (maxL + 11) + lo ≤ 434)
    (hw : jLw p s m c b D cy) (hBG : jBG ad (fun q => s.heap.size ≤ q) s) (hP : va_P D vwCl (jW ad cy sh σ) H) (hP2 : va_P D vwCl (jW ad2 cy sh2 σ2) H) (hD : va_D (fun q => s.heap.size ≤ q) (jW ad cy sh σ)) (hap : ∀ i j, i < sh.length → j < sh2.length → ad i ≠ ad2 j) (hS : va_S (fun q => s.heap.size ≤ q) s.heap H locs) (hls : ls.size = 4) (hcat : (rest.map fun v => v.category).sum ≤ 8) (hf : ca + mc ≤ 600000 ∧ sl + ms ≤ 7302250) (hd : decode code pc = .ok (.invokespecial idx, 3))
    (hk : ∀ (H1 : Heap) (locs1 : List Loc) (ad' : Nat → Nat), (∀ i, i < sh.length ∨ 1000 ≤ i → ad' i = ad i) → va_P D vwCl (jW ad' cy sh' σ1) H1 → va_D (fun q => s.heap.size ≤ q) (jW ad' cy sh' σ1) → va_P D vwCl (jW ad2 cy sh2 σ2) H1 → (∀ i j, i < sh'.length → j < sh2.length → ad' i ≠ ad2 j) → va_S (fun q => s.heap.size ≤ q) s.heap H1 locs1 → W p l e room_1 s m #[Value.ref b] below meth c H1 locs1 (ca + mc) (sl + ms) Q (F0 m (pc + 3) ls rest)) : W p l e room_1 s m #[Value.ref b] below meth c H locs ca sl Q (F0 m pc ls (.ref (ad 0) :: rest)) := by
  obtain ⟨hx, hb, hml, hown, hts, hK, hAO⟩ := id hw
  obtain ⟨h1, h2, h3, h4, h5, h6⟩ := hl
  refine law_onG (σ2 := σ2) (v := none) (a := ((jmr 0 :: ([] : List jxV)).map (jtoV ad)).toArray) ?_ hP2 hD hap hS hk
  rcases h1 with h1 | ⟨host, h1⟩
  · exact va_runI (g := F0 m pc ls (.ref (ad 0) :: rest)) (rest := rest) (locs := locs) (cells := ca) (slots := sl) (nL := 4) (As := []) (b := ad 0) ⟨hx, hb, hml, hown, hts⟩ (hM l D cy (va_A (jW ad cy sh σ) H.size) ad) (cwI 0 hts (jTB_in (fun _ h => h) h4) rfl rfl rfl (hts _ h3) (hts _ h1) (hts _ h2) h5 h6 hr) ⟨jPg_blind, fun U hU hW => jlaw_pre (as := [jmr 0]) hw hBG hP hD hS U hU hW⟩ rfl rfl hls rfl (lv_room hcat) hd hf
  · exact va_runIN (g := F0 m pc ls (.ref (ad 0) :: rest)) (rest := rest) (locs := locs) (cells := ca) (slots := sl) (nL := 4) (As := []) (b := ad 0) ⟨hx, hb, hml, hown, hts⟩ (hM l D cy (va_A (jW ad cy sh σ) H.size) ad) ⟨va_cnB 0 hts (jTB_in (fun _ h => h) h4) rfl rfl rfl (hBG.1 _ h1) (hts _ h3) h6 hr, h5, hts _ h2⟩ ⟨jPg_blind, fun U hU hW => jlaw_pre (as := [jmr 0]) hw hBG hP hD hS U hU hW⟩ rfl rfl hls rfl (lv_room hcat) hd hf
end LWC
