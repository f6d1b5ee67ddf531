/-! The tape, both sides: feed, end. -/
section TA
variable {F : Nat} {σ : jxS}
theorem bs_shc : ∀ k : Nat, k < 32 → ((jI (k : Int) &&& 31).toBitVec.smod 32).toNat = k := by decide +kernel
theorem bs_shr0 (a s : Int32) (k : Nat) (hs : (s.toBitVec.smod 32).toNat = k) : (a >>> s).toInt = a.toInt >>> k := by
  rw [← hs]
  show (a.toBitVec.sshiftRight' (s.toBitVec.smod 32)).toInt = _
  rw [BitVec.sshiftRight', BitVec.toInt_sshiftRight]
  rfl
theorem bs_shr {x : Int} {k : Nat} (hx : iR x) (hk : k < 32) : jshr x (k : Int) = x / 2 ^ k := by
  rw [jshr, bs_shr0 _ _ k (bs_shc k hk), jw_toInt, jw_id hx.1 hx.2, Int.shiftRight_eq_div_pow, Int.natCast_pow]
  rfl
def byt (v : Int) (s : Nat) : Nat := (v / 2 ^ s % 256).toNat
theorem byt_lt (v : Int) (s : Nat) : byt v s < 256 := by
  unfold byt
  omega
theorem byt_int (v : Int) (s : Nat) : (byt v s : Int) = v / 2 ^ s % 256 := by
  unfold byt
  omega
def sgb (b : Nat) : Int := if b < 128 then (b : Int) else (b : Int) - 256
theorem bs_byte {v : Int} {s : Nat} (hv : iR v) (hs : s < 32) : jw8 (jw8 (jshr v (s : Int))) = sgb (byt v s) := by
  rw [bs_shr hv hs]
  have e := byt_int v s
  generalize v / 2 ^ s = y at e
  generalize byt v s = b at e
  unfold jw8 sgb
  split <;> omega
theorem u32_mod (w : UInt32) : w.toInt32.toInt % 256 = (w.toNat : Int) % 256 := by
  show (w.toBitVec.toInt) % 256 = (w.toBitVec.toNat : Int) % 256
  rw [BitVec.toInt_eq_toNat_bmod, Int.bmod_def]
  have : (w.toBitVec.toNat : Int) % ((2 ^ 32 : Nat) : Int) % 256 = (w.toBitVec.toNat : Int) % 256 := by omega
  split <;> omega
theorem ju_byte {v : Int} {s : Nat} (hs : s = 24 ∨ s = 16 ∨ s = 8 ∨ s = 0) : jand (jushr v (s : Int)) 255 = (byt v s : Int) := by
  have tn : ((jI v).toUInt32).toNat = (v % 4294967296).toNat := bq_tbv v
  rw [bq_and255, jushr, u32_mod, UInt32.toNat_shiftRight, tn, byt_int]
  rcases hs with rfl | rfl | rfl | rfl
  · have e : ((jI ((24 : Nat) : Int)).toUInt32 &&& Int32.toUInt32 31).toNat % 32 = 24 := by decide
    rw [e, Nat.shiftRight_eq_div_pow]
    omega
  · have e : ((jI ((16 : Nat) : Int)).toUInt32 &&& Int32.toUInt32 31).toNat % 32 = 16 := by decide
    rw [e, Nat.shiftRight_eq_div_pow]
    omega
  · have e : ((jI ((8 : Nat) : Int)).toUInt32 &&& Int32.toUInt32 31).toNat % 32 = 8 := by decide
    rw [e, Nat.shiftRight_eq_div_pow]
    omega
  · have e : ((jI ((0 : Nat) : Int)).toUInt32 &&& Int32.toUInt32 31).toNat % 32 = 0 := by decide
    rw [e, Nat.shiftRight_eq_div_pow]
    omega
def tpN (l : List Nat) : List Int := l.map (fun (b : Nat) => (b : Int))
def tpS (l : List Nat) : List Int := l.map sgb
/-- the numbers of one feed -/
def vsf (a b c d e : Int) (k : Nat) : Nat := byt (if k < 4 then a else if k < 8 then b else if k < 12 then c else if k < 16 then d else e) (24 - 8 * (k % 4))
def fdl (v : Int) : List Nat := [byt v 24, byt v 16, byt v 8, byt v 0]
def fdA (a b c d e : Int) : List Nat := fdl a ++ fdl b ++ fdl c ++ fdl d ++ fdl e
theorem fdA_at (a b c d e : Int) : ∀ k : Nat, k < 20 → (fdA a b c d e)[k]? = some (vsf a b c d e k) := by
  intro k hk
  rcases (show k = 0 ∨ k = 1 ∨ k = 2 ∨ k = 3 ∨ k = 4 ∨ k = 5 ∨ k = 6 ∨ k = 7 ∨ k = 8 ∨ k = 9 ∨ k = 10 ∨ k = 11 ∨ k = 12 ∨ k = 13 ∨ k = 14 ∨ k = 15 ∨ k = 16 ∨ k = 17 ∨ k = 18 ∨ k = 19 by omega) with rfl | rfl | rfl | rfl | rfl | rfl | rfl | rfl | rfl | rfl | rfl | rfl | rfl | rfl | rfl | rfl | rfl | rfl | rfl | rfl <;> rfl
theorem fdA_len (a b c d e : Int) : (fdA a b c d e).length = 20 := rfl
/-! the class -/
def TP (a : Nat) (j : Int) : Prop := a = 2 ∨ (a = 1 ∧ j = 1)
theorem TpC_push {l : List Int} {x : Int} (h : TpC σ l) (hl : l.length < 200) (hx : iR x) : TpC (jup (jup σ 2 (l.length : Int) x) 1 1 ((l.length : Int) + 1)) (l ++ [x]) := by
  obtain ⟨h1, h2, h3⟩ := h
  generalize hN : l.length = N at h1 h2 hl
  refine ⟨by rw [jup_s, List.length_append, hN]; rfl, by rw [List.length_append, hN, List.length_singleton]; omega, fun i y hy => ?_⟩
  rw [jup_o (by omega)]
  by_cases e : i = N
  · subst e
    rw [List.getElem?_append_right (by omega), hN, Nat.sub_self] at hy
    have : y = x := (Option.some.inj hy).symm
    rw [jup_s, this]
    exact ⟨rfl, hx⟩
  · have il := (List.getElem?_eq_some_iff.mp hy).1
    rw [List.length_append, hN, List.length_singleton] at il
    rw [List.getElem?_append_left (by omega)] at hy
    rw [jup_k (by omega)]
    exact h3 i y hy
theorem cta_st {fu : Nat} {v : Int} {s : Nat} {l : List Nat} (hs : s = 24 ∨ s = 16 ∨ s = 8 ∨ s = 0) (h : TpC σ (tpN l)) (hl : l.length < 200) : ∃ σ', Tape_append_c3 F (fu + 1) v (s : Int) σ = Tape_append_c3 F fu v ((s : Int) + (-8)) σ' ∧ jfr TP σ σ' ∧ TpC σ' (tpN (l ++ [byt v s])) := by
  have b := byt_lt v s
  have ll : (tpN l).length = l.length := List.length_map ..
  have p := TpC_push (x := (byt v s : Int)) h (by omega) ⟨by omega, by omega⟩
  have w := h.1
  rw [ll] at p w
  have jb := ju_byte (v := v) hs
  generalize l.length = N at hl w p
  have e1 : ¬ jw (s : Int) < 0 := by rw [jw_id (by omega) (by omega)]; omega
  have e2 : jw (N : Int) < 200 := by rw [jw_id (by omega) (by omega)]; omega
  have e3 : 0 ≤ (N : Int) ∧ (N : Int) < 200 := by omega
  refine ⟨_, ?_, jfr_up (jfr_up (jfr_refl _ _) (Or.inl rfl)) (Or.inr ⟨rfl, rfl⟩), by rw [tpN, List.map_append]; exact p⟩
  rw [Tape_append_c3, if_neg e1, w, if_pos e2, if_pos e3, jb]
  dsimp only
  rw [jup_o (by omega), w]
theorem ca_append {v : Int} {l : List Nat} (h : TpC σ (tpN l)) (hl : l.length + 4 ≤ 200) (hF : 10 ≤ F) : ∃ σ', Tape_append F σ v = some (0, σ') ∧ jfr TP σ σ' ∧ TpC σ' (tpN (l ++ fdl v)) := by
  obtain ⟨F', rfl⟩ : ∃ k, F = k + 5 := ⟨F - 5, by omega⟩
  obtain ⟨σ1, a1, a2, a3⟩ := cta_st (F := F' + 5) (fu := F' + 4) (v := v) (s := 24) (Or.inl rfl) h (by omega)
  obtain ⟨σ2, b1, b2, b3⟩ := cta_st (F := F' + 5) (fu := F' + 3) (v := v) (s := 16) (Or.inr (Or.inl rfl)) a3 (by rw [List.length_append, List.length_singleton]; omega)
  obtain ⟨σ3, d1, d2, d3⟩ := cta_st (F := F' + 5) (fu := F' + 2) (v := v) (s := 8) (Or.inr (Or.inr (Or.inl rfl))) b3 (by rw [List.length_append, List.length_append, List.length_singleton, List.length_singleton]; omega)
  obtain ⟨σ4, e1, e2, e3⟩ := cta_st (F := F' + 5) (fu := F' + 1) (v := v) (s := 0) (Or.inr (Or.inr (Or.inr rfl))) d3 (by rw [List.length_append, List.length_append, List.length_append, List.length_singleton, List.length_singleton, List.length_singleton]; omega)
  have a1' : Tape_append_c3 (F' + 5) (F' + 5) v 24 σ = Tape_append_c3 (F' + 5) (F' + 4) v 16 σ1 := a1
  have b1' : Tape_append_c3 (F' + 5) (F' + 4) v 16 σ1 = Tape_append_c3 (F' + 5) (F' + 3) v 8 σ2 := b1
  have d1' : Tape_append_c3 (F' + 5) (F' + 3) v 8 σ2 = Tape_append_c3 (F' + 5) (F' + 2) v 0 σ3 := d1
  have e1' : Tape_append_c3 (F' + 5) (F' + 2) v 0 σ3 = Tape_append_c3 (F' + 5) (F' + 1) v (-8) σ4 := e1
  refine ⟨σ4, ?_, jfr_trans a2 (jfr_trans b2 (jfr_trans d2 e2)), ?_⟩
  · rw [Tape_append, a1', b1', d1', e1', Tape_append_c3, if_pos (show jw (-8) < 0 by decide)]
  · rw [List.append_assoc, List.append_assoc, List.append_assoc] at e3
    exact e3
noncomputable def feeA (l : List Nat) : Int := if l.length ≤ 180 then (l.length : Int) + 20 else -1
noncomputable def feeL (l : List Nat) (a b c d e : Int) : List Nat := if l.length ≤ 180 then l ++ fdA a b c d e else l
theorem ca_feed {l : List Nat} {a b c d e : Int} {o : Option jxR} (ho : o = (Tape_hasRoom F σ).bind fun r4 => if jw r4.1 = 0 then some ((-1), r4.2) else (Tape_append F r4.2 a).bind fun r17 => (Tape_append F r17.2 b).bind fun r25 => (Tape_append F r25.2 c).bind fun r33 => (Tape_append F r33.2 d).bind fun r42 => (Tape_append F r42.2 e).bind fun r51 => (Tape_size F r51.2).bind fun r58 => some (r58.1, r58.2)) (h : TpC σ (tpN l)) (hF : 10 ≤ F) : ∃ σ', o = some (feeA l, σ') ∧ jfr TP σ σ' ∧ TpC σ' (tpN (feeL l a b c d e)) := by
  have ll : (tpN l).length = l.length := List.length_map ..
  have w := h.1
  have l2 := h.2.1
  rw [ll] at w l2
  have wj : jw ((l.length : Int) + 20) = (l.length : Int) + 20 := jw_id (by omega) (by omega)
  rw [ho, Tape_hasRoom, w, wj, feeA, feeL]
  by_cases y : l.length ≤ 180
  · have n4 : ∀ v, (fdl v).length = 4 := fun v => rfl
    obtain ⟨σ1, a1, a2, a3⟩ := ca_append (F := F) (v := a) h (by omega) hF
    obtain ⟨σ2, b1, b2, b3⟩ := ca_append (F := F) (v := b) a3 (by rw [List.length_append, n4]; omega) hF
    obtain ⟨σ3, d1, d2, d3⟩ := ca_append (F := F) (v := c) b3 (by rw [List.length_append, List.length_append, n4, n4]; omega) hF
    obtain ⟨σ4, e1, e2, e3⟩ := ca_append (F := F) (v := d) d3 (by rw [List.length_append, List.length_append, List.length_append, n4, n4, n4]; omega) hF
    obtain ⟨σ5, f1, f2, f3⟩ := ca_append (F := F) (v := e) e3 (by rw [List.length_append, List.length_append, List.length_append, List.length_append, n4, n4, n4, n4]; omega) hF
    rw [if_pos y, if_pos y, if_neg (show ¬ 200 < (l.length : Int) + 20 by omega), jbs]
    dsimp only
    rw [if_neg (show ¬ jw 1 = 0 by decide), a1, jbs]
    dsimp only
    rw [b1, jbs]
    dsimp only
    rw [d1, jbs]
    dsimp only
    rw [e1, jbs]
    dsimp only
    rw [f1, jbs]
    dsimp only
    rw [Tape_size, jbs]
    dsimp only
    have g : TpC σ5 (tpN (l ++ fdA a b c d e)) := by
      rw [List.append_assoc, List.append_assoc, List.append_assoc, List.append_assoc] at f3
      rw [fdA, List.append_assoc, List.append_assoc, List.append_assoc]
      exact f3
    have gw := g.1
    have gl : (tpN (l ++ fdA a b c d e)).length = l.length + 20 := by rw [tpN, List.length_map, List.length_append, fdA_len]
    rw [gl] at gw
    exact ⟨σ5, by rw [gw, Int.natCast_add]; rfl, jfr_trans a2 (jfr_trans b2 (jfr_trans d2 (jfr_trans e2 f2))), g⟩
  · rw [if_neg y, if_neg y, if_pos (show 200 < (l.length : Int) + 20 by omega), jbs]
    exact ⟨σ, rfl, jfr_refl _ _, h⟩
theorem TpC_cut {l : List Nat} {n : Nat} (h : TpC σ (tpN l)) (hn : n ≤ l.length) : TpC (jup σ 1 1 (n : Int)) (tpN (l.take n)) := by
  obtain ⟨h1, h2, h3⟩ := h
  have ll : (tpN l).length = l.length := List.length_map ..
  have lt : (tpN (l.take n)).length = n := by rw [tpN, List.length_map, List.length_take]; omega
  refine ⟨by rw [jup_s, lt], by omega, fun i x hx => ?_⟩
  have il := (List.getElem?_eq_some_iff.mp hx).1
  rw [lt] at il
  rw [jup_o (by omega)]
  refine h3 i x ?_
  rw [tpN, List.getElem?_map, List.getElem?_take_of_lt il] at hx
  rw [tpN, List.getElem?_map]
  exact hx
theorem ca_cut {l : List Nat} {v : Int} (hv : iR v) (h : TpC σ (tpN l)) : Tape_cutTo F σ v = some (if 0 ≤ v ∧ v ≤ (l.length : Int) then 1 else 0, if 0 ≤ v ∧ v ≤ (l.length : Int) then jup σ 1 1 v else σ) := by
  have ll : (tpN l).length = l.length := List.length_map ..
  have w := h.1
  have l2 := h.2.1
  rw [ll] at w l2
  have wv : jw v = v := jw_id hv.1 hv.2
  have wl : jw (l.length : Int) = (l.length : Int) := jw_id (by omega) (by omega)
  rw [Tape_cutTo, wv, w, wl]
  by_cases y : v < 0
  · rw [if_pos y, if_neg (show ¬ (0 ≤ v ∧ v ≤ (l.length : Int)) by omega), if_neg (show ¬ (0 ≤ v ∧ v ≤ (l.length : Int)) by omega)]
  · by_cases z : (l.length : Int) < v
    · rw [if_neg y, if_pos z, if_neg (show ¬ (0 ≤ v ∧ v ≤ (l.length : Int)) by omega), if_neg (show ¬ (0 ≤ v ∧ v ≤ (l.length : Int)) by omega)]
    · rw [if_neg y, if_neg z, if_pos (show 0 ≤ v ∧ v ≤ (l.length : Int) by omega), if_pos (show 0 ≤ v ∧ v ≤ (l.length : Int) by omega)]
noncomputable def endA (l : List Nat) (v : Int) : Int := if 0 ≤ v ∧ v ≤ (l.length : Int) then v else -1
noncomputable def endL (l : List Nat) (v : Int) : List Nat := if 0 ≤ v ∧ v ≤ (l.length : Int) then l.take v.toNat else l
theorem ca_end {l : List Nat} {v : Int} {o : Option jxR} (ho : o = (Tape_cutTo F σ v).bind fun r5 => if jw r5.1 = 0 then some ((-1), r5.2) else some (v, r5.2)) (hv : iR v) (h : TpC σ (tpN l)) : ∃ σ', o = some (endA l v, σ') ∧ jfr TP σ σ' ∧ TpC σ' (tpN (endL l v)) := by
  rw [ho, ca_cut hv h, jbs, endA, endL]
  dsimp only
  by_cases y : 0 ≤ v ∧ v ≤ (l.length : Int)
  · rw [if_pos y, if_pos y, if_pos y, if_pos y, if_neg (show ¬ jw 1 = 0 by decide)]
    obtain ⟨n, rfl⟩ : ∃ k : Nat, v = k := ⟨v.toNat, by omega⟩
    exact ⟨_, rfl, jfr_up (jfr_refl _ _) (Or.inr ⟨rfl, rfl⟩), TpC_cut h (by omega)⟩
  · rw [if_neg y, if_neg y, if_neg y, if_neg y, if_pos (show jw 0 = 0 from rfl)]
    exact ⟨σ, rfl, jfr_refl _ _, h⟩
/-! the reference -/
def TpQ (σ : jxS) (l : List Nat) : Prop := TpR σ (tpS l) ∧ σ 0 1 = (l.length : Int) ∧ l.length ≤ 200 ∧ ∀ b, b ∈ l → b < 256
def TRP (a : Nat) (j : Int) : Prop := a = 1 ∨ (a = 0 ∧ j = 1)
theorem TpR_push {l : List Int} {x : Int} (h : TpR σ l) (hl : l.length < 200) (hx : iR x) : TpR (jup σ 1 (l.length : Int) x) (l ++ [x]) := by
  obtain ⟨h2, h3⟩ := h
  generalize hN : l.length = N at h2 hl
  refine ⟨by rw [List.length_append, hN, List.length_singleton]; omega, fun i y hy => ?_⟩
  by_cases e : i = N
  · subst e
    rw [List.getElem?_append_right (by omega), hN, Nat.sub_self] at hy
    have : y = x := (Option.some.inj hy).symm
    rw [jup_s, this]
    exact ⟨rfl, hx⟩
  · have il := (List.getElem?_eq_some_iff.mp hy).1
    rw [List.length_append, hN, List.length_singleton] at il
    rw [List.getElem?_append_left (by omega)] at hy
    rw [jup_k (by omega)]
    exact h3 i y hy
theorem rfe_68 {k15 : Int → Int → Int → Int → Int → Int → jxS → Option jxR} {v1 v2 v3 v4 v5 t0 : Int} {k N : Nat} (ht : iR t0) (w : σ 0 1 = (N : Int)) (hN : N + k < 200) (hk : k < 20) : Model_feed_c68 F k15 v1 v2 v3 v4 v5 k t0 σ = k15 v1 v2 v3 v4 v5 ((k : Int) + 1) (jup σ 1 ((N + k : Nat) : Int) (sgb (byt t0 (24 - 8 * (k % 4))))) := by
  have e4 : jrem (k : Int) 4 = ((k % 4 : Nat) : Int) := bq_rem (a := k) (d := 4) (by omega) (by omega)
  have e5 : (24 : Int) - 8 * ((k % 4 : Nat) : Int) = ((24 - 8 * (k % 4) : Nat) : Int) := by omega
  have c0 : 0 ≤ ((N : Int) + k) ∧ ((N : Int) + k) < 200 := by omega
  rw [Model_feed_c68, w, if_pos c0, e4, e5, bs_byte ht (by omega), Int.natCast_add]
theorem rfe_st {v1 v2 v3 v4 v5 : Int} {k N fu : Nat} (h1 : iR v1) (h2 : iR v2) (h3 : iR v3) (h4 : iR v4) (h5 : iR v5) (w : σ 0 1 = (N : Int)) (hN : N + k < 200) (hk : k < 20) : Model_feed_c15 F (fu + 1) v1 v2 v3 v4 v5 k σ = Model_feed_c15 F fu v1 v2 v3 v4 v5 ((k : Int) + 1) (jup σ 1 ((N + k : Nat) : Int) (sgb (vsf v1 v2 v3 v4 v5 k))) := by
  have wk : jw (k : Int) = (k : Int) := jw_id (by omega) (by omega)
  rw [Model_feed_c15, wk, if_pos (show (k : Int) < 20 by omega), vsf]
  by_cases a1 : k < 4
  · rw [if_pos (show (k : Int) < 4 by omega), if_pos a1]
    exact rfe_68 h1 w hN hk
  by_cases a2 : k < 8
  · rw [if_neg (show ¬ (k : Int) < 4 by omega), if_neg a1, if_pos (show (k : Int) < 8 by omega), if_pos a2]
    exact rfe_68 h2 w hN hk
  by_cases a3 : k < 12
  · rw [if_neg (show ¬ (k : Int) < 4 by omega), if_neg a1, if_neg (show ¬ (k : Int) < 8 by omega), if_neg a2, if_pos (show (k : Int) < 12 by omega), if_pos a3]
    exact rfe_68 h3 w hN hk
  by_cases a4 : k < 16
  · rw [if_neg (show ¬ (k : Int) < 4 by omega), if_neg a1, if_neg (show ¬ (k : Int) < 8 by omega), if_neg a2, if_neg (show ¬ (k : Int) < 12 by omega), if_neg a3, if_pos (show (k : Int) < 16 by omega), if_pos a4]
    exact rfe_68 h4 w hN hk
  · rw [if_neg (show ¬ (k : Int) < 4 by omega), if_neg a1, if_neg (show ¬ (k : Int) < 8 by omega), if_neg a2, if_neg (show ¬ (k : Int) < 12 by omega), if_neg a3, if_neg (show ¬ (k : Int) < 16 by omega), if_neg a4]
    exact rfe_68 h5 w hN hk
theorem sgb_b {b : Nat} (h : b < 256) : -128 ≤ sgb b ∧ sgb b ≤ 127 := by
  unfold sgb
  split <;> omega
theorem take_s {α : Type} {l : List α} {k : Nat} {x : α} (h : l[k]? = some x) : l.take (k + 1) = l.take k ++ [x] := by
  rw [List.take_add_one, h]
  rfl
theorem rfe_loop {v1 v2 v3 v4 v5 : Int} {l : List Nat} {N : Nat} (hl : l.length = N) (h1 : iR v1) (h2 : iR v2) (h3 : iR v3) (h4 : iR v4) (h5 : iR v5) (hN : N ≤ 180) : ∀ (n fu k : Nat) (σ : jxS), n + k = 20 → n < fu → σ 0 1 = (N : Int) → TpR σ (tpS (l ++ (fdA v1 v2 v3 v4 v5).take k)) → ∃ σ', Model_feed_c15 F fu v1 v2 v3 v4 v5 k σ = some ((N : Int) + 20, jup σ' 0 1 ((N : Int) + 20)) ∧ jfr (fun a _ => a = 1) σ σ' ∧ TpR σ' (tpS (l ++ fdA v1 v2 v3 v4 v5)) := by
  intro n
  induction n with
  | zero =>
    intro fu k σ e1 e2 w h
    obtain ⟨fu, rfl⟩ : ∃ k, fu = k + 1 := ⟨fu - 1, by omega⟩
    refine ⟨σ, ?_, jfr_refl _ _, ?_⟩
    · rw [Model_feed_c15, if_neg (show ¬ jw (k : Int) < 20 by rw [jw_id (by omega) (by omega)]; omega), w]
      dsimp only
      rw [jup_s]
    · rw [show k = 20 by omega] at h
      exact h
  | succ n ih =>
    intro fu k σ e1 e2 w h
    obtain ⟨fu, rfl⟩ : ∃ k, fu = k + 1 := ⟨fu - 1, by omega⟩
    have kl : k < 20 := by omega
    have at' := fdA_at v1 v2 v3 v4 v5 k kl
    have b := sgb_b (byt_lt (if k < 4 then v1 else if k < 8 then v2 else if k < 12 then v3 else if k < 16 then v4 else v5) (24 - 8 * (k % 4)))
    have b' : -128 ≤ sgb (vsf v1 v2 v3 v4 v5 k) ∧ sgb (vsf v1 v2 v3 v4 v5 k) ≤ 127 := b
    have ll : (tpS (l ++ (fdA v1 v2 v3 v4 v5).take k)).length = N + k := by
      rw [tpS, List.length_map, List.length_append, List.length_take, fdA_len, hl]
      omega
    have p := TpR_push (x := sgb (vsf v1 v2 v3 v4 v5 k)) h (by omega) ⟨by omega, by omega⟩
    rw [ll] at p
    have p' : TpR (jup σ 1 ((N + k : Nat) : Int) (sgb (vsf v1 v2 v3 v4 v5 k))) (tpS (l ++ (fdA v1 v2 v3 v4 v5).take (k + 1))) := by
      rw [take_s at', ← List.append_assoc, tpS, List.map_append]
      exact p
    obtain ⟨σ', i1, i2, i3⟩ := ih fu (k + 1) _ (by omega) (by omega) (by rw [jup_o (by omega)]; exact w) p'
    refine ⟨σ', ?_, jfr_trans (jfr_up (jfr_refl _ _) rfl) i2, i3⟩
    rw [rfe_st h1 h2 h3 h4 h5 w (by omega) kl]
    exact i1
theorem fdA_lt {a b c d e : Int} {x : Nat} (h : x ∈ fdA a b c d e) : x < 256 := by
  obtain ⟨k, hk⟩ := List.getElem?_of_mem h
  have kl := (List.getElem?_eq_some_iff.mp hk).1
  rw [fdA_len] at kl
  rw [fdA_at a b c d e k kl] at hk
  rw [← Option.some.inj hk]
  exact byt_lt _ _
theorem rq_feed {v1 v2 v3 v4 v5 : Int} {l : List Nat} (h1 : iR v1) (h2 : iR v2) (h3 : iR v3) (h4 : iR v4) (h5 : iR v5) (h : TpQ σ l) (hF : 100 ≤ F) : ∃ σ', Model_feed F σ v1 v2 v3 v4 v5 = some (feeA l, σ') ∧ jfr TRP σ σ' ∧ TpQ σ' (feeL l v1 v2 v3 v4 v5) := by
  obtain ⟨t1, t2, t3, t4⟩ := h
  have wj : jw (l.length : Int) = (l.length : Int) := jw_id (by omega) (by omega)
  rw [Model_feed, t2, wj, feeA, feeL]
  by_cases y : l.length ≤ 180
  · obtain ⟨σ1, a1, a2, a3⟩ := rfe_loop (F := F) (l := l) rfl h1 h2 h3 h4 h5 y 20 F 0 σ (by omega) (by omega) t2 (by rw [List.take_zero, List.append_nil]; exact t1)
    have a1' : Model_feed_c15 F F v1 v2 v3 v4 v5 0 σ = _ := a1
    rw [if_neg (show ¬ 180 < (l.length : Int) by omega), a1', if_pos y, if_pos y]
    have f1 : jfr TRP σ (jup σ1 0 1 ((l.length : Int) + 20)) := jfr_up (jfr_mono a2 (fun a j h => Or.inl h)) (Or.inr ⟨rfl, rfl⟩)
    refine ⟨_, rfl, f1, ⟨a3.1, fun i x hx => ?_⟩, ?_, ?_, ?_⟩
    · rw [jup_o (by omega)]; exact a3.2 i x hx
    · rw [jup_s, List.length_append, fdA_len, Int.natCast_add]; rfl
    · rw [List.length_append, fdA_len]; omega
    · intro b hb
      rcases List.mem_append.mp hb with q | q
      · exact t4 b q
      · exact fdA_lt q
  · rw [if_pos (show 180 < (l.length : Int) by omega), if_neg y, if_neg y]
    exact ⟨σ, rfl, jfr_refl _ _, t1, t2, t3, t4⟩
theorem TpQ_cut {l : List Nat} {n : Nat} (h : TpQ σ l) (hn : n ≤ l.length) : TpQ (jup σ 0 1 (n : Int)) (l.take n) := by
  obtain ⟨t1, t2, t3, t4⟩ := h
  have lt : (l.take n).length = n := by rw [List.length_take]; omega
  refine ⟨⟨by rw [tpS, List.length_map, lt]; omega, fun i x hx => ?_⟩, by rw [jup_s, lt], by omega, fun b hb => t4 b (List.mem_of_mem_take hb)⟩
  have il := (List.getElem?_eq_some_iff.mp hx).1
  rw [tpS, List.length_map, lt] at il
  rw [jup_o (by omega)]
  refine t1.2 i x ?_
  rw [tpS, List.getElem?_map, List.getElem?_take_of_lt il] at hx
  rw [tpS, List.getElem?_map]
  exact hx
theorem rq_end {v : Int} {l : List Nat} (hv : iR v) (h : TpQ σ l) : ∃ σ', Model_end F σ v = some (endA l v, σ') ∧ jfr TRP σ σ' ∧ TpQ σ' (endL l v) := by
  have t2 := h.2.1
  have t3 := h.2.2.1
  have wv : jw v = v := jw_id hv.1 hv.2
  have wj : jw (l.length : Int) = (l.length : Int) := jw_id (by omega) (by omega)
  rw [Model_end, wv, t2, wj, mo_isIn hv ⟨by omega, by omega⟩ ⟨by omega, by omega⟩, jbs, endA, endL]
  dsimp only
  by_cases y : 0 ≤ v ∧ v ≤ (l.length : Int)
  · rw [if_pos y, if_pos y, if_pos y, if_neg (show ¬ jw 1 = 0 by decide)]
    obtain ⟨n, rfl⟩ : ∃ k : Nat, v = k := ⟨v.toNat, by omega⟩
    exact ⟨_, rfl, jfr_up (jfr_refl _ _) (Or.inr ⟨rfl, rfl⟩), TpQ_cut h (by omega)⟩
  · rw [if_neg y, if_neg y, if_neg y, if_pos (show jw 0 = 0 from rfl)]
    exact ⟨σ, rfl, jfr_refl _ _, h⟩
end TA
