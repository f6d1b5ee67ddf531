/-! A run of the small machine is a run of the machine. -/
section JX
variable {X : jxX} {E : jxE} {tb : List (Nat × Instr)} {Q : State → Prop} {pc : Nat} {loc : jxL} {r : List jxV} {σ : jxS}
theorem jfv_int {ad : Nat → Nat} {f : Int → Int} {k q : Nat} (h : q = 1 → False) : jfv ad f k (.inl q) = jtoV ad (jmi (f k)) := by
  match q, h with
  | 0, _ => rfl
  | 1, h => exact absurd rfl h
  | n + 2, _ => rfl
/-- a branch's place is one -/
def jjmp (pc : Nat) (i : Instr) : Bool := match i with
  | .ifCond _ off => decide (0 ≤ (pc : Int) + off)
  | .if_icmp _ off => decide (0 ≤ (pc : Int) + off)
  | _ => true
theorem jjmp_at {b : Prop} [Decidable b] (h : decide b = true) : b := of_decide_eq_true h
theorem jn_if_eq {x off : Int} (hX : jOK X) (hc : ¬ (jw x = 0)) (hd : decode (jcc X) pc = .ok (.ifCond .eq off, 3)) (h0 : 0 ≤ (pc : Int) + off) (hk : jWj X Q (pc + 3) loc r σ) : jWj X Q pc loc (jmi x :: r) σ := jw_if_eq hX (Int.toNat_of_nonneg h0).symm hd (fun q => absurd q hc) (fun _ => hk)
theorem jn_if_ne {x off : Int} (hX : jOK X) (hc : ¬ (¬ jw x = 0)) (hd : decode (jcc X) pc = .ok (.ifCond .ne off, 3)) (h0 : 0 ≤ (pc : Int) + off) (hk : jWj X Q (pc + 3) loc r σ) : jWj X Q pc loc (jmi x :: r) σ := jw_if_ne hX (Int.toNat_of_nonneg h0).symm hd (fun q => absurd q hc) (fun _ => hk)
theorem jn_if_lt {x off : Int} (hX : jOK X) (hc : ¬ (jw x < 0)) (hd : decode (jcc X) pc = .ok (.ifCond .lt off, 3)) (h0 : 0 ≤ (pc : Int) + off) (hk : jWj X Q (pc + 3) loc r σ) : jWj X Q pc loc (jmi x :: r) σ := jw_if_lt hX (Int.toNat_of_nonneg h0).symm hd (fun q => absurd q hc) (fun _ => hk)
theorem jn_if_ge {x off : Int} (hX : jOK X) (hc : ¬ (¬ jw x < 0)) (hd : decode (jcc X) pc = .ok (.ifCond .ge off, 3)) (h0 : 0 ≤ (pc : Int) + off) (hk : jWj X Q (pc + 3) loc r σ) : jWj X Q pc loc (jmi x :: r) σ := jw_if_ge hX (Int.toNat_of_nonneg h0).symm hd (fun q => absurd q hc) (fun _ => hk)
theorem jn_if_gt {x off : Int} (hX : jOK X) (hc : ¬ (0 < jw x)) (hd : decode (jcc X) pc = .ok (.ifCond .gt off, 3)) (h0 : 0 ≤ (pc : Int) + off) (hk : jWj X Q (pc + 3) loc r σ) : jWj X Q pc loc (jmi x :: r) σ := jw_if_gt hX (Int.toNat_of_nonneg h0).symm hd (fun q => absurd q hc) (fun _ => hk)
theorem jn_if_le {x off : Int} (hX : jOK X) (hc : ¬ (¬ 0 < jw x)) (hd : decode (jcc X) pc = .ok (.ifCond .le off, 3)) (h0 : 0 ≤ (pc : Int) + off) (hk : jWj X Q (pc + 3) loc r σ) : jWj X Q pc loc (jmi x :: r) σ := jw_if_le hX (Int.toNat_of_nonneg h0).symm hd (fun q => absurd q hc) (fun _ => hk)
theorem jn_icmp_eq {x y off : Int} (hX : jOK X) (hc : ¬ (jw x = jw y)) (hd : decode (jcc X) pc = .ok (.if_icmp .eq off, 3)) (h0 : 0 ≤ (pc : Int) + off) (hk : jWj X Q (pc + 3) loc r σ) : jWj X Q pc loc (jmi y :: jmi x :: r) σ := jw_icmp_eq hX (Int.toNat_of_nonneg h0).symm hd (fun q => absurd q hc) (fun _ => hk)
theorem jn_icmp_ne {x y off : Int} (hX : jOK X) (hc : ¬ (¬ jw x = jw y)) (hd : decode (jcc X) pc = .ok (.if_icmp .ne off, 3)) (h0 : 0 ≤ (pc : Int) + off) (hk : jWj X Q (pc + 3) loc r σ) : jWj X Q pc loc (jmi y :: jmi x :: r) σ := jw_icmp_ne hX (Int.toNat_of_nonneg h0).symm hd (fun q => absurd q hc) (fun _ => hk)
theorem jn_icmp_lt {x y off : Int} (hX : jOK X) (hc : ¬ (jw x < jw y)) (hd : decode (jcc X) pc = .ok (.if_icmp .lt off, 3)) (h0 : 0 ≤ (pc : Int) + off) (hk : jWj X Q (pc + 3) loc r σ) : jWj X Q pc loc (jmi y :: jmi x :: r) σ := jw_icmp_lt hX (Int.toNat_of_nonneg h0).symm hd (fun q => absurd q hc) (fun _ => hk)
theorem jn_icmp_ge {x y off : Int} (hX : jOK X) (hc : ¬ (¬ jw x < jw y)) (hd : decode (jcc X) pc = .ok (.if_icmp .ge off, 3)) (h0 : 0 ≤ (pc : Int) + off) (hk : jWj X Q (pc + 3) loc r σ) : jWj X Q pc loc (jmi y :: jmi x :: r) σ := jw_icmp_ge hX (Int.toNat_of_nonneg h0).symm hd (fun q => absurd q hc) (fun _ => hk)
theorem jn_icmp_gt {x y off : Int} (hX : jOK X) (hc : ¬ (jw y < jw x)) (hd : decode (jcc X) pc = .ok (.if_icmp .gt off, 3)) (h0 : 0 ≤ (pc : Int) + off) (hk : jWj X Q (pc + 3) loc r σ) : jWj X Q pc loc (jmi y :: jmi x :: r) σ := jw_icmp_gt hX (Int.toNat_of_nonneg h0).symm hd (fun q => absurd q hc) (fun _ => hk)
theorem jn_icmp_le {x y off : Int} (hX : jOK X) (hc : ¬ (¬ jw y < jw x)) (hd : decode (jcc X) pc = .ok (.if_icmp .le off, 3)) (h0 : 0 ≤ (pc : Int) + off) (hk : jWj X Q (pc + 3) loc r σ) : jWj X Q pc loc (jmi y :: jmi x :: r) σ := jw_icmp_le hX (Int.toNat_of_nonneg h0).symm hd (fun q => absurd q hc) (fun _ => hk)
set_option maxHeartbeats 4000000 in
/-- one instruction -/
theorem jx1_ok (hX : jOK X) (hE : jEnv X E tb) {i : Instr} {pc n : Nat} {loc : jxL} {st : List jxV} {σ : jxS} {k : jxK} {x : Int} {σ' : jxS} (hd : decode (jcc X) pc = .ok (i, n)) (hn : jlen i = 0 ∨ n = jlen i) (hj : jjmp pc i = true)
    (hk : ∀ pc' loc' st' σ1, k pc' loc' st' σ1 = some (x, σ') → jWj X (jQ X (jrv (jkd X) x) σ') pc' loc' st' σ1) (h : jx1 E i pc loc st σ k = some (x, σ')) : jWj X (jQ X (jrv (jkd X) x) σ') pc loc st σ := by
  obtain ⟨hE1, hE2, hE3, hE4, hE5, hE6, hE7, hE8⟩ := hE
  cases i with
  | iconst a =>
    simp only [jx1, jlen] at h hn; obtain rfl : n = 1 := by omega
    exact jw_iconst hX hd (hk _ _ _ _ h)
  | bipush a =>
    simp only [jx1, jlen] at h hn; obtain rfl : n = 2 := by omega
    obtain ⟨h1, h⟩ := jite h
    exact jw_bipush h1 hX hd (hk _ _ _ _ h)
  | sipush a =>
    simp only [jx1, jlen] at h hn; obtain rfl : n = 3 := by omega
    obtain ⟨h1, h⟩ := jite h
    exact jw_sipush h1 hX hd (hk _ _ _ _ h)
  | lconst a =>
    simp only [jx1, jlen] at h hn; obtain rfl : n = 1 := by omega
    exact jw_lconst hX hd (hk _ _ _ _ h)
  | aconst_null =>
    simp only [jx1, jlen] at h hn; obtain rfl : n = 1 := by omega
    exact jw_null hX hd (hk _ _ _ _ h)
  | ldc a =>
    simp only [jx1, jlen] at h hn; obtain rfl : n = 2 := by omega
    split at h
    · rename_i z hv
      exact (hE5 a _ hv) _ _ _ _ _ hd (hk _ _ _ _ h)
    · rename_i z hv
      exact (hE5 a _ hv) _ _ _ _ _ hd (hk _ _ _ _ h)
    · cases h
  | ldc2_w a =>
    simp only [jx1, jlen] at h hn; obtain rfl : n = 3 := by omega
    split at h
    · rename_i z hv
      exact (hE5 a _ hv) _ _ _ _ _ hd (hk _ _ _ _ h)
    · cases h
  | iload_n a =>
    simp only [jx1, jlen] at h hn; obtain rfl : n = 1 := by omega
    split at h
    · rename_i z hv
      exact jw_ldi_n hv hX hd (hk _ _ _ _ h)
    · cases h
  | iload a =>
    simp only [jx1, jlen] at h hn; obtain rfl : n = 2 := by omega
    split at h
    · rename_i z hv
      exact jw_ldi hv hX hd (hk _ _ _ _ h)
    · cases h
  | lload_n a =>
    simp only [jx1, jlen] at h hn; obtain rfl : n = 1 := by omega
    split at h
    · rename_i z hv
      exact jw_ldl_n hv hX hd (hk _ _ _ _ h)
    · cases h
  | lload a =>
    simp only [jx1, jlen] at h hn; obtain rfl : n = 2 := by omega
    split at h
    · rename_i z hv
      exact jw_ldl hv hX hd (hk _ _ _ _ h)
    · cases h
  | aload_n a =>
    simp only [jx1, jlen] at h hn; obtain rfl : n = 1 := by omega
    split at h
    · rename_i z hv
      exact jw_lda_n hv hX hd (hk _ _ _ _ h)
    · rename_i z hv
      exact jw_ldaN_n hv hX hd (hk _ _ _ _ h)
    · cases h
  | aload a =>
    simp only [jx1, jlen] at h hn; obtain rfl : n = 2 := by omega
    split at h
    · rename_i z hv
      exact jw_lda hv hX hd (hk _ _ _ _ h)
    · rename_i z hv
      exact jw_ldaN hv hX hd (hk _ _ _ _ h)
    · cases h
  | istore_n a =>
    simp only [jx1, jlen] at h hn; obtain rfl : n = 1 := by omega
    split at h
    · obtain ⟨h1, h⟩ := jcond h
      exact jw_sti_n hX (jble h1) hd (hk _ _ _ _ h)
    · cases h
  | istore a =>
    simp only [jx1, jlen] at h hn; obtain rfl : n = 2 := by omega
    split at h
    · obtain ⟨h1, h⟩ := jcond h
      exact jw_sti hX (jble h1) hd (hk _ _ _ _ h)
    · cases h
  | lstore_n a =>
    simp only [jx1, jlen] at h hn; obtain rfl : n = 1 := by omega
    split at h
    · obtain ⟨h1, h⟩ := jcond h
      exact jw_stl_n hX (jble h1) hd (hk _ _ _ _ h)
    · cases h
  | lstore a =>
    simp only [jx1, jlen] at h hn; obtain rfl : n = 2 := by omega
    split at h
    · obtain ⟨h1, h⟩ := jcond h
      exact jw_stl hX (jble h1) hd (hk _ _ _ _ h)
    · cases h
  | astore_n a =>
    simp only [jx1, jlen] at h hn; obtain rfl : n = 1 := by omega
    split at h
    · obtain ⟨h1, h⟩ := jcond h
      exact jw_sta_n hX (jble h1) hd (hk _ _ _ _ h)
    · obtain ⟨h1, h⟩ := jcond h
      exact jw_staN_n hX (jble h1) hd (hk _ _ _ _ h)
    · cases h
  | astore a =>
    simp only [jx1, jlen] at h hn; obtain rfl : n = 2 := by omega
    split at h
    · obtain ⟨h1, h⟩ := jcond h
      exact jw_sta hX (jble h1) hd (hk _ _ _ _ h)
    · obtain ⟨h1, h⟩ := jcond h
      exact jw_staN hX (jble h1) hd (hk _ _ _ _ h)
    · cases h
  | iinc a d =>
    simp only [jx1, jlen] at h hn; obtain rfl : n = 3 := by omega
    split at h
    · rename_i z hv
      obtain ⟨h1, h⟩ := jcond h
      exact jw_iinc hX hv (jble h1) hd (hk _ _ _ _ h)
    · cases h
  | iadd =>
    simp only [jx1, jlen] at h hn; obtain rfl : n = 1 := by omega
    split at h
    · exact jw_iadd hX hd (hk _ _ _ _ h)
    · cases h
  | isub =>
    simp only [jx1, jlen] at h hn; obtain rfl : n = 1 := by omega
    split at h
    · exact jw_isub hX hd (hk _ _ _ _ h)
    · cases h
  | imul =>
    simp only [jx1, jlen] at h hn; obtain rfl : n = 1 := by omega
    split at h
    · exact jw_imul hX hd (hk _ _ _ _ h)
    · cases h
  | iand =>
    simp only [jx1, jlen] at h hn; obtain rfl : n = 1 := by omega
    split at h
    · exact jw_iand hX hd (hk _ _ _ _ h)
    · cases h
  | ior =>
    simp only [jx1, jlen] at h hn; obtain rfl : n = 1 := by omega
    split at h
    · exact jw_ior hX hd (hk _ _ _ _ h)
    · cases h
  | ixor =>
    simp only [jx1, jlen] at h hn; obtain rfl : n = 1 := by omega
    split at h
    · exact jw_ixor hX hd (hk _ _ _ _ h)
    · cases h
  | ishl =>
    simp only [jx1, jlen] at h hn; obtain rfl : n = 1 := by omega
    split at h
    · exact jw_ishl hX hd (hk _ _ _ _ h)
    · cases h
  | ishr =>
    simp only [jx1, jlen] at h hn; obtain rfl : n = 1 := by omega
    split at h
    · exact jw_ishr hX hd (hk _ _ _ _ h)
    · cases h
  | iushr =>
    simp only [jx1, jlen] at h hn; obtain rfl : n = 1 := by omega
    split at h
    · exact jw_iushr hX hd (hk _ _ _ _ h)
    · cases h
  | ladd =>
    simp only [jx1, jlen] at h hn; obtain rfl : n = 1 := by omega
    split at h
    · exact jw_ladd hX hd (hk _ _ _ _ h)
    · cases h
  | lmul =>
    simp only [jx1, jlen] at h hn; obtain rfl : n = 1 := by omega
    split at h
    · exact jw_lmul hX hd (hk _ _ _ _ h)
    · cases h
  | land =>
    simp only [jx1, jlen] at h hn; obtain rfl : n = 1 := by omega
    split at h
    · exact jw_land hX hd (hk _ _ _ _ h)
    · cases h
  | lor =>
    simp only [jx1, jlen] at h hn; obtain rfl : n = 1 := by omega
    split at h
    · exact jw_lor hX hd (hk _ _ _ _ h)
    · cases h
  | lxor =>
    simp only [jx1, jlen] at h hn; obtain rfl : n = 1 := by omega
    split at h
    · exact jw_lxor hX hd (hk _ _ _ _ h)
    · cases h
  | lshl =>
    simp only [jx1, jlen] at h hn; obtain rfl : n = 1 := by omega
    split at h
    · exact jw_lshl hX hd (hk _ _ _ _ h)
    · cases h
  | lshr =>
    simp only [jx1, jlen] at h hn; obtain rfl : n = 1 := by omega
    split at h
    · exact jw_lshr hX hd (hk _ _ _ _ h)
    · cases h
  | lcmp =>
    simp only [jx1, jlen] at h hn; obtain rfl : n = 1 := by omega
    split at h
    · exact jw_lcmp hX hd (hk _ _ _ _ h)
    · cases h
  | i2l =>
    simp only [jx1, jlen] at h hn; obtain rfl : n = 1 := by omega
    split at h
    · exact jw_i2l hX hd (hk _ _ _ _ h)
    · cases h
  | l2i =>
    simp only [jx1, jlen] at h hn; obtain rfl : n = 1 := by omega
    split at h
    · exact jw_l2i hX hd (hk _ _ _ _ h)
    · cases h
  | i2b =>
    simp only [jx1, jlen] at h hn; obtain rfl : n = 1 := by omega
    split at h
    · exact jw_i2b hX hd (hk _ _ _ _ h)
    · cases h
  | idiv =>
    simp only [jx1, jlen] at h hn; obtain rfl : n = 1 := by omega
    split at h
    · obtain ⟨h1, h⟩ := jite2 h
      exact jw_idiv h1 hX hd (hk _ _ _ _ h)
    · cases h
  | irem =>
    simp only [jx1, jlen] at h hn; obtain rfl : n = 1 := by omega
    split at h
    · obtain ⟨h1, h⟩ := jite2 h
      exact jw_irem h1 hX hd (hk _ _ _ _ h)
    · cases h
  | ldiv =>
    simp only [jx1, jlen] at h hn; obtain rfl : n = 1 := by omega
    split at h
    · obtain ⟨h1, h⟩ := jite2 h
      exact jw_ldiv h1 hX hd (hk _ _ _ _ h)
    · cases h
  | lrem =>
    simp only [jx1, jlen] at h hn; obtain rfl : n = 1 := by omega
    split at h
    · obtain ⟨h1, h⟩ := jite2 h
      exact jw_lrem h1 hX hd (hk _ _ _ _ h)
    · cases h
  | dup =>
    simp only [jx1, jlen] at h hn; obtain rfl : n = 1 := by omega
    split at h
    · exact jw_dupi hX hd (hk _ _ _ _ h)
    · rename_i z _
      match z, h with
      | .inl z, h => exact jw_dupr hX hd (hk _ _ _ _ h)
      | .inr _, h => exact jw_dupn hX hd (hk _ _ _ _ h)
    · cases h
  | dup2 =>
    simp only [jx1, jlen] at h hn; obtain rfl : n = 1 := by omega
    split at h
    · rename_i y z _
      match z, h with
      | .inl z, h => exact jw_dup2r hX hd (hk _ _ _ _ h)
      | .inr _, h => exact jw_dup2n hX hd (hk _ _ _ _ h)
    · cases h
  | pop =>
    simp only [jx1, jlen] at h hn; obtain rfl : n = 1 := by omega
    split at h
    · exact jw_popi hX hd (hk _ _ _ _ h)
    · rename_i z _
      match z, h with
      | .inl z, h => exact jw_popr hX hd (hk _ _ _ _ h)
      | .inr _, h => exact jw_popn hX hd (hk _ _ _ _ h)
    · cases h
  | goto off =>
    simp only [jx1, jlen] at h hn; obtain rfl : n = 3 := by omega
    obtain ⟨t, ht, h⟩ := jtgt_some h
    exact jw_goto (x := 0) hX ht hd (hk _ _ _ _ h)
  | ifCond c off =>
    simp only [jx1, jlen] at h hn; obtain rfl : n = 3 := by omega
    split at h
    · cases c with
      | eq =>
        simp only at h
        split at h
        · rename_i hc
          obtain ⟨t, ht, h⟩ := jtgt_some h
          exact jw_if_eq hX ht hd (fun _ => hk _ _ _ _ h) (fun q => absurd hc q)
        · rename_i hc
          have h0 := jjmp_at hj
          exact jn_if_eq hX hc hd h0 (hk _ _ _ _ h)
      | ne =>
        simp only at h
        split at h
        · rename_i hc
          have h0 := jjmp_at hj
          exact jn_if_ne hX (fun q => q hc) hd h0 (hk _ _ _ _ h)
        · rename_i hc
          obtain ⟨t, ht, h⟩ := jtgt_some h
          exact jw_if_ne hX ht hd (fun _ => hk _ _ _ _ h) (fun q => absurd hc q)
      | lt =>
        simp only at h
        split at h
        · rename_i hc
          obtain ⟨t, ht, h⟩ := jtgt_some h
          exact jw_if_lt hX ht hd (fun _ => hk _ _ _ _ h) (fun q => absurd hc q)
        · rename_i hc
          have h0 := jjmp_at hj
          exact jn_if_lt hX hc hd h0 (hk _ _ _ _ h)
      | ge =>
        simp only at h
        split at h
        · rename_i hc
          have h0 := jjmp_at hj
          exact jn_if_ge hX (fun q => q hc) hd h0 (hk _ _ _ _ h)
        · rename_i hc
          obtain ⟨t, ht, h⟩ := jtgt_some h
          exact jw_if_ge hX ht hd (fun _ => hk _ _ _ _ h) (fun q => absurd hc q)
      | gt =>
        simp only at h
        split at h
        · rename_i hc
          obtain ⟨t, ht, h⟩ := jtgt_some h
          exact jw_if_gt hX ht hd (fun _ => hk _ _ _ _ h) (fun q => absurd hc q)
        · rename_i hc
          have h0 := jjmp_at hj
          exact jn_if_gt hX hc hd h0 (hk _ _ _ _ h)
      | le =>
        simp only at h
        split at h
        · rename_i hc
          have h0 := jjmp_at hj
          exact jn_if_le hX (fun q => q hc) hd h0 (hk _ _ _ _ h)
        · rename_i hc
          obtain ⟨t, ht, h⟩ := jtgt_some h
          exact jw_if_le hX ht hd (fun _ => hk _ _ _ _ h) (fun q => absurd hc q)
    · cases h
  | if_icmp c off =>
    simp only [jx1, jlen] at h hn; obtain rfl : n = 3 := by omega
    split at h
    · cases c with
      | eq =>
        simp only at h
        split at h
        · rename_i hc
          obtain ⟨t, ht, h⟩ := jtgt_some h
          exact jw_icmp_eq hX ht hd (fun _ => hk _ _ _ _ h) (fun q => absurd hc q)
        · rename_i hc
          have h0 := jjmp_at hj
          exact jn_icmp_eq hX hc hd h0 (hk _ _ _ _ h)
      | ne =>
        simp only at h
        split at h
        · rename_i hc
          have h0 := jjmp_at hj
          exact jn_icmp_ne hX (fun q => q hc) hd h0 (hk _ _ _ _ h)
        · rename_i hc
          obtain ⟨t, ht, h⟩ := jtgt_some h
          exact jw_icmp_ne hX ht hd (fun _ => hk _ _ _ _ h) (fun q => absurd hc q)
      | lt =>
        simp only at h
        split at h
        · rename_i hc
          obtain ⟨t, ht, h⟩ := jtgt_some h
          exact jw_icmp_lt hX ht hd (fun _ => hk _ _ _ _ h) (fun q => absurd hc q)
        · rename_i hc
          have h0 := jjmp_at hj
          exact jn_icmp_lt hX hc hd h0 (hk _ _ _ _ h)
      | ge =>
        simp only at h
        split at h
        · rename_i hc
          have h0 := jjmp_at hj
          exact jn_icmp_ge hX (fun q => q hc) hd h0 (hk _ _ _ _ h)
        · rename_i hc
          obtain ⟨t, ht, h⟩ := jtgt_some h
          exact jw_icmp_ge hX ht hd (fun _ => hk _ _ _ _ h) (fun q => absurd hc q)
      | gt =>
        simp only at h
        split at h
        · rename_i hc
          obtain ⟨t, ht, h⟩ := jtgt_some h
          exact jw_icmp_gt hX ht hd (fun _ => hk _ _ _ _ h) (fun q => absurd hc q)
        · rename_i hc
          have h0 := jjmp_at hj
          exact jn_icmp_gt hX hc hd h0 (hk _ _ _ _ h)
      | le =>
        simp only at h
        split at h
        · rename_i hc
          have h0 := jjmp_at hj
          exact jn_icmp_le hX (fun q => q hc) hd h0 (hk _ _ _ _ h)
        · rename_i hc
          obtain ⟨t, ht, h⟩ := jtgt_some h
          exact jw_icmp_le hX ht hd (fun _ => hk _ _ _ _ h) (fun q => absurd hc q)
    · cases h
  | ifnull off =>
    simp only [jx1, jlen] at h hn; obtain rfl : n = 3 := by omega
    split at h
    · exact jw_ifnull (t := 0) hX hd (hk _ _ _ _ h)
    · obtain ⟨t, ht, h⟩ := jtgt_some h
      exact jw_ifnullN (x := 0) hX ht hd (hk _ _ _ _ h)
    · cases h
  | ifnonnull off =>
    simp only [jx1, jlen] at h hn; obtain rfl : n = 3 := by omega
    split at h
    · obtain ⟨t, ht, h⟩ := jtgt_some h
      exact jw_ifnonnull hX ht hd (hk _ _ _ _ h)
    · exact jw_ifnonnullN (x := 0) (t := 0) hX hd (hk _ _ _ _ h)
    · cases h
  | iaload =>
    simp only [jx1, jlen] at h hn; obtain rfl : n = 1 := by omega
    split at h
    · split at h
      · rename_i m hv
        obtain ⟨h1, h⟩ := jite h
        exact jw_iaload hX (hE8 _ _ hv).1 (hE8 _ _ hv).2 h1 hd (hk _ _ _ _ h)
      · rename_i m hv
        obtain ⟨h1, h⟩ := jite h
        exact jw_tald hX (hE8 _ _ hv) h1 hd (hk _ _ _ _ h)
      · cases h
    · cases h
  | baload =>
    simp only [jx1, jlen] at h hn; obtain rfl : n = 1 := by omega
    split at h
    · split at h
      · rename_i m hv
        obtain ⟨h1, h⟩ := jite h
        exact jw_baload hX (hE8 _ _ hv).1 (hE8 _ _ hv).2 h1 hd (hk _ _ _ _ h)
      · rename_i m hv
        obtain ⟨h1, h⟩ := jite h
        exact jw_zaload hX (hE8 _ _ hv).1 (hE8 _ _ hv).2 h1 hd (hk _ _ _ _ h)
      · cases h
    · cases h
  | laload =>
    simp only [jx1, jlen] at h hn; obtain rfl : n = 1 := by omega
    split at h
    · split at h
      · rename_i m hv
        obtain ⟨h1, h⟩ := jite h
        exact jw_laload hX (hE8 _ _ hv).1 (hE8 _ _ hv).2 h1 hd (hk _ _ _ _ h)
      · cases h
    · cases h
  | iastore =>
    simp only [jx1, jlen] at h hn; obtain rfl : n = 1 := by omega
    split at h
    · split at h
      · rename_i m hv
        obtain ⟨h1, h⟩ := jite h
        exact jw_iastore hX (hE8 _ _ hv).1 (hE8 _ _ hv).2 h1 hd (hk _ _ _ _ h)
      · cases h
    · cases h
  | bastore =>
    simp only [jx1, jlen] at h hn; obtain rfl : n = 1 := by omega
    split at h
    · split at h
      · rename_i m hv
        obtain ⟨h1, h⟩ := jite h
        exact jw_bastore hX (hE8 _ _ hv).1 (hE8 _ _ hv).2 h1 hd (hk _ _ _ _ h)
      · rename_i m hv
        obtain ⟨h1, h⟩ := jite h
        exact jw_zastore hX (hE8 _ _ hv).1 (hE8 _ _ hv).2 h1 hd (hk _ _ _ _ h)
      · cases h
    · cases h
  | lastore =>
    simp only [jx1, jlen] at h hn; obtain rfl : n = 1 := by omega
    split at h
    · split at h
      · rename_i m hv
        obtain ⟨h1, h⟩ := jite h
        exact jw_lastore hX (hE8 _ _ hv).1 (hE8 _ _ hv).2 h1 hd (hk _ _ _ _ h)
      · cases h
    · cases h
  | aaload =>
    simp only [jx1, jlen] at h hn; obtain rfl : n = 1 := by omega
    split at h
    · split at h
      · rename_i m hv
        obtain ⟨h1, h⟩ := jite h
        refine jw_aald hX (hE8 _ _ hv).1 (hE8 _ _ hv).2 h1 hd ?_
        split at h
        · rename_i h0
          rw [if_pos h0]
          exact hk _ _ _ _ h
        · rename_i h0
          rw [if_neg h0]
          obtain ⟨q, hq, h⟩ := jsel_some h
          rw [hq, Int.toNat_natCast]
          exact hk _ _ _ _ h
      · cases h
    · cases h
  | arraylength =>
    simp only [jx1, jlen] at h hn; obtain rfl : n = 1 := by omega
    split at h
    · split at h
      · rename_i m hv
        exact jw_alen hX (hE8 _ _ hv).1 hd (hk _ _ _ _ h)
      · rename_i m hv
        exact jw_lalen hX (hE8 _ _ hv).1 hd (hk _ _ _ _ h)
      · rename_i m hv
        exact jw_talen hX (hE8 _ _ hv) hd (hk _ _ _ _ h)
      · cases h
    · cases h
  | getfield a =>
    simp only [jx1, jlen] at h hn; obtain rfl : n = 3 := by omega
    split at h
    · split at h
      · rename_i ci f cj fks hv hw
        obtain ⟨h1, h5⟩ := jcond h
        obtain rfl := jbeq h1
        have hs := (hE8 _ _ hw).1
        split at h5
        · rename_i hf
          exact jw_get hX hs hf (fun _ => rfl) (hE2 _ _ _ hv) hd (hk _ _ _ _ h5)
        · rename_i q hf hq
          exact jw_get hX hs hq (fun _ => jfv_int hf) (hE2 _ _ _ hv) hd (hk _ _ _ _ h5)
        · rename_i q hf
          exact jw_get hX hs hf (fun _ => rfl) (hE2 _ _ _ hv) hd (hk _ _ _ _ h5)
        · rename_i hf
          exact jw_get hX hs hf (fun _ => rfl) (hE2 _ _ _ hv) hd (hk _ _ _ _ h5)
        · cases h5
      · cases h
    · cases h
  | putfield a =>
    simp only [jx1, jlen] at h hn; obtain rfl : n = 3 := by omega
    split at h
    · split at h
      · rename_i ci f cj fks hv hw
        obtain ⟨h1, h5⟩ := jcond h
        obtain rfl := jbeq h1
        have hs := (hE8 _ _ hw)
        split at h5
        · rename_i hf
          exact jw_put (w := jmi _) (kd' := 0) hX hs.1 hf (fun _ => by simp [jfv, jup, jtoV]) (hE2 _ _ _ hv) (hs.2 _ _ (by omega) hf) (fun _ => ⟨rfl, rfl⟩) hd (hk _ _ _ _ h5)
        · rename_i hf
          obtain ⟨h2, h5⟩ := jite h5
          exact jw_put (w := jmi _) (kd' := 2) hX hs.1 hf (fun _ => by simp [jfv, jup, jtoV]) (hE2 _ _ _ hv) (hs.2 _ _ (by omega) hf) (fun _ => by rcases h2 with rfl | rfl <;> exact ⟨rfl, rfl⟩) hd (hk _ _ _ _ h5)
        · cases h5
      · cases h
    · split at h
      · rename_i ci f cj fks hv hw
        obtain ⟨h1, h5⟩ := jcond h
        obtain rfl := jbeq h1
        have hs := (hE8 _ _ hw)
        split at h5
        · rename_i hf
          exact jw_put (w := jml _) (kd' := 1) hX hs.1 hf (fun _ => by simp [jfv, jup, jtoV]) (hE2 _ _ _ hv) (hs.2 _ _ (by omega) hf) (fun _ => ⟨rfl, rfl⟩) hd (hk _ _ _ _ h5)
        · cases h5
      · cases h
    · cases h
  | getstatic a =>
    simp only [jx1, jlen] at h hn; obtain rfl : n = 3 := by omega
    split at h
    · rename_i id hv
      exact hE6 _ _ hv _ _ _ _ _ hd (hk _ _ _ _ h)
    · cases h
  | invokevirtual a =>
    simp only [jx1, jlen] at h hn; obtain rfl : n = 3 := by omega
    split at h
    · rename_i q hv
      obtain ⟨h1, h⟩ := jcond h
      obtain ⟨v, σ1, h2, h3⟩ := hE3 _ _ _ _ _ _ _ hv (by simp; omega) h
      have h4 := h3 _ pc loc (st.drop q) hd (jble h1) (hk _ _ _ _ h2)
      rw [jdrop] at h4
      exact h4
    · cases h
  | invokestatic a =>
    simp only [jx1, jlen] at h hn; obtain rfl : n = 3 := by omega
    split at h
    · rename_i q hv
      obtain ⟨h1, h⟩ := jcond h
      obtain ⟨v, σ1, h2, h3⟩ := hE4 _ _ _ _ _ _ _ hv (by simp; omega) h
      have h4 := h3 _ pc loc (st.drop q) hd (jble h1) (hk _ _ _ _ h2)
      rw [jdrop] at h4
      exact h4
    · cases h
  | ireturn =>
    simp only [jx1, jlen] at h hn; obtain rfl : n = 1 := by omega
    split at h
    · split at h
      · rename_i hv
        cases h
        rw [← hE7, hv]
        exact jw_iret hX (hE7 ▸ hv) hd
      · rename_i hv
        obtain ⟨h1, h⟩ := jite h
        cases h
        rw [← hE7, hv]
        exact jw_zret hX (hE7 ▸ hv) h1 hd
      · cases h
    · cases h
  | lreturn =>
    simp only [jx1, jlen] at h hn; obtain rfl : n = 1 := by omega
    split at h
    · split at h
      · rename_i hv
        cases h
        rw [← hE7, hv]
        exact jw_lret hX (hE7 ▸ hv) hd
      · cases h
    · cases h
  | areturn =>
    simp only [jx1, jlen] at h hn; obtain rfl : n = 1 := by omega
    split at h
    · rename_i idq
      split at h
      · rename_i hv
        cases h
        rw [← hE7, hv]
        have e := jw_aret (id := idq + 1) (σ := σ) (loc := loc) hX (hE7 ▸ hv) hd
        have hne : ¬ ((idq + 1 : Nat) : Int) = 0 := by omega
        simp only [jrv, if_neg hne, Int.toNat_natCast]
        exact e
      · cases h
    · split at h
      · rename_i hv
        cases h
        rw [← hE7, hv]
        have e := jw_nret (σ := σ) (loc := loc) hX (hE7 ▸ hv) hd
        simpa [jrv] using e
      · cases h
    · cases h
  | return_ =>
    simp only [jx1, jlen] at h hn; obtain rfl : n = 1 := by omega
    split at h
    · split at h
      · rename_i hv
        cases h
        rw [← hE7, hv]
        exact jw_vret hX (hE7 ▸ hv) hd
      · cases h
    · cases h
  | tableswitch d lo hi offs =>
    simp only [jx1] at h
    split at h
    · rename_i z r
      obtain ⟨h1, h⟩ := jite h
      have h3 := jsw_some h
      refine jw_sw hX hd h1 ?_ ?_ ?_ ?_
      · intro t ht hc
        rcases h3 with ⟨-, h⟩ | ⟨j, o, g1, g2, g3⟩
        · obtain ⟨t', ht', h⟩ := jtgt_some h
          obtain rfl : t = t' := by omega
          exact hk _ _ _ _ h
        · have := (List.getElem?_eq_some_iff.mp g1).1
          omega
      · intro j off t hj hjx ht
        have hl := (List.getElem?_eq_some_iff.mp hj).1
        rcases h3 with ⟨g, -⟩ | ⟨j', o, g1, g2, g3⟩
        · exact absurd hjx (g j hl)
        · obtain rfl : j = j' := by omega
          cases hj.symm.trans g1
          obtain ⟨t', ht', h⟩ := jtgt_some g3
          obtain rfl : t = t' := by omega
          exact hk _ _ _ _ h
      · intro hc
        rcases h3 with ⟨-, h⟩ | ⟨j, o, g1, g2, g3⟩
        · obtain ⟨t', ht', h⟩ := jtgt_some h
          omega
        · have := (List.getElem?_eq_some_iff.mp g1).1
          omega
      · intro j off hj hjx
        have hl := (List.getElem?_eq_some_iff.mp hj).1
        rcases h3 with ⟨g, -⟩ | ⟨j', o, g1, g2, g3⟩
        · exact absurd hjx (g j hl)
        · obtain rfl : j = j' := by omega
          cases hj.symm.trans g1
          obtain ⟨t', ht', h⟩ := jtgt_some g3
          omega
    · cases h
  | _ => simp only [jx1] at h; cases h
end JX
