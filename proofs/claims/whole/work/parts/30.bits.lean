/-! Bits and remainders of small numbers. -/
theorem bq_I (n : Nat) : jI (n : Int) = nI n := by
  show Int32.ofInt (n : Int) = Int32.ofNat n
  simp [Int32.ofInt, Int32.ofNat]
theorem bq_L (n : Nat) : jL (n : Int) = lN n := by
  show Int64.ofInt (n : Int) = Int64.ofNat n
  simp [Int64.ofInt, Int64.ofNat]
theorem bq_nand (a b : Nat) : nI a &&& nI b = nI (a &&& b) := by
  apply Int32.toBitVec_inj.1
  show BitVec.ofNat 32 a &&& BitVec.ofNat 32 b = BitVec.ofNat 32 (a &&& b)
  apply BitVec.eq_of_getLsbD_eq
  intro i hi
  simp [hi]
theorem bq_nor (a b : Nat) : nI a ||| nI b = nI (a ||| b) := by
  apply Int32.toBitVec_inj.1
  show BitVec.ofNat 32 a ||| BitVec.ofNat 32 b = BitVec.ofNat 32 (a ||| b)
  apply BitVec.eq_of_getLsbD_eq
  intro i hi
  simp [hi]
theorem bq_nxor (a b : Nat) : nI a ^^^ nI b = nI (a ^^^ b) := by
  apply Int32.toBitVec_inj.1
  show BitVec.ofNat 32 a ^^^ BitVec.ofNat 32 b = BitVec.ofNat 32 (a ^^^ b)
  apply BitVec.eq_of_getLsbD_eq
  intro i hi
  simp [hi]
theorem bq_land (a b : Nat) : lN a &&& lN b = lN (a &&& b) := by
  apply Int64.toBitVec_inj.1
  show BitVec.ofNat 64 a &&& BitVec.ofNat 64 b = BitVec.ofNat 64 (a &&& b)
  apply BitVec.eq_of_getLsbD_eq
  intro i hi
  simp [hi]
theorem bq_lor (a b : Nat) : lN a ||| lN b = lN (a ||| b) := by
  apply Int64.toBitVec_inj.1
  show BitVec.ofNat 64 a ||| BitVec.ofNat 64 b = BitVec.ofNat 64 (a ||| b)
  apply BitVec.eq_of_getLsbD_eq
  intro i hi
  simp [hi]
theorem bq_lxor (a b : Nat) : lN a ^^^ lN b = lN (a ^^^ b) := by
  apply Int64.toBitVec_inj.1
  show BitVec.ofNat 64 a ^^^ BitVec.ofNat 64 b = BitVec.ofNat 64 (a ^^^ b)
  apply BitVec.eq_of_getLsbD_eq
  intro i hi
  simp [hi]
theorem bq_and {a b : Nat} (h : a &&& b < 2 ^ 31) : jand (a : Int) (b : Int) = ((a &&& b : Nat) : Int) := by
  rw [jand, bq_I, bq_I, bq_nand, nI_toInt h]
theorem bq_or {a b : Nat} (h : a ||| b < 2 ^ 31) : jor (a : Int) (b : Int) = ((a ||| b : Nat) : Int) := by
  rw [jor, bq_I, bq_I, bq_nor, nI_toInt h]
theorem bq_xor {a b : Nat} (h : a ^^^ b < 2 ^ 31) : jxor (a : Int) (b : Int) = ((a ^^^ b : Nat) : Int) := by
  rw [jxor, bq_I, bq_I, bq_nxor, nI_toInt h]
theorem bq_tbv (x : Int) : (jI x).toBitVec.toNat = (x % 4294967296).toNat := by
  show (BitVec.ofInt 32 x).toNat = _
  rw [BitVec.toNat_ofInt]
  rfl
theorem bq_mask (x : Int) {m : Int} (k : Nat) (hk : k ≤ 30) (hm : (jI m).toBitVec.toNat = 2 ^ k - 1) : jand x m = (((x % 4294967296).toNat % 2 ^ k : Nat) : Int) := by
  have hp : (2 : Nat) ^ k ≤ 2 ^ 30 := Nat.pow_le_pow_right (by decide) hk
  have h1 := pk_and (jI x) (m := jI m) k hm
  have h0 : 0 < 2 ^ k := Nat.two_pow_pos k
  have h2 : (jI x).toBitVec.toNat % 2 ^ k < 2 ^ k := Nat.mod_lt _ h0
  rw [jand, h1, nI_toInt (by omega), bq_tbv]
theorem bq_and255 (x : Int) : jand x 255 = x % 256 := by rw [bq_mask x 8 (by decide) rfl]; omega
theorem bq_and1 (x : Int) : jand x 1 = x % 2 := by rw [bq_mask x 1 (by decide) rfl]; omega
theorem bq_and31 (x : Int) : jand x 31 = x % 32 := by rw [bq_mask x 5 (by decide) rfl]; omega
theorem bq_and4095 (x : Int) : jand x 4095 = x % 4096 := by rw [bq_mask x 12 (by decide) rfl]; omega
theorem bq_and65535 (x : Int) : jand x 65535 = x % 65536 := by rw [bq_mask x 16 (by decide) rfl]; omega
theorem bq_shc : ∀ k, k < 32 → ((nI k &&& 31).toBitVec.smod 32).toNat = k := by decide +kernel
theorem bq_shl {a k : Nat} (hk : k < 32) (h : a * 2 ^ k < 2 ^ 31) : jshl (a : Int) (k : Int) = ((a * 2 ^ k : Nat) : Int) := by
  rw [jshl, bq_I, bq_I, pk_shlN (n := a) (nI k &&& 31) k (bq_shc k hk) (by omega), nI_toInt h]
theorem bq_shr {a k : Nat} (hk : k < 32) (h : a < 2 ^ 31) : jshr (a : Int) (k : Int) = ((a / 2 ^ k : Nat) : Int) := by
  have h2 : a / 2 ^ k ≤ a := Nat.div_le_self _ _
  rw [jshr, bq_I, bq_I, pk_shrN h (nI k &&& 31) k (bq_shc k hk), nI_toInt (by omega)]
theorem bq_div {a d : Nat} (ha : a < 2 ^ 31) (hd : d < 2 ^ 31) : jdiv (a : Int) (d : Int) = ((a / d : Nat) : Int) := by
  rw [jdiv, jw_id (by omega) (by omega), jw_id (by omega) (by omega)]
  rfl
theorem bq_rem {a d : Nat} (ha : a < 2 ^ 31) (hd : d < 2 ^ 31) : jrem (a : Int) (d : Int) = ((a % d : Nat) : Int) := by
  rw [jrem, jw_id (by omega) (by omega), jw_id (by omega) (by omega)]
  rfl
theorem bq_bit {a k : Nat} (hk : k < 32) (h : a < 2 ^ 31) : jand (jshr (a : Int) (k : Int)) 1 = if a.testBit k then 1 else 0 := by
  rw [bq_shr hk h, bq_and1, Nat.testBit_eq_decide_div_mod_eq]
  generalize a / 2 ^ k = q
  by_cases hq : q % 2 = 1
  · simp only [hq, decide_true, if_true]; omega
  · simp only [hq, decide_false, Bool.false_eq_true, if_false]; omega
theorem bl_toInt {n : Nat} (h : n < 2 ^ 63) : (lN n).toInt = (n : Int) := pk_lT h
theorem bl_and {a b : Nat} (h : a &&& b < 2 ^ 63) : jland (a : Int) (b : Int) = ((a &&& b : Nat) : Int) := by
  rw [jland, bq_L, bq_L, bq_land, bl_toInt h]
theorem bl_or {a b : Nat} (h : a ||| b < 2 ^ 63) : jlor (a : Int) (b : Int) = ((a ||| b : Nat) : Int) := by
  rw [jlor, bq_L, bq_L, bq_lor, bl_toInt h]
theorem bl_xor {a b : Nat} (h : a ^^^ b < 2 ^ 63) : jlxor (a : Int) (b : Int) = ((a ^^^ b : Nat) : Int) := by
  rw [jlxor, bq_L, bq_L, bq_lxor, bl_toInt h]
theorem bl_one {k : Nat} (h : k < 63) : jlshl 1 (k : Int) = ((2 ^ k : Nat) : Int) := by
  have : ∀ k : Nat, k < 63 → jlshl 1 (k : Int) = ((2 ^ k : Nat) : Int) := by decide +kernel
  exact this k h
theorem bl_cmp {a b : Int} (ha : -9223372036854775808 ≤ a ∧ a ≤ 9223372036854775807) (hb : -9223372036854775808 ≤ b ∧ b ≤ 9223372036854775807) : jlcmp a b = if b < a then 1 else if a = b then 0 else -1 := by
  have e : ∀ x : Int, (-9223372036854775808 ≤ x ∧ x ≤ 9223372036854775807) → jw64 x = x := fun x hx => by unfold jw64; omega
  rw [jlcmp, e a ha, e b hb]
