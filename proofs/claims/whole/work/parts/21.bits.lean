/-! bits -/
theorem gbv (n : Nat) : (Int32.ofInt (n : Int)).toBitVec = BitVec.ofNat 32 n := rfl
theorem gnn {n : Nat} (h : n < 2147483648) : g32 (n : Int) := ⟨by omega, by omega⟩
theorem gAnd_n {a b : Nat} (ha : a < 2147483648) : gAnd a b = ((a &&& b : Nat) : Int) := by
  have h : Int32.ofInt (a : Int) &&& Int32.ofInt (b : Int) = Int32.ofInt ((a &&& b : Nat) : Int) := by
    apply Int32.toBitVec_inj.mp
    rw [Int32.toBitVec_and, gbv, gbv, gbv]
    exact (BitVec.ofNat_and).symm
  unfold gAnd
  rw [h, gti (gnn (Nat.lt_of_le_of_lt Nat.and_le_left ha))]
theorem gOr_n {a b : Nat} (ha : a < 2147483648) (hb : b < 2147483648) : gOr a b = ((a ||| b : Nat) : Int) := by
  have hl : a ||| b < 2 ^ 31 := Nat.or_lt_two_pow ha hb
  have h : Int32.ofInt (a : Int) ||| Int32.ofInt (b : Int) = Int32.ofInt ((a ||| b : Nat) : Int) := by
    apply Int32.toBitVec_inj.mp
    rw [Int32.toBitVec_or, gbv, gbv, gbv]
    exact (BitVec.ofNat_or).symm
  unfold gOr
  rw [h, gti (gnn hl)]
theorem gXor_n {a b : Nat} (ha : a < 2147483648) (hb : b < 2147483648) : gXor a b = ((a ^^^ b : Nat) : Int) := by
  have hl : a ^^^ b < 2 ^ 31 := Nat.xor_lt_two_pow ha hb
  have h : Int32.ofInt (a : Int) ^^^ Int32.ofInt (b : Int) = Int32.ofInt ((a ^^^ b : Nat) : Int) := by
    apply Int32.toBitVec_inj.mp
    rw [Int32.toBitVec_xor, gbv, gbv, gbv]
    exact (BitVec.ofNat_xor).symm
  unfold gXor
  rw [h, gti (gnn hl)]
theorem gsl : ∀ n, n < 32 → ((Int32.ofInt (n : Nat) &&& 31).toBitVec.smod 32).toNat = n := by decide +kernel
theorem gShr_n {a k : Nat} (ha : a < 2147483648) (hk : k < 32) : gShr a k = ((a / 2 ^ k : Nat) : Int) := by
  unfold gShr
  have e : (Int32.ofInt (a : Int) >>> (Int32.ofInt (k : Int) &&& 31)).toInt = (Int32.ofInt (a : Int)).toInt >>> k := by
    show ((Int32.ofInt (a : Int) >>> (Int32.ofInt (k : Int) &&& 31)).toBitVec).toInt = _
    rw [Int32.toBitVec_shiftRight, BitVec.sshiftRight_eq', gsl k hk, BitVec.toInt_sshiftRight]
    rfl
  rw [e, gti (gnn ha), Int.shiftRight_eq_div_pow]
  norm_cast
theorem gsu : ∀ n, n < 32 → (((Int32.ofInt (n : Nat)).toUInt32 &&& Int32.toUInt32 31).toBitVec % 32).toNat = n := by decide +kernel
theorem gUshr_n {a k : Nat} (ha : a < 2147483648) (hk : k < 32) : gUshr a k = ((a / 2 ^ k : Nat) : Int) := by
  unfold gUshr
  have e : ((Int32.ofInt (a : Int)).toUInt32 >>> ((Int32.ofInt (k : Int)).toUInt32 &&& Int32.toUInt32 31)).toInt32 = Int32.ofInt ((a / 2 ^ k : Nat) : Int) := by
    apply Int32.toBitVec_inj.mp
    show ((Int32.ofInt (a : Int)).toUInt32 >>> ((Int32.ofInt (k : Int)).toUInt32 &&& Int32.toUInt32 31)).toBitVec = _
    rw [UInt32.toBitVec_shiftRight, BitVec.ushiftRight_eq', gsu k hk, gbv]
    apply BitVec.eq_of_toNat_eq
    show ((BitVec.ofNat 32 a) >>> k).toNat = _
    rw [BitVec.toNat_ushiftRight, BitVec.toNat_ofNat, BitVec.toNat_ofNat, Nat.shiftRight_eq_div_pow, Nat.mod_eq_of_lt (by omega)]
    exact (Nat.mod_eq_of_lt (Nat.lt_of_le_of_lt (Nat.div_le_self _ _) (by omega))).symm
  rw [e, gti (gnn (Nat.lt_of_le_of_lt (Nat.div_le_self _ _) ha))]
theorem gShl1 : ∀ k : Nat, k < 31 → gShl 1 (k : Int) = ((2 ^ k : Nat) : Int) := by decide +kernel
theorem gShl0 : ∀ k : Nat, k < 31 → gShl 0 (k : Int) = 0 := by decide +kernel
/-- the bit of a number at a place -/
theorem gbit {a k : Nat} (ha : a < 2147483648) (hk : k < 32) : gAnd (gShr a k) 1 = ((a / 2 ^ k % 2 : Nat) : Int) := by
  rw [gShr_n ha hk, show (1 : Int) = ((1 : Nat) : Int) from rfl, gAnd_n (Nat.lt_of_le_of_lt (Nat.div_le_self _ _) ha), Nat.and_one_is_mod]
