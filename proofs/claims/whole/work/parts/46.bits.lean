/-! BITS OF NUMBERS THAT ARE NOT BELOW 0 -/
theorem n32 (a : Nat) : (Int32.ofInt (a : Int)).toBitVec = BitVec.ofNat 32 a := by
  show BitVec.ofInt 32 (a : Int) = _
  exact BitVec.ofInt_natCast 32 a
theorem n64 (a : Nat) : (Int64.ofInt (a : Int)).toBitVec = BitVec.ofNat 64 a := by
  show BitVec.ofInt 64 (a : Int) = _
  exact BitVec.ofInt_natCast 64 a
theorem t32 {x : Int32} {c : Nat} (h : x.toBitVec = BitVec.ofNat 32 c) (hc : c < 2147483648) : x.toInt = (c : Int) := by
  have e : x = Int32.ofInt (c : Int) := Int32.toBitVec_inj.mp (h.trans (n32 c).symm)
  rw [e, q_id ⟨by omega, by omega⟩]
theorem t64 {x : Int64} {c : Nat} (h : x.toBitVec = BitVec.ofNat 64 c) (hc : c < 9223372036854775808) : x.toInt = (c : Int) := by
  have e : x = Int64.ofInt (c : Int) := Int64.toBitVec_inj.mp (h.trans (n64 c).symm)
  rw [e, q_ld ⟨by omega, by omega⟩]
theorem or_lt {a b : Nat} (k : Nat) (ha : a < 2 ^ k) (hb : b < 2 ^ k) : a ||| b < 2 ^ k := Nat.or_lt_two_pow ha hb
theorem oor {a b : Nat} (ha : a < 2147483648) (hb : b < 2147483648) : o_or (a : Int) (b : Int) = ((a ||| b : Nat) : Int) := by
  refine t32 ?_ (or_lt 31 ha hb)
  rw [Int32.toBitVec_or, n32, n32]
  apply BitVec.eq_of_getLsbD_eq
  intro i hi
  simp [hi]
theorem oand {a b : Nat} (ha : a < 2147483648) : o_and (a : Int) (b : Int) = ((a &&& b : Nat) : Int) := by
  refine t32 ?_ (Nat.lt_of_le_of_lt Nat.and_le_left ha)
  rw [Int32.toBitVec_and, n32, n32]
  apply BitVec.eq_of_getLsbD_eq
  intro i hi
  simp [hi]
theorem s31 : ∀ n, n < 32 → ((Int32.ofInt ((n : Nat) : Int) &&& 31).toBitVec.smod 32).toNat = n := by decide +kernel
theorem oshl {a k : Nat} (hk : k < 32) (h : a * 2 ^ k < 2147483648) : o_shl (a : Int) (k : Int) = ((a * 2 ^ k : Nat) : Int) := by
  refine t32 ?_ h
  have ha : a < 2147483648 := Nat.lt_of_le_of_lt (Nat.le_mul_of_pos_right a (Nat.two_pow_pos k)) h
  rw [Int32.toBitVec_shiftLeft]
  show (Int32.ofInt (a : Int)).toBitVec <<< ((Int32.ofInt (k : Int) &&& 31).toBitVec.smod 32).toNat = _
  rw [s31 k hk, n32]
  apply BitVec.eq_of_toNat_eq
  rw [BitVec.toNat_shiftLeft, BitVec.toNat_ofNat, BitVec.toNat_ofNat, Nat.mod_eq_of_lt (a := a) (by omega), Nat.shiftLeft_eq]
theorem oshr {a k : Nat} (hk : k < 32) (ha : a < 2147483648) : o_shr (a : Int) (k : Int) = ((a / 2 ^ k : Nat) : Int) := by
  refine t32 ?_ (Nat.lt_of_le_of_lt (Nat.div_le_self _ _) ha)
  rw [Int32.toBitVec_shiftRight]
  show (Int32.ofInt (a : Int)).toBitVec.sshiftRight ((Int32.ofInt (k : Int) &&& 31).toBitVec.smod 32).toNat = _
  have hm : (BitVec.ofNat 32 a).msb = false := by
    rw [BitVec.msb_eq_false_iff_two_mul_lt, BitVec.toNat_ofNat, Nat.mod_eq_of_lt (by omega)]
    omega
  rw [s31 k hk, n32, BitVec.sshiftRight_eq_of_msb_false hm]
  apply BitVec.eq_of_toNat_eq
  rw [BitVec.toNat_ushiftRight, BitVec.toNat_ofNat, BitVec.toNat_ofNat, Nat.mod_eq_of_lt (a := a) (by omega), Nat.shiftRight_eq_div_pow, Nat.mod_eq_of_lt]
  exact Nat.lt_of_le_of_lt (Nat.div_le_self _ _) (by omega)
theorem olor {a b : Nat} (ha : a < 9223372036854775808) (hb : b < 9223372036854775808) : o_lor (a : Int) (b : Int) = ((a ||| b : Nat) : Int) := by
  refine t64 ?_ (or_lt 63 ha hb)
  rw [Int64.toBitVec_or, n64, n64]
  apply BitVec.eq_of_getLsbD_eq
  intro i hi
  simp [hi]
theorem oland {a b : Nat} (ha : a < 9223372036854775808) : o_land (a : Int) (b : Int) = ((a &&& b : Nat) : Int) := by
  refine t64 ?_ (Nat.lt_of_le_of_lt Nat.and_le_left ha)
  rw [Int64.toBitVec_and, n64, n64]
  apply BitVec.eq_of_getLsbD_eq
  intro i hi
  simp [hi]
theorem s63 : ∀ n, n < 64 → (((Int32.ofInt ((n : Nat) : Int)).toInt64 &&& 63).toBitVec.smod 64).toNat = n := by decide +kernel
theorem olshl {a k : Nat} (hk : k < 64) (h : a * 2 ^ k < 9223372036854775808) : o_lshl (a : Int) (k : Int) = ((a * 2 ^ k : Nat) : Int) := by
  refine t64 ?_ h
  have ha : a < 9223372036854775808 := Nat.lt_of_le_of_lt (Nat.le_mul_of_pos_right a (Nat.two_pow_pos k)) h
  rw [Int64.toBitVec_shiftLeft]
  show (Int64.ofInt (a : Int)).toBitVec <<< (((Int32.ofInt (k : Int)).toInt64 &&& 63).toBitVec.smod 64).toNat = _
  rw [s63 k hk, n64]
  apply BitVec.eq_of_toNat_eq
  rw [BitVec.toNat_shiftLeft, BitVec.toNat_ofNat, BitVec.toNat_ofNat, Nat.mod_eq_of_lt (a := a) (by omega), Nat.shiftLeft_eq]
theorem olshr {a k : Nat} (hk : k < 64) (ha : a < 9223372036854775808) : o_lshr (a : Int) (k : Int) = ((a / 2 ^ k : Nat) : Int) := by
  refine t64 ?_ (Nat.lt_of_le_of_lt (Nat.div_le_self _ _) ha)
  rw [Int64.toBitVec_shiftRight]
  show (Int64.ofInt (a : Int)).toBitVec.sshiftRight (((Int32.ofInt (k : Int)).toInt64 &&& 63).toBitVec.smod 64).toNat = _
  have hm : (BitVec.ofNat 64 a).msb = false := by
    rw [BitVec.msb_eq_false_iff_two_mul_lt, BitVec.toNat_ofNat, Nat.mod_eq_of_lt (by omega)]
    omega
  rw [s63 k hk, n64, BitVec.sshiftRight_eq_of_msb_false hm]
  apply BitVec.eq_of_toNat_eq
  rw [BitVec.toNat_ushiftRight, BitVec.toNat_ofNat, BitVec.toNat_ofNat, Nat.mod_eq_of_lt (a := a) (by omega), Nat.shiftRight_eq_div_pow, Nat.mod_eq_of_lt]
  exact Nat.lt_of_le_of_lt (Nat.div_le_self _ _) (by omega)
/-- a bit of a set -/
theorem bitn (s k : Nat) : (s / 2 ^ k) &&& 1 = if s.testBit k then 1 else 0 := by
  rw [Nat.and_one_is_mod, Nat.testBit_eq_decide_div_mod_eq]
  by_cases h : s / 2 ^ k % 2 = 1
  · simp [h]
  · rw [show s / 2 ^ k % 2 = 0 by omega]
    rfl
theorem isIn_n {s k : Nat} (hk : k < 32) (hs : s < 2147483648) : g_X9_isIn (s : Int) (k : Int) = if s.testBit k then 1 else 0 := by
  unfold g_X9_isIn
  rw [oshr hk hs, show (1 : Int) = ((1 : Nat) : Int) from rfl, oand (Nat.lt_of_le_of_lt (Nat.div_le_self _ _) hs), bitn]
  cases s.testBit k <;> rfl
