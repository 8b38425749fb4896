/-! calls, side by side: texts, means, what was told last -/
def bt (z : Int32) (j : Nat) : Nat := (z.toBitVec.toNat / 2 ^ (24 - 8 * j)) % 256
theorem bt_lt {z : Int32} {j : Nat} : bt z j < 256 := Nat.mod_lt _ (by decide)
theorem bv_sh (v : BitVec 32) {k : Nat} (hk : k ≤ 24) : (v.sshiftRight k &&& 255#32).toNat = (v.toNat / 2 ^ k) % 256 := by
  have e : v.sshiftRight k &&& 255#32 = (v >>> k) &&& 255#32 := by
    apply BitVec.eq_of_getLsbD_eq
    intro i hi
    rw [BitVec.getLsbD_and, BitVec.getLsbD_and]
    by_cases h8 : i < 8
    · rw [BitVec.getLsbD_sshiftRight, BitVec.getLsbD_ushiftRight]
      have a : (decide (32 ≤ i)) = false := decide_eq_false (by omega)
      rw [a, if_pos (by omega)]
      rfl
    · have : (255#32).getLsbD i = false := by
        rw [BitVec.getLsbD_ofNat]
        have t : Nat.testBit 255 i = false := Nat.testBit_lt_two_pow (Nat.lt_of_lt_of_le (show 255 < 2 ^ 8 by decide) (Nat.pow_le_pow_right (by decide) (by omega)))
        rw [t, Bool.and_false]
      rw [this, Bool.and_false, Bool.and_false]
  rw [e, BitVec.toNat_and, BitVec.toNat_ushiftRight, Nat.shiftRight_eq_div_pow]
  exact Nat.and_two_pow_sub_one_eq_mod _ 8
theorem nn_bv {x : Int32} {t : Nat} (h : x.toBitVec.toNat = t) (ht : t < 2147483648) : x = nn t := by
  rw [← Int32.toInt_inj, nn_ii, ii_toInt (by omega) (by omega)]
  show x.toBitVec.toInt = t
  rw [BitVec.toInt_eq_toNat_cond, h, if_pos (by omega)]
/-- the class's byte -/
theorem by_ok (w : UInt32) : fm_nw .byte (w.toInt32.toInt8.toInt32) = by8 (w.toNat % 256) := by
  show (w.toInt32.toInt8.toInt32).toInt8.toInt32 = _
  have e1 : (w.toInt32.toInt8.toInt32).toInt = ((w.toNat : Int)).bmod 256 := by
    rw [Int8.toInt_toInt32, Int32.toInt_toInt8]
    show (Int.bmod (w.toBitVec.toInt) (2 ^ 8)) = _
    rw [BitVec.toInt_eq_toNat_bmod, Int.bmod_bmod_of_dvd (by decide)]
    rfl
  have e2 : (w.toNat : Int).bmod 256 = if w.toNat % 256 < 128 then ((w.toNat % 256 : Nat) : Int) else ((w.toNat % 256 : Nat) : Int) - 256 := by
    rw [Int.bmod_def]
    have : ((w.toNat : Int) % ((256 : Nat) : Int)) = ((w.toNat % 256 : Nat) : Int) := by omega
    rw [this]
    split <;> split <;> omega
  have b : -128 ≤ (w.toNat : Int).bmod 256 ∧ (w.toNat : Int).bmod 256 < 128 := by
    rw [e2]
    have := Nat.mod_lt w.toNat (show 0 < 256 by decide)
    split <;> omega
  have e3 : ((w.toInt32.toInt8.toInt32).toInt8.toInt32).toInt = (w.toNat : Int).bmod 256 := by
    rw [Int8.toInt_toInt32, Int32.toInt_toInt8, e1]
    exact Int.bmod_eq_of_le (by omega) (by omega)
  unfold by8
  rw [← Int32.toInt_inj, e3, ii_toInt (by split <;> omega) (by split <;> omega)]
  exact e2
theorem bt_c {z : Int32} {j : Nat} (hj : j < 4) : fm_nw .byte (((z.toUInt32 >>> ((ii (24 - 8 * (j : Int))).toUInt32 &&& Int32.toUInt32 31)).toInt32).toInt8.toInt32) = by8 (bt z j) := by
  rw [by_ok]
  have h : j = 0 ∨ j = 1 ∨ j = 2 ∨ j = 3 := by omega
  rcases h with h | h | h | h
  · subst h
    show by8 ((z.toUInt32 >>> 24).toNat % 256) = _
    rw [UInt32.toNat_shiftRight, Nat.shiftRight_eq_div_pow]
    rfl
  · subst h
    show by8 ((z.toUInt32 >>> 16).toNat % 256) = _
    rw [UInt32.toNat_shiftRight, Nat.shiftRight_eq_div_pow]
    rfl
  · subst h
    show by8 ((z.toUInt32 >>> 8).toNat % 256) = _
    rw [UInt32.toNat_shiftRight, Nat.shiftRight_eq_div_pow]
    rfl
  · subst h
    show by8 ((z.toUInt32 >>> 0).toNat % 256) = _
    rw [UInt32.toNat_shiftRight, Nat.shiftRight_eq_div_pow]
    rfl
theorem bt_r {z : Int32} {j : Nat} (hj : j < 4) : (z >>> (ii (24 - 8 * (j : Int)) &&& 31)) &&& (255 : Int32) = nn (bt z j) := by
  refine nn_bv ?_ (by have := bt_lt (z := z) (j := j); omega)
  have h : j = 0 ∨ j = 1 ∨ j = 2 ∨ j = 3 := by omega
  rcases h with h | h | h | h
  · subst h; exact bv_sh z.toBitVec (k := 24) (by omega)
  · subst h; exact bv_sh z.toBitVec (k := 16) (by omega)
  · subst h; exact bv_sh z.toBitVec (k := 8) (by omega)
  · subst h; exact bv_sh z.toBitVec (k := 0) (by omega)
