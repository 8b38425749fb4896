/-! a float that is a number is equal to itself -/
theorem ord_Z (z : Int) : compare z z = Ordering.eq := by
  first
    | exact Std.ReflCmp.compare_self
    | simp [compare, compareOfLessAndEq]
theorem ord_s {d : FP.Core.Datum} (h : d ≠ .nan) : FP.Core.order d d = some Ordering.eq := by
  cases d with
  | nan => exact absurd rfl h
  | inf s => exact congrArg some (ord_Z _)
  | fin s c q => exact congrArg some (ord_Z _)
theorem fcmp_s {a : UInt32} (h : fm_n32 a = true) : FP.fcmp a a = some Ordering.eq := by
  have h1 := of_decide_eq_true h
  rw [UInt32.le_iff_toNat_le, UInt32.toNat_and] at h1
  have h2 : a.toNat &&& 2147483647 ≤ 2139095040 := h1
  rw [show (2147483647 : Nat) = 2 ^ 31 - 1 by decide, Nat.and_two_pow_sub_one_eq_mod] at h2
  refine ord_s (fun e => ?_)
  unfold FP.Core.decode at e
  have f1 : FP.Core.fieldE FP.Core.b32 a.toNat = a.toNat / 8388608 % 256 := rfl
  have f2 : FP.Core.fieldT FP.Core.b32 a.toNat = a.toNat % 8388608 := rfl
  have f3 : FP.Core.b32.exps - 1 = 255 := rfl
  rw [f1, f2, f3] at e
  by_cases c : a.toNat / 8388608 % 256 = 255
  · rw [if_pos c, if_pos (by omega)] at e
    cases e
  · rw [if_neg c] at e
    split at e <;> cases e
