/-! small numbers as 32-bit ones; sums, searches and counts over ranges -/
def ii (z : Int) : Int32 := Int32.ofInt z
theorem ii_toInt {z : Int} (h1 : -2147483648 ≤ z) (h2 : z < 2147483648) : (ii z).toInt = z := by
  unfold ii
  rw [Int32.toInt_ofInt]
  exact Jvm.Kit.bmod32 (by omega) (by omega)
theorem ii_add (a b : Int) : ii a + ii b = ii (a + b) := (Int32.ofInt_add a b).symm
theorem ii_mul (a b : Int) : ii a * ii b = ii (a * b) := (Int32.ofInt_mul a b).symm
theorem ii_neg (a : Int) : - ii a = ii (-a) := (Int32.ofInt_neg a).symm
theorem ii_sub (a b : Int) : ii a - ii b = ii (a - b) := (Int32.ofInt_sub a b).symm
theorem ii_lt {a b : Int} (h1 : -2147483648 ≤ a) (h2 : a < 2147483648) (h3 : -2147483648 ≤ b) (h4 : b < 2147483648) : ii a < ii b ↔ a < b := by
  rw [Int32.lt_iff_toInt_lt, ii_toInt h1 h2, ii_toInt h3 h4]
theorem ii_le {a b : Int} (h1 : -2147483648 ≤ a) (h2 : a < 2147483648) (h3 : -2147483648 ≤ b) (h4 : b < 2147483648) : ii a ≤ ii b ↔ a ≤ b := by
  rw [Int32.le_iff_toInt_le, ii_toInt h1 h2, ii_toInt h3 h4]
theorem ii_eq {a b : Int} (h1 : -2147483648 ≤ a) (h2 : a < 2147483648) (h3 : -2147483648 ≤ b) (h4 : b < 2147483648) : ii a = ii b ↔ a = b := by
  rw [← Int32.toInt_inj, ii_toInt h1 h2, ii_toInt h3 h4]
theorem ii_tn {a : Int} (h1 : -2147483648 ≤ a) (h2 : a < 2147483648) : (ii a).toNatClampNeg = a.toNat := by
  show (ii a).toInt.toNat = _
  rw [ii_toInt h1 h2]
theorem ii_tnn {a : Nat} (h2 : a < 2147483648) : (ii a).toNatClampNeg = a := by
  rw [ii_tn (by omega) (by omega)]
  rfl
theorem ii_inb {a : Int} {n : Nat} (h1 : -2147483648 ≤ a) (h2 : a < 2147483648) : px_inb (ii a) n = true ↔ (0 ≤ a ∧ a < n) := by
  simp only [px_inb, ii_toInt h1 h2, Bool.and_eq_true, decide_eq_true_eq]
theorem ii_of (x : Int32) : x = ii x.toInt := (Int32.ofInt_toInt x).symm
theorem ii_ofNat (n : Nat) : Int32.ofNat n = ii n := (Int32.ofInt_eq_ofNat).symm
theorem ii_inc (a : Int) : ii a + 1 = ii (a + 1) := ii_add a 1
theorem ii_dec (a : Int) : ii a - 1 = ii (a - 1) := ii_sub a 1
theorem ii_m1 : (-1 : Int32) = ii (-1) := by decide
theorem ii_0 : (0 : Int32) = ii 0 := by decide
theorem ii_1 : (1 : Int32) = ii 1 := by decide
theorem ii_2 : (2 : Int32) = ii 2 := by decide
theorem ii_6 : (6 : Int32) = ii 6 := by decide
theorem ii_10 : (10 : Int32) = ii 10 := by decide
theorem ii_12 : (12 : Int32) = ii 12 := by decide
theorem ii_16 : (16 : Int32) = ii 16 := by decide
theorem ii_120 : (120 : Int32) = ii 120 := by decide
/-- is there one -/
def ny (p : Nat → Bool) : Nat → Nat → Bool
  | _, 0 => false
  | j, k + 1 => p j || ny p (j + 1) k
theorem ny_iff {p : Nat → Bool} : ∀ {k j : Nat}, ny p j k = true ↔ ∃ i, j ≤ i ∧ i < j + k ∧ p i = true := by
  intro k
  induction k with
  | zero => intro j; simp only [ny]; constructor
            · intro h; cases h
            · rintro ⟨i, h1, h2, -⟩; omega
  | succ k ih =>
    intro j
    simp only [ny, Bool.or_eq_true, ih]
    constructor
    · rintro (h | ⟨i, h1, h2, h3⟩)
      · exact ⟨j, by omega, by omega, h⟩
      · exact ⟨i, by omega, by omega, h3⟩
    · rintro ⟨i, h1, h2, h3⟩
      by_cases e : i = j
      · subst e; exact Or.inl h3
      · exact Or.inr ⟨i, by omega, by omega, h3⟩
/-- sums -/
def su (f : Nat → Int32) : Nat → Nat → Int32
  | _, 0 => 0
  | j, k + 1 => f j + su f (j + 1) k
/-- the first one, -1 without any -/
def fi (p : Nat → Bool) : Nat → Nat → Int
  | _, 0 => -1
  | j, k + 1 => if p j = true then j else fi p (j + 1) k
theorem fb_n {α β : Type} {x : α} {m : fm_M} {F : α → fm_M → Option β} : fm_bn (some (x, m)) F = F x m := rfl
theorem fb_d {α β : Type} {v : α} {F : α → β} : fm_bd v F = F v := rfl
theorem fb_x {α β : Type} {x : α} {m : fm_M} {F : α → fm_M → Option ((β ⊕ String) × fm_M)} : fm_bx (some (.inl x, m)) F = F x m := rfl
theorem fb_e {α β : Type} {E : String} {m : fm_M} {F : α → fm_M → Option ((β ⊕ String) × fm_M)} : fm_bx (some (.inr E, m)) F = some (.inr E, m) := rfl
def bi (b : Bool) : Int32 := if b = true then 1 else 0
theorem bi_t : bi true = 1 := rfl
theorem bi_f : bi false = 0 := rfl
theorem bi_0 {b : Bool} : bi b = 0 ↔ b = false := by cases b <;> decide
theorem bi_1 {b : Bool} : bi b = 1 ↔ b = true := by cases b <;> decide
theorem bi_01 {b : Bool} : fm_b01 (bi b) = true := by cases b <;> decide
theorem fm_N_le {n : Nat} (h : n ≤ 1000000) : n ≤ fm_N := h
