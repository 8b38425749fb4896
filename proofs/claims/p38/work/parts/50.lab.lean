/-! what the class reads of a state: labels; labels taken and given up -/
/-- sums of small numbers -/
def sn (f : Nat → Nat) : Nat → Nat → Nat
  | _, 0 => 0
  | j, k + 1 => f j + sn f (j + 1) k
def sz (f : Nat → Int) : Nat → Nat → Int
  | _, 0 => 0
  | j, k + 1 => f j + sz f (j + 1) k
/-- the last one below, -1 without any -/
def li (p : Nat → Bool) : Nat → Int
  | 0 => -1
  | k + 1 => if p k = true then k else li p k
theorem fi_t {p : Nat → Bool} {j k : Nat} (h : p j = true) : fi p j (k + 1) = j := if_pos h
theorem fi_f {p : Nat → Bool} {j k : Nat} (h : p j = false) : fi p j (k + 1) = fi p (j + 1) k := if_neg (by rw [h]; decide)
theorem li_t {p : Nat → Bool} {k : Nat} (h : p k = true) : li p (k + 1) = k := if_pos h
theorem li_f {p : Nat → Bool} {k : Nat} (h : p k = false) : li p (k + 1) = li p k := if_neg (by rw [h]; decide)
theorem fi_r {p : Nat → Bool} : ∀ {k j : Nat}, fi p j k = -1 ∨ ((j : Int) ≤ fi p j k ∧ fi p j k < j + k)
  | 0, _ => Or.inl rfl
  | k + 1, j => by
    unfold fi
    split
    · exact Or.inr (by omega)
    · rcases fi_r (p := p) (k := k) (j := j + 1) with h | h
      · exact Or.inl h
      · exact Or.inr (by omega)
theorem li_r {p : Nat → Bool} : ∀ {k : Nat}, li p k = -1 ∨ (0 ≤ li p k ∧ li p k < k)
  | 0 => Or.inl rfl
  | k + 1 => by
    unfold li
    split
    · exact Or.inr (by omega)
    · rcases li_r (p := p) (k := k) with h | h
      · exact Or.inl h
      · exact Or.inr (by omega)
/-- labels of the space f that x has -/
def hl (V : VV) (f z : Nat) (x : Int32) : Nat := nc (fun i => decide (V 5 0 (f * 12 + i) = x)) 0 z
/-- labels that f has of other spaces -/
def bw (V : VV) (Z : Nat → Nat) (f : Nat) : Nat := sn (fun i => if i = f then 0 else hl V i (Z i) (ii f)) 0 10
def lf (V : VV) (f z : Nat) : Int := if fi (fun i => decide (V 5 0 (f * 12 + i) = -1)) 0 z = -1 then -1 else f * 12 + fi (fun i => decide (V 5 0 (f * 12 + i) = -1)) 0 z
def hf (V : VV) (f z : Nat) : Int := if li (fun i => decide (V 5 0 (f * 12 + i) = -1)) z = -1 then -1 else f * 12 + li (fun i => decide (V 5 0 (f * 12 + i) = -1)) z
def fe (V : VV) (N : Nat) (Z : Nat → Nat) (f i : Nat) : Nat := if lbV V N f i = -1 then 0 else hl V i (Z i) (-1)
def ld (V : VV) (N : Nat) (Z : Nat → Nat) (f : Nat) : Nat → Nat → Int → Nat → Int
  | _, 0, b, _ => b
  | j, k + 1, b, mo => if mo < fe V N Z f j then ld V N Z f (j + 1) k j (fe V N Z f j) else ld V N Z f (j + 1) k b mo
def tk (V : VV) (N : Nat) (Z : Nat → Nat) (f br : Nat) : Int := if lf V f (Z f) = -1 then (if bw V Z f < br then (if ld V N Z f 0 N (-1) 0 < 0 then -1 else hf V (ld V N Z f 0 N (-1) 0).toNat (Z (ld V N Z f 0 N (-1) 0).toNat)) else -1) else lf V f (Z f)
theorem hl_le {V : VV} {f z : Nat} {x : Int32} : hl V f z x ≤ z := nc_le
theorem sn_le {f : Nat → Nat} {B : Nat} : ∀ {k j : Nat}, (∀ i, j ≤ i → i < j + k → f i ≤ B) → sn f j k ≤ k * B
  | 0, _, _ => by unfold sn; omega
  | k + 1, j, h => by
    unfold sn
    have h1 := h j (by omega) (by omega)
    have h2 := sn_le (f := f) (B := B) (k := k) (j := j + 1) (fun i a b => h i (by omega) (by omega))
    rw [Nat.succ_mul]
    omega
theorem bw_le {V : VV} {Z : Nat → Nat} {f : Nat} (hZ : ∀ i, i < 10 → Z i ≤ 12) : bw V Z f ≤ 120 := by
  refine sn_le (B := 12) (fun i _ h => ?_)
  show (if i = f then 0 else hl V i (Z i) (ii f)) ≤ 12
  split
  · omega
  · have := hZ i (by omega)
    have := hl_le (V := V) (f := i) (z := Z i) (x := ii f)
    omega
theorem ld_r {V : VV} {N : Nat} {Z : Nat → Nat} {f : Nat} : ∀ {k j : Nat} {b : Int} {mo : Nat}, ld V N Z f j k b mo = b ∨ ((j : Int) ≤ ld V N Z f j k b mo ∧ ld V N Z f j k b mo < j + k)
  | 0, _, _, _ => Or.inl rfl
  | k + 1, j, b, mo => by
    unfold ld
    split
    · rcases ld_r (V := V) (N := N) (Z := Z) (f := f) (k := k) (j := j + 1) (b := j) (mo := fe V N Z f j) with h | h
      · exact Or.inr (by omega)
      · exact Or.inr (by omega)
    · rcases ld_r (V := V) (N := N) (Z := Z) (f := f) (k := k) (j := j + 1) (b := b) (mo := mo) with h | h
      · exact Or.inl h
      · exact Or.inr (by omega)
theorem lf_r {V : VV} {f z : Nat} : lf V f z = -1 ∨ ((f : Int) * 12 ≤ lf V f z ∧ lf V f z < f * 12 + z) := by
  unfold lf
  rcases fi_r (p := fun i => decide (V 5 0 (f * 12 + i) = -1)) (k := z) (j := 0) with h | h
  · rw [if_pos h]; exact Or.inl rfl
  · rw [if_neg (by omega)]; exact Or.inr (by omega)
theorem hf_r {V : VV} {f z : Nat} : hf V f z = -1 ∨ ((f : Int) * 12 ≤ hf V f z ∧ hf V f z < f * 12 + z) := by
  unfold hf
  rcases li_r (p := fun i => decide (V 5 0 (f * 12 + i) = -1)) (k := z) with h | h
  · rw [if_pos h]; exact Or.inl rfl
  · rw [if_neg (by omega)]; exact Or.inr (by omega)
theorem tk_r {V : VV} {N : Nat} {Z : Nat → Nat} {f br : Nat} (hf10 : f < 10) (hN : N ≤ 10) (hZ : ∀ i, i < 10 → Z i ≤ 12) : tk V N Z f br = -1 ∨ (0 ≤ tk V N Z f br ∧ tk V N Z f br < 120) := by
  unfold tk
  by_cases e1 : lf V f (Z f) = -1
  · rw [if_pos e1]
    by_cases e2 : bw V Z f < br
    · rw [if_pos e2]
      by_cases e3 : ld V N Z f 0 N (-1) 0 < 0
      · rw [if_pos e3]; exact Or.inl rfl
      · rw [if_neg e3]
        have h1 := ld_r (V := V) (N := N) (Z := Z) (f := f) (k := N) (j := 0) (b := -1) (mo := 0)
        have h2 := hZ (ld V N Z f 0 N (-1) 0).toNat (by omega)
        rcases hf_r (V := V) (f := (ld V N Z f 0 N (-1) 0).toNat) (z := Z (ld V N Z f 0 N (-1) 0).toNat) with h | h
        · exact Or.inl h
        · exact Or.inr (by omega)
    · rw [if_neg e2]; exact Or.inl rfl
  · rw [if_neg e1]
    have h2 := hZ f hf10
    rcases lf_r (V := V) (f := f) (z := Z f) with h | h
    · exact Or.inl h
    · exact Or.inr (by omega)
section
variable {H : fm_H} {s N L K P : Nat} {m : fm_M} {V : VV} {Z A B : Nat → Nat}
theorem c_isSlot {j : Int} (h1 : -2147483648 ≤ j) (h2 : j < 2147483648) : f_X2_isSlot H (ii j) m = some (bi (decide (0 ≤ j ∧ j < 120)), m) := by
  unfold f_X2_isSlot
  rw [ii_0, ii_120]
  by_cases e1 : j < 0
  · rw [if_pos (by rw [ii_lt (by omega) (by omega) (by omega) (by omega)]; omega), decide_eq_false (by omega)]
    rfl
  · rw [if_neg (by rw [ii_lt (by omega) (by omega) (by omega) (by omega)]; omega)]
    by_cases e2 : (120 : Int) ≤ j
    · rw [if_pos (by rw [ii_le (by omega) (by omega) (by omega) (by omega)]; omega), decide_eq_false (by omega)]
      rfl
    · rw [if_neg (by rw [ii_le (by omega) (by omega) (by omega) (by omega)]; omega), decide_eq_true (by omega)]
      rfl
theorem c_spaceOf (hS : kS H s) (hV : cv m s = V) {j : Int} (h1 : -2147483648 ≤ j) (h2 : j < 2147483648) : f_X2_spaceOf H (s + 20) (ii j) m = some (if 0 ≤ j ∧ j < 10 then V 4 0 j.toNat else 0, m) := by
  unfold f_X2_spaceOf
  rw [ii_10, kS_l0 hS, kS_z21 hS]
  by_cases e1 : j < 0
  · rw [ii_0, if_pos (by rw [ii_lt (by omega) (by omega) (by omega) (by omega)]; omega), if_neg (by omega)]
  · rw [if_neg (by rw [ii_0]; exact (by rw [ii_lt (by omega) (by omega) (by omega) (by omega)]; omega))]
    by_cases e2 : (10 : Int) ≤ j
    · first
        | rw [if_pos (by rw [ii_le (by omega) (by omega) (by omega) (by omega)]; omega), if_neg (by omega)]
        | rw [if_neg (by rw [ii_lt (by omega) (by omega) (by omega) (by omega)]; omega), if_neg (by omega)]
    · first
        | rw [if_neg (by rw [ii_le (by omega) (by omega) (by omega) (by omega)]; omega), if_pos (by rw [ii_inb (by omega) (by omega)]; omega), ii_tn (by omega) (by omega), rd4 hV, if_pos (by omega)]
        | rw [if_pos (by rw [ii_lt (by omega) (by omega) (by omega) (by omega)]; omega), if_pos (by rw [ii_inb (by omega) (by omega)]; omega), ii_tn (by omega) (by omega), rd4 hV, if_pos (by omega)]
theorem c_spaceOfN (hS : kS H s) (hV : cv m s = V) (hB : vB V N L K P Z A B) {f : Nat} (hf10 : f < 10) : f_X2_spaceOf H (s + 20) (ii f) m = some (ii (Z f), m) := by
  rw [c_spaceOf hS hV (by omega) (by omega), if_pos (by omega), Int.toNat_natCast, (hB.2.2.2.2.2.1 f hf10).1]
theorem c_holderOf (hS : kS H s) (hV : cv m s = V) {j : Int} (h1 : -2147483648 ≤ j) (h2 : j < 2147483648) : f_X2_holderOf H (s + 20) (ii j) m = some (if 0 ≤ j ∧ j < 120 then V 5 0 j.toNat else -1, m) := by
  unfold f_X2_holderOf
  rw [c_isSlot h1 h2, fb_n]
  by_cases e : 0 ≤ j ∧ j < 120
  · rw [decide_eq_true e, if_neg (by decide), kS_l1 hS, kS_z22 hS, if_pos (by rw [ii_inb (by omega) (by omega)]; omega), ii_tn (by omega) (by omega), rd5 hV, if_pos e]
  · rw [decide_eq_false e, if_pos (by decide), if_neg e]
theorem c_circuitOf (hS : kS H s) (hV : cv m s = V) {j : Int} (h1 : -2147483648 ≤ j) (h2 : j < 2147483648) : f_X2_circuitOf H (s + 20) (ii j) m = some (if 0 ≤ j ∧ j < 120 ∧ V 5 0 j.toNat ≠ -1 then V 6 0 j.toNat else -1, m) := by
  unfold f_X2_circuitOf
  rw [c_isSlot h1 h2, fb_n]
  by_cases e : 0 ≤ j ∧ j < 120
  · rw [decide_eq_true e, if_neg (by decide), kS_l1 hS, kS_z22 hS, if_pos (by rw [ii_inb (by omega) (by omega)]; omega), ii_tn (by omega) (by omega), rd5 hV]
    by_cases e2 : V 5 0 j.toNat = -1
    · rw [if_pos e2, if_neg (fun h => h.2.2 e2)]
    · rw [if_neg e2, kS_l2 hS, kS_z23 hS, if_pos (by rw [ii_inb (by omega) (by omega)]; omega), rd6 hV, if_pos ⟨e.1, e.2, e2⟩]
  · rw [decide_eq_false e, if_pos (by decide), if_neg (fun h => e ⟨h.1, h.2.1⟩)]
theorem c_hasMadeEntry (hS : kS H s) (hV : cv m s = V) {j : Int} (h1 : -2147483648 ≤ j) (h2 : j < 2147483648) (x : Int32) : f_X2_hasMadeEntry H (s + 20) (ii j) x m = some (bi (decide (0 ≤ j ∧ j < 120 ∧ V 5 0 j.toNat = x ∧ V 7 0 j.toNat = 1)), m) := by
  unfold f_X2_hasMadeEntry
  rw [c_isSlot h1 h2, fb_n]
  by_cases e : 0 ≤ j ∧ j < 120
  · rw [decide_eq_true e, if_neg (by decide), kS_l1 hS, kS_z22 hS, if_pos (by rw [ii_inb (by omega) (by omega)]; omega), ii_tn (by omega) (by omega), rd5 hV]
    by_cases e2 : V 5 0 j.toNat = x
    · rw [if_pos e2, kS_l3 hS, kS_z24 hS, if_pos (by rw [ii_inb (by omega) (by omega)]; omega), rd7 hV]
      by_cases e3 : V 7 0 j.toNat = 1
      · rw [if_pos e3, decide_eq_true ⟨e.1, e.2, e2, e3⟩]
        rfl
      · rw [if_neg e3, decide_eq_false (fun h => e3 h.2.2.2)]
        rfl
    · rw [if_neg e2, decide_eq_false (fun h => e2 h.2.2.1)]
      rfl
  · rw [decide_eq_false e, if_pos (by decide), decide_eq_false (fun h => e ⟨h.1, h.2.1⟩)]
    rfl
theorem c_held_l (hS : kS H s) (hV : cv m s = V) (hB : vB V N L K P Z A B) {f : Nat} (hf10 : f < 10) (x : Int32) : ∀ (k q j a : Nat), j + k = Z f → k < q → f_X2_held_17 H (s + 20) (ii f) x q (ii a) (ii j) m = some (ii ((a + nc (fun i => decide (V 5 0 (f * 12 + i) = x)) j k : Nat) : Int), m) := by
  obtain ⟨b9, b10⟩ := hB.2.2.2.2.2.1 f hf10
  intro k
  induction k with
  | zero =>
    intro q j a h1 h2
    obtain ⟨q, rfl⟩ : ∃ q', q = q' + 1 := ⟨q - 1, by omega⟩
    unfold f_X2_held_17
    rw [kS_l0 hS, kS_z21 hS, if_pos (by rw [ii_inb (by omega) (by omega)]; omega), ii_tnn (by omega), rd4 hV, b9, if_pos (by rw [ii_le (by omega) (by omega) (by omega) (by omega)]; omega)]
    rfl
  | succ k ih =>
    intro q j a h1 h2
    obtain ⟨q, rfl⟩ : ∃ q', q = q' + 1 := ⟨q - 1, by omega⟩
    unfold f_X2_held_17
    rw [kS_l0 hS, kS_z21 hS, if_pos (by rw [ii_inb (by omega) (by omega)]; omega), ii_tnn (by omega), rd4 hV, b9, if_neg (by rw [ii_le (by omega) (by omega) (by omega) (by omega)]; omega), ii_12, if_neg (by rw [ii_le (by omega) (by omega) (by omega) (by omega)]; omega), kS_l1 hS, kS_z22 hS, ii_mul, ii_add, if_pos (by rw [ii_inb (by omega) (by omega)]; omega), ii_tn (by omega) (by omega), rd5 hV, ii_inc, ii_inc, show ((f : Int) * 12 + j).toNat = f * 12 + j from by omega]
    unfold nc
    by_cases e : V 5 0 (f * 12 + j) = x
    · rw [if_pos e, if_pos (decide_eq_true e), ← Nat.add_assoc]
      exact ih q (j + 1) (a + 1) (by omega) (by omega)
    · rw [if_neg e, if_neg (by rw [decide_eq_false e]; decide), Nat.zero_add]
      exact ih q (j + 1) a (by omega) (by omega)
theorem c_held (hS : kS H s) (hV : cv m s = V) (hB : vB V N L K P Z A B) {f : Nat} (hf10 : f < 10) (x : Int32) : f_X2_held H (s + 20) (ii f) x m = some (ii (hl V f (Z f) x), m) := by
  unfold f_X2_held
  rw [ii_10]
  rw [if_neg (by rw [ii_0]; exact (by rw [ii_lt (by omega) (by omega) (by omega) (by omega)]; omega)), if_pos (by rw [ii_lt (by omega) (by omega) (by omega) (by omega)]; omega), ii_0]
  have h := c_held_l hS hV hB hf10 x (Z f) fm_N 0 0 (by omega) (by have := (hB.2.2.2.2.2.1 f hf10).2; unfold fm_N; omega)
  rw [Nat.zero_add] at h
  exact h
theorem c_lentBy (hS : kS H s) (hV : cv m s = V) (hB : vB V N L K P Z A B) {f : Nat} (hf10 : f < 10) : f_X2_lentBy H (s + 20) (ii f) m = some (ii ((Z f : Int) - hl V f (Z f) (-1) - hl V f (Z f) (ii f)), m) := by
  unfold f_X2_lentBy
  rw [c_spaceOfN hS hV hB hf10, fb_n, c_held hS hV hB hf10, fb_n, c_held hS hV hB hf10, fb_n, ii_sub, ii_sub]
theorem c_lentByAll_l (hS : kS H s) (hV : cv m s = V) (hB : vB V N L K P Z A B) : ∀ (k q j : Nat) (a : Int), j + k = 10 → k < q → f_X2_lentByAll_4 H (s + 20) q (ii a) (ii j) m = some (ii (a + sz (fun f => (Z f : Int) - hl V f (Z f) (-1) - hl V f (Z f) (ii f)) j k), m) := by
  intro k
  induction k with
  | zero =>
    intro q j a h1 h2
    obtain ⟨q, rfl⟩ : ∃ q', q = q' + 1 := ⟨q - 1, by omega⟩
    unfold f_X2_lentByAll_4
    rw [ii_10, if_pos (by rw [ii_le (by omega) (by omega) (by omega) (by omega)]; omega)]
    unfold sz
    rw [Int.add_zero]
  | succ k ih =>
    intro q j a h1 h2
    obtain ⟨q, rfl⟩ : ∃ q', q = q' + 1 := ⟨q - 1, by omega⟩
    unfold f_X2_lentByAll_4
    rw [ii_10, if_neg (by rw [ii_le (by omega) (by omega) (by omega) (by omega)]; omega), c_lentBy hS hV hB (by omega), fb_n, ii_add, ii_inc]
    unfold sz
    rw [← Int.add_assoc]
    exact ih q (j + 1) _ (by omega) (by omega)
theorem c_lentByAll (hS : kS H s) (hV : cv m s = V) (hB : vB V N L K P Z A B) : f_X2_lentByAll H (s + 20) m = some (ii (sz (fun f => (Z f : Int) - hl V f (Z f) (-1) - hl V f (Z f) (ii f)) 0 10), m) := by
  have h := c_lentByAll_l hS hV hB 10 fm_N 0 0 (by omega) (by unfold fm_N; omega)
  rw [Int.zero_add] at h
  exact h
theorem c_borrowedBy_l (hS : kS H s) (hV : cv m s = V) (hB : vB V N L K P Z A B) {f : Nat} (hf10 : f < 10) : ∀ (k q j a : Nat), j + k = 10 → k < q → f_X2_borrowedBy_4 H (s + 20) (ii f) q (ii a) (ii j) m = some (ii ((a + sn (fun i => if i = f then 0 else hl V i (Z i) (ii f)) j k : Nat) : Int), m) := by
  intro k
  induction k with
  | zero =>
    intro q j a h1 h2
    obtain ⟨q, rfl⟩ : ∃ q', q = q' + 1 := ⟨q - 1, by omega⟩
    unfold f_X2_borrowedBy_4
    rw [ii_10, if_pos (by rw [ii_le (by omega) (by omega) (by omega) (by omega)]; omega)]
    rfl
  | succ k ih =>
    intro q j a h1 h2
    obtain ⟨q, rfl⟩ : ∃ q', q = q' + 1 := ⟨q - 1, by omega⟩
    unfold f_X2_borrowedBy_4
    rw [ii_10, if_neg (by rw [ii_le (by omega) (by omega) (by omega) (by omega)]; omega), ii_inc]
    unfold sn
    by_cases e : j = f
    · rw [if_pos (by rw [e]), if_pos e, Nat.zero_add]
      exact ih q (j + 1) a (by omega) (by omega)
    · rw [if_neg (by rw [ii_eq (by omega) (by omega) (by omega) (by omega)]; omega), if_neg e, c_held hS hV hB (by omega), fb_n, ii_add, ← Nat.add_assoc]
      have h9 := ih q (j + 1) (a + hl V j (Z j) (ii f)) (by omega) (by omega)
      exact h9
theorem c_borrowedBy (hS : kS H s) (hV : cv m s = V) (hB : vB V N L K P Z A B) {f : Nat} (hf10 : f < 10) : f_X2_borrowedBy H (s + 20) (ii f) m = some (ii (bw V Z f), m) := by
  have h := c_borrowedBy_l hS hV hB hf10 10 fm_N 0 0 (by omega) (by unfold fm_N; omega)
  rw [Nat.zero_add] at h
  exact h
theorem c_madeEntries_l (hS : kS H s) (hV : cv m s = V) (x : Int32) : ∀ (k q j a : Nat), j + k = 120 → k < q → f_X2_madeEntries_4 H (s + 20) x q (ii a) (ii j) m = some (ii ((a + nc (fun t => decide (V 5 0 t = x ∧ V 7 0 t = 1)) j k : Nat) : Int), m) := by
  intro k
  induction k with
  | zero =>
    intro q j a h1 h2
    obtain ⟨q, rfl⟩ : ∃ q', q = q' + 1 := ⟨q - 1, by omega⟩
    unfold f_X2_madeEntries_4
    rw [ii_120, if_pos (by rw [ii_le (by omega) (by omega) (by omega) (by omega)]; omega)]
    rfl
  | succ k ih =>
    intro q j a h1 h2
    obtain ⟨q, rfl⟩ : ∃ q', q = q' + 1 := ⟨q - 1, by omega⟩
    unfold f_X2_madeEntries_4
    rw [ii_120, if_neg (by rw [ii_le (by omega) (by omega) (by omega) (by omega)]; omega), kS_l1 hS, kS_z22 hS, if_pos (by rw [ii_inb (by omega) (by omega)]; omega), ii_tnn (by omega), rd5 hV, ii_inc, ii_inc]
    unfold nc
    by_cases e : V 5 0 j = x
    · rw [if_pos e, kS_l3 hS, kS_z24 hS, if_pos (by rw [ii_inb (by omega) (by omega)]; omega), rd7 hV]
      by_cases e2 : V 7 0 j = 1
      · rw [if_pos e2, if_pos (decide_eq_true ⟨e, e2⟩), ← Nat.add_assoc]
        exact ih q (j + 1) (a + 1) (by omega) (by omega)
      · rw [if_neg e2, if_neg (by rw [decide_eq_false (fun h => e2 h.2)]; decide), Nat.zero_add]
        exact ih q (j + 1) a (by omega) (by omega)
    · rw [if_neg e, if_neg (by rw [decide_eq_false (fun h => e h.1)]; decide), Nat.zero_add]
      exact ih q (j + 1) a (by omega) (by omega)
theorem c_madeEntries (hS : kS H s) (hV : cv m s = V) (x : Int32) : f_X2_madeEntries H (s + 20) x m = some (ii (nc (fun t => decide (V 5 0 t = x ∧ V 7 0 t = 1)) 0 120 : Nat), m) := by
  have h := c_madeEntries_l hS hV x 120 fm_N 0 0 (by omega) (by unfold fm_N; omega)
  rw [Nat.zero_add] at h
  exact h
theorem c_lowestFree_l (hS : kS H s) (hV : cv m s = V) {f z : Nat} (hf10 : f < 10) (hz : z ≤ 12) : ∀ (k q j : Nat), j + k = z → k < q → f_X2_lowestFree_8 H (s + 20) (ii f) (ii z) q (ii j) m = some (ii (if fi (fun i => decide (V 5 0 (f * 12 + i) = -1)) j k = -1 then -1 else f * 12 + fi (fun i => decide (V 5 0 (f * 12 + i) = -1)) j k), m) := by
  intro k
  induction k with
  | zero =>
    intro q j h1 h2
    obtain ⟨q, rfl⟩ : ∃ q', q = q' + 1 := ⟨q - 1, by omega⟩
    unfold f_X2_lowestFree_8
    rw [if_pos (by rw [ii_le (by omega) (by omega) (by omega) (by omega)]; omega)]
    rfl
  | succ k ih =>
    intro q j h1 h2
    obtain ⟨q, rfl⟩ : ∃ q', q = q' + 1 := ⟨q - 1, by omega⟩
    unfold f_X2_lowestFree_8
    rw [if_neg (by rw [ii_le (by omega) (by omega) (by omega) (by omega)]; omega), kS_l1 hS, kS_z22 hS, ii_12, ii_mul, ii_add, if_pos (by rw [ii_inb (by omega) (by omega)]; omega), ii_tn (by omega) (by omega), rd5 hV, ii_inc, show ((f : Int) * 12 + j).toNat = f * 12 + j from by omega]
    by_cases e : V 5 0 (f * 12 + j) = -1
    · rw [if_pos e, fi_t (decide_eq_true e), if_neg (by omega)]
    · rw [if_neg e, fi_f (decide_eq_false e)]
      exact ih q (j + 1) (by omega) (by omega)
theorem c_lowestFree (hS : kS H s) (hV : cv m s = V) (hB : vB V N L K P Z A B) {f : Nat} (hf10 : f < 10) : f_X2_lowestFree H (s + 20) (ii f) m = some (ii (lf V f (Z f)), m) := by
  unfold f_X2_lowestFree
  have hz := (hB.2.2.2.2.2.1 f hf10).2
  rw [c_spaceOfN hS hV hB hf10, fb_n, ii_0]
  exact c_lowestFree_l hS hV hf10 hz (Z f) fm_N 0 (by omega) (by unfold fm_N; omega)
theorem c_highestFree_l (hS : kS H s) (hV : cv m s = V) {f : Nat} (hf10 : f < 10) : ∀ (k q : Nat), k ≤ 12 → k < q → f_X2_highestFree_8 H (s + 20) (ii f) q (ii ((k : Int) - 1)) m = some (ii (if li (fun i => decide (V 5 0 (f * 12 + i) = -1)) k = -1 then -1 else f * 12 + li (fun i => decide (V 5 0 (f * 12 + i) = -1)) k), m) := by
  intro k
  induction k with
  | zero =>
    intro q h1 h2
    obtain ⟨q, rfl⟩ : ∃ q', q = q' + 1 := ⟨q - 1, by omega⟩
    unfold f_X2_highestFree_8
    rw [if_pos (by rw [ii_0]; exact (by rw [ii_lt (by omega) (by omega) (by omega) (by omega)]; omega))]
    rfl
  | succ k ih =>
    intro q h1 h2
    obtain ⟨q, rfl⟩ : ∃ q', q = q' + 1 := ⟨q - 1, by omega⟩
    unfold f_X2_highestFree_8
    rw [if_neg (by rw [ii_0]; exact (by rw [ii_lt (by omega) (by omega) (by omega) (by omega)]; omega)), kS_l1 hS, kS_z22 hS, ii_12, ii_mul, ii_add, if_pos (by rw [ii_inb (by omega) (by omega)]; omega), ii_tn (by omega) (by omega), rd5 hV, show ((f : Int) * 12 + (((k + 1 : Nat) : Int) - 1)).toNat = f * 12 + k from by omega]
    by_cases e : V 5 0 (f * 12 + k) = -1
    · rw [if_pos e, li_t (decide_eq_true e), if_neg (by omega), show ((f : Int) * 12 + (((k + 1 : Nat) : Int) - 1)) = f * 12 + k from by omega]
    · rw [if_neg e, li_f (decide_eq_false e), show (-1 : Int32) = ii (-1) from ii_m1, ii_add, show (((k + 1 : Nat) : Int) - 1 + -1) = (k : Int) - 1 from by omega]
      exact ih q (by omega) (by omega)
theorem c_highestFree (hS : kS H s) (hV : cv m s = V) (hB : vB V N L K P Z A B) {f : Nat} (hf10 : f < 10) : f_X2_highestFree H (s + 20) (ii f) m = some (ii (hf V f (Z f)), m) := by
  unfold f_X2_highestFree
  have hz := (hB.2.2.2.2.2.1 f hf10).2
  rw [c_spaceOfN hS hV hB hf10, fb_n, ii_dec]
  exact c_highestFree_l hS hV hf10 (Z f) fm_N hz (by unfold fm_N; omega)
theorem c_highestFreeN (hS : kS H s) (hV : cv m s = V) : f_X2_highestFree H (s + 20) (ii (-1)) m = some (ii (-1), m) := by
  unfold f_X2_highestFree
  rw [c_spaceOf hS hV (by omega) (by omega), if_neg (by omega), fb_n, ii_0, ii_dec]
  show f_X2_highestFree_8 H (s + 20) (ii (-1)) (999999 + 1) (ii (0 - 1)) m = _
  unfold f_X2_highestFree_8
  rw [if_pos (by rw [ii_0]; exact (by rw [ii_lt (by omega) (by omega) (by omega) (by omega)]; omega))]
  rfl
theorem c_lenderFor_l (hS : kS H s) (hV : cv m s = V) (hB : vB V N L K P Z A B) {f : Nat} (hf10 : f < 10) : ∀ (k q j : Nat) (b : Int) (mo : Nat), j + k = N → k < q → mo ≤ 12 → f_X2_lenderFor_8 H (s + 20) (s + 1) (ii f) q (ii b) (ii mo) (ii j) m = some (ii (ld V N Z f j k b mo), m) := by
  have hB' := hB
  obtain ⟨b1, b2, b3, b4, ⟨b5, b6, b7, b8⟩, b9, -⟩ := hB
  intro k
  induction k with
  | zero =>
    intro q j b mo h1 h2 h3
    obtain ⟨q, rfl⟩ : ∃ q', q = q' + 1 := ⟨q - 1, by omega⟩
    unfold f_X2_lenderFor_8
    rw [rd1 hV, b1, if_pos (by rw [ii_le (by omega) (by omega) (by omega) (by omega)]; omega)]
    rfl
  | succ k ih =>
    intro q j b mo h1 h2 h3
    obtain ⟨q, rfl⟩ : ∃ q', q = q' + 1 := ⟨q - 1, by omega⟩
    unfold f_X2_lenderFor_8
    rw [rd1 hV, b1, if_neg (by rw [ii_le (by omega) (by omega) (by omega) (by omega)]; omega), c_linkBetween hS hV hB' (by omega) (by omega) (by omega) (by omega), fb_n, ii_inc]
    unfold ld fe
    by_cases e : lbV V N f j = -1
    · rw [if_pos e, if_pos (by rw [ii_0]; exact (by rw [ii_le (by omega) (by omega) (by omega) (by omega)]; omega)), if_pos e, if_neg (by omega)]
      exact ih q (j + 1) b mo (by omega) (by omega) h3
    · rw [if_neg e, if_neg e, c_held hS hV hB' (by omega), fb_n]
      have hh := hl_le (V := V) (f := j) (z := Z j) (x := -1)
      have hz := (b9 j (by omega)).2
      by_cases e2 : mo < hl V j (Z j) (-1)
      · rw [if_neg (by rw [ii_le (by omega) (by omega) (by omega) (by omega)]; omega), if_pos e2]
        exact ih q (j + 1) j _ (by omega) (by omega) (by omega)
      · rw [if_pos (by rw [ii_le (by omega) (by omega) (by omega) (by omega)]; omega), if_neg e2]
        exact ih q (j + 1) b mo (by omega) (by omega) h3
theorem c_lenderFor (hS : kS H s) (hV : cv m s = V) (hB : vB V N L K P Z A B) {f : Nat} (hf10 : f < 10) : f_X2_lenderFor H (s + 20) (s + 1) (ii f) m = some (ii (ld V N Z f 0 N (-1) 0), m) := by
  unfold f_X2_lenderFor
  rw [ii_m1, ii_0]
  exact c_lenderFor_l hS hV hB hf10 N fm_N 0 (-1) 0 (by omega) (by have := hB.2.2.2.2.1.1; unfold fm_N; omega) (by omega)
/-- a label is taken -/
def mTk (m : fm_M) (s : Nat) (t : Int) (f c : Int32) : fm_M := if t = -1 then m else fm_si (fm_si (fm_si m (s + 22) t.toNat f) (s + 23) t.toNat c) (s + 24) t.toNat 0
theorem c_take_35 (hS : kS H s) {t : Int} (ht : t = -1 ∨ (0 ≤ t ∧ t < 120)) (f c : Int32) : f_X2_take_35 H (s + 20) f c (ii t) m = some (ii t, mTk m s t f c) := by
  unfold f_X2_take_35 mTk
  by_cases e : t = -1
  · rw [if_pos (by rw [e, ii_m1]), if_pos e]
  · rw [if_neg (by rw [ii_m1]; exact (by rw [ii_eq (by omega) (by omega) (by omega) (by omega)]; omega)), if_neg e, kS_l1 hS, kS_z22 hS, if_pos (by rw [ii_inb (by omega) (by omega)]; omega), fb_d, kS_l2 hS, kS_z23 hS, if_pos (by rw [ii_inb (by omega) (by omega)]; omega), fb_d, kS_l3 hS, kS_z24 hS, if_pos (by rw [ii_inb (by omega) (by omega)]; omega), fb_d, ii_tn (by omega) (by omega)]
theorem c_take (hS : kS H s) (hV : cv m s = V) (hB : vB V N L K P Z A B) {f br : Nat} (hf10 : f < 10) (hbr : br < 1000) (c : Int32) : f_X2_take H (s + 20) (s + 1) (ii f) c (ii br) m = some (ii (tk V N Z f br), mTk m s (tk V N Z f br) (ii f) c) := by
  have hZ : ∀ i, i < 10 → Z i ≤ 12 := fun i h => (hB.2.2.2.2.2.1 i h).2
  have hN := hB.2.2.2.2.1.1
  have hz := hZ f hf10
  have hr := lf_r (V := V) (f := f) (z := Z f)
  unfold f_X2_take
  rw [c_lowestFree hS hV hB hf10, fb_n]
  by_cases e1 : lf V f (Z f) = -1
  · rw [if_pos (by rw [e1, ii_m1]), c_borrowedBy hS hV hB hf10, fb_n]
    have hb := bw_le (V := V) (f := f) hZ
    by_cases e2 : bw V Z f < br
    · rw [if_neg (by rw [ii_le (by omega) (by omega) (by omega) (by omega)]; omega), c_lenderFor hS hV hB hf10, fb_n]
      have h1 := ld_r (V := V) (N := N) (Z := Z) (f := f) (k := N) (j := 0) (b := -1) (mo := 0)
      by_cases e3 : ld V N Z f 0 N (-1) 0 < 0
      · have e4 : tk V N Z f br = -1 := by
          unfold tk
          rw [if_pos e1, if_pos e2, if_pos e3]
        rw [show ld V N Z f 0 N (-1) 0 = -1 from by omega, c_highestFreeN hS hV, fb_n, e4]
        exact c_take_35 hS (Or.inl rfl) _ _
      · have e4 : tk V N Z f br = hf V (ld V N Z f 0 N (-1) 0).toNat (Z (ld V N Z f 0 N (-1) 0).toNat) := by
          unfold tk
          rw [if_pos e1, if_pos e2, if_neg e3]
        have h9 := tk_r (V := V) (br := br) hf10 hN hZ
        rw [e4] at h9 ⊢
        obtain ⟨g, hg⟩ : ∃ g : Nat, ld V N Z f 0 N (-1) 0 = g := ⟨(ld V N Z f 0 N (-1) 0).toNat, by omega⟩
        rw [hg] at h9 h1 ⊢
        rw [c_highestFree hS hV hB (by omega), fb_n]
        exact c_take_35 hS h9 _ _
    · have e4 : tk V N Z f br = -1 := by
        unfold tk
        rw [if_pos e1, if_neg e2]
      rw [if_pos (by rw [ii_le (by omega) (by omega) (by omega) (by omega)]; omega), e4, e1]
      exact c_take_35 hS (Or.inl rfl) _ _
  · have e4 : tk V N Z f br = lf V f (Z f) := by
      unfold tk
      rw [if_neg e1]
    rw [if_neg (by rw [ii_m1]; exact (by rw [ii_eq (by omega) (by omega) (by omega) (by omega)]; omega)), e4]
    exact c_take_35 hS (by omega) _ _
theorem c_makeEntry (hS : kS H s) {j : Int} (h1 : -2147483648 ≤ j) (h2 : j < 2147483648) : f_X2_makeEntry H (s + 20) (ii j) m = some ((), if 0 ≤ j ∧ j < 120 then fm_si m (s + 24) j.toNat 1 else m) := by
  unfold f_X2_makeEntry
  rw [c_isSlot h1 h2, fb_n]
  by_cases e : 0 ≤ j ∧ j < 120
  · rw [decide_eq_true e, if_neg (by decide), kS_l3 hS, kS_z24 hS, if_pos (by rw [ii_inb (by omega) (by omega)]; omega), fb_d, ii_tn (by omega) (by omega), if_pos e]
  · rw [decide_eq_false e, if_pos (by decide), if_neg e]
theorem c_giveUp (hS : kS H s) {j : Int} (h1 : -2147483648 ≤ j) (h2 : j < 2147483648) : f_X2_giveUp H (s + 20) (ii j) m = some ((), if 0 ≤ j ∧ j < 120 then fm_si m (s + 22) j.toNat (-1) else m) := by
  unfold f_X2_giveUp
  rw [c_isSlot h1 h2, fb_n]
  by_cases e : 0 ≤ j ∧ j < 120
  · rw [decide_eq_true e, if_neg (by decide), kS_l1 hS, kS_z22 hS, if_pos (by rw [ii_inb (by omega) (by omega)]; omega), fb_d, ii_tn (by omega) (by omega), if_pos e]
  · rw [decide_eq_false e, if_pos (by decide), if_neg e]
end
