/-! ways -/
theorem kW_b {H : fm_H} {w : Nat} (h : kW H w) : fm_isb H w 10 = true := fm_is_b h.1
theorem kW_1 {H : fm_H} {w : Nat} (h : kW H w) : H.2.1 w 1 = w + 1 := h.2.1
theorem kW_2 {H : fm_H} {w : Nat} (h : kW H w) : H.2.1 w 2 = w + 2 := h.2.2.1
theorem kW_3 {H : fm_H} {w : Nat} (h : kW H w) : H.2.1 w 3 = w + 3 := h.2.2.2.1
theorem kW_z1 {H : fm_H} {w : Nat} (h : kW H w) : fm_sz H (w + 1) = 6 := h.2.2.2.2.1
theorem kW_z2 {H : fm_H} {w : Nat} (h : kW H w) : fm_sz H (w + 2) = 6 := h.2.2.2.2.2.1
theorem kW_z3 {H : fm_H} {w : Nat} (h : kW H w) : fm_sz H (w + 3) = 6 := h.2.2.2.2.2.2
section
variable {H : fm_H} {w n : Nat} {m : fm_M}
theorem c_nodeAt (hw : kW H w) (hn : m.1 w 0 = ii n) (h6 : n ≤ 6) {j : Int} (h1 : -2147483648 ≤ j) (h2 : j < 2147483648) : f_X10_nodeAt H w (ii j) m = some (if 0 ≤ j ∧ j < n then m.1 (w + 1) j.toNat else -1, m) := by
  unfold f_X10_nodeAt
  rw [kW_1 hw, kW_z1 hw, hn, ii_0]
  by_cases e1 : j < 0
  · rw [if_pos (by rw [ii_lt (by omega) (by omega) (by omega) (by omega)]; omega), if_neg (by omega)]
  · rw [if_neg (by rw [ii_lt (by omega) (by omega) (by omega) (by omega)]; omega)]
    by_cases e2 : (n : Int) ≤ j
    · rw [if_pos (by rw [ii_le (by omega) (by omega) (by omega) (by omega)]; omega), if_neg (by omega)]
    · rw [if_neg (by rw [ii_le (by omega) (by omega) (by omega) (by omega)]; omega), if_pos (by rw [ii_inb (by omega) (by omega)]; omega), ii_tn (by omega) (by omega), if_pos (by omega)]
theorem c_linkAt (hw : kW H w) (hn : m.1 w 0 = ii n) (h6 : n ≤ 6) {j : Int} (h1 : -2147483648 ≤ j) (h2 : j < 2147483648) : f_X10_linkAt H w (ii j) m = some (if 0 ≤ j ∧ j < n then m.1 (w + 2) j.toNat else -1, m) := by
  unfold f_X10_linkAt
  rw [kW_2 hw, kW_z2 hw, hn, ii_0]
  by_cases e1 : j < 0
  · rw [if_pos (by rw [ii_lt (by omega) (by omega) (by omega) (by omega)]; omega), if_neg (by omega)]
  · rw [if_neg (by rw [ii_lt (by omega) (by omega) (by omega) (by omega)]; omega)]
    by_cases e2 : (n : Int) ≤ j
    · rw [if_pos (by rw [ii_le (by omega) (by omega) (by omega) (by omega)]; omega), if_neg (by omega)]
    · rw [if_neg (by rw [ii_le (by omega) (by omega) (by omega) (by omega)]; omega), if_pos (by rw [ii_inb (by omega) (by omega)]; omega), ii_tn (by omega) (by omega), if_pos (by omega)]
theorem c_slotAt (hw : kW H w) (hn : m.1 w 0 = ii n) (h6 : n ≤ 6) {j : Int} (h1 : -2147483648 ≤ j) (h2 : j < 2147483648) : f_X10_slotAt H w (ii j) m = some (if 0 ≤ j ∧ j < n then m.1 (w + 3) j.toNat else -1, m) := by
  unfold f_X10_slotAt
  rw [kW_3 hw, kW_z3 hw, hn, ii_0]
  by_cases e1 : j < 0
  · rw [if_pos (by rw [ii_lt (by omega) (by omega) (by omega) (by omega)]; omega), if_neg (by omega)]
  · rw [if_neg (by rw [ii_lt (by omega) (by omega) (by omega) (by omega)]; omega)]
    by_cases e2 : (n : Int) ≤ j
    · rw [if_pos (by rw [ii_le (by omega) (by omega) (by omega) (by omega)]; omega), if_neg (by omega)]
    · rw [if_neg (by rw [ii_le (by omega) (by omega) (by omega) (by omega)]; omega), if_pos (by rw [ii_inb (by omega) (by omega)]; omega), ii_tn (by omega) (by omega), if_pos (by omega)]
theorem c_nodeAtN (hw : kW H w) (hn : m.1 w 0 = ii n) (h6 : n ≤ 6) {j : Nat} (h : j < n) : f_X10_nodeAt H w (ii j) m = some (m.1 (w + 1) j, m) := by
  rw [c_nodeAt hw hn h6 (by omega) (by omega), if_pos (by omega)]
  rfl
theorem c_linkAtN (hw : kW H w) (hn : m.1 w 0 = ii n) (h6 : n ≤ 6) {j : Nat} (h : j < n) : f_X10_linkAt H w (ii j) m = some (m.1 (w + 2) j, m) := by
  rw [c_linkAt hw hn h6 (by omega) (by omega), if_pos (by omega)]
  rfl
theorem c_slotAtN (hw : kW H w) (hn : m.1 w 0 = ii n) (h6 : n ≤ 6) {j : Nat} (h : j < n) : f_X10_slotAt H w (ii j) m = some (m.1 (w + 3) j, m) := by
  rw [c_slotAt hw hn h6 (by omega) (by omega), if_pos (by omega)]
  rfl
theorem c_lastNode (hw : kW H w) (hn : m.1 w 0 = ii n) (h6 : n ≤ 6) : f_X10_lastNode H w m = some (if n = 0 then -1 else m.1 (w + 1) (n - 1), m) := by
  unfold f_X10_lastNode
  rw [hn, ii_dec, c_nodeAt hw hn h6 (by omega) (by omega), fb_n]
  by_cases e : n = 0
  · rw [if_neg (by omega), if_pos e]
  · rw [if_pos (by omega), if_neg e, show ((n : Int) - 1).toNat = n - 1 from by omega]
theorem c_hasNode_l (hw : kW H w) (hn : m.1 w 0 = ii n) (h6 : n ≤ 6) (x : Int32) : ∀ (k q j : Nat), j + k = n → k < q → f_X10_hasNode_2 H w x q (ii j) m = some (bi (ny (fun i => decide (m.1 (w + 1) i = x)) j k), m) := by
  intro k
  induction k with
  | zero =>
    intro q j h1 h2
    obtain ⟨q, rfl⟩ : ∃ q', q = q' + 1 := ⟨q - 1, by omega⟩
    unfold f_X10_hasNode_2
    rw [hn, if_pos (by rw [ii_le (by omega) (by omega) (by omega) (by omega)]; omega)]
    rfl
  | succ k ih =>
    intro q j h1 h2
    obtain ⟨q, rfl⟩ : ∃ q', q = q' + 1 := ⟨q - 1, by omega⟩
    unfold f_X10_hasNode_2
    rw [hn, if_neg (by rw [ii_le (by omega) (by omega) (by omega) (by omega)]; omega), kW_1 hw, kW_z1 hw, if_pos (by rw [ii_inb (by omega) (by omega)]; omega), ii_tnn (by omega), ii_inc]
    unfold ny
    by_cases e : m.1 (w + 1) j = x
    · rw [if_pos e, decide_eq_true e]
      rfl
    · rw [if_neg e, decide_eq_false e]
      exact ih q (j + 1) (by omega) (by omega)
theorem c_hasNode (hw : kW H w) (hn : m.1 w 0 = ii n) (h6 : n ≤ 6) (x : Int32) : f_X10_hasNode H w x m = some (bi (ny (fun i => decide (m.1 (w + 1) i = x)) 0 n), m) := c_hasNode_l hw hn h6 x n fm_N 0 (by omega) (by unfold fm_N; omega)
theorem c_usesLink_l (hw : kW H w) (hn : m.1 w 0 = ii n) (h6 : n ≤ 6) (x : Int32) : ∀ (k q j : Nat), j + k = n ∨ (n < j ∧ k = 0) → k < q → j < 100 → f_X10_usesLink_2 H w x q (ii j) m = some (bi (ny (fun i => decide (m.1 (w + 2) i = x)) j k), m) := by
  intro k
  induction k with
  | zero =>
    intro q j h1 h2 h3
    obtain ⟨q, rfl⟩ : ∃ q', q = q' + 1 := ⟨q - 1, by omega⟩
    unfold f_X10_usesLink_2
    rw [hn, if_pos (by rw [ii_le (by omega) (by omega) (by omega) (by omega)]; omega)]
    rfl
  | succ k ih =>
    intro q j h1 h2 h3
    obtain ⟨q, rfl⟩ : ∃ q', q = q' + 1 := ⟨q - 1, by omega⟩
    unfold f_X10_usesLink_2
    rw [hn, if_neg (by rw [ii_le (by omega) (by omega) (by omega) (by omega)]; omega), kW_2 hw, kW_z2 hw, if_pos (by rw [ii_inb (by omega) (by omega)]; omega), ii_tnn (by omega), ii_inc]
    unfold ny
    by_cases e : m.1 (w + 2) j = x
    · rw [if_pos e, decide_eq_true e]
      rfl
    · rw [if_neg e, decide_eq_false e]
      exact ih q (j + 1) (by omega) (by omega) (by omega)
theorem c_usesLink (hw : kW H w) (hn : m.1 w 0 = ii n) (h6 : n ≤ 6) (x : Int32) : f_X10_usesLink H w x m = some (bi (ny (fun i => decide (m.1 (w + 2) i = x)) 1 (n - 1)), m) := c_usesLink_l hw hn h6 x (n - 1) fm_N 1 (by omega) (by unfold fm_N; omega) (by omega)
theorem c_indexOfSlot_l (hw : kW H w) (hn : m.1 w 0 = ii n) (h6 : n ≤ 6) (x : Int32) : ∀ (k q j : Nat), j + k = n ∨ (n < j ∧ k = 0) → k < q → j < 100 → f_X10_indexOfSlot_2 H w x q (ii j) m = some (ii (fi (fun i => decide (m.1 (w + 3) i = x)) j k), m) := by
  intro k
  induction k with
  | zero =>
    intro q j h1 h2 h3
    obtain ⟨q, rfl⟩ : ∃ q', q = q' + 1 := ⟨q - 1, by omega⟩
    unfold f_X10_indexOfSlot_2
    rw [hn, if_pos (by rw [ii_le (by omega) (by omega) (by omega) (by omega)]; omega)]
    rfl
  | succ k ih =>
    intro q j h1 h2 h3
    obtain ⟨q, rfl⟩ : ∃ q', q = q' + 1 := ⟨q - 1, by omega⟩
    unfold f_X10_indexOfSlot_2
    rw [hn, if_neg (by rw [ii_le (by omega) (by omega) (by omega) (by omega)]; omega), kW_3 hw, kW_z3 hw, if_pos (by rw [ii_inb (by omega) (by omega)]; omega), ii_tnn (by omega), ii_inc]
    unfold fi
    by_cases e : m.1 (w + 3) j = x
    · rw [if_pos e, if_pos (decide_eq_true e)]
    · rw [if_neg e, if_neg (by rw [decide_eq_false e]; decide)]
      exact ih q (j + 1) (by omega) (by omega) (by omega)
theorem c_indexOfSlot (hw : kW H w) (hn : m.1 w 0 = ii n) (h6 : n ≤ 6) (x : Int32) : f_X10_indexOfSlot H w x m = some (ii (fi (fun i => decide (m.1 (w + 3) i = x)) 1 (n - 1)), m) := c_indexOfSlot_l hw hn h6 x (n - 1) fm_N 1 (by omega) (by unfold fm_N; omega) (by omega)
/-- how many -/
def nc (p : Nat → Bool) : Nat → Nat → Nat
  | _, 0 => 0
  | j, k + 1 => (if p j = true then 1 else 0) + nc p (j + 1) k
theorem nc_le {p : Nat → Bool} : ∀ {k j : Nat}, nc p j k ≤ k
  | 0, _ => Nat.le_refl _
  | k + 1, j => by
    unfold nc
    have := nc_le (p := p) (k := k) (j := j + 1)
    split <;> omega
theorem c_heldSlots_l (hw : kW H w) (hn : m.1 w 0 = ii n) (h6 : n ≤ 6) : ∀ (k q j a : Nat), j + k = n ∨ (n < j ∧ k = 0) → k < q → j < 100 → f_X10_heldSlots_4 H w q (ii a) (ii j) m = some (ii ((a + nc (fun i => decide (m.1 (w + 3) i ≠ -1)) j k : Nat) : Int), m) := by
  intro k
  induction k with
  | zero =>
    intro q j a h1 h2 h3
    obtain ⟨q, rfl⟩ : ∃ q', q = q' + 1 := ⟨q - 1, by omega⟩
    unfold f_X10_heldSlots_4
    rw [hn, if_pos (by rw [ii_le (by omega) (by omega) (by omega) (by omega)]; omega)]
    rfl
  | succ k ih =>
    intro q j a h1 h2 h3
    obtain ⟨q, rfl⟩ : ∃ q', q = q' + 1 := ⟨q - 1, by omega⟩
    unfold f_X10_heldSlots_4
    rw [hn, if_neg (by rw [ii_le (by omega) (by omega) (by omega) (by omega)]; omega), kW_3 hw, kW_z3 hw, if_pos (by rw [ii_inb (by omega) (by omega)]; omega), ii_tnn (by omega), ii_inc, ii_inc]
    unfold nc
    by_cases e : m.1 (w + 3) j = -1
    · rw [if_pos e, if_neg (by simp [e])]
      have h9 := ih q (j + 1) a (by omega) (by omega) (by omega)
      rw [Nat.zero_add]
      exact h9
    · rw [if_neg e, if_pos (by simp [e])]
      have h9 := ih q (j + 1) (a + 1) (by omega) (by omega) (by omega)
      rw [show a + (1 + nc (fun i => decide (m.1 (w + 3) i ≠ -1)) (j + 1) k) = a + 1 + nc (fun i => decide (m.1 (w + 3) i ≠ -1)) (j + 1) k from by omega]
      exact h9
theorem c_heldSlots (hw : kW H w) (hn : m.1 w 0 = ii n) (h6 : n ≤ 6) : f_X10_heldSlots H w m = some (ii (nc (fun i => decide (m.1 (w + 3) i ≠ -1)) 1 (n - 1) : Nat), m) := by
  have h := c_heldSlots_l hw hn h6 (n - 1) fm_N 1 0 (by omega) (by unfold fm_N; omega) (by omega)
  rw [Nat.zero_add] at h
  exact h
/-- for all -/
def na (p : Nat → Bool) : Nat → Nat → Bool
  | _, 0 => true
  | j, k + 1 => p j && na p (j + 1) k
theorem na_iff {p : Nat → Bool} : ∀ {k j : Nat}, na p j k = true ↔ ∀ i, j ≤ i → i < j + k → p i = true := by
  intro k
  induction k with
  | zero => intro j; simp only [na, true_iff]; intro i h1 h2; omega
  | succ k ih =>
    intro j
    simp only [na, Bool.and_eq_true, ih]
    constructor
    · rintro ⟨h1, h2⟩ i h3 h4
      by_cases e : i = j
      · subst e; exact h1
      · exact h2 i (by omega) (by omega)
    · intro h
      exact ⟨h j (by omega) (by omega), fun i h1 h2 => h i (by omega) (by omega)⟩
theorem c_isSameAs_l {w2 n2 : Nat} (hw : kW H w) (hw2 : kW H w2) (hn : m.1 w 0 = ii n) (h6 : n ≤ 6) : ∀ (k q j : Nat), j + k = n → k < q → f_X10_isSameAs_15 H w w2 q (ii j) m = some (bi (na (fun i => decide (m.1 (w + 1) i = m.1 (w2 + 1) i)) j k), m) := by
  intro k
  induction k with
  | zero =>
    intro q j h1 h2
    obtain ⟨q, rfl⟩ : ∃ q', q = q' + 1 := ⟨q - 1, by omega⟩
    unfold f_X10_isSameAs_15
    rw [hn, if_pos (by rw [ii_le (by omega) (by omega) (by omega) (by omega)]; omega)]
    rfl
  | succ k ih =>
    intro q j h1 h2
    obtain ⟨q, rfl⟩ : ∃ q', q = q' + 1 := ⟨q - 1, by omega⟩
    unfold f_X10_isSameAs_15
    rw [hn, if_neg (by rw [ii_le (by omega) (by omega) (by omega) (by omega)]; omega), kW_1 hw, kW_z1 hw, kW_1 hw2, kW_z1 hw2, if_pos (by rw [ii_inb (by omega) (by omega)]; omega), if_pos (by rw [ii_inb (by omega) (by omega)]; omega), ii_tnn (by omega), ii_inc]
    unfold na
    by_cases e : m.1 (w + 1) j = m.1 (w2 + 1) j
    · rw [if_pos e, decide_eq_true e]
      exact ih q (j + 1) (by omega) (by omega)
    · rw [if_neg e, decide_eq_false e]
      rfl
theorem c_isSameAs {w2 n2 : Nat} (hw : kW H w) (hw2 : kW H w2) (hn : m.1 w 0 = ii n) (h6 : n ≤ 6) (hn2 : m.1 w2 0 = ii n2) (h62 : n2 ≤ 6) : f_X10_isSameAs H w w2 m = some (bi (decide (n = n2) && na (fun i => decide (m.1 (w + 1) i = m.1 (w2 + 1) i)) 0 n), m) := by
  unfold f_X10_isSameAs
  by_cases e : n = n2
  · rw [hn, hn2, if_pos (by rw [e]), decide_eq_true e, Bool.true_and]
    exact c_isSameAs_l (n2 := n2) hw hw2 hn h6 n fm_N 0 (by omega) (by unfold fm_N; omega)
  · rw [hn, hn2, if_neg (by rw [ii_eq (by omega) (by omega) (by omega) (by omega)]; omega), decide_eq_false e]
    rfl
/-- a node is put behind the last one -/
def wAp (m : fm_M) (w n : Nat) (x y : Int32) : fm_M := fm_si (fm_si (fm_si (fm_si m (w + 1) n x) (w + 2) n y) (w + 3) n (-1)) w 0 (ii (n + 1 : Nat))
theorem c_append (hw : kW H w) (hn : m.1 w 0 = ii n) (h6 : n < 6) (x y : Int32) : f_X10_append H w x y m = some ((), wAp m w n x y) := by
  unfold f_X10_append
  have r : ∀ (f : Nat → Nat → Int32) (a b k j : Nat) (z : Int32), a ≠ b → fm_up f a k z b j = f b j := fun f a b k j z h => fm_up_o (fun q => h q.1.symm)
  rw [hn, ii_0, if_neg (by rw [ii_lt (by omega) (by omega) (by omega) (by omega)]; omega), ii_6, if_neg (by rw [ii_le (by omega) (by omega) (by omega) (by omega)]; omega), kW_1 hw, kW_z1 hw, if_pos (by rw [ii_inb (by omega) (by omega)]; omega), ii_tnn (by omega), fb_d]
  have e1 : (fm_si m (w + 1) n x).1 w 0 = ii n := by
    show fm_up _ _ _ _ _ _ = _
    rw [r _ _ _ _ _ _ (by omega), hn]
  rw [e1, kW_2 hw, kW_z2 hw, if_pos (by rw [ii_inb (by omega) (by omega)]; omega), ii_tnn (by omega), fb_d]
  have e2 : (fm_si (fm_si m (w + 1) n x) (w + 2) n y).1 w 0 = ii n := by
    show fm_up _ _ _ _ _ _ = _
    rw [r _ _ _ _ _ _ (by omega), e1]
  rw [e2, kW_3 hw, kW_z3 hw, if_pos (by rw [ii_inb (by omega) (by omega)]; omega), ii_tnn (by omega), fb_d]
  have e3 : (fm_si (fm_si (fm_si m (w + 1) n x) (w + 2) n y) (w + 3) n (-1)).1 w 0 = ii n := by
    show fm_up _ _ _ _ _ _ = _
    rw [r _ _ _ _ _ _ (by omega), e2]
  rw [fb_d, e3, ii_inc]
  rfl
theorem c_append6 (hw : kW H w) (hn : m.1 w 0 = ii n) (h6 : n = 6) (x y : Int32) : f_X10_append H w x y m = some ((), m) := by
  unfold f_X10_append
  rw [hn, ii_0, if_neg (by rw [ii_lt (by omega) (by omega) (by omega) (by omega)]; omega), ii_6, if_pos (by rw [ii_le (by omega) (by omega) (by omega) (by omega)]; omega)]
theorem c_dropLast (hn : m.1 w 0 = ii n) (h6 : n ≤ 6) (h0 : 0 < n) : f_X10_dropLast H w m = some ((), fm_si m w 0 (ii (n - 1 : Nat))) := by
  unfold f_X10_dropLast
  rw [hn, ii_0, if_neg (by rw [ii_le (by omega) (by omega) (by omega) (by omega)]; omega), fb_d, ii_dec, show (n : Int) - 1 = ((n - 1 : Nat) : Int) from by omega]
theorem c_putSlot (hw : kW H w) (hn : m.1 w 0 = ii n) (h6 : n ≤ 6) {j : Nat} (h : j < n) (x : Int32) : f_X10_putSlot H w (ii j) x m = some ((), fm_si m (w + 3) j x) := by
  unfold f_X10_putSlot
  rw [hn, ii_0, if_neg (by rw [ii_lt (by omega) (by omega) (by omega) (by omega)]; omega), kW_3 hw, kW_z3 hw]
  first
    | rw [if_neg (by rw [ii_le (by omega) (by omega) (by omega) (by omega)]; omega), if_pos (by rw [ii_inb (by omega) (by omega)]; omega), fb_d, ii_tnn (by omega)]
    | rw [if_pos (by rw [ii_lt (by omega) (by omega) (by omega) (by omega)]; omega), if_pos (by rw [ii_inb (by omega) (by omega)]; omega), fb_d, ii_tnn (by omega)]
end
