/-! what the class reads of a state: net and labels -/
section
variable {H : fm_H} {s : Nat}
theorem kS_0 (h : kS H s) : H.2.1 s 0 = s + 1 := h.2.1.1
theorem kS_1 (h : kS H s) : H.2.1 s 1 = s + 20 := h.2.1.2.1
theorem kS_2 (h : kS H s) : H.2.1 s 2 = s + 25 := h.2.1.2.2.1
theorem kS_3 (h : kS H s) : H.2.1 s 3 = s + 26 := h.2.1.2.2.2.1
theorem kS_4 (h : kS H s) : H.2.1 s 4 = s + 27 := h.2.1.2.2.2.2
theorem kS_n2 (h : kS H s) : H.2.1 (s + 1) 2 = s + 2 := h.2.2.1.1
theorem kS_n3 (h : kS H s) : H.2.1 (s + 1) 3 = s + 3 := h.2.2.1.2
theorem kS_l0 (h : kS H s) : H.2.1 (s + 20) 0 = s + 21 := h.2.2.2.1.1
theorem kS_l1 (h : kS H s) : H.2.1 (s + 20) 1 = s + 22 := h.2.2.2.1.2.1
theorem kS_l2 (h : kS H s) : H.2.1 (s + 20) 2 = s + 23 := h.2.2.2.1.2.2.1
theorem kS_l3 (h : kS H s) : H.2.1 (s + 20) 3 = s + 24 := h.2.2.2.1.2.2.2
theorem kS_z2 (h : kS H s) : fm_sz H (s + 2) = 16 := h.2.2.2.2.1.1
theorem kS_z3 (h : kS H s) : fm_sz H (s + 3) = 100 := h.2.2.2.2.1.2.1
theorem kS_z21 (h : kS H s) : fm_sz H (s + 21) = 10 := h.2.2.2.2.1.2.2.1
theorem kS_z22 (h : kS H s) : fm_sz H (s + 22) = 120 := h.2.2.2.2.1.2.2.2.1
theorem kS_z23 (h : kS H s) : fm_sz H (s + 23) = 120 := h.2.2.2.2.1.2.2.2.2.1
theorem kS_z24 (h : kS H s) : fm_sz H (s + 24) = 120 := h.2.2.2.2.1.2.2.2.2.2.1
theorem kS_z26 (h : kS H s) : fm_sz H (s + 26) = 8 := h.2.2.2.2.1.2.2.2.2.2.2.1
theorem kS_z27 (h : kS H s) : fm_sz H (s + 27) = 60 := h.2.2.2.2.1.2.2.2.2.2.2.2
theorem kS_lk (h : kS H s) {i : Nat} (hi : i < 16) : fm_isb H (s + 4 + i) 3 = true := fm_is_b (h.2.2.2.2.2.2.1 i hi)
theorem pS_lk {m : fm_M} (h : pS m s) {i : Nat} (hi : i < 16) : m.2.1 (s + 2) i = s + 4 + i := h.1 i hi
theorem pS_cb {m : fm_M} (h : kS H s) (hp : pS m s) {i : Nat} (hi : i < 8) : fm_isb H (m.2.1 (s + 26) i) 0 = true := by
  obtain ⟨j, hj, e⟩ := hp.2.1 i hi
  rw [e]
  exact fm_is_b (h.2.2.2.2.2.2.2.1 j hj).1
theorem pS_wo {m : fm_M} (h : kS H s) (hp : pS m s) {i : Nat} (hi : i < 8) : kW H (m.2.1 (m.2.1 (s + 26) i) 13) := by
  obtain ⟨j, hj, e⟩ := hp.2.1 i hi
  rw [e]
  rcases hp.2.2.2.1 j hj with ⟨q, -⟩ | ⟨q, -⟩
  · rw [q]; exact (h.2.2.2.2.2.2.2.1 j hj).2.1
  · rw [q]; exact (h.2.2.2.2.2.2.2.1 j hj).2.2
theorem pS_wf {m : fm_M} (h : kS H s) (hp : pS m s) {i : Nat} (hi : i < 8) : kW H (m.2.1 (m.2.1 (s + 26) i) 14) := by
  obtain ⟨j, hj, e⟩ := hp.2.1 i hi
  rw [e]
  rcases hp.2.2.2.1 j hj with ⟨-, q⟩ | ⟨-, q⟩
  · rw [q]; exact (h.2.2.2.2.2.2.2.1 j hj).2.2
  · rw [q]; exact (h.2.2.2.2.2.2.2.1 j hj).2.1
theorem pS_pb {m : fm_M} (h : kS H s) (hp : pS m s) {i : Nat} (hi : i < 60) : fm_isb H (m.2.1 (s + 27) i) 5 = true := by
  obtain ⟨j, hj, e⟩ := hp.2.2.2.2.1 i hi
  rw [e]
  exact fm_is_b (h.2.2.2.2.2.2.2.2 j hj)
end
def vB (V : VV) (N L K P : Nat) (Z A B : Nat → Nat) : Prop := V 1 0 0 = ii N ∧ V 1 0 1 = ii L ∧ V 0 0 5 = ii K ∧ V 0 0 6 = ii P ∧ (N ≤ 10 ∧ L ≤ 16 ∧ K ≤ 8 ∧ P ≤ 60) ∧ (∀ i, i < 10 → V 4 0 i = ii (Z i) ∧ Z i ≤ 12) ∧ (∀ i, i < 8 → V 10 i 0 = ii (A i) ∧ A i ≤ 6) ∧ ∀ i, i < 8 → V 14 i 0 = ii (B i) ∧ B i ≤ 6
section
variable {H : fm_H} {s N L K P : Nat} {m : fm_M} {V : VV} {Z A B : Nat → Nat}
theorem rd0 (h : cv m s = V) (k : Nat) : m.1 s k = V 0 0 k := cv_rd h 0 0 k rfl
theorem rd1 (h : cv m s = V) (k : Nat) : m.1 (s + 1) k = V 1 0 k := cv_rd h 1 0 k rfl
theorem rd2 (h : cv m s = V) (k : Nat) : m.1 (s + 3) k = V 2 0 k := cv_rd h 2 0 k rfl
theorem rd3 (h : cv m s = V) {i : Nat} (hi : i < 16) (k : Nat) : m.1 (s + 4 + i) k = V 3 i k := cv_rd h 3 i k (Nat.blt_eq.mpr hi)
theorem rd4 (h : cv m s = V) (k : Nat) : m.1 (s + 21) k = V 4 0 k := cv_rd h 4 0 k rfl
theorem rd5 (h : cv m s = V) (k : Nat) : m.1 (s + 22) k = V 5 0 k := cv_rd h 5 0 k rfl
theorem rd6 (h : cv m s = V) (k : Nat) : m.1 (s + 23) k = V 6 0 k := cv_rd h 6 0 k rfl
theorem rd7 (h : cv m s = V) (k : Nat) : m.1 (s + 24) k = V 7 0 k := cv_rd h 7 0 k rfl
theorem rd8 (h : cv m s = V) (k : Nat) : m.1 (s + 25) k = V 8 0 k := cv_rd h 8 0 k rfl
theorem v9 {i : Nat} (hi : i < 8) : vld 9 i = true := Nat.blt_eq.mpr hi
theorem v10 {i : Nat} (hi : i < 8) : vld 10 i = true := Nat.blt_eq.mpr hi
theorem v11 {i : Nat} (hi : i < 8) : vld 11 i = true := Nat.blt_eq.mpr hi
theorem v12 {i : Nat} (hi : i < 8) : vld 12 i = true := Nat.blt_eq.mpr hi
theorem v13 {i : Nat} (hi : i < 8) : vld 13 i = true := Nat.blt_eq.mpr hi
theorem v14 {i : Nat} (hi : i < 8) : vld 14 i = true := Nat.blt_eq.mpr hi
theorem v15 {i : Nat} (hi : i < 8) : vld 15 i = true := Nat.blt_eq.mpr hi
theorem v16 {i : Nat} (hi : i < 8) : vld 16 i = true := Nat.blt_eq.mpr hi
theorem v17 {i : Nat} (hi : i < 8) : vld 17 i = true := Nat.blt_eq.mpr hi
theorem v18 {i : Nat} (hi : i < 60) : vld 18 i = true := Nat.blt_eq.mpr hi
theorem v3 {i : Nat} (hi : i < 16) : vld 3 i = true := Nat.blt_eq.mpr hi
theorem rd9 (h : cv m s = V) {i : Nat} (hi : i < 8) (k : Nat) : m.1 (m.2.1 (s + 26) i) k = V 9 i k := cv_rd h 9 i k (v9 hi)
theorem rd10 (h : cv m s = V) {i : Nat} (hi : i < 8) (k : Nat) : m.1 (m.2.1 (m.2.1 (s + 26) i) 13) k = V 10 i k := cv_rd h 10 i k (v10 hi)
theorem rd11 (h : cv m s = V) {i : Nat} (hi : i < 8) (k : Nat) : m.1 (m.2.1 (m.2.1 (s + 26) i) 13 + 1) k = V 11 i k := cv_rd h 11 i k (v11 hi)
theorem rd12 (h : cv m s = V) {i : Nat} (hi : i < 8) (k : Nat) : m.1 (m.2.1 (m.2.1 (s + 26) i) 13 + 2) k = V 12 i k := cv_rd h 12 i k (v12 hi)
theorem rd13 (h : cv m s = V) {i : Nat} (hi : i < 8) (k : Nat) : m.1 (m.2.1 (m.2.1 (s + 26) i) 13 + 3) k = V 13 i k := cv_rd h 13 i k (v13 hi)
theorem rd14 (h : cv m s = V) {i : Nat} (hi : i < 8) (k : Nat) : m.1 (m.2.1 (m.2.1 (s + 26) i) 14) k = V 14 i k := cv_rd h 14 i k (v14 hi)
theorem rd15 (h : cv m s = V) {i : Nat} (hi : i < 8) (k : Nat) : m.1 (m.2.1 (m.2.1 (s + 26) i) 14 + 1) k = V 15 i k := cv_rd h 15 i k (v15 hi)
theorem rd16 (h : cv m s = V) {i : Nat} (hi : i < 8) (k : Nat) : m.1 (m.2.1 (m.2.1 (s + 26) i) 14 + 2) k = V 16 i k := cv_rd h 16 i k (v16 hi)
theorem rd17 (h : cv m s = V) {i : Nat} (hi : i < 8) (k : Nat) : m.1 (m.2.1 (m.2.1 (s + 26) i) 14 + 3) k = V 17 i k := cv_rd h 17 i k (v17 hi)
theorem rd18 (h : cv m s = V) {i : Nat} (hi : i < 60) (k : Nat) (hk : vk 18 k = true := by rfl) : m.1 (m.2.1 (s + 27) i) k = V 18 i k := cv_rd h 18 i k (v18 hi) hk
theorem c_isNode (hV : cv m s = V) (hB : vB V N L K P Z A B) {j : Int} (h1 : -2147483648 ≤ j) (h2 : j < 2147483648) : f_X4_isNode H (s + 1) (ii j) m = some (bi (decide (0 ≤ j ∧ j < N)), m) := by
  obtain ⟨b1, b2, b3, b4, ⟨b5, b6, b7, b8⟩, b9, -⟩ := hB
  unfold f_X4_isNode
  rw [rd1 hV, b1, ii_0]
  by_cases e1 : j < 0
  · rw [if_pos (by rw [ii_lt (by omega) (by omega) (by omega) (by omega)]; omega), decide_eq_false (by omega)]
    rfl
  · rw [if_neg (by rw [ii_lt (by omega) (by omega) (by omega) (by omega)]; omega)]
    by_cases e2 : (N : Int) ≤ j
    · rw [if_pos (by rw [ii_le (by omega) (by omega) (by omega) (by omega)]; omega), decide_eq_false (by omega)]
      rfl
    · rw [if_neg (by rw [ii_le (by omega) (by omega) (by omega) (by omega)]; omega), decide_eq_true (by omega)]
      rfl
theorem c_isLink (hV : cv m s = V) (hB : vB V N L K P Z A B) {j : Int} (h1 : -2147483648 ≤ j) (h2 : j < 2147483648) : f_X4_isLink H (s + 1) (ii j) m = some (bi (decide (0 ≤ j ∧ j < L)), m) := by
  obtain ⟨b1, b2, b3, b4, ⟨b5, b6, b7, b8⟩, b9, -⟩ := hB
  unfold f_X4_isLink
  rw [rd1 hV, b2, ii_0]
  by_cases e1 : j < 0
  · rw [if_pos (by rw [ii_lt (by omega) (by omega) (by omega) (by omega)]; omega), decide_eq_false (by omega)]
    rfl
  · rw [if_neg (by rw [ii_lt (by omega) (by omega) (by omega) (by omega)]; omega)]
    by_cases e2 : (L : Int) ≤ j
    · rw [if_pos (by rw [ii_le (by omega) (by omega) (by omega) (by omega)]; omega), decide_eq_false (by omega)]
      rfl
    · rw [if_neg (by rw [ii_le (by omega) (by omega) (by omega) (by omega)]; omega), decide_eq_true (by omega)]
      rfl
theorem c_isUp (hS : kS H s) (hp : pS m s) (hV : cv m s = V) (hB : vB V N L K P Z A B) {j : Int} (h1 : -2147483648 ≤ j) (h2 : j < 2147483648) : f_X4_isUp H (s + 1) (ii j) m = some (bi (decide (0 ≤ j ∧ j < L ∧ V 3 j.toNat 4 ≠ 0)), m) := by
  unfold f_X4_isUp
  rw [c_isLink hV hB h1 h2, fb_n]
  obtain ⟨b1, b2, b3, b4, ⟨b5, b6, b7, b8⟩, b9, -⟩ := hB
  by_cases e : 0 ≤ j ∧ j < L
  · rw [decide_eq_true e, if_neg (by decide), kS_n2 hS, kS_z2 hS, if_pos (by rw [ii_inb (by omega) (by omega)]; omega), ii_tn (by omega) (by omega), pS_lk hp (by omega), if_pos (kS_lk hS (by omega)), rd3 hV (by omega)]
    by_cases e2 : V 3 j.toNat 4 = 0
    · rw [if_pos e2, decide_eq_false (fun h => h.2.2 e2)]
      rfl
    · rw [if_neg e2, decide_eq_true ⟨e.1, e.2, e2⟩]
      rfl
  · rw [decide_eq_false e, if_pos (by decide), decide_eq_false (fun h => e ⟨h.1, h.2.1⟩)]
    rfl
/-- the delay on a link -/
def dOn (V : VV) (L : Nat) (x : Int32) : Int32 := if 0 ≤ x.toInt ∧ x.toInt < L then V 3 x.toInt.toNat 3 else 0
theorem dOn_ii {j : Nat} (h : j < L) (h9 : j < 1000) : dOn V L (ii j) = V 3 j 3 := by
  unfold dOn
  rw [ii_toInt (by omega) (by omega), if_pos (by omega)]
  rfl
theorem c_delayOn (hS : kS H s) (hp : pS m s) (hV : cv m s = V) (hB : vB V N L K P Z A B) (x : Int32) : f_X4_delayOn H (s + 1) x m = some (dOn V L x, m) := by
  have a1 := Int32.le_toInt x
  have a2 := Int32.toInt_lt x
  obtain ⟨j, hj⟩ : ∃ j, j = x.toInt := ⟨_, rfl⟩
  rw [← hj] at a1 a2
  rw [ii_of x, ← hj]
  unfold f_X4_delayOn dOn
  rw [c_isLink hV hB (by omega) (by omega), fb_n, ii_toInt (by omega) (by omega)]
  obtain ⟨b1, b2, b3, b4, ⟨b5, b6, b7, b8⟩, b9, -⟩ := hB
  by_cases e : 0 ≤ j ∧ j < L
  · rw [decide_eq_true e, if_neg (by decide), kS_n2 hS, kS_z2 hS, if_pos (by rw [ii_inb (by omega) (by omega)]; omega), ii_tn (by omega) (by omega), pS_lk hp (by omega), if_pos (kS_lk hS (by omega)), rd3 hV (by omega), if_pos e]
  · rw [decide_eq_false e, if_pos (by decide), if_neg e]
/-- the link between two nodes, by the table -/
def lbV (V : VV) (N : Nat) (a b : Int) : Int32 := if 0 ≤ a ∧ a < N ∧ 0 ≤ b ∧ b < N then V 2 0 (a * 10 + b).toNat else -1
theorem c_linkBetween (hS : kS H s) (hV : cv m s = V) (hB : vB V N L K P Z A B) {a b : Int} (h1 : -2147483648 ≤ a) (h2 : a < 2147483648) (h3 : -2147483648 ≤ b) (h4 : b < 2147483648) : f_X4_linkBetween H (s + 1) (ii a) (ii b) m = some (lbV V N a b, m) := by
  obtain ⟨b1, b2, b3, b4, ⟨b5, b6, b7, b8⟩, b9, -⟩ := hB
  unfold f_X4_linkBetween lbV
  rw [rd1 hV, b1, ii_0]
  by_cases e1 : a < 0
  · rw [if_pos (by rw [ii_lt (by omega) (by omega) (by omega) (by omega)]; omega), if_neg (by omega)]
  · rw [if_neg (by rw [ii_lt (by omega) (by omega) (by omega) (by omega)]; omega)]
    by_cases e2 : (N : Int) ≤ a
    · rw [if_pos (by rw [ii_le (by omega) (by omega) (by omega) (by omega)]; omega), if_neg (by omega)]
    · rw [if_neg (by rw [ii_le (by omega) (by omega) (by omega) (by omega)]; omega)]
      by_cases e3 : b < 0
      · rw [if_pos (by rw [ii_lt (by omega) (by omega) (by omega) (by omega)]; omega), if_neg (by omega)]
      · rw [if_neg (by rw [ii_lt (by omega) (by omega) (by omega) (by omega)]; omega)]
        by_cases e4 : b < N
        · rw [if_pos (by rw [ii_lt (by omega) (by omega) (by omega) (by omega)]; omega), kS_n3 hS, kS_z3 hS, ii_10, ii_mul, ii_add, if_pos (by rw [ii_inb (by omega) (by omega)]; omega), ii_tn (by omega) (by omega), rd2 hV, if_pos (by omega)]
        · rw [if_neg (by rw [ii_lt (by omega) (by omega) (by omega) (by omega)]; omega), if_neg (by omega)]
/-- a way's delay -/
def dlW (V : VV) (L : Nat) (lk : Nat → Int32) (n : Nat) : Int32 := su (fun k => dOn V L (lk k)) 1 (n - 1)
theorem c_delayOf_l (hS : kS H s) (hp : pS m s) (hV : cv m s = V) (hB : vB V N L K P Z A B) {w n : Nat} (hw : kW H w) (hn : m.1 w 0 = ii n) (h6 : n ≤ 6) : ∀ (k q j : Nat) (a : Int32), j + k = n ∨ (n < j ∧ k = 0) → k < q → j < 100 → f_X4_delayOf_4 H (s + 1) w q a (ii j) m = some (a + su (fun k => dOn V L (m.1 (w + 2) k)) j k, m) := by
  intro k
  induction k with
  | zero =>
    intro q j a h1 h2 h3
    obtain ⟨q, rfl⟩ : ∃ q', q = q' + 1 := ⟨q - 1, by omega⟩
    unfold f_X4_delayOf_4
    rw [hn, if_pos (by rw [ii_le (by omega) (by omega) (by omega) (by omega)]; omega)]
    unfold su
    rw [Int32.add_zero]
  | succ k ih =>
    intro q j a h1 h2 h3
    obtain ⟨q, rfl⟩ : ∃ q', q = q' + 1 := ⟨q - 1, by omega⟩
    unfold f_X4_delayOf_4
    rw [hn, if_neg (by rw [ii_le (by omega) (by omega) (by omega) (by omega)]; omega), c_linkAtN hw hn h6 (by omega), fb_n, c_delayOn hS hp hV hB, fb_n, ii_inc]
    unfold su
    rw [← Int32.add_assoc]
    exact ih q (j + 1) _ (by omega) (by omega) (by omega)
theorem c_delayOf (hS : kS H s) (hp : pS m s) (hV : cv m s = V) (hB : vB V N L K P Z A B) {w n : Nat} (hw : kW H w) (hn : m.1 w 0 = ii n) (h6 : n ≤ 6) : f_X4_delayOf H (s + 1) w m = some (dlW V L (m.1 (w + 2)) n, m) := by
  have h := c_delayOf_l hS hp hV hB hw hn h6 (n - 1) fm_N 1 0 (by omega) (by unfold fm_N; omega) (by omega)
  rw [Int32.zero_add] at h
  exact h
theorem c_allCapacities_l (hS : kS H s) (hp : pS m s) (hV : cv m s = V) (hB : vB V N L K P Z A B) : ∀ (k q j : Nat) (a : Int32), j + k = L → k < q → f_X4_allCapacities_4 H (s + 1) q a (ii j) m = some (a + su (fun k => V 3 k 2) j k, m) := by
  have hB' := hB
  obtain ⟨b1, b2, b3, b4, ⟨b5, b6, b7, b8⟩, b9, -⟩ := hB
  intro k
  induction k with
  | zero =>
    intro q j a h1 h2
    obtain ⟨q, rfl⟩ : ∃ q', q = q' + 1 := ⟨q - 1, by omega⟩
    unfold f_X4_allCapacities_4
    rw [rd1 hV, b2, if_pos (by rw [ii_le (by omega) (by omega) (by omega) (by omega)]; omega)]
    unfold su
    rw [Int32.add_zero]
  | succ k ih =>
    intro q j a h1 h2
    obtain ⟨q, rfl⟩ : ∃ q', q = q' + 1 := ⟨q - 1, by omega⟩
    unfold f_X4_allCapacities_4
    rw [rd1 hV, b2, if_neg (by rw [ii_le (by omega) (by omega) (by omega) (by omega)]; omega), kS_n2 hS, kS_z2 hS, if_pos (by rw [ii_inb (by omega) (by omega)]; omega), ii_tnn (by omega), pS_lk hp (by omega), if_pos (kS_lk hS (by omega)), rd3 hV (by omega), ii_inc]
    unfold su
    rw [← Int32.add_assoc]
    exact ih q (j + 1) _ (by omega) (by omega)
theorem c_allCapacities (hS : kS H s) (hp : pS m s) (hV : cv m s = V) (hB : vB V N L K P Z A B) : f_X4_allCapacities H (s + 1) m = some (su (fun k => V 3 k 2) 0 L, m) := by
  have h := c_allCapacities_l hS hp hV hB L fm_N 0 0 (by omega) (by have := hB.2.2.2.2.1.2.1; unfold fm_N; omega)
  rw [Int32.zero_add] at h
  exact h
theorem c_linksAt_l (hS : kS H s) (hV : cv m s = V) (hB : vB V N L K P Z A B) {f : Nat} (hf : f < 10) : ∀ (k q j a : Nat), j + k = N → k < q → f_X4_linksAt_4 H (s + 1) (ii f) q (ii a) (ii j) m = some (ii ((a + nc (fun i => decide (lbV V N f i ≠ -1)) j k : Nat) : Int), m) := by
  have hB' := hB
  obtain ⟨b1, b2, b3, b4, ⟨b5, b6, b7, b8⟩, b9, -⟩ := hB
  intro k
  induction k with
  | zero =>
    intro q j a h1 h2
    obtain ⟨q, rfl⟩ : ∃ q', q = q' + 1 := ⟨q - 1, by omega⟩
    unfold f_X4_linksAt_4
    rw [rd1 hV, b1, if_pos (by rw [ii_le (by omega) (by omega) (by omega) (by omega)]; omega)]
    rfl
  | succ k ih =>
    intro q j a h1 h2
    obtain ⟨q, rfl⟩ : ∃ q', q = q' + 1 := ⟨q - 1, by omega⟩
    unfold f_X4_linksAt_4
    rw [rd1 hV, b1, if_neg (by rw [ii_le (by omega) (by omega) (by omega) (by omega)]; omega), c_linkBetween hS hV hB' (by omega) (by omega) (by omega) (by omega), fb_n, ii_inc, ii_inc]
    unfold nc
    by_cases e : lbV V N f j = -1
    · rw [if_pos e, if_neg (by simp [e]), Nat.zero_add]
      exact ih q (j + 1) a (by omega) (by omega)
    · rw [if_neg e, if_pos (by simp [e]), ← Nat.add_assoc]
      exact ih q (j + 1) (a + 1) (by omega) (by omega)
theorem c_linksAt (hS : kS H s) (hV : cv m s = V) (hB : vB V N L K P Z A B) {f : Nat} (hf : f < 10) : f_X4_linksAt H (s + 1) (ii f) m = some (ii (nc (fun i => decide (lbV V N f i ≠ -1)) 0 N : Nat), m) := by
  have h := c_linksAt_l hS hV hB hf N fm_N 0 0 (by omega) (by have := hB.2.2.2.2.1.1; unfold fm_N; omega)
  rw [Nat.zero_add] at h
  exact h
end
