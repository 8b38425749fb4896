/-! what the class reads of a state: circuits and packets -/
theorem su_c {f g : Nat → Int32} : ∀ {k j : Nat}, (∀ i, j ≤ i → i < j + k → f i = g i) → su f j k = su g j k
  | 0, _, _ => rfl
  | k + 1, j, h => by
    unfold su
    rw [h j (by omega) (by omega), su_c (fun i a b => h i (by omega) (by omega))]
theorem ny_c {f g : Nat → Bool} : ∀ {k j : Nat}, (∀ i, j ≤ i → i < j + k → f i = g i) → ny f j k = ny g j k
  | 0, _, _ => rfl
  | k + 1, j, h => by
    unfold ny
    rw [h j (by omega) (by omega), ny_c (fun i a b => h i (by omega) (by omega))]
theorem na_c {f g : Nat → Bool} : ∀ {k j : Nat}, (∀ i, j ≤ i → i < j + k → f i = g i) → na f j k = na g j k
  | 0, _, _ => rfl
  | k + 1, j, h => by
    unfold na
    rw [h j (by omega) (by omega), na_c (fun i a b => h i (by omega) (by omega))]
theorem nc_c {f g : Nat → Bool} : ∀ {k j : Nat}, (∀ i, j ≤ i → i < j + k → f i = g i) → nc f j k = nc g j k
  | 0, _, _ => rfl
  | k + 1, j, h => by
    unfold nc
    rw [h j (by omega) (by omega), nc_c (fun i a b => h i (by omega) (by omega))]
theorem fi_c {f g : Nat → Bool} : ∀ {k j : Nat}, (∀ i, j ≤ i → i < j + k → f i = g i) → fi f j k = fi g j k
  | 0, _, _ => rfl
  | k + 1, j, h => by
    unfold fi
    rw [h j (by omega) (by omega), fi_c (fun i a b => h i (by omega) (by omega))]
theorem ii_t {x : Int32} {z : Int} (h1 : -2147483648 ≤ z) (h2 : z < 2147483648) : x.toInt = z ↔ x = ii z := by
  constructor
  · intro h
    rw [ii_of x, h]
  · intro h
    rw [h, ii_toInt h1 h2]
theorem ii_l (x : Int32) : -2147483648 ≤ x.toInt := Int32.le_toInt x
theorem ii_u (x : Int32) : x.toInt < 2147483648 := Int32.toInt_lt x
/-- does circuit i use the link x -/
def us (V : VV) (A B : Nat → Nat) (i : Nat) (x : Int32) : Bool := ny (fun k => decide (V 12 i k = x)) 1 (A i - 1) || ny (fun k => decide (V 16 i k = x)) 1 (B i - 1)
def rsv (V : VV) (K : Nat) (A B : Nat → Nat) (x e : Int32) : Int32 := su (fun i => if ii i = e then 0 else if us V A B i x = true then V 9 i 0 else 0) 0 K
def hr (V : VV) (L K : Nat) (A B : Nat → Nat) (j : Int) (band e : Int32) : Bool := decide (0 ≤ j ∧ j < L ∧ V 3 j.toNat 4 ≠ 0) && decide (rsv V K A B (ii j) e + band ≤ V 3 j.toNat 2)
section
variable {H : fm_H} {s N L K P : Nat} {m : fm_M} {V : VV} {Z A B : Nat → Nat}
theorem c_isCircuit (hV : cv m s = V) (hB : vB V N L K P Z A B) {j : Int} (h1 : -2147483648 ≤ j) (h2 : j < 2147483648) : f_X7_isCircuit H s (ii j) m = some (bi (decide (0 ≤ j ∧ j < K)), m) := by
  obtain ⟨b1, b2, b3, b4, ⟨b5, b6, b7, b8⟩, b9, -⟩ := hB
  unfold f_X7_isCircuit
  rw [rd0 hV, b3, ii_0]
  by_cases e1 : j < 0
  · rw [if_pos (by rw [ii_lt (by omega) (by omega) (by omega) (by omega)]; omega), decide_eq_false (by omega)]
    rfl
  · rw [if_neg (by rw [ii_lt (by omega) (by omega) (by omega) (by omega)]; omega)]
    by_cases e2 : (K : Int) ≤ j
    · rw [if_pos (by rw [ii_le (by omega) (by omega) (by omega) (by omega)]; omega), decide_eq_false (by omega)]
      rfl
    · rw [if_neg (by rw [ii_le (by omega) (by omega) (by omega) (by omega)]; omega), decide_eq_true (by omega)]
      rfl
theorem c_packetsOn_l (hS : kS H s) (hp : pS m s) (hV : cv m s = V) (hB : vB V N L K P Z A B) (x : Int32) : ∀ (k q j a : Nat), j + k = P → k < q → f_X7_packetsOn_4 H s x q (ii a) (ii j) m = some (ii ((a + nc (fun p => decide (V 18 p 3 = x)) j k : Nat) : Int), m) := by
  obtain ⟨b1, b2, b3, b4, ⟨b5, b6, b7, b8⟩, b9, -⟩ := hB
  intro k
  induction k with
  | zero =>
    intro q j a h1 h2
    obtain ⟨q, rfl⟩ : ∃ q', q = q' + 1 := ⟨q - 1, by omega⟩
    unfold f_X7_packetsOn_4
    rw [rd0 hV, b4, if_pos (by rw [ii_le (by omega) (by omega) (by omega) (by omega)]; omega)]
    rfl
  | succ k ih =>
    intro q j a h1 h2
    obtain ⟨q, rfl⟩ : ∃ q', q = q' + 1 := ⟨q - 1, by omega⟩
    unfold f_X7_packetsOn_4
    rw [rd0 hV, b4, if_neg (by rw [ii_le (by omega) (by omega) (by omega) (by omega)]; omega), kS_4 hS, kS_z27 hS, if_pos (by rw [ii_inb (by omega) (by omega)]; omega), ii_tnn (by omega), if_pos (pS_pb hS hp (by omega)), rd18 hV (by omega) 3, ii_inc, ii_inc]
    unfold nc
    by_cases e : V 18 j 3 = x
    · rw [if_pos e, if_pos (decide_eq_true e), ← Nat.add_assoc]
      exact ih q (j + 1) (a + 1) (by omega) (by omega)
    · rw [if_neg e, if_neg (by rw [decide_eq_false e]; decide), Nat.zero_add]
      exact ih q (j + 1) a (by omega) (by omega)
theorem c_packetsOn (hS : kS H s) (hp : pS m s) (hV : cv m s = V) (hB : vB V N L K P Z A B) (x : Int32) : f_X7_packetsOn H s x m = some (ii (nc (fun p => decide (V 18 p 3 = x)) 0 P : Nat), m) := by
  have h := c_packetsOn_l hS hp hV hB x P fm_N 0 0 (by omega) (by have := hB.2.2.2.2.1; unfold fm_N; omega)
  rw [Nat.zero_add] at h
  exact h
theorem c_packetsOf_l (hS : kS H s) (hp : pS m s) (hV : cv m s = V) (hB : vB V N L K P Z A B) (x : Int32) : ∀ (k q j a : Nat), j + k = P → k < q → f_X7_packetsOf_4 H s x q (ii a) (ii j) m = some (ii ((a + nc (fun p => decide (V 18 p 0 = x)) j k : Nat) : Int), m) := by
  obtain ⟨b1, b2, b3, b4, ⟨b5, b6, b7, b8⟩, b9, -⟩ := hB
  intro k
  induction k with
  | zero =>
    intro q j a h1 h2
    obtain ⟨q, rfl⟩ : ∃ q', q = q' + 1 := ⟨q - 1, by omega⟩
    unfold f_X7_packetsOf_4
    rw [rd0 hV, b4, if_pos (by rw [ii_le (by omega) (by omega) (by omega) (by omega)]; omega)]
    rfl
  | succ k ih =>
    intro q j a h1 h2
    obtain ⟨q, rfl⟩ : ∃ q', q = q' + 1 := ⟨q - 1, by omega⟩
    unfold f_X7_packetsOf_4
    rw [rd0 hV, b4, if_neg (by rw [ii_le (by omega) (by omega) (by omega) (by omega)]; omega), kS_4 hS, kS_z27 hS, if_pos (by rw [ii_inb (by omega) (by omega)]; omega), ii_tnn (by omega), if_pos (pS_pb hS hp (by omega)), rd18 hV (by omega) 0, ii_inc, ii_inc]
    unfold nc
    by_cases e : V 18 j 0 = x
    · rw [if_pos e, if_pos (decide_eq_true e), ← Nat.add_assoc]
      exact ih q (j + 1) (a + 1) (by omega) (by omega)
    · rw [if_neg e, if_neg (by rw [decide_eq_false e]; decide), Nat.zero_add]
      exact ih q (j + 1) a (by omega) (by omega)
theorem c_packetsOf (hS : kS H s) (hp : pS m s) (hV : cv m s = V) (hB : vB V N L K P Z A B) (x : Int32) : f_X7_packetsOf H s x m = some (ii (nc (fun p => decide (V 18 p 0 = x)) 0 P : Nat), m) := by
  have h := c_packetsOf_l hS hp hV hB x P fm_N 0 0 (by omega) (by have := hB.2.2.2.2.1; unfold fm_N; omega)
  rw [Nat.zero_add] at h
  exact h
theorem c_movedCircuits_l (hS : kS H s) (hp : pS m s) (hV : cv m s = V) (hB : vB V N L K P Z A B) : ∀ (k q j a : Nat), j + k = K → k < q → f_X7_movedCircuits_4 H s q (ii a) (ii j) m = some (ii ((a + nc (fun i => decide (V 9 i 2 ≠ 0)) j k : Nat) : Int), m) := by
  obtain ⟨b1, b2, b3, b4, ⟨b5, b6, b7, b8⟩, b9, -⟩ := hB
  intro k
  induction k with
  | zero =>
    intro q j a h1 h2
    obtain ⟨q, rfl⟩ : ∃ q', q = q' + 1 := ⟨q - 1, by omega⟩
    unfold f_X7_movedCircuits_4
    rw [rd0 hV, b3, if_pos (by rw [ii_le (by omega) (by omega) (by omega) (by omega)]; omega)]
    rfl
  | succ k ih =>
    intro q j a h1 h2
    obtain ⟨q, rfl⟩ : ∃ q', q = q' + 1 := ⟨q - 1, by omega⟩
    unfold f_X7_movedCircuits_4
    rw [rd0 hV, b3, if_neg (by rw [ii_le (by omega) (by omega) (by omega) (by omega)]; omega), kS_3 hS, kS_z26 hS, if_pos (by rw [ii_inb (by omega) (by omega)]; omega), ii_tnn (by omega), if_pos (pS_cb hS hp (by omega)), rd9 hV (by omega), ii_inc, ii_inc]
    unfold nc
    by_cases e : V 9 j 2 = 0
    · rw [if_pos e, if_neg (by rw [decide_eq_false (fun h => h e)]; decide), Nat.zero_add]
      exact ih q (j + 1) a (by omega) (by omega)
    · rw [if_neg e, if_pos (decide_eq_true e), ← Nat.add_assoc]
      exact ih q (j + 1) (a + 1) (by omega) (by omega)
theorem c_movedCircuits (hS : kS H s) (hp : pS m s) (hV : cv m s = V) (hB : vB V N L K P Z A B) : f_X7_movedCircuits H s m = some (ii (nc (fun i => decide (V 9 i 2 ≠ 0)) 0 K : Nat), m) := by
  have h := c_movedCircuits_l hS hp hV hB K fm_N 0 0 (by omega) (by have := hB.2.2.2.2.1; unfold fm_N; omega)
  rw [Nat.zero_add] at h
  exact h
theorem c_usesOld (hS : kS H s) (hp : pS m s) (hV : cv m s = V) (hB : vB V N L K P Z A B) {i : Nat} (hi : i < 8) (x : Int32) : f_X10_usesLink H (m.2.1 (m.2.1 (s + 26) i) 13) x m = some (bi (ny (fun k => decide (V 12 i k = x)) 1 (A i - 1)), m) := by
  have h := hB.2.2.2.2.2.2.1 i hi
  rw [c_usesLink (pS_wo hS hp hi) ((rd10 hV hi 0).trans h.1) h.2 x]
  rw [show m.1 (m.2.1 (m.2.1 (s + 26) i) 13 + 2) = V 12 i from funext (rd12 hV hi)]
theorem c_usesNew (hS : kS H s) (hp : pS m s) (hV : cv m s = V) (hB : vB V N L K P Z A B) {i : Nat} (hi : i < 8) (x : Int32) : f_X10_usesLink H (m.2.1 (m.2.1 (s + 26) i) 14) x m = some (bi (ny (fun k => decide (V 16 i k = x)) 1 (B i - 1)), m) := by
  have h := hB.2.2.2.2.2.2.2 i hi
  rw [c_usesLink (pS_wf hS hp hi) ((rd14 hV hi 0).trans h.1) h.2 x]
  rw [show m.1 (m.2.1 (m.2.1 (s + 26) i) 14 + 2) = V 16 i from funext (rd16 hV hi)]
theorem c_reservedOn_l (hS : kS H s) (hp : pS m s) (hV : cv m s = V) (hB : vB V N L K P Z A B) (x e : Int32) : ∀ (k q j : Nat) (a : Int32), j + k = K → k < q → f_X7_reservedOn_5 H s x e q a (ii j) m = some (a + su (fun i => if ii i = e then 0 else if us V A B i x = true then V 9 i 0 else 0) j k, m) := by
  have hB' := hB
  obtain ⟨b1, b2, b3, b4, ⟨b5, b6, b7, b8⟩, b9, -⟩ := hB
  intro k
  induction k with
  | zero =>
    intro q j a h1 h2
    obtain ⟨q, rfl⟩ : ∃ q', q = q' + 1 := ⟨q - 1, by omega⟩
    unfold f_X7_reservedOn_5
    rw [rd0 hV, b3, if_pos (by rw [ii_le (by omega) (by omega) (by omega) (by omega)]; omega)]
    unfold su
    rw [Int32.add_zero]
  | succ k ih =>
    intro q j a h1 h2
    obtain ⟨q, rfl⟩ : ∃ q', q = q' + 1 := ⟨q - 1, by omega⟩
    unfold f_X7_reservedOn_5
    rw [rd0 hV, b3, if_neg (by rw [ii_le (by omega) (by omega) (by omega) (by omega)]; omega), kS_3 hS, kS_z26 hS, if_pos (by rw [ii_inb (by omega) (by omega)]; omega), ii_tnn (by omega), if_pos (pS_cb hS hp (by omega)), ii_inc]
    unfold su
    by_cases e1 : ii j = e
    · rw [if_pos e1, if_pos e1, Int32.zero_add]
      exact ih q (j + 1) a (by omega) (by omega)
    · rw [if_neg e1, if_neg e1, if_pos (kW_b (pS_wo hS hp (by omega))), c_usesOld hS hp hV hB' (by omega), fb_n, rd9 hV (by omega)]
      unfold us
      cases ny (fun k => decide (V 12 j k = x)) 1 (A j - 1) with
      | true =>
        rw [if_neg (by decide), Bool.true_or, if_pos rfl, ← Int32.add_assoc]
        exact ih q (j + 1) _ (by omega) (by omega)
      | false =>
        rw [if_pos (by decide), if_pos (kW_b (pS_wf hS hp (by omega))), c_usesNew hS hp hV hB' (by omega), fb_n, rd9 hV (by omega), Bool.false_or]
        cases ny (fun k => decide (V 16 j k = x)) 1 (B j - 1) with
        | true =>
          rw [if_neg (by decide), if_pos rfl, ← Int32.add_assoc]
          exact ih q (j + 1) _ (by omega) (by omega)
        | false =>
          rw [if_pos (by decide), if_neg (by decide), Int32.zero_add]
          exact ih q (j + 1) _ (by omega) (by omega)
theorem c_reservedOn (hS : kS H s) (hp : pS m s) (hV : cv m s = V) (hB : vB V N L K P Z A B) (x e : Int32) : f_X7_reservedOn H s x e m = some (rsv V K A B x e, m) := by
  have h := c_reservedOn_l hS hp hV hB x e K fm_N 0 0 (by omega) (by have := hB.2.2.2.2.1; unfold fm_N; omega)
  rw [Int32.zero_add] at h
  exact h
theorem c_reservedOnAll_l (hS : kS H s) (hp : pS m s) (hV : cv m s = V) (hB : vB V N L K P Z A B) : ∀ (k q j : Nat) (a : Int32), j + k = L → k < q → f_X7_reservedOnAll_4 H s q a (ii j) m = some (a + su (fun i => rsv V K A B (ii i) (-1)) j k, m) := by
  have hB' := hB
  obtain ⟨b1, b2, b3, b4, ⟨b5, b6, b7, b8⟩, b9, -⟩ := hB
  intro k
  induction k with
  | zero =>
    intro q j a h1 h2
    obtain ⟨q, rfl⟩ : ∃ q', q = q' + 1 := ⟨q - 1, by omega⟩
    unfold f_X7_reservedOnAll_4
    rw [kS_0 hS, rd1 hV, b2, if_pos (by rw [ii_le (by omega) (by omega) (by omega) (by omega)]; omega)]
    unfold su
    rw [Int32.add_zero]
  | succ k ih =>
    intro q j a h1 h2
    obtain ⟨q, rfl⟩ : ∃ q', q = q' + 1 := ⟨q - 1, by omega⟩
    unfold f_X7_reservedOnAll_4
    rw [kS_0 hS, rd1 hV, b2, if_neg (by rw [ii_le (by omega) (by omega) (by omega) (by omega)]; omega), c_reservedOn hS hp hV hB', fb_n, ii_inc]
    unfold su
    rw [← Int32.add_assoc]
    exact ih q (j + 1) _ (by omega) (by omega)
theorem c_reservedOnAll (hS : kS H s) (hp : pS m s) (hV : cv m s = V) (hB : vB V N L K P Z A B) : f_X7_reservedOnAll H s m = some (su (fun i => rsv V K A B (ii i) (-1)) 0 L, m) := by
  have h := c_reservedOnAll_l hS hp hV hB L fm_N 0 0 (by omega) (by have := hB.2.2.2.2.1; unfold fm_N; omega)
  rw [Int32.zero_add] at h
  exact h
theorem c_hasRoom (hS : kS H s) (hp : pS m s) (hV : cv m s = V) (hB : vB V N L K P Z A B) {j : Int} (h1 : -2147483648 ≤ j) (h2 : j < 2147483648) (x e : Int32) : f_X7_hasRoom H s (ii j) x e m = some (bi (hr V L K A B j x e), m) := by
  unfold f_X7_hasRoom hr
  rw [kS_0 hS, c_isUp hS hp hV hB h1 h2, fb_n]
  by_cases e1 : 0 ≤ j ∧ j < L ∧ V 3 j.toNat 4 ≠ 0
  · have hL := hB.2.2.2.2.1.2.1
    rw [decide_eq_true e1, if_neg (by decide), c_reservedOn hS hp hV hB, fb_n, kS_n2 hS, kS_z2 hS, if_pos (by rw [ii_inb (by omega) (by omega)]; omega), ii_tn (by omega) (by omega), pS_lk hp (by omega), if_pos (kS_lk hS (by omega)), rd3 hV (by omega), Bool.true_and]
    by_cases e2 : rsv V K A B (ii j) e + x ≤ V 3 j.toNat 2
    · rw [if_neg (Int32.not_lt.mpr e2), decide_eq_true e2]
      rfl
    · rw [if_pos (Int32.not_le.mp e2), decide_eq_false e2]
      rfl
  · rw [decide_eq_false e1, if_pos (by decide), Bool.false_and]
    rfl
theorem c_hasRoomAlong_l (hS : kS H s) (hp : pS m s) (hV : cv m s = V) (hB : vB V N L K P Z A B) {w n : Nat} (hw : kW H w) (hn : m.1 w 0 = ii n) (h6 : n ≤ 6) (x e : Int32) : ∀ (k q j : Nat), j + k = n ∨ (n < j ∧ k = 0) → k < q → j < 100 → f_X7_hasRoomAlong_3 H s w x e q (ii j) m = some (bi (na (fun k => hr V L K A B (m.1 (w + 2) k).toInt x e) j k), m) := by
  intro k
  induction k with
  | zero =>
    intro q j h1 h2 h3
    obtain ⟨q, rfl⟩ : ∃ q', q = q' + 1 := ⟨q - 1, by omega⟩
    unfold f_X7_hasRoomAlong_3
    rw [hn, if_pos (by rw [ii_le (by omega) (by omega) (by omega) (by omega)]; omega)]
    rfl
  | succ k ih =>
    intro q j h1 h2 h3
    obtain ⟨q, rfl⟩ : ∃ q', q = q' + 1 := ⟨q - 1, by omega⟩
    unfold f_X7_hasRoomAlong_3
    rw [hn, if_neg (by rw [ii_le (by omega) (by omega) (by omega) (by omega)]; omega), c_linkAtN hw hn h6 (by omega), fb_n, ii_of (m.1 (w + 2) j), c_hasRoom hS hp hV hB (ii_l _) (ii_u _), fb_n, ii_inc]
    unfold na
    cases hr V L K A B (m.1 (w + 2) j).toInt x e with
    | true =>
      rw [if_neg (by decide), Bool.true_and]
      exact ih q (j + 1) (by omega) (by omega) (by omega)
    | false =>
      rw [if_pos (by decide), Bool.false_and]
      rfl
theorem c_hasRoomAlong (hS : kS H s) (hp : pS m s) (hV : cv m s = V) (hB : vB V N L K P Z A B) {w n : Nat} (hw : kW H w) (hn : m.1 w 0 = ii n) (h6 : n ≤ 6) (x e : Int32) : f_X7_hasRoomAlong H s w x e m = some (bi (na (fun k => hr V L K A B (m.1 (w + 2) k).toInt x e) 1 (n - 1)), m) := c_hasRoomAlong_l hS hp hV hB hw hn h6 x e (n - 1) fm_N 1 (by omega) (by unfold fm_N; omega) (by omega)
theorem c_isOfNewWay (hS : kS H s) (hp : pS m s) (hV : cv m s = V) (hB : vB V N L K P Z A B) {t i : Nat} (ht : t < 120) (h0 : V 5 0 t ≠ -1) (hi : i < K) (hc : V 6 0 t = ii i) : f_X7_isOfNewWay H s (ii t) m = some (bi (decide (fi (fun k => decide (V 17 i k = ii t)) 1 (B i - 1) ≠ -1)), m) := by
  unfold f_X7_isOfNewWay
  have hK := hB.2.2.2.2.1.2.2.1
  have h := hB.2.2.2.2.2.2.2 i (by omega)
  rw [kS_1 hS, c_circuitOf hS hV (by omega) (by omega), Int.toNat_natCast, if_pos ⟨by omega, by omega, h0⟩, fb_n, hc, c_isCircuit hV hB (by omega) (by omega), fb_n, decide_eq_true (by omega), if_neg (by decide), kS_3 hS, kS_z26 hS, if_pos (by rw [ii_inb (by omega) (by omega)]; omega), ii_tnn (by omega), if_pos (pS_cb hS hp (by omega)), if_pos (kW_b (pS_wf hS hp (by omega))), c_indexOfSlot (pS_wf hS hp (by omega)) ((rd14 hV (by omega) 0).trans h.1) h.2, fb_n, show m.1 (m.2.1 (m.2.1 (s + 26) i) 14 + 3) = V 17 i from funext (rd17 hV (by omega))]
  have hr := fi_r (p := fun k => decide (V 17 i k = ii t)) (k := B i - 1) (j := 1)
  by_cases e : fi (fun k => decide (V 17 i k = ii t)) 1 (B i - 1) = -1
  · rw [if_pos (by rw [e, ii_m1]), decide_eq_false (fun z => z e)]
    rfl
  · rw [if_neg (by rw [ii_m1, ii_eq (by omega) (by omega) (by omega) (by omega)]; exact e), decide_eq_true e]
    rfl
theorem c_activeWay (hS : kS H s) (hp : pS m s) (hV : cv m s = V) {i : Nat} (hi : i < 8) : f_X0_activeWay H (m.2.1 (s + 26) i) m = some (if V 9 i 2 = 2 ∨ V 9 i 2 = 3 then m.2.1 (m.2.1 (s + 26) i) 14 else m.2.1 (m.2.1 (s + 26) i) 13, m) := by
  unfold f_X0_activeWay
  rw [rd9 hV hi]
  by_cases e1 : V 9 i 2 = 2
  · rw [if_pos e1, if_pos (kW_b (pS_wf hS hp hi)), if_pos (Or.inl e1)]
  · rw [if_neg e1]
    by_cases e2 : V 9 i 2 = 3
    · rw [if_pos e2, if_pos (kW_b (pS_wf hS hp hi)), if_pos (Or.inr e2)]
    · rw [if_neg e2, if_pos (kW_b (pS_wo hS hp hi)), if_neg (by rintro (h | h); exact e1 h; exact e2 h)]
theorem c_delayOld (hS : kS H s) (hp : pS m s) (hV : cv m s = V) (hB : vB V N L K P Z A B) {i : Nat} (hi : i < 8) : f_X4_delayOf H (s + 1) (m.2.1 (m.2.1 (s + 26) i) 13) m = some (dlW V L (V 12 i) (A i), m) := by
  have h := hB.2.2.2.2.2.2.1 i hi
  rw [c_delayOf hS hp hV hB (pS_wo hS hp hi) ((rd10 hV hi 0).trans h.1) h.2, show m.1 (m.2.1 (m.2.1 (s + 26) i) 13 + 2) = V 12 i from funext (rd12 hV hi)]
theorem c_delayNew (hS : kS H s) (hp : pS m s) (hV : cv m s = V) (hB : vB V N L K P Z A B) {i : Nat} (hi : i < 8) : f_X4_delayOf H (s + 1) (m.2.1 (m.2.1 (s + 26) i) 14) m = some (dlW V L (V 16 i) (B i), m) := by
  have h := hB.2.2.2.2.2.2.2 i hi
  rw [c_delayOf hS hp hV hB (pS_wf hS hp hi) ((rd14 hV hi 0).trans h.1) h.2, show m.1 (m.2.1 (m.2.1 (s + 26) i) 14 + 2) = V 16 i from funext (rd16 hV hi)]
/-- labels that are held by the old way -/
def hlO (V : VV) (A : Nat → Nat) (i : Nat) : Nat := nc (fun k => decide (V 13 i k ≠ -1)) 1 (A i - 1)
theorem c_heldOld (hS : kS H s) (hp : pS m s) (hV : cv m s = V) (hB : vB V N L K P Z A B) {i : Nat} (hi : i < 8) : f_X10_heldSlots H (m.2.1 (m.2.1 (s + 26) i) 13) m = some (ii (hlO V A i), m) := by
  have h := hB.2.2.2.2.2.2.1 i hi
  rw [c_heldSlots (pS_wo hS hp hi) ((rd10 hV hi 0).trans h.1) h.2, show m.1 (m.2.1 (m.2.1 (s + 26) i) 13 + 3) = V 13 i from funext (rd13 hV hi)]
  rfl
theorem c_ticksUntilMoved (hS : kS H s) (hp : pS m s) (hV : cv m s = V) (hB : vB V N L K P Z A B) {i : Nat} (hi : i < 8) : f_X7_ticksUntilMoved H s (m.2.1 (s + 26) i) m = some (if V 9 i 2 = 1 then V 9 i 10 + 1 + dlW V L (V 12 i) (A i) + ii (hlO V A i) else if V 9 i 2 = 2 then V 9 i 9 + ii (hlO V A i) else if V 9 i 2 = 3 then ii (hlO V A i) else 0, m) := by
  unfold f_X7_ticksUntilMoved
  rw [if_pos (kW_b (pS_wo hS hp hi)), c_heldOld hS hp hV hB hi, fb_n, kS_0 hS, c_delayOld hS hp hV hB hi, fb_n, if_pos (kW_b (pS_wo hS hp hi)), rd9 hV hi, rd9 hV hi, rd9 hV hi]
  simp only [fm_sw]
  have t1 : (V 9 i 2).toInt = 1 ↔ V 9 i 2 = 1 := ii_t (by omega) (by omega)
  have t2 : (V 9 i 2).toInt = 1 + 1 ↔ V 9 i 2 = 2 := ii_t (z := 2) (by omega) (by omega)
  have t3 : (V 9 i 2).toInt = 1 + 1 + 1 ↔ V 9 i 2 = 3 := ii_t (z := 3) (by omega) (by omega)
  by_cases e1 : V 9 i 2 = 1
  · rw [if_pos (t1.mpr e1), if_pos e1]
  · rw [if_neg (fun h => e1 (t1.mp h)), if_neg e1]
    by_cases e2 : V 9 i 2 = 2
    · rw [if_pos (t2.mpr e2), if_pos e2]
    · rw [if_neg (fun h => e2 (t2.mp h)), if_neg e2]
      by_cases e3 : V 9 i 2 = 3
      · rw [if_pos (t3.mpr e3), if_pos e3]
      · rw [if_neg (fun h => e3 (t3.mp h)), if_neg e3]
end
