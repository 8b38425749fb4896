/-! the weakest link: what is counted -/
theorem nc_ap {p : Nat → Bool} : ∀ {n a : Nat}, nc p a (n + 1) = nc p a n + (if p (a + n) = true then 1 else 0) := by
  intro n
  induction n with
  | zero => intro a; show (if p a = true then 1 else 0) + 0 = 0 + _; rw [Nat.add_zero, Nat.zero_add, Nat.add_zero]
  | succ n ih =>
    intro a
    show (if p a = true then 1 else 0) + nc p (a + 1) (n + 1) = ((if p a = true then 1 else 0) + nc p (a + 1) n) + _
    rw [ih, show a + 1 + n = a + (n + 1) by omega]
    exact (Nat.add_assoc _ _ _).symm
theorem nc_1 {p : Nat → Bool} : ∀ {n a : Nat}, (∀ i j, a ≤ i → i < a + n → a ≤ j → j < a + n → p i = true → p j = true → i = j) → nc p a n = if ny p a n = true then 1 else 0 := by
  intro n
  induction n with
  | zero => exact fun _ => rfl
  | succ n ih =>
    intro a h
    show (if p a = true then 1 else 0) + nc p (a + 1) n = if (p a || ny p (a + 1) n) = true then 1 else 0
    cases e : p a with
    | true =>
      rw [if_pos rfl, Bool.true_or, if_pos rfl, nc_z (fun i i1 i2 => by
        cases e2 : p i with
        | false => rfl
        | true =>
          have := h a i (by omega) (by omega) (by omega) (by omega) e e2
          omega)]
    | false =>
      rw [if_neg (by decide), Bool.false_or, Nat.zero_add]
      exact ih (fun i j i1 i2 j1 j2 => h i j (by omega) (by omega) (by omega) (by omega))
/-- which way is the active one -/
def acE (E : VV) (i : Nat) : Nat := if E 9 i 2 = 2 ∨ E 9 i 2 = 3 then 1 else 0
theorem acE_2 {E : VV} {i : Nat} : acE E i < 2 := by
  unfold acE
  split <;> omega
/-- without this link circuit i has no way -/
def cutE (E : VV) (i j : Nat) : Bool := ny (fun k => decide (E (12 + 4 * acE E i) i k = nn j)) 1 (eW E i (acE E i) - 1) && decide ((bcE E i (nn j)).1 = 0)
def ctE (E : VV) (j : Nat) : Nat := nc (fun i => cutE E i j) 0 (eK E)
/-- the first of the greatest -/
def mx (f : Nat → Nat) : Nat → Nat → Int → Nat → Int
  | _, 0, w, _ => w
  | j, k + 1, w, mo => if f j ≤ mo then mx f (j + 1) k w mo else mx f (j + 1) k j (f j)
theorem mx_z {f : Nat → Nat} {w : Int} {mo : Nat} : ∀ {k j : Nat}, (∀ i, j ≤ i → i < j + k → f i = 0) → mx f j k w mo = w := by
  intro k
  induction k with
  | zero => exact fun _ => rfl
  | succ k ih =>
    intro j h
    show (if f j ≤ mo then mx f (j + 1) k w mo else mx f (j + 1) k j (f j)) = w
    rw [if_pos (by rw [h j (by omega) (by omega)]; omega)]
    exact ih (fun i i1 i2 => h i (by omega) (by omega))
theorem mx_e {f : Nat → Nat} {r : Nat} : ∀ {k j : Nat} {w : Int} {mo : Nat}, (∀ i, j + k ≤ i → i < j + k + r → f i = 0) → mx f j (k + r) w mo = mx f j k w mo := by
  intro k
  induction k with
  | zero =>
    intro j w mo h
    rw [Nat.zero_add]
    exact mx_z (fun i i1 i2 => h i (by omega) (by omega))
  | succ k ih =>
    intro j w mo h
    rw [show k + 1 + r = (k + r) + 1 by omega]
    show (if f j ≤ mo then mx f (j + 1) (k + r) w mo else mx f (j + 1) (k + r) j (f j)) = (if f j ≤ mo then mx f (j + 1) k w mo else mx f (j + 1) k j (f j))
    rw [ih (fun i i1 i2 => h i (by omega) (by omega)), ih (fun i i1 i2 => h i (by omega) (by omega))]
theorem mx_c {f g : Nat → Nat} : ∀ {k j : Nat} {w : Int} {mo : Nat}, (∀ i, j ≤ i → i < j + k → f i = g i) → mx f j k w mo = mx g j k w mo := by
  intro k
  induction k with
  | zero => exact fun _ => rfl
  | succ k ih =>
    intro j w mo h
    show (if f j ≤ mo then mx f (j + 1) k w mo else mx f (j + 1) k j (f j)) = (if g j ≤ mo then mx g (j + 1) k w mo else mx g (j + 1) k j (g j))
    rw [h j (by omega) (by omega), ih (fun i i1 i2 => h i (by omega) (by omega)), ih (fun i i1 i2 => h i (by omega) (by omega))]
/-- a link of a way is one of the net's, and stands there once -/
theorem wl_r {E : VV} {i c n k : Nat} (hY : iWy E i c n) (k1 : 1 ≤ k) (k2 : k < n) : ∃ y, y < eL E ∧ E (12 + 4 * c) i k = nn y ∧ lkE E (E (11 + 4 * c) i (k - 1)) (E (11 + 4 * c) i k) = (y : Nat) := by
  obtain ⟨a1, a2⟩ := hY.2.1 k k1 k2
  obtain ⟨y, y1, y2⟩ := lkE_r a2
  exact ⟨y, y1, by rw [a1, y2]; rfl, y2⟩
theorem wl_1 {E : VV} {i c n y : Nat} (hY : iWy E i c n) (h16 : eL E ≤ 16) (hy : y < 16) : ∀ k k', 1 ≤ k → k < 1 + (n - 1) → 1 ≤ k' → k' < 1 + (n - 1) → decide (E (12 + 4 * c) i k = nn y) = true → decide (E (12 + 4 * c) i k' = nn y) = true → k = k' := by
  intro k k' k1 k2 k1' k2' e e'
  obtain ⟨z, z1, z2, z3⟩ := wl_r hY k1 (show k < n by omega)
  obtain ⟨z', z1', z2', z3'⟩ := wl_r hY k1' (show k' < n by omega)
  have ez : z = y := nn_e (by omega) (by omega) (z2.symm.trans (of_decide_eq_true e))
  have ez' : z' = y := nn_e (by omega) (by omega) (z2'.symm.trans (of_decide_eq_true e'))
  subst ez
  subst ez'
  have q := of_decide_eq_true (fi_is (p := fun j => decide ((E 3 j 0 = E (11 + 4 * c) i (k - 1) ∧ E 3 j 1 = E (11 + 4 * c) i k) ∨ (E 3 j 0 = E (11 + 4 * c) i k ∧ E 3 j 1 = E (11 + 4 * c) i (k - 1)))) (k := eL E) (j := 0) z3).2.2.1
  have q' := of_decide_eq_true (fi_is (p := fun j => decide ((E 3 j 0 = E (11 + 4 * c) i (k' - 1) ∧ E 3 j 1 = E (11 + 4 * c) i k') ∨ (E 3 j 0 = E (11 + 4 * c) i k' ∧ E 3 j 1 = E (11 + 4 * c) i (k' - 1)))) (k := eL E) (j := 0) z3').2.2.1
  have inj := hY.2.2
  rcases q with ⟨u1, u2⟩ | ⟨u1, u2⟩ <;> rcases q' with ⟨u1', u2'⟩ | ⟨u1', u2'⟩
  · have := inj k k' (by omega) (by omega) (u2.symm.trans u2')
    exact this
  · have a := inj (k - 1) k' (by omega) (by omega) (u1.symm.trans u1')
    have b := inj k (k' - 1) (by omega) (by omega) (u2.symm.trans u2')
    omega
  · have a := inj (k - 1) k' (by omega) (by omega) (u2.symm.trans u2')
    have b := inj k (k' - 1) (by omega) (by omega) (u1.symm.trans u1')
    omega
  · exact inj k k' (by omega) (by omega) (u1.symm.trans u1')
/-- links behind the last count nothing -/
theorem ct_z {E : VV} (hX : iX E) (h16 : eL E ≤ 16) {j : Nat} (h1 : eL E ≤ j) (h2 : j < 16) : ctE E j = 0 := by
  unfold ctE
  refine nc_z (fun i _ hi => ?_)
  unfold cutE
  have : ny (fun k => decide (E (12 + 4 * acE E i) i k = nn j)) 1 (eW E i (acE E i) - 1) = false := by
    cases e : ny (fun k => decide (E (12 + 4 * acE E i) i k = nn j)) 1 (eW E i (acE E i) - 1) with
    | false => rfl
    | true =>
      obtain ⟨k, k1, k2, k3⟩ := ny_iff.mp e
      obtain ⟨y, y1, y2, -⟩ := wl_r (hX.2.2 i (by omega) (acE E i) acE_2).1 k1 (show k < eW E i (acE E i) by omega)
      have := nn_e (by omega) (by omega) (y2.symm.trans (of_decide_eq_true k3))
      omega
  rw [this, Bool.false_and]
/-- both ways have the same ends -/
theorem ac_end {E : VV} (hI1 : iX E) (hG : vG E) (hN : iN E) {i : Nat} (hi : i < eK E) (hQ : iQ E i 0) : 2 ≤ eW E i (acE E i) ∧ E (11 + 4 * acE E i) i 0 = nn (f0E E i) ∧ E (11 + 4 * acE E i) i (eW E i (acE E i) - 1) = nn (t0E E i) := by
  obtain ⟨n1, n2, n3, n4, n5⟩ := ends_E hI1 hG hi hQ.1
  unfold acE
  by_cases z : E 9 i 2 = 2 ∨ E 9 i 2 = 3
  · rw [if_pos z]
    have hB : 2 ≤ eB E i := by
      rcases hQ.2.2.2.2 with h | h | h | h
      · rcases z with z | z <;> rw [h.1] at z <;> exact absurd z (by decide)
      · exact h.2.1
      · exact h.2.1
      · exact h.2.1
    obtain ⟨p1, p2⟩ := hN i hi (by omega)
    exact ⟨hB, p1.trans n1, p2.trans n2⟩
  · rw [if_neg z]
    exact ⟨hQ.1, n1, n2⟩
