/-! the reference's array told of the class's numbers -/
/-- space and label of a slot -/
def slR (x y t : Int32) : Prop := (t = -1 ∧ x = -1 ∧ y = -1) ∨ ∃ f l : Nat, f < 10 ∧ l < 12 ∧ t = nn (f * 12 + l) ∧ x = nn f ∧ y = nn l
/-- the way at p, with n nodes, is way c of circuit j -/
def rW (ρ : Nat → Int32) (E : VV) (p n c j : Nat) : Prop := ρ p = nn n ∧ n ≤ 6 ∧ (∀ k, k < n → ρ (p + 1 + k) = E (11 + 4 * c) j k) ∧ ∀ k, k < n → slR (ρ (p + 7 + k)) (ρ (p + 13 + k)) (E (13 + 4 * c) j k)
def mdE (E : VV) (t : Int32) : Int32 := if 0 ≤ t.toInt ∧ t.toInt < 120 then E 7 0 t.toInt.toNat else 0
def rMd (ρ : Nat → Int32) (E : VV) (p n c j : Nat) : Prop := ∀ k, 1 ≤ k → k < n → ρ (p + 19 + k) = mdE E (E (13 + 4 * c) j k)
def stE (E : VV) (j : Nat) : Int32 := if E 9 j 2 = 1 then E 9 j 10 else if E 9 j 2 = 2 then E 9 j 9 else if E 9 j 2 = 3 then ii (clX E j) else 0
/-- where the reference keeps a circuit's number -/
def pk (k : Nat) : Nat := match k with
  | 0 => 0
  | 1 => 1
  | 2 => 2
  | 3 => 5
  | 4 => 6
  | 5 => 7
  | 6 => 8
  | 7 => 9
  | 8 => 4
  | 11 => 11
  | 12 => 10
  | _ => 3
theorem pk_if : ∀ k k' : Fin 13, k.1 ≠ 9 → k.1 ≠ 10 → k'.1 ≠ 9 → k'.1 ≠ 10 → pk k.1 = pk k'.1 → k.1 = k'.1 := by decide
theorem pk_i (k : Nat) (h : k < 13) (k' : Nat) (h' : k' < 13) (h1 : k ≠ 9) (h2 : k ≠ 10) (h3 : k' ≠ 9) (h4 : k' ≠ 10) (e : pk k = pk k') : k = k' := pk_if ⟨k, h⟩ ⟨k', h'⟩ h1 h2 h3 h4 e
theorem pk_lf : ∀ k : Fin 13, k.1 ≠ 9 → k.1 ≠ 10 → pk k.1 < 12 ∧ pk k.1 ≠ 3 := by decide
theorem pk_l (k : Nat) (h : k < 13) (h1 : k ≠ 9) (h2 : k ≠ 10) : pk k < 12 ∧ pk k ≠ 3 := pk_lf ⟨k, h⟩ h1 h2
/-- the numbers of a circuit at p -/
def rC (ρ : Nat → Int32) (E : VV) (p j : Nat) : Prop := ∀ k, k < 13 → k ≠ 9 → k ≠ 10 → ρ (p + pk k) = E 9 j k
def rN (ρ : Nat → Int32) (E : VV) : Prop := ρ 0 = E 0 0 7 ∧ ρ 1 = E 0 0 8 ∧ ρ 2 = E 1 0 0 ∧ ρ 3 = E 1 0 1 ∧ ρ 5 = E 0 0 9 ∧ (∀ k, k < 7 → ρ (7 + k) = E 8 0 k) ∧ (∀ i, i < 10 → ρ (14 + i) = E 4 0 i) ∧ ∀ j, j < eL E → ∀ k, k < 5 → ρ (24 + 5 * j + k) = E 3 j k
/-- a packet's row at p -/
def rQ (ρ : Nat → Int32) (p : Nat) (r : Nat → Int32) : Prop := ρ p = r 0 ∧ ρ (p + 1) = r 1 ∧ ρ (p + 2) = r 3 ∧ ρ (p + 3) = r 4 ∧ slR (ρ (p + 4)) (ρ (p + 5)) (r 5) ∧ ρ (p + 6) = r 6 ∧ ρ (p + 7) = r 2
def rP (ρ : Nat → Int32) (l : List (Nat → Int32)) : Prop := ρ 6 = nn l.length ∧ l.length ≤ 60 ∧ ∀ p r, l[p]? = some r → rQ ρ (632 + 8 * p) r
/-- how long way c of circuit i is -/
def eW (E : VV) (i c : Nat) : Nat := if c = 0 then eA E i else eB E i
/-- K circuits, with ways as long as ln says -/
def rK (ρ : Nat → Int32) (E : VV) (K : Nat) (ln : Nat → Nat → Nat) : Prop := ρ 4 = nn K ∧ K ≤ 8 ∧ ∀ i, i < K → ∀ c, c < 2 → rW ρ E (120 + 66 * i + 25 * c) (ln i c) c i
/-- all but the packets -/
def rB (ρ : Nat → Int32) (E : VV) : Prop := rN ρ E ∧ rK ρ E (eK E) (eW E) ∧ ∀ i, i < eK E → rC ρ E (104 + 66 * i) i ∧ ρ (107 + 66 * i) = stE E i ∧ ∀ c, c < 2 → rMd ρ E (120 + 66 * i + 25 * c) (eW E i c) c i
def rAll (ρ : Nat → Int32) (E : VV) (l : List (Nat → Int32)) : Prop := rB ρ E ∧ rP ρ l
/-- the link between two nodes, -1 without one -/
def lkE (E : VV) (x y : Int32) : Int := fi (fun j => decide ((E 3 j 0 = x ∧ E 3 j 1 = y) ∨ (E 3 j 0 = y ∧ E 3 j 1 = x))) 0 (eL E)
theorem fi_m1 {p : Nat → Bool} : ∀ {k j : Nat}, fi p j k = -1 ↔ ∀ i, j ≤ i → i < j + k → p i = false := by
  intro k
  induction k with
  | zero => exact fun {j} => ⟨fun _ i h1 h2 => by omega, fun _ => rfl⟩
  | succ k ih =>
    intro j
    cases e : p j with
    | true =>
      rw [fi_t e]
      exact ⟨fun h => by omega, fun h => by rw [h j (by omega) (by omega)] at e; cases e⟩
    | false =>
      rw [fi_f e, ih]
      exact ⟨fun h i h1 h2 => by
        by_cases q : i = j
        · rw [q, e]
        · exact h i (by omega) (by omega), fun h i h1 h2 => h i (by omega) (by omega)⟩
/-- where the first one lies -/
theorem fi_is {p : Nat → Bool} : ∀ {k j t : Nat}, fi p j k = t → j ≤ t ∧ t < j + k ∧ p t = true ∧ ∀ i, j ≤ i → i < t → p i = false := by
  intro k
  induction k with
  | zero => intro j t h; unfold fi at h; omega
  | succ k ih =>
    intro j t h
    cases e : p j with
    | true =>
      rw [fi_t e] at h
      have : j = t := by omega
      subst this
      exact ⟨by omega, by omega, e, fun i h1 h2 => by omega⟩
    | false =>
      rw [fi_f e] at h
      obtain ⟨h1, h2, h3, h4⟩ := ih h
      exact ⟨by omega, by omega, h3, fun i a1 a2 => by
        by_cases q : i = j
        · rw [q, e]
        · exact h4 i (by omega) a2⟩
theorem fi_eq {p : Nat → Bool} {k j t : Nat} (h1 : j ≤ t) (h2 : t < j + k) (h3 : p t = true) (h4 : ∀ i, j ≤ i → i < t → p i = false) : fi p j k = t := by
  rcases fi_r (p := p) (k := k) (j := j) with h | h
  · rw [fi_m1.mp h t h1 h2] at h3
    cases h3
  · obtain ⟨u, hu⟩ : ∃ u : Nat, fi p j k = u := ⟨(fi p j k).toNat, by omega⟩
    obtain ⟨a1, a2, a3, a4⟩ := fi_is hu
    rw [hu]
    by_cases q : u < t
    · rw [h4 u a1 q] at a3; cases a3
    · by_cases q2 : t < u
      · rw [a4 t h1 q2] at h3; cases h3
      · omega
theorem lkR_E {ρ : Nat → Int32} {E : VV} (h : rN ρ E) (x y : Int32) : lkR ρ (eL E) x y = lkE E x y := by
  unfold lkR lkE
  refine fi_c (fun j _ h2 => ?_)
  have h9 := h.2.2.2.2.2.2.2 j (by omega)
  rw [← h9 0 (by omega), ← h9 1 (by omega)]
  rfl
theorem rN_3 {ρ : Nat → Int32} {E : VV} (h : rN ρ E) (hG : vG E) : ρ 3 = nn (eL E) ∧ eL E ≤ 16 := by
  refine ⟨h.2.2.2.1.trans hG.2.1, hG.2.2.2.2.1.2.1⟩
theorem rN_2 {ρ : Nat → Int32} {E : VV} (h : rN ρ E) (hG : vG E) : ρ 2 = nn (eN E) ∧ eN E ≤ 10 := ⟨h.2.2.1.trans hG.1, hG.2.2.2.2.1.1⟩
theorem nn_inc (a : Nat) : nn a + 1 = nn (a + 1) := by
  rw [nl_1, nn_add]
theorem nn_e {a b : Nat} (h1 : a < 1000000) (h2 : b < 1000000) (h : nn a = nn b) : a = b := (nn_eq (by omega) (by omega)).mp h
theorem nn_t {a : Nat} (h : a < 1000000) : (nn a).toInt = a := ii_toInt (by omega) (by omega)
/-- without the packet at p of n -/
def rmR (ρ : Nat → Int32) (p n : Nat) : Nat → Int32 := fun k => if k = 6 then nn (n - 1) else if 632 + 8 * p ≤ k ∧ k < 632 + 8 * (n - 1) then ρ (k + 8) else ρ k
section
variable {H : fm_H} {b : Nat} {m : fm_M}
theorem rI_u {m0 : fm_M} {r0 : Nat → Int32} {k : Nat} {x : Int32} (h0 : rI b m m0 r0) : rI b m (fm_si m0 (b + 1) k x) (pm_up r0 k x) :=
  ⟨by rw [si_row, h0.1], fR_tr h0.2 ⟨fun a j h1 _ _ => fm_up_o (fun z => h1 z.1), rfl⟩⟩
end
