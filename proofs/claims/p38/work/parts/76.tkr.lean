/-! the reference finds labels -/
theorem tk_ld {V : VV} {N : Nat} {Z : Nat → Nat} {f : Nat} : ∀ {k j : Nat} {b : Int} {mo : Nat}, ld V N Z f j k b mo = b ∨ ∃ i : Nat, ld V N Z f j k b mo = i ∧ j ≤ i ∧ i < j + k ∧ 0 < fe V N Z f i
  | 0, _, _, _ => Or.inl rfl
  | k + 1, j, b, mo => by
    unfold ld
    by_cases e : mo < fe V N Z f j
    · rw [if_pos e]
      rcases tk_ld (V := V) (N := N) (Z := Z) (f := f) (k := k) (j := j + 1) (b := j) (mo := fe V N Z f j) with h | ⟨i, h1, h2, h3, h4⟩
      · exact Or.inr ⟨j, h, by omega, by omega, by omega⟩
      · exact Or.inr ⟨i, h1, by omega, by omega, h4⟩
    · rw [if_neg e]
      rcases tk_ld (V := V) (N := N) (Z := Z) (f := f) (k := k) (j := j + 1) (b := b) (mo := mo) with h | ⟨i, h1, h2, h3, h4⟩
      · exact Or.inl h
      · exact Or.inr ⟨i, h1, by omega, by omega, h4⟩
theorem li_nc {p : Nat → Bool} : ∀ {z : Nat}, 0 < nc p 0 z → li p z ≠ -1 := by
  intro z
  induction z with
  | zero => intro h; unfold nc at h; omega
  | succ z ih =>
    intro h
    unfold li
    by_cases e : p z = true
    · rw [if_pos e]; omega
    · rw [if_neg e]
      refine ih ?_
      have : nc p 0 (z + 1) = nc p 0 z := nc_cut (by omega) (fun i h1 h2 => by
        have : i = z := by omega
        rw [this]
        exact Bool.not_eq_true _ ▸ e)
      omega
/-- links between nodes are found where they are noted -/
def iB (E : VV) : Prop := ∀ x y, x < 10 → y < 10 → E 2 0 (x * 10 + y) = ii (lkE E (nn x) (nn y))
theorem lbV_lk {E : VV} (hB : iB E) (hL : eL E ≤ 16) {x y : Nat} (hx : x < eN E) (hy : y < eN E) (hN : eN E ≤ 10) : (lbV E (eN E) x y = -1 ↔ lkE E (nn x) (nn y) = -1) ∧ lbV E (eN E) x y = ii (lkE E (nn x) (nn y)) := by
  have e : lbV E (eN E) x y = ii (lkE E (nn x) (nn y)) := by
    unfold lbV
    rw [if_pos ⟨by omega, by omega, by omega, by omega⟩, show ((x : Int) * 10 + (y : Int)).toNat = x * 10 + y from by omega]
    exact hB x y (by omega) (by omega)
  refine ⟨?_, e⟩
  rw [e, ii_m1]
  by_cases h : lkE E (nn x) (nn y) = -1
  · rw [h]
    exact ⟨fun _ => rfl, fun _ => rfl⟩
  · obtain ⟨j, hj, ej⟩ := lkE_r h
    rw [ej, ii_eq (by omega) (by omega) (by omega) (by omega)]
