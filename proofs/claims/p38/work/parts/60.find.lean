/-! who has a label: the reference's search, the class's table -/
/-- the table: a label that a way has is its node's and circuit's; each one that somebody has is some way's, once; each lies in its space -/
def iT (E : VV) (K : Nat) (ln : Nat → Nat → Nat) : Prop :=
  (∀ i c k t, i < K → c < 2 → 1 ≤ k → k < ln i c → t < 120 → E (13 + 4 * c) i k = nn t → E 5 0 t = E (11 + 4 * c) i k ∧ E 6 0 t = nn i ∧ E 5 0 t ≠ -1) ∧
  (∀ t, t < 120 → E 5 0 t ≠ -1 → ∃ i c k, i < K ∧ c < 2 ∧ 1 ≤ k ∧ k < ln i c ∧ E (13 + 4 * c) i k = nn t) ∧
  (∀ i c k c' k' t, i < K → c < 2 → c' < 2 → 1 ≤ k → k < ln i c → 1 ≤ k' → k' < ln i c' → t < 120 → E (13 + 4 * c) i k = nn t → E (13 + 4 * c') i k' = nn t → c = c' ∧ k = k')
theorem slR_m {x y s : Int32} {f l : Nat} (h : slR x y s) (hf : f < 10) (hl : l < 12) : (x = nn f ∧ y = nn l) ↔ s = nn (f * 12 + l) := by
  rcases h with ⟨h1, h2, h3⟩ | ⟨f', l', h1, h2, h3, h4, h5⟩
  · subst h1 h2
    exact ⟨fun z => absurd z.1.symm (nn_m1 (by omega)), fun z => absurd z.symm (nn_m1 (by omega))⟩
  · subst h3 h4 h5
    rw [nn_eq (by omega) (by omega), nn_eq (by omega) (by omega), nn_eq (by omega) (by omega)]
    omega
def fdM (m : fm_M) (b i c k : Nat) : fm_M := fm_si (fm_si (fm_si m b 18 (nn i)) b 19 (nn c)) b 20 (nn k)
section
variable {H : fm_H} {b : Nat} {m : fm_M}
theorem fdM_R {i c k : Nat} : fR b m (fdM m b i c k) := by
  refine ⟨fun a j _ h2 _ => ?_, rfl⟩
  unfold fdM
  show fm_up _ _ _ _ _ _ = _
  rw [fm_up_o (by omega)]
  show fm_up _ _ _ _ _ _ = _
  rw [fm_up_o (by omega)]
  show fm_up _ _ _ _ _ _ = _
  rw [fm_up_o (by omega)]
theorem fdM_r {i c k : Nat} : (fdM m b i c k).1 (b + 1) = m.1 (b + 1) := by
  unfold fdM
  rw [si_oth (by omega), si_oth (by omega), si_oth (by omega)]
theorem fdM_18 {i c k : Nat} : (fdM m b i c k).1 b 18 = nn i := by
  unfold fdM
  rw [si_row, up_at, if_neg (by decide), si_row, up_at, if_neg (by decide), si_row, up_at, if_pos rfl]
theorem fdM_19 {i c k : Nat} : (fdM m b i c k).1 b 19 = nn c := by
  unfold fdM
  rw [si_row, up_at, if_neg (by decide), si_row, up_at, if_pos rfl]
theorem fdM_20 {i c k : Nat} : (fdM m b i c k).1 b 20 = nn k := by
  unfold fdM
  rw [si_row, up_at, if_pos rfl]
end
