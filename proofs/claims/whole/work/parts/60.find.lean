/-! who has a label: the reference's search, the class's table -/
/-- the table: a label that a way has is its node's and circuit's; each one that somebody has is some way's, once; each lies in its space -/
def iT (E : VV) (K : Nat) (ln : Nat → Nat → Nat) : Prop :=
  (∀ i c k t, i < K → c < 2 → 1 ≤ k → k < ln i c → t < 120 → E (13 + 4 * c) i k = nn t → E 5 0 t = E (11 + 4 * c) i k ∧ E 6 0 t = nn i ∧ E 5 0 t ≠ -1) ∧
  (∀ t, t < 120 → E 5 0 t ≠ -1 → ∃ i c k, i < K ∧ c < 2 ∧ 1 ≤ k ∧ k < ln i c ∧ E (13 + 4 * c) i k = nn t) ∧
  (∀ i c k c' k' t, i < K → c < 2 → c' < 2 → 1 ≤ k → k < ln i c → 1 ≤ k' → k' < ln i c' → t < 120 → E (13 + 4 * c) i k = nn t → E (13 + 4 * c') i k' = nn t → c = c' ∧ k = k')
theorem slR_m {x y s : Int32} {f l : Nat} (h : slR x y s) (hf : f < 10) (hl : l < 12) : (x = nn f ∧ y = nn l) ↔ s = nn (f * 12 + l) := by
  rcases h with ⟨h1, h2, h3⟩ | ⟨f', l', h1, h2, h3, h4, h5⟩
  · subst h1 h2
    exact ⟨fun z => absurd z.1.symm (nn_m1 (by omega)), fun z => absurd z.symm (nn_m1 (by omega))⟩
  · subst h3 h4 h5
    rw [nn_eq (by omega) (by omega), nn_eq (by omega) (by omega), nn_eq (by omega) (by omega)]
    omega
def fdM (m : fm_M) (b i c k : Nat) : fm_M := fm_si (fm_si (fm_si m b 18 (nn i)) b 19 (nn c)) b 20 (nn k)
section
variable {H : fm_H} {b : Nat} {m : fm_M}
theorem fdM_R {i c k : Nat} : fR b m (fdM m b i c k) := by
  refine ⟨fun a j _ h2 _ => ?_, rfl⟩
  unfold fdM
  show fm_up _ _ _ _ _ _ = _
  rw [fm_up_o (by omega)]
  show fm_up _ _ _ _ _ _ = _
  rw [fm_up_o (by omega)]
  show fm_up _ _ _ _ _ _ = _
  rw [fm_up_o (by omega)]
theorem fdM_r {i c k : Nat} : (fdM m b i c k).1 (b + 1) = m.1 (b + 1) := by
  unfold fdM
  rw [si_oth (by omega), si_oth (by omega), si_oth (by omega)]
theorem fdM_18 {i c k : Nat} : (fdM m b i c k).1 b 18 = nn i := by
  unfold fdM
  rw [si_row, up_at, if_neg (by decide), si_row, up_at, if_neg (by decide), si_row, up_at, if_pos rfl]
theorem fdM_19 {i c k : Nat} : (fdM m b i c k).1 b 19 = nn c := by
  unfold fdM
  rw [si_row, up_at, if_neg (by decide), si_row, up_at, if_pos rfl]
theorem fdM_20 {i c k : Nat} : (fdM m b i c k).1 b 20 = nn k := by
  unfold fdM
  rw [si_row, up_at, if_pos rfl]
theorem r_find_32 (hM : kM H b) {ρ : Nat → Int32} (hr : m.1 (b + 1) = ρ) {k2 k15 : Int32 → fm_M → Option (Int32 × fm_M)} {x y : Int32} {i c p n : Nat} (hp : p < 1000) (hn : ρ p = nn n) (h6 : n ≤ 6) : ∀ (k q j : Nat), j + k = n ∨ (k = 0 ∧ n ≤ j) → k < q → j < 100 → (∃ t, j ≤ t ∧ t < n ∧ ρ (p + 7 + t) = x ∧ ρ (p + 13 + t) = y ∧ f_X12_findHolder_32 H k2 k15 b x y (nn i) (nn c) (nn p) q (nn j) m = some (1, fdM m b i c t)) ∨ ((∀ t, j ≤ t → t < n → ¬ (ρ (p + 7 + t) = x ∧ ρ (p + 13 + t) = y)) ∧ f_X12_findHolder_32 H k2 k15 b x y (nn i) (nn c) (nn p) q (nn j) m = k15 (nn (c + 1)) m) := by
  intro k
  induction k with
  | zero =>
    intro q j h1 h2 h3
    obtain ⟨q, rfl⟩ : ∃ q', q = q' + 1 := ⟨q - 1, by omega⟩
    refine Or.inr ⟨fun t a1 a2 => by omega, ?_⟩
    unfold f_X12_findHolder_32
    simp (disch := omega) only [kM_0 hM, kM_z1 hM, hr, nn_tn, nn_in, hn, nn_le, if_pos, nl_1, nn_add]
  | succ k ih =>
    intro q j h1 h2 h3
    obtain ⟨q, rfl⟩ : ∃ q', q = q' + 1 := ⟨q - 1, by omega⟩
    unfold f_X12_findHolder_32
    simp (disch := omega) only [kM_0 hM, kM_z1 hM, hr, nn_tn, nn_in, hn, nn_le, if_pos, if_neg, nl_1, nl_7, nl_13, nn_add]
    by_cases e : ρ (p + 7 + j) = x ∧ ρ (p + 13 + j) = y
    · refine Or.inl ⟨j, by omega, by omega, e.1, e.2, ?_⟩
      rw [if_pos e.1, if_pos e.2]
      rfl
    · have h9 : (if ρ (p + 7 + j) = x then if ρ (p + 13 + j) = y then
          fm_bd (fm_si m b 18 (nn i)) fun m1 => fm_bd (fm_si m1 b 19 (nn c)) fun m2 => fm_bd (fm_si m2 b 20 (nn j)) fun m3 => some (nn 1, m3)
        else f_X12_findHolder_32 H k2 k15 b x y (nn i) (nn c) (nn p) q (nn (j + 1)) m
        else f_X12_findHolder_32 H k2 k15 b x y (nn i) (nn c) (nn p) q (nn (j + 1)) m) = f_X12_findHolder_32 H k2 k15 b x y (nn i) (nn c) (nn p) q (nn (j + 1)) m := by
        by_cases e1 : ρ (p + 7 + j) = x
        · rw [if_pos e1, if_neg (fun z => e ⟨e1, z⟩)]
        · rw [if_neg e1]
      rw [h9]
      rcases ih q (j + 1) (by omega) (by omega) (by omega) with ⟨t, a1, a2, a3, a4, a5⟩ | ⟨a1, a2⟩
      · exact Or.inl ⟨t, by omega, a2, a3, a4, a5⟩
      · refine Or.inr ⟨fun t b1 b2 => ?_, a2⟩
        by_cases q2 : t = j
        · rw [q2]; exact e
        · exact a1 t (by omega) b2
theorem r_find_15 (hM : kM H b) {ρ : Nat → Int32} (hr : m.1 (b + 1) = ρ) {k2 : Int32 → fm_M → Option (Int32 × fm_M)} {x y : Int32} {i : Nat} {ln : Nat → Nat} (hp : i < 8) (hn : ∀ c, c < 2 → ρ (120 + 66 * i + 25 * c) = nn (ln c) ∧ ln c ≤ 6) : ∀ (k q c : Nat), c + k = 2 → k < q → (∃ c' t, c ≤ c' ∧ c' < 2 ∧ 1 ≤ t ∧ t < ln c' ∧ ρ (120 + 66 * i + 25 * c' + 7 + t) = x ∧ ρ (120 + 66 * i + 25 * c' + 13 + t) = y ∧ f_X12_findHolder_15 H k2 b x y (nn i) q (nn c) m = some (1, fdM m b i c' t)) ∨ ((∀ c' t, c ≤ c' → c' < 2 → 1 ≤ t → t < ln c' → ¬ (ρ (120 + 66 * i + 25 * c' + 7 + t) = x ∧ ρ (120 + 66 * i + 25 * c' + 13 + t) = y)) ∧ f_X12_findHolder_15 H k2 b x y (nn i) q (nn c) m = k2 (nn (i + 1)) m) := by
  intro k
  induction k with
  | zero =>
    intro q c h1 h2
    obtain ⟨q, rfl⟩ : ∃ q', q = q' + 1 := ⟨q - 1, by omega⟩
    refine Or.inr ⟨fun c' t a1 a2 => by omega, ?_⟩
    unfold f_X12_findHolder_15
    simp (disch := omega) only [nl_2, nl_1, nn_le, if_pos, nn_add]
  | succ k ih =>
    intro q c h1 h2
    obtain ⟨q, rfl⟩ : ∃ q', q = q' + 1 := ⟨q - 1, by omega⟩
    unfold f_X12_findHolder_15
    simp (disch := omega) only [nl_2, nl_1, nn_le, if_neg, r_wayPlace, fb_n]
    have hc := hn c (by omega)
    rcases r_find_32 hM hr (k2 := k2) (k15 := f_X12_findHolder_15 H k2 b x y (nn i) q) (x := x) (y := y) (i := i) (c := c) (p := 120 + 66 * i + 25 * c) (by omega) hc.1 hc.2 (ln c - 1) fm_N 1 (by omega) (by unfold fm_N; omega) (by omega) with ⟨t, a1, a2, a3, a4, a5⟩ | ⟨a1, a2⟩
    · exact Or.inl ⟨c, t, by omega, by omega, a1, a2, a3, a4, a5⟩
    · rw [a2]
      rcases ih q (c + 1) (by omega) (by omega) with ⟨c', t, b1, b2, b3, b4, b5, b6, b7⟩ | ⟨b1, b2⟩
      · exact Or.inl ⟨c', t, by omega, b2, b3, b4, b5, b6, b7⟩
      · refine Or.inr ⟨fun c' t d1 d2 d3 d4 => ?_, b2⟩
        by_cases e : c' = c
        · subst e; exact a1 t d3 d4
        · exact b1 c' t (by omega) d2 d3 d4
theorem r_find_2 (hM : kM H b) {ρ : Nat → Int32} (hr : m.1 (b + 1) = ρ) {x y : Int32} {K : Nat} {ln : Nat → Nat → Nat} (h4 : ρ 4 = nn K) (hK : K ≤ 8) (hn : ∀ i, i < K → ∀ c, c < 2 → ρ (120 + 66 * i + 25 * c) = nn (ln i c) ∧ ln i c ≤ 6) : ∀ (k q i : Nat), i + k = K → k < q → (∃ i' c' t, i ≤ i' ∧ i' < K ∧ c' < 2 ∧ 1 ≤ t ∧ t < ln i' c' ∧ ρ (120 + 66 * i' + 25 * c' + 7 + t) = x ∧ ρ (120 + 66 * i' + 25 * c' + 13 + t) = y ∧ f_X12_findHolder_2 H b x y q (nn i) m = some (1, fdM m b i' c' t)) ∨ ((∀ i' c' t, i ≤ i' → i' < K → c' < 2 → 1 ≤ t → t < ln i' c' → ¬ (ρ (120 + 66 * i' + 25 * c' + 7 + t) = x ∧ ρ (120 + 66 * i' + 25 * c' + 13 + t) = y)) ∧ f_X12_findHolder_2 H b x y q (nn i) m = some (0, m)) := by
  intro k
  induction k with
  | zero =>
    intro q i h1 h2
    obtain ⟨q, rfl⟩ : ∃ q', q = q' + 1 := ⟨q - 1, by omega⟩
    refine Or.inr ⟨fun i' c' t a1 a2 => by omega, ?_⟩
    unfold f_X12_findHolder_2
    simp (disch := omega) only [kM_0 hM, kM_z1 hM, hr, nl_4, nn_tn, nn_in, h4, nn_le, if_pos]
  | succ k ih =>
    intro q i h1 h2
    obtain ⟨q, rfl⟩ : ∃ q', q = q' + 1 := ⟨q - 1, by omega⟩
    unfold f_X12_findHolder_2
    simp (disch := omega) only [kM_0 hM, kM_z1 hM, hr, nl_4, nn_tn, nn_in, h4, nn_le, if_pos, if_neg]
    rw [nl_0]
    rcases r_find_15 hM hr (k2 := f_X12_findHolder_2 H b x y q) (x := x) (y := y) (i := i) (ln := ln i) (by omega) (hn i (by omega)) 2 fm_N 0 (by omega) (by unfold fm_N; omega) with ⟨c', t, b1, b2, b3, b4, b5, b6, b7⟩ | ⟨b1, b2⟩
    · exact Or.inl ⟨i, c', t, by omega, by omega, b2, b3, b4, b5, b6, b7⟩
    · rw [b2, ← nl_0]
      rcases ih q (i + 1) (by omega) (by omega) with ⟨i', c', t, d0, d1, d2, d3, d4, d5, d6, d7⟩ | ⟨d1, d2⟩
      · exact Or.inl ⟨i', c', t, by omega, d1, d2, d3, d4, d5, d6, d7⟩
      · refine Or.inr ⟨fun i' c' t z1 z2 z3 z4 z5 => ?_, d2⟩
        by_cases e : i' = i
        · subst e; exact b1 c' t (by omega) z3 z4 z5
        · exact d1 i' c' t (by omega) z2 z3 z4 z5
/-- the search finds whom the table names -/
theorem r_findHolder (hM : kM H b) {ρ : Nat → Int32} (hr : m.1 (b + 1) = ρ) {E : VV} {K : Nat} {ln : Nat → Nat → Nat} (hK : rK ρ E K ln) (hT : iT E K ln) {f l : Nat} (hf : f < 10) (hl : l < 12) :
    (E 5 0 (f * 12 + l) = -1 ∧ f_X12_findHolder H b (nn f) (nn l) m = some (0, m)) ∨ (E 5 0 (f * 12 + l) ≠ -1 ∧ ∃ i c k, i < K ∧ c < 2 ∧ 1 ≤ k ∧ k < ln i c ∧ E (13 + 4 * c) i k = nn (f * 12 + l) ∧ f_X12_findHolder H b (nn f) (nn l) m = some (1, fdM m b i c k)) := by
  obtain ⟨k1, k2, k3⟩ := hK
  unfold f_X12_findHolder
  rw [nl_0]
  rcases r_find_2 hM hr (x := nn f) (y := nn l) (ln := ln) k1 k2 (fun i hi c hc => ⟨(k3 i hi c hc).1, (k3 i hi c hc).2.1⟩) K fm_N 0 (by omega) (by unfold fm_N; omega) with ⟨i, c, t, d0, d1, d2, d3, d4, d5, d6, d7⟩ | ⟨d1, d2⟩
  · have e := (slR_m ((k3 i d1 c d2).2.2.2 t d4) hf hl).mp ⟨d5, d6⟩
    exact Or.inr ⟨(hT.1 i c t _ d1 d2 d3 d4 (by omega) e).2.2, i, c, t, d1, d2, d3, d4, e, d7⟩
  · refine Or.inl ⟨?_, d2⟩
    by_cases e : E 5 0 (f * 12 + l) = -1
    · exact e
    · obtain ⟨i, c, k, a1, a2, a3, a4, a5⟩ := hT.2.1 _ (by omega) e
      exact absurd ((slR_m ((k3 i a1 c a2).2.2.2 k a4) hf hl).mpr a5) (d1 i c k (by omega) a1 a2 a3 a4)
end
