/-! the reference counts labels -/
/-- does a place count -/
def cn (ρ : Nat → Int32) (v1 v2 : Int32) (p k : Nat) : Bool :=
  if v2 = 0 then decide (ρ (p + 1 + k) = v1) && decide (ρ (p + 7 + k) = v1)
  else if v2 = 1 then decide (ρ (p + 1 + k) = v1) && (decide (ρ (p + 7 + k) ≠ v1) && decide (ρ (p + 7 + k) ≠ -1))
  else if v2 = 2 then decide (ρ (p + 1 + k) = v1) && (decide (ρ (p + 7 + k) ≠ -1) && decide (ρ (p + 19 + k) = 1))
  else !decide (ρ (p + 1 + k) = v1) && decide (ρ (p + 7 + k) = v1)
section
variable {H : fm_H} {b : Nat} {m m00 : fm_M}
theorem r_cl70 (hM : kM H b) {ρ : Nat → Int32} (hr : m.1 (b + 1) = ρ) {k5 k19 k37 : Int32 → Int32 → fm_M → Option (Int32 × fm_M)} {v1 v2 v3 v4 v5 : Int32} {p j : Nat} (hp : p < 1000) (hj : j < 20) : f_X12_countLabels_70 H k5 k19 k37 b v1 v2 v3 v4 v5 (nn p) (nn j) (bi (decide (ρ (p + 1 + j) = v1))) m = k37 (v3 + bi (cn ρ v1 v2 p j)) (nn (j + 1)) m := by
  have a0 : f_X12_countLabels_197 H k5 k19 k37 b v1 v2 v3 v4 v5 (nn p) (nn j) 0 m = k37 (v3 + bi false) (nn (j + 1)) m := by
    unfold f_X12_countLabels_197
    rw [if_pos rfl, nl_1, nn_add]
    rfl
  have a1 : f_X12_countLabels_197 H k5 k19 k37 b v1 v2 v3 v4 v5 (nn p) (nn j) 1 m = k37 (v3 + bi true) (nn (j + 1)) m := by
    unfold f_X12_countLabels_197
    rw [if_neg (by decide), nl_1, nn_add]
    rfl
  unfold f_X12_countLabels_70
  rw [a0, a1]
  simp (disch := omega) only [kM_0 hM, kM_z1 hM, nl_7, nl_19, nn_add, nn_in, nn_tn, if_pos, hr]
  unfold cn
  by_cases c0 : v2 = 0
  · rw [if_pos c0, if_pos c0]
    by_cases e1 : ρ (p + 1 + j) = v1
    · rw [decide_eq_true e1, if_neg (by decide), Bool.true_and]
      by_cases e2 : ρ (p + 7 + j) = v1
      · rw [if_pos e2, decide_eq_true e2]
      · rw [if_neg e2, decide_eq_false e2]
    · rw [decide_eq_false e1, if_pos bi_f, Bool.false_and]
  · rw [if_neg c0, if_neg c0]
    by_cases c1 : v2 = 1
    · rw [if_pos c1, if_pos c1]
      by_cases e1 : ρ (p + 1 + j) = v1
      · rw [decide_eq_true e1, if_neg (by decide), Bool.true_and]
        by_cases e2 : ρ (p + 7 + j) = v1
        · rw [if_pos e2, decide_eq_false (fun z => z e2), Bool.false_and]
        · rw [if_neg e2, decide_eq_true e2, Bool.true_and]
          by_cases e3 : ρ (p + 7 + j) = -1
          · rw [if_pos e3, decide_eq_false (fun z => z e3)]
          · rw [if_neg e3, decide_eq_true e3]
      · rw [decide_eq_false e1, if_pos bi_f, Bool.false_and]
    · rw [if_neg c1, if_neg c1]
      by_cases c2 : v2 = 2
      · rw [if_pos c2, if_pos c2]
        by_cases e1 : ρ (p + 1 + j) = v1
        · rw [decide_eq_true e1, if_neg (by decide), Bool.true_and]
          by_cases e3 : ρ (p + 7 + j) = -1
          · rw [if_pos e3, decide_eq_false (fun z => z e3), Bool.false_and]
          · rw [if_neg e3, decide_eq_true e3, Bool.true_and]
            by_cases e4 : ρ (p + 19 + j) = 1
            · rw [if_pos e4, decide_eq_true e4]
            · rw [if_neg e4, decide_eq_false e4]
        · rw [decide_eq_false e1, if_pos bi_f, Bool.false_and]
      · rw [if_neg c2, if_neg c2]
        by_cases e1 : ρ (p + 1 + j) = v1
        · rw [decide_eq_true e1, if_neg (by decide), Bool.not_true, Bool.false_and]
        · rw [decide_eq_false e1, if_pos bi_f, Bool.not_false, Bool.true_and]
          by_cases e2 : ρ (p + 7 + j) = v1
          · rw [if_pos e2, decide_eq_true e2]
          · rw [if_neg e2, decide_eq_false e2]
theorem bi_nn (x : Bool) : bi x = nn (if x = true then 1 else 0) := by cases x <;> decide
theorem r_cl37 (hM : kM H b) {ρ : Nat → Int32} (hr : m.1 (b + 1) = ρ) {k5 k19 : Int32 → Int32 → fm_M → Option (Int32 × fm_M)} {v1 v2 v4 : Int32} {p n c : Nat} (hp : p < 1000) (hn : ρ p = nn n) (h6 : n ≤ 6) : ∀ (k q j a : Nat), j + k = n ∨ (k = 0 ∧ n ≤ j) → k < q → j < 10 → f_X12_countLabels_37 H k5 k19 b v1 v2 v4 (nn c) (nn p) q (nn a) (nn j) m = k19 (nn (a + nc (cn ρ v1 v2 p) j k)) (nn (c + 1)) m := by
  intro k
  induction k with
  | zero =>
    intro q j a h1 h2 h3
    obtain ⟨q, rfl⟩ : ∃ q', q = q' + 1 := ⟨q - 1, by omega⟩
    unfold f_X12_countLabels_37
    simp (disch := omega) only [kM_0 hM, kM_z1 hM, nn_in, nn_tn, if_pos, hr, hn, nn_le, nl_1, nn_add]
    rfl
  | succ k ih =>
    intro q j a h1 h2 h3
    obtain ⟨q, rfl⟩ : ∃ q', q = q' + 1 := ⟨q - 1, by omega⟩
    have h9 := r_cl70 (m := m) hM hr (k5 := k5) (k19 := k19) (k37 := f_X12_countLabels_37 H k5 k19 b v1 v2 v4 (nn c) (nn p) q) (v1 := v1) (v2 := v2) (v3 := nn a) (v4 := v4) (v5 := nn c) hp (j := j) (by omega)
    unfold f_X12_countLabels_37
    simp (disch := omega) only [kM_0 hM, kM_z1 hM, nn_in, nn_tn, if_pos, if_neg, hr, hn, nn_le, nl_1, nn_add]
    have e9 : (if ρ (p + 1 + j) = v1 then f_X12_countLabels_70 H k5 k19 (f_X12_countLabels_37 H k5 k19 b v1 v2 v4 (nn c) (nn p) q) b v1 v2 (nn a) v4 (nn c) (nn p) (nn j) 1 m else f_X12_countLabels_70 H k5 k19 (f_X12_countLabels_37 H k5 k19 b v1 v2 v4 (nn c) (nn p) q) b v1 v2 (nn a) v4 (nn c) (nn p) (nn j) 0 m) = f_X12_countLabels_70 H k5 k19 (f_X12_countLabels_37 H k5 k19 b v1 v2 v4 (nn c) (nn p) q) b v1 v2 (nn a) v4 (nn c) (nn p) (nn j) (bi (decide (ρ (p + 1 + j) = v1))) m := by
      by_cases e : ρ (p + 1 + j) = v1
      · rw [if_pos e, decide_eq_true e]
        rfl
      · rw [if_neg e, decide_eq_false e]
        rfl
    have e8 : (nn 0 : Int32) = 0 := nl_0.symm
    rw [← nl_1]
    first
      | rw [e9]
      | rw [e8, e9]
    rw [h9, bi_nn, nn_add, ih q (j + 1) _ (by omega) (by omega) (by omega)]
    rw [show nc (cn ρ v1 v2 p) j (k + 1) = (if cn ρ v1 v2 p j = true then 1 else 0) + nc (cn ρ v1 v2 p) (j + 1) k from rfl, Nat.add_assoc]
theorem r_cl19 (hM : kM H b) {ρ : Nat → Int32} (hr : m.1 (b + 1) = ρ) {k5 : Int32 → Int32 → fm_M → Option (Int32 × fm_M)} {v1 v2 : Int32} {i : Nat} {ln : Nat → Nat} (hi : i < 8) (hn : ∀ c, c < 2 → ρ (120 + 66 * i + 25 * c) = nn (ln c) ∧ ln c ≤ 6) : ∀ (k q c a : Nat), c + k = 2 → k < q → f_X12_countLabels_19 H k5 b v1 v2 (nn i) q (nn a) (nn c) m = k5 (nn (a + sn (fun c => nc (cn ρ v1 v2 (120 + 66 * i + 25 * c)) 1 (ln c - 1)) c k)) (nn (i + 1)) m := by
  intro k
  induction k with
  | zero =>
    intro q c a h1 h2
    obtain ⟨q, rfl⟩ : ∃ q', q = q' + 1 := ⟨q - 1, by omega⟩
    unfold f_X12_countLabels_19
    simp (disch := omega) only [nl_2, nl_1, nn_le, if_pos, nn_add]
    rfl
  | succ k ih =>
    intro q c a h1 h2
    obtain ⟨q, rfl⟩ : ∃ q', q = q' + 1 := ⟨q - 1, by omega⟩
    have hc := hn c (by omega)
    unfold f_X12_countLabels_19
    simp (disch := omega) only [nl_2, nl_1, nn_le, if_neg, r_wayPlace, fb_n]
    rw [r_cl37 hM hr (by omega) hc.1 hc.2 (ln c - 1) fm_N 1 a (by omega) (by unfold fm_N; omega) (by omega), ih q (c + 1) _ (by omega) (by omega)]
    rw [show sn (fun c => nc (cn ρ v1 v2 (120 + 66 * i + 25 * c)) 1 (ln c - 1)) c (k + 1) = nc (cn ρ v1 v2 (120 + 66 * i + 25 * c)) 1 (ln c - 1) + sn (fun c => nc (cn ρ v1 v2 (120 + 66 * i + 25 * c)) 1 (ln c - 1)) (c + 1) k from rfl, Nat.add_assoc]
theorem r_cl5 (hM : kM H b) {ρ : Nat → Int32} (hr : m.1 (b + 1) = ρ) {v1 v2 : Int32} {K : Nat} {ln : Nat → Nat → Nat} (h4 : ρ 4 = nn K) (hK : K ≤ 8) (hn : ∀ i, i < K → ∀ c, c < 2 → ρ (120 + 66 * i + 25 * c) = nn (ln i c) ∧ ln i c ≤ 6) : ∀ (k q i a : Nat), i + k = K → k < q → f_X12_countLabels_5 H b v1 v2 q (nn a) (nn i) m = some (nn (a + sn (fun i => sn (fun c => nc (cn ρ v1 v2 (120 + 66 * i + 25 * c)) 1 (ln i c - 1)) 0 2) i k), m) := by
  intro k
  induction k with
  | zero =>
    intro q i a h1 h2
    obtain ⟨q, rfl⟩ : ∃ q', q = q' + 1 := ⟨q - 1, by omega⟩
    unfold f_X12_countLabels_5
    simp (disch := omega) only [kM_0 hM, kM_z1 hM, hr, nl_4, nn_tn, nn_in, h4, nn_le, if_pos]
    rfl
  | succ k ih =>
    intro q i a h1 h2
    obtain ⟨q, rfl⟩ : ∃ q', q = q' + 1 := ⟨q - 1, by omega⟩
    unfold f_X12_countLabels_5
    simp (disch := omega) only [kM_0 hM, kM_z1 hM, hr, nl_4, nn_tn, nn_in, h4, nn_le, if_pos, if_neg]
    rw [nl_0, r_cl19 hM hr (ln := ln i) (by omega) (hn i (by omega)) 2 fm_N 0 a (by omega) (by unfold fm_N; omega), ih q (i + 1) _ (by omega) (by omega)]
    rw [show sn (fun i => sn (fun c => nc (cn ρ v1 v2 (120 + 66 * i + 25 * c)) 1 (ln i c - 1)) 0 2) i (k + 1) = sn (fun c => nc (cn ρ v1 v2 (120 + 66 * i + 25 * c)) 1 (ln i c - 1)) 0 2 + sn (fun i => sn (fun c => nc (cn ρ v1 v2 (120 + 66 * i + 25 * c)) 1 (ln i c - 1)) 0 2) (i + 1) k from rfl, Nat.add_assoc]
theorem r_countLabels (hM : kM H b) {ρ : Nat → Int32} {E : VV} {K : Nat} {ln : Nat → Nat → Nat} (hr : m.1 (b + 1) = ρ) (hK : rK ρ E K ln) (v1 v2 : Int32) : f_X12_countLabels H b v1 v2 m = some (nn (pSm K ln (fun i c k => if cn ρ v1 v2 (120 + 66 * i + 25 * c) k = true then 1 else 0)), m) := by
  unfold f_X12_countLabels
  rw [nl_0, r_cl5 hM hr (ln := ln) hK.1 hK.2.1 (fun i hi c hc => ⟨(hK.2.2 i hi c hc).1, (hK.2.2 i hi c hc).2.1⟩) K fm_N 0 0 (by omega) (by have := hK.2.1; unfold fm_N; omega), Nat.zero_add]
  unfold pSm
  rw [sn_c (fun i _ _ => sn_c (fun c _ _ => nc_sn))]
end
