/-! the reference finds labels -/
theorem tk_ld {V : VV} {N : Nat} {Z : Nat → Nat} {f : Nat} : ∀ {k j : Nat} {b : Int} {mo : Nat}, ld V N Z f j k b mo = b ∨ ∃ i : Nat, ld V N Z f j k b mo = i ∧ j ≤ i ∧ i < j + k ∧ 0 < fe V N Z f i
  | 0, _, _, _ => Or.inl rfl
  | k + 1, j, b, mo => by
    unfold ld
    by_cases e : mo < fe V N Z f j
    · rw [if_pos e]
      rcases tk_ld (V := V) (N := N) (Z := Z) (f := f) (k := k) (j := j + 1) (b := j) (mo := fe V N Z f j) with h | ⟨i, h1, h2, h3, h4⟩
      · exact Or.inr ⟨j, h, by omega, by omega, by omega⟩
      · exact Or.inr ⟨i, h1, by omega, by omega, h4⟩
    · rw [if_neg e]
      rcases tk_ld (V := V) (N := N) (Z := Z) (f := f) (k := k) (j := j + 1) (b := b) (mo := mo) with h | ⟨i, h1, h2, h3, h4⟩
      · exact Or.inl h
      · exact Or.inr ⟨i, h1, by omega, by omega, h4⟩
theorem li_nc {p : Nat → Bool} : ∀ {z : Nat}, 0 < nc p 0 z → li p z ≠ -1 := by
  intro z
  induction z with
  | zero => intro h; unfold nc at h; omega
  | succ z ih =>
    intro h
    unfold li
    by_cases e : p z = true
    · rw [if_pos e]; omega
    · rw [if_neg e]
      refine ih ?_
      have : nc p 0 (z + 1) = nc p 0 z := nc_cut (by omega) (fun i h1 h2 => by
        have : i = z := by omega
        rw [this]
        exact Bool.not_eq_true _ ▸ e)
      omega
/-- links between nodes are found where they are noted -/
def iB (E : VV) : Prop := ∀ x y, x < 10 → y < 10 → E 2 0 (x * 10 + y) = ii (lkE E (nn x) (nn y))
theorem lbV_lk {E : VV} (hB : iB E) (hL : eL E ≤ 16) {x y : Nat} (hx : x < eN E) (hy : y < eN E) (hN : eN E ≤ 10) : (lbV E (eN E) x y = -1 ↔ lkE E (nn x) (nn y) = -1) ∧ lbV E (eN E) x y = ii (lkE E (nn x) (nn y)) := by
  have e : lbV E (eN E) x y = ii (lkE E (nn x) (nn y)) := by
    unfold lbV
    rw [if_pos ⟨by omega, by omega, by omega, by omega⟩, show ((x : Int) * 10 + (y : Int)).toNat = x * 10 + y from by omega]
    exact hB x y (by omega) (by omega)
  refine ⟨?_, e⟩
  rw [e, ii_m1]
  by_cases h : lkE E (nn x) (nn y) = -1
  · rw [h]
    exact ⟨fun _ => rfl, fun _ => rfl⟩
  · obtain ⟨j, hj, ej⟩ := lkE_r h
    rw [ej, ii_eq (by omega) (by omega) (by omega) (by omega)]
section
variable {H : fm_H} {b : Nat} {m m00 : fm_M}
theorem r_find (hM : kM H b) {ρ : Nat → Int32} (hr : rI b m00 m ρ) {E : VV} {K : Nat} {ln : Nat → Nat → Nat} (hK : rK ρ E K ln) (hT : iT E K ln) {f l : Nat} (hf : f < 10) (hl : l < 12) : fE (f_X12_findHolder H b (nn f) (nn l) m) (fun x m' => x = bi (decide (E 5 0 (f * 12 + l) ≠ -1)) ∧ rI b m00 m' ρ) := by
  rcases r_findHolder hM hr.1 hK hT hf hl with ⟨e1, e2⟩ | ⟨e1, i, c, k, -, -, -, -, -, e2⟩
  · rw [e2, e1]
    exact fE_ret ⟨rfl, hr⟩
  · rw [e2, decide_eq_true e1]
    exact fE_ret ⟨rfl, rI_fd hr⟩
theorem r_free_l (hM : kM H b) {ρ : Nat → Int32} {E : VV} {K : Nat} {ln : Nat → Nat → Nat} (hK : rK ρ E K ln) (hT : iT E K ln) {f z : Nat} (hf : f < 10) (h14 : ρ (14 + f) = nn z) (hz : z ≤ 12) : ∀ (k q j a : Nat) (m : fm_M), rI b m00 m ρ → j + k = z → k < q → fE (f_X12_freeLabels_4 H b (nn f) q (nn a) (nn j) m) (fun x m' => x = nn (a + nc (fun i => decide (E 5 0 (f * 12 + i) = -1)) j k) ∧ rI b m00 m' ρ) := by
  intro k
  induction k with
  | zero =>
    intro q j a m hr h1 h2
    obtain ⟨q, rfl⟩ : ∃ q', q = q' + 1 := ⟨q - 1, by omega⟩
    unfold f_X12_freeLabels_4
    simp (disch := omega) only [kM_0 hM, kM_z1 hM, nl_14, nn_add, nn_in, nn_tn, if_pos, hr.1, h14, nn_le]
    exact fE_ret ⟨rfl, hr⟩
  | succ k ih =>
    intro q j a m hr h1 h2
    obtain ⟨q, rfl⟩ : ∃ q', q = q' + 1 := ⟨q - 1, by omega⟩
    unfold f_X12_freeLabels_4
    simp (disch := omega) only [kM_0 hM, kM_z1 hM, nl_14, nn_add, nn_in, nn_tn, if_pos, if_neg, hr.1, h14, nn_le]
    refine fE_be (r_find hM hr hK hT hf (show j < 12 by omega)) (fun x m' ⟨ex, hr'⟩ => ?_)
    rw [ex]
    have es : nc (fun i => decide (E 5 0 (f * 12 + i) = -1)) j (k + 1) = (if decide (E 5 0 (f * 12 + j) = -1) = true then 1 else 0) + nc (fun i => decide (E 5 0 (f * 12 + i) = -1)) (j + 1) k := rfl
    by_cases e : E 5 0 (f * 12 + j) = -1
    · rw [decide_eq_false (fun z => z e), if_pos bi_f, nn_inc, nn_inc]
      refine fE_w (ih q (j + 1) (a + 1) m' hr' (by omega) (by omega)) (fun x m2 ⟨e1, e2⟩ => ⟨?_, e2⟩)
      rw [e1, es, decide_eq_true e, if_pos rfl, Nat.add_assoc]
    · rw [decide_eq_true e, if_neg (by decide), show nn a + 0 = nn a from by rw [nl_0, nn_add]; rfl, nn_inc]
      refine fE_w (ih q (j + 1) a m' hr' (by omega) (by omega)) (fun x m2 ⟨e1, e2⟩ => ⟨?_, e2⟩)
      rw [e1, es, decide_eq_false e, if_neg (by decide), Nat.zero_add]
theorem r_freeLabels (hM : kM H b) {ρ : Nat → Int32} {E : VV} {K : Nat} {ln : Nat → Nat → Nat} (hr : rI b m00 m ρ) (hK : rK ρ E K ln) (hT : iT E K ln) {f z : Nat} (hf : f < 10) (h14 : ρ (14 + f) = nn z) (hz : z ≤ 12) : fE (f_X12_freeLabels H b (nn f) m) (fun x m' => x = nn (hl E f z (-1)) ∧ rI b m00 m' ρ) := by
  unfold f_X12_freeLabels
  rw [nl_0]
  refine fE_w (r_free_l hM hK hT hf h14 hz z fm_N 0 0 m hr (by omega) (by unfold fm_N; omega)) (fun x m' ⟨e1, e2⟩ => ⟨?_, e2⟩)
  rw [e1, Nat.zero_add]
  rfl
theorem r_low_l (hM : kM H b) {ρ : Nat → Int32} {E : VV} {K : Nat} {ln : Nat → Nat → Nat} (hK : rK ρ E K ln) (hT : iT E K ln) {f z : Nat} (hf : f < 10) (h14 : ρ (14 + f) = nn z) (hz : z ≤ 12) : ∀ (k q j : Nat) (m : fm_M), rI b m00 m ρ → j + k = z → k < q → fE (f_X12_lowestFree_2 H b (nn f) q (nn j) m) (fun x m' => x = ii (fi (fun i => decide (E 5 0 (f * 12 + i) = -1)) j k) ∧ rI b m00 m' ρ) := by
  intro k
  induction k with
  | zero =>
    intro q j m hr h1 h2
    obtain ⟨q, rfl⟩ : ∃ q', q = q' + 1 := ⟨q - 1, by omega⟩
    unfold f_X12_lowestFree_2
    simp (disch := omega) only [kM_0 hM, kM_z1 hM, nl_14, nn_add, nn_in, nn_tn, if_pos, hr.1, h14, nn_le]
    exact fE_ret ⟨rfl, hr⟩
  | succ k ih =>
    intro q j m hr h1 h2
    obtain ⟨q, rfl⟩ : ∃ q', q = q' + 1 := ⟨q - 1, by omega⟩
    unfold f_X12_lowestFree_2
    simp (disch := omega) only [kM_0 hM, kM_z1 hM, nl_14, nn_add, nn_in, nn_tn, if_pos, if_neg, hr.1, h14, nn_le]
    refine fE_be (r_find hM hr hK hT hf (show j < 12 by omega)) (fun x m' ⟨ex, hr'⟩ => ?_)
    rw [ex]
    by_cases e : E 5 0 (f * 12 + j) = -1
    · rw [decide_eq_false (fun z => z e), if_pos bi_f, fi_t (decide_eq_true e)]
      exact fE_ret ⟨rfl, hr'⟩
    · rw [decide_eq_true e, if_neg (by decide), nn_inc, fi_f (decide_eq_false e)]
      exact ih q (j + 1) m' hr' (by omega) (by omega)
theorem r_lowestFree (hM : kM H b) {ρ : Nat → Int32} {E : VV} {K : Nat} {ln : Nat → Nat → Nat} (hr : rI b m00 m ρ) (hK : rK ρ E K ln) (hT : iT E K ln) {f z : Nat} (hf : f < 10) (h14 : ρ (14 + f) = nn z) (hz : z ≤ 12) : fE (f_X12_lowestFree H b (nn f) m) (fun x m' => x = ii (fi (fun i => decide (E 5 0 (f * 12 + i) = -1)) 0 z) ∧ rI b m00 m' ρ) := by
  unfold f_X12_lowestFree
  rw [nl_0]
  exact r_low_l hM hK hT hf h14 hz z fm_N 0 m hr (by omega) (by unfold fm_N; omega)
theorem r_high_l (hM : kM H b) {ρ : Nat → Int32} {E : VV} {K : Nat} {ln : Nat → Nat → Nat} (hK : rK ρ E K ln) (hT : iT E K ln) {f : Nat} (hf : f < 10) : ∀ (k q : Nat) (m : fm_M), rI b m00 m ρ → k ≤ 12 → k < q → fE (f_X12_highestFree_12 H b (nn f) q (ii ((k : Int) - 1)) m) (fun x m' => x = ii (li (fun i => decide (E 5 0 (f * 12 + i) = -1)) k) ∧ rI b m00 m' ρ) := by
  intro k
  induction k with
  | zero =>
    intro q m hr h1 h2
    obtain ⟨q, rfl⟩ : ∃ q', q = q' + 1 := ⟨q - 1, by omega⟩
    unfold f_X12_highestFree_12
    rw [if_pos (by decide)]
    exact fE_ret ⟨rfl, hr⟩
  | succ k ih =>
    intro q m hr h1 h2
    obtain ⟨q, rfl⟩ : ∃ q', q = q' + 1 := ⟨q - 1, by omega⟩
    have ek : ii (((k + 1 : Nat) : Int) - 1) = nn k := congrArg ii (by omega)
    unfold f_X12_highestFree_12
    rw [ek, if_neg (by rw [nl_0, nn_lt (by omega) (by omega)]; omega)]
    refine fE_be (r_find hM hr hK hT hf (show k < 12 by omega)) (fun x m' ⟨ex, hr'⟩ => ?_)
    rw [ex]
    by_cases e : E 5 0 (f * 12 + k) = -1
    · rw [decide_eq_false (fun z => z e), if_pos bi_f, li_t (decide_eq_true e)]
      exact fE_ret ⟨rfl, hr'⟩
    · rw [decide_eq_true e, if_neg (by decide), li_f (decide_eq_false e), show nn k + -1 = ii ((k : Int) - 1) from by rw [ii_m1, nn_ii, ii_add]; rfl]
      exact ih q m' hr' (by omega) (by omega)
theorem r_highestFree (hM : kM H b) {ρ : Nat → Int32} {E : VV} {K : Nat} {ln : Nat → Nat → Nat} (hr : rI b m00 m ρ) (hK : rK ρ E K ln) (hT : iT E K ln) {f z : Nat} (hf : f < 10) (h14 : ρ (14 + f) = nn z) (hz : z ≤ 12) : fE (f_X12_highestFree H b (nn f) m) (fun x m' => x = ii (li (fun i => decide (E 5 0 (f * 12 + i) = -1)) z) ∧ rI b m00 m' ρ) := by
  unfold f_X12_highestFree
  simp (disch := omega) only [kM_0 hM, kM_z1 hM, nl_14, nn_add, nn_in, nn_tn, if_pos, hr.1, h14]
  rw [show nn z - 1 = ii ((z : Int) - 1) from ii_dec z]
  exact r_high_l hM hK hT hf z fm_N m hr hz (by unfold fm_N; omega)
theorem r_lend_l (hM : kM H b) {ρ : Nat → Int32} {E : VV} {K : Nat} {ln : Nat → Nat → Nat} (hN : rN ρ E) (hG : vG E) (hB : iB E) (hK : rK ρ E K ln) (hT : iT E K ln) {f : Nat} (hf : f < eN E) : ∀ (k q j mo : Nat) (bb : Int) (m : fm_M), rI b m00 m ρ → j + k = eN E → k < q → mo ≤ 12 → fE (f_X12_lenderFor_7 H b (nn f) q (ii bb) (nn mo) (nn j) m) (fun x m' => x = ii (ld E (eN E) (eZ E) f j k bb mo) ∧ rI b m00 m' ρ) := by
  obtain ⟨hL, hL16⟩ := rN_3 hN hG
  obtain ⟨hN2, hN10⟩ := rN_2 hN hG
  intro k
  induction k with
  | zero =>
    intro q j mo bb m hr h1 h2 h3
    obtain ⟨q, rfl⟩ : ∃ q', q = q' + 1 := ⟨q - 1, by omega⟩
    unfold f_X12_lenderFor_7
    simp (disch := omega) only [kM_0 hM, kM_z1 hM, nl_2, nn_in, nn_tn, if_pos, hr.1, hN2, nn_le]
    exact fE_ret ⟨rfl, hr⟩
  | succ k ih =>
    intro q j mo bb m hr h1 h2 h3
    obtain ⟨q, rfl⟩ : ∃ q', q = q' + 1 := ⟨q - 1, by omega⟩
    have lk := r_linkOf (m := m) hM hr.1 hL hL16 (nn f) (nn j)
    rw [lkR_E hN] at lk
    have hz : ρ (14 + j) = nn (eZ E j) := (hN.2.2.2.2.2.2.1 j (by omega)).trans (hG.2.2.2.2.2.1 j (by omega)).1
    have hz12 := eZ_12 hG j (by omega)
    have l1 := (lbV_lk hB hL16 hf (show j < eN E by omega) hN10).1
    unfold f_X12_lenderFor_7
    simp (disch := omega) only [kM_0 hM, kM_z1 hM, nl_2, nn_in, nn_tn, if_pos, if_neg, hr.1, hN2, nn_le, nn_inc]
    rw [lk, fb_n]
    have eu : ld E (eN E) (eZ E) f j (k + 1) bb mo = if mo < fe E (eN E) (eZ E) f j then ld E (eN E) (eZ E) f (j + 1) k j (fe E (eN E) (eZ E) f j) else ld E (eN E) (eZ E) f (j + 1) k bb mo := rfl
    rw [eu]
    by_cases e : lkE E (nn f) (nn j) = -1
    · have ef : fe E (eN E) (eZ E) f j = 0 := if_pos (l1.mpr e)
      rw [e, if_pos ii_m1.symm, if_pos (by rw [nl_0, nn_le (by omega) (by omega)]; omega), ef, if_neg (by omega)]
      exact ih q (j + 1) mo bb m hr (by omega) (by omega) h3
    · have ef : fe E (eN E) (eZ E) f j = hl E j (eZ E j) (-1) := if_neg (fun z => e (l1.mp z))
      obtain ⟨x, hx, ex⟩ := lkE_r e
      rw [if_neg (by rw [ex, ii_m1, ii_eq (by omega) (by omega) (by omega) (by omega)]; omega)]
      refine fE_be (r_freeLabels hM hr hK hT (show j < 10 by omega) hz hz12) (fun y m' ⟨ey, hr'⟩ => ?_)
      have hle := hl_le (V := E) (f := j) (z := eZ E j) (x := -1)
      rw [ey, ef]
      by_cases e2 : mo < hl E j (eZ E j) (-1)
      · rw [if_neg (by rw [nn_le (by omega) (by omega)]; omega), if_pos e2]
        exact ih q (j + 1) _ j m' hr' (by omega) (by omega) (by omega)
      · rw [if_pos (by rw [nn_le (by omega) (by omega)]; omega), if_neg e2]
        exact ih q (j + 1) mo bb m' hr' (by omega) (by omega) h3
theorem r_lenderFor (hM : kM H b) {ρ : Nat → Int32} {E : VV} {K : Nat} {ln : Nat → Nat → Nat} (hr : rI b m00 m ρ) (hN : rN ρ E) (hG : vG E) (hB : iB E) (hK : rK ρ E K ln) (hT : iT E K ln) {f : Nat} (hf : f < eN E) : fE (f_X12_lenderFor H b (nn f) m) (fun x m' => x = ii (ld E (eN E) (eZ E) f 0 (eN E) (-1) 0) ∧ rI b m00 m' ρ) := by
  have hN10 := (rN_2 hN hG).2
  unfold f_X12_lenderFor
  rw [nl_0, ii_m1]
  exact r_lend_l hM hN hG hB hK hT hf (eN E) fm_N 0 0 (-1) m hr (by omega) (by unfold fm_N; omega) (by omega)
end
