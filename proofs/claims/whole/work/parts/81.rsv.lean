/-! the reference's reservations -/
/-- links that are up or not -/
def iU (E : VV) : Prop := ∀ j, j < eL E → E 3 j 4 = 0 ∨ E 3 j 4 = 1
/-- the reference's circuit i is the class's: its ways, its band, its phase -/
def rV1 (ρ : Nat → Int32) (E : VV) (i : Nat) : Prop := (∀ c, c < 2 → rW ρ E (120 + 66 * i + 25 * c) (eW E i c) c i ∧ iWy E i c (eW E i c)) ∧ ρ (104 + 66 * i) = E 9 i 0 ∧ ρ (104 + 66 * i + 2) = E 9 i 2 ∧ (∃ p, p ≤ 3 ∧ E 9 i 2 = nn p) ∧ (E 9 i 2 = 0 → eB E i = 0)
theorem rB_V1 {ρ : Nat → Int32} {E : VV} (h : rB ρ E) (hX : iX E) {i dl : Nat} (hi : i < eK E) (hQ : iQ E i dl) : rV1 ρ E i := by
  refine ⟨fun c hc => ⟨h.2.1.2.2 i hi c hc, (hX.2.2 i hi c hc).1⟩, (h.2.2 i hi).1 0 (by omega) (by omega) (by omega), (h.2.2 i hi).1 2 (by omega) (by omega) (by omega), ?_, ?_⟩
  · rcases hQ.2.2.2.2 with h | h | h | h
    · exact ⟨0, by omega, h.1.trans nl_0⟩
    · exact ⟨1, by omega, h.1.trans nl_1⟩
    · exact ⟨2, by omega, h.1.trans nl_2⟩
    · exact ⟨3, by omega, h.1.trans nl_3⟩
  · intro z
    rcases hQ.2.2.2.2 with h | h | h | h
    · exact h.2.1
    · rw [h.1] at z; exact absurd z (by decide)
    · rw [h.1] at z; exact absurd z (by decide)
    · rw [h.1] at z; exact absurd z (by decide)
section
variable {H : fm_H} {b : Nat} {m m00 : fm_M}
theorem r_usesE (hM : kM H b) {ρ : Nat → Int32} {E : VV} (hr : m.1 (b + 1) = ρ) (hN : rN ρ E) (hG : vG E) {i c : Nat} (hi : i < 8) (hc : c < 2) (hW : rW ρ E (120 + 66 * i + 25 * c) (eW E i c) c i) (hY : iWy E i c (eW E i c)) (x : Int32) : f_X12_usesLink H b (nn (120 + 66 * i + 25 * c)) x m = some (bi (ny (fun k => decide (E (12 + 4 * c) i k = x)) 1 (eW E i c - 1)), m) := by
  obtain ⟨hL, hL16⟩ := rN_3 hN hG
  obtain ⟨w1, w2, w3, w4⟩ := hW
  rw [r_usesLink hM hr hL hL16 w1 w2 (by omega) x, ny_c (fun k k1 k2 => ?_)]
  rw [lkR_E hN, w3 k (by omega), show 120 + 66 * i + 25 * c + 1 + k - 1 = 120 + 66 * i + 25 * c + 1 + (k - 1) from by omega, w3 (k - 1) (by omega), (hY.2.1 k k1 (by omega)).1]
theorem r_of0 (hM : kM H b) {j : Nat} (h : j < 8) : f_X12_of H b (nn j) 0 m = some (m.1 (b + 1) (104 + 66 * j), m) := by
  rw [nl_0, r_of hM (by omega)]
  rfl
theorem r_of2 (hM : kM H b) {j : Nat} (h : j < 8) : f_X12_of H b (nn j) 2 m = some (m.1 (b + 1) (104 + 66 * j + 2), m) := by
  rw [nl_2, r_of hM (by omega)]
theorem r_wp0 {j : Nat} : f_X12_wayPlace H (nn j) 0 m = some (nn (120 + 66 * j + 25 * 0), m) := by
  rw [nl_0, r_wayPlace]
theorem r_wp1 {j : Nat} : f_X12_wayPlace H (nn j) 1 m = some (nn (120 + 66 * j + 25 * 1), m) := by
  rw [nl_1, r_wayPlace]
theorem r_rsv_l (hM : kM H b) {ρ : Nat → Int32} {E : VV} (hr : m.1 (b + 1) = ρ) (hN : rN ρ E) (hG : vG E) {K : Nat} (h4 : ρ 4 = nn K) (hK : K ≤ 8) {x e : Int32} (hV : ∀ i, i < K → nn i ≠ e → rV1 ρ E i) : ∀ (k q i : Nat) (a : Int32), i + k = K → k < q → f_X12_reserved_5 H b x e q a (nn i) m = some (a + su (fun i => if ii i = e then 0 else if us E (eA E) (eB E) i x = true then E 9 i 0 else 0) i k, m) := by
  intro k
  induction k with
  | zero =>
    intro q i a h1 h2
    obtain ⟨q, rfl⟩ : ∃ q', q = q' + 1 := ⟨q - 1, by omega⟩
    unfold f_X12_reserved_5
    simp (disch := omega) only [kM_0 hM, kM_z1 hM, hr, nl_4, nn_tn, nn_in, h4, nn_le, if_pos]
    unfold su
    rw [Int32.add_zero]
  | succ k ih =>
    intro q i a h1 h2
    obtain ⟨q, rfl⟩ : ∃ q', q = q' + 1 := ⟨q - 1, by omega⟩
    have es : su (fun i => if ii i = e then 0 else if us E (eA E) (eB E) i x = true then E 9 i 0 else 0) i (k + 1) = (if ii i = e then 0 else if us E (eA E) (eB E) i x = true then E 9 i 0 else 0) + su (fun i => if ii i = e then 0 else if us E (eA E) (eB E) i x = true then E 9 i 0 else 0) (i + 1) k := rfl
    have a0 : f_X12_reserved_65 H (f_X12_reserved_5 H b x e q) b x e a (nn i) 0 m = some (a + (0 + su (fun i => if ii i = e then 0 else if us E (eA E) (eB E) i x = true then E 9 i 0 else 0) (i + 1) k), m) := by
      unfold f_X12_reserved_65
      rw [if_pos rfl, nn_inc, ih q (i + 1) _ (by omega) (by omega), Int32.add_assoc]
    have a1 : nn i ≠ e → f_X12_reserved_65 H (f_X12_reserved_5 H b x e q) b x e a (nn i) 1 m = some (a + (E 9 i 0 + su (fun i => if ii i = e then 0 else if us E (eA E) (eB E) i x = true then E 9 i 0 else 0) (i + 1) k), m) := by
      intro hne
      unfold f_X12_reserved_65
      rw [if_neg (by decide), nn_inc, r_of0 hM (by omega), fb_n, hr, (hV i (by omega) hne).2.1, ih q (i + 1) _ (by omega) (by omega), Int32.add_assoc]
    rw [es]
    unfold f_X12_reserved_5
    simp (disch := omega) only [kM_0 hM, kM_z1 hM, hr, nl_4, nn_tn, nn_in, h4, nn_le, if_pos, if_neg]
    by_cases e1 : nn i = e
    · rw [if_pos e1, if_pos (show ii (i : Int) = e from e1), a0]
    · obtain ⟨hW, hb, hp, ⟨p, p3, ep⟩, hz⟩ := hV i (by omega) e1
      have u0 := r_usesE hM hr hN hG (show i < 8 by omega) (c := 0) (by omega) (hW 0 (by omega)).1 (hW 0 (by omega)).2 x
      have u1 := r_usesE hM hr hN hG (show i < 8 by omega) (c := 1) (by omega) (hW 1 (by omega)).1 (hW 1 (by omega)).2 x
      rw [if_neg e1, if_neg (show ¬ ii (i : Int) = e from e1), r_wp0, fb_n, u0, fb_n]
      have eus : us E (eA E) (eB E) i x = (ny (fun k => decide (E (12 + 4 * 0) i k = x)) 1 (eW E i 0 - 1) || ny (fun k => decide (E (12 + 4 * 1) i k = x)) 1 (eW E i 1 - 1)) := rfl
      rw [eus]
      cases h0 : ny (fun k => decide (E (12 + 4 * 0) i k = x)) 1 (eW E i 0 - 1) with
      | true =>
        rw [if_neg (by decide), a1 e1, Bool.true_or, if_pos rfl]
      | false =>
        rw [if_pos (by decide), r_of2 hM (by omega), fb_n, hr, hp, ep, Bool.false_or]
        by_cases ep0 : p = 0
        · rw [ep0, if_pos (by decide), a0]
          have : eW E i 1 = 0 := hz (by rw [ep, ep0]; rfl)
          rw [this]
          rfl
        · rw [if_neg (by rw [nl_0, nn_le (by omega) (by omega)]; omega), r_wp1, fb_n, u1, fb_n]
          cases h1 : ny (fun k => decide (E (12 + 4 * 1) i k = x)) 1 (eW E i 1 - 1) with
          | true => rw [if_neg (by decide), a1 e1, if_pos rfl]
          | false => rw [if_pos (by decide), a0, if_neg (by decide)]
theorem r_reserved (hM : kM H b) {ρ : Nat → Int32} {E : VV} (hr : m.1 (b + 1) = ρ) (hN : rN ρ E) (hG : vG E) {K : Nat} (h4 : ρ 4 = nn K) (hK : K ≤ 8) {x e : Int32} (hV : ∀ i, i < K → nn i ≠ e → rV1 ρ E i) : f_X12_reserved H b x e m = some (rsv E K (eA E) (eB E) x e, m) := by
  unfold f_X12_reserved rsv
  rw [show f_X12_reserved_5 H b x e fm_N 0 0 m = f_X12_reserved_5 H b x e fm_N 0 (nn 0) m from by rw [← nl_0], r_rsv_l hM hr hN hG h4 hK hV K fm_N 0 0 (by omega) (by unfold fm_N; omega), Int32.zero_add]
theorem r_hasRoom (hM : kM H b) {ρ : Nat → Int32} {E : VV} (hR : m.1 (b + 1) = ρ) (hN : rN ρ E) (hG : vG E) (hU : iU E) {K : Nat} (h4 : ρ 4 = nn K) (hK : K ≤ 8) {j : Nat} (hj : j < eL E) {e band : Int32} (hV : ∀ i, i < K → nn i ≠ e → rV1 ρ E i) : f_X12_hasRoom H b (nn j) e band m = some (bi (hr E (eL E) K (eA E) (eB E) j band e), m) := by
  have hL16 := hG.2.2.2.2.1.2.1
  have s4 : ρ (24 + 5 * j + 4) = E 3 j 4 := hN.2.2.2.2.2.2.2 j hj 4 (by omega)
  have s2 : ρ (24 + 5 * j + 2) = E 3 j 2 := hN.2.2.2.2.2.2.2 j hj 2 (by omega)
  have d : (decide (0 ≤ (j : Int) ∧ (j : Int) < eL E ∧ E 3 (j : Int).toNat 4 ≠ 0)) = decide (E 3 j 4 ≠ 0) := decide_eq_decide.mpr ⟨fun z => z.2.2, fun z => ⟨by omega, by omega, z⟩⟩
  unfold f_X12_hasRoom
  rw [show f_X12_ofLink H b (nn j) 4 m = some (E 3 j 4, m) from by rw [nl_4, r_ofLink hM (by omega), hR, s4], fb_n]
  have eh : hr E (eL E) K (eA E) (eB E) j band e = (decide (E 3 j 4 ≠ 0) && decide (rsv E K (eA E) (eB E) (nn j) e + band ≤ E 3 j 2)) := by
    show (decide (0 ≤ (j : Int) ∧ (j : Int) < eL E ∧ E 3 (j : Int).toNat 4 ≠ 0) && _) = _
    rw [d]
    rfl
  rw [eh]
  rcases hU j hj with e4 | e4
  · rw [e4, if_neg (by decide), decide_eq_false (fun z => z rfl), Bool.false_and]
    rfl
  · rw [e4, if_pos rfl, r_reserved hM hR hN hG h4 hK hV, fb_n, show f_X12_ofLink H b (nn j) 2 m = some (E 3 j 2, m) from by rw [nl_2, r_ofLink hM (by omega), hR, s2], fb_n, decide_eq_true (show (1 : Int32) ≠ 0 by decide), Bool.true_and]
    by_cases e5 : E 3 j 2 < rsv E K (eA E) (eB E) (nn j) e + band
    · rw [if_pos e5, decide_eq_false (Int32.not_le.mpr e5)]
      rfl
    · rw [if_neg e5, decide_eq_true (Int32.not_lt.mp e5)]
      rfl
/-- a draft with room -/
theorem r_dhr_l (hM : kM H b) {ρ : Nat → Int32} {E : VV} (hR : m.1 (b + 1) = ρ) (hN : rN ρ E) (hG : vG E) (hU : iU E) {K n : Nat} (h4 : ρ 4 = nn K) (hK : K ≤ 8) {e band : Int32} (hV : ∀ i, i < K → nn i ≠ e → rV1 ρ E i) (h6 : n ≤ 6) (hn : m.1 b 6 = nn n) {lk : Nat → Int32} (hd : ∀ k, 1 ≤ k → k < n → lk k = ii (lkE E (m.1 (b + 6) (k - 1)) (m.1 (b + 6) k)) ∧ lkE E (m.1 (b + 6) (k - 1)) (m.1 (b + 6) k) ≠ -1) : ∀ (k q j : Nat), 1 ≤ j → j + k = n ∨ (k = 0 ∧ n ≤ j) → k < q → j < 100 → f_X12_draftHasRoom_2 H b e band q (nn j) m = some (bi (na (fun k => hr E (eL E) K (eA E) (eB E) (lk k).toInt band e) j k), m) := by
  obtain ⟨hL, hL16⟩ := rN_3 hN hG
  intro k
  induction k with
  | zero =>
    intro q j h0 h1 h2 h3
    obtain ⟨q, rfl⟩ : ∃ q', q = q' + 1 := ⟨q - 1, by omega⟩
    unfold f_X12_draftHasRoom_2
    rw [hn, if_pos (by rw [nn_le (by omega) (by omega)]; omega)]
    rfl
  | succ k ih =>
    intro q j h0 h1 h2 h3
    obtain ⟨q, rfl⟩ : ∃ q', q = q' + 1 := ⟨q - 1, by omega⟩
    obtain ⟨d1, d2⟩ := hd j h0 (by omega)
    obtain ⟨x, hx, ex⟩ := lkE_r d2
    have ej : nn j - 1 = nn (j - 1) := by rw [nl_1, nn_sub h0]
    unfold f_X12_draftHasRoom_2
    rw [ej]
    simp (disch := omega) only [hn, nn_le, if_neg, kM_5 hM, kM_z6 hM, nn_in, if_pos, nn_tn]
    rw [r_linkOf hM hR hL hL16, lkR_E hN, fb_n, ex, ← nn_ii, r_hasRoom hM hR hN hG hU h4 hK hx hV, fb_n]
    have elk : (lk j).toInt = x := by
      rw [d1, ex]
      exact nn_t (by omega)
    have en : na (fun k => hr E (eL E) K (eA E) (eB E) (lk k).toInt band e) j (k + 1) = (hr E (eL E) K (eA E) (eB E) (lk j).toInt band e && na (fun k => hr E (eL E) K (eA E) (eB E) (lk k).toInt band e) (j + 1) k) := rfl
    rw [en, elk]
    cases h : hr E (eL E) K (eA E) (eB E) (x : Int) band e with
    | false =>
      rw [if_pos bi_f, Bool.false_and]
      rfl
    | true =>
      rw [if_neg (by decide), nn_inc, ih q (j + 1) (by omega) (by omega) (by omega) (by omega), Bool.true_and]
theorem r_draftHasRoom (hM : kM H b) {ρ : Nat → Int32} {E : VV} (hR : m.1 (b + 1) = ρ) (hN : rN ρ E) (hG : vG E) (hU : iU E) {K n : Nat} (h4 : ρ 4 = nn K) (hK : K ≤ 8) {e band : Int32} (hV : ∀ i, i < K → nn i ≠ e → rV1 ρ E i) (h6 : n ≤ 6) (hn : m.1 b 6 = nn n) {lk : Nat → Int32} (hd : ∀ k, 1 ≤ k → k < n → lk k = ii (lkE E (m.1 (b + 6) (k - 1)) (m.1 (b + 6) k)) ∧ lkE E (m.1 (b + 6) (k - 1)) (m.1 (b + 6) k) ≠ -1) : f_X12_draftHasRoom H b e band m = some (bi (na (fun k => hr E (eL E) K (eA E) (eB E) (lk k).toInt band e) 1 (n - 1)), m) := by
  unfold f_X12_draftHasRoom
  rw [show f_X12_draftHasRoom_2 H b e band fm_N 1 m = f_X12_draftHasRoom_2 H b e band fm_N (nn 1) m from by rw [← nl_1], r_dhr_l hM hR hN hG hU h4 hK hV h6 hn hd (n - 1) fm_N 1 (by omega) (by omega) (by unfold fm_N; omega) (by omega)]
end
