/-! the reference moves its circuits -/
theorem mC_n {E : VV} {i kd j k : Nat} (hj : j ≠ i) (h1 : 9 ≤ kd) (h2 : kd ≤ 17) : mC E i kd j k = E kd j k := by
  have em : ∀ t, mkE E t kd j k = E kd j k := by
    intro t
    unfold mkE
    split
    · exact uV_k (by omega)
    · rfl
  have ec : clF E i kd j k = E kd j k := by
    have eg : ∀ t, guE E t kd j k = E kd j k := by
      intro t
      unfold guE
      split
      · exact uV_k (by omega)
      · rfl
    unfold clF
    split
    · rw [uV_i hj, eg]
    · exact eg _
  unfold mC
  split
  · unfold buE
    split
    · split
      · rw [uV_i hj, uV_i hj, uV_i hj]
      · rw [uV_i hj, uV_i hj]
    · rw [uV_i hj, em]
  · split
    · unfold drE
      split
      · rw [uV_i hj]
      · rw [uV_i hj, uV_i hj]
    · split
      · unfold clE
        split
        · exact ec
        · rw [uV_k (by omega), uV_i hj, uV_i hj, twV_n hj, ec]
      · rfl
theorem rB_sl {ρ : Nat → Int32} {E : VV} (h : rB ρ E) {i c k : Nat} (hi : i < eK E) (hc : c < 2) (h1 : 1 ≤ k) (h2 : k < eW E i c) : E (13 + 4 * c) i k = -1 ∨ ∃ t, t < 120 ∧ E (13 + 4 * c) i k = nn t := by
  rcases (h.2.1.2.2 i hi c hc).2.2.2 k h2 with ⟨a, -, -⟩ | ⟨f, l, hf, hl, e, -, -⟩
  · exact Or.inl a
  · exact Or.inr ⟨f * 12 + l, by omega, e⟩
section
variable {H : fm_H} {b : Nat} {m m00 : fm_M}
theorem r_delayOf_l (hM : kM H b) {ρ : Nat → Int32} {E : VV} (hr : m.1 (b + 1) = ρ) (hB : rB ρ E) (hG : vG E) (hX : iX E) {i c : Nat} (hi : i < eK E) (hc : c < 2) : ∀ (k q j : Nat) (a : Int32), 1 ≤ j → j + k = eW E i c ∨ (k = 0 ∧ eW E i c ≤ j) → k < q → j < 100 → f_X12_delayOf_4 H b (nn (120 + 66 * i + 25 * c)) q a (nn j) m = some (a + su (fun k => dOn E (eL E) (E (12 + 4 * c) i k)) j k, m) := by
  have hK8 := hG.2.2.2.2.1.2.2.1
  obtain ⟨hL, hL16⟩ := rN_3 hB.1 hG
  obtain ⟨w1, w2, w3, w4⟩ := hB.2.1.2.2 i hi c hc
  intro k
  induction k with
  | zero =>
    intro q j a h0 h1 h2 h3
    obtain ⟨q, rfl⟩ : ∃ q', q = q' + 1 := ⟨q - 1, by omega⟩
    unfold f_X12_delayOf_4
    simp (disch := omega) only [kM_0 hM, kM_z1 hM, nn_tn, nn_in, if_pos, hr, w1, nn_le]
    unfold su
    rw [Int32.add_zero]
  | succ k ih =>
    intro q j a h0 h1 h2 h3
    obtain ⟨q, rfl⟩ : ∃ q', q = q' + 1 := ⟨q - 1, by omega⟩
    obtain ⟨l1, l2⟩ := (hX.2.2 i hi c hc).1.2.1 j h0 (by omega)
    obtain ⟨x, hx, ex⟩ := lkE_r l2
    have a1 : ρ (120 + 66 * i + 25 * c + 1 + j - 1) = E (11 + 4 * c) i (j - 1) := by
      rw [← w3 (j - 1) (by omega)]
      exact congrArg ρ (by omega)
    have a2 : ρ (120 + 66 * i + 25 * c + 1 + j) = E (11 + 4 * c) i j := w3 j (by omega)
    have lk := r_linkOf (m := m) hM hr hL hL16 (E (11 + 4 * c) i (j - 1)) (E (11 + 4 * c) i j)
    rw [lkR_E hB.1, ex] at lk
    have h3 : ρ (24 + 5 * x + 3) = E 3 x 3 := hB.1.2.2.2.2.2.2.2 x hx 3 (by omega)
    unfold f_X12_delayOf_4
    simp (disch := omega) only [kM_0 hM, kM_z1 hM, nl_1, nl_3, nn_add, nn_sub, nn_tn, nn_in, if_pos, if_neg, hr, w1, nn_le, a1, a2]
    rw [lk, fb_n, ← nn_ii]
    simp (disch := omega) only [r_ofLink hM, fb_n, hr, h3]
    rw [ih q (j + 1) _ (by omega) (by omega) (by omega) (by omega)]
    have : dOn E (eL E) (E (12 + 4 * c) i j) = E 3 x 3 := by rw [l1, ex, dOn_ii hx (by omega)]
    rw [show su (fun k => dOn E (eL E) (E (12 + 4 * c) i k)) j (k + 1) = dOn E (eL E) (E (12 + 4 * c) i j) + su (fun k => dOn E (eL E) (E (12 + 4 * c) i k)) (j + 1) k from rfl, this, Int32.add_assoc]
theorem r_delayOf (hM : kM H b) {ρ : Nat → Int32} {E : VV} (hr : m.1 (b + 1) = ρ) (hB : rB ρ E) (hG : vG E) (hX : iX E) {i c : Nat} (hi : i < eK E) (hc : c < 2) : f_X12_delayOf H b (nn (120 + 66 * i + 25 * c)) m = some (dlW E (eL E) (E (12 + 4 * c) i) (eW E i c), m) := by
  have w2 := (hB.2.1.2.2 i hi c hc).2.1
  unfold f_X12_delayOf dlW
  rw [nl_1, r_delayOf_l hM hr hB hG hX hi hc (eW E i c - 1) fm_N 1 0 (by omega) (by omega) (by unfold fm_N; omega) (by omega), Int32.zero_add]
theorem rB_st {ρ : Nat → Int32} {E : VV} (h : rB ρ E) {i : Nat} (hi : i < eK E) : ρ (104 + 66 * i + 3) = stE E i := by
  rw [show 104 + 66 * i + 3 = 107 + 66 * i from by omega]
  exact (h.2.2 i hi).2.1
theorem r_build (hM : kM H b) {ρ : Nat → Int32} {E : VV} (hr : rI b m00 m ρ) (hB : rB ρ E) (hG : vG E) (hX : iX E) {i u : Nat} (hi : i < eK E) (a1 : E 9 i 2 = 1) (u1 : u < eB E i) (u2 : E 9 i 10 = nn u) (a5 : E 9 i 8 = 0) (h3 : ∀ k, 1 ≤ k → k < eB E i → E 17 i k ≠ -1) : fE (f_X12_build H b (nn i) m) (fun _ m' => ∃ ρ', rI b m00 m' ρ' ∧ rB ρ' (mC E i) ∧ ∀ k, k = 6 ∨ 632 ≤ k → ρ' k = ρ k) := by
  have hK8 := hG.2.2.2.2.1.2.2.1
  have hB6 := (hG.2.2.2.2.2.2.2 i (by omega)).2
  have s3 : ρ (104 + 66 * i + 3) = nn u := by
    rw [rB_st hB hi]
    unfold stE
    rw [if_pos a1, u2]
  have kz : ∀ {V : VV} {k : Nat} {x : Int32}, vG V → vG (uV V 9 i k x) := fun {V k x} h => vG_sm (vSm_k (k89_u (k89_rf V) (Or.inr rfl))) h
  unfold f_X12_build
  simp (disch := omega) only [nl_3, r_of hM, fb_n, hr.1, s3]
  by_cases hu : u = 0
  · subst hu
    rw [if_pos (by decide), mC_B a1 (u2.trans nl_0.symm) a5]
    have d1 := r_delayOf hM hr.1 hB hG hX hi (c := 0) (by omega)
    have d2 := r_delayOf hM hr.1 hB hG hX hi (c := 1) (by omega)
    rw [nl_0, nl_1, r_wayPlace, fb_n, d1, fb_n, r_wayPlace, fb_n, d2, fb_n]
    rw [show dlW E (eL E) (E (12 + 4 * 0) i) (eW E i 0) = dlO E i from rfl, show dlW E (eL E) (E (12 + 4 * 1) i) (eW E i 1) = dlN E i from rfl]
    have o1 : ρ 1 = E 0 0 8 := hB.1.2.1
    simp (disch := omega) only [nl_2, r_put hM, fb_n, kM_0 hM, kM_z1 hM, nn_in, nn_tn, if_pos, si_row, hr.1, up_at, if_neg, nl_4, o1]
    rw [← nl_1]
    have b0 := rBs_9 (k := 2) (x := nn 2) (rBs_of hB) hG hi (by omega) (by omega) (by omega)
    have g0 : vG (uV E 9 i 2 (nn 2)) := kz hG
    have b1 := rBs_st (x := dlO E i) b0 g0 hi
    have b2 := rBs_d (k := 9) (x := dlO E i) b1 g0 hi (Or.inl rfl)
    have g2 : vG (uV (uV E 9 i 2 (nn 2)) 9 i 9 (dlO E i)) := kz g0
    have fin : ∀ x : Int32, rB (pm_up (pm_up (pm_up ρ (104 + 66 * i + 2) (nn 2)) (104 + 66 * i + 3) (dlO E i)) (104 + 66 * i + 4) x) (uV (uV (uV E 9 i 2 2) 9 i 9 (dlO E i)) 9 i 8 x) := by
      intro x
      have b3 := rBs_9 (k := 8) (x := x) b2 g2 hi (by omega) (by omega) (by omega)
      refine cast (congrArg (fun z => rB z _) ?_) (rBs_to b3 ?_)
      · rw [show 104 + 66 * i + 3 = 107 + 66 * i from by omega]
        rfl
      · rw [up_at, if_neg (by show ¬ 107 + 66 * i = 104 + 66 * i + 4; omega), up_at, if_pos rfl]
        unfold stE
        rw [uV_p (by decide), uV_p (by decide), uV_s, if_neg (by decide), if_pos (by decide), uV_p (by decide), uV_s]
    have i2 := rI_u (k := 104 + 66 * i + 3) (x := dlO E i) (rI_u (k := 104 + 66 * i + 2) (x := nn 2) hr)
    by_cases e : E 0 0 8 = 1
    · rw [if_pos e, if_pos e]
      refine fE_ret ⟨_, rI_u i2, ?_, fun k hk => by rw [up_at, if_neg (by omega), up_at, if_neg (by omega), up_at, if_neg (by omega)]⟩
      exact fin _
    · rw [if_neg e, if_neg e]
      refine fE_ret ⟨_, rI_u i2, ?_, fun k hk => by rw [up_at, if_neg (by omega), up_at, if_neg (by omega), up_at, if_neg (by omega)]⟩
      exact fin _
  · obtain ⟨t, t1, t2⟩ := (rB_sl hB hi (c := 1) (k := u) (by omega) (by omega) u1).resolve_left (h3 u (by omega) u1)
    rw [mC_A a1 u2 (by omega) u1 hB6 t1 t2]
    simp (disch := omega) only [nl_0, nn_le, if_neg, nl_1, r_wayPlace, fb_n, nl_19, nn_add, nn_sub, kM_0 hM, kM_z1 hM, nn_in, nn_tn, if_pos, fb_d, r_put hM]
    have b0 := rBs_md (x := nn 1) (rBs_of (i := i) hB) hG hX.1 hi (c := 1) (k := u) (by omega) (by omega) u1 t1 t2
    have g0 : vG (uV E 7 0 t (nn 1)) := hG
    have b1 := rBs_st (x := nn (u - 1)) b0 g0 hi
    have b2 := rBs_d (k := 10) (x := nn (u - 1)) b1 g0 hi (Or.inr rfl)
    refine fE_ret ⟨_, rI_u (rI_u hr), ?_, fun k hk => by rw [up_at, if_neg (by omega), up_at, if_neg (by omega)]⟩
    refine cast (congrArg (fun z => rB z _) ?_) (rBs_to b2 ?_)
    · rw [show 104 + 66 * i + 3 = 107 + 66 * i from by omega]
    · rw [up_at, if_pos rfl]
      unfold stE
      rw [uV_p (by decide), uV_k (by decide), if_pos a1, uV_s]
theorem r_drain (hM : kM H b) {ρ : Nat → Int32} {E : VV} (hr : rI b m00 m ρ) (hB : rB ρ E) (hG : vG E) {i d : Nat} (hi : i < eK E) (a1 : E 9 i 2 = 2) (d1 : 1 ≤ d) (d2 : d ≤ 100) (d3 : E 9 i 9 = nn d) (h2 : 2 ≤ eA E i) (h5 : ∀ k, 1 ≤ k → k < eA E i → E 13 i k ≠ -1) (hd : iHd E i 0 (eA E i)) : fE (f_X12_drain H b (nn i) m) (fun _ m' => ∃ ρ', rI b m00 m' ρ' ∧ rB ρ' (mC E i) ∧ ∀ k, k = 6 ∨ 632 ≤ k → ρ' k = ρ k) := by
  have hK8 := hG.2.2.2.2.1.2.2.1
  have kz : ∀ {V : VV} {k : Nat} {x : Int32}, vG V → vG (uV V 9 i k x) := fun {V k x} h => vG_sm (vSm_k (k89_u (k89_rf V) (Or.inr rfl))) h
  have s3 : ρ (104 + 66 * i + 3) = nn d := by
    rw [rB_st hB hi]
    unfold stE
    rw [if_neg (by rw [a1]; decide), if_pos a1, d3]
  unfold f_X12_drain
  simp (disch := omega) only [nl_3, r_of hM, fb_n, hr.1, s3, nl_1, nn_sub, r_put hM, si_row, up_at, if_pos, nl_0, nn_eq, nl_2, it_T]
  have b1 := rBs_st (x := nn (d - 1)) (rBs_of hB) hG hi
  have b2 := rBs_d (k := 9) (x := nn (d - 1)) b1 hG hi (Or.inl rfl)
  have g2 : vG (uV E 9 i 9 (nn (d - 1))) := kz hG
  by_cases e : d = 1
  · subst e
    rw [if_pos (by omega), mC_D a1 (d3.trans nl_1.symm)]
    have b3 := rBs_9 (k := 2) (x := nn 3) b2 g2 hi (by omega) (by omega) (by omega)
    have g3 : vG (uV (uV E 9 i 9 (nn (1 - 1))) 9 i 2 (nn 3)) := kz g2
    have b4 := rBs_st (x := nn 1) b3 g3 hi
    refine fE_ret ⟨_, rI_u (rI_u (rI_u hr)), ?_, fun k hk => by rw [up_at, if_neg (by omega), up_at, if_neg (by omega), up_at, if_neg (by omega)]⟩
    refine cast (congrArg (fun z => rB z _) ?_) (rBs_to b4 ?_)
    · rw [show 104 + 66 * i + 3 = 107 + 66 * i from by omega]
      rfl
    · rw [up_at, if_pos rfl]
      unfold stE
      rw [uV_s, if_neg (by decide), if_neg (by decide), if_pos (by decide)]
      obtain ⟨x, x1, x2, x3, x4, x5⟩ := fx_ex hd h2
      have ex : x = 1 := by
        by_cases q : x = 1
        · exact q
        · exact absurd (x4 1 (by omega) (by omega)) (h5 1 (by omega) (by omega))
      show nn 1 = ii (clX E i)
      rw [x3, ex]
      rfl
  · rw [if_neg (by omega), mC_C a1 d3 (by omega) d2]
    refine fE_ret ⟨_, rI_u hr, ?_, fun k hk => by rw [up_at, if_neg (by omega)]⟩
    refine cast (congrArg (fun z => rB z _) ?_) (rBs_to b2 ?_)
    · rw [show 104 + 66 * i + 3 = 107 + 66 * i from by omega]
    · rw [up_at, if_pos rfl]
      unfold stE
      rw [uV_p (by decide), if_neg (by rw [a1]; decide), if_pos a1, uV_s]
end
