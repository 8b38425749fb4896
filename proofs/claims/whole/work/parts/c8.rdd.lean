/-! calls, side by side: means, usage, drafts -/
theorem su_B {f : Nat → Int32} {B : Nat} : ∀ {n j : Nat}, (∀ k, j ≤ k → k < j + n → ∃ d, d ≤ B ∧ f k = nn d) → ∃ D, D ≤ n * B ∧ su f j n = nn D := by
  intro n
  induction n with
  | zero => exact fun _ => ⟨0, by omega, nl_0⟩
  | succ n ih =>
    intro j h
    obtain ⟨D, d1, d2⟩ := ih (j := j + 1) (fun k k1 k2 => h k (by omega) (by omega))
    obtain ⟨e, e1, e2⟩ := h j (by omega) (by omega)
    refine ⟨e + D, by rw [Nat.succ_mul]; omega, ?_⟩
    show f j + su f (j + 1) n = _
    rw [d2, e2, nn_add]
theorem su_ge {f : Nat → Int32} : ∀ {n j : Nat}, n ≤ 100 → (∀ k, j ≤ k → k < j + n → ∃ d, 1 ≤ d ∧ d ≤ 99 ∧ f k = nn d) → ∃ D, n ≤ D ∧ D ≤ 99 * n ∧ su f j n = nn D := by
  intro n
  induction n with
  | zero => exact fun _ _ => ⟨0, by omega, by omega, nl_0⟩
  | succ n ih =>
    intro j hn h
    obtain ⟨D, d0, d1, d2⟩ := ih (j := j + 1) (by omega) (fun k k1 k2 => h k (by omega) (by omega))
    obtain ⟨e, e0, e1, e2⟩ := h j (by omega) (by omega)
    refine ⟨e + D, by omega, by omega, ?_⟩
    show f j + su f (j + 1) n = _
    rw [d2, e2, nn_add]
theorem rsv_B {E : VV} {x e : Int32} (hS : iS E) (h8 : eK E ≤ 8) : ∃ D, D ≤ 160 ∧ rsv E (eK E) (eA E) (eB E) x e = nn D := by
  obtain ⟨D, d1, d2⟩ := su_B (f := fun i => if ii i = e then 0 else if us E (eA E) (eB E) i x = true then E 9 i 0 else 0) (B := 20) (n := eK E) (j := 0) (fun i _ hi => by
    split
    · exact ⟨0, by omega, nl_0⟩
    · split
      · exact hS.2.2.2.1 i (by omega)
      · exact ⟨0, by omega, nl_0⟩)
  exact ⟨D, by omega, d2⟩
section
variable {H : fm_H} {m m0 m1 m2 m00 : fm_M} {Lo : Nat → Nat → Int32} {T T' x b s t n tn : Nat} {E : VV} {l : List (Nat → Int32)} {d tx : Nat → Nat} {sv : Nat → Option (VV × List (Nat → Int32))} {c p : Int32}
theorem t_meanDelay (hX : kX H x) (hM : kM H b) (hb : x + 661 ≤ b) (hT : TOP Lo T x b m) (hTT : T ≤ 10000000) (v : Int32) : CALL Lo x b T (f_X11_meanDelay H x v m) (f_X12_meanDelay H b v) (fun r r' th => (r = .inl r' ∧ th = 0) ∨ (r = .inr pm_xB ∧ th = 1)) := by
  have hT0 := hT
  obtain ⟨s, t, E, l, n, d, sv, tn, tx, c, p, hK, hR, hI, hN, hW, h2⟩ := hT
  obtain ⟨hS, -⟩ := cN_S hX hK.1
  obtain ⟨a1, a2, a3, a4, a5, a6⟩ := aS_x hK.1.2.2.2.1
  have h4 := rB_4 hR.1
  have h48 := h4.2
  have rr : (fm_si m b 7 0).1 (b + 1) = m.1 (b + 1) := si_oth (by omega)
  by_cases hv : 0 ≤ v.toInt ∧ v.toInt < eK E
  · obtain ⟨i, hi, rfl⟩ := rgC (by omega) hv
    obtain ⟨τ, t1, t2, t3⟩ := hN.2
    obtain ⟨δ, d1, d2⟩ := t3 i hi
    have c5 : m.1 (b + 1) (104 + 66 * i + 7) = nn δ := ((hR.1.1.2.2 i hi).1 5 (by omega) (by omega) (by omega)).trans d2
    have c11 : m.1 (b + 1) (104 + 66 * i + 11) = E 9 i 11 := (hR.1.1.2.2 i hi).1 11 (by omega) (by omega) (by omega)
    have hc : f_X11_meanDelay H x (nn i) m = if 0 < nn δ then (if fm_n64 (FP.ddiv (FP.i2d (E 9 i 11)) (FP.i2d (nn δ))) = true then some (.inl (FP.ddiv (FP.i2d (E 9 i 11)) (FP.i2d (nn δ))), m) else none) else some (.inl (13830554455654793216 : UInt64), m) := by
      unfold f_X11_meanDelay
      rw [c_ckC hX hK.1, if_pos hv, fb_x, hK.1.2.1, if_pos (fm_is_b hS.1), kS_3 hS, kS_z26 hS, if_pos ((nn_in (by omega)).mpr (by omega)), nn_tn (by omega), if_pos (pS_cb hS a1 (by omega)), rd9i hK.1 (by omega), rd9i hK.1 (by omega), d2]
    have hr : f_X12_meanDelay H b (nn i) m = if nn δ = 0 then some ((13830554455654793216 : UInt64), fm_si m b 7 0) else (if fm_n64 (FP.ddiv (FP.i2d (E 9 i 11)) (FP.i2d (nn δ))) = true then some (FP.ddiv (FP.i2d (E 9 i 11)) (FP.i2d (nn δ)), fm_si m b 7 0) else none) := by
      unfold f_X12_meanDelay f_X12_meanDelay_14
      rw [r_isCircuit hM rfl h4.1 h4.2, fb_n, decide_eq_true hv, if_neg (by decide), fb_d, si_s, if_pos rfl, nl_7, r_of hM (by omega), fb_n, rr, c5, nl_11, r_of hM (by omega), fb_n, rr, c11]
    have key : ∃ y, f_X11_meanDelay H x (nn i) m = some (.inl y, m) ∧ f_X12_meanDelay H b (nn i) m = some (y, fm_si m b 7 0) := by
      by_cases h0 : δ = 0
      · rw [hc, hr, h0, if_neg (by decide), if_pos (show nn 0 = 0 from rfl)]
        exact ⟨_, rfl, rfl⟩
      · have hpos : 0 < nn δ := by rw [nl_0]; exact (nn_lt (by omega) (by omega)).mpr (by omega)
        have hne : nn δ ≠ 0 := by rw [nl_0]; exact fun z => h0 ((nn_eq (by omega) (by omega)).mp z)
        rw [hc, hr, if_pos hpos, if_neg hne, if_pos (n64_ok hpos), if_pos (n64_ok hpos)]
        exact ⟨_, rfl, rfl⟩
    obtain ⟨y, y1, y2⟩ := key
    unfold CALL
    rw [y1]
    refine fE_ret ?_
    rw [y2]
    exact fE_ret ⟨Or.inl ⟨rfl, si_s⟩, top_7 hb hT0 (Nat.le_refl _)⟩
  · unfold CALL f_X11_meanDelay
    rw [c_ckC hX hK.1, if_neg hv, fb_e]
    refine fE_ret ?_
    unfold f_X12_meanDelay f_X12_meanDelay_14
    rw [r_isCircuit hM rfl h4.1 h4.2, fb_n, decide_eq_false hv, if_pos (by decide), fb_d, si_s, if_neg (by decide)]
    exact fE_ret ⟨Or.inr ⟨rfl, si_s⟩, top_7 hb hT0 (Nat.le_refl _)⟩
theorem r_usage_l (hM : kM H b) {ρ : Nat → Int32} (hr : m.1 (b + 1) = ρ) (hA : rAll ρ E l) (hI : iG E l) {Q : UInt32 → fm_M → Prop} (hQ : ∀ a d : Int32, a = su (fun i => rsv E (eK E) (eA E) (eB E) (ii i) (-1)) 0 (eL E) → d = su (fun k => E 3 k 2) 0 (eL E) → fE (if d = 0 then some (FP.fconst0, m) else if fm_n32 (FP.fdiv (FP.i2f a) (FP.i2f d)) = true then some (FP.fdiv (FP.i2f a) (FP.i2f d), m) else none) Q) : ∀ (k q j : Nat) (a d : Int32), j + k = eL E → k < q → a + su (fun i => rsv E (eK E) (eA E) (eB E) (ii i) (-1)) j k = su (fun i => rsv E (eK E) (eA E) (eB E) (ii i) (-1)) 0 (eL E) → d + su (fun k => E 3 k 2) j k = su (fun k => E 3 k 2) 0 (eL E) → fE (f_X12_usage_11 H b q a d (nn j) m) Q := by
  obtain ⟨h31, h32, -, -⟩ := eL_16 hA hI
  intro k
  induction k with
  | zero =>
    intro q j a d h1 h2 ha hd
    obtain ⟨q, rfl⟩ : ∃ q', q = q' + 1 := ⟨q - 1, by omega⟩
    unfold f_X12_usage_11
    rw [kM_0 hM, kM_z1 hM, if_pos (by decide), hr, show (3 : Int32).toNatClampNeg = 3 by decide, h31, if_pos ((nn_le (by omega) (by omega)).mpr (by omega))]
    exact hQ a d (by rw [← ha]; exact (Int32.add_zero a).symm) (by rw [← hd]; exact (Int32.add_zero d).symm)
  | succ k ih =>
    intro q j a d h1 h2 ha hd
    obtain ⟨q, rfl⟩ : ∃ q', q = q' + 1 := ⟨q - 1, by omega⟩
    unfold f_X12_usage_11
    rw [kM_0 hM, kM_z1 hM, if_pos (by decide), show (3 : Int32).toNatClampNeg = 3 by decide, show m.1 (b + 1) 3 = nn (eL E) from by rw [hr]; exact h31, if_neg (by rw [nn_le (by omega) (by omega)]; omega), r_reserved hM hr hA.1.1 hI.1.1 (rB_4 hA).1 (rB_4 hA).2 (fun i hi _ => rV_all hA hI i hi), fb_n, nl_2, r_ofLink hM (by omega), fb_n, hr, hA.1.1.2.2.2.2.2.2.2 j (by omega) 2 (by omega), nn_inc]
    refine ih q (j + 1) _ _ (by omega) (by omega) ?_ ?_
    · rw [← ha, Int32.add_assoc]
      rfl
    · rw [← hd, Int32.add_assoc]
      rfl
theorem t_usage (hX : kX H x) (hM : kM H b) (hb : x + 661 ≤ b) (hT : TOP Lo T x b m) : CALL Lo x b T (f_X11_usage H x m) (f_X12_usage H b) eqA := by
  have hT0 := hT
  obtain ⟨s, t, E, l, n, d, sv, tn, tx, c, p, hK, hR, hI, hN, hW, h2⟩ := hT
  obtain ⟨hS, -⟩ := cN_S hX hK.1
  obtain ⟨a1, a2, a3, a4, a5, a6⟩ := aS_x hK.1.2.2.2.1
  obtain ⟨h31, h32, -, -⟩ := eL_16 hR.1 hI
  have hE : er (cv m s) = E := hK.1.2.2.2.1.2.1
  obtain ⟨C, c1, c2, c3⟩ := su_ge (f := fun k => E 3 k 2) (n := eL E) (j := 0) (by omega) (fun k _ hk => hI.2.2.2.2.2.2.2.1 k (by omega))
  obtain ⟨R, r1, r2⟩ := su_B (f := fun i => rsv E (eK E) (eA E) (eB E) (ii i) (-1)) (B := 160) (n := eL E) (j := 0) (fun i _ hi => rsv_B hI.2.2.2.2.2 (rB_4 hR.1).2)
  have eC : su (fun k => cv m s 3 k 2) 0 (eL (cv m s)) = nn C := by
    rw [← c3, ← hE]
    rfl
  have eR : su (fun i => rsv (cv m s) (eK (cv m s)) (eA (cv m s)) (eB (cv m s)) (ii i) (-1)) 0 (eL (cv m s)) = nn R := by
    rw [← r2, ← hE]
    rfl
  have hR5 : R ≤ 2560 := by
    have : eL E * 160 ≤ 16 * 160 := Nat.mul_le_mul_right 160 h32
    omega
  have nR := nn_t (a := R) (by omega)
  have nC := nn_t (a := C) (by omega)
  have key : ∃ y, f_X11_usage H x m = some (y, m) ∧ fE (f_X12_usage H b m) (fun r' m2 => r' = y ∧ rI b (fm_si m b 7 0) m2 (m.1 (b + 1))) := by
    by_cases h0 : C = 0
    · refine ⟨FP.fconst0, ?_, ?_⟩
      · unfold f_X11_usage
        rw [hK.1.2.1, if_pos (fm_is_b hS.1), kS_0 hS, c_allCapacities hS a1 rfl a2, fb_n, eC, h0, if_neg (by decide)]
      · unfold f_X12_usage
        rw [fb_d]
        refine r_usage_l hM (m := fm_si m b 7 0) (si_oth (by omega)) hR.1 hI (fun a d e1 e2 => ?_) (eL E) fm_N 0 0 0 (by omega) (by unfold fm_N; omega) (Int32.zero_add _) (Int32.zero_add _)
        rw [e2, c3, h0, if_pos (show nn 0 = 0 from rfl)]
        exact fE_ret ⟨rfl, rI_7 rfl⟩
    · have hpos : 0 < nn C := by rw [nl_0]; exact (nn_lt (by omega) (by omega)).mpr (by omega)
      have hne : nn C ≠ 0 := by rw [nl_0]; exact fun z => h0 ((nn_eq (by omega) (by omega)).mp z)
      have ok := n32_ok (a := nn R) hpos ⟨by omega, by omega⟩ (by omega)
      refine ⟨FP.fdiv (FP.i2f (nn R)) (FP.i2f (nn C)), ?_, ?_⟩
      · unfold f_X11_usage
        rw [hK.1.2.1, if_pos (fm_is_b hS.1), kS_0 hS, c_allCapacities hS a1 rfl a2, fb_n, eC, if_pos hpos, hK.1.2.1, if_pos (fm_is_b hS.1), c_reservedOnAll hS a1 rfl a2, fb_n, eR, if_pos ok]
      · unfold f_X12_usage
        rw [fb_d]
        refine r_usage_l hM (m := fm_si m b 7 0) (si_oth (by omega)) hR.1 hI (fun a d e1 e2 => ?_) (eL E) fm_N 0 0 0 (by omega) (by unfold fm_N; omega) (Int32.zero_add _) (Int32.zero_add _)
        rw [e1, e2, c3, r2, if_neg hne, if_pos ok]
        exact fE_ret ⟨rfl, rI_7 rfl⟩
  obtain ⟨y, y1, y2⟩ := key
  exact call_r2 hb hT0 y1 y2
theorem r_inDraft_l (hM : kM H b) (h6 : m.1 b 6 = nn n) (hn : n ≤ 6) (v : Int32) : ∀ (k q j : Nat), j + k = n → k < q → f_X12_isInDraft_2 H b v q (nn j) m = some (bi (ny (fun i => decide (m.1 (b + 6) i = v)) j k), m) := by
  intro k
  induction k with
  | zero =>
    intro q j h1 h2
    obtain ⟨q, rfl⟩ : ∃ q', q = q' + 1 := ⟨q - 1, by omega⟩
    unfold f_X12_isInDraft_2
    rw [h6, if_pos ((nn_le (by omega) (by omega)).mpr (by omega))]
    rfl
  | succ k ih =>
    intro q j h1 h2
    obtain ⟨q, rfl⟩ : ∃ q', q = q' + 1 := ⟨q - 1, by omega⟩
    unfold f_X12_isInDraft_2
    rw [h6, if_neg (by rw [nn_le (by omega) (by omega)]; omega), kM_5 hM, kM_z6 hM, if_pos ((nn_in (by omega)).mpr (by omega)), nn_tn (by omega), nn_inc]
    show _ = some (bi (decide (m.1 (b + 6) j = v) || ny (fun i => decide (m.1 (b + 6) i = v)) (j + 1) k), m)
    by_cases e : m.1 (b + 6) j = v
    · rw [if_pos e, decide_eq_true e]
      rfl
    · rw [if_neg e, decide_eq_false e, Bool.false_or, ih q (j + 1) (by omega) (by omega)]
/-- the draft with a node more -/
def apD (n f : Nat) (d : Nat → Nat) : Nat → Nat := fun k => if k = n then f else d k
theorem apD_s {n f : Nat} {d : Nat → Nat} : apD n f d n = f := if_pos rfl
theorem apD_o {n f k : Nat} {d : Nat → Nat} (h : k ≠ n) : apD n f d k = d k := if_neg h
theorem ny_c2 {f g : Nat → Bool} {k j : Nat} (h : ∀ i, j ≤ i → i < j + k → f i = g i) : ny f j k = ny g j k := ny_c h
theorem t_draft (hX : kX H x) (hM : kM H b) (hb : x + 661 ≤ b) (hT : TOP Lo T x b m) (v : Int32) : CALL Lo x b T (f_X11_draft H x v m) (f_X12_draft H b v) (an [pm_xB, pm_xI]) := by
  have hT0 := hT
  obtain ⟨s, t, E, l, n, d, sv, tn, tx, c, p, hK, hR, hI, hN, hW, h2⟩ := hT
  obtain ⟨hS, -, q1, q2, q3, q4, q5⟩ := cN_S hX hK.1
  obtain ⟨a1, a2, a3, a4, a5, a6⟩ := aS_x hK.1.2.2.2.1
  obtain ⟨h31, h32, h33, h34⟩ := eL_16 hR.1 hI
  have h6 := hW.1
  have kw : kW H (x + 15) := hX.2.2.2.2.1
  have hn : m.1 (x + 15) 0 = ii n := hK.2.1.1
  have rr : ∀ mm : fm_M, mm = fm_si m b 7 0 → mm.1 (b + 1) = m.1 (b + 1) ∧ mm.1 b 6 = nn n ∧ mm.1 (b + 6) = m.1 (b + 6) := fun mm e => by
    rw [e]
    exact ⟨si_oth (by omega), (si_o (by omega)).trans hR.2.1.1, si_oth (by omega)⟩
  by_cases hv : 0 ≤ v.toInt ∧ v.toInt < eN E
  · obtain ⟨f, hf, rfl⟩ := rgC (by omega) hv
    have hlast : f_X10_lastNode H (x + 15) m = some (if n = 0 then -1 else nn (d (n - 1)), m) := by
      rw [c_lastNode kw hn h6]
      by_cases z : n = 0
      · rw [if_pos z, if_pos z]
      · rw [if_neg z, if_neg z, hK.2.1.2.1 _ (by omega)]
    -- the link, as the class sees it
    obtain ⟨lb, hlb, hlb0, hlb1⟩ : ∃ lb, f_X4_linkBetween H (s + 1) (if n = 0 then -1 else nn (d (n - 1))) (nn f) m = some (lb, m) ∧ (n = 0 → lb = -1) ∧ (n ≠ 0 → (lb = -1 ↔ lkE E (nn (d (n - 1))) (nn f) = -1) ∧ lb = ii (lkE E (nn (d (n - 1))) (nn f))) := by
      by_cases z : n = 0
      · rw [if_pos z]
        refine ⟨lbV (cv m s) (eN (cv m s)) (-1) f, by rw [ii_m1]; exact c_linkBetween hS rfl a2 (a := -1) (b := (f : Int)) (by omega) (by omega) (by omega) (by omega), fun _ => ?_, fun h => absurd z h⟩
        unfold lbV
        rw [if_neg (by omega)]
      · rw [if_neg z]
        have hdl := hW.2.1 (n - 1) (by omega)
        refine ⟨_, c_linkBetween hS rfl a2 (a := (d (n - 1) : Int)) (b := (f : Int)) (by omega) (by omega) (by omega) (by omega), fun h => absurd h z, fun _ => ?_⟩
        have hE : er (cv m s) = E := hK.1.2.2.2.1.2.1
        have := lbV_lk (E := E) hI.2.1 h32 (x := d (n - 1)) (y := f) hdl hf h34
        have e : lbV (cv m s) (eN (cv m s)) (d (n - 1)) f = lbV E (eN E) (d (n - 1)) f := by
          rw [← hE]
          rfl
        rw [e]
        exact this
    have hhas : f_X10_hasNode H (x + 15) (nn f) m = some (bi (ny (fun i => decide (nn (d i) = nn f)) 0 n), m) := by
      rw [c_hasNode kw hn h6, ny_c2 (fun i _ hi => by rw [show m.1 (x + 15 + 1) i = nn (d i) from hK.2.1.2.1 i (by omega)])]
    have rhas : ∀ mm : fm_M, mm = fm_si m b 7 0 → f_X12_isInDraft H b (nn f) mm = some (bi (ny (fun i => decide (nn (d i) = nn f)) 0 n), mm) := fun mm e => by
      unfold f_X12_isInDraft
      rw [nl_0, r_inDraft_l hM (rr mm e).2.1 h6 (nn f) n fm_N 0 (by omega) (by unfold fm_N; omega), ny_c2 (fun i _ hi => by rw [(rr mm e).2.2, hR.2.1.2 i (by omega)])]
    have cls : f_X11_draft H x (nn f) m = if 6 ≤ n then some (.inr pm_xI, m) else if ny (fun i => decide (nn (d i) = nn f)) 0 n = true then some (.inr pm_xI, m) else if n ≠ 0 ∧ lkE E (nn (d (n - 1))) (nn f) = -1 then some (.inr pm_xI, m) else some (.inl (nn (n + 1)), wAp m (x + 15) n (nn f) lb) := by
      unfold f_X11_draft
      rw [c_ckN hX hK.1, if_pos hv, fb_x, hK.1.2.1, if_pos (fm_is_b hS.1), show H.2.1 x 2 = x + 15 from hX.2.1.2.2.1, hlast, fb_n, kS_0 hS, hlb, fb_n, hK.2.1.1]
      by_cases c1 : 6 ≤ n
      · rw [if_pos c1, if_pos (by rw [nl_6]; exact (nn_le (by omega) (by omega)).mpr c1)]
      · rw [if_neg c1, if_neg (by rw [nl_6, nn_le (by omega) (by omega)]; exact c1), hhas, fb_n]
        cases c2 : ny (fun i => decide (nn (d i) = nn f)) 0 n with
        | true => rw [if_neg (by decide), it_tt]
        | false =>
          rw [if_pos (by decide), it_ft, hK.2.1.1]
          have ap : f_X10_append H (x + 15) (nn f) lb m = some ((), wAp m (x + 15) n (nn f) lb) := c_append kw hn (by omega) _ _
          have a0 : (wAp m (x + 15) n (nn f) lb).1 (x + 15) 0 = nn (n + 1) := si_s
          by_cases c3 : n = 0
          · rw [if_pos (by rw [c3]; decide), if_neg (fun z => z.1 c3), ap, fb_n, a0]
          · rw [if_neg (by rw [nl_0, nn_le (by omega) (by omega)]; omega)]
            by_cases c4 : lkE E (nn (d (n - 1))) (nn f) = -1
            · rw [if_pos ((hlb1 c3).1.mpr c4), if_pos ⟨c3, c4⟩]
            · rw [if_neg (fun z => c4 ((hlb1 c3).1.mp z)), if_neg (fun z => c4 z.2), ap, fb_n, a0]
    have ref : ∀ mm : fm_M, mm.1 b 6 = nn n → mm.1 (b + 1) = m.1 (b + 1) → (∀ i, i < n → mm.1 (b + 6) i = nn (d i)) → f_X12_draft H b (nn f) mm = if 6 ≤ n then some (0, fm_si (fm_si mm b 7 0) b 7 2) else if ny (fun i => decide (nn (d i) = nn f)) 0 n = true then some (0, fm_si (fm_si mm b 7 0) b 7 2) else if n ≠ 0 ∧ lkE E (nn (d (n - 1))) (nn f) = -1 then some (0, fm_si (fm_si mm b 7 0) b 7 2) else some (nn (n + 1), fm_si (fm_si (fm_si mm b 7 0) (b + 6) n (nn f)) b 6 (nn (n + 1))) := fun mm y6 yr yd => by
      have z6 : (fm_si mm b 7 0).1 b 6 = nn n := (si_o (by omega)).trans y6
      have zr : (fm_si mm b 7 0).1 (b + 1) = m.1 (b + 1) := (si_oth (by omega)).trans yr
      have zd : ∀ i, i < n → (fm_si mm b 7 0).1 (b + 6) i = nn (d i) := fun i hi => by rw [si_oth (by omega)]; exact yd i hi
      have ihas : f_X12_isInDraft H b (nn f) (fm_si mm b 7 0) = some (bi (ny (fun i => decide (nn (d i) = nn f)) 0 n), fm_si mm b 7 0) := by
        unfold f_X12_isInDraft
        show f_X12_isInDraft_2 H b (nn f) fm_N (nn 0) (fm_si mm b 7 0) = _
        rw [r_inDraft_l hM z6 h6 (nn f) n fm_N 0 (by omega) (by unfold fm_N; omega), ny_c2 (fun i _ hi => by rw [zd i (by omega)])]
      have d69 : n < 6 → f_X12_draft_69 H b (nn f) (fm_si mm b 7 0) = some (nn (n + 1), fm_si (fm_si (fm_si mm b 7 0) (b + 6) n (nn f)) b 6 (nn (n + 1))) := fun h => by
        unfold f_X12_draft_69
        rw [z6, kM_5 hM, kM_z6 hM, if_pos ((nn_in (by omega)).mpr h), nn_tn (by omega), fb_d, si_o (by omega), z6, nn_inc, fb_d, si_s]
      unfold f_X12_draft
      rw [fb_d, r_isNode hM zr h33 h34, fb_n, decide_eq_true hv, if_neg (by decide), z6]
      by_cases c1 : 6 ≤ n
      · rw [if_pos c1, if_pos (by rw [show n = 6 by omega]; rfl), r_fail, fb_n]
      · rw [if_neg c1, if_neg (by rw [nl_6, nn_eq (by omega) (by omega)]; omega), ihas, fb_n]
        cases c2 : ny (fun i => decide (nn (d i) = nn f)) 0 n with
        | true => rw [if_neg (by decide), it_tt, r_fail, fb_n]
        | false =>
          rw [if_pos (by decide), it_ft, z6]
          by_cases c3 : n = 0
          · rw [if_pos (by rw [c3]; decide), if_neg (fun z => z.1 c3), d69 (by omega)]
          · have hdl := hW.2.1 (n - 1) (by omega)
            rw [if_neg (by rw [nl_0, nn_le (by omega) (by omega)]; omega), nn_dec (by omega), kM_5 hM, kM_z6 hM, if_pos ((nn_in (by omega)).mpr (by omega)), nn_tn (by omega), zd _ (by omega), r_linkE hM (m00 := fm_si mm b 7 0) (rI_rf zr) hR.1.1.1 hI.1.1, fb_n]
            by_cases c4 : lkE E (nn (d (n - 1))) (nn f) = -1
            · rw [if_pos (by rw [show lkf E (d (n - 1)) f = -1 from c4]; decide), if_pos ⟨c3, c4⟩, r_fail, fb_n]
            · obtain ⟨j, j1, j2⟩ := lkE_r c4
              rw [if_neg (by rw [show lkf E (d (n - 1)) f = (j : Nat) from j2]; exact nn_m1 (by omega)), if_neg (fun z => c4 z.2), d69 (by omega)]
    have er := ref m hR.2.1.1 rfl hR.2.1.2
    by_cases c1 : 6 ≤ n
    · rw [if_pos c1] at cls er
      exact call_e hb hT0 (Nat.le_refl _) (k := 1) (e := pm_xI) rfl cls er
    · rw [if_neg c1] at cls
      rw [if_neg c1] at er
      by_cases c2 : ny (fun i => decide (nn (d i) = nn f)) 0 n = true
      · rw [if_pos c2] at cls er
        exact call_e hb hT0 (Nat.le_refl _) (k := 1) (e := pm_xI) rfl cls er
      · rw [if_neg c2] at cls er
        by_cases c3 : n ≠ 0 ∧ lkE E (nn (d (n - 1))) (nn f) = -1
        · rw [if_pos c3] at cls er
          exact call_e hb hT0 (Nat.le_refl _) (k := 1) (e := pm_xI) rfl cls er
        · rw [if_neg c3] at cls
          clear er
          unfold CALL
          rw [cls]
          refine fE_ret ?_
          obtain ⟨m1, em⟩ : ∃ m1, m1 = wAp m (x + 15) n (nn f) lb := ⟨_, rfl⟩
          have o1 : ∀ a k, ¬ (x + 4 ≤ a ∧ a < x + 19) → m1.1 a k = m.1 a k := fun a k h => by
            rw [em]
            unfold wAp
            rw [si_o (by omega), si_o (by omega), si_o (by omega), si_o (by omega)]
          have o2 : m1.2 = m.2 := by rw [em]; rfl
          have er := ref m1 ((o1 _ _ (by omega)).trans hR.2.1.1) (funext fun k => o1 _ _ (by omega)) (fun i hi => (o1 _ _ (by omega)).trans (hR.2.1.2 i hi))
          rw [if_neg c1, if_neg c2, if_neg c3] at er
          rw [← em, er]
          refine fE_ret ⟨Or.inl ⟨rfl, ?_⟩, ?_⟩
          · rw [si_o (by omega), si_o (by omega), si_s]
          · have hno : ∀ k, k < n → d k ≠ f := fun k hk e => c2 (ny_iff.mpr ⟨k, by omega, by omega, decide_eq_true (by rw [e])⟩)
            refine top_d hX hb hK hR hI hN h2 o1 o2 (tR_tr (tR_tr (tR_g gR_7) ⟨fun a k _ _ _ _ h => si_o (fun z => h z.1), rfl⟩) (tR_g gR_6)) ?_ (n' := n + 1) (d' := apD n f d) ⟨?_, fun k hk => ?_, fun k k1 k2 => ?_⟩ ⟨si_s, fun k hk => ?_⟩ ⟨by omega, fun k hk => ?_, fun k k1 k2 => ?_, fun k k' hk hk' e => ?_⟩
            · rw [si_oth (by omega), si_oth (by omega), si_oth (by omega)]
            · rw [em]
              exact si_s
            · rw [em]
              unfold wAp
              rw [si_o (by omega), si_o (by omega), si_o (by omega)]
              by_cases ek : k = n
              · subst ek
                rw [apD_s]
                exact si_s
              · rw [apD_o ek, si_o (by omega)]
                exact hK.2.1.2.1 k (by omega)
            · rw [em]
              unfold wAp
              rw [si_o (by omega), si_o (by omega), apD_o (show k - 1 ≠ n by omega)]
              by_cases ek : k = n
              · subst ek
                rw [apD_s]
                exact si_s.trans (hlb1 (by omega)).2
              · rw [apD_o ek, si_o (by omega), si_o (by omega)]
                exact hK.2.1.2.2 k k1 (by omega)
            · rw [si_o (by omega)]
              by_cases ek : k = n
              · subst ek
                rw [apD_s]
                exact si_s
              · rw [apD_o ek, si_o (by omega), si_oth (by omega), o1 _ _ (by omega)]
                exact hR.2.1.2 k (by omega)
            · by_cases ek : k = n
              · rw [ek, apD_s]
                exact hf
              · rw [apD_o ek]
                exact hW.2.1 k (by omega)
            · rw [apD_o (show k - 1 ≠ n by omega)]
              by_cases ek : k = n
              · subst ek
                rw [apD_s]
                exact fun z => c3 ⟨by omega, z⟩
              · rw [apD_o ek]
                exact hW.2.2.1 k k1 (by omega)
            · by_cases ek : k = n <;> by_cases ek' : k' = n
              · omega
              · rw [ek, apD_s, apD_o ek'] at e
                exact absurd e.symm (hno k' (by omega))
              · rw [ek', apD_s, apD_o ek] at e
                exact absurd e (hno k (by omega))
              · rw [apD_o ek, apD_o ek'] at e
                exact hW.2.2.2 k k' (by omega) (by omega) e
  · refine call_e hb hT0 (Nat.le_refl _) (k := 0) (e := pm_xB) (y := 0) rfl ?_ ?_
    · unfold f_X11_draft
      rw [c_ckN hX hK.1, if_neg hv, fb_e]
    · unfold f_X12_draft
      rw [fb_d, r_isNode hM (rr _ rfl).1 h33 h34, fb_n, decide_eq_false hv, if_pos (by decide), r_fail, fb_n]
      rfl
end
