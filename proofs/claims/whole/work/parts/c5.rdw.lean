/-! calls, side by side: ways, packets, means -/
theorem div12 {f g : Nat} (hf : f < 10) (hg : g < 12) : (nn (f * 12 + g) : Int32) / 12 = nn f := by
  rw [← Int32.toInt_inj, Int32.toInt_div, nn_t (by omega), nn_t (by omega)]
  show (((f * 12 + g : Nat) : Int).tdiv 12).bmod (2 ^ 32) = f
  rw [Int.tdiv_eq_ediv_of_nonneg (by omega), show (((f * 12 + g : Nat) : Int) / 12) = (f : Int) by omega]
  exact Int.bmod_eq_of_le (by omega) (by omega)
theorem mod12 {f g : Nat} (hf : f < 10) (hg : g < 12) : (nn (f * 12 + g) : Int32) - nn (f * 12 + g) / 12 * 12 = nn g := by
  rw [div12 hf hg, nl_12, nn_mul, nn_sub (by omega)]
  exact congrArg nn (by omega)
section
variable {H : fm_H} {m m1 m2 m00 : fm_M} {Lo : Nat → Nat → Int32} {T T' x b s t n tn : Nat} {E : VV} {l : List (Nat → Int32)} {d tx : Nat → Nat} {sv : Nat → Option (VV × List (Nat → Int32))} {c p : Int32}
theorem c_slots {u v w : Int32} (h : slR u v w) : f_X11_spaceOfSlot H w m = some (u, m) ∧ f_X11_labelOfSlot H w m = some (v, m) := by
  unfold f_X11_spaceOfSlot f_X11_labelOfSlot
  rcases h with ⟨rfl, rfl, rfl⟩ | ⟨f, g, hf, hg, rfl, rfl, rfl⟩
  · exact ⟨rfl, rfl⟩
  · have h0 : (0 : Int32) ≤ nn (f * 12 + g) := by rw [nl_0]; exact (nn_le (by omega) (by omega)).mpr (by omega)
    rw [if_pos h0, if_neg (by decide), if_pos h0, if_neg (by decide), div12 hf hg]
    refine ⟨rfl, ?_⟩
    have := mod12 hf hg
    rw [div12 hf hg] at this
    rw [this]
/-- what is asked of a way -/
theorem c_way46 {ρ : Nat → Int32} {w pl n c i y : Nat} (hw : kW H w) (hn : m.1 w 0 = ii n) (h1 : ∀ k, k < n → m.1 (w + 1) k = E (11 + 4 * c) i k) (h3 : ∀ k, k < n → m.1 (w + 3) k = E (13 + 4 * c) i k) (hW : rW ρ E pl n c i) (hy : y ≤ 2) {v : Int32} (hv : 0 ≤ v.toInt) : f_X11_way_46 H v (nn y) w m = some (.inl (if v.toInt < n then ρ (pl + (if y = 0 then 1 else if y = 1 then 7 else 13) + v.toInt.toNat) else -1), m) := by
  obtain ⟨w0, w1, w2, w3⟩ := hW
  have ev := ii_of v
  have hv2 := Int32.toInt_lt v
  unfold f_X11_way_46
  have h : y = 0 ∨ y = 1 ∨ y = 2 := by omega
  have na := c_nodeAt (H := H) hw hn w1 (j := v.toInt) (by omega) (by omega)
  have sa := c_slotAt (H := H) hw hn w1 (j := v.toInt) (by omega) (by omega)
  rw [← ev] at na sa
  by_cases hn2 : v.toInt < n
  · rw [if_pos ⟨hv, hn2⟩] at na sa
    have hk : v.toInt.toNat < n := by omega
    rw [if_pos hn2]
    obtain ⟨q1, q2⟩ := c_slots (H := H) (m := m) (w3 _ hk)
    rcases h with h | h | h
    · subst h
      rw [if_pos (show nn 0 = 0 from rfl), na, fb_n, h1 _ hk, if_pos rfl, w2 _ hk]
    · subst h
      rw [if_neg (by decide), sa, fb_n, if_pos (show nn 1 = 1 from rfl), h3 _ hk, q1, fb_n]
      rfl
    · subst h
      rw [if_neg (by decide), sa, fb_n, if_neg (by decide), h3 _ hk, q2, fb_n]
      rfl
  · rw [if_neg (fun z => hn2 z.2)] at na sa
    rw [if_neg hn2]
    rcases h with h | h | h
    · subst h
      rw [if_pos (show nn 0 = 0 from rfl), na, fb_n]
    · subst h
      rw [if_neg (by decide), sa, fb_n, if_pos (show nn 1 = 1 from rfl)]
      rfl
    · subst h
      rw [if_neg (by decide), sa, fb_n, if_neg (by decide)]
      rfl
theorem r_way49 (hM : kM H b) {ρ : Nat → Int32} (hr : m.1 (b + 1) = ρ) {n c i y : Nat} (hi : i < 8) (hc : c < 2) (hn : ρ (120 + 66 * i + 25 * c) = nn n) (h6 : n ≤ 6) (hy : y ≤ 2) {v : Int32} (hv : 0 ≤ v.toInt) : f_X12_way_49 H b v (nn y) (nn c) (nn i) m = some (if v.toInt < n then ρ (120 + 66 * i + 25 * c + (if y = 0 then 1 else if y = 1 then 7 else 13) + v.toInt.toNat) else -1, m) := by
  have hv2 := Int32.toInt_lt v
  unfold f_X12_way_49
  rw [r_wayPlace, fb_n, kM_0 hM, kM_z1 hM, if_pos ((nn_in (by omega)).mpr (by omega)), nn_tn (by omega), hr, hn]
  have lt : v < nn n ↔ v.toInt < n := by
    rw [Int32.lt_iff_toInt_lt, nn_t (by omega)]
  by_cases hn2 : v.toInt < n
  · obtain ⟨k, hk, rfl⟩ := rgC (K := n) (by omega) ⟨hv, hn2⟩
    rw [if_pos (lt.mpr hn2), if_pos hn2, nn_t (by omega), show ((k : Nat) : Int).toNat = k from rfl]
    have h : y = 0 ∨ y = 1 ∨ y = 2 := by omega
    rcases h with h | h | h
    · subst h
      rw [if_pos (show nn 0 = 0 from rfl), nl_1, nn_add, nn_add, if_pos ((nn_in (by omega)).mpr (by omega)), nn_tn (by omega)]
      rfl
    · subst h
      rw [if_neg (by decide), if_pos (show nn 1 = 1 from rfl), nl_7, nn_add, nn_add, if_pos ((nn_in (by omega)).mpr (by omega)), nn_tn (by omega)]
      rfl
    · subst h
      rw [if_neg (by decide), if_neg (by decide), nl_13, nn_add, nn_add, if_pos ((nn_in (by omega)).mpr (by omega)), nn_tn (by omega)]
      rfl
  · rw [if_neg (fun z => hn2 (lt.mp z)), if_neg hn2]
theorem t_way (hX : kX H x) (hM : kM H b) (hb : x + 661 ≤ b) (hT : TOP Lo T x b m) (v : Int32) (u : Bool) (w z : Int32) : CALL Lo x b T (f_X11_way H x v (bi u) w z m) (f_X12_way H b v (bi u) w z) (an [pm_xB, pm_xA]) := by
  have hT0 := hT
  obtain ⟨s, t, E, l, n, d, sv, tn, tx, c, p, hK, hR, hI, hN, hW, h2⟩ := hT
  obtain ⟨hS, -⟩ := cN_S hX hK.1
  obtain ⟨a1, a2, a3, a4, a5, a6⟩ := aS_x hK.1.2.2.2.1
  have h4 := rB_4 hR.1
  have rr : (fm_si m b 7 0).1 (b + 1) = m.1 (b + 1) := si_oth (by omega)
  by_cases hv : 0 ≤ v.toInt ∧ v.toInt < eK E
  · obtain ⟨i, hi, rfl⟩ := rgC (by omega) hv
    have h48 := h4.2
    by_cases hw : (0 : Int32) ≤ w
    · have hw' : 0 ≤ w.toInt := by
        rw [Int32.le_iff_toInt_le] at hw
        exact hw
      by_cases hz : (0 : Int32) ≤ z ∧ z ≤ nn 2
      · obtain ⟨y, -, y1, rfl⟩ := rgN (lo := 0) (hi := 2) (by omega) (by omega) hz
        have hRW := hR.1.1.2.1.2.2 i hi
        have e10 : m.1 (m.2.1 (m.2.1 (s + 26) i) 13) 0 = ii (eW E i 0) := ((rd10 (V := cv m s) rfl (i := i) (by omega) 0).trans (a3 10 i 0 (by omega))).trans (hI.1.1.2.2.2.2.2.2.1 i (by omega)).1
        have e14 : m.1 (m.2.1 (m.2.1 (s + 26) i) 14) 0 = ii (eW E i 1) := ((rd14 (V := cv m s) rfl (i := i) (by omega) 0).trans (a3 14 i 0 (by omega))).trans (hI.1.1.2.2.2.2.2.2.2 i (by omega)).1
        have cls : f_X11_way H x (nn i) (bi u) w (nn y) m = if u = false then f_X11_way_46 H w (nn y) (m.2.1 (m.2.1 (s + 26) i) 13) m else f_X11_way_46 H w (nn y) (m.2.1 (m.2.1 (s + 26) i) 14) m := by
          unfold f_X11_way f_X11_checkIndex f_X11_checkWhat
          rw [c_ckC hX hK.1, if_pos hv, fb_x, if_pos hw, fb_x, c_out, fb_n, decide_eq_true (show (0 : Int32) ≤ nn y ∧ nn y ≤ 2 from hz), if_pos (by decide), fb_x, hK.1.2.1, kS_3 hS, kS_z26 hS, show px_inb (nn i) 8 = true from (nn_in (by omega)).mpr (by omega), nn_tn (by omega), pS_cb hS a1 (i := i) (by omega), kW_b (pS_wo hS a1 (i := i) (by omega)), kW_b (pS_wf hS a1 (i := i) (by omega)), fm_is_b hS.1]
          cases u with
          | false => rfl
          | true => rfl
        have ref : f_X12_way H b (nn i) (bi u) w (nn y) m = f_X12_way_49 H b w (nn y) (nn (if u = false then 0 else 1)) (nn i) (fm_si m b 7 0) := by
          unfold f_X12_way
          rw [fb_d, r_isCircuit hM rr h4.1 h4.2, fb_n, decide_eq_true hv, if_neg (by decide), if_pos hw, r_isBetween, fb_n, decide_eq_true (show (0 : Int32) ≤ nn y ∧ nn y ≤ 2 from hz), if_neg (by decide)]
          cases u with
          | false => rfl
          | true => rfl
        cases u with
        | false =>
          refine call_rd hb hT0 (cls.trans (c_way46 (E := E) (c := 0) (i := i) (ρ := m.1 (b + 1)) (pl := 120 + 66 * i + 25 * 0) (pS_wo hS a1 (i := i) (by omega)) e10 (fun k _ => (rd11 (V := cv m s) rfl (i := i) (by omega) k).trans (a3 11 i k (by omega))) (fun k _ => (rd13 (V := cv m s) rfl (i := i) (by omega) k).trans (a3 13 i k (by omega))) (hRW 0 (by omega)) y1 hw')) ?_
          have := r_way49 hM (m := fm_si m b 7 0) rr (i := i) (c := 0) (by omega) (by omega) (hRW 0 (by omega)).1 (hRW 0 (by omega)).2.1 y1 hw'
          rw [ref]
          rw [show nn (if false = false then 0 else 1) = nn 0 from rfl, this]
          exact fE_ret ⟨rfl, rI_7 rfl⟩
        | true =>
          refine call_rd hb hT0 (cls.trans (c_way46 (E := E) (c := 1) (i := i) (ρ := m.1 (b + 1)) (pl := 120 + 66 * i + 25 * 1) (pS_wf hS a1 (i := i) (by omega)) e14 (fun k _ => (rd15 (V := cv m s) rfl (i := i) (by omega) k).trans (a3 15 i k (by omega))) (fun k _ => (rd17 (V := cv m s) rfl (i := i) (by omega) k).trans (a3 17 i k (by omega))) (hRW 1 (by omega)) y1 hw')) ?_
          have := r_way49 hM (m := fm_si m b 7 0) rr (i := i) (c := 1) (by omega) (by omega) (hRW 1 (by omega)).1 (hRW 1 (by omega)).2.1 y1 hw'
          rw [ref]
          rw [show nn (if true = false then 0 else 1) = nn 1 from rfl, this]
          exact fE_ret ⟨rfl, rI_7 rfl⟩
      · refine call_e hb hT0 (Nat.le_refl _) (k := 1) (e := pm_xA) (y := 0) rfl ?_ ?_
        · unfold f_X11_way f_X11_checkIndex f_X11_checkWhat
          rw [c_ckC hX hK.1, if_pos hv, fb_x, if_pos hw, fb_x, c_out, fb_n, decide_eq_false (show ¬ ((0 : Int32) ≤ z ∧ z ≤ 2) from hz), if_neg (by decide), fb_e]
        · unfold f_X12_way
          rw [fb_d, r_isCircuit hM rr h4.1 h4.2, fb_n, decide_eq_true hv, if_neg (by decide), if_pos hw, r_isBetween, fb_n, decide_eq_false (show ¬ ((0 : Int32) ≤ z ∧ z ≤ 2) from hz), if_pos (by decide), r_fail, fb_n]
          rfl
    · refine call_e hb hT0 (Nat.le_refl _) (k := 0) (e := pm_xB) (y := 0) rfl ?_ ?_
      · unfold f_X11_way f_X11_checkIndex
        rw [c_ckC hX hK.1, if_pos hv, fb_x, if_neg hw, fb_e]
      · unfold f_X12_way
        rw [fb_d, r_isCircuit hM rr h4.1 h4.2, fb_n, decide_eq_true hv, if_neg (by decide), if_neg hw, r_fail, fb_n]
        rfl
  · refine call_e hb hT0 (Nat.le_refl _) (k := 0) (e := pm_xB) (y := 0) rfl ?_ ?_
    · unfold f_X11_way
      rw [c_ckC hX hK.1, if_neg hv, fb_e]
    · unfold f_X12_way
      rw [fb_d, r_isCircuit hM rr h4.1 h4.2, fb_n, decide_eq_false hv, if_pos (by decide), r_fail, fb_n]
      rfl
/-- packets -/
theorem cN_pk (hK : cN m x s t E l) {q : Nat} (hq : q < l.length) : ∃ r, l[q]? = some r ∧ ∀ k, vk 18 k = true → m.1 (m.2.1 (s + 27) q) k = r k := by
  obtain ⟨a1, a2, a3, a4, a5, a6⟩ := hK.2.2.2.1
  refine ⟨cv m s 18 q, ?_, fun k hk => rd18 rfl (by omega) k hk⟩
  rw [← a3]
  have := sg_at (V := cv m s) (n := l.length) (a := 0) hq
  rw [Nat.zero_add] at this
  exact this
theorem c_packet (hX : kX H x) (hK : cN m x s t E l) {ρ : Nat → Int32} (hP : rP ρ l) {q y : Nat} (hq : q < l.length) (hy : y ≤ 6) : f_X11_packet H x (nn q) (nn y) m = some (.inl (ρ (632 + 8 * q + y)), m) := by
  obtain ⟨hS, -⟩ := cN_S hX hK
  obtain ⟨a1, a2, a3, a4, a5, a6⟩ := aS_x hK.2.2.2.1
  have h60 := hP.2.1
  have e6 : m.1 s 6 = nn l.length := ((cN_rd hK).1 6).trans hK.2.2.2.1.2.2.2.1
  obtain ⟨r, r1, r2⟩ := cN_pk hK hq
  obtain ⟨g0, g1, g2, g3, g4, g5, g6⟩ := hP.2.2 q r r1
  obtain ⟨s1, s2⟩ := c_slots (H := H) (m := m) g4
  unfold f_X11_packet f_X11_checkWhat
  rw [hK.2.1, if_pos (fm_is_b hS.1), e6, nn_dec (by omega), c_out, fb_n, decide_eq_true (show (0 : Int32) ≤ nn q ∧ nn q ≤ nn (l.length - 1) from w_le (by omega) (by omega)), if_pos (by decide), c_out, fb_n, decide_eq_true (show (0 : Int32) ≤ nn y ∧ nn y ≤ 6 from w_le (g := 6) hy (by omega)), if_pos (by decide), fb_x, hK.2.1, if_pos (fm_is_b hS.1), kS_4 hS, kS_z27 hS, if_pos ((nn_in (by omega)).mpr (by omega)), nn_tn (by omega), if_pos (pS_pb hS a1 (by omega)), sw_at (k := y) (by rw [nn_t (by omega)]; omega)]
  have h : y = 0 ∨ y = 1 ∨ y = 2 ∨ y = 3 ∨ y = 4 ∨ y = 5 ∨ y = 6 := by omega
  rcases h with h | h | h | h | h | h | h
  · subst h; exact congrArg (fun z => some (Sum.inl z, m)) ((r2 0 rfl).trans g0.symm)
  · subst h; exact congrArg (fun z => some (Sum.inl z, m)) ((r2 1 rfl).trans g1.symm)
  · subst h; exact congrArg (fun z => some (Sum.inl z, m)) ((r2 3 rfl).trans g2.symm)
  · subst h; exact congrArg (fun z => some (Sum.inl z, m)) ((r2 4 rfl).trans g3.symm)
  · subst h
    show (fm_bn (f_X11_spaceOfSlot H (m.1 (m.2.1 (s + 27) q) 5) m) fun x3 m3 => some (Sum.inl x3, m3)) = _
    rw [r2 5 rfl, s1, fb_n]
  · subst h
    show (fm_bn (f_X11_labelOfSlot H (m.1 (m.2.1 (s + 27) q) 5) m) fun x3 m3 => some (Sum.inl x3, m3)) = _
    rw [r2 5 rfl, s2, fb_n]
  · subst h; exact congrArg (fun z => some (Sum.inl z, m)) ((r2 6 rfl).trans g5.symm)
theorem t_packet (hX : kX H x) (hM : kM H b) (hb : x + 661 ≤ b) (hT : TOP Lo T x b m) (v w : Int32) : CALL Lo x b T (f_X11_packet H x v w m) (f_X12_packet H b v w) (an [pm_xB, pm_xA]) := by
  have hT0 := hT
  obtain ⟨s, t, E, l, n, d, sv, tn, tx, c, p, hK, hR, hI, hN, hW, h2⟩ := hT
  obtain ⟨hS, -⟩ := cN_S hX hK.1
  have rr : (fm_si m b 7 0).1 (b + 1) = m.1 (b + 1) := si_oth (by omega)
  have h60 := hR.1.2.2.1
  have e6 : m.1 s 6 = nn l.length := ((cN_rd hK.1).1 6).trans hK.1.2.2.2.1.2.2.2.1
  have ed : (nn l.length : Int32) - 1 = ii ((l.length : Int) - 1) := ii_dec _
  by_cases hv : (0 : Int32) ≤ v ∧ v ≤ nn l.length - 1
  · obtain ⟨q, hq, rfl⟩ : ∃ q, q < l.length ∧ v = nn q := by
      obtain ⟨z1, z2⟩ := hv
      rw [ed] at z2
      rw [Int32.le_iff_toInt_le] at z1 z2
      rw [ii_toInt (by omega) (by omega)] at z2
      change 0 ≤ v.toInt at z1
      obtain ⟨g, g1, g2⟩ := rgC (v := v) (K := l.length) (by omega) ⟨z1, by omega⟩
      exact ⟨g, g1, g2⟩
    by_cases hw : (0 : Int32) ≤ w ∧ w ≤ nn 6
    · obtain ⟨y, -, y1, rfl⟩ := rgN (lo := 0) (hi := 6) (by omega) (by omega) hw
      refine call_rd hb hT0 (c_packet hX hK.1 hR.1.2 hq y1) ?_
      unfold f_X12_packet
      rw [fb_d, kM_0 hM, kM_z1 hM, if_pos (by decide), rr, show (6 : Int32).toNatClampNeg = 6 by decide, hR.1.2.1, r_isBetween, fb_n, decide_eq_true hv, if_neg (by decide), r_isBetween, fb_n, decide_eq_true (show (0 : Int32) ≤ nn y ∧ nn y ≤ 6 from hw), if_neg (by decide), r_ofPacket hM (by omega), fb_n, rr]
      exact fE_ret ⟨rfl, rI_7 rfl⟩
    · refine call_e hb hT0 (Nat.le_refl _) (k := 1) (e := pm_xA) (y := 0) rfl ?_ ?_
      · unfold f_X11_packet f_X11_checkWhat
        rw [hK.1.2.1, if_pos (fm_is_b hS.1), e6, c_out, fb_n, decide_eq_true hv, if_pos (by decide), c_out, fb_n, decide_eq_false (show ¬ ((0 : Int32) ≤ w ∧ w ≤ 6) from hw), if_neg (by decide), fb_e]
      · unfold f_X12_packet
        rw [fb_d, kM_0 hM, kM_z1 hM, if_pos (by decide), rr, show (6 : Int32).toNatClampNeg = 6 by decide, hR.1.2.1, r_isBetween, fb_n, decide_eq_true hv, if_neg (by decide), r_isBetween, fb_n, decide_eq_false (show ¬ ((0 : Int32) ≤ w ∧ w ≤ 6) from hw), if_pos (by decide), r_fail, fb_n]
        rfl
  · refine call_e hb hT0 (Nat.le_refl _) (k := 0) (e := pm_xB) (y := 0) rfl ?_ ?_
    · unfold f_X11_packet
      rw [hK.1.2.1, if_pos (fm_is_b hS.1), e6, c_out, fb_n, decide_eq_false hv, if_neg (by decide)]
    · unfold f_X12_packet
      rw [fb_d, kM_0 hM, kM_z1 hM, if_pos (by decide), rr, show (6 : Int32).toNatClampNeg = 6 by decide, hR.1.2.1, r_isBetween, fb_n, decide_eq_false hv, if_pos (by decide), r_fail, fb_n]
      rfl
end
