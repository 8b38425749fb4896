/-! the reference's search -/
def tP (m : fm_M) (b n : Nat) (P : Nat → Nat) (d : Nat) : Prop := m.1 b 24 = nn n ∧ m.1 b 25 = nn d ∧ ∀ k, k < n → m.1 (b + 8) k = nn (P k)
def tB (m : fm_M) (b : Nat) (z : Bst) : Prop := m.1 b 26 = nn z.1 ∧ m.1 b 27 = nn z.2.1 ∧ ∀ k, k < z.1 → m.1 (b + 9) k = nn (z.2.2 k)
def tU (m : fm_M) (b L : Nat) (op : Nat → Bool) : Prop := ∀ j, j < L → m.1 (b + 10) j = bi (op j)
theorem rI_s {b a k : Nat} {m m0 : fm_M} {ρ : Nat → Int32} {x : Int32} (h : rI b m m0 ρ) (hk : (a = b ∧ 18 ≤ k) ∨ (b + 8 ≤ a ∧ a < b + 11)) : rI b m (fm_si m0 a k x) ρ := by
  refine ⟨?_, fR_tr h.2 ⟨fun c j _ h2 h3 => si_o (fun z => by rcases hk with q | q; exact h2 ⟨by omega, by omega⟩; exact h3 (by omega)), rfl⟩⟩
  rw [si_oth (by omega)]
  exact h.1
section
variable {H : fm_H} {b : Nat} {m m00 : fm_M} {ρ : Nat → Int32} {E : VV} {op : Nat → Bool} {dl : Nat → Nat} {t : Nat}
theorem r_linkE (hM : kM H b) (hr : rI b m00 m ρ) (hN : rN ρ E) (hG : vG E) (x y : Nat) : f_X12_linkOf H b (nn x) (nn y) m = some (ii (lkf E x y), m) := by
  obtain ⟨h3, h16⟩ := rN_3 hN hG
  rw [r_linkOf hM hr.1 h3 h16, lkR_E hN]
  rfl
theorem r_ofL3 (hM : kM H b) (hr : rI b m00 m ρ) (hN : rN ρ E) (hG : vG E) {j : Nat} (hj : j < eL E) : f_X12_ofLink H b (nn j) 3 m = some (E 3 j 3, m) := by
  have := hG.2.2.2.2.1.2.1
  rw [nl_3, r_ofLink hM (by omega), hr.1, hN.2.2.2.2.2.2.2 j hj 3 (by omega)]
theorem r_tried_l (hM : kM H b) {n d x : Nat} {P : Nat → Nat} (hP : tP m b n P d) (h6 : n ≤ 6) (hx : x < 10) (hp : ∀ k, k < n → P k < 10) : ∀ (k q j : Nat), j + k = n → k < q → f_X12_isTried_2 H b (nn x) q (nn j) m = some (bi (ny (fun k => decide (P k = x)) j k), m) := by
  intro k
  induction k with
  | zero =>
    intro q j h1 h2
    obtain ⟨q, rfl⟩ : ∃ q', q = q' + 1 := ⟨q - 1, by omega⟩
    unfold f_X12_isTried_2
    rw [hP.1, if_pos ((nn_le (by omega) (by omega)).mpr (by omega))]
    rfl
  | succ k ih =>
    intro q j h1 h2
    obtain ⟨q, rfl⟩ : ∃ q', q = q' + 1 := ⟨q - 1, by omega⟩
    have hj := hp j (by omega)
    unfold f_X12_isTried_2
    rw [hP.1, if_neg (by rw [nn_le (by omega) (by omega)]; omega), kM_21 hM, kM_z8 hM, if_pos ((nn_in (by omega)).mpr (by omega)), nn_tn (by omega), hP.2.2 j (by omega), nn_inc]
    unfold ny
    by_cases e : P j = x
    · rw [if_pos (by rw [e]), decide_eq_true e]
      rfl
    · rw [if_neg (fun z => e (nn_e (by omega) (by omega) z)), decide_eq_false e]
      exact ih q (j + 1) (by omega) (by omega)
theorem r_isTried (hM : kM H b) {n d x : Nat} {P : Nat → Nat} (hP : tP m b n P d) (h6 : n ≤ 6) (hx : x < 10) (hp : ∀ k, k < n → P k < 10) : f_X12_isTried H b (nn x) m = some (bi (ny (fun k => decide (P k = x)) 0 n), m) := by
  unfold f_X12_isTried
  rw [nl_0]
  exact r_tried_l hM hP h6 hx hp n fm_N 0 (by omega) (by unfold fm_N; omega)
theorem r_go_l (hM : kM H b) (hr : rI b m00 m ρ) (hN : rN ρ E) (hG : vG E) (hdl : ∀ j, j < eL E → E 3 j 3 = nn (dl j) ∧ 1 ≤ dl j ∧ dl j ≤ 9) (hU : tU m b (eL E) op) (ht : t < 10) {n d : Nat} {P : Nat → Nat} (hP : tP m b n P d) (h1 : 1 ≤ n) (h6 : n ≤ 6) (hd : d ≤ 54) (hp : ∀ k, k < n → P k < eN E) : ∀ (k q x : Nat), x + k = eN E ∨ (k = 0 ∧ eN E ≤ x) → x ≤ 20 → k < q → fE (f_X12_goOn_15 H b (nn t) (nn (P (n - 1))) q (nn x) m) (fun r m' => (r = 0 ∧ m' = m ∧ (n = 6 ∨ P (n - 1) = t ∨ ∀ y, x ≤ y → y < x + k → okn (lkf E) op n P y = false)) ∨ (r = 1 ∧ n < 6 ∧ P (n - 1) ≠ t ∧ ∃ y, x ≤ y ∧ y < x + k ∧ okn (lkf E) op n P y = true ∧ (∀ z, x ≤ z → z < y → okn (lkf E) op n P z = false) ∧ tP m' b (n + 1) (upf P n y) (d + dl (lkf E (P (n - 1)) y).toNat) ∧ rI b m00 m' ρ ∧ ∀ a k, (a = b ∧ (k = 26 ∨ k = 27)) ∨ a = b + 9 ∨ a = b + 10 → m'.1 a k = m.1 a k)) := by
  have hN10 := hG.2.2.2.2.1.1
  have hL16 := hG.2.2.2.2.1.2.1
  obtain ⟨h2, -⟩ := rN_2 hN hG
  have hPl := hp (n - 1) (by omega)
  intro k
  induction k with
  | zero =>
    intro q x hx hx20 hq
    obtain ⟨q, rfl⟩ : ∃ q', q = q' + 1 := ⟨q - 1, by omega⟩
    unfold f_X12_goOn_15
    rw [nl_2, nn_tn (by omega), kM_0 hM, kM_z1 hM, if_pos ((nn_in (by omega)).mpr (by omega)), hr.1, h2, if_pos ((nn_le (by omega) (by omega)).mpr (by omega))]
    exact fE_ret (Or.inl ⟨rfl, rfl, Or.inr (Or.inr (fun y a1 a2 => by omega))⟩)
  | succ k ih =>
    intro q x hx hx20 hq
    obtain ⟨q, rfl⟩ : ∃ q', q = q' + 1 := ⟨q - 1, by omega⟩
    have hxN : x < eN E := by omega
    unfold f_X12_goOn_15
    rw [nl_2, nn_tn (by omega), kM_0 hM, kM_z1 hM, if_pos ((nn_in (by omega)).mpr (by omega)), hr.1, h2, if_neg (by rw [nn_le (by omega) (by omega)]; omega), hP.1]
    by_cases e6 : n = 6
    · rw [if_pos (by rw [nl_6, nn_le (by omega) (by omega)]; omega)]
      exact fE_ret (Or.inl ⟨rfl, rfl, Or.inl e6⟩)
    · rw [if_neg (by rw [nl_6, nn_le (by omega) (by omega)]; omega)]
      by_cases et : P (n - 1) = t
      · rw [if_pos (by rw [et])]
        exact fE_ret (Or.inl ⟨rfl, rfl, Or.inr (Or.inl et)⟩)
      · rw [if_neg (fun z => et (nn_e (by omega) (by omega) z)), r_linkE hM hr hN hG, fb_n, nn_inc]
        have eok : okn (lkf E) op n P x = (decide (lkf E (P (n - 1)) x ≠ -1) && (op (lkf E (P (n - 1)) x).toNat && !ny (fun k => decide (P k = x)) 0 n)) := rfl
        have next : okn (lkf E) op n P x = false → fE (f_X12_goOn_15 H b (nn t) (nn (P (n - 1))) q (nn (x + 1)) m) (fun r m' => (r = 0 ∧ m' = m ∧ (n = 6 ∨ P (n - 1) = t ∨ ∀ y, x ≤ y → y < x + (k + 1) → okn (lkf E) op n P y = false)) ∨ (r = 1 ∧ n < 6 ∧ P (n - 1) ≠ t ∧ ∃ y, x ≤ y ∧ y < x + (k + 1) ∧ okn (lkf E) op n P y = true ∧ (∀ z, x ≤ z → z < y → okn (lkf E) op n P z = false) ∧ tP m' b (n + 1) (upf P n y) (d + dl (lkf E (P (n - 1)) y).toNat) ∧ rI b m00 m' ρ ∧ ∀ a k, (a = b ∧ (k = 26 ∨ k = 27)) ∨ a = b + 9 ∨ a = b + 10 → m'.1 a k = m.1 a k)) := by
          intro ho
          refine fE_w (ih q (x + 1) (by omega) (by omega) (by omega)) (fun r m' h => ?_)
          rcases h with ⟨c1, c2, c3⟩ | ⟨c1, c2, c3, y, c4, c5, c6, c7, c8⟩
          · refine Or.inl ⟨c1, c2, ?_⟩
            rcases c3 with c3 | c3 | c3
            · exact Or.inl c3
            · exact Or.inr (Or.inl c3)
            · refine Or.inr (Or.inr (fun y a1 a2 => ?_))
              by_cases ey : y = x
              · rw [ey]; exact ho
              · exact c3 y (by omega) (by omega)
          · refine Or.inr ⟨c1, c2, c3, y, by omega, by omega, c6, fun z a1 a2 => ?_, c8⟩
            by_cases ez : z = x
            · rw [ez]; exact ho
            · exact c7 z (by omega) a2
        by_cases el : lkf E (P (n - 1)) x = -1
        · rw [el, if_pos ii_m1.symm]
          exact next (by rw [eok, decide_eq_false (fun z => z el), Bool.false_and])
        · obtain ⟨j, j1, j2⟩ := lkE_r el
          have ej : lkf E (P (n - 1)) x = (j : Nat) := j2
          have ejn : (lkf E (P (n - 1)) x).toNat = j := by rw [ej]; rfl
          rw [ej, show (ii (j : Int) : Int32) = nn j from rfl, if_neg (nn_m1 (by omega)), kM_23 hM, kM_z10 hM, if_pos ((nn_in (by omega)).mpr (by omega)), nn_tn (by omega), hU j j1]
          have eok2 : okn (lkf E) op n P x = (op j && !ny (fun k => decide (P k = x)) 0 n) := by
            rw [eok, decide_eq_true el, Bool.true_and, ejn]
          cases eo : op j with
          | false =>
            rw [if_pos (by decide)]
            exact next (by rw [eok2, eo, Bool.false_and])
          | true =>
            rw [if_neg (by decide), r_isTried hM hP h6 (by omega) (fun k hk => by have := hp k hk; omega), fb_n]
            cases en : ny (fun k => decide (P k = x)) 0 n with
            | true =>
              rw [if_neg (by decide)]
              exact next (by rw [eok2, en, Bool.not_true, Bool.and_false])
            | false =>
              rw [if_pos (by decide), kM_21 hM, kM_z8 hM, hP.1, if_pos ((nn_in (by omega)).mpr (by omega)), nn_tn (by omega), fb_d]
              have i3 : rI b m00 (fm_si m (b + 8) n (nn x)) ρ := rI_s hr (by omega)
              have e24 : (fm_si m (b + 8) n (nn x)).1 b 24 = nn n := (si_o (by omega)).trans hP.1
              rw [e24, nn_inc, fb_d]
              have i4 : rI b m00 (fm_si (fm_si m (b + 8) n (nn x)) b 24 (nn (n + 1))) ρ := rI_s i3 (by omega)
              have e25 : (fm_si (fm_si m (b + 8) n (nn x)) b 24 (nn (n + 1))).1 b 25 = nn d := (si_o (by omega)).trans ((si_o (by omega)).trans hP.2.1)
              rw [r_ofL3 hM i4 hN hG j1, fb_n, e25, (hdl j j1).1, nn_add, fb_d]
              have i5 : rI b m00 (fm_si (fm_si (fm_si m (b + 8) n (nn x)) b 24 (nn (n + 1))) b 25 (nn (d + dl j))) ρ := rI_s i4 (by omega)
              refine fE_ret (Or.inr ⟨rfl, by omega, et, x, Nat.le_refl _, by omega, by rw [eok2, eo, en]; rfl, fun z a1 a2 => by omega, ⟨?_, ?_, fun k hk => ?_⟩, i5, fun a k h => ?_⟩)
              · rw [si_o (by omega)]
                exact si_s
              · rw [ejn]
                exact si_s
              · rw [si_o (by omega), si_o (by omega)]
                by_cases ek : k = n
                · rw [ek, upf_s]
                  exact si_s
                · rw [upf_o ek, si_o (by omega)]
                  exact hP.2.2 k (by omega)
              · rw [si_o (by omega), si_o (by omega), si_o (by omega)]
theorem r_cmp_l (hM : kM H b) {n d : Nat} {P : Nat → Nat} (h6 : n ≤ 6) (hd : d ≤ 100) : ∀ (k q j : Nat) (m : fm_M), rI b m00 m ρ → tP m b n P d → (∀ k, k < j → m.1 (b + 9) k = nn (P k)) → j + k = n → k < q → fE (f_X12_compareTried_52 H b q (nn j) m) (fun _ m' => rI b m00 m' ρ ∧ tP m' b n P d ∧ tB m' b (n, d, P) ∧ ∀ k, m'.1 (b + 10) k = m.1 (b + 10) k) := by
  intro k
  induction k with
  | zero =>
    intro q j m hr hP hb h1 h2
    obtain ⟨q, rfl⟩ : ∃ q', q = q' + 1 := ⟨q - 1, by omega⟩
    unfold f_X12_compareTried_52
    rw [hP.1, if_pos ((nn_le (by omega) (by omega)).mpr (by omega)), fb_d, show (fm_si m b 26 (nn n)).1 b 25 = nn d from (si_o (by omega)).trans hP.2.1, fb_d]
    refine fE_ret ⟨rI_s (rI_s hr (by omega)) (by omega), ⟨?_, ?_, fun k hk => ?_⟩, ⟨?_, si_s, fun k hk => ?_⟩, fun k => ?_⟩
    · rw [si_o (by omega), si_o (by omega)]; exact hP.1
    · rw [si_o (by omega), si_o (by omega)]; exact hP.2.1
    · rw [si_o (by omega), si_o (by omega)]; exact hP.2.2 k hk
    · rw [si_o (by omega)]; exact si_s
    · have hk' : k < n := hk
      rw [si_o (by omega), si_o (by omega)]; exact hb k (by omega)
    · rw [si_o (by omega), si_o (by omega)]
  | succ k ih =>
    intro q j m hr hP hb h1 h2
    obtain ⟨q, rfl⟩ : ∃ q', q = q' + 1 := ⟨q - 1, by omega⟩
    unfold f_X12_compareTried_52
    rw [hP.1, if_neg (by rw [nn_le (by omega) (by omega)]; omega), kM_21 hM, kM_z8 hM, kM_22 hM, kM_z9 hM, if_pos ((nn_in (by omega)).mpr (by omega)), if_pos ((nn_in (by omega)).mpr (by omega)), nn_tn (by omega), hP.2.2 j (by omega), nn_inc, fb_d]
    refine fE_w (ih q (j + 1) _ (rI_s hr (by omega)) ⟨?_, ?_, fun k hk => ?_⟩ (fun k hk => ?_) (by omega) (by omega)) (fun _ m' ⟨c1, c2, c3, c4⟩ => ⟨c1, c2, c3, fun k => (c4 k).trans (si_o (by omega))⟩)
    · rw [si_o (by omega)]; exact hP.1
    · rw [si_o (by omega)]; exact hP.2.1
    · rw [si_o (by omega)]; exact hP.2.2 k hk
    · by_cases ek : k = j
      · rw [ek]; exact si_s
      · rw [si_o (by omega)]; exact hb k (by omega)
theorem r_compareTried (hM : kM H b) (hr : rI b m00 m ρ) {n d : Nat} {P : Nat → Nat} {z : Bst} (hP : tP m b n P d) (hB : tB m b z) (h6 : n ≤ 6) (hd : d ≤ 100) (hz : z.1 ≤ 6) (hz2 : z.2.1 ≤ 100) : fE (f_X12_compareTried H b m) (fun _ m' => rI b m00 m' ρ ∧ tP m' b n P d ∧ tB m' b (kb z n d P) ∧ ∀ k, m'.1 (b + 10) k = m.1 (b + 10) k) := by
  have put : ∀ z', z' = (n, d, P) → fE (f_X12_compareTried_40 H b m) (fun _ m' => rI b m00 m' ρ ∧ tP m' b n P d ∧ tB m' b z' ∧ ∀ k, m'.1 (b + 10) k = m.1 (b + 10) k) := by
    intro z' ez
    subst ez
    unfold f_X12_compareTried_40
    rw [if_neg (by decide), nl_0]
    exact r_cmp_l hM h6 hd n fm_N 0 m hr hP (fun k hk => by omega) (by omega) (by unfold fm_N; omega)
  unfold f_X12_compareTried kb
  rw [hB.1, hB.2.1, hP.1, hP.2.1]
  by_cases e1 : z.1 = 0
  · rw [if_pos (by rw [e1]; rfl), if_pos (Or.inl e1)]
    exact put _ rfl
  · rw [if_neg (fun h => e1 (nn_e (by omega) (by omega) (h.trans nl_0)))]
    by_cases e2 : d < z.2.1
    · rw [if_pos ((nn_lt (by omega) (by omega)).mpr e2), if_pos (Or.inr (Or.inl e2))]
      exact put _ rfl
    · rw [if_neg (fun h => e2 ((nn_lt (by omega) (by omega)).mp h))]
      by_cases e3 : d = z.2.1
      · rw [if_pos (by rw [e3])]
        by_cases e4 : n < z.1
        · rw [if_neg (by rw [nn_le (by omega) (by omega)]; omega), if_pos (Or.inr (Or.inr ⟨e3, e4⟩))]
          exact put _ rfl
        · rw [if_pos ((nn_le (by omega) (by omega)).mpr (by omega)), if_pos rfl, if_neg (by omega)]
          exact fE_ret ⟨hr, hP, hB, fun _ => rfl⟩
      · rw [if_neg (fun h => e3 (nn_e (by omega) (by omega) h)), if_pos rfl, if_neg (by omega)]
        exact fE_ret ⟨hr, hP, hB, fun _ => rfl⟩
/-- the last node is dropped -/
theorem r_dropTried (hM : kM H b) (hr : rI b m00 m ρ) (hN : rN ρ E) (hG : vG E) (hdl : ∀ j, j < eL E → E 3 j 3 = nn (dl j) ∧ 1 ≤ dl j ∧ dl j ≤ 9) {n d d' : Nat} {P : Nat → Nat} (hP : tP m b n P d) (h1 : 1 ≤ n) (h6 : n ≤ 6) (hlk : 2 ≤ n → lkf E (P (n - 2)) (P (n - 1)) ≠ -1 ∧ d = d' + dl (lkf E (P (n - 2)) (P (n - 1))).toNat) (hd' : n = 1 → d = d') (hd : d ≤ 100) : fE (f_X12_dropTried H b m) (fun _ m' => rI b m00 m' ρ ∧ tP m' b (n - 1) P d' ∧ ∀ a k, (a = b ∧ (k = 26 ∨ k = 27)) ∨ a = b + 9 ∨ a = b + 10 → m'.1 a k = m.1 a k) := by
  unfold f_X12_dropTried
  rw [hP.1, nn_dec h1, fb_d, si_s]
  have i1 : rI b m00 (fm_si m b 24 (nn (n - 1))) ρ := rI_s hr (by omega)
  by_cases e : n = 1
  · rw [if_pos (by rw [nl_0, nn_le (by omega) (by omega)]; omega)]
    refine fE_ret ⟨i1, ⟨si_s, ?_, fun k hk => by omega⟩, fun a k h => si_o (by omega)⟩
    rw [si_o (by omega), ← hd' e]
    exact hP.2.1
  · obtain ⟨l1, l2⟩ := hlk (by omega)
    obtain ⟨j, j1, j2⟩ := lkE_r l1
    have ejn : (lkf E (P (n - 2)) (P (n - 1))).toNat = j := by
      show (lkE E _ _).toNat = j
      rw [j2]
      rfl
    rw [ejn] at l2
    have r1 : (fm_si m b 24 (nn (n - 1))).1 (b + 8) (n - 1 - 1) = nn (P (n - 2)) := by
      rw [si_o (by omega), hP.2.2 _ (by omega)]
      rfl
    have r2 : (fm_si m b 24 (nn (n - 1))).1 (b + 8) (n - 1) = nn (P (n - 1)) := by
      rw [si_o (by omega), hP.2.2 _ (by omega)]
    have r3 : (fm_si m b 24 (nn (n - 1))).1 b 25 = nn d := (si_o (by omega)).trans hP.2.1
    rw [if_neg (by rw [nl_0, nn_le (by omega) (by omega)]; omega), nn_dec (by omega), kM_21 hM, kM_z8 hM, if_pos ((nn_in (by omega)).mpr (by omega)), if_pos ((nn_in (by omega)).mpr (by omega)), nn_tn (by omega), nn_tn (by omega), r1, r2, r_linkE hM i1 hN hG, fb_n, show (ii (lkf E (P (n - 2)) (P (n - 1))) : Int32) = nn j from by rw [show lkf E (P (n - 2)) (P (n - 1)) = (j : Nat) from j2]; rfl, r_ofL3 hM i1 hN hG j1, fb_n, r3, (hdl j j1).1, nn_sub (by omega), show d - dl j = d' by omega, fb_d]
    refine fE_ret ⟨rI_s i1 (by omega), ⟨?_, si_s, fun k hk => ?_⟩, fun a k h => ?_⟩
    · rw [si_o (by omega)]
      exact si_s
    · rw [si_o (by omega), si_o (by omega)]
      exact hP.2.2 k (by omega)
    · rw [si_o (by omega), si_o (by omega)]
end
