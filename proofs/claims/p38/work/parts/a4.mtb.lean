/-! moves to best ways -/
theorem mv_G {E : VV} {i n : Nat} {N L : Nat → Int32} (hG : vG E) (h6 : n ≤ 6) : vG (mvV E i n N L).2 ∧ (mvV E i n N L).2 0 0 6 = E 0 0 6 := by
  have hGB : vG (mvB E i n N L) := vG_cp hG (by omega) h6
  have o : ∀ kd a k, kd < 9 → mvB E i n N L kd a k = E kd a k := fun kd a k h => cpV_o (by omega)
  unfold mvV
  split
  · exact ⟨hG, rfl⟩
  · split
    · exact ⟨hG, rfl⟩
    · split
      · exact ⟨hG, rfl⟩
      · split
        · exact ⟨hG, rfl⟩
        · split
          · dsimp only
            refine ⟨vG_w hGB ?_ ?_ ?_ ?_ (fun a => ?_) (fun a => Or.inl ?_) (fun a => ?_), ?_⟩
            · rw [uV_k (by omega), gvL_o (by omega) (by omega), tl_o (by omega) (by omega) (by omega) (by omega)]
            · rw [uV_k (by omega), gvL_o (by omega) (by omega), tl_o (by omega) (by omega) (by omega) (by omega)]
            · rw [uV_k (by omega), gvL_o (by omega) (by omega), tl_o (by omega) (by omega) (by omega) (by omega)]
            · rw [uV_k (by omega), gvL_o (by omega) (by omega), tl_o (by omega) (by omega) (by omega) (by omega)]
            · rw [uV_k (by omega), gvL_o (by omega) (by omega), tl_o (by omega) (by omega) (by omega) (by omega)]
            · rw [uV_k (by omega), gvL_o (by omega) (by omega), tl_o (by omega) (by omega) (by omega) (by omega)]
            · by_cases e : a = i
              · rw [e]
                exact Or.inr ⟨0, by omega, uV_s⟩
              · refine Or.inl ?_
                rw [uV_i e, gvL_o (by omega) (by omega), tl_o (by omega) (by omega) (by omega) (by omega)]
            · rw [uV_k (by omega), gvL_o (by omega) (by omega), tl_o (by omega) (by omega) (by omega) (by omega), o _ _ _ (by omega)]
          · dsimp only
            refine ⟨vG_w hGB ?_ ?_ ?_ ?_ (fun a => ?_) (fun a => Or.inl ?_) (fun a => Or.inl ?_), ?_⟩
            · rw [uV_k (by omega), uV_k (by omega), tl_o (by omega) (by omega) (by omega) (by omega)]
            · rw [uV_k (by omega), uV_k (by omega), tl_o (by omega) (by omega) (by omega) (by omega)]
            · rw [uV_k (by omega), uV_k (by omega), tl_o (by omega) (by omega) (by omega) (by omega)]
            · rw [uV_k (by omega), uV_k (by omega), tl_o (by omega) (by omega) (by omega) (by omega)]
            · rw [uV_k (by omega), uV_k (by omega), tl_o (by omega) (by omega) (by omega) (by omega)]
            · rw [uV_k (by omega), uV_k (by omega), tl_o (by omega) (by omega) (by omega) (by omega)]
            · rw [uV_k (by omega), uV_k (by omega), tl_o (by omega) (by omega) (by omega) (by omega)]
            · rw [uV_k (by omega), uV_k (by omega), tl_o (by omega) (by omega) (by omega) (by omega), o _ _ _ (by omega)]
theorem op_G {E : VV} {n : Nat} {N L : Nat → Int32} {x y : Int32} (hG : vG E) (h6 : n ≤ 6) : vG (opV E n N L x y).2 ∧ (opV E n N L x y).2 0 0 6 = E 0 0 6 := by
  have hGB : vG (opB E n N L x y) := vG_cp (vG_bg hG) (by omega) h6
  have o : ∀ kd a k, kd < 9 → opB E n N L x y kd a k = E kd a k := fun kd a k h => (cpV_o (by omega)).trans (bgV_o (by omega))
  have hK8 := hG.2.2.2.2.1.2.2.1
  unfold opV
  split
  · exact ⟨hG, rfl⟩
  · split
    · exact ⟨hG, rfl⟩
    · split
      · exact ⟨hG, rfl⟩
      · split
        · dsimp only
          refine ⟨vG_sm ⟨?_, ?_, ?_, ?_, fun a => ?_, fun a => ?_, fun a => ?_⟩ hGB, ?_⟩
          all_goals rw [gvL_o (by omega) (by omega), tl_o (by omega) (by omega) (by omega) (by omega)]
          exact o _ _ _ (by omega)
        · dsimp only
          have e : ∀ kd a k, kd ≠ 5 → kd ≠ 6 → kd ≠ 7 → kd ≠ 13 → ¬ (kd = 0 ∧ k = 5) → uV (mkL (tlE (opB E n N L x y) (eK E) 0 1 (n - 1)).2 (eK E) 0 1 (n - 1)) 0 0 5 (nn (eK E + 1)) kd a k = opB E n N L x y kd a k := fun kd a k h5 h6 h7 h13 h0 => by
            rw [uV_at, if_neg (by omega), mkL_o h7, tl_o h5 h6 h7 (by omega)]
          refine ⟨vG_of (N := eN E) (L := eL E) (K := eK E + 1) (P := eP E) ?_ ?_ uV_s ?_ hG.2.2.2.2.1.1 hG.2.2.2.2.1.2.1 (by omega) hG.2.2.2.2.1.2.2.2 (fun a ha => ?_) (fun a ha => ?_) (fun a ha => ?_), ?_⟩
          · rw [e _ _ _ (by omega) (by omega) (by omega) (by omega) (by omega), o _ _ _ (by omega)]; exact hG.1
          · rw [e _ _ _ (by omega) (by omega) (by omega) (by omega) (by omega), o _ _ _ (by omega)]; exact hG.2.1
          · rw [e _ _ _ (by omega) (by omega) (by omega) (by omega) (by omega), o _ _ _ (by omega)]; exact hG.2.2.2.1
          · rw [e _ _ _ (by omega) (by omega) (by omega) (by omega) (by omega)]; exact vG_Z hGB a ha
          · rw [e _ _ _ (by omega) (by omega) (by omega) (by omega) (by omega)]; exact vG_A hGB a ha
          · rw [e _ _ _ (by omega) (by omega) (by omega) (by omega) (by omega)]; exact vG_B hGB a ha
          · rw [e _ _ _ (by omega) (by omega) (by omega) (by omega) (by omega), o _ _ _ (by omega)]
/-- the ends of a circuit -/
def f0E (E : VV) (i : Nat) : Nat := (E 11 i 0).toInt.toNat
def t0E (E : VV) (i : Nat) : Nat := (E 11 i (eA E i - 1)).toInt.toNat
theorem ends_E {E : VV} (hX : iX E) (hG : vG E) {i : Nat} (hi : i < eK E) (h2 : 2 ≤ eA E i) : E 11 i 0 = nn (f0E E i) ∧ E 11 i (eA E i - 1) = nn (t0E E i) ∧ f0E E i < eN E ∧ t0E E i < eN E ∧ f0E E i ≠ t0E E i := by
  have hN10 := hG.2.2.2.2.1.1
  obtain ⟨⟨w1, w2, w3⟩, -⟩ := hX.2.2 i hi 0 (by omega)
  have eW0 : eW E i 0 = eA E i := rfl
  obtain ⟨x, x1, x2⟩ := w1 0 (by omega)
  obtain ⟨z, z1, z2⟩ := w1 (eA E i - 1) (by omega)
  have x2' : E 11 i 0 = nn x := x2
  have z2' : E 11 i (eA E i - 1) = nn z := z2
  have e1 : f0E E i = x := by
    unfold f0E
    rw [x2', nn_t (by omega)]
    rfl
  have e2 : t0E E i = z := by
    unfold t0E
    rw [z2', nn_t (by omega)]
    rfl
  rw [e1, e2]
  refine ⟨x2', z2', x1, z1, fun e => ?_⟩
  have := w3 0 (eA E i - 1) (by omega) (by omega) (by rw [show 11 + 4 * 0 = 11 from rfl, x2', z2', e])
  omega
/-- the best way for circuit i without link y -/
def bcE (E : VV) (i : Nat) (y : Int32) : Bst := bsE E (E 9 i 0) (nn i) y (f0E E i) (t0E E i)
/-- its rows, as far as they count -/
def bNL (E : VV) (z : Bst) (N L : Nat → Int32) : Prop := (∀ k, k < z.1 → N k = nn (z.2.2 k)) ∧ ∀ k, 1 ≤ k → k < z.1 → L k = ii (lkE E (nn (z.2.2 (k - 1))) (nn (z.2.2 k)))
theorem bc_end {E : VV} (hL : iL E) (hX : iX E) (hG : vG E) {i : Nat} (hi : i < eK E) (h2 : 2 ≤ eA E i) {y : Int32} {N L : Nat → Int32} (h0 : (bcE E i y).1 ≠ 0) (hb : bNL E (bcE E i y) N L) : endV E i (bcE E i y).1 N = true ∧ dW E (bcE E i y).1 (bcE E i y).2.2 := by
  obtain ⟨e1, e2, e3, e4, e5⟩ := ends_E hX hG hi h2
  obtain ⟨b1, b2, b3, b4⟩ := bs_dW hL (band := E 9 i 0) (e := nn i) (y := y) e3 e5 h0
  refine ⟨?_, b1⟩
  have b2' : 2 ≤ (bcE E i y).1 := b2
  unfold endV
  rw [decide_eq_true b2', hb.1 0 (by omega), hb.1 _ (by omega), e1, e2, show (bcE E i y).2.2 0 = f0E E i from b3, show (bcE E i y).2.2 ((bcE E i y).1 - 1) = t0E E i from b4, decide_eq_true rfl, decide_eq_true rfl]
  rfl
section
variable {H : fm_H} {s f x0 : Nat} {m : fm_M}
theorem aS_w {E : VV} {l : List (Nat → Int32)} {m' : fm_M} (hd : f + 11 ≤ s ∨ s + 160 ≤ f) (ha : aS m s E l) (hw : wF f m m') : aS m' s E l := by
  obtain ⟨a1, a2, a3, a4, a5, a6⟩ := ha
  obtain ⟨g1, g2⟩ := wF_cv hd a1 rfl hw
  exact ⟨g1, by rw [g2]; exact a2, by rw [g2]; exact a3, a4, a5, a6⟩
theorem c_moveToBest (hS : kS H s) (hF : kF H f) (hx0 : H.2.1 x0 1 = f) (hd : f + 11 ≤ s ∨ s + 160 ≤ f) {E : VV} {l : List (Nat → Int32)} (ha : aS m s E l) (hI : iG E l) {i : Nat} (hi : i < eK E) (y : Int32) : fE (f_X11_moveToBest H x0 s (nn i) y m) (fun r m' => (E 9 i 2 ≠ 0 ∧ r = 2 ∧ m' = m) ∨ (E 9 i 2 = 0 ∧ (bcE E i y).1 = 0 ∧ r = 3 ∧ wF f m m') ∨ (E 9 i 2 = 0 ∧ (bcE E i y).1 ≠ 0 ∧ ∃ N L, bNL E (bcE E i y) N L ∧ r = (mvV E i (bcE E i y).1 N L).1 ∧ aS m' s (mvV E i (bcE E i y).1 N L).2 l ∧ (∀ a k, ¬ (f ≤ a ∧ a < f + 11) → ¬ (s ≤ a ∧ a < s + 160) → m'.1 a k = m.1 a k) ∧ m'.2 = m.2)) := by
  have ha' := ha
  obtain ⟨a1, a2, a3, a4, a5, a6⟩ := ha
  have hGV : vG (cv m s) := by
    rw [← a2] at a6
    exact a6
  have hX := hI.1.2.1
  have hL := hI.1.2.2.1
  have hK8 := hI.1.1.2.2.2.2.1.2.2.1
  have hi8 : i < 8 := by omega
  have h2 : 2 ≤ eA E i := (hI.1.2.2.2.1 i hi).1
  have e9 : ∀ k, cv m s 9 i k = E 9 i k := fun k => by rw [← a2]; rfl
  have e11 : ∀ k, cv m s 11 i k = E 11 i k := fun k => by rw [← a2]; rfl
  have eAe : eA (cv m s) i = eA E i := by rw [← a2]; rfl
  obtain ⟨n1, n2, n3, n4, n5⟩ := ends_E hX hI.1.1 hi h2
  have hN10 := hI.1.1.2.2.2.2.1.1
  have hBV : iB (cv m s) := fun p q hp hq => by
    have := hI.2.1 p q hp hq
    rw [← a2] at this
    exact this
  have hLV : iL (cv m s) := fun j hj => by
    have := hL j (by rw [← a2]; exact hj)
    rw [← a2] at this
    exact this
  unfold f_X11_moveToBest
  rw [kS_3 hS, kS_z26 hS, nn_tn (by omega), hx0]
  refine fE_p ((nn_in (by omega)).mpr hi8) (fE_p (pS_cb hS a1 hi8) ?_)
  rw [rd9 rfl hi8, e9, rd9 rfl hi8, e9]
  by_cases c1 : E 9 i 2 = 0
  · rw [if_pos c1]
    refine fE_be (c_prepare hF hS hd a1 rfl hGV (E 9 i 0) (nn i)) (fun _ m1 ⟨w1, u1⟩ => ?_)
    obtain ⟨g1, g2⟩ := wF_cv hd a1 rfl w1
    rw [w1.2]
    refine fE_p (kW_b (pS_wo hS a1 hi8)) ?_
    have hwo : kW H (m.2.1 (m.2.1 (s + 26) i) 13) := pS_wo hS a1 hi8
    have hA0 := hGV.2.2.2.2.2.2.1 i hi8
    have hno : m1.1 (m.2.1 (m.2.1 (s + 26) i) 13) 0 = ii (eA (cv m s) i) := by
      have := rd10 g2 hi8 0
      rw [w1.2] at this
      exact this.trans hA0.1
    have hr11 : ∀ k, m1.1 (m.2.1 (m.2.1 (s + 26) i) 13 + 1) k = E 11 i k := fun k => by
      have := rd11 g2 hi8 k
      rw [w1.2] at this
      exact this.trans (e11 k)
    rw [show (0 : Int32) = ii ((0 : Nat) : Int) from ii_0, c_nodeAtN hwo hno hA0.2 (by omega), fb_n, hr11, w1.2]
    refine fE_p (kW_b hwo) ?_
    rw [c_lastNode hwo hno hA0.2, fb_n, if_neg (by omega), hr11, eAe, n1, n2, kS_0 hS]
    refine fE_be (c_search hF hS hd g1 g2 hGV hBV hLV u1 (f0 := f0E E i) (t := t0E E i) (show f0E E i < eN (cv m s) from by rw [show eN (cv m s) = eN E from by rw [← a2]; rfl]; exact n3) (by omega) n5 y) (fun x m4 ⟨s1, s2, s3, s4⟩ => ?_)
    have eb : bsE (cv m s) (E 9 i 0) (nn i) y (f0E E i) (t0E E i) = bcE E i y := by
      unfold bcE
      rw [← er_bs, a2]
    rw [eb] at s1 s2
    have w4 := wF_tr w1 s3
    have ha4 := aS_w hd ha' w4
    by_cases c2 : (bcE E i y).1 = 0
    · rw [s1, decide_eq_false (fun z => z c2)]
      refine fE_p (by decide) (fE_ret (Or.inr (Or.inl ⟨c1, c2, rfl, w4⟩)))
    · rw [s1, decide_eq_true c2]
      refine fE_n (by decide) ?_
      rw [kF_0 hF]
      have elk : ∀ p q, lkf (cv m s) p q = lkE E (nn p) (nn q) := fun p q => by
        unfold lkf
        rw [← a2]
        rfl
      have hb : bNL E (bcE E i y) (m4.1 (f + 1 + 1)) (m4.1 (f + 1 + 2)) := ⟨s2.2.2.1, fun k k1 k2 => by rw [← elk]; exact s2.2.2.2 k k1 k2⟩
      obtain ⟨t1, t2⟩ := bc_end hL hX hI.1.1 hi h2 c2 hb
      obtain ⟨p1, p2⟩ := mv_G (E := E) (i := i) (n := (bcE E i y).1) (N := m4.1 (f + 1 + 1)) (L := m4.1 (f + 1 + 2)) hI.1.1 t2.1
      refine fE_be (c_moveS hS ha4 hI hi (kF_b hF) (by omega) s2.1 t2.1 (fun k hk => ⟨_, by have := t2.2.1 k hk; omega, s2.2.2.1 k hk⟩) p2 p1) (fun r m5 ⟨q1, q2, q3, q4⟩ => ?_)
      refine fE_ret (Or.inr (Or.inr ⟨c1, c2, _, _, hb, q1, q2, fun a k h3 h4 => ?_, ?_⟩))
      · rw [(q3.1 a k (by omega)).1, w4.1 a k (by omega)]
      · have e22 : m5.2.2 = m4.2.2 := q3.2
        exact (Prod.ext q4 e22).trans w4.2
  · rw [if_neg c1]
    exact fE_ret (Or.inl ⟨c1, rfl, rfl⟩)
end
section
variable {H : fm_H} {b : Nat} {m m00 : fm_M}
/-- as a move to the best way leaves it -/
def hRf (b : Nat) (m m' : fm_M) : Prop := (∀ a k, a ≠ b + 1 → ¬ (a = b ∧ (k = 6 ∨ 18 ≤ k)) → ¬ (b + 8 ≤ a ∧ a < b + 12) → a ≠ b + 6 → m'.1 a k = m.1 a k) ∧ m'.2 = m.2
theorem hRf_rf {b : Nat} {m : fm_M} : hRf b m m := ⟨fun _ _ _ _ _ _ => rfl, rfl⟩
theorem hRf_tr {b : Nat} {m m1 m2 : fm_M} (h1 : hRf b m m1) (h2 : hRf b m1 m2) : hRf b m m2 := ⟨fun a k x y z w => (h2.1 a k x y z w).trans (h1.1 a k x y z w), h2.2.trans h1.2⟩
theorem hRf_f {b : Nat} {m m' : fm_M} (h : fR b m m') : hRf b m m' := ⟨fun a k x y z _ => h.1 a k x (by omega) (by omega), h.2⟩
end
