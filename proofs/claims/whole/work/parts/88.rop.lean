/-! the reference opens a circuit -/
/-- as its search may leave it: the array, the draft, what is noted on the way -/
def gR (b : Nat) (m m' : fm_M) : Prop := (∀ a k, a ≠ b + 1 → ¬ (a = b ∧ (k = 6 ∨ k = 7 ∨ 18 ≤ k)) → ¬ (b + 8 ≤ a ∧ a < b + 12) → a ≠ b + 6 → m'.1 a k = m.1 a k) ∧ m'.2 = m.2
theorem gR_rf {b : Nat} {m : fm_M} : gR b m m := ⟨fun _ _ _ _ _ _ => rfl, rfl⟩
theorem gR_tr {b : Nat} {m m1 m2 : fm_M} (h1 : gR b m m1) (h2 : gR b m1 m2) : gR b m m2 := ⟨fun a k x y z w => (h2.1 a k x y z w).trans (h1.1 a k x y z w), h2.2.trans h1.2⟩
theorem gR_f {b : Nat} {m m' : fm_M} (h : fR b m m') : gR b m m' := ⟨fun a k x y z _ => h.1 a k x (by omega) (by omega), h.2⟩
theorem gR_7 {b : Nat} {m : fm_M} {x : Int32} : gR b m (fm_si m b 7 x) := ⟨fun a k _ h _ _ => fm_up_o (fun z => h ⟨z.1, by omega⟩), rfl⟩
theorem gR_6 {b : Nat} {m : fm_M} {x : Int32} : gR b m (fm_si m b 6 x) := ⟨fun a k _ h _ _ => fm_up_o (fun z => h ⟨z.1, by omega⟩), rfl⟩
theorem si_s {m : fm_M} {a k : Nat} {x : Int32} : (fm_si m a k x).1 a k = x := fm_up_s
theorem si_o {m : fm_M} {a k c j : Nat} {x : Int32} (h : ¬ (c = a ∧ j = k)) : (fm_si m a k x).1 c j = m.1 c j := fm_up_o h
/-- the array behind appendCircuit -/
def zR (ρ : Nat → Int32) (K j : Nat) : Nat → Int32 := fun q => if 104 + 66 * K ≤ q ∧ q < 104 + 66 * K + j then 0 else ρ q
def acR (ρ : Nat → Int32) (K : Nat) (x y : Int32) : Nat → Int32 := pm_up (pm_up (pm_up (pm_up (zR ρ K 66) (104 + 66 * K + 0) x) (104 + 66 * K + 1) y) (104 + 66 * K + 10) (-1)) 4 (nn (K + 1))
theorem acR_o {ρ : Nat → Int32} {K : Nat} {x y : Int32} {q : Nat} (h4 : q ≠ 4) (h : ¬ (104 + 66 * K ≤ q ∧ q < 170 + 66 * K)) : acR ρ K x y q = ρ q := by
  unfold acR zR
  simp (disch := omega) only [up_at, if_neg]
theorem acR_4 {ρ : Nat → Int32} {K : Nat} {x y : Int32} : acR ρ K x y 4 = nn (K + 1) := by
  unfold acR
  rw [up_at, if_pos rfl]
theorem acR_z {ρ : Nat → Int32} {K : Nat} {x y : Int32} {q : Nat} (h : 104 + 66 * K ≤ q ∧ q < 170 + 66 * K) (h0 : q ≠ 104 + 66 * K) (h1 : q ≠ 105 + 66 * K) (h10 : q ≠ 114 + 66 * K) : acR ρ K x y q = 0 := by
  unfold acR zR
  simp (disch := omega) only [up_at, if_neg, if_pos, it_T]
theorem acR_9 {ρ : Nat → Int32} {K : Nat} {x y : Int32} (hK : K < 8) (k : Nat) (h : k < 13) (h9 : k ≠ 9) (h10 : k ≠ 10) : acR ρ K x y (104 + 66 * K + pk k) = bg9 x y k := by
  rcases (show k = 0 ∨ k = 1 ∨ k = 2 ∨ k = 3 ∨ k = 4 ∨ k = 5 ∨ k = 6 ∨ k = 7 ∨ k = 8 ∨ k = 11 ∨ k = 12 by omega) with e | e | e | e | e | e | e | e | e | e | e <;> subst e
  · show acR ρ K x y (104 + 66 * K + 0) = x
    unfold acR
    simp (disch := omega) only [up_at, if_neg, if_pos, it_T]
  · show acR ρ K x y (104 + 66 * K + 1) = y
    unfold acR
    simp (disch := omega) only [up_at, if_neg, if_pos, it_T]
  · exact acR_z (q := 104 + 66 * K + 2) (by omega) (by omega) (by omega) (by omega)
  · exact acR_z (q := 104 + 66 * K + 5) (by omega) (by omega) (by omega) (by omega)
  · exact acR_z (q := 104 + 66 * K + 6) (by omega) (by omega) (by omega) (by omega)
  · exact acR_z (q := 104 + 66 * K + 7) (by omega) (by omega) (by omega) (by omega)
  · exact acR_z (q := 104 + 66 * K + 8) (by omega) (by omega) (by omega) (by omega)
  · exact acR_z (q := 104 + 66 * K + 9) (by omega) (by omega) (by omega) (by omega)
  · exact acR_z (q := 104 + 66 * K + 4) (by omega) (by omega) (by omega) (by omega)
  · exact acR_z (q := 104 + 66 * K + 11) (by omega) (by omega) (by omega) (by omega)
  · show acR ρ K x y (104 + 66 * K + 10) = -1
    unfold acR
    simp (disch := omega) only [up_at, if_neg, if_pos, it_T]
theorem zR_s {ρ : Nat → Int32} {K j : Nat} : pm_up (zR ρ K j) (104 + 66 * K + j) 0 = zR ρ K (j + 1) := by
  funext q
  unfold zR
  rw [up_at]
  by_cases e : q = 104 + 66 * K + j
  · rw [if_pos e, if_pos (by omega)]
  · rw [if_neg e]
    by_cases e2 : 104 + 66 * K ≤ q ∧ q < 104 + 66 * K + j
    · rw [if_pos e2, if_pos (by omega)]
    · rw [if_neg e2, if_neg (by omega)]
section
variable {H : fm_H} {b : Nat} {m m00 : fm_M}
theorem r_ac_l (hM : kM H b) {ρ : Nat → Int32} {K : Nat} (hK : K < 8) (h4 : ρ 4 = nn K) (x y : Int32) : ∀ (k q j : Nat) (m : fm_M), rI b m00 m (zR ρ K j) → j + k = 66 → k < q → fE (f_X12_appendCircuit_10 H b x y (nn K) q (nn j) m) (fun r m' => r = nn K ∧ rI b m00 m' (acR ρ K x y)) := by
  intro k
  induction k with
  | zero =>
    intro q j m hr h1 h2
    obtain ⟨q, rfl⟩ : ∃ q', q = q' + 1 := ⟨q - 1, by omega⟩
    have ej : j = 66 := by omega
    subst ej
    unfold f_X12_appendCircuit_10
    simp (disch := omega) only [nl_66, nn_le, if_pos, nl_0, nl_1, nl_10]
    refine fE_put_ hM hr (by omega) (fun m1 h1 => ?_)
    refine fE_put_ hM h1 (by omega) (fun m2 h2 => ?_)
    refine fE_put_ hM h2 (by omega) (fun m3 h3 => ?_)
    simp (disch := omega) only [kM_0 hM, kM_z1 hM, nl_4, nn_tn, nn_in, if_pos, h3.1, fb_d]
    refine fE_ret ⟨rfl, ?_⟩
    have e4 : (pm_up (pm_up (pm_up (zR ρ K 66) (104 + 66 * K + 0) x) (104 + 66 * K + 1) y) (104 + 66 * K + 10) (-1)) 4 = nn K := by
      unfold zR
      simp (disch := omega) only [up_at, if_neg]
      exact h4
    rw [← nl_1, e4, nn_inc]
    rw [← nl_1] at h3
    exact rI_u h3
  | succ k ih =>
    intro q j m hr h1 h2
    obtain ⟨q, rfl⟩ : ∃ q', q = q' + 1 := ⟨q - 1, by omega⟩
    unfold f_X12_appendCircuit_10
    rw [if_neg (by rw [nl_66, nn_le (by omega) (by omega)]; omega)]
    refine fE_put_ hM hr (by omega) (fun m1 h1 => ?_)
    rw [zR_s] at h1
    rw [nn_inc]
    exact ih q (j + 1) m1 h1 (by omega) (by omega)
theorem r_appendCircuit (hM : kM H b) {ρ : Nat → Int32} {K : Nat} (hr : rI b m00 m ρ) (hK : K < 8) (h4 : ρ 4 = nn K) (x y : Int32) : fE (f_X12_appendCircuit H b x y m) (fun r m' => r = nn K ∧ rI b m00 m' (acR ρ K x y)) := by
  unfold f_X12_appendCircuit
  simp (disch := omega) only [kM_0 hM, kM_z1 hM, nl_4, nn_tn, nn_in, if_pos, hr.1, h4]
  have e : zR ρ K 0 = ρ := funext fun q => if_neg (by omega)
  rw [nl_0]
  exact r_ac_l hM hK h4 x y 66 fm_N 0 m (by rw [e]; exact hr) (by omega) (by unfold fm_N; omega)
theorem r_fail {x : Int32} : f_X12_fail H b x m = some (0, fm_si m b 7 x) := by
  unfold f_X12_fail
  rw [fb_d]
/-- the reference's draft -/
def dR (b : Nat) (m : fm_M) (n : Nat) (d : Nat → Nat) : Prop := m.1 b 6 = nn n ∧ ∀ k, k < n → m.1 (b + 6) k = nn (d k)
theorem op_smE {E E1 : VV} {l : List (Nat → Int32)} {n j' : Nat} {N L : Nat → Int32} {x y : Int32} (hI : iG E l) (hK : eK E < 8) (h6 : n ≤ 6) (ht : tF (opB E n N L x y) E1 (eK E) 0 j') (hj : j' ≤ n) : smE E (gvL E1 (eK E) 0 1 (n - 1)) ∧ vG (gvL E1 (eK E) 0 1 (n - 1)) := by
  have o : ∀ kd a k, ¬ (a = eK E ∧ 9 ≤ kd ∧ kd ≤ 17) → opB E n N L x y kd a k = E kd a k := fun kd a k h => (cpV_o (by omega)).trans (bgV_o (by omega))
  have g : ∀ kd a k, kd ≠ 5 → kd ≠ 6 → kd ≠ 7 → ¬ (a = eK E ∧ 9 ≤ kd ∧ kd ≤ 17) → gvL E1 (eK E) 0 1 (n - 1) kd a k = E kd a k := fun kd a k a1 a2 a3 a4 => (gv_o ht a1 a2 a3 (by omega)).trans (o kd a k a4)
  refine ⟨⟨fun k _ _ => g _ _ _ (by omega) (by omega) (by omega) (by omega), fun k _ => g _ _ _ (by omega) (by omega) (by omega) (by omega), fun k _ => g _ _ _ (by omega) (by omega) (by omega) (by omega), fun j k _ _ => g _ _ _ (by omega) (by omega) (by omega) (by omega), fun k _ => g _ _ _ (by omega) (by omega) (by omega) (by omega), fun t ht' => ?_, fun t ht' e => ?_, fun k _ => g _ _ _ (by omega) (by omega) (by omega) (by omega), fun i k hi _ => g _ _ _ (by omega) (by omega) (by omega) (by omega), fun i c hi hc => ⟨g _ _ _ (by omega) (by omega) (by omega) (by omega), fun d k d1 d2 _ => g _ _ _ (by omega) (by omega) (by omega) (by omega)⟩⟩, ?_⟩
  · rw [gv_5 ht hj ht' (fun k k1 k2 => ?_), o _ _ _ (by omega)]
    unfold opB
    rw [cpV_at, if_neg (by omega), if_neg (by omega), if_neg (by omega), if_pos (by omega)]
  · have e' : opB E n N L x y 5 0 t ≠ -1 := by rw [o _ _ _ (by omega)]; exact e
    exact ⟨(gv_67 ht ht' (Or.inl rfl) e').trans (o _ _ _ (by omega)), (gv_67 ht ht' (Or.inr rfl) e').trans (o _ _ _ (by omega))⟩
  · have hGB : vG (opB E n N L x y) := vG_cp (vG_bg hI.1.1) (by omega) h6
    have q : ∀ kd a k, kd < 5 ∨ kd = 10 ∨ kd = 14 → gvL E1 (eK E) 0 1 (n - 1) kd a k = opB E n N L x y kd a k := fun kd a k h => gv_o ht (by omega) (by omega) (by omega) (by omega)
    exact vG_sm ⟨q _ _ _ (by omega), q _ _ _ (by omega), q _ _ _ (by omega), q _ _ _ (by omega), fun _ => q _ _ _ (by omega), fun _ => q _ _ _ (by omega), fun _ => q _ _ _ (by omega)⟩ hGB
theorem r_open (hM : kM H b) {ρ : Nat → Int32} {E : VV} {l : List (Nat → Int32)} (hR : m.1 (b + 1) = ρ) (hA : rAll ρ E l) (hI : iG E l) {n : Nat} {d : Nat → Nat} (hD : dR b m n d) (hd : dW E n d) {N L : Nat → Int32} (hN : ∀ k, k < n → N k = nn (d k)) (hL : ∀ k, 1 ≤ k → k < n → L k = ii (lkE E (nn (d (k - 1))) (nn (d k)))) {x y : Int32} (hx : 1 ≤ x ∧ x ≤ 20) (hy : 0 ≤ y ∧ y ≤ 9) :
    fE (f_X12_open H b x y m) (fun r m' => r = (opV E n N L x y).1 ∧ m'.1 b 7 = 0 ∧ m'.1 b 6 = (if r = 0 then 0 else nn n) ∧ m'.1 (b + 6) = m.1 (b + 6) ∧ gR b m m' ∧ rAll (m'.1 (b + 1)) (opV E n N L x y).2 l ∧ iG (opV E n N L x y).2 l ∧ (opV E n N L x y).2 0 0 6 = E 0 0 6) := by
  have hG := hI.1.1
  have hX := hI.1.2.1
  have hB := hA.1
  have h4 := hB.2.1.1
  have hK8 : eK E ≤ 8 := hB.2.1.2.1
  have h6 := hd.1
  obtain ⟨dm, dn⟩ := hD
  obtain ⟨br, b1, b2⟩ := hI.2.2.2.2.2.1
  unfold f_X12_open opV
  rw [fb_d, r_isBetween, fb_n, decide_eq_true hx, r_isBetween, fb_n, decide_eq_true hy, if_neg (by decide), if_neg (by decide)]
  have hm1 : (fm_si m b 7 0).1 (b + 1) = ρ := (si_oth (by omega)).trans hR
  obtain ⟨m1, em⟩ : ∃ m1, m1 = fm_si m b 7 0 := ⟨_, rfl⟩
  have z7 : m1.1 b 7 = 0 := by rw [em]; exact si_s
  have z6 : m1.1 b 6 = nn n := by rw [em, si_o (by omega)]; exact dm
  have zd : m1.1 (b + 6) = m.1 (b + 6) := by rw [em]; exact si_oth (by omega)
  have zg : gR b m m1 := by rw [em]; exact gR_7
  rw [← em] at hm1 ⊢
  simp (disch := omega) only [kM_0 hM, kM_z1 hM, nl_4, nn_tn, nn_in, if_pos, hm1, h4, nl_8, nn_eq, z6, nl_2, nn_le]
  by_cases c1 : eK E = 8
  · rw [if_pos c1, if_pos (by omega)]
    refine fE_ret ⟨rfl, z7, ?_, zd, zg, by rw [hm1]; exact hA, hI, rfl⟩
    rw [if_neg (by decide)]
    exact z6
  · rw [if_neg c1, if_neg (show ¬ 8 ≤ eK E by omega)]
    by_cases c2 : n < 2
    · rw [if_neg (by omega), if_pos c2]
      refine fE_ret ⟨rfl, z7, ?_, zd, zg, by rw [hm1]; exact hA, hI, rfl⟩
      rw [if_neg (by decide)]
      exact z6
    · rw [if_pos (by omega), if_neg c2]
      have hV : ∀ i, i < eK E → nn i ≠ -1 → rV1 ρ E i := fun i hi _ => rB_V1 hB hX hi (hI.1.2.2.2.1 i hi)
      have hdl : ∀ k, 1 ≤ k → k < n → L k = ii (lkE E (m1.1 (b + 6) (k - 1)) (m1.1 (b + 6) k)) ∧ lkE E (m1.1 (b + 6) (k - 1)) (m1.1 (b + 6) k) ≠ -1 := fun k k1 k2 => by
        rw [zd, dn _ (by omega), dn k k2]
        exact ⟨hL k k1 k2, hd.2.2.1 k k1 k2⟩
      rw [r_draftHasRoom hM hm1 hB.1 hG hI.2.2.2.1 h4 hK8 hV h6 z6 hdl, fb_n]
      cases c3 : na (fun k => hr E (eL E) (eK E) (eA E) (eB E) (L k).toInt x (-1)) 1 (n - 1) with
      | false =>
        rw [if_pos (by decide), it_ff]
        refine fE_ret ⟨rfl, z7, ?_, zd, zg, by rw [hm1]; exact hA, hI, rfl⟩
        rw [if_neg (by decide)]
        exact z6
      | true =>
        rw [if_neg (by decide), it_tf]
        refine fE_be (r_appendCircuit hM (m00 := m1) (rI_rf hm1) (K := eK E) (by omega) h4 x y) (fun r m2 ⟨hr2, h2⟩ => ?_)
        subst hr2
        have oB : ∀ kd a k, ¬ (a = eK E ∧ 9 ≤ kd ∧ kd ≤ 17) → opB E n N L x y kd a k = E kd a k := fun kd a k h => (cpV_o (by omega)).trans (bgV_o (by omega))
        have hGB : vG (opB E n N L x y) := vG_cp (vG_bg hG) (by omega) h6
        have nN : eN (opB E n N L x y) = eN E := by unfold eN; rw [oB 1 _ _ (by omega)]
        have nL : eL (opB E n N L x y) = eL E := by unfold eL; rw [oB 1 _ _ (by omega)]
        have nlk : ∀ p q, lkE (opB E n N L x y) p q = lkE E p q := fun p q => by
          unfold lkE
          rw [nL]
          exact fi_c (fun j _ _ => by rw [oB 3 _ _ (by omega), oB 3 _ _ (by omega)])
        have hBB : iB (opB E n N L x y) := fun p q p1 q1 => by
          rw [oB 2 _ _ (by omega), nlk]
          exact hI.2.1 p q p1 q1
        have hZB : iZ (opB E n N L x y) := fun f t f1 t1 e => by
          have z : eZ (opB E n N L x y) f = eZ E f := by unfold eZ; rw [oB 4 _ _ (by omega)]
          rw [z]
          rw [oB 5 _ _ (by omega)] at e
          exact hI.2.2.1 f t f1 t1 e
        have hL16 := hG.2.2.2.2.1.2.1
        have hNB : rN (acR ρ (eK E) x y) (opB E n N L x y) := rN_f (rN_c hB.1 hL16 (fun k a1 a2 a3 => acR_o a2 (by omega))) (fun kd i k h => oB _ _ _ (by omega))
        have hWB : ∀ a, a < eK E + 1 → ∀ e, e < 2 → ¬ (a = eK E ∧ e = 0) → rW (acR ρ (eK E) x y) (opB E n N L x y) (120 + 66 * a + 25 * e) (lnK E (eK E) a e) e a := fun a ha e he hn => by
          by_cases q : a = eK E
          · subst q
            rw [lnK_s]
            exact ⟨acR_z (by omega) (by omega) (by omega) (by omega), by omega, fun k hk => by omega, fun k hk => by omega⟩
          · rw [lnK_o q]
            refine rW_e (rW_c (hB.2.1.2.2 a (by omega) e he) (fun k k1 k2 => acR_o (by omega) (by omega))) (fun k => oB _ _ _ (by omega)) (fun k => oB _ _ _ (by omega))
        have e0 : (0 : Int32) = nn 0 := nl_0
        refine fE_be (r_layDraft hM (m00 := m1) (mk := 1) (ln := lnK E (eK E)) (c := 0) (i := eK E) h2 hGB hBB hZB hNB acR_4 hWB (op_iT oB hX.1) (by omega) (by omega) (by omega) (by rw [lnK_s]; omega) h6 (by omega) z6 (d := d) (fun k hk => ⟨by rw [zd]; exact dn k hk, (cpV_1 (by omega)).trans (hN k hk), by rw [nN]; exact hd.2.1 k hk⟩) ((oB _ _ _ (by omega)).trans b2) (by omega) (by
          unfold opB
          rw [cpV_at, if_neg (by omega), if_neg (by omega), if_neg (by omega), if_pos (by omega)])) (fun r m3 ⟨e1, ρ', h3, q1, q2⟩ => ?_)
        subst e1
        have w6 : m3.1 b 6 = nn n := (rI_o h3 (by omega) (by omega) (by omega)).trans z6
        have w7 : m3.1 b 7 = 0 := (rI_o h3 (by omega) (by omega) (by omega)).trans z7
        have wd : m3.1 (b + 6) = m.1 (b + 6) := (funext fun k => rI_o h3 (by omega) (by omega) (by omega)).trans zd
        cases c4 : (tlE (opB E n N L x y) (eK E) 0 1 (n - 1)).1 with
        | false =>
          obtain ⟨⟨j', j1, j2⟩, q3, q4⟩ := q2 c4
          have e4 : ρ' 4 = nn (eK E + 1) := (q4 4 (by omega)).trans acR_4
          rw [if_pos (by decide), it_ff, h3.1, e4, nl_1, nn_sub (by omega), fb_d, Nat.add_sub_cancel]
          obtain ⟨s1, s2⟩ := op_smE hI (by omega) h6 j1 j2
          have hI2 := sm_iG s1 s2 hI
          have i4 := rI_u (k := 4) (x := nn (eK E)) h3
          have oo : ∀ q, q < 104 + 66 * eK E ∨ 632 ≤ q → pm_up ρ' 4 (nn (eK E)) q = ρ q := fun q hq => by
            rw [up_at]
            split
            · rename_i h; rw [h]; exact h4.symm
            · rw [q4 q (by omega), acR_o (by omega) (by omega)]
          refine fE_ret ⟨rfl, ?_, ?_, ?_, gR_tr zg (gR_f i4.2), ?_, hI2, s1.1 6 (by omega) (by omega)⟩
          · exact (si_o (by omega)).trans w7
          · rw [if_neg (by decide)]
            exact (si_o (by omega)).trans w6
          · exact (si_oth (by omega)).trans wd
          · rw [i4.1]
            exact ⟨sm_rB s1 hX hG (rB_j hB hG (fun k k1 k2 k3 => oo k (by omega))), rP_c hA.2 (fun k hk => oo k (by omega))⟩
        | true =>
          obtain ⟨l1, l2, l3, l4, l5⟩ := q1 c4
          rw [if_neg (by decide), it_tf, fb_d]
          have hx20 : ∃ b, b ≤ 20 ∧ x = nn b := by
            obtain ⟨x1, x2⟩ := hx
            have y1 := Int32.le_iff_toInt_le.mp x1
            have y2 := Int32.le_iff_toInt_le.mp x2
            have z1 : (1 : Int32).toInt = 1 := by decide
            have z2 : (20 : Int32).toInt = 20 := by decide
            rw [z1] at y1
            rw [z2] at y2
            exact ⟨x.toInt.toNat, by omega, by rw [show nn x.toInt.toNat = ii x.toInt from congrArg ii (by omega)]; exact ii_of x⟩
          have hop : opE0 E (opB E n N L x y) n d x y := by
            refine ⟨oB, cpV_0, ?_, fun k hk => ?_, fun k hk => (cpV_1 (by have := hd.1; omega)).trans (hN k hk), fun k k1 k2 => (cpV_2 (by have := hd.1; omega)).trans (hL k k1 k2)⟩
            · refine (cpV_o (by omega)).trans ?_
              rw [bgV_at, if_neg (by omega), if_pos (by omega)]
            · refine (cpV_o (by omega)).trans ?_
              rw [bgV_at, if_pos ⟨rfl, rfl, hk⟩]
              rfl
          obtain ⟨p1, p2⟩ := opn_ok hI (by omega) hop hd (by omega) l3 hx20
          refine fE_ret ⟨rfl, ?_, ?_, ?_, gR_tr zg (gR_tr (gR_f h3.2) gR_6), ?_, p1, ?_⟩
          · exact (si_o (by omega)).trans w7
          · rw [if_pos (by decide)]
            exact si_s
          · exact (si_oth (by omega)).trans wd
          · rw [si_oth (by omega), h3.1]
            refine ⟨p2 ρ ρ' hB l2 (fun q a1 a2 a3 a4 => ?_) (fun k k1 k2 k3 => ?_) ?_ (fun k k1 k2 => l5 k k1 k2), rP_c hA.2 (fun k hk => ?_)⟩
            · rw [l4 q (by omega), acR_o a2 a4]
            · have := pk_l k k1 k2 k3
              rw [l4 _ (by omega)]
              exact acR_9 (by omega) k k1 k2 k3
            · rw [l4 _ (by omega)]
              exact acR_z (by omega) (by omega) (by omega) (by omega)
            · rw [l4 k (by omega), acR_o (by omega) (by omega)]
          · dsimp only
            rw [uV_p (by omega), mkL_o (by decide), l3.1 _ _ _ (by decide) (by decide) (by decide) (by omega), oB _ _ _ (by omega)]
end
