/-! THE DESK OF THE LAW: acts -/
theorem nc_sh {p : Nat → Bool} : ∀ {k j : Nat}, nc p (j + 1) k = nc (fun i => p (i + 1)) j k := by
  intro k
  induction k with
  | zero => exact rfl
  | succ k ih =>
    intro j
    show (if p (j + 1) = true then 1 else 0) + nc p (j + 1 + 1) k = (if p (j + 1) = true then 1 else 0) + nc (fun i => p (i + 1)) (j + 1) k
    rw [ih]
theorem lc_P {q : (Nat → Int32) → Bool} : ∀ {l : List (Nat → Int32)}, lc q l = l.countP q := by
  intro l
  induction l with
  | nil => exact rfl
  | cons r l ih =>
    have e : lc q (r :: l) = (if q r = true then 1 else 0) + lc q l := by
      show (if q r = true then 1 else 0) + nc (fun p => match (r :: l)[p]? with | some r => q r | none => false) (0 + 1) l.length = _
      rw [nc_sh]
      rfl
    rw [e, ih, List.countP_cons]
    omega
theorem csA_0 {E : VV} {l : List (Nat → Int32)} {i : Nat} (h : csA E l i = 0) : E 9 i 2 = 0 ∧ ∀ r, r ∈ l → r 0 ≠ nn i := by
  unfold csA at h
  by_cases c1 : E 9 i 2 = 0
  · rw [if_neg (fun z => z c1)] at h
    by_cases c2 : 0 < E 9 i 3 ∨ 0 < lc (fun r => decide (r 0 = nn i)) l
    · rw [if_pos c2] at h
      exact absurd h (show ¬ ((8 : Int32) = 0) by decide)
    · refine ⟨c1, fun r hr e => c2 (Or.inr ?_)⟩
      rw [lc_P, List.countP_pos_iff]
      exact ⟨r, hr, decide_eq_true e⟩
  · rw [if_pos c1] at h
    exact absurd h (show ¬ ((2 : Int32) = 0) by decide)
section
variable {H : fm_H} {m m1 m2 : fm_M} {T T' x s t n : Nat} {E E' : VV} {l l' : List (Nat → Int32)} {d d' : Nat → Nat} {sv : Nat → Option (VV × List (Nat → Int32))} {n' : Nat}
theorem L_close (hX : kX H x) (h : DS x T m E l n d sv) {i : Nat} (hi : i < eK E) : fE (f_L_close H x (nn i) m) (fun r m1 => r = csA E l i ∧ DS x T m1 (if csA E l i = 0 then csE E i else E) (if csA E l i = 0 then l.map (dcR i) else l) n d sv ∧ lF x m m1) := by
  have h00 := h
  obtain ⟨⟨s, t, hN⟩, hD, hV, hW, hM, hJ, h0⟩ := h
  obtain ⟨hS, hS2, q1, q2, q3, q4, q5⟩ := cN_S hX hN
  have hK8 := hJ.1.1.1.2.2.2.2.1.2.2.1
  refine fL_i (Q := fun r m1 => r = .inl (csA E l i) ∧ DS x T m1 (if csA E l i = 0 then csE E i else E) (if csA E l i = 0 then l.map (dcR i) else l) n d sv ∧ lF x m m1) ?_ (fun r m1 ⟨a1, a2⟩ => ⟨_, a1, rfl, a2⟩)
  unfold f_X11_close
  rw [c_ckC hX hN, if_pos (rgC_n hi (by omega)), fb_x, hN.2.1, if_pos (fm_is_b hS.1)]
  refine fE_be (c_closeS hS hN.2.2.2.1 hJ.1 hi) (fun r m1 ⟨a1, a2, a3, a4⟩ => fE_ret ⟨by rw [a1], ?_⟩)
  by_cases z : csA E l i = 0
  · rw [if_pos z, if_pos z]
    obtain ⟨p0, p1⟩ := csA_0 z
    exact ds_now hX hN hD hV a2 (a4 (a1.trans z)) hW cs_lk (cs_NM hK8 hM) (cs_JI hJ hi p0 p1).1 (z0_cs hK8 h0)
  · rw [if_neg z, if_neg z]
    have e := a3 (fun q => z (a1.symm.trans q))
    subst e
    exact ⟨h00, lF_rf⟩
theorem L_abort (hX : kX H x) (h : DS x T m E l n d sv) {i : Nat} (hi : i < eK E) : fE (f_L_abort H x (nn i) m) (fun r m1 => r = (if E 9 i 2 = 1 then 0 else 7) ∧ DS x T m1 (if E 9 i 2 = 1 then abE E i else E) l n d sv ∧ lF x m m1) := by
  obtain ⟨⟨s, t, hN⟩, hD, hV, hW, hM, hJ, h0⟩ := h
  obtain ⟨hS, hS2, q1, q2, q3, q4, q5⟩ := cN_S hX hN
  have hK8 := hJ.1.1.1.2.2.2.2.1.2.2.1
  refine fL_i (Q := fun r m1 => r = .inl (if E 9 i 2 = 1 then 0 else 7) ∧ DS x T m1 (if E 9 i 2 = 1 then abE E i else E) l n d sv ∧ lF x m m1) ?_ (fun r m1 ⟨a1, a2⟩ => ⟨_, a1, rfl, a2⟩)
  unfold f_X11_abort
  rw [c_ckC hX hN, if_pos (rgC_n hi (by omega)), fb_x, hN.2.1, if_pos (fm_is_b hS.1)]
  refine fE_be (c_abortS hS hN.2.2.2.1 hJ.1 hi) (fun r m1 ⟨a1, a2, a3, a4⟩ => fE_ret ⟨by rw [a1], ?_⟩)
  by_cases z : E 9 i 2 = 1
  · rw [if_pos z] at a2 ⊢
    exact ds_now hX hN hD hV a3 a2 hW ab_lk (ab_NM hM) (ab_JI hJ hi z).1 (z0_ab h0)
  · rw [if_neg z] at a2 ⊢
    exact ds_now hX hN hD hV a3 a2 hW lkO_rf hM hJ h0
theorem L_abortX (hX : kX H x) (h : DS x T m E l n d sv) {i : Nat} (hi : eK E ≤ i) (hi2 : i < 1000000) : f_X11_abort H x (nn i) m = some (.inr pm_xB, m) := by
  obtain ⟨⟨s, t, hN⟩, -⟩ := h
  unfold f_X11_abort
  rw [c_ckC hX hN, if_neg (by rw [nn_t hi2]; omega), fb_e]
theorem L_offer (hX : kX H x) (h : DS x T m E l n d sv) {i y : Nat} (hi : i < eK E) (y1 : 1 ≤ y) (y2 : y ≤ 9) : fE (f_L_offer H x (nn i) (nn y) m) (fun r m1 => r = bkE E i (nn y) 9 i 3 ∧ DS x T m1 (bkE E i (nn y)) l n d sv ∧ lF x m m1) := by
  obtain ⟨⟨s, t, hN⟩, hD, hV, hW, hM, hJ, h0⟩ := h
  obtain ⟨hS, hS2, q1, q2, q3, q4, q5⟩ := cN_S hX hN
  obtain ⟨a1, a2, a3, a4, a5, a6⟩ := aS_x hN.2.2.2.1
  have hK8 := hJ.1.1.1.2.2.2.2.1.2.2.1
  have hw : (1 : Int32) ≤ nn y ∧ nn y ≤ 9 := ⟨(nn_le (a := 1) (by omega) (by omega)).mpr y1, (nn_le (b := 9) (by omega) (by omega)).mpr y2⟩
  have hbk := bk_iG hJ.1 hi y2 hJ.2.1
  refine fL_i (Q := fun r m1 => r = .inl (bkE E i (nn y) 9 i 3) ∧ DS x T m1 (bkE E i (nn y)) l n d sv ∧ lF x m m1) ?_ (fun r m1 ⟨a1, a2⟩ => ⟨_, a1, rfl, a2⟩)
  unfold f_X11_offer
  rw [c_ckC hX hN, if_pos (rgC_n hi (by omega)), fb_x, c_out, fb_n, decide_eq_true hw, if_pos (by decide), hN.2.1, if_pos (fm_is_b hS.1), kS_3 hS, kS_z26 hS, if_pos ((nn_in (by omega)).mpr (by omega)), nn_tn (by omega), if_pos (pS_cb hS a1 (by omega)), if_pos (fm_is_b hS.1)]
  refine fE_be (c_addToBacklog hS a1 (V := cv m s) rfl (i := i) (by omega) (nn y)) (fun _ m1 h => ?_)
  have haS : aS m1 s (bkE E i (nn y)) l := aS_mI hN.2.2.2.1 rfl h (by rw [er_bk, hN.2.2.2.1.2.1]) (fun q k => by
    unfold bkE
    rw [uV_k (by omega), uV_k (by omega)]) (by
    unfold bkE
    rw [uV_k (by omega), uV_k (by omega)]) hbk.1.1
  have e3 : m1.1 (m.2.1 (s + 26) i) 3 = bkE E i (nn y) 9 i 3 := by
    rw [← h.2.2.2]
    exact (rd9 (V := cv m1 s) rfl (i := i) (by omega) 3).trans ((aS_x haS).2.2.1 9 i 3 (by omega))
  rw [e3]
  exact fE_ret ⟨rfl, ds_now hX hN hD hV h.2.2.1 haS hW bk_lk (bk_NM hM) (bk_JI hJ hbk).1 (z0_6 kS6_bk h0)⟩
theorem L_setUp (hX : kX H x) (h : DS x T m E l n d sv) {j : Nat} (hj : j < eL E) (u : Bool) : fE (f_L_setUp H x (nn j) (bi u) m) (fun r m1 => ¬ r < 0 ∧ DS x T m1 (suE E l j u) (suL E l j u) n d sv ∧ lF x m m1) := by
  obtain ⟨⟨s, t, hN⟩, hD, hV, hW, hM, hJ, h0⟩ := h
  obtain ⟨hS, hS2, q1, q2, q3, q4, q5⟩ := cN_S hX hN
  obtain ⟨a1, a2, a3, a4, a5, a6⟩ := aS_x hN.2.2.2.1
  have hL16 := hJ.1.1.1.2.2.2.2.1.2.1
  have hU := hJ.1.2.2.2.1 j hj
  have eU : bi (decide (0 ≤ (j : Int) ∧ (j : Int) < eL (cv m s) ∧ cv m s 3 (j : Int).toNat 4 ≠ 0)) = E 3 j 4 := by
    rw [a5, show (j : Int).toNat = j from rfl, a3 3 j 4 (by omega)]
    rcases hU with h | h
    · rw [h, decide_eq_false (by rintro ⟨_, _, q⟩; exact q rfl)]
      rfl
    · rw [h, decide_eq_true ⟨by omega, by omega, by decide⟩]
      rfl
  refine fL_i (Q := fun r m1 => r = .inl (E 3 j 4) ∧ DS x T m1 (suE E l j u) (suL E l j u) n d sv ∧ lF x m m1) ?_ (fun r m1 ⟨a1, a2⟩ => ⟨_, a1, ?_, a2⟩)
  · unfold f_X11_setUp
    rw [c_ckL hX hN, if_pos (rgC_n hj (by omega)), fb_x, hN.2.1, if_pos (fm_is_b hS.1), kS_0 hS, nn_ii, c_isUp hS a1 rfl a2 (j := (j : Int)) (by omega) (by omega), fb_n, ← nn_ii, hN.2.1, if_pos (fm_is_b hS.1), eU]
    refine fE_be (c_putUpS hS hN.2.2.2.1 hJ.1 (u := u) hj) (fun _ m1 ⟨c1, c2⟩ => ?_)
    rw [if_pos (by rcases hU with h | h <;> rw [h] <;> decide)]
    exact fE_ret ⟨rfl, ds_now hX hN hD hV c2 c1 hW su_lk (su_NM hM) (su_JI hJ hj).1 (z0_su h0)⟩
  · show ¬ (if E 3 j 4 = 0 then (0 : Int32) else 1) < 0
    split <;> decide
/-- the answer of a move to the best way -/
def mvR (E : VV) (i : Nat) (w : Int32) : Int32 := if E 9 i 2 ≠ 0 then 2 else if (bcE E i w).1 = 0 then 3 else (mvV E i (bcE E i w).1 (cnN (bcE E i w)) (cnL E (bcE E i w))).1
theorem tkI_cg (h : ∀ kd a k, kd ≤ 8 → E' kd a k = E kd a k) (hN : eN E ≤ 10) (hZ : ∀ f, f < 10 → eZ E f ≤ 12) {v : Nat} (hv : v < 10) : tkI E' v = tkI E v := by
  have nN : eN E' = eN E := by unfold eN; rw [h _ _ _ (by omega)]
  have nZ : ∀ f, eZ E' f = eZ E f := fun f => by unfold eZ; rw [h _ _ _ (by omega)]
  have e : PZ 0 16 E' = PZ 0 16 E := PZ_eq (fun kd i k hkd c => by
    rcases c with z | z | z | z | z | z | z | ⟨z, y⟩
    · exact h _ _ _ (by omega)
    · exact h _ _ _ (by omega)
    · exact h _ _ _ (by omega)
    · exact h _ _ _ (by omega)
    · exact h _ _ _ (by omega)
    · exact h _ _ _ (by omega)
    · exact h _ _ _ (by omega)
    · omega)
  rw [← PZ_tkI (K := 0) (L := 16) hN hZ hv, ← PZ_tkI (K := 0) (L := 16) (E := E') (by rw [nN]; exact hN) (fun f hf => by rw [nZ]; exact hZ f hf) hv, e]
theorem tl_cg {i c : Nat} (hc : c < 2) : ∀ (r j : Nat) (E E' : VV), (∀ kd a k, kd ≤ 8 → E' kd a k = E kd a k) → eN E ≤ 10 → (∀ f, f < 10 → eZ E f ≤ 12) → (∀ k, j ≤ k → k < j + r → ndE E i c k < 10 ∧ ndE E' i c k = ndE E i c k) → (tlE E' i c j r).1 = (tlE E i c j r).1 := by
  intro r
  induction r with
  | zero => exact fun _ _ _ _ _ _ _ => rfl
  | succ r ih =>
    intro j E E' h hN hZ hn
    obtain ⟨n1, n2⟩ := hn j (by omega) (by omega)
    rw [tlE_S, tlE_S, n2, tkI_cg h hN hZ n1]
    by_cases e : tkI E (ndE E i c j) = -1
    · rw [if_pos e, if_pos e]
    · rw [if_neg e, if_neg e]
      refine ih (j + 1) _ _ (fun kd a k hk => ?_) ?_ (fun f hf => ?_) (fun k k1 k2 => ?_)
      · unfold taE
        simp only [uV_at, h kd a k hk]
      · unfold eN
        rw [taE_o (by omega) (by omega) (by omega) (by omega)]
        exact hN
      · unfold eZ
        rw [taE_o (by omega) (by omega) (by omega) (by omega)]
        exact hZ f hf
      · have w : ∀ V : VV, ndE (taE V i c j (tkI E (ndE E i c j)).toNat (ndE E i c j)) i c k = ndE V i c k := fun V => by
          unfold ndE
          rw [taE_o (by omega) (by omega) (by omega) (by omega)]
        rw [w, w]
        exact hn k (by omega) (by omega)
theorem mvV_N {i n : Nat} {N N' Q Q' : Nat → Int32} {d : Nat → Nat} (hG : vG E) (h2 : 2 ≤ n) (h6 : n ≤ 6) (hN : ∀ k, k < n → N k = nn (d k) ∧ d k < 10 ∧ N' k = N k) (hQ : ∀ k, 1 ≤ k → k < n → Q' k = Q k) : (mvV E i n N' Q').1 = (mvV E i n N Q).1 := by
  have e1 : endV E i n N' = endV E i n N := by
    unfold endV
    rw [(hN 0 (by omega)).2.2, (hN (n - 1) (by omega)).2.2]
  have e2 : sameV E i n N' = sameV E i n N := by
    unfold sameV
    by_cases z : eA E i = n
    · rw [decide_eq_true z, Bool.true_and, Bool.true_and]
      exact na_c (fun k _ hk => by rw [(hN k (by omega)).2.2])
    · rw [decide_eq_false z, Bool.false_and, Bool.false_and]
  have e3 : na (fun k => hr E (eL E) (eK E) (eA E) (eB E) (Q' k).toInt (E 9 i 0) (nn i)) 1 (n - 1) = na (fun k => hr E (eL E) (eK E) (eA E) (eB E) (Q k).toInt (E 9 i 0) (nn i)) 1 (n - 1) := na_c (fun k k1 k2 => by rw [hQ k (by omega) (by omega)])
  have w : ∀ N Q : Nat → Int32, ∀ k, k < 6 → mvB E i n N Q (11 + 4 * 1) i k = N k := fun N Q k hk => by
    unfold mvB
    rw [cpV_at, if_neg (by omega), if_pos (by omega)]
  have o : ∀ N Q : Nat → Int32, ∀ kd a k, kd ≤ 8 → mvB E i n N Q kd a k = E kd a k := fun N Q kd a k hk => by
    unfold mvB
    rw [cpV_o (by omega)]
  have e5 : (tlE (mvB E i n N' Q') i 1 1 (n - 1)).1 = (tlE (mvB E i n N Q) i 1 1 (n - 1)).1 := by
    refine tl_cg (by omega) (n - 1) 1 _ _ (fun kd a k hk => by rw [o _ _ _ _ _ hk, o _ _ _ _ _ hk]) ?_ (fun f hf => ?_) (fun k k1 k2 => ?_)
    · unfold eN
      rw [o _ _ _ _ _ (by omega)]
      exact hG.2.2.2.2.1.1
    · unfold eZ
      rw [o _ _ _ _ _ (by omega)]
      exact (hG.2.2.2.2.2.1 f hf).2
    · obtain ⟨n1, n2, n3⟩ := hN k (by omega)
      unfold ndE
      rw [w _ _ _ (by omega), w _ _ _ (by omega), n3, n1, nn_t (by omega)]
      exact ⟨n2, rfl⟩
  unfold mvV
  rw [e1, e2, e3, e5]
  split
  · rfl
  · split
    · rfl
    · split
      · rfl
      · split
        · rfl
        · split <;> rfl
theorem mvR_eq (hI : iG E l) {i : Nat} (hi : i < eK E) {w r : Int32} {N Q : Nat → Int32} (p0 : E 9 i 2 = 0) (z0 : (bcE E i w).1 ≠ 0) (hb : bNL E (bcE E i w) N Q) (hr : r = (mvV E i (bcE E i w).1 N Q).1) : r = mvR E i w := by
  have hN10 := hI.1.1.2.2.2.2.1.1
  have h2 : 2 ≤ eA E i := (hI.1.2.2.2.1 i hi).1
  obtain ⟨n1, n2, n3, n4, n5⟩ := ends_E hI.1.2.1 hI.1.1 hi h2
  obtain ⟨b1, b2, -, -⟩ := bs_dW hI.1.2.2.1 (band := E 9 i 0) (e := nn i) (y := w) n3 n5 z0
  have b1' : dW E (bcE E i w).1 (bcE E i w).2.2 := b1
  unfold mvR
  rw [if_neg (fun z => z p0), if_neg z0, hr]
  exact mvV_N hI.1.1 b2 b1'.1 (fun k hk => ⟨rfl, by have := b1'.2.1 k hk; omega, hb.1 k hk⟩) (fun k k1 k2 => hb.2 k k1 k2)
/-- of a copy it is the same -/
theorem mvR_cp (hI : iG E l) (hI' : iG E' l) (hp : PZ (eK E) (eL E) E' = PZ (eK E) (eL E) E) (hK : eK E' = eK E) (hL : eL E' = eL E) {i : Nat} (hi : i < eK E) {w : Int32} : mvR E' i w = mvR E i w := by
  have hb := bD_G hI.1.1
  have hb' := bD_G hI'.1.1
  rw [hK, hL] at hb'
  have e9 : E' 9 i 2 = E 9 i 2 := by
    rw [← PZ_at (K := eK E) (L := eL E) (E := E') (iB9 ⟨hi, by omega⟩), hp, PZ_at (iB9 ⟨hi, by omega⟩)]
  have eb : bcE E' i w = bcE E i w := by
    rw [← PZ_bc hb' hi, hp, PZ_bc hb hi]
  unfold mvR
  rw [e9, eb]
  by_cases c1 : E 9 i 2 = 0
  · rw [if_neg (show ¬ (E 9 i 2 ≠ 0) from fun z => z c1), if_neg (show ¬ (E 9 i 2 ≠ 0) from fun z => z c1)]
    by_cases z0 : (bcE E i w).1 = 0
    · rw [if_pos z0, if_pos z0]
    · rw [if_neg z0, if_neg z0]
      have hN10 := hI.1.1.2.2.2.2.1.1
      have h2 : 2 ≤ eA E i := (hI.1.2.2.2.1 i hi).1
      obtain ⟨n1, n2, n3, n4, n5⟩ := ends_E hI.1.2.1 hI.1.1 hi h2
      obtain ⟨b1, b2, -, -⟩ := bs_dW hI.1.2.2.1 (band := E 9 i 0) (e := nn i) (y := w) n3 n5 z0
      have b1' : dW E (bcE E i w).1 (bcE E i w).2.2 := b1
      have hNd : ∀ k, k < (bcE E i w).1 → cnN (bcE E i w) k = nn ((bcE E i w).2.2 k) ∧ (bcE E i w).2.2 k < 10 := fun k hk => ⟨rfl, by have := b1'.2.1 k hk; omega⟩
      have eL2 : cnL E' (bcE E i w) = cnL E (bcE E i w) := by
        funext k
        unfold cnL
        rw [← PZ_lk hb', hp, PZ_lk hb]
      rw [eL2, ← PZ_mv (K := eK E) (L := eL E) hI'.1.1 hK hL hi b1'.1 hNd, hp, PZ_mv (K := eK E) (L := eL E) hI.1.1 rfl rfl hi b1'.1 hNd]
  · rw [if_pos c1, if_pos c1]
end
