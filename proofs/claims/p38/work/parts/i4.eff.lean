/-! THE DESK OF THE LAW: calls that change something -/
theorem fE_and {β : Type} {o : Option (β × fm_M)} {Q Q' : β → fm_M → Prop} (h : fE o Q) (h' : fE o Q') : fE o (fun r m => Q r m ∧ Q' r m) := by
  obtain ⟨r, m, e, q⟩ := h
  obtain ⟨r', m', e', q'⟩ := h'
  rw [e] at e'
  cases e'
  exact ⟨r, m, e, q, q'⟩
theorem PZ_eq {K L : Nat} {E E' : VV} (h : ∀ kd i k, kd ≤ 17 → iPB K L kd i k → E' kd i k = E kd i k) : PZ K L E' = PZ K L E := by
  funext kd i k
  by_cases c : iPB K L kd i k
  · rw [PZ_at c, PZ_at c]
    refine h kd i k ?_ c
    rcases c with z | z | z | z | z | z | z | ⟨z, y | y | y⟩ <;> omega
  · exact (if_neg c : PZ K L E' kd i k = 0).trans (if_neg c : PZ K L E kd i k = 0).symm
theorem NM_tkM : ∀ {n T B : Nat} {E : VV} {l : List (Nat → Int32)}, JI B E l → iNM T E → iNM (T + n) (tkM E l n).1 := by
  intro n
  induction n with
  | zero => exact fun _ h => h
  | succ n ih =>
    intro T B E l hJ hN
    have := ih (JI_tk hJ) (tk_NM hJ.2.1 hN)
    rw [show T + 1 + n = T + (n + 1) by omega] at this
    exact this
theorem z0_tkM : ∀ {n B : Nat} {E : VV} {l : List (Nat → Int32)}, JI B E l → iS0 E → iS0 (tkM E l n).1 := by
  intro n
  induction n with
  | zero => exact fun _ h => h
  | succ n ih =>
    intro B E l hJ h0
    exact ih (JI_tk hJ) (z0_tk hJ.1.1 hJ.2.2.1 hJ.2.1 h0)
theorem sm_mu {E E' : VV} (h : smE E E') (hG : vG E) (hL : eL E ≤ 16) {i : Nat} (hi : i < eK E) : mu E' i = mu E i := by
  have hK8 := hG.2.2.2.2.1.2.2.1
  have e12 : dlO E' i = dlO E i := by
    unfold dlO dlW
    rw [sm_L h, sm_A h hi]
    refine su_c (fun k k1 k2 => ?_)
    have hk : k < eW E i 0 := by
      show k < eA E i
      omega
    have e := sm_12 h hi (c := 0) (by omega) hk
    rw [show E' 12 i k = E 12 i k from e]
    unfold dOn
    by_cases q : 0 ≤ (E 12 i k).toInt ∧ (E 12 i k).toInt < eL E
    · rw [if_pos q, if_pos q, sm_3 h (by omega) (by omega)]
    · rw [if_neg q, if_neg q]
  have e13 : hlO E' (eA E') i = hlO E (eA E) i := by
    unfold hlO
    rw [sm_A h hi]
    refine nc_c (fun k k1 k2 => ?_)
    have hk : k < eW E i 0 := by
      show k < eA E i
      omega
    rw [show E' 13 i k = E 13 i k from sm_13 h hi (c := 0) (by omega) hk]
  unfold mu
  rw [sm_9 h hi (k := 2) (by omega), sm_9 h hi (k := 10) (by omega), sm_9 h hi (k := 9) (by omega), e12, e13]
section
variable {H : fm_H} {m m1 m2 : fm_M} {T T' x s t n : Nat} {E E' : VV} {l l' : List (Nat → Int32)} {d d' : Nat → Nat} {sv : Nat → Option (VV × List (Nat → Int32))} {n' : Nat}
theorem c_copyP (hS : kS H s) (hT : kS H t) (hd : s + 160 ≤ t ∨ t + 160 ≤ s) (ha : aS m s E l) (hI : iG E l) (hsp : sp m t) : fE (f_X7_copyFrom H t s m) (fun _ m' => ∃ E', aS m' t E' l ∧ smE E E' ∧ iG E' l ∧ PZ (eK E) (eL E) E' = PZ (eK E) (eL E) E ∧ fr t (t + 160) m m' ∧ m'.2.1 = m.2.1) := by
  have a2 := ha.2.1
  have hGV : vG (cv m s) := (sp_aS ha).2
  have hUV : iU (cv m s) := fun j hj => by
    have := hI.2.2.2.1 j (by rw [← a2]; exact hj)
    rw [← a2] at this
    exact this
  refine fE_w (fE_and (c_copyS hS hT hd ha hI hsp) (c_copyFrom hS hT hd ha.1 hsp.1 rfl hGV hUV)) (fun _ m' ⟨⟨E', y1, y2, y3, y4, y5⟩, V', w1, w2, w3⟩ => ⟨E', y1, y2, y3, PZ_eq (fun kd i k hkd c => ?_), y4, y5⟩)
  have e1 : E' = er V' := by rw [← y1.2.1, w1.1]
  have e2 : er V' kd i k = V' kd i k := er_n (by omega)
  have e3 : E kd i k = cv m s kd i k := by
    rw [← a2]
    exact er_n (by omega)
  have eK' : eK (cv m s) = eK E := by rw [← a2]; rfl
  have eL' : eL (cv m s) = eL E := by rw [← a2]; rfl
  rw [e1, e2, e3]
  refine w3 kd i k ?_
  rcases c with z | z | z | z | z | z | z | ⟨z, y | y | y⟩
  · exact Or.inl (Or.inl ⟨z.1, z.2.1, z.2.2.1, z.2.2.2⟩)
  · exact Or.inl (Or.inr (Or.inl z))
  · exact Or.inl (Or.inr (Or.inr (Or.inl z)))
  · exact Or.inl (Or.inr (Or.inr (Or.inr (Or.inl ⟨z.1, by rw [eL']; exact z.2.1, z.2.2⟩))))
  · exact Or.inl (Or.inr (Or.inr (Or.inr (Or.inr (Or.inl z)))))
  · exact Or.inl (Or.inr (Or.inr (Or.inr (Or.inr (Or.inr (Or.inl ⟨by omega, z.2.2.1, z.2.2.2⟩))))))
  · exact Or.inl (Or.inr (Or.inr (Or.inr (Or.inr (Or.inr (Or.inr z))))))
  · exact Or.inr (Or.inl ⟨by rw [eK']; exact z, Or.inl y⟩)
  · exact Or.inr (Or.inl ⟨by rw [eK']; exact z, Or.inr (Or.inl y)⟩)
  · exact Or.inr (Or.inl ⟨by rw [eK']; exact z, Or.inr (Or.inr ⟨by omega, y.2.2.2⟩)⟩)
theorem c_runD (hS : kS H s) (hx : x < s ∨ s + 160 ≤ x) {n : Nat} (hn : n ≤ 1000) (v2 : Int32) : ∀ (k q j B : Nat) (m : fm_M) (E : VV) (l : List (Nat → Int32)), m.2.1 x 5 = s → aS m s E l → JI B E l → j + k = n → k < q → fE (f_X11_run_17 H x (nn n) v2 q (nn j) m) (fun r m' => r = .inl ((tkM E l k).1 8 0 1 - v2) ∧ aS m' s (tkM E l k).1 (tkM E l k).2 ∧ fr s (s + 160) m m') := by
  intro k
  induction k with
  | zero =>
    intro q j B m E l h5 ha hJ h1 h2
    obtain ⟨q, rfl⟩ : ∃ q', q = q' + 1 := ⟨q - 1, by omega⟩
    unfold f_X11_run_17
    have e8 : m.1 (s + 25) 1 = E 8 0 1 := (rd8 rfl 1).trans (by rw [← ha.2.1]; rfl)
    rw [if_pos ((nn_le (by omega) (by omega)).mpr (by omega)), h5, if_pos (fm_is_b hS.1), kS_2 hS, e8]
    exact fE_ret ⟨rfl, ha, ⟨fun _ _ _ => ⟨rfl, rfl⟩, rfl⟩⟩
  | succ k ih =>
    intro q j B m E l h5 ha hJ h1 h2
    obtain ⟨q, rfl⟩ : ∃ q', q = q' + 1 := ⟨q - 1, by omega⟩
    unfold f_X11_run_17
    rw [if_neg (by rw [nn_le (by omega) (by omega)]; omega), h5, nn_inc, if_pos (fm_is_b hS.1)]
    refine fE_be (c_tick hS ha (iG_iA hJ.1)) (fun _ m1 ⟨a1, a2⟩ => ?_)
    refine fE_w (ih q (j + 1) (B + 8) m1 _ _ (((a2.1 x 5 hx).2).trans h5) a1 (JI_tk hJ) (by omega) (by omega)) (fun r m' ⟨b1, b2, b3⟩ => ⟨b1, b2, fr_tr a2 b3⟩)
theorem L_run (hX : kX H x) (h : DS x T m E l n d sv) {k : Nat} (k1 : 1 ≤ k) (k2 : k ≤ 200) : fE (f_L_run H x (nn k) m) (fun r m1 => r = (tkM E l k).1 8 0 1 - E 8 0 1 ∧ DS x (T + k) m1 (tkM E l k).1 (tkM E l k).2 n d sv ∧ lF x m m1) := by
  obtain ⟨⟨s, t, hN⟩, hD, hV, hW, hM, hJ, h0⟩ := h
  obtain ⟨hS, -, q1, q2, q3, q4, q5⟩ := cN_S hX hN
  have hv : (1 : Int32) ≤ nn k ∧ nn k ≤ 200 := ⟨(nn_le (a := 1) (by omega) (by omega)).mpr k1, (nn_le (b := 200) (by omega) (by omega)).mpr k2⟩
  refine fL_i (Q := fun r m1 => r = .inl ((tkM E l k).1 8 0 1 - E 8 0 1) ∧ DS x (T + k) m1 (tkM E l k).1 (tkM E l k).2 n d sv ∧ lF x m m1) ?_ (fun r m1 ⟨a1, a2⟩ => ⟨_, a1, rfl, a2⟩)
  unfold f_X11_run f_X11_checkTicks
  rw [c_out, fb_n, decide_eq_true hv, if_pos (by decide), fb_x, hN.2.1, if_pos (fm_is_b hS.1), kS_2 hS]
  have e8 : m.1 (s + 25) 1 = E 8 0 1 := (rd8 rfl 1).trans ((aS_x hN.2.2.2.1).2.2.1 8 0 1 (by omega))
  rw [e8]
  refine fE_w (c_runD hS (Or.inl (by omega)) (n := k) (by omega) _ k fm_N 0 _ m E l hN.2.1 hN.2.2.2.1 hJ (by omega) (by unfold fm_N; omega)) (fun r m1 ⟨a1, a2, a3⟩ => ⟨a1, ?_⟩)
  have hJ' := JI_tkM (n := k) hJ
  rw [show 8 * T + 8 * k = 8 * (T + k) by omega] at hJ'
  exact ds_now hX hN hD hV a3 a2 hW tkM_lk (NM_tkM hJ hM) hJ' (z0_tkM hJ h0)
theorem c_aheadD (hS : kS H s) (hS2 : kS H t) (hd : s + 160 ≤ t ∨ t + 160 ≤ s) (hx : x < t ∨ t + 160 ≤ x) {n w : Nat} (hn : n ≤ 1000) (hw : w ≤ 3) {y : Int32} : ∀ (k q j B : Nat) (m : fm_M) (E : VV) (l : List (Nat → Int32)), m.2.1 x 6 = t → m.2.1 x 5 = s → m.1 (s + 25) (fk w) = y → aS m t E l → JI B E l → j + k = n → k < q → fE (f_X11_ahead_22 H x (nn n) (nn w) q (nn j) m) (fun r m' => r = .inl ((tkM E l k).1 8 0 (fk w) - y) ∧ aS m' t (tkM E l k).1 (tkM E l k).2 ∧ fr t (t + 160) m m') := by
  intro k
  induction k with
  | zero =>
    intro q j B m E l h6 h5 hy ha hJ h1 h2
    obtain ⟨q, rfl⟩ : ∃ q', q = q' + 1 := ⟨q - 1, by omega⟩
    unfold f_X11_ahead_22
    have e8 : m.1 (t + 25) (fk w) = E 8 0 (fk w) := (rd8 rfl (fk w)).trans ((aS_x ha).2.2.1 8 0 _ (by omega))
    rw [if_pos ((nn_le (by omega) (by omega)).mpr (by omega)), h6, if_pos (fm_is_b hS2.1), kS_2 hS2, c_fate hw, fb_n, h5, if_pos (fm_is_b hS.1), kS_2 hS, c_fate hw, fb_n, e8, hy]
    exact fE_ret ⟨rfl, ha, ⟨fun _ _ _ => ⟨rfl, rfl⟩, rfl⟩⟩
  | succ k ih =>
    intro q j B m E l h6 h5 hy ha hJ h1 h2
    obtain ⟨q, rfl⟩ : ∃ q', q = q' + 1 := ⟨q - 1, by omega⟩
    unfold f_X11_ahead_22
    rw [if_neg (by rw [nn_le (by omega) (by omega)]; omega), h6, nn_inc, if_pos (fm_is_b hS2.1)]
    refine fE_be (c_tick hS2 ha (iG_iA hJ.1)) (fun _ m1 ⟨a1, a2⟩ => ?_)
    refine fE_w (ih q (j + 1) (B + 8) m1 _ _ (((a2.1 x 6 hx).2).trans h6) (((a2.1 x 5 hx).2).trans h5) (((a2.1 (s + 25) (fk w) (by omega)).1).trans hy) a1 (JI_tk hJ) (by omega) (by omega)) (fun r m' ⟨b1, b2, b3⟩ => ⟨b1, b2, fr_tr a2 b3⟩)
theorem ds_sp (hX : kX H x) (hN : cN m x s t E l) (hD : cD m x E n d) (hV : cS m x sv) (hf : fr t (t + 160) m m1) (hsp : sp m1 t) (hW : dW E n d) (hM : iNM T E) (hJ : JI (8 * T) E l) (h0 : iS0 E) : DS x T m1 E l n d sv ∧ lF x m m1 := by
  obtain ⟨-, -, q1, q2, q3, q4, q5⟩ := cN_S hX hN
  exact ds_fx hX hN hV (fun a k _ h2 => hf.1 a k (by omega)) hf.2 hsp (cD_k hD (ag_fr hf (by omega))) hW hM hJ h0
theorem L_ahead (hX : kX H x) (h : DS x T m E l n d sv) {k w : Nat} (k1 : 1 ≤ k) (k2 : k ≤ 200) (hw : w ≤ 3) : fE (f_L_ahead H x (nn k) (nn w) m) (fun r m1 => r = (tkM E l k).1 8 0 (fk w) - E 8 0 (fk w) ∧ DS x T m1 E l n d sv ∧ lF x m m1) := by
  obtain ⟨⟨s, t, hN⟩, hD, hV, hW, hM, hJ, h0⟩ := h
  obtain ⟨hS, hS2, q1, q2, q3, q4, q5⟩ := cN_S hX hN
  have hv : (1 : Int32) ≤ nn k ∧ nn k ≤ 200 := ⟨(nn_le (a := 1) (by omega) (by omega)).mpr k1, (nn_le (b := 200) (by omega) (by omega)).mpr k2⟩
  refine fL_i (Q := fun r m1 => r = .inl ((tkM E l k).1 8 0 (fk w) - E 8 0 (fk w)) ∧ DS x T m1 E l n d sv ∧ lF x m m1) ?_ (fun r m1 ⟨a1, a2⟩ => ⟨_, a1, rfl, a2⟩)
  unfold f_X11_ahead f_X11_checkTicks f_X11_checkWhat
  rw [c_out, fb_n, decide_eq_true hv, if_pos (by decide), fb_x, c_out, fb_n, decide_eq_true (show (0 : Int32) ≤ nn w ∧ nn w ≤ 3 from w_le (g := 3) hw (by omega)), if_pos (by decide), fb_x, hN.2.2.1, if_pos (fm_is_b hS2.1), hN.2.1, if_pos (fm_is_b hS.1)]
  refine fE_be (c_copyP hS hS2 q1 hN.2.2.2.1 hJ.1 hN.2.2.2.2) (fun _ mc ⟨E1, z1, z2, z3, zp, z4, z5⟩ => ?_)
  have e8 : mc.1 (s + 25) (fk w) = E 8 0 (fk w) := ((z4.1 (s + 25) (fk w) (by omega)).1).trans ((rd8 rfl _).trans ((aS_x hN.2.2.2.1).2.2.1 8 0 _ (by omega)))
  have hJ1 := sm_JI z2 z3.1.1 hJ
  refine fE_w (c_aheadD hS hS2 q1 (Or.inl (by omega)) (n := k) (by omega) hw k fm_N 0 _ mc E1 l (by rw [z5]; exact hN.2.2.1) (by rw [z5]; exact hN.2.1) e8 z1 hJ1 (by omega) (by unfold fm_N; omega)) (fun r m1 ⟨a1, a2, a3⟩ => ⟨?_, ?_⟩)
  · rw [a1, tkM_cp hJ hJ1 zp (sm_K z2) (sm_L z2) (fk_7 w)]
  · exact ds_sp hX hN hD hV (fr_tr z4 a3) (sp_aS a2) hW hM hJ h0
theorem L_save (hX : kX H x) (h : DS x T m E l n d sv) : fE (f_L_save H x (nn 1) m) (fun r m1 => r = 0 ∧ ∃ E', smE E E' ∧ iG E' l ∧ DS x T m1 E l n d (fun j => if j = 1 then some (E', l) else sv j) ∧ lF x m m1) := by
  obtain ⟨⟨s, t, hN⟩, hD, hV, hW, hM, hJ, h0⟩ := h
  obtain ⟨hS, hS2, q1, q2, q3, q4, q5⟩ := cN_S hX hN
  refine fL_i (Q := fun r m1 => r = .inl () ∧ ∃ E', smE E E' ∧ iG E' l ∧ DS x T m1 E l n d (fun j => if j = 1 then some (E', l) else sv j) ∧ lF x m m1) ?_ (fun r m1 ⟨a1, a2⟩ => ⟨_, a1, rfl, a2⟩)
  unfold f_X11_save f_X11_checkSavedSlot
  rw [c_out, fb_n, decide_eq_true (show (0 : Int32) ≤ nn 1 ∧ nn 1 ≤ 1 by decide), if_pos (by decide), fb_x, show H.2.1 x 3 = x + 19 from hX.2.1.2.2.2.1, show H.2.1 x 4 = x + 20 from hX.2.1.2.2.2.2, hX.2.2.2.2.2.1.1, hX.2.2.2.2.2.1.2, if_pos ((nn_in (by omega)).mpr (by omega)), nn_tn (by omega), cS_a hV (i := 1) (by omega), if_pos (fm_is_b (kX_v hX (i := 1) (by omega)).1), hN.2.1, if_pos (fm_is_b hS.1)]
  refine fE_be (c_copyS hS (kX_v hX (i := 1) (by omega)) (by omega) hN.2.2.2.1 hJ.1 (cS_sp hV (by omega))) (fun _ m1 ⟨E', y1, y2, y3, y4, y5⟩ => ?_)
  rw [if_pos ((nn_in (by omega)).mpr (by omega)), fb_d, nw_1]
  refine fE_ret ⟨rfl, E', y2, y3, ?_⟩
  obtain ⟨m2, em2⟩ : ∃ m2, m2 = fm_si m1 (x + 20) 1 1 := ⟨_, rfl⟩
  rw [← em2]
  have ag2 : ∀ lo hi, hi ≤ x + 20 ∨ x + 21 ≤ lo → ag lo hi m1 m2 := fun lo hi h a k z1 z2 => by
    rw [em2]
    exact ⟨si_o (by omega), rfl⟩
  have agA : ∀ lo hi, hi ≤ x + 20 ∨ x + 21 ≤ lo → (hi ≤ x + 341 + 160 * 1 ∨ x + 341 + 160 * 1 + 160 ≤ lo) → ag lo hi m m2 := fun lo hi h h' => ag_tr (ag_fr y4 h') (ag2 lo hi h)
  refine ⟨⟨⟨s, t, hN.1, ((agA x (x + 1) (by omega) (by omega) x 5 (by omega) (by omega)).2).trans hN.2.1, ((agA x (x + 1) (by omega) (by omega) x 6 (by omega) (by omega)).2).trans hN.2.2.1, aS_ag hN.2.2.2.1 (agA _ _ (by omega) (by omega)), sp_ag hN.2.2.2.2 (agA _ _ (by omega) (by omega))⟩, cD_k hD (agA _ _ (by omega) (by omega)), ⟨⟨?_, ?_⟩, fun j hj => ?_⟩, hW, hM, hJ, h0⟩, fun a k h => ?_, ?_⟩
  · exact ((agA (x + 19) (x + 20) (by omega) (by omega) (x + 19) 0 (by omega) (by omega)).2).trans hV.1.1
  · exact ((agA (x + 19) (x + 20) (by omega) (by omega) (x + 19) 1 (by omega) (by omega)).2).trans hV.1.2
  · by_cases ej : j = 1
    · subst ej
      refine Or.inr ⟨(E', l), if_pos rfl, ?_, aS_ag y1 (ag2 _ _ (by omega))⟩
      rw [em2, si_s]
    · have ef : m2.1 (x + 20) j = m.1 (x + 20) j := by
        rw [em2, si_o (by omega)]
        exact (ag_fr y4 (lo := x + 20) (hi := x + 21) (by omega) (x + 20) j (by omega) (by omega)).1
      rw [show (fun j => if j = 1 then some (E', l) else sv j) j = sv j from if_neg ej, ef]
      have agj : ag (x + 341 + 160 * j) (x + 341 + 160 * j + 160) m m2 := agA _ _ (by omega) (by omega)
      rcases hV.2 j hj with ⟨e1, e2, e3⟩ | ⟨q, e1, e2, e3⟩
      · exact Or.inl ⟨e1, e2, sp_ag e3 agj⟩
      · exact Or.inr ⟨q, e1, e2, aS_ag e3 agj⟩
  · rcases h with h | h
    · exact agA 0 x (by omega) (by omega) a k (by omega) h
    · exact agA (x + 661) (a + 1) (by omega) (by omega) a k h (by omega)
  · rw [em2]
    exact y4.2
theorem L_restore (hX : kX H x) (h : DS x T m E l n d sv) (hs : sv 1 = some (E', l')) (hM' : iNM T' E') (hJ' : JI (8 * T') E' l') (h0' : iS0 E') : fE (f_L_restore H x (nn 1) m) (fun r m1 => r = 0 ∧ ∃ E2, smE E' E2 ∧ DS x T' m1 E2 l' 0 d sv ∧ lF x m m1) := by
  obtain ⟨⟨s, t, hN⟩, hD, hV, hW, hM, hJ, h0⟩ := h
  obtain ⟨hS, hS2, q1, q2, q3, q4, q5⟩ := cN_S hX hN
  obtain ⟨f2, f3⟩ : m.1 (x + 20) 1 = 1 ∧ aS m (x + 341 + 160 * 1) E' l' := by
    rcases hV.2 1 (by omega) with ⟨e1, _⟩ | ⟨q, e1, e2, e3⟩
    · rw [hs] at e1
      cases e1
    · rw [hs] at e1
      cases e1
      exact ⟨e2, e3⟩
  refine fL_i (Q := fun r m1 => r = .inl () ∧ ∃ E2, smE E' E2 ∧ DS x T' m1 E2 l' 0 d sv ∧ lF x m m1) ?_ (fun r m1 ⟨a1, a2⟩ => ⟨_, a1, rfl, a2⟩)
  unfold f_X11_restore f_X11_checkSavedSlot
  rw [c_out, fb_n, decide_eq_true (show (0 : Int32) ≤ nn 1 ∧ nn 1 ≤ 1 by decide), if_pos (by decide), fb_x, show H.2.1 x 3 = x + 19 from hX.2.1.2.2.2.1, show H.2.1 x 4 = x + 20 from hX.2.1.2.2.2.2, hX.2.2.2.2.2.1.1, hX.2.2.2.2.2.1.2, if_pos ((nn_in (by omega)).mpr (by omega)), nn_tn (by omega), f2, if_neg (by decide), hN.2.1, if_pos (fm_is_b hS.1), if_pos ((nn_in (by omega)).mpr (by omega)), cS_a hV (i := 1) (by omega), if_pos (fm_is_b (kX_v hX (i := 1) (by omega)).1)]
  refine fE_be (c_copyS (kX_v hX (i := 1) (by omega)) hS (by omega) f3 hJ'.1 (sp_aS hN.2.2.2.1)) (fun _ m1 ⟨E2, y1, y2, y3, y4, y5⟩ => ?_)
  unfold f_X10_erase
  rw [show H.2.1 x 2 = x + 15 from hX.2.1.2.2.1, fb_d, fb_n]
  refine fE_ret ⟨rfl, E2, y2, ?_⟩
  obtain ⟨m2, em2⟩ : ∃ m2, m2 = fm_si m1 (x + 15) 0 0 := ⟨_, rfl⟩
  rw [← em2]
  have a15 : ∀ lo hi, hi ≤ x + 15 ∨ x + 16 ≤ lo → ag lo hi m1 m2 := fun lo hi h a k z1 z2 => by
    rw [em2]
    exact ⟨si_o (by omega), rfl⟩
  have agA : ∀ lo hi, hi ≤ x + 15 ∨ x + 16 ≤ lo → (hi ≤ s ∨ s + 160 ≤ lo) → ag lo hi m m2 := fun lo hi h h' => ag_tr (ag_fr y4 h') (a15 lo hi h)
  have z15 : m2.1 (x + 15) 0 = nn 0 := by rw [em2]; exact si_s
  refine ⟨⟨⟨s, t, hN.1, ((agA x (x + 1) (by omega) (by omega) x 5 (by omega) (by omega)).2).trans hN.2.1, ((agA x (x + 1) (by omega) (by omega) x 6 (by omega) (by omega)).2).trans hN.2.2.1, aS_ag y1 (a15 _ _ (by omega)), sp_ag hN.2.2.2.2 (agA _ _ (by omega) (by omega))⟩, ⟨z15, fun k hk => by omega, fun k _ hk => by omega⟩, cS_k hV (agA _ _ (by omega) (by omega)) (agA _ _ (by omega) (by omega)), dW_0, sm_NM y2 hJ'.1 hM', sm_JI y2 y3.1.1 hJ', z0_sm y2 h0'⟩, fun a k h => ?_, ?_⟩
  · rcases h with h | h
    · exact agA 0 x (by omega) (by omega) a k (by omega) h
    · exact agA (x + 661) (a + 1) (by omega) (by omega) a k h (by omega)
  · rw [em2]
    exact y4.2
end
