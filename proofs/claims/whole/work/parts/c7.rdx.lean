/-! calls, side by side: texts, what was told last, the draft's nodes -/
section
variable {H : fm_H} {m m0 m1 m2 m00 : fm_M} {Lo : Nat → Nat → Int32} {T T' x b s t n tn : Nat} {E : VV} {l : List (Nat → Int32)} {d tx : Nat → Nat} {sv : Nat → Option (VV × List (Nat → Int32))} {c p : Int32}
/-- the text with bytes of z behind it -/
def txA (tn : Nat) (tx : Nat → Nat) (z : Int32) : Nat → Nat := fun k => if k < tn then tx k else bt z (k - tn)
def cA (x tn : Nat) (tx : Nat → Nat) (z : Int32) (m0 m : fm_M) (j : Nat) : Prop := m.1 (x + 2) 1 = nn (tn + j) ∧ (∀ k, k < tn + j → m.1 (x + 3) k = by8 (txA tn tx z k)) ∧ (∀ a k, ¬ (x + 2 ≤ a ∧ a < x + 4) → m.1 a k = m0.1 a k) ∧ m.2 = m0.2
theorem c_ap_l (hX : kX H x) {z : Int32} (ht : tn + 4 ≤ 800) : ∀ (r q j : Nat) (m : fm_M), j + r = 4 → r < q → cA x tn tx z m0 m j → fE (f_X8_appendFour_22 H (x + 2) z q (ii (24 - 8 * (j : Int))) m) (fun r m' => r = 1 ∧ cA x tn tx z m0 m' 4) := by
  intro r
  induction r with
  | zero =>
    intro q j m h1 h2 hm
    obtain ⟨q, rfl⟩ : ∃ q', q = q' + 1 := ⟨q - 1, by omega⟩
    have : j = 4 := by omega
    subst this
    unfold f_X8_appendFour_22
    rw [if_pos (by decide)]
    exact fE_ret ⟨rfl, hm⟩
  | succ r ih =>
    intro q j m h1 h2 hm
    obtain ⟨q, rfl⟩ : ∃ q', q = q' + 1 := ⟨q - 1, by omega⟩
    obtain ⟨e1, e2, e3, e4⟩ := hm
    unfold f_X8_appendFour_22
    rw [if_neg (by rw [ii_0, ii_lt (by omega) (by omega) (by omega) (by omega)]; omega), show H.2.1 (x + 2) 0 = x + 3 from hX.2.2.1.2.2.2.1, hX.2.2.1.2.2.2.2, e1, if_pos ((nn_in (by omega)).mpr (by omega)), nn_tn (by omega), bt_c (by omega), fb_d, si_o (by omega), e1, nn_inc, fb_d, show (-8 : Int32) = ii (-8) by decide, ii_add, show (24 - 8 * (j : Int) + -8) = 24 - 8 * ((j + 1 : Nat) : Int) by omega]
    refine ih q (j + 1) _ (by omega) (by omega) ⟨si_s, fun k hk => ?_, fun a k h => ?_, e4⟩
    · rw [si_oth (by omega)]
      by_cases ek : k = tn + j
      · subst ek
        rw [si_s]
        unfold txA
        rw [if_neg (by omega), show tn + j - tn = j by omega]
      · rw [si_o (by omega)]
        exact e2 k (by omega)
    · rw [si_o (by omega), si_o (by omega)]
      exact e3 a k h
def rA (b tn : Nat) (tx : Nat → Nat) (z : Int32) (m0 m : fm_M) (j : Nat) : Prop := m.1 b 9 = nn (tn + j) ∧ (∀ k, k < tn + j → m.1 (b + 7) k = nn (txA tn tx z k)) ∧ (∀ a k, ¬ (a = b ∧ k = 9) → a ≠ b + 7 → m.1 a k = m0.1 a k) ∧ m.2 = m0.2
theorem r_ap_l (hM : kM H b) {z : Int32} (ht : tn + 4 ≤ 800) : ∀ (r q j : Nat) (m : fm_M), j + r = 4 → r < q → rA b tn tx z m0 m j → fE (f_X12_appendText_26 H b z q (ii (24 - 8 * (j : Int))) m) (fun r m' => r = nn (tn + 4) ∧ rA b tn tx z m0 m' 4) := by
  intro r
  induction r with
  | zero =>
    intro q j m h1 h2 hm
    obtain ⟨q, rfl⟩ : ∃ q', q = q' + 1 := ⟨q - 1, by omega⟩
    have : j = 4 := by omega
    subst this
    unfold f_X12_appendText_26
    rw [if_pos (by decide)]
    exact fE_ret ⟨hm.1, hm⟩
  | succ r ih =>
    intro q j m h1 h2 hm
    obtain ⟨q, rfl⟩ : ∃ q', q = q' + 1 := ⟨q - 1, by omega⟩
    obtain ⟨e1, e2, e3, e4⟩ := hm
    unfold f_X12_appendText_26
    rw [if_neg (by rw [ii_0, ii_lt (by omega) (by omega) (by omega) (by omega)]; omega), kM_8 hM, kM_z7 hM, e1, if_pos ((nn_in (by omega)).mpr (by omega)), nn_tn (by omega), bt_r (by omega), fb_d, si_o (by omega), e1, nn_inc, fb_d, show (-8 : Int32) = ii (-8) by decide, ii_add, show (24 - 8 * (j : Int) + -8) = 24 - 8 * ((j + 1 : Nat) : Int) by omega]
    refine ih q (j + 1) _ (by omega) (by omega) ⟨si_s, fun k hk => ?_, fun a k h h' => ?_, e4⟩
    · rw [si_oth (by omega)]
      by_cases ek : k = tn + j
      · subst ek
        rw [si_s]
        unfold txA
        rw [if_neg (by omega), show tn + j - tn = j by omega]
      · rw [si_o (by omega)]
        exact e2 k (by omega)
    · rw [si_o (by omega), si_o (by omega)]
      exact e3 a k h h'
/-- after a call that changes the text alone -/
theorem top_tx (hb : x + 661 ≤ b) (hK : cN m x s t E l ∧ cD m x E n d ∧ cS m x sv ∧ cX m x tn tx ∧ cC m x c p) (hR : rAll (m.1 (b + 1)) E l ∧ dR b m n d ∧ rS m b sv ∧ rX m b tn tx ∧ rC9 m b c p) (hI : iG E l) (hN : iNM T E) (hW : dW E n d) (h2 : iS3 Lo T sv x m) (hc : ∀ a k, ¬ (x + 2 ≤ a ∧ a < x + 4) → m1.1 a k = m.1 a k) (hc2 : m1.2 = m.2) (hr : ∀ a k, ¬ (a = b ∧ (k = 7 ∨ k = 9)) → a ≠ b + 7 → m2.1 a k = m1.1 a k) (hr2 : m2.2 = m1.2) {tn' : Nat} {tx' : Nat → Nat} (hX' : cX m1 x tn' tx') (hrX : rX m2 b tn' tx') : TOP Lo T x b m2 := by
  obtain ⟨k1, k2, k3, k4, k5⟩ := hK
  obtain ⟨r1, r2, r3, r4, r5⟩ := hR
  have q1 : ∀ lo hi, hi ≤ b → ag lo hi m1 m2 := fun lo hi h a k y z => ⟨hr a k (by omega) (by omega), by rw [hr2]⟩
  have q : ∀ lo hi, hi ≤ b → hi ≤ x + 2 ∨ x + 4 ≤ lo → ag lo hi m m2 := fun lo hi h h' a k y z => ⟨(hr a k (by omega) (by omega)).trans (hc a k (by omega)), by rw [hr2, hc2]⟩
  have o : ∀ a k, b ≤ a → ¬ (a = b ∧ (k = 7 ∨ k = 9)) → a ≠ b + 7 → m2.1 a k = m.1 a k := fun a k h1 h2 h3 => (hr a k h2 h3).trans (hc a k (by omega))
  have hs : x + 21 ≤ s ∧ s + 160 ≤ x + 341 ∧ x + 21 ≤ t ∧ t + 160 ≤ x + 341 := by
    rcases k1.1 with ⟨e1, e2⟩ | ⟨e1, e2⟩ <;> omega
  have row : ∀ a, b < a → a ≠ b + 7 → m2.1 a = m.1 a := fun a h1 h2 => funext fun k => o a k (by omega) (by omega) h2
  refine ⟨s, t, E, l, n, d, sv, tn', tx', c, p, ⟨⟨k1.1, ?_, ?_, aS_ag k1.2.2.2.1 (q _ _ (by omega) (by omega)), sp_ag k1.2.2.2.2 (q _ _ (by omega) (by omega))⟩, cD_k k2 (q _ _ (by omega) (by omega)), cS_k k3 (q _ _ (by omega) (by omega)) (q _ _ (by omega) (by omega)), cX_k hX' (q1 _ _ (by omega)), cC_k k5 (q _ _ (by omega) (by omega))⟩, ⟨by rw [row _ (by omega) (by omega)]; exact r1, dR_c r2 (o _ _ (by omega) (by omega) (by omega)) (row _ (by omega) (by omega)), fun i hi => ?_, hrX, ⟨(o _ _ (by omega) (by omega) (by omega)).trans r5.1, (o _ _ (by omega) (by omega) (by omega)).trans r5.2⟩⟩, hI, hN, hW, h2.1, fun a k h => ((q 0 x (by omega) (by omega) a k (by omega) h).1).trans (h2.2 a k h)⟩
  · exact ((q x (x + 1) (by omega) (by omega) x 5 (by omega) (by omega)).2).trans k1.2.1
  · exact ((q x (x + 1) (by omega) (by omega) x 6 (by omega) (by omega)).2).trans k1.2.2.1
  · rw [row (b + 5) (by omega) (by omega), row (b + 4) (by omega) (by omega)]
    exact r3 i hi
theorem t_appendText (hX : kX H x) (hM : kM H b) (hb : x + 661 ≤ b) (hT : TOP Lo T x b m) (z : Int32) : CALL Lo x b T (f_X11_appendText H x z m) (f_X12_appendText H b z) (an [pm_xI]) := by
  have hT0 := hT
  obtain ⟨s, t, E, l, n, d, sv, tn, tx, c, p, hK, hR, hI, hN, hW, h2⟩ := hT
  obtain ⟨x1, x2, x3⟩ := hK.2.2.2.1
  obtain ⟨y1, y2⟩ := hR.2.2.2.1
  by_cases ht : tn + 4 ≤ 800
  · unfold CALL f_X11_appendText f_X8_appendFour
    rw [show H.2.1 x 0 = x + 1 from hX.2.1.1, show H.2.1 (x + 1) 0 = x + 2 from hX.2.2.1.2.1, x1, if_neg (by rw [nl_0, nn_lt (by omega) (by omega)]; omega), if_pos (by show nn tn ≤ nn 796; exact (nn_le (by omega) (by omega)).mpr (by omega))]
    refine fE_be (c_ap_l hX (m0 := m) (tn := tn) (tx := tx) ht 4 fm_N 0 m (by omega) (by unfold fm_N; omega) ⟨by rw [x1]; rfl, fun k hk => ?_, fun _ _ _ => rfl, rfl⟩) (fun r m1 ⟨a1, a2, a3, a4, a5⟩ => ?_)
    · unfold txA
      rw [if_pos (by omega)]
      exact (x3 k (by omega)).1
    · rw [if_neg (by rw [a1]; decide), a2]
      refine fE_ret ?_
      unfold f_X12_appendText
      have e9 : (fm_si m1 b 7 0).1 b 9 = nn tn := by rw [si_o (by omega), a4 _ _ (by omega)]; exact y1
      rw [fb_d, e9, nl_4, nn_add, if_pos (by rw [nl_800]; exact (nn_le (by omega) (by omega)).mpr (by omega))]
      refine fE_w (r_ap_l hM (m0 := fm_si m1 b 7 0) (tn := tn) (tx := tx) (z := z) ht 4 fm_N 0 _ (by omega) (by unfold fm_N; omega) ⟨e9, fun k hk => ?_, fun _ _ _ _ => rfl, rfl⟩) (fun r' m2 ⟨b1, b2, b3, b4, b5⟩ => ⟨Or.inl ⟨by rw [b1], ?_⟩, ?_⟩)
      · unfold txA
        rw [if_pos (by omega), si_oth (by omega), a4 _ _ (by omega)]
        exact y2 k (by omega)
      · rw [b4 _ _ (by omega) (by omega)]
        exact si_s
      · refine top_tx hb hK hR hI hN hW h2 a4 a5 (fun a k h h' => ?_) ?_ (tn' := tn + 4) (tx' := txA tn tx z) ⟨a2, ht, fun k hk => ⟨a3 k hk, ?_⟩⟩ ⟨b2, b3⟩
        · rw [b4 a k (by omega) h', si_o (by omega)]
        · rw [b5]
          rfl
        · unfold txA
          split
          · exact (x3 k (by omega)).2
          · exact bt_lt
  · refine call_e hb hT0 (Nat.le_refl _) (k := 0) (e := pm_xI) (y := 0) rfl ?_ ?_
    · unfold f_X11_appendText f_X8_appendFour
      rw [show H.2.1 x 0 = x + 1 from hX.2.1.1, show H.2.1 (x + 1) 0 = x + 2 from hX.2.2.1.2.1, x1, if_neg (by rw [nl_0, nn_lt (by omega) (by omega)]; omega), if_neg (by show ¬ nn tn ≤ nn 796; rw [nn_le (by omega) (by omega)]; omega), fb_n, if_pos rfl]
    · unfold f_X12_appendText
      rw [fb_d, si_o (by omega), y1, nl_4, nn_add, if_neg (by rw [nl_800, nn_le (by omega) (by omega)]; omega), r_fail, fb_n]
      rfl
theorem t_truncateText (hX : kX H x) (hM : kM H b) (hb : x + 661 ≤ b) (hT : TOP Lo T x b m) (v : Int32) : CALL Lo x b T (f_X11_truncateText H x v m) (f_X12_truncateText H b v) (an [pm_xA]) := by
  have hT0 := hT
  obtain ⟨s, t, E, l, n, d, sv, tn, tx, c, p, hK, hR, hI, hN, hW, h2⟩ := hT
  obtain ⟨x1, x2, x3⟩ := hK.2.2.2.1
  obtain ⟨y1, y2⟩ := hR.2.2.2.1
  have e0 : H.2.1 (H.2.1 x 0) 0 = x + 2 := by rw [show H.2.1 x 0 = x + 1 from hX.2.1.1, show H.2.1 (x + 1) 0 = x + 2 from hX.2.2.1.2.1]
  by_cases hv : (0 : Int32) ≤ v ∧ v ≤ nn tn
  · obtain ⟨k, -, k1, rfl⟩ := rgN (lo := 0) (hi := tn) (by omega) (by omega) hv
    unfold CALL f_X11_truncateText
    rw [e0, x1, c_out, fb_n, decide_eq_true hv, if_pos (by decide), fb_d]
    refine fE_ret ?_
    unfold f_X12_truncateText
    have e9 : (fm_si (fm_si m (x + 2) 1 (nn k)) b 7 0).1 b 9 = nn tn := by rw [si_o (by omega), si_o (by omega)]; exact y1
    rw [fb_d, e9, r_isBetween, fb_n, decide_eq_true hv, if_neg (by decide), fb_d, si_s]
    refine fE_ret ⟨Or.inl ⟨rfl, ?_⟩, ?_⟩
    · rw [si_o (by omega), si_s]
    · refine top_tx hb hK hR hI hN hW h2 (m1 := fm_si m (x + 2) 1 (nn k)) (fun a k' h => si_o (by omega)) rfl (fun a k' h h' => ?_) rfl (tn' := k) (tx' := tx) ⟨si_s, by omega, fun k' hk => ⟨?_, (x3 k' (by omega)).2⟩⟩ ⟨si_s, fun k' hk => ?_⟩
      · rw [si_o (by omega), si_o (by omega)]
      · rw [si_oth (by omega)]
        exact (x3 k' (by omega)).1
      · rw [si_oth (by omega), si_oth (by omega), si_oth (by omega)]
        exact y2 k' (by omega)
  · refine call_e hb hT0 (Nat.le_refl _) (k := 0) (e := pm_xA) (y := 0) rfl ?_ ?_
    · unfold f_X11_truncateText
      rw [e0, x1, c_out, fb_n, decide_eq_false hv, if_neg (by decide)]
    · unfold f_X12_truncateText
      rw [fb_d, si_o (by omega), y1, r_isBetween, fb_n, decide_eq_false hv, if_pos (by decide), r_fail, fb_n]
      rfl
/-- the same is answered, nothing is thrown -/
def eqA {α : Type} (r r' : α) (_ : Int32) : Prop := r = r'
theorem call_r2 {α : Type} (hb : x + 661 ≤ b) (hT : TOP Lo T x b m) {o : Option (α × fm_M)} {g : fm_M → Option (α × fm_M)} {y : α} (ho : o = some (y, m)) (hg : fE (g m) (fun r' m2 => r' = y ∧ rI b (fm_si m b 7 0) m2 (m.1 (b + 1)))) : CALL Lo x b T o g eqA := by
  have := call_rd (cs := []) hb hT (o := some (.inl y, m)) (g := g) rfl hg
  rw [show CALL Lo x b T o g eqA = fE o _ from rfl, ho]
  obtain ⟨r, m1, e, h⟩ := this
  cases e
  refine fE_ret (fE_w h (fun r' m2 ⟨a1, a2⟩ => ⟨?_, a2⟩))
  rcases a1 with ⟨a1, -⟩ | ⟨k, e, a1, -⟩
  · exact Sum.inl.inj a1
  · cases a1
theorem t_errorCode (hM : kM H b) (hb : x + 661 ≤ b) (hT : TOP Lo T x b m) : CALL Lo x b T (f_X11_errorCode H x m) (f_X12_errorCode H b) eqA := by
  have hT0 := hT
  obtain ⟨s, t, E, l, n, d, sv, tn, tx, c, p, hK, hR, hI, hN, hW, h2⟩ := hT
  refine call_r2 hb hT0 (y := c) ?_ ?_
  · unfold f_X11_errorCode
    rw [hK.2.2.2.2.1]
  · unfold f_X12_errorCode
    rw [fb_d, si_o (by omega), hR.2.2.2.2.1]
    exact fE_ret ⟨rfl, rI_7 rfl⟩
theorem t_errorPosition (hM : kM H b) (hb : x + 661 ≤ b) (hT : TOP Lo T x b m) : CALL Lo x b T (f_X11_errorPosition H x m) (f_X12_errorPosition H b) eqA := by
  have hT0 := hT
  obtain ⟨s, t, E, l, n, d, sv, tn, tx, c, p, hK, hR, hI, hN, hW, h2⟩ := hT
  refine call_r2 hb hT0 (y := p) ?_ ?_
  · unfold f_X11_errorPosition
    rw [hK.2.2.2.2.2]
  · unfold f_X12_errorPosition
    rw [fb_d, si_o (by omega), hR.2.2.2.2.2]
    exact fE_ret ⟨rfl, rI_7 rfl⟩
/-- after a call that changes the draft alone -/
theorem top_d (hX : kX H x) (hb : x + 661 ≤ b) (hK : cN m x s t E l ∧ cD m x E n d ∧ cS m x sv ∧ cX m x tn tx ∧ cC m x c p) (hR : rAll (m.1 (b + 1)) E l ∧ dR b m n d ∧ rS m b sv ∧ rX m b tn tx ∧ rC9 m b c p) (hI : iG E l) (hN : iNM T E) (h2 : iS3 Lo T sv x m) (hc : ∀ a k, ¬ (x + 4 ≤ a ∧ a < x + 19) → m1.1 a k = m.1 a k) (hc2 : m1.2 = m.2) (hr : tR b m1 m2) (h1 : m2.1 (b + 1) = m1.1 (b + 1)) {n' : Nat} {d' : Nat → Nat} (hD : cD m1 x E n' d') (hdR : dR b m2 n' d') (hW : dW E n' d') : TOP Lo T x b m2 := by
  obtain ⟨-, -, -, q1, q2, q3, q4⟩ := cN_S hX hK.1
  have hcF : cF x m m1 := ⟨fun a k z _ => ⟨hc a k (by omega), by rw [hc2]⟩, by rw [hc2]⟩
  refine top_mk hb hK hR h2 (Nat.le_refl _) hcF hr (aS_ag hK.1.2.2.2.1 (fun a k z1 z2 => ⟨hc a k (by omega), by rw [hc2]⟩)) (sp_ag hK.1.2.2.2.2 (fun a k z1 z2 => ⟨hc a k (by omega), by rw [hc2]⟩)) hD ?_ hdR hI hN hW
  rw [h1, cF_r hb hcF (by omega)]
  exact hR.1
theorem t_clearDraft (hX : kX H x) (hM : kM H b) (hb : x + 661 ≤ b) (hT : TOP Lo T x b m) : CALL Lo x b T (f_X11_clearDraft H x m) (f_X12_clearDraft H b) eqA := by
  obtain ⟨s, t, E, l, n, d, sv, tn, tx, c, p, hK, hR, hI, hN, hW, h2⟩ := hT
  unfold CALL f_X11_clearDraft f_X10_erase
  rw [show H.2.1 x 2 = x + 15 from hX.2.1.2.2.1, fb_d, fb_n, hK.2.1.1]
  refine fE_ret ?_
  unfold f_X12_clearDraft
  rw [fb_d, fb_d, si_o (by omega), si_o (by omega), hR.2.1.1]
  refine fE_ret ⟨rfl, ?_⟩
  exact top_d hX hb hK hR hI hN h2 (m1 := fm_si m (x + 15) 0 0) (fun a k h => si_o (by omega)) rfl (tR_tr (tR_g gR_7) (tR_g gR_6)) (by rw [si_oth (by omega), si_oth (by omega)]) (n' := 0) (d' := d) ⟨si_s, fun k hk => by omega, fun k _ hk => by omega⟩ ⟨si_s, fun k hk => by omega⟩ dW_0
theorem t_draftNode (hX : kX H x) (hM : kM H b) (hb : x + 661 ≤ b) (hT : TOP Lo T x b m) (v : Int32) : CALL Lo x b T (f_X11_draftNode H x v m) (f_X12_draftNode H b v) (an [pm_xB]) := by
  have hT0 := hT
  obtain ⟨s, t, E, l, n, d, sv, tn, tx, c, p, hK, hR, hI, hN, hW, h2⟩ := hT
  have h6 := hW.1
  by_cases hv : (0 : Int32) ≤ v
  · have hv' : 0 ≤ v.toInt := by
      rw [Int32.le_iff_toInt_le] at hv
      exact hv
    have hv2 := Int32.toInt_lt v
    have na := c_nodeAt (H := H) hX.2.2.2.2.1 (show m.1 (x + 15) 0 = ii n from hK.2.1.1) h6 (j := v.toInt) (by omega) (by omega)
    rw [← ii_of v] at na
    have e6 : (fm_si m b 7 0).1 b 6 = nn n := by rw [si_o (by omega)]; exact hR.2.1.1
    have le : nn n ≤ v ↔ (n : Int) ≤ v.toInt := by
      rw [Int32.le_iff_toInt_le, nn_t (by omega)]
    by_cases hn : v.toInt < n
    · obtain ⟨k, hk, rfl⟩ := rgC (K := n) (by omega) ⟨hv', hn⟩
      rw [if_pos ⟨hv', hn⟩, nn_t (by omega), show ((k : Nat) : Int).toNat = k from rfl, hK.2.1.2.1 k hk] at na
      refine call_rd hb hT0 (y := nn (d k)) ?_ ?_
      · unfold f_X11_draftNode f_X11_checkIndex
        rw [if_pos hv, fb_x, show H.2.1 x 2 = x + 15 from hX.2.1.2.2.1, na, fb_n]
      · unfold f_X12_draftNode
        rw [fb_d, if_pos hv, e6, if_neg (by rw [le]; omega), kM_5 hM, kM_z6 hM, if_pos ((nn_in (by omega)).mpr (by omega)), nn_tn (by omega), si_oth (by omega), hR.2.1.2 k hk]
        exact fE_ret ⟨rfl, rI_7 rfl⟩
    · rw [if_neg (fun z => hn z.2)] at na
      refine call_rd hb hT0 (y := -1) ?_ ?_
      · unfold f_X11_draftNode f_X11_checkIndex
        rw [if_pos hv, fb_x, show H.2.1 x 2 = x + 15 from hX.2.1.2.2.1, na, fb_n]
      · unfold f_X12_draftNode
        rw [fb_d, if_pos hv, e6, if_pos (by rw [le]; omega)]
        exact fE_ret ⟨rfl, rI_7 rfl⟩
  · refine call_e hb hT0 (Nat.le_refl _) (k := 0) (e := pm_xB) (y := 0) rfl ?_ ?_
    · unfold f_X11_draftNode f_X11_checkIndex
      rw [if_neg hv, fb_e]
    · unfold f_X12_draftNode
      rw [fb_d, if_neg hv, r_fail, fb_n]
      rfl
end
