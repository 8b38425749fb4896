/-! circuits' moves and sendings: what is told, and the class does it -/
def slA (E : VV) (b c : Nat) (x : Int) : Int32 := if 0 ≤ x ∧ x < wN E b c then E (b + 3) c x.toNat else -1
/-- a label's entry is made, a label is given up -/
def mkE (E : VV) (t : Int32) : VV := if 0 ≤ t.toInt ∧ t.toInt < 120 then uV E 7 0 t.toInt.toNat 1 else E
def guE (E : VV) (t : Int32) : VV := if 0 ≤ t.toInt ∧ t.toInt < 120 then uV E 5 0 t.toInt.toNat (-1) else E
def dlO (E : VV) (i : Nat) : Int32 := dlW E (eL E) (E 12 i) (eA E i)
def dlN (E : VV) (i : Nat) : Int32 := dlW E (eL E) (E 16 i) (eB E i)
def buE (E : VV) (i : Nat) : VV := if E 9 i 10 ≤ 0 then
    (if E 0 0 8 = 1 then uV (uV (uV E 9 i 2 2) 9 i 9 (dlO E i)) 9 i 8 (pm_mm true 0 (dlO E i - dlN E i)) else uV (uV E 9 i 2 2) 9 i 9 (dlO E i))
  else uV (mkE E (slA E 14 i (E 9 i 10).toInt)) 9 i 10 (E 9 i 10 - 1)
def drE (E : VV) (i : Nat) : VV := if 0 < E 9 i 9 - 1 then uV E 9 i 9 (E 9 i 9 - 1) else uV (uV E 9 i 9 (E 9 i 9 - 1)) 9 i 2 3
/-- the old way and the new one change their places -/
def twV (V : VV) (i : Nat) : VV := fun kd i' k => if i' = i ∧ 10 ≤ kd ∧ kd ≤ 17 then V (if kd ≤ 13 then kd + 4 else kd - 4) i k else V kd i' k
/-- the place that is cleared next -/
def clX (E : VV) (i : Nat) : Int := (eA E i : Int) - hlO E (eA E) i
def clF (E : VV) (i : Nat) : VV := if 0 ≤ clX E i ∧ clX E i < eA E i then uV (guE E (slA E 10 i (clX E i))) 13 i (clX E i).toNat (-1) else guE E (slA E 10 i (clX E i))
def clE (E : VV) (i : Nat) : VV := if clX E i < eA E i - 1 then clF E i else uV (uV (uV (twV (clF E i) i) 14 i 0 0) 9 i 2 0) 8 0 5 (E 8 0 5 + 1)
def mC (E : VV) (i : Nat) : VV := if E 9 i 2 = 1 then buE E i else if E 9 i 2 = 2 then drE E i else if E 9 i 2 = 3 then clE E i else E
def mvC (E : VV) : Nat → Nat → VV
  | _, 0 => E
  | j, k + 1 => mvC (mC E j) (j + 1) k
theorem twV_o {V : VV} {i kd i' k : Nat} (h : ¬ (10 ≤ kd ∧ kd ≤ 17)) : twV V i kd i' k = V kd i' k := if_neg (fun z => h z.2)
theorem twV_n {V : VV} {i kd i' k : Nat} (h : i' ≠ i) : twV V i kd i' k = V kd i' k := if_neg (fun z => h z.1)
theorem twV_s {V : VV} {i kd k : Nat} (h : 10 ≤ kd ∧ kd ≤ 17) : twV V i kd i k = V (if kd ≤ 13 then kd + 4 else kd - 4) i k := if_pos ⟨rfl, h⟩
section
variable {H : fm_H} {s : Nat} {m : fm_M} {V : VV}
theorem wN10 {V : VV} {c : Nat} : wN V 10 c = eA V c := if_neg (by decide)
theorem wN14 {V : VV} {c : Nat} : wN V 14 c = eB V c := if_pos rfl
theorem wA10 {c : Nat} : wA m s 10 c = m.2.1 (m.2.1 (s + 26) c) 13 := if_neg (by decide)
theorem wA14 {c : Nat} : wA m s 14 c = m.2.1 (m.2.1 (s + 26) c) 14 := if_pos rfl
theorem c_slotA (hS : kS H s) (hp : pS m s) (hV : cv m s = V) (hG : vG V) {b c : Nat} (hb : b = 10 ∨ b = 14) (hc : c < 8) {x : Int} (h1 : -2147483648 ≤ x) (h2 : x < 2147483648) : f_X10_slotAt H (wA m s b c) (ii x) m = some (slA V b c x, m) := by
  obtain ⟨hn, h6⟩ := wA_n (b := b) hV hG hc
  rw [c_slotAt (wA_k hS hp hc) hn h6 h1 h2]
  have h0 := wA_d (m := m) (s := s) (j := 3) hb hc (by decide)
  unfold slA
  rw [← h0.1, cv_rd hV (b + 3) c x.toNat h0.2 (vk_n (by omega))]
theorem c_giveUpX (hS : kS H s) (hp : pS m s) (hV : cv m s = V) (t : Int32) : fE (f_X2_giveUp H (s + 20) t m) (fun _ m' => mI s m m' (guE V t)) := by
  have h := c_giveUp (m := m) hS (ii_l t) (ii_u t)
  rw [← ii_of] at h
  rw [h]
  refine fE_ret ?_
  unfold guE
  split
  · have h1 := cv_si (k := t.toInt.toNat) (x := -1) hp (show vld 5 0 = true from rfl) rfl
    exact ⟨by rw [← hV]; exact h1, hp, fr_si (by omega) (by omega), rfl⟩
  · exact mI_rf hp hV
theorem c_makeEntryX (hS : kS H s) (hp : pS m s) (hV : cv m s = V) (t : Int32) : fE (f_X2_makeEntry H (s + 20) t m) (fun _ m' => mI s m m' (mkE V t)) := by
  have h := c_makeEntry (m := m) hS (ii_l t) (ii_u t)
  rw [← ii_of] at h
  rw [h]
  refine fE_ret ?_
  unfold mkE
  split
  · have h1 := cv_si (k := t.toInt.toNat) (x := 1) hp (show vld 7 0 = true from rfl) rfl
    exact ⟨by rw [← hV]; exact h1, hp, fr_si (by omega) (by omega), rfl⟩
  · exact mI_rf hp hV
theorem c_build (hS : kS H s) (hp : pS m s) (hV : cv m s = V) (hG : vG V) {i : Nat} (hi : i < 8) : fE (f_X7_build H s (m.2.1 (s + 26) i) m) (fun _ m' => mI s m m' (buE V i)) := by
  unfold f_X7_build buE
  rw [rd9 hV hi]
  by_cases e1 : V 9 i 10 ≤ 0
  · refine fE_p e1 ?_
    rw [if_pos e1]
    refine fE_put (mI_rf hp hV) 9 i 2 (v9 hi) rfl (fun m1 h1 => ?_)
    rw [h1.2.2.2]
    refine fE_p (kW_b (pS_wo hS hp hi)) ?_
    rw [kS_0 hS]
    have hG1 : vG (uV V 9 i 2 2) := hG
    have d1 := c_delayOld hS h1.2.1 h1.1 hG1 hi
    rw [h1.2.2.2] at d1
    refine fE_bn d1 ?_
    refine fE_put h1 9 i 9 (v9 hi) rfl (fun m2 h2 => ?_)
    have r8 : m2.1 s 8 = V 0 0 8 := mI_0 h2 8
    rw [r8]
    by_cases e2 : V 0 0 8 = 1
    · refine fE_p e2 ?_
      rw [h2.2.2.2]
      refine fE_p (kW_b (pS_wf hS hp hi)) ?_
      have hG2 : vG (uV (uV V 9 i 2 2) 9 i 9 (dlO V i)) := hG
      have d2 := c_delayNew hS h2.2.1 h2.1 hG2 hi
      rw [h2.2.2.2] at d2
      refine fE_bn d2 ?_
      have r9 : m2.1 (m.2.1 (s + 26) i) 9 = dlO V i := (mI_9 h2 hi 9).trans uV_s
      rw [r9]
      rw [if_pos e2]
      exact fE_put h2 9 i 8 (v9 hi) rfl (fun m3 h3 => fE_ret h3)
    · refine fE_n e2 (fE_ret ?_)
      rw [if_neg e2]
      exact h2
  · refine fE_n e1 ?_
    rw [if_neg e1]
    refine fE_p (kW_b (pS_wf hS hp hi)) ?_
    have d1 := c_slotA hS hp hV hG (b := 14) (Or.inr rfl) hi (ii_l (V 9 i 10)) (ii_u _)
    rw [wA14, ← ii_of] at d1
    refine fE_bn d1 ?_
    rw [kS_1 hS]
    refine fE_be (c_makeEntryX hS hp hV _) (fun _ m1 h1 => ?_)
    have r : m1.1 (m.2.1 (s + 26) i) 10 = V 9 i 10 := (mI_9 h1 hi 10).trans (by unfold mkE; split <;> rfl)
    rw [r]
    exact fE_put h1 9 i 10 (v9 hi) rfl (fun m2 h2 => fE_ret h2)
/-- the references to the ways change their places -/
theorem tw_ok {m' : fm_M} (hp : pS m s) {i : Nat} (hi : i < 8) (h1 : m'.1 = m.1) (h2 : m'.2.2 = m.2.2) (h3 : ∀ a k, a ≠ m.2.1 (s + 26) i ∨ (k ≠ 13 ∧ k ≠ 14) → m'.2.1 a k = m.2.1 a k) (h4 : m'.2.1 (m.2.1 (s + 26) i) 13 = m.2.1 (m.2.1 (s + 26) i) 14) (h5 : m'.2.1 (m.2.1 (s + 26) i) 14 = m.2.1 (m.2.1 (s + 26) i) 13) : mS s m m' (twV (cv m s) i) := by
  obtain ⟨j0, hj0, ec⟩ := hp.2.1 i hi
  have hn : ∀ a, a = s + 2 ∨ a = s + 26 ∨ a = s + 27 → a ≠ m.2.1 (s + 26) i := by
    intro a ha
    omega
  have hc : ∀ q, q < 8 → m'.2.1 (s + 26) q = m.2.1 (s + 26) q := fun q _ => h3 _ _ (Or.inl (hn _ (by omega)))
  have hp' : pS m' s := by
    obtain ⟨p1, p2, p3, p4, p5, p6⟩ := hp
    refine ⟨fun i hi => ?_, fun i hi => ?_, fun i i' hi hi' => ?_, fun j hj => ?_, fun i hi => ?_, fun i i' hi hi' e => ?_⟩
    · rw [h3 _ _ (Or.inl (hn _ (by omega)))]; exact p1 i hi
    · rw [hc i hi]; exact p2 i hi
    · rw [hc i hi, hc i' hi']; exact p3 i i' hi hi'
    · by_cases e : j = j0
      · subst e
        rw [← ec, h4, h5, ec]
        exact (p4 j hj).elim (fun z => Or.inr ⟨z.2, z.1⟩) (fun z => Or.inl ⟨z.2, z.1⟩)
      · rw [h3 _ _ (Or.inl (by omega)), h3 _ _ (Or.inl (by omega))]
        exact p4 j hj
    · rw [h3 _ _ (Or.inl (hn _ (by omega)))]; exact p5 i hi
    · rw [h3 _ _ (Or.inl (hn _ (by omega))), h3 _ _ (Or.inl (hn _ (by omega)))] at e
      exact p6 i i' hi hi' e
  refine ⟨?_, hp', ?_, h2⟩
  · funext kd i' k
    have w : ∀ q, q < 8 → q ≠ i → ∀ k, m'.2.1 (m.2.1 (s + 26) q) k = m.2.1 (m.2.1 (s + 26) q) k := fun q hq hne k => h3 _ _ (Or.inl (fun z => hne (hp.2.2.1 q i hq hi z)))
    show (if vld kd i' = true ∧ vk kd k = true then m'.1 (ad m' s kd i') k else 0) = (if i' = i ∧ 10 ≤ kd ∧ kd ≤ 17 then cv m s (if kd ≤ 13 then kd + 4 else kd - 4) i k else cv m s kd i' k)
    by_cases e : i' = i ∧ 10 ≤ kd ∧ kd ≤ 17
    · rw [if_pos e]
      obtain ⟨rfl, e1, e2⟩ := e
      rw [h1]
      match kd, e1, e2 with
      | 10, _, _ => rw [if_pos ⟨v10 hi, rfl⟩, if_pos (by decide), ad_10, hc _ hi, h4]; exact cv_rd rfl 14 i' k (v14 hi)
      | 11, _, _ => rw [if_pos ⟨v11 hi, rfl⟩, if_pos (by decide), ad_11, hc _ hi, h4]; exact cv_rd rfl 15 i' k (v15 hi)
      | 12, _, _ => rw [if_pos ⟨v12 hi, rfl⟩, if_pos (by decide), ad_12, hc _ hi, h4]; exact cv_rd rfl 16 i' k (v16 hi)
      | 13, _, _ => rw [if_pos ⟨v13 hi, rfl⟩, if_pos (by decide), ad_13, hc _ hi, h4]; exact cv_rd rfl 17 i' k (v17 hi)
      | 14, _, _ => rw [if_pos ⟨v14 hi, rfl⟩, if_neg (by decide), ad_14, hc _ hi, h5]; exact cv_rd rfl 10 i' k (v10 hi)
      | 15, _, _ => rw [if_pos ⟨v15 hi, rfl⟩, if_neg (by decide), ad_15, hc _ hi, h5]; exact cv_rd rfl 11 i' k (v11 hi)
      | 16, _, _ => rw [if_pos ⟨v16 hi, rfl⟩, if_neg (by decide), ad_16, hc _ hi, h5]; exact cv_rd rfl 12 i' k (v12 hi)
      | 17, _, _ => rw [if_pos ⟨v17 hi, rfl⟩, if_neg (by decide), ad_17, hc _ hi, h5]; exact cv_rd rfl 13 i' k (v13 hi)
      | k + 18, _, z => omega
    · rw [if_neg e, h1]
      show _ = (if vld kd i' = true ∧ vk kd k = true then m.1 (ad m s kd i') k else 0)
      by_cases hv : vld kd i' = true
      · have e2 : ad m' s kd i' = ad m s kd i' := by
          rcases ad_ev hp hv with ⟨a1, a2, a3, a4⟩ | ⟨a1, a2, a3⟩ | ⟨a1, a2, a3, j, b, a4, a5, a6, a7, a8⟩ | ⟨a1, a2, j, a3, a4⟩
          · match kd, a1, a2 with
            | 0, _, _ | 1, _, _ | 2, _, _ | 4, _, _ | 5, _, _ | 6, _, _ | 7, _, _ | 8, _, _ => rfl
          · subst a1; rfl
          · match kd, a1, a2, e with
            | 9, _, _, _ => rw [ad_9, ad_9, hc _ a3]
            | 10, _, _, e => rw [ad_10, ad_10, hc _ a3, w _ a3 (fun z => e ⟨z, by omega, by omega⟩)]
            | 11, _, _, e => rw [ad_11, ad_11, hc _ a3, w _ a3 (fun z => e ⟨z, by omega, by omega⟩)]
            | 12, _, _, e => rw [ad_12, ad_12, hc _ a3, w _ a3 (fun z => e ⟨z, by omega, by omega⟩)]
            | 13, _, _, e => rw [ad_13, ad_13, hc _ a3, w _ a3 (fun z => e ⟨z, by omega, by omega⟩)]
            | 14, _, _, e => rw [ad_14, ad_14, hc _ a3, w _ a3 (fun z => e ⟨z, by omega, by omega⟩)]
            | 15, _, _, e => rw [ad_15, ad_15, hc _ a3, w _ a3 (fun z => e ⟨z, by omega, by omega⟩)]
            | 16, _, _, e => rw [ad_16, ad_16, hc _ a3, w _ a3 (fun z => e ⟨z, by omega, by omega⟩)]
            | 17, _, _, e => rw [ad_17, ad_17, hc _ a3, w _ a3 (fun z => e ⟨z, by omega, by omega⟩)]
            | k + 18, _, a2, _ => omega
          · subst a1
            rw [ad_18, ad_18, h3 _ _ (Or.inl (hn _ (by omega)))]
        rw [e2]
      · rw [if_neg (fun z => hv z.1), if_neg (fun z => hv z.1)]
  · intro a k ha
    exact ⟨by rw [h1], h3 a k (Or.inl (by omega))⟩
theorem c_takeNewWay (hS : kS H s) (hp : pS m s) (hV : cv m s = V) {i : Nat} (hi : i < 8) : fE (f_X0_takeNewWay H (m.2.1 (s + 26) i) m) (fun _ m' => mS s m m' (uV (uV (twV V i) 14 i 0 0) 9 i 2 0)) := by
  unfold f_X0_takeNewWay
  refine fE_p (kW_b (pS_wo hS hp hi)) (fE_p (kW_b (pS_wf hS hp hi)) ?_)
  rw [fb_d, fb_d]
  obtain ⟨m1, e1⟩ : ∃ m1, m1 = fm_sr (fm_sr m (m.2.1 (s + 26) i) 13 (m.2.1 (m.2.1 (s + 26) i) 14)) (m.2.1 (s + 26) i) 14 (m.2.1 (m.2.1 (s + 26) i) 13) := ⟨_, rfl⟩
  have h1 : mS s m m1 (twV V i) := by
    rw [e1, ← hV]
    refine tw_ok hp hi rfl rfl (fun a k h => ?_) ?_ ?_
    · show fm_up (fm_up _ _ _ _) _ _ _ _ _ = _
      rw [fm_up_o (by omega), fm_up_o (by omega)]
    · show fm_up (fm_up _ _ _ _) _ _ _ _ _ = _
      rw [fm_up_o (by omega), fm_up_s]
    · show fm_up (fm_up _ _ _ _) _ _ _ _ _ = _
      rw [fm_up_s]
  rw [← e1]
  obtain ⟨j0, hj0, ec⟩ := hp.2.1 i hi
  have e9 : m.2.1 (s + 26) i = m1.2.1 (s + 26) i := by
    rw [e1]
    show _ = fm_up (fm_up _ _ _ _) _ _ _ _ _
    rw [fm_up_o (by omega), fm_up_o (by omega)]
  rw [e9]
  refine fE_p (kW_b (pS_wf hS h1.2.1 hi)) ?_
  unfold f_X10_erase
  rw [fb_d, fb_n]
  have h2 := fE_put (Q := fun _ m' => mS s m m' (uV (uV (twV V i) 14 i 0 0) 9 i 2 0)) (F := fun m4 => some ((), m4)) (x := 0)
    (m0 := fm_si m1 (m1.2.1 (m1.2.1 (s + 26) i) 14) 0 0) (m := m1) (V0 := uV (twV V i) 14 i 0 0) (s := s) (a := m1.2.1 (s + 26) i) ?_ 9 i 2 (v9 hi) rfl ?_
  · exact h2
  · have h3 := cv_si (k := 0) (x := 0) h1.2.1 (v14 hi) rfl
    rw [h1.1] at h3
    have r := ad_r h1.2.1 (v14 hi)
    exact ⟨h3, h1.2.1, fr_si r.1 r.2, rfl⟩
  · intro m4 h4
    exact fE_ret (mS_tr h1 (mI_S h4))
theorem c_putSlotX (hS : kS H s) (hp : pS m s) (hV : cv m s = V) (hG : vG V) {i : Nat} (hi : i < 8) {x : Int} (h1 : 0 ≤ x) (h2 : x < 100) (y : Int32) : fE (f_X10_putSlot H (m.2.1 (m.2.1 (s + 26) i) 13) (ii x) y m) (fun _ m' => mI s m m' (if 0 ≤ x ∧ x < eA V i then uV V 13 i x.toNat y else V)) := by
  have h := hG.2.2.2.2.2.2.1 i hi
  have hn := (rd10 hV hi 0).trans h.1
  by_cases e : x < eA V i
  · rw [if_pos ⟨h1, e⟩]
    obtain ⟨j, rfl⟩ : ∃ j : Nat, x = j := ⟨x.toNat, by omega⟩
    rw [c_putSlot (pS_wo hS hp hi) hn h.2 (by omega), Int.toNat_natCast]
    have h3 := cv_si (k := j) (x := y) hp (v13 hi) rfl
    rw [hV] at h3
    have r := ad_r hp (v13 hi)
    exact fE_ret ⟨h3, hp, fr_si r.1 r.2, rfl⟩
  · rw [if_neg (fun z => e z.2)]
    unfold f_X10_putSlot
    rw [hn, ii_0, if_neg (by rw [ii_lt (by omega) (by omega) (by omega) (by omega)]; omega)]
    first
      | rw [if_pos (by rw [ii_le (by omega) (by omega) (by omega) (by omega)]; omega)]
      | rw [if_neg (by rw [ii_lt (by omega) (by omega) (by omega) (by omega)]; omega)]
    exact fE_ret (mI_rf hp hV)
theorem c_clearOne (hS : kS H s) (hp : pS m s) (hV : cv m s = V) (hG : vG V) {i : Nat} (hi : i < 8) : fE (f_X7_clearOne H s (m.2.1 (s + 26) i) m) (fun _ m' => mS s m m' (clE V i)) := by
  unfold f_X7_clearOne clE
  have h := hG.2.2.2.2.2.2.1 i hi
  have hn := (rd10 hV hi 0).trans h.1
  have hh : hlO V (eA V) i ≤ eA V i - 1 := nc_le
  have bW := kW_b (pS_wo hS hp hi)
  have hx : clX V i = (eA V i : Int) - hlO V (eA V) i := rfl
  have h6 := h.2
  refine fE_p bW (fE_p bW (fE_bn (c_heldOld hS hp hV hG hi) (fE_p bW ?_)))
  rw [hn, ii_sub, ← hx]
  have d1 := c_slotA hS hp hV hG (b := 10) (Or.inl rfl) hi (x := clX V i) (by omega) (by omega)
  rw [wA10] at d1
  refine fE_bn d1 ?_
  rw [kS_1 hS]
  refine fE_be (c_giveUpX hS hp hV _) (fun _ m1 h1 => ?_)
  rw [h1.2.2.2]
  refine fE_p bW ?_
  have sm1 : vSm V (guE V (slA V 10 i (clX V i))) := by
    unfold guE
    split
    · exact ⟨rfl, rfl, rfl, rfl, fun _ => rfl, fun _ => rfl, fun _ => rfl⟩
    · exact ⟨rfl, rfl, rfl, rfl, fun _ => rfl, fun _ => rfl, fun _ => rfl⟩
  have p1 := c_putSlotX hS h1.2.1 h1.1 (vG_sm sm1 hG) hi (x := clX V i) (by omega) (by omega) (-1)
  rw [h1.2.2.2] at p1
  refine fE_be p1 (fun _ m2 h2 => ?_)
  have eA1 : eA (guE V (slA V 10 i (clX V i))) i = eA V i := by
    unfold eA
    rw [sm1.2.2.2.2.2.1]
  rw [eA1] at h2
  have h2' : mI s m m2 (clF V i) := by
    have h9 := mI_tr h1 h2
    unfold clF
    exact h9
  have e2 : m2.2.1 = m.2.1 := h2'.2.2.2
  rw [e2]
  refine fE_p bW ?_
  have rn : m2.1 (m.2.1 (m.2.1 (s + 26) i) 13) 0 = ii (eA V i) := by
    refine (mI_rd h2' 10 i 0 (v10 hi) rfl).trans ?_
    rw [← h.1]
    unfold clF guE
    split <;> split <;> rfl
  rw [rn, ii_dec]
  by_cases e : clX V i < eA V i - 1
  · rw [if_pos e]
    exact fE_p (by rw [ii_lt (by omega) (by omega) (by omega) (by omega)]; omega) (fE_ret (mI_S h2'))
  · rw [if_neg e]
    refine fE_n (by rw [ii_lt (by omega) (by omega) (by omega) (by omega)]; omega) ?_
    have t1 := c_takeNewWay hS h2'.2.1 h2'.1 hi
    rw [e2] at t1
    refine fE_be t1 (fun _ m3 h3 => ?_)
    have r5 : m3.1 (s + 25) 5 = V 8 0 5 := by
      have g := cv_rd h3.1 8 0 5 rfl
      rw [ad_8] at g
      rw [g]
      rw [uV_k (by decide), uV_k (by decide), twV_o (by decide)]
      unfold clF guE
      split <;> split <;> rfl
    rw [kS_2 hS, r5]
    exact fE_put (mI_rf h3.2.1 h3.1) 8 0 5 rfl rfl (fun m4 h4 => fE_ret (mS_tr (mI_S h2') (mS_tr h3 (mI_S h4))))
theorem c_moveCircuit (hS : kS H s) (hp : pS m s) (hV : cv m s = V) (hG : vG V) {i : Nat} (hi : i < 8) : fE (f_X7_moveCircuit H s (m.2.1 (s + 26) i) m) (fun _ m' => mS s m m' (mC V i)) := by
  unfold f_X7_moveCircuit mC
  rw [rd9 hV hi, rd9 hV hi]
  simp only [fm_sw]
  have t1 : (V 9 i 2).toInt = 1 ↔ V 9 i 2 = 1 := ii_t (by omega) (by omega)
  have t2 : (V 9 i 2).toInt = 1 + 1 ↔ V 9 i 2 = 2 := ii_t (z := 2) (by omega) (by omega)
  have t3 : (V 9 i 2).toInt = 1 + 1 + 1 ↔ V 9 i 2 = 3 := ii_t (z := 3) (by omega) (by omega)
  by_cases e1 : V 9 i 2 = 1
  · rw [if_pos e1]
    exact fE_p (t1.mpr e1) (fE_be (c_build hS hp hV hG hi) (fun _ m1 h1 => fE_ret (mI_S h1)))
  · rw [if_neg e1]
    refine fE_n (fun h => e1 (t1.mp h)) ?_
    by_cases e2 : V 9 i 2 = 2
    · rw [if_pos e2]
      refine fE_p (t2.mpr e2) ?_
      refine fE_put (mI_rf hp hV) 9 i 9 (v9 hi) rfl (fun m1 h1 => ?_)
      have r : m1.1 (m.2.1 (s + 26) i) 9 = V 9 i 9 - 1 := (mI_9 h1 hi 9).trans uV_s
      rw [r]
      unfold drE
      by_cases e4 : 0 < V 9 i 9 - 1
      · refine fE_p e4 (fE_ret ?_)
        rw [if_pos e4]
        exact mI_S h1
      · refine fE_n e4 ?_
        rw [if_neg e4]
        exact fE_put h1 9 i 2 (v9 hi) rfl (fun m2 h2 => fE_ret (mI_S h2))
    · rw [if_neg e2]
      refine fE_n (fun h => e2 (t2.mp h)) ?_
      by_cases e3 : V 9 i 2 = 3
      · rw [if_pos e3]
        exact fE_p (t3.mpr e3) (fE_be (c_clearOne hS hp hV hG hi) (fun _ m1 h1 => fE_ret h1))
      · rw [if_neg e3]
        exact fE_n (fun h => e3 (t3.mp h)) (fE_ret (mI_S (mI_rf hp hV)))
end
