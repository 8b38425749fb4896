/-! searches, whole -/
def lkf (E : VV) : Nat → Nat → Int := fun x y => lkE E (nn x) (nn y)
def useF (E : VV) (band e : Int32) : Nat → Bool := fun j => hr E (eL E) (eK E) (eA E) (eB E) j band e
def dlF (E : VV) : Nat → Nat := fun j => (E 3 j 3).toInt.toNat
/-- the best way from f0 to t, without the link y -/
def bsE (E : VV) (band e y : Int32) (f0 t : Nat) : Bst := vs (eN E) t (lkf E) (opF (useF E band e) y) (dlF E) 5 1 (fun _ => f0) 0 (0, 0, fun _ => 0)
theorem er_bs {V : VV} {band e y : Int32} {f0 t : Nat} : bsE (er V) band e y f0 t = bsE V band e y f0 t := rfl
theorem dlF_ok {E : VV} (hL : iL E) : ∀ j, j < eL E → E 3 j 3 = nn (dlF E j) ∧ 1 ≤ dlF E j ∧ dlF E j ≤ 9 := fun j hj => by
  obtain ⟨d, d1, d2, d3⟩ := hL j hj
  have e : dlF E j = d := by
    unfold dlF
    rw [d3, nn_t (by omega)]
    rfl
  rw [e]
  exact ⟨d3, d1, d2⟩
theorem useF_L {E : VV} {band e : Int32} : ∀ j, eL E ≤ j → useF E band e j = false := fun j hj => by
  unfold useF hr
  rw [decide_eq_false (by omega), Bool.false_and]
theorem op_L {E : VV} {band e y : Int32} {j : Nat} (h : opF (useF E band e) y j = true) : j < eL E := by
  by_cases q : j < eL E
  · exact q
  · unfold opF at h
    rw [useF_L j (by omega)] at h
    exact Bool.noConfusion h
theorem bs_ok {E : VV} (hL : iL E) {band e y : Int32} {f0 t : Nat} (hf : f0 < eN E) (hft : f0 ≠ t) : bok (eN E) f0 t (lkf E) (bsE E band e y f0 t) := by
  refine vs_ok hft (fun j hj => (dlF_ok hL j (op_L hj)).2.2) (by omega) (by omega) (by omega) ⟨fun k hk => hf, fun k k1 k2 => by omega, fun k k' k1 k2 _ => by omega, rfl⟩ ⟨by show 0 ≤ 54; omega, by show 0 ≤ 6; omega, fun h => absurd rfl h⟩
/-- the best way as a draft -/
theorem bs_dW {E : VV} (hL : iL E) {band e y : Int32} {f0 t : Nat} (hf : f0 < eN E) (hft : f0 ≠ t) (h0 : (bsE E band e y f0 t).1 ≠ 0) : dW E (bsE E band e y f0 t).1 (bsE E band e y f0 t).2.2 ∧ 2 ≤ (bsE E band e y f0 t).1 ∧ (bsE E band e y f0 t).2.2 0 = f0 ∧ (bsE E band e y f0 t).2.2 ((bsE E band e y f0 t).1 - 1) = t := by
  obtain ⟨h1, h2, h3⟩ := bs_ok hL (band := band) (e := e) (y := y) hf hft
  obtain ⟨a1, ⟨b1, b2, b3, b4⟩, a3⟩ := h3 h0
  exact ⟨⟨h2, b1, b2, b3⟩, a1, b4, a3⟩
/-- only a finder's rows differ -/
def wF (f : Nat) (m m' : fm_M) : Prop := (∀ a k, ¬ (f ≤ a ∧ a < f + 10) → m'.1 a k = m.1 a k) ∧ m'.2 = m.2
theorem wF_tr {f : Nat} {m m1 m2 : fm_M} (h1 : wF f m m1) (h2 : wF f m1 m2) : wF f m m2 := ⟨fun a k h => (h2.1 a k h).trans (h1.1 a k h), h2.2.trans h1.2⟩
theorem wF_rf {f : Nat} {m : fm_M} : wF f m m := ⟨fun _ _ _ => rfl, rfl⟩
theorem wF_v {f : Nat} {m m' : fm_M} (h : vF f m m') : wF f m m' := ⟨fun a k z => h.1 a k (by omega), h.2.2⟩
theorem wF_si {f a k : Nat} {m : fm_M} {x : Int32} (h1 : f ≤ a) (h2 : a < f + 10) : wF f m (fm_si m a k x) := ⟨fun c j h => si_o (by omega), rfl⟩
theorem wF_cv {m m' : fm_M} {f s : Nat} {V : VV} (hd : f + 11 ≤ s ∨ s + 160 ≤ f) (hp : pS m s) (hV : cv m s = V) (h : wF f m m') : pS m' s ∧ cv m' s = V := ⟨pS_2 hp h.2, (cv_f hp (fun a k _ _ => h.1 a k (by omega)) h.2).trans hV⟩
section
variable {H : fm_H} {f s : Nat} {m : fm_M} {V : VV}
theorem nw_bi (b : Bool) : fm_nw .boolean (bi b) = bi b := by cases b <;> decide
theorem c_prep_l (hF : kF H f) (hS : kS H s) (hd : f + 11 ≤ s ∨ s + 160 ≤ f) (hG : vG V) (band e : Int32) : ∀ (k q j : Nat) (m0 : fm_M), pS m0 s → cv m0 s = V → (∀ i, i < j → m0.1 (f + 9) i = bi (useF V band e i)) → j + k = 16 → k < q → fE (f_X1_prepare_3 H f s band e q (nn j) m0) (fun _ m' => wF f m0 m' ∧ ∀ i, i < 16 → m'.1 (f + 9) i = bi (useF V band e i)) := by
  intro k
  induction k with
  | zero =>
    intro q j m0 hp hV h h1 h2
    obtain ⟨q, rfl⟩ : ∃ q', q = q' + 1 := ⟨q - 1, by omega⟩
    have ej : j = 16 := by omega
    subst ej
    unfold f_X1_prepare_3
    rw [if_pos (by decide)]
    exact fE_ret ⟨wF_rf, h⟩
  | succ k ih =>
    intro q j m0 hp hV h h1 h2
    obtain ⟨q, rfl⟩ : ∃ q', q = q' + 1 := ⟨q - 1, by omega⟩
    unfold f_X1_prepare_3
    rw [if_neg (by rw [nl_16, nn_le (by omega) (by omega)]; omega), show f_X7_hasRoom H s (nn j) band e m0 = some (bi (useF V band e j), m0) from c_hasRoom hS hp hV hG (by omega) (by omega) band e, fb_n, kF_2 hF, kF_z9 hF, nw_bi, nn_tn (by omega), nn_inc]
    refine fE_p ((nn_in (by omega)).mpr (by omega)) ?_
    rw [fb_d]
    have hw : wF f m0 (fm_si m0 (f + 9) j (bi (useF V band e j))) := wF_si (by omega) (by omega)
    obtain ⟨g1, g2⟩ := wF_cv hd hp hV hw
    refine fE_w (ih q (j + 1) _ g1 g2 (fun i hi => ?_) (by omega) (by omega)) (fun _ m' ⟨c1, c2⟩ => ⟨wF_tr hw c1, c2⟩)
    by_cases ei : i = j
    · rw [ei]
      exact si_s
    · rw [si_o (by omega)]
      exact h i (by omega)
theorem c_prepare (hF : kF H f) (hS : kS H s) (hd : f + 11 ≤ s ∨ s + 160 ≤ f) (hp : pS m s) (hV : cv m s = V) (hG : vG V) (band e : Int32) : fE (f_X1_prepare H f s band e m) (fun _ m' => wF f m m' ∧ ∀ i, i < 16 → m'.1 (f + 9) i = bi (useF V band e i)) := by
  unfold f_X1_prepare
  rw [nl_0]
  exact c_prep_l hF hS hd hG band e 16 fm_N 0 m hp hV (fun i hi => by omega) (by omega) (by unfold fm_N; omega)
/-- what a search leaves: the best way, or none -/
theorem c_search (hF : kF H f) (hS : kS H s) (hd : f + 11 ≤ s ∨ s + 160 ≤ f) (hp : pS m s) (hV : cv m s = V) (hG : vG V) (hB : iB V) (hL : iL V) {band e : Int32} (hu : ∀ i, i < 16 → m.1 (f + 9) i = bi (useF V band e i)) {f0 t : Nat} (hf0 : f0 < eN V) (ht : t < 10) (hft : f0 ≠ t) (y : Int32) : fE (f_X1_search H f (s + 1) (nn f0) (nn t) y m) (fun r m' => r = bi (decide ((bsE V band e y f0 t).1 ≠ 0)) ∧ fB m' f (lkf V) (bsE V band e y f0 t) ∧ wF f m m' ∧ ∀ i, i < 16 → m'.1 (f + 9) i = bi (useF V band e i)) := by
  unfold f_X1_search f_X10_erase
  rw [fb_d, fb_d, kF_0 hF, kF_1 hF, fb_d, fb_n, fb_d, fb_n]
  have h4 : wF f m (fm_si (fm_si (fm_si (fm_si m f 5 y) f 4 0) (f + 1) 0 0) (f + 5) 0 0) := wF_tr (wF_tr (wF_tr (wF_si (by omega) (by omega)) (wF_si (by omega) (by omega))) (wF_si (by omega) (by omega))) (wF_si (by omega) (by omega))
  have a0 : (fm_si (fm_si (fm_si (fm_si m f 5 y) f 4 0) (f + 1) 0 0) (f + 5) 0 0).1 (f + 5) 0 = ii (0 : Nat) := si_s
  have a1 : (fm_si (fm_si (fm_si (fm_si m f 5 y) f 4 0) (f + 1) 0 0) (f + 5) 0 0).1 (f + 1) 0 = 0 := by
    rw [si_o (by omega)]
    exact si_s
  have a4 : (fm_si (fm_si (fm_si (fm_si m f 5 y) f 4 0) (f + 1) 0 0) (f + 5) 0 0).1 f 4 = 0 := by
    rw [si_o (by omega), si_o (by omega)]
    exact si_s
  have a5 : (fm_si (fm_si (fm_si (fm_si m f 5 y) f 4 0) (f + 1) 0 0) (f + 5) 0 0).1 f 5 = y := by
    rw [si_o (by omega), si_o (by omega), si_o (by omega)]
    exact si_s
  have a9 : ∀ i, i < 16 → (fm_si (fm_si (fm_si (fm_si m f 5 y) f 4 0) (f + 1) 0 0) (f + 5) 0 0).1 (f + 9) i = bi (useF V band e i) := fun i hi => by
    rw [si_o (by omega), si_o (by omega), si_o (by omega), si_o (by omega)]
    exact hu i hi
  generalize fm_si (fm_si (fm_si (fm_si m f 5 y) f 4 0) (f + 1) 0 0) (f + 5) 0 0 = m4 at h4 a0 a1 a4 a5 a9
  rw [c_append (n := 0) (kF_p hF) a0 (by omega), fb_n]
  have h5 : wF f m4 (wAp m4 (f + 5) 0 (nn f0) (-1)) := wF_tr (wF_tr (wF_tr (wF_si (by omega) (by omega)) (wF_si (by omega) (by omega))) (wF_si (by omega) (by omega))) (wF_si (by omega) (by omega))
  have b0 : (wAp m4 (f + 5) 0 (nn f0) (-1)).1 (f + 5) 0 = nn 1 := si_s
  have b6 : (wAp m4 (f + 5) 0 (nn f0) (-1)).1 (f + 6) 0 = nn f0 := by
    unfold wAp
    rw [si_o (by omega), si_o (by omega), si_o (by omega)]
    exact si_s
  have bo : ∀ a k, a < f + 5 ∨ f + 9 ≤ a → (wAp m4 (f + 5) 0 (nn f0) (-1)).1 a k = m4.1 a k := fun a k h => by
    unfold wAp
    rw [si_o (by omega), si_o (by omega), si_o (by omega), si_o (by omega)]
  generalize wAp m4 (f + 5) 0 (nn f0) (-1) = m5 at h5 b0 b6 bo
  have h45 := wF_tr h4 h5
  obtain ⟨g1, g2⟩ := wF_cv hd hp hV h45
  have hs : sF9 m5 f s V (useF V band e) y := ⟨g1, g2, fun j hj => (bo _ _ (by omega)).trans (a9 j hj), (bo _ _ (by omega)).trans a5⟩
  have v := c_visit (t := t) (f0 := f0) (dl := dlF V) hF hS hd hG hB hL ht hft (dlF_ok hL) useF_L 5 8 1 0 (fun _ => f0) (0, 0, fun _ => 0) m5 (by omega) (by omega) (by omega) (by omega) ⟨fun k hk => hf0, fun k k1 k2 => by omega, fun k k' k1 k2 _ => by omega, rfl⟩ ⟨by show 0 ≤ 54; omega, by show 0 ≤ 6; omega, fun h => absurd rfl h⟩ hs ⟨b0, fun k hk => by rw [show k = 0 by omega]; exact b6, fun k k1 k2 => by omega⟩ ⟨(bo _ _ (by omega)).trans a1, (bo _ _ (by omega)).trans a4, fun k hk => absurd hk (by show ¬ k < 0; omega), fun k _ hk => absurd hk (by show ¬ k < 0; omega)⟩
  refine fE_be (show fE (f_X1_visit H 8 f (s + 1) (nn t) 0 1 m5) _ from v) (fun _ m6 ⟨c1, c2, c3⟩ => ?_)
  have hb6 := (bs_ok hL (band := band) (e := e) (y := y) hf0 hft).2.1
  have e6 : m6.1 (f + 1) 0 = nn (bsE V band e y f0 t).1 := c2.1
  have hu6 : ∀ i, i < 16 → m6.1 (f + 9) i = bi (useF V band e i) := fun i hi => (c3.1 _ _ (by omega)).trans (hs.2.2.1 i hi)
  rw [e6]
  by_cases z : (bsE V band e y f0 t).1 = 0
  · rw [if_pos (by rw [z]; decide), decide_eq_false (fun h => h z)]
    exact fE_ret ⟨rfl, c2, wF_tr h45 (wF_v c3), hu6⟩
  · rw [if_neg (by rw [nl_0, nn_le (by omega) (by omega)]; omega), decide_eq_true z]
    exact fE_ret ⟨rfl, c2, wF_tr h45 (wF_v c3), hu6⟩
end
