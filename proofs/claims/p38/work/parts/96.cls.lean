/-! the class closes a circuit -/
/-- circuits in another order -/
def crV (V : VV) (pi : Nat → Nat) : VV := fun kd i k => if 9 ≤ kd ∧ kd ≤ 17 ∧ i < 8 then V kd (pi i) k else V kd i k
theorem crV_o {V : VV} {pi : Nat → Nat} {kd i k : Nat} (h : ¬ (9 ≤ kd ∧ kd ≤ 17)) : crV V pi kd i k = V kd i k := if_neg (fun z => h ⟨z.1, z.2.1⟩)
theorem crV_s {V : VV} {pi : Nat → Nat} {kd i k : Nat} (h : 9 ≤ kd) (h2 : kd ≤ 17) (hi : i < 8) : crV V pi kd i k = V kd (pi i) k := if_pos ⟨h, h2, hi⟩
section
variable {H : fm_H} {s : Nat} {m : fm_M} {V : VV}
theorem cr_ok {m' : fm_M} (hp : pS m s) (pi : Nat → Nat) (h1 : m'.1 = m.1) (h2 : m'.2.2 = m.2.2) (h3 : ∀ a k, a ≠ s + 26 → m'.2.1 a k = m.2.1 a k) (h4 : ∀ i, i < 8 → m'.2.1 (s + 26) i = m.2.1 (s + 26) (pi i)) (h5 : ∀ i, i < 8 → pi i < 8) (h6 : ∀ i j, i < 8 → j < 8 → pi i = pi j → i = j) : mS s m m' (crV (cv m s) pi) := by
  have hc : ∀ j, j < 8 → m.2.1 (s + 26) j ≠ s + 26 := by
    intro j hj
    obtain ⟨j', _, e⟩ := hp.2.1 j hj
    omega
  have hp' : pS m' s := by
    obtain ⟨p1, p2, p3, p4, p5, p6⟩ := hp
    refine ⟨fun i hi => ?_, fun i hi => ?_, fun i i' hi hi' e => ?_, fun j hj => ?_, fun i hi => ?_, fun i i' hi hi' => ?_⟩
    · rw [h3 _ _ (by omega)]; exact p1 i hi
    · rw [h4 i hi]; exact p2 (pi i) (h5 i hi)
    · rw [h4 i hi, h4 i' hi'] at e
      exact h6 i i' hi hi' (p3 _ _ (h5 i hi) (h5 i' hi') e)
    · rw [h3 _ _ (by omega), h3 _ _ (by omega)]; exact p4 j hj
    · rw [h3 _ _ (by omega)]; exact p5 i hi
    · rw [h3 _ _ (by omega), h3 _ _ (by omega)]; exact p6 i i' hi hi'
  refine ⟨?_, hp', ?_, h2⟩
  · funext kd i k
    show (if vld kd i = true ∧ vk kd k = true then m'.1 (ad m' s kd i) k else 0) = (if 9 ≤ kd ∧ kd ≤ 17 ∧ i < 8 then cv m s kd (pi i) k else cv m s kd i k)
    rw [h1]
    by_cases e : 9 ≤ kd ∧ kd ≤ 17 ∧ i < 8
    · obtain ⟨e1, e2, hi⟩ := e
      rw [if_pos (show 9 ≤ kd ∧ kd ≤ 17 ∧ i < 8 from ⟨e1, e2, hi⟩)]
      have hpi := h5 i hi
      have q := hc (pi i) hpi
      have ea : ad m' s kd i = ad m s kd (pi i) := by
        match kd, e1, e2 with
        | 9, _, _ => rw [ad_9, ad_9, h4 i hi]
        | 10, _, _ => rw [ad_10, ad_10, h4 i hi, h3 _ _ q]
        | 11, _, _ => rw [ad_11, ad_11, h4 i hi, h3 _ _ q]
        | 12, _, _ => rw [ad_12, ad_12, h4 i hi, h3 _ _ q]
        | 13, _, _ => rw [ad_13, ad_13, h4 i hi, h3 _ _ q]
        | 14, _, _ => rw [ad_14, ad_14, h4 i hi, h3 _ _ q]
        | 15, _, _ => rw [ad_15, ad_15, h4 i hi, h3 _ _ q]
        | 16, _, _ => rw [ad_16, ad_16, h4 i hi, h3 _ _ q]
        | 17, _, _ => rw [ad_17, ad_17, h4 i hi, h3 _ _ q]
        | k + 18, _, z => omega
      have ev : ∀ j, j < 8 → vld kd j = true := by
        intro j hj
        match kd, e1, e2 with
        | 9, _, _ => exact v9 hj
        | 10, _, _ => exact v10 hj
        | 11, _, _ => exact v11 hj
        | 12, _, _ => exact v12 hj
        | 13, _, _ => exact v13 hj
        | 14, _, _ => exact v14 hj
        | 15, _, _ => exact v15 hj
        | 16, _, _ => exact v16 hj
        | 17, _, _ => exact v17 hj
        | k + 18, _, z => omega
      rw [ea, if_pos (show vld kd i = true ∧ vk kd k = true from ⟨ev i hi, vk_n (by omega)⟩)]
      exact cv_rd rfl kd (pi i) k (ev _ hpi) (vk_n (by omega))
    · rw [if_neg e]
      show _ = (if vld kd i = true ∧ vk kd k = true then m.1 (ad m s kd i) k else 0)
      by_cases hv : vld kd i = true
      · have e2 : ad m' s kd i = ad m s kd i := by
          rcases ad_ev hp hv with ⟨a1, a2, a3, a4⟩ | ⟨a1, a2, a3⟩ | ⟨a1, a2, a3, j, b, a4, a5, a6, a7, a8⟩ | ⟨a1, a2, j, a3, a4⟩
          · match kd, a1, a2 with
            | 0, _, _ | 1, _, _ | 2, _, _ | 4, _, _ | 5, _, _ | 6, _, _ | 7, _, _ | 8, _, _ => rfl
          · subst a1; rfl
          · exact absurd ⟨a1, a2, a3⟩ e
          · subst a1
            rw [ad_18, ad_18, h3 _ _ (by omega)]
        rw [e2]
      · rw [if_neg (fun z => hv z.1), if_neg (fun z => hv z.1)]
  · intro a k ha
    exact ⟨by rw [h1], h3 a k (by omega)⟩
/-- circuits behind i have numbers 1 less, in the table below a -/
def rnV (V : VV) (i a : Nat) : VV := fun kd p t => if kd = 6 ∧ p = 0 ∧ t < a ∧ ¬ (V 6 0 t ≤ nn i) then V 6 0 t - 1 else V kd p t
theorem rnV_o {V : VV} {i a kd p t : Nat} (h : kd ≠ 6) : rnV V i a kd p t = V kd p t := if_neg (fun z => h z.1)
theorem rnV_0 {V : VV} {i : Nat} : rnV V i 0 = V := by
  funext kd p t
  exact if_neg (by omega)
theorem rnV_s {V : VV} {i a : Nat} : rnV V i (a + 1) = if V 6 0 a ≤ nn i then rnV V i a else uV (rnV V i a) 6 0 a (V 6 0 a - 1) := by
  split
  · rename_i h
    funext kd p t
    unfold rnV
    by_cases e : kd = 6 ∧ p = 0 ∧ t = a
    · obtain ⟨rfl, rfl, rfl⟩ := e
      rw [if_neg (fun z => z.2.2.2 h), if_neg (fun z => z.2.2.2 h)]
    · by_cases e2 : kd = 6 ∧ p = 0 ∧ t < a ∧ ¬ (V 6 0 t ≤ nn i)
      · rw [if_pos e2, if_pos ⟨e2.1, e2.2.1, by omega, e2.2.2.2⟩]
      · rw [if_neg e2, if_neg (fun z => e2 ⟨z.1, z.2.1, by have := z.2.2.1; omega, z.2.2.2⟩)]
  · rename_i h
    funext kd p t
    rw [uV_at]
    unfold rnV
    by_cases e : kd = 6 ∧ p = 0 ∧ t = a
    · obtain ⟨rfl, rfl, rfl⟩ := e
      rw [if_pos ⟨rfl, rfl, by omega, h⟩, if_pos ⟨rfl, rfl, rfl⟩]
    · rw [if_neg e]
      by_cases e2 : kd = 6 ∧ p = 0 ∧ t < a ∧ ¬ (V 6 0 t ≤ nn i)
      · rw [if_pos e2, if_pos ⟨e2.1, e2.2.1, by omega, e2.2.2.2⟩]
      · rw [if_neg e2, if_neg (fun z => e2 ⟨z.1, z.2.1, by have := z.2.2.1; omega, z.2.2.2⟩)]
theorem c_rn_l (hS : kS H s) (hp : pS m s) {i : Nat} : ∀ (k q j : Nat) (m0 : fm_M), mI s m m0 (rnV V i j) → j + k = 120 → k < q → fE (f_X2_renumberBehind_2 H (s + 20) (nn i) q (nn j) m0) (fun _ m' => mI s m m' (rnV V i 120)) := by
  intro k
  induction k with
  | zero =>
    intro q j m0 h0 h1 h2
    obtain ⟨q, rfl⟩ : ∃ q', q = q' + 1 := ⟨q - 1, by omega⟩
    have ej : j = 120 := by omega
    subst ej
    unfold f_X2_renumberBehind_2
    rw [if_pos (by decide)]
    exact fE_ret h0
  | succ k ih =>
    intro q j m0 h0 h1 h2
    obtain ⟨q, rfl⟩ : ∃ q', q = q' + 1 := ⟨q - 1, by omega⟩
    have r : m0.1 (s + 23) j = V 6 0 j := (mI_rd h0 6 0 j rfl rfl).trans (if_neg (by omega))
    have hs := rnV_s (V := V) (i := i) (a := j)
    unfold f_X2_renumberBehind_2
    rw [show (120 : Int32) = nn 120 from by decide, if_neg (by rw [nn_le (by omega) (by omega)]; omega), kS_l2 hS, kS_z23 hS, nn_tn (by omega), r, nn_inc]
    refine fE_p ((nn_in (by omega)).mpr (by omega)) ?_
    by_cases e : V 6 0 j ≤ nn i
    · rw [if_pos e] at hs ⊢
      rw [← hs] at h0
      exact ih q (j + 1) m0 h0 (by omega) (by omega)
    · rw [if_neg e] at hs ⊢
      refine fE_p ((nn_in (by omega)).mpr (by omega)) (fE_p ((nn_in (by omega)).mpr (by omega)) ?_)
      refine fE_put h0 6 0 j rfl rfl (fun m1 h1' => ?_)
      rw [← hs] at h1'
      exact ih q (j + 1) m1 h1' (by omega) (by omega)
/-- packets of circuits behind i have numbers 1 less, below a -/
def dcR (i : Nat) (r : Nat → Int32) : Nat → Int32 := if r 0 ≤ nn i then r else pm_up r 0 (r 0 - 1)
def dcV (V : VV) (i a : Nat) : VV := fun kd p k => if kd = 18 ∧ p < a then dcR i (V 18 p) k else V kd p k
theorem dcV_o {V : VV} {i a kd p k : Nat} (h : kd ≠ 18) : dcV V i a kd p k = V kd p k := if_neg (fun z => h z.1)
theorem dcV_r {V : VV} {i a p : Nat} (h : p < a) : dcV V i a 18 p = dcR i (V 18 p) := funext fun k => if_pos ⟨rfl, h⟩
theorem dcV_n {V : VV} {i a p : Nat} (h : a ≤ p) : dcV V i a 18 p = V 18 p := funext fun k => if_neg (by omega)
theorem dcV_0 {V : VV} {i : Nat} : dcV V i 0 = V := by
  funext kd p t
  exact if_neg (by omega)
theorem dcV_s {V : VV} {i a : Nat} : dcV V i (a + 1) = if V 18 a 0 ≤ nn i then dcV V i a else uV (dcV V i a) 18 a 0 (V 18 a 0 - 1) := by
  have ra : dcV V i a 18 a = V 18 a := dcV_n (Nat.le_refl _)
  split
  · rename_i h
    funext kd p k
    by_cases e : kd = 18 ∧ p = a
    · obtain ⟨rfl, rfl⟩ := e
      rw [dcV_r (by omega), ra]
      unfold dcR
      rw [if_pos h]
    · by_cases e2 : kd = 18 ∧ p < a
      · obtain ⟨rfl, e2⟩ := e2
        rw [dcV_r (by omega), dcV_r e2]
      · unfold dcV
        rw [if_neg e2, if_neg (by omega)]
  · rename_i h
    funext kd p k
    rw [uV_at]
    by_cases e : kd = 18 ∧ p = a
    · obtain ⟨rfl, rfl⟩ := e
      rw [dcV_r (by omega), ra]
      unfold dcR
      rw [if_neg h, up_at]
      by_cases e3 : k = 0
      · rw [if_pos e3, if_pos ⟨rfl, rfl, e3⟩]
      · rw [if_neg e3, if_neg (fun z => e3 z.2.2)]
    · rw [if_neg (fun z => e ⟨z.1, z.2.1⟩)]
      by_cases e2 : kd = 18 ∧ p < a
      · obtain ⟨rfl, e2⟩ := e2
        rw [dcV_r (by omega), dcV_r e2]
      · unfold dcV
        rw [if_neg e2, if_neg (by omega)]
/-- the order behind a closing -/
def csp (i K : Nat) : Nat → Nat := fun a => if i ≤ a ∧ a + 1 < K then a + 1 else if a + 1 = K then i else a
theorem c_cs_l (hS : kS H s) {i K : Nat} (hK : K ≤ 8) (hi : i < K) {m0 : fm_M} (hp : pS m0 s) (h5 : m0.1 s 5 = nn (K - 1)) {Q : Int32 → fm_M → Prop} (hQ : ∀ m', mS s m0 m' (crV (cv m0 s) (csp i K)) → Q 0 m') : ∀ (k q j : Nat) (m : fm_M), m.1 = m0.1 → m.2.2 = m0.2.2 → (∀ a k, m.2.1 a k = if a = s + 26 ∧ i ≤ k ∧ k < j then m0.2.1 (s + 26) (k + 1) else m0.2.1 a k) → i ≤ j → j + k = K - 1 → k < q → fE (f_X7_closeCircuit_116 H s (m0.2.1 (s + 26) i) q (nn j) m) Q := by
  intro k
  induction k with
  | zero =>
    intro q j m e1 e2 e3 h1 h2 h3
    obtain ⟨q, rfl⟩ : ∃ q', q = q' + 1 := ⟨q - 1, by omega⟩
    unfold f_X7_closeCircuit_116
    rw [e1, h5, kS_3 hS, kS_z26 hS, nn_tn (by omega), if_pos ((nn_le (by omega) (by omega)).mpr (by omega))]
    refine fE_p ((nn_in (by omega)).mpr (by omega)) ?_
    rw [fb_d]
    refine fE_ret (hQ _ (cr_ok hp (csp i K) e1 e2 (fun a k ha => ?_) (fun q hq => ?_) (fun q hq => ?_) (fun q q' hq hq' e => ?_)))
    · show fm_up m.2.1 (s + 26) (K - 1) _ a k = _
      rw [fm_up_o (fun z => ha z.1), e3, if_neg (fun z => ha z.1)]
    · show fm_up m.2.1 (s + 26) (K - 1) _ (s + 26) q = _
      unfold csp
      by_cases c1 : q + 1 = K
      · rw [if_neg (by omega), if_pos c1, show q = K - 1 by omega, fm_up_s]
      · rw [fm_up_o (by omega), e3]
        by_cases c2 : i ≤ q ∧ q + 1 < K
        · rw [if_pos c2, if_pos ⟨rfl, c2.1, by omega⟩]
        · rw [if_neg c2, if_neg c1, if_neg (by omega)]
    · unfold csp
      split
      · omega
      · split <;> omega
    · unfold csp at e
      grind
  | succ k ih =>
    intro q j m e1 e2 e3 h1 h2 h3
    obtain ⟨q, rfl⟩ : ∃ q', q = q' + 1 := ⟨q - 1, by omega⟩
    unfold f_X7_closeCircuit_116
    have r : m.2.1 (s + 26) (j + 1) = m0.2.1 (s + 26) (j + 1) := by
      rw [e3, if_neg (by omega)]
    rw [e1, h5, kS_3 hS, kS_z26 hS, if_neg (by rw [nn_le (by omega) (by omega)]; omega), nn_inc, nn_tn (by omega), nn_tn (by omega), r]
    refine fE_p ((nn_in (by omega)).mpr (by omega)) (fE_p (pS_cb hS hp (by omega)) (fE_p ((nn_in (by omega)).mpr (by omega)) ?_))
    rw [fb_d]
    refine ih q (j + 1) _ e1 e2 (fun a k => ?_) (by omega) (by omega) (by omega)
    show fm_up m.2.1 (s + 26) j _ a k = _
    unfold fm_up
    by_cases c1 : a = s + 26 ∧ k = j
    · rw [if_pos c1, if_pos ⟨c1.1, by omega, by omega⟩, c1.2]
    · rw [if_neg c1, e3]
      by_cases c2 : a = s + 26 ∧ i ≤ k ∧ k < j
      · rw [if_pos c2, if_pos ⟨c2.1, c2.2.1, by omega⟩]
      · rw [if_neg c2, if_neg (by omega)]
/-- behind a closing -/
def csE (E : VV) (i : Nat) : VV := crV (uV (rnV (gvL E i 0 1 (eA E i - 1)) i 120) 0 0 5 (nn (eK E - 1))) (csp i (eK E))
theorem c_close62 (hS : kS H s) {W : VV} {i P K : Nat} (hp : pS m s) (hK : K ≤ 8) (hi : i < K) (hP : W 0 0 6 = nn P) (h60 : P ≤ 60) (hW5 : W 0 0 5 = nn K) {Q : Int32 → fm_M → Prop} (hQ : ∀ m', mS s m m' (crV (uV (dcV W i P) 0 0 5 (nn (K - 1))) (csp i K)) → Q 0 m') : ∀ (k q j : Nat) (m0 : fm_M), mI s m m0 (dcV W i j) → j + k = P → k < q → fE (f_X7_closeCircuit_62 H s (nn i) (m.2.1 (s + 26) i) q (nn j) m0) Q := by
  intro k
  induction k with
  | zero =>
    intro q j m0 h0 h1 h2
    obtain ⟨q, rfl⟩ : ∃ q', q = q' + 1 := ⟨q - 1, by omega⟩
    have ej : j = P := by omega
    subst ej
    unfold f_X7_closeCircuit_62
    rw [mI_0 h0, dcV_o (by omega), hP, if_pos ((nn_le (by omega) (by omega)).mpr (by omega)), mI_0 h0, dcV_o (by omega), hW5, nl_1, nn_sub (by omega)]
    refine fE_put h0 0 0 5 rfl rfl (fun m1 h1' => ?_)
    have e5 : m1.1 s 5 = nn (K - 1) := (mI_0 h1' 5).trans uV_s
    have e26 : m.2.1 (s + 26) i = m1.2.1 (s + 26) i := by rw [h1'.2.2.2]
    rw [e26]
    refine c_cs_l hS hK hi h1'.2.1 e5 (fun m' hm => hQ m' ?_) (K - 1 - i) fm_N i m1 rfl rfl (fun a k => by rw [if_neg (by omega)]) (Nat.le_refl _) (by omega) (by unfold fm_N; omega)
    rw [h1'.1] at hm
    exact mS_tr (mI_S h1') hm
  | succ k ih =>
    intro q j m0 h0 h1 h2
    obtain ⟨q, rfl⟩ : ∃ q', q = q' + 1 := ⟨q - 1, by omega⟩
    have hj : j < 60 := by omega
    have hs := dcV_s (V := W) (i := i) (a := j)
    have r : m0.1 (m.2.1 (s + 27) j) 0 = W 18 j 0 := (mI_18 h0 hj 0).trans (by rw [dcV_n (Nat.le_refl _)])
    unfold f_X7_closeCircuit_62
    rw [mI_0 h0, dcV_o (by omega), hP, if_neg (by rw [nn_le (by omega) (by omega)]; omega), kS_4 hS, kS_z27 hS, nn_tn (by omega), h0.2.2.2, r, nn_inc]
    refine fE_p ((nn_in (by omega)).mpr hj) (fE_p (pS_pb hS hp hj) ?_)
    by_cases e : W 18 j 0 ≤ nn i
    · rw [if_pos e] at hs ⊢
      rw [← hs] at h0
      exact ih q (j + 1) m0 h0 (by omega) (by omega)
    · rw [if_neg e] at hs ⊢
      refine fE_p ((nn_in (by omega)).mpr hj) (fE_p (pS_pb hS hp hj) ?_)
      refine fE_put h0 18 j 0 (v18 hj) rfl (fun m1 h1' => ?_)
      rw [← hs] at h1'
      exact ih q (j + 1) m1 h1' (by omega) (by omega)
theorem c_closeCircuit (hS : kS H s) (hp : pS m s) (hV : cv m s = V) (hG : vG V) {i : Nat} (hi : i < eK V) : fE (f_X7_closeCircuit H s (nn i) m) (fun r m' => (V 9 i 2 ≠ 0 ∧ r = 2 ∧ m' = m) ∨ (V 9 i 2 = 0 ∧ (0 < V 9 i 3 ∨ 0 < nc (fun p => decide (V 18 p 0 = nn i)) 0 (eP V)) ∧ r = 8 ∧ m' = m) ∨ (V 9 i 2 = 0 ∧ ¬ (0 < V 9 i 3) ∧ nc (fun p => decide (V 18 p 0 = nn i)) 0 (eP V) = 0 ∧ r = 0 ∧ mS s m m' (crV (uV (dcV (rnV (gvL V i 0 1 (eA V i - 1)) i 120) i (eP V)) 0 0 5 (nn (eK V - 1))) (csp i (eK V))))) := by
  have hK8 : eK V ≤ 8 := hG.2.2.2.2.1.2.2.1
  have hP60 : eP V ≤ 60 := hG.2.2.2.2.1.2.2.2
  have hi8 : i < 8 := by omega
  unfold f_X7_closeCircuit
  rw [c_isCircuitN hV hG hi, fb_n, if_neg (by decide), kS_3 hS, kS_z26 hS, nn_tn (by omega)]
  refine fE_p ((nn_in (by omega)).mpr hi8) (fE_p (pS_cb hS hp hi8) ?_)
  rw [rd9 hV hi8, rd9 hV hi8]
  by_cases e1 : V 9 i 2 = 0
  · rw [if_pos e1]
    by_cases e2 : 0 < V 9 i 3
    · rw [if_pos e2]
      exact fE_ret (Or.inr (Or.inl ⟨e1, Or.inl e2, rfl, rfl⟩))
    · rw [if_neg e2, c_packetsOf hS hp hV hG (nn i), fb_n]
      have hle : nc (fun p => decide (V 18 p 0 = nn i)) 0 (eP V) ≤ eP V := nc_le
      by_cases e3 : nc (fun p => decide (V 18 p 0 = nn i)) 0 (eP V) = 0
      · rw [e3, if_pos (by decide)]
        refine fE_p (kW_b (pS_wo hS hp hi8)) ?_
        have hA0 := hG.2.2.2.2.2.2.1 i hi8
        refine fE_be (c_giveUpLabels hS hp (mI_rf hp hV) (i := i) (c := 0) hi8 (by omega) hA0.1 hA0.2) (fun _ m2 h2 => ?_)
        rw [kS_1 hS]
        unfold f_X2_renumberBehind
        have h20 : mI s m m2 (rnV (gvL V i 0 1 (eA V i - 1)) i 0) := by
          rw [rnV_0]
          exact h2
        refine fE_be (c_rn_l hS hp 120 fm_N 0 m2 h20 (by omega) (by unfold fm_N; omega)) (fun _ m3 h3 => ?_)
        have hq : ∀ k, rnV (gvL V i 0 1 (eA V i - 1)) i 120 0 0 k = V 0 0 k := fun k => (rnV_o (by omega)).trans (gvL_o (by omega) (by omega))
        refine c_close62 hS (W := rnV (gvL V i 0 1 (eA V i - 1)) i 120) (P := eP V) (K := eK V) hp hK8 hi ((hq 6).trans hG.2.2.2.1) hP60 ((hq 5).trans hG.2.2.1) (fun m' hm => Or.inr (Or.inr ⟨e1, e2, rfl, rfl, hm⟩)) (eP V) fm_N 0 m3 ?_ (by omega) (by unfold fm_N; omega)
        rw [dcV_0]
        exact h3
      · rw [if_neg (by rw [show (0 : Int32) = nn 0 from nl_0]; show ¬ (nn _ ≤ nn 0); rw [nn_le (by omega) (by omega)]; omega)]
        exact fE_ret (Or.inr (Or.inl ⟨e1, Or.inr (by omega), rfl, rfl⟩))
  · rw [if_neg e1]
    exact fE_ret (Or.inl ⟨e1, rfl, rfl⟩)
end
