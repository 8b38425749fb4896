/-! packets: the class does what is told -/
section
variable {H : fm_H} {s : Nat} {m : fm_M} {V : VV}
theorem mI_rd {m' : fm_M} {V' : VV} (h : mI s m m' V') (kd i k : Nat) (hv : vld kd i = true) {a : Nat} (ha : ad m s kd i = a) (hk : vk kd k = true := by rfl) : m'.1 a k = V' kd i k := by
  obtain ⟨e1, e2, e3, e4⟩ := h
  have ea : ad m' s kd i = a := by
    rw [← ha]
    unfold ad
    rw [e4]
  rw [← ea]
  exact cv_rd e1 kd i k hv hk
theorem mI_0 {m' : fm_M} {V' : VV} (h : mI s m m' V') (k : Nat) : m'.1 s k = V' 0 0 k := mI_rd h 0 0 k rfl rfl
theorem mI_8 {m' : fm_M} {V' : VV} (h : mI s m m' V') (k : Nat) : m'.1 (s + 25) k = V' 8 0 k := mI_rd h 8 0 k rfl rfl
theorem mI_9 {m' : fm_M} {V' : VV} (h : mI s m m' V') {i : Nat} (hi : i < 8) (k : Nat) : m'.1 (m.2.1 (s + 26) i) k = V' 9 i k := mI_rd h 9 i k (v9 hi) rfl
theorem mI_18 {m' : fm_M} {V' : VV} (h : mI s m m' V') {i : Nat} (hi : i < 60) (k : Nat) (hk : vk 18 k = true := by rfl) : m'.1 (m.2.1 (s + 27) i) k = V' 18 i k := mI_rd h 18 i k (v18 hi) rfl hk
theorem inb_x {x : Int32} {n : Nat} : px_inb x n = true ↔ (0 ≤ x.toInt ∧ x.toInt < n) := by
  simp only [px_inb, Bool.and_eq_true, decide_eq_true_eq]
theorem tn_x (x : Int32) : x.toNatClampNeg = x.toInt.toNat := rfl
theorem c_isCircuitX (hV : cv m s = V) (hG : vG V) (x : Int32) : f_X7_isCircuit H s x m = some (bi (cR V x), m) := by
  have h := c_isCircuit (H := H) hV hG (ii_l x) (ii_u x)
  rw [← ii_of] at h
  exact h
theorem c_isUpX (hS : kS H s) (hp : pS m s) (hV : cv m s = V) (hG : vG V) (x : Int32) : f_X4_isUp H (s + 1) x m = some (bi (uP V x), m) := by
  have h := c_isUp hS hp hV hG (ii_l x) (ii_u x)
  rw [← ii_of] at h
  exact h
theorem c_lose (hS : kS H s) (hp : pS m s) (hV : cv m s = V) (hG : vG V) {p : Nat} (h60 : p < 60) : fE (f_X7_lose H s (m.2.1 (s + 27) p) m) (fun _ m' => mI s m m' (lsE V (V 18 p))) := by
  unfold f_X7_lose lsE
  rw [kS_2 hS, rd8 hV]
  refine fE_put (mI_rf hp hV) 8 0 2 rfl rfl (fun m1 h1 => ?_)
  have r0 : m1.1 (m.2.1 (s + 27) p) 0 = V 18 p 0 := mI_rd h1 18 p 0 (v18 h60) rfl
  rw [r0]
  refine fE_bn (c_isCircuitX h1.1 (show vG (uV V 8 0 2 (V 8 0 2 + 1)) from hG) _) ?_
  rw [show cR (uV V 8 0 2 (V 8 0 2 + 1)) (V 18 p 0) = cR V (V 18 p 0) from rfl]
  cases hc : cR V (V 18 p 0) with
  | false => exact fE_p (by decide) (fE_ret h1)
  | true =>
    have hc' := of_decide_eq_true hc
    have hK := hG.2.2.2.2.1.2.2.1
    refine fE_n (by decide) ?_
    rw [kS_3 hS, kS_z26 hS, r0, h1.2.2.2, tn_x]
    refine fE_p (inb_x.mpr (by omega)) (fE_p (pS_cb hS hp (by omega)) ?_)
    rw [mI_9 h1 (by omega)]
    refine fE_put h1 9 (V 18 p 0).toInt.toNat 6 (v9 (by omega)) rfl (fun m2 h2 => ?_)
    exact fE_ret h2
theorem c_deliver (hS : kS H s) (hp : pS m s) (hV : cv m s = V) (hG : vG V) {p : Nat} (h60 : p < 60) : fE (f_X7_deliver H s (m.2.1 (s + 27) p) m) (fun _ m' => mI s m m' (dvE V (V 18 p))) := by
  unfold f_X7_deliver dvE
  rw [kS_2 hS, rd8 hV]
  refine fE_put (mI_rf hp hV) 8 0 1 rfl rfl (fun m1 h1 => ?_)
  have r0 : m1.1 (m.2.1 (s + 27) p) 0 = V 18 p 0 := mI_rd h1 18 p 0 (v18 h60) rfl
  rw [r0]
  refine fE_bn (c_isCircuitX h1.1 (show vG (uV V 8 0 1 (V 8 0 1 + 1)) from hG) _) ?_
  rw [show cR (uV V 8 0 1 (V 8 0 1 + 1)) (V 18 p 0) = cR V (V 18 p 0) from rfl]
  cases hc : cR V (V 18 p 0) with
  | false => exact fE_p (by decide) (fE_ret h1)
  | true =>
    have hc' := of_decide_eq_true hc
    have hK := hG.2.2.2.2.1.2.2.1
    refine fE_n (by decide) ?_
    rw [kS_3 hS, kS_z26 hS, r0, h1.2.2.2, tn_x]
    refine fE_p (inb_x.mpr (by omega)) (fE_p (pS_cb hS hp (by omega)) ?_)
    obtain ⟨c, hcc⟩ : ∃ c, c = (V 18 p 0).toInt.toNat := ⟨_, rfl⟩
    have hc8 : c < 8 := by omega
    rw [← hcc]
    rw [mI_9 h1 hc8]
    refine fE_put h1 9 c 5 (v9 hc8) rfl (fun m2 h2 => ?_)
    rw [mI_9 h2 hc8, mI_0 h2, mI_18 h2 h60 2, show uV (uV V 8 0 1 (V 8 0 1 + 1)) 9 c 5 (uV V 8 0 1 (V 8 0 1 + 1) 9 c 5 + 1) 9 c 11 = V 9 c 11 from (uV_p (by decide))]
    refine fE_put h2 9 c 11 (v9 hc8) rfl (fun m3 h3 => ?_)
    have r12 : m3.1 (m.2.1 (s + 26) c) 12 = V 9 c 12 := (mI_rd h3 9 c 12 (v9 hc8) rfl).trans ((uV_p (by decide)).trans (uV_p (by decide)))
    have r1 : m3.1 (m.2.1 (s + 27) p) 1 = V 18 p 1 := mI_rd h3 18 p 1 (v18 h60) rfl
    rw [r12, r1]
    by_cases e : V 9 c 12 ≤ V 18 p 1
    · refine fE_p e ?_
      refine fE_put h3 9 c 12 (v9 hc8) rfl (fun m4 h4 => ?_)
      rw [if_pos rfl, if_pos e]
      exact fE_ret h4
    · refine fE_n e ?_
      have r7 : m3.1 (m.2.1 (s + 26) c) 7 = V 9 c 7 := (mI_rd h3 9 c 7 (v9 hc8) rfl).trans ((uV_p (by decide)).trans (uV_p (by decide)))
      rw [r7]
      refine fE_put h3 9 c 7 (v9 hc8) rfl (fun m4 h4 => ?_)
      have r4 : m4.1 (s + 25) 4 = V 8 0 4 := mI_rd h4 8 0 4 rfl rfl
      rw [r4]
      refine fE_put h4 8 0 4 rfl rfl (fun m5 h5 => ?_)
      rw [if_pos rfl, if_neg e]
      exact fE_ret h5
/-- the way with base kind b: 10 the old one, 14 the new one -/
def wA (m : fm_M) (s b c : Nat) : Nat := if b = 14 then m.2.1 (m.2.1 (s + 26) c) 14 else m.2.1 (m.2.1 (s + 26) c) 13
def wN (V : VV) (b c : Nat) : Nat := if b = 14 then eB V c else eA V c
theorem wA_k (hS : kS H s) (hp : pS m s) {b c : Nat} (hc : c < 8) : kW H (wA m s b c) := by
  unfold wA
  split
  · exact pS_wf hS hp hc
  · exact pS_wo hS hp hc
theorem wA_n {b c : Nat} (hV : cv m s = V) (hG : vG V) (hc : c < 8) : m.1 (wA m s b c) 0 = ii (wN V b c) ∧ wN V b c ≤ 6 := by
  unfold wA wN
  split
  · have h := hG.2.2.2.2.2.2.2 c hc
    exact ⟨(rd14 hV hc 0).trans h.1, h.2⟩
  · have h := hG.2.2.2.2.2.2.1 c hc
    exact ⟨(rd10 hV hc 0).trans h.1, h.2⟩
theorem wA_d {b c j : Nat} (hb : b = 10 ∨ b = 14) (hc : c < 8) (hj : j < 4) : ad m s (b + j) c = wA m s b c + j ∧ vld (b + j) c = true := by
  rcases hb with rfl | rfl
  · match j, hj with
    | 0, _ => exact ⟨rfl, v10 hc⟩
    | 1, _ => exact ⟨rfl, v11 hc⟩
    | 2, _ => exact ⟨rfl, v12 hc⟩
    | 3, _ => exact ⟨rfl, v13 hc⟩
  · match j, hj with
    | 0, _ => exact ⟨rfl, v14 hc⟩
    | 1, _ => exact ⟨rfl, v15 hc⟩
    | 2, _ => exact ⟨rfl, v16 hc⟩
    | 3, _ => exact ⟨rfl, v17 hc⟩
theorem wA_e {m' : fm_M} {b c : Nat} (e : m'.2.1 = m.2.1) : wA m' s b c = wA m s b c := by
  unfold wA
  rw [e]
theorem c_putOnLinkTo (hS : kS H s) (hp : pS m s) (hV : cv m s = V) (hG : vG V) {p b c q : Nat} (h60 : p < 60) (hb : b = 10 ∨ b = 14) (hc : c < 8) (hq : q < wN V b c) : fE (f_X5_putOnLinkTo H (m.2.1 (s + 27) p) (wA m s b c) (ii q) (s + 1) m) (fun _ m' => mI s m m' (sR V p (pO V b c q (V 18 p)))) := by
  have hk := wA_k hS hp (b := b) hc
  obtain ⟨hn, h6⟩ := wA_n (b := b) hV hG hc
  have hb18 : ∀ j, j < 4 → b + j ≠ 18 := by intro j hj; omega
  have len : ∀ {m' : fm_M} {V' : VV}, mI s m m' V' → (∀ j, j < 4 → ∀ k, V' (b + j) c k = V (b + j) c k) → m'.1 (wA m s b c) 0 = ii (wN V b c) := by
    intro m' V' h hh
    have h0 := wA_d (m := m) (s := s) (j := 0) hb hc (by decide)
    have h1 := mI_rd h (b + 0) c 0 h0.2 h0.1 (vk_n (by omega))
    rw [Nat.add_zero] at h1
    rw [h1]
    have h2 := cv_rd hV (b + 0) c 0 h0.2 (vk_n (by omega))
    rw [h0.1, Nat.add_zero, hn] at h2
    rw [h2]
    exact hh 0 (by decide) 0
  have rd : ∀ {m' : fm_M} {V' : VV} (j : Nat), j < 4 → mI s m m' V' → (∀ j, j < 4 → ∀ k, V' (b + j) c k = V (b + j) c k) → ∀ k, m'.1 (wA m s b c + j) k = V (b + j) c k := by
    intro m' V' j hj h hh k
    have h0 := wA_d (m := m) (s := s) hb hc hj
    rw [mI_rd h (b + j) c k h0.2 h0.1 (vk_n (by omega))]
    exact hh j hj k
  unfold f_X5_putOnLinkTo
  have z0 := mI_rf hp hV
  refine fE_bn (c_linkAtN hk hn h6 hq) ?_
  rw [rd 2 (by decide) z0 (fun _ _ _ => rfl)]
  refine fE_put z0 18 p 3 (v18 h60) rfl (fun m1 h1 => ?_)
  have k1 : ∀ j, j < 4 → ∀ k, uV V 18 p 3 (V (b + 2) c q) (b + j) c k = V (b + j) c k := fun j hj k => uV_k (hb18 j hj)
  refine fE_bn (c_nodeAtN hk (len h1 k1) h6 hq) ?_
  rw [rd 1 (by decide) h1 k1]
  refine fE_put h1 18 p 4 (v18 h60) rfl (fun m2 h2 => ?_)
  have k2 : ∀ j, j < 4 → ∀ k, uV (uV V 18 p 3 (V (b + 2) c q)) 18 p 4 (V (b + 1) c q) (b + j) c k = V (b + j) c k := fun j hj k => (uV_k (hb18 j hj)).trans (k1 j hj k)
  refine fE_bn (c_slotAtN hk (len h2 k2) h6 hq) ?_
  rw [rd 3 (by decide) h2 k2]
  refine fE_put h2 18 p 5 (v18 h60) rfl (fun m3 h3 => ?_)
  have r3 : m3.1 (m.2.1 (s + 27) p) 3 = V (b + 2) c q := (mI_rd h3 18 p 3 (v18 h60) rfl).trans ((uV_p (by decide)).trans ((uV_p (by decide)).trans uV_s))
  rw [r3]
  refine fE_bn (c_delayOn hS h3.2.1 h3.1 (show vG (uV (uV (uV V 18 p 3 (V (b + 2) c q)) 18 p 4 (V (b + 1) c q)) 18 p 5 (V (b + 3) c q)) from hG) _) ?_
  refine fE_put h3 18 p 6 (v18 h60) rfl (fun m4 h4 => ?_)
  refine fE_ret ?_
  rw [uV_r, uV_r, uV_r, uV_r, sR_r, sR_r, sR_r, sR_sR, sR_sR, sR_sR] at h4
  exact h4
theorem c_isOnUpLink (hS : kS H s) (hp : pS m s) (hV : cv m s = V) (hG : vG V) {p : Nat} (h60 : p < 60) : fE (f_X7_isOnUpLink H s (m.2.1 (s + 27) p) m) (fun x m' => x = bi (uP V (V 18 p 3)) ∧ mI s m m' (if uP V (V 18 p 3) = true then V else lsE V (V 18 p))) := by
  unfold f_X7_isOnUpLink
  rw [kS_0 hS, rd18 hV h60 3]
  refine fE_bn (c_isUpX hS hp hV hG _) ?_
  cases uP V (V 18 p 3) with
  | false =>
    refine fE_p (by decide) (fE_be (c_lose hS hp hV hG h60) (fun x m1 h1 => fE_ret ⟨rfl, ?_⟩))
    rw [if_neg (by decide)]
    exact h1
  | true =>
    refine fE_n (by decide) (fE_ret ⟨rfl, ?_⟩)
    rw [if_pos rfl]
    exact mI_rf hp hV
end
