/-! packets' ticks: the class does what is told -/
/-- only totals and circuits' numbers differ -/
def k89 (V V' : VV) : Prop := ∀ kd i k, kd ≠ 8 → kd ≠ 9 → V' kd i k = V kd i k
theorem k89_rf (V : VV) : k89 V V := fun _ _ _ _ _ => rfl
theorem k89_u {V V' : VV} {kd i k : Nat} {x : Int32} (h : k89 V V') (hk : kd = 8 ∨ kd = 9) : k89 V (uV V' kd i k x) := fun kd' i' k' h1 h2 => (uV_k (by omega)).trans (h kd' i' k' h1 h2)
theorem k89_ls {V : VV} {r : Nat → Int32} : k89 V (lsE V r) := by
  unfold lsE
  split
  · exact k89_u (k89_u (k89_rf V) (Or.inl rfl)) (Or.inr rfl)
  · exact k89_u (k89_rf V) (Or.inl rfl)
theorem k89_dv {V : VV} {r : Nat → Int32} : k89 V (dvE V r) := by
  unfold dvE
  split
  · split
    · exact k89_u (k89_u (k89_u (k89_u (k89_rf V) (Or.inl rfl)) (Or.inr rfl)) (Or.inr rfl)) (Or.inr rfl)
    · exact k89_u (k89_u (k89_u (k89_u (k89_u (k89_rf V) (Or.inl rfl)) (Or.inr rfl)) (Or.inr rfl)) (Or.inr rfl)) (Or.inl rfl)
  · exact k89_u (k89_rf V) (Or.inl rfl)
theorem k89_gW {V : VV} {r : Nat → Int32} {b c n : Nat} {q : Int} : k89 V (gW V r b c n q).2.2 := by
  unfold gW
  split
  · exact k89_dv
  · split
    · exact k89_rf V
    · exact k89_ls
theorem k89_gO {V : VV} {r : Nat → Int32} : k89 V (gO V r).2.2 := by
  unfold gO
  split
  · split
    · exact k89_gW
    · exact k89_gW
  · exact k89_ls
theorem k89_gP {V : VV} {r : Nat → Int32} : k89 V (gP V r).2.2 := by
  unfold gP
  split
  · exact k89_rf V
  · exact k89_gO
/-- what validity looks at is the same -/
def vSm (V V' : VV) : Prop := V' 1 0 0 = V 1 0 0 ∧ V' 1 0 1 = V 1 0 1 ∧ V' 0 0 5 = V 0 0 5 ∧ V' 0 0 6 = V 0 0 6 ∧ (∀ i, V' 4 0 i = V 4 0 i) ∧ (∀ i, V' 10 i 0 = V 10 i 0) ∧ ∀ i, V' 14 i 0 = V 14 i 0
theorem vG_sm {V V' : VV} (h : vSm V V') (hG : vG V) : vG V' := by
  obtain ⟨h1, h2, h3, h4, h5, h6, h7⟩ := h
  have e : eZ V' = eZ V := by funext i; unfold eZ; rw [h5]
  have e2 : eA V' = eA V := by funext i; unfold eA; rw [h6]
  have e3 : eB V' = eB V := by funext i; unfold eB; rw [h7]
  unfold vG
  rw [e, e2, e3]
  unfold eN eL eK eP
  rw [h1, h2, h3, h4]
  unfold vG vB at hG
  unfold vB
  rw [h1, h2, h3, h4]
  obtain ⟨g1, g2, g3, g4, g5, g6, g7, g8⟩ := hG
  exact ⟨g1, g2, g3, g4, g5, fun i hi => by rw [h5]; exact g6 i hi, fun i hi => by rw [h6]; exact g7 i hi, fun i hi => by rw [h7]; exact g8 i hi⟩
theorem vSm_k {V V' : VV} (h : k89 V V') : vSm V V' := ⟨h _ _ _ (by decide) (by decide), h _ _ _ (by decide) (by decide), h _ _ _ (by decide) (by decide), h _ _ _ (by decide) (by decide), fun i => h _ _ _ (by decide) (by decide), fun i => h _ _ _ (by decide) (by decide), fun i => h _ _ _ (by decide) (by decide)⟩
theorem vSm_R {V : VV} {p : Nat} {r : Nat → Int32} : vSm V (sR V p r) := ⟨rfl, rfl, rfl, rfl, fun _ => rfl, fun _ => rfl, fun _ => rfl⟩
theorem vSm_t {V V1 V2 : VV} (h1 : vSm V V1) (h2 : vSm V1 V2) : vSm V V2 := ⟨h2.1.trans h1.1, h2.2.1.trans h1.2.1, h2.2.2.1.trans h1.2.2.1, h2.2.2.2.1.trans h1.2.2.2.1, fun i => (h2.2.2.2.2.1 i).trans (h1.2.2.2.2.1 i), fun i => (h2.2.2.2.2.2.1 i).trans (h1.2.2.2.2.2.1 i), fun i => (h2.2.2.2.2.2.2 i).trans (h1.2.2.2.2.2.2 i)⟩
/-- two packets change their places -/
def swP (V : VV) (i j : Nat) : VV := fun kd q k => if kd = 18 then (if q = i then V 18 j k else if q = j then V 18 i k else V 18 q k) else V kd q k
theorem vSm_sw {V : VV} {i j : Nat} : vSm V (swP V i j) := ⟨rfl, rfl, rfl, rfl, fun _ => rfl, fun _ => rfl, fun _ => rfl⟩
theorem er_sw {V : VV} {i j : Nat} : er (swP V i j) = er V := by
  funext kd q k
  simp only [er_at, swP]
  grind
section
variable {H : fm_H} {s : Nat} {m : fm_M} {V : VV}
theorem lsE_own {p : Nat} : sR (lsE V (V 18 p)) p (V 18 p) = lsE V (V 18 p) := by
  rw [← lsE_sR, sR_id]
theorem dvE_own {p : Nat} : sR (dvE V (V 18 p)) p (V 18 p) = dvE V (V 18 p) := by
  rw [← dvE_sR, sR_id]
theorem c_circuitOfX (hS : kS H s) (hV : cv m s = V) (x : Int32) : f_X2_circuitOf H (s + 20) x m = some (if 0 ≤ x.toInt ∧ x.toInt < 120 ∧ V 5 0 x.toInt.toNat ≠ -1 then V 6 0 x.toInt.toNat else -1, m) := by
  have h := c_circuitOf hS hV (ii_l x) (ii_u x)
  rw [← ii_of] at h
  exact h
theorem c_hasMadeEntryX (hS : kS H s) (hV : cv m s = V) (x y : Int32) : f_X2_hasMadeEntry H (s + 20) x y m = some (bi (decide (0 ≤ x.toInt ∧ x.toInt < 120 ∧ V 5 0 x.toInt.toNat = y ∧ V 7 0 x.toInt.toNat = 1)), m) := by
  have h := c_hasMadeEntry hS hV (ii_l x) (ii_u x) y
  rw [← ii_of] at h
  exact h
theorem c_indexA (hS : kS H s) (hp : pS m s) (hV : cv m s = V) (hG : vG V) {b c : Nat} (hb : b = 10 ∨ b = 14) (hc : c < 8) (x : Int32) : f_X10_indexOfSlot H (wA m s b c) x m = some (ii (fi (fun k => decide (V (b + 3) c k = x)) 1 (wN V b c - 1)), m) := by
  obtain ⟨hn, h6⟩ := wA_n (b := b) hV hG hc
  rw [c_indexOfSlot (wA_k hS hp hc) hn h6 x]
  have h0 := wA_d (m := m) (s := s) (j := 3) hb hc (by decide)
  rw [show m.1 (wA m s b c + 3) = V (b + 3) c from funext fun k => by rw [← h0.1]; exact cv_rd hV (b + 3) c k h0.2 (vk_n (by omega))]
theorem c_wayWithSlot (hS : kS H s) (hp : pS m s) (hV : cv m s = V) (hG : vG V) {c : Nat} (hc : c < 8) (x : Int32) : f_X0_wayWithSlot H (m.2.1 (s + 26) c) x m = some (wA m s (if fi (fun k => decide (V 17 c k = x)) 1 (eB V c - 1) = -1 then 10 else 14) c, m) := by
  unfold f_X0_wayWithSlot
  have h : f_X10_indexOfSlot H (wA m s 14 c) x m = some (ii (fi (fun k => decide (V 17 c k = x)) 1 (wN V 14 c - 1)), m) := c_indexA hS hp hV hG (b := 14) (Or.inr rfl) hc x
  have e14 : wA m s 14 c = m.2.1 (m.2.1 (s + 26) c) 14 := if_pos rfl
  have e10 : wA m s 10 c = m.2.1 (m.2.1 (s + 26) c) 13 := if_neg (by decide)
  have eN : wN V 14 c = eB V c := if_pos rfl
  rw [e14, eN] at h
  rw [if_pos (kW_b (pS_wf hS hp hc)), h, fb_n]
  have hr := fi_r (p := fun k => decide (V 17 c k = x)) (k := eB V c - 1) (j := 1)
  have hn : eB V c ≤ 6 := (hG.2.2.2.2.2.2.2 c hc).2
  by_cases e : fi (fun k => decide (V 17 c k = x)) 1 (eB V c - 1) = -1
  · rw [if_pos (by rw [e, ii_m1]), if_pos (kW_b (pS_wo hS hp hc)), if_pos e, e10]
  · rw [if_neg (by rw [ii_m1, ii_eq (by omega) (by omega) (by omega) (by omega)]; exact e), if_pos (kW_b (pS_wf hS hp hc)), if_neg e, e14]
theorem c_goesOn_w (hS : kS H s) (hp : pS m s) (hV : cv m s = V) (hG : vG V) {p b c : Nat} (h60 : p < 60) (hb : b = 10 ∨ b = 14) (hc : c < 8) {q : Int} (hq : -1 ≤ q) (hq2 : q < 10) : fE (if ii q + 1 < m.1 (wA m s b c) 0 then
          fm_bn (f_X5_putOnLinkTo H (m.2.1 (s + 27) p) (wA m s b c) (ii q + 1) (s + 1) m) fun _ m7 =>
          fm_bn (f_X7_isOnUpLink H s (m.2.1 (s + 27) p) m7) fun x8 m8 =>
          if fm_b01 x8 = true then some (x8, m8) else none
        else
        fm_bn (f_X7_deliver H s (m.2.1 (s + 27) p) m) fun _ m9 =>
        some ((0 : Int32), m9)) (fun x m' => x = bi (gW V (V 18 p) b c (wN V b c) q).1 ∧ mI s m m' (sR (gW V (V 18 p) b c (wN V b c) q).2.2 p (gW V (V 18 p) b c (wN V b c) q).2.1)) := by
  obtain ⟨hn, h6⟩ := wA_n (b := b) hV hG hc
  rw [hn, ii_inc]
  unfold gW
  by_cases e : (wN V b c : Int) ≤ q + 1
  · rw [if_pos e]
    refine fE_n (by rw [ii_lt (by omega) (by omega) (by omega) (by omega)]; omega) ?_
    refine fE_be (c_deliver hS hp hV hG h60) (fun x m1 h1 => fE_ret ⟨rfl, ?_⟩)
    rw [dvE_own]
    exact h1
  · rw [if_neg e]
    refine fE_p (by rw [ii_lt (by omega) (by omega) (by omega) (by omega)]; omega) ?_
    obtain ⟨q', hq'⟩ : ∃ q' : Nat, q + 1 = q' := ⟨(q + 1).toNat, by omega⟩
    rw [hq', Int.toNat_natCast]
    refine fE_be (c_putOnLinkTo hS hp hV hG h60 hb hc (by omega)) (fun x m1 h1 => ?_)
    have hG1 : vG (sR V p (pO V b c q' (V 18 p))) := vG_sm vSm_R hG
    have h2 := c_isOnUpLink hS h1.2.1 h1.1 hG1 h60
    rw [h1.2.2.2] at h2
    refine fE_be h2 (fun x8 m2 h3 => ?_)
    obtain ⟨e8, h3⟩ := h3
    rw [e8]
    refine fE_p bi_01 (fE_ret ?_)
    have e3 : sR V p (pO V b c q' (V 18 p)) 18 p = pO V b c q' (V 18 p) := sR_r
    have e4 : pO V b c q' (V 18 p) 3 = V (b + 2) c q' := rfl
    rw [e3, e4, show uP (sR V p (pO V b c q' (V 18 p))) (V (b + 2) c q') = uP V (V (b + 2) c q') from rfl] at h3
    rw [e3, e4, show uP (sR V p (pO V b c q' (V 18 p))) (V (b + 2) c q') = uP V (V (b + 2) c q') from rfl]
    by_cases eu : uP V (V (b + 2) c q') = true
    · rw [if_pos eu] at h3 ⊢
      rw [eu]
      exact ⟨rfl, mI_tr h1 h3⟩
    · rw [if_neg eu] at h3 ⊢
      rw [lsE_sR] at h3
      refine ⟨by rw [Bool.not_eq_true] at eu; rw [eu], mI_tr h1 h3⟩
theorem cR_m1 {E : VV} : cR E (-1) = false := by
  have h : (-1 : Int32).toInt = -1 := by decide
  unfold cR
  rw [h]
  exact decide_eq_false (by omega)
theorem c_goesOn (hS : kS H s) (hp : pS m s) (hV : cv m s = V) (hG : vG V) {p : Nat} (h60 : p < 60) : fE (f_X7_goesOn H s (m.2.1 (s + 27) p) m) (fun x m' => x = bi (gO V (V 18 p)).1 ∧ mI s m m' (sR (gO V (V 18 p)).2.2 p (gO V (V 18 p)).2.1)) := by
  unfold f_X7_goesOn
  have hK := hG.2.2.2.2.1.2.2.1
  rw [kS_1 hS, rd18 hV h60 5]
  refine fE_bn (c_circuitOfX hS hV _) ?_
  refine fE_bn (c_isCircuitX hV hG _) ?_
  have lose : gO V (V 18 p) = (false, V 18 p, lsE V (V 18 p)) → fE (fm_bn (f_X7_lose H s (m.2.1 (s + 27) p) m) fun _ m3 => some ((0 : Int32), m3)) (fun x m' => x = bi (gO V (V 18 p)).1 ∧ mI s m m' (sR (gO V (V 18 p)).2.2 p (gO V (V 18 p)).2.1)) := by
    intro e
    rw [e]
    refine fE_be (c_lose hS hp hV hG h60) (fun x m1 h1 => fE_ret ⟨rfl, ?_⟩)
    show mI s m m1 (sR (lsE V (V 18 p)) p (V 18 p))
    rw [lsE_own]
    exact h1
  by_cases e1 : 0 ≤ (V 18 p 5).toInt ∧ (V 18 p 5).toInt < 120 ∧ V 5 0 (V 18 p 5).toInt.toNat ≠ -1
  · rw [if_pos e1]
    by_cases e2 : cR V (V 6 0 (V 18 p 5).toInt.toNat) = true
    · rw [e2]
      refine fE_n (by decide) ?_
      rw [rd18 hV h60 5, rd18 hV h60 4]
      refine fE_bn (c_hasMadeEntryX hS hV _ _) ?_
      by_cases e3 : V 5 0 (V 18 p 5).toInt.toNat = V 18 p 4 ∧ V 7 0 (V 18 p 5).toInt.toNat = 1
      · rw [decide_eq_true ⟨e1.1, e1.2.1, e3.1, e3.2⟩]
        refine fE_n (by decide) ?_
        have hc := of_decide_eq_true e2
        obtain ⟨c, hcc⟩ : ∃ c, c = (V 6 0 (V 18 p 5).toInt.toNat).toInt.toNat := ⟨_, rfl⟩
        have hc8 : c < 8 := by omega
        have hg : gO V (V 18 p) = (if fi (fun k => decide (V 17 c k = V 18 p 5)) 1 (eB V c - 1) = -1 then
      gW V (V 18 p) 10 c (eA V c) (fi (fun k => decide (V 13 c k = V 18 p 5)) 1 (eA V c - 1))
     else gW V (V 18 p) 14 c (eB V c) (fi (fun k => decide (V 17 c k = V 18 p 5)) 1 (eB V c - 1))) := by
          unfold gO
          rw [if_pos ⟨e1.1, e1.2.1, e1.2.2, e2, e3.1, e3.2⟩, ← hcc]
        rw [kS_3 hS, kS_z26 hS, tn_x, ← hcc]
        refine fE_p (inb_x.mpr (by omega)) (fE_p (pS_cb hS hp hc8) ?_)
        rw [rd18 hV h60 5]
        refine fE_bn (c_wayWithSlot hS hp hV hG hc8 _) ?_
        refine fE_p (kW_b (wA_k hS hp hc8)) ?_
        have nA : eA V c ≤ 6 := (hG.2.2.2.2.2.2.1 c hc8).2
        have nB : eB V c ≤ 6 := (hG.2.2.2.2.2.2.2 c hc8).2
        by_cases e4 : fi (fun k => decide (V 17 c k = V 18 p 5)) 1 (eB V c - 1) = -1
        · rw [if_pos e4] at hg ⊢
          rw [rd18 hV h60 5]
          refine fE_bn (c_indexA hS hp hV hG (Or.inl rfl) hc8 _) ?_
          have hr := fi_r (p := fun k => decide (V 13 c k = V 18 p 5)) (k := eA V c - 1) (j := 1)
          rw [hg, kS_0 hS]
          exact c_goesOn_w hS hp hV hG h60 (Or.inl rfl) hc8 (q := fi (fun k => decide (V 13 c k = V 18 p 5)) 1 (eA V c - 1)) (by omega) (by omega)
        · rw [if_neg e4] at hg ⊢
          rw [rd18 hV h60 5]
          refine fE_bn (c_indexA hS hp hV hG (Or.inr rfl) hc8 _) ?_
          have hr := fi_r (p := fun k => decide (V 17 c k = V 18 p 5)) (k := eB V c - 1) (j := 1)
          rw [hg, kS_0 hS]
          exact c_goesOn_w hS hp hV hG h60 (Or.inr rfl) hc8 (q := fi (fun k => decide (V 17 c k = V 18 p 5)) 1 (eB V c - 1)) (by omega) (by omega)
      · rw [decide_eq_false (fun h => e3 ⟨h.2.2.1, h.2.2.2⟩)]
        refine fE_p (by decide) (lose ?_)
        unfold gO
        rw [if_neg (fun h => e3 ⟨h.2.2.2.2.1, h.2.2.2.2.2⟩)]
    · rw [Bool.not_eq_true] at e2
      rw [e2]
      refine fE_p (by decide) (lose ?_)
      unfold gO
      rw [if_neg (fun h => by rw [h.2.2.2.1] at e2; cases e2)]
  · rw [if_neg e1, cR_m1]
    refine fE_p (by decide) (lose ?_)
    unfold gO
    rw [if_neg (fun h => e1 ⟨h.1, h.2.1, h.2.2.1⟩)]
/-- packets' references change their places -/
theorem sw_ok {m' : fm_M} (hp : pS m s) (pi : Nat → Nat) (h1 : m'.1 = m.1) (h2 : m'.2.2 = m.2.2) (h3 : ∀ a k, a ≠ s + 27 → m'.2.1 a k = m.2.1 a k) (h4 : ∀ i, i < 60 → m'.2.1 (s + 27) i = m.2.1 (s + 27) (pi i)) (h5 : ∀ i, i < 60 → pi i < 60) (h6 : ∀ i j, i < 60 → j < 60 → pi i = pi j → i = j) : mS s m m' (fun kd i k => if kd = 18 ∧ i < 60 then cv m s 18 (pi i) k else cv m s kd i k) := by
  have hp' : pS m' s := by
    obtain ⟨p1, p2, p3, p4, p5, p6⟩ := hp
    refine ⟨fun i hi => ?_, fun i hi => ?_, fun i i' hi hi' => ?_, fun j hj => ?_, fun i hi => ?_, fun i i' hi hi' e => ?_⟩
    · rw [h3 _ _ (by omega)]; exact p1 i hi
    · rw [h3 _ _ (by omega)]; exact p2 i hi
    · rw [h3 _ _ (by omega), h3 _ _ (by omega)]; exact p3 i i' hi hi'
    · rw [h3 _ _ (by omega), h3 _ _ (by omega)]; exact p4 j hj
    · rw [h4 i hi]; exact p5 (pi i) (h5 i hi)
    · rw [h4 i hi, h4 i' hi'] at e
      exact h6 i i' hi hi' (p6 _ _ (h5 i hi) (h5 i' hi') e)
  refine ⟨?_, hp', ?_, h2⟩
  · funext kd i k
    have hc : ∀ j, j < 8 → m.2.1 (s + 26) j ≠ s + 27 := by
      intro j hj
      obtain ⟨j', _, e⟩ := hp.2.1 j hj
      omega
    by_cases e : kd = 18 ∧ i < 60
    · obtain ⟨rfl, hi⟩ := e
      rw [if_pos ⟨rfl, hi⟩]
      show (if vld 18 i = true ∧ vk 18 k = true then m'.1 (m'.2.1 (s + 27) i) k else 0) = (if vld 18 (pi i) = true ∧ vk 18 k = true then m.1 (m.2.1 (s + 27) (pi i)) k else 0)
      rw [h4 i hi, h1]
      by_cases hk : vk 18 k = true
      · rw [if_pos ⟨v18 hi, hk⟩, if_pos ⟨v18 (h5 i hi), hk⟩]
      · rw [if_neg (fun z => hk z.2), if_neg (fun z => hk z.2)]
    · rw [if_neg e]
      show (if vld kd i = true ∧ vk kd k = true then m'.1 (ad m' s kd i) k else 0) = (if vld kd i = true ∧ vk kd k = true then m.1 (ad m s kd i) k else 0)
      by_cases hv : vld kd i = true
      · rw [h1]
        have e2 : ad m' s kd i = ad m s kd i := by
          rcases ad_ev hp hv with ⟨a1, a2, a3, a4⟩ | ⟨a1, a2, a3⟩ | ⟨a1, a2, a3, j, b, a4, a5, a6, a7, a8⟩ | ⟨a1, a2, j, a3, a4⟩
          · match kd, a1, a2 with
            | 0, _, _ | 1, _, _ | 2, _, _ | 4, _, _ | 5, _, _ | 6, _, _ | 7, _, _ | 8, _, _ => rfl
          · subst a1; rfl
          · have q := hc i a3
            match kd, a1, a2 with
            | 9, _, _ => rw [ad_9, ad_9, h3 _ _ (by omega)]
            | 10, _, _ => rw [ad_10, ad_10, h3 (s + 26) i (by omega), h3 _ _ q]
            | 11, _, _ => rw [ad_11, ad_11, h3 (s + 26) i (by omega), h3 _ _ q]
            | 12, _, _ => rw [ad_12, ad_12, h3 (s + 26) i (by omega), h3 _ _ q]
            | 13, _, _ => rw [ad_13, ad_13, h3 (s + 26) i (by omega), h3 _ _ q]
            | 14, _, _ => rw [ad_14, ad_14, h3 (s + 26) i (by omega), h3 _ _ q]
            | 15, _, _ => rw [ad_15, ad_15, h3 (s + 26) i (by omega), h3 _ _ q]
            | 16, _, _ => rw [ad_16, ad_16, h3 (s + 26) i (by omega), h3 _ _ q]
            | 17, _, _ => rw [ad_17, ad_17, h3 (s + 26) i (by omega), h3 _ _ q]
            | k + 18, _, a2 => omega
          · exact absurd ⟨a1, a2⟩ e
        rw [e2]
      · rw [if_neg (fun z => hv z.1), if_neg (fun z => hv z.1)]
  · intro a k ha
    exact ⟨by rw [h1], h3 a k (by omega)⟩
theorem c_keepPacket (hS : kS H s) (hp : pS m s) (hV : cv m s = V) {i j : Nat} (hi : i < 60) (hj : j < 60) : fE (f_X7_keepPacket H s (ii i) (ii j) m) (fun _ m' => mS s m m' (swP V i j)) := by
  unfold f_X7_keepPacket
  rw [kS_4 hS, kS_z27 hS, ii_tnn (by omega), ii_tnn (by omega)]
  refine fE_p (by rw [ii_inb (by omega) (by omega)]; omega) (fE_p (pS_pb hS hp hi) (fE_p (by rw [ii_inb (by omega) (by omega)]; omega) (fE_p (pS_pb hS hp hj) (fE_p (by rw [ii_inb (by omega) (by omega)]; omega) ?_))))
  rw [fb_d]
  refine fE_p (by rw [ii_inb (by omega) (by omega)]; omega) ?_
  rw [fb_d]
  refine fE_ret ?_
  have h := sw_ok (m := m) (m' := fm_sr (fm_sr m (s + 27) i (m.2.1 (s + 27) j)) (s + 27) j (m.2.1 (s + 27) i)) hp (fun q => if q = i then j else if q = j then i else q) rfl rfl (fun a k ha => ?_) (fun q hq => ?_) (fun q hq => ?_) (fun q q' hq hq' e => ?_)
  · rw [hV] at h
    have e : swP V i j = (fun kd q k => if kd = 18 ∧ q < 60 then V 18 (if q = i then j else if q = j then i else q) k else V kd q k) := by
      funext kd q k
      simp only [swP]
      grind
    rw [e]
    exact h
  · show fm_up (fm_up m.2.1 (s + 27) i _) (s + 27) j _ a k = _
    rw [fm_up_o (fun z => ha z.1), fm_up_o (fun z => ha z.1)]
  · show fm_up (fm_up m.2.1 (s + 27) i (m.2.1 (s + 27) j)) (s + 27) j (m.2.1 (s + 27) i) (s + 27) q = _
    unfold fm_up
    grind
  · show (if q = i then j else if q = j then i else q) < 60
    grind
  · grind
/-- the packets from a on -/
def sg (V : VV) : Nat → Nat → List (Nat → Int32)
  | _, 0 => []
  | a, n + 1 => V 18 a :: sg V (a + 1) n
theorem sg_S (V : VV) (a n : Nat) : sg V a (n + 1) = V 18 a :: sg V (a + 1) n := rfl
theorem mvP_c (E : VV) (r : Nat → Int32) (l : List (Nat → Int32)) : mvP E (r :: l) = (if (gP E r).1 = true then (gP E r).2.1 :: (mvP (gP E r).2.2 l).1 else (mvP (gP E r).2.2 l).1, (mvP (gP E r).2.2 l).2) := rfl
theorem sg_c {V V' : VV} : ∀ {n a : Nat}, (∀ q, a ≤ q → q < a + n → V' 18 q = V 18 q) → sg V' a n = sg V a n
  | 0, _, _ => rfl
  | n + 1, a, h => by
    unfold sg
    rw [h a (by omega) (by omega), sg_c (fun q a1 a2 => h q (by omega) (by omega))]
theorem sg_a {V : VV} : ∀ {n a k : Nat}, sg V a (n + k) = sg V a n ++ sg V (a + n) k
  | 0, a, k => by rw [Nat.zero_add]; rfl
  | n + 1, a, k => by
    rw [show n + 1 + k = (n + k) + 1 from by omega, sg_S, sg_S, sg_a (n := n) (a := a + 1) (k := k), List.cons_append, show a + 1 + n = a + (n + 1) from by omega]
theorem sg_l {V : VV} : ∀ {n a : Nat}, (sg V a n).length = n
  | 0, _ => rfl
  | n + 1, a => by
    unfold sg
    rw [List.length_cons, sg_l]
theorem sg_1 {V : VV} {a : Nat} : sg V a 1 = [V 18 a] := rfl
theorem c_movePackets_l (hS : kS H s) : ∀ (k q i kept : Nat) (m : fm_M) (V : VV), pS m s → cv m s = V → vG V → V 0 0 6 = ii (i + k : Nat) → i + k ≤ 60 → kept ≤ i → k < q → fE (f_X7_movePackets_4 H s q (ii kept) (ii i) m) (fun _ m' => ∃ V', mS s m m' V' ∧ er V' = uV (mvP (er V) (sg V i k)).2 0 0 6 (ii (kept + (mvP (er V) (sg V i k)).1.length : Nat)) ∧ sg V' 0 (kept + (mvP (er V) (sg V i k)).1.length) = sg V 0 kept ++ (mvP (er V) (sg V i k)).1) := by
  intro k
  induction k with
  | zero =>
    intro q i kept m V hp hV hG hP h60 hk hq
    obtain ⟨q, rfl⟩ : ∃ q', q = q' + 1 := ⟨q - 1, by omega⟩
    unfold f_X7_movePackets_4
    rw [rd0 hV, hP]
    refine fE_p (by rw [ii_le (by omega) (by omega) (by omega) (by omega)]; omega) ?_
    refine fE_put (mI_rf hp hV) 0 0 6 rfl rfl (fun m1 h1 => fE_ret ⟨_, mI_S h1, ?_, ?_⟩)
    · rw [er_uV (by decide)]
      rfl
    · show sg _ 0 (kept + 0) = sg V 0 kept ++ []
      rw [List.append_nil]
      exact sg_c (fun q _ _ => rfl)
  | succ k ih =>
    intro q i kept m V hp hV hG hP h60 hk hq
    obtain ⟨q, rfl⟩ : ∃ q', q = q' + 1 := ⟨q - 1, by omega⟩
    unfold f_X7_movePackets_4
    have hi : i < 60 := by omega
    rw [rd0 hV, hP, kS_4 hS, kS_z27 hS, ii_tnn (by omega), ii_inc, ii_inc, rd18 hV hi 6]
    refine fE_n (by rw [ii_le (by omega) (by omega) (by omega) (by omega)]; omega) (fE_p (by rw [ii_inb (by omega) (by omega)]; omega) (fE_p (pS_pb hS hp hi) ?_))
    refine fE_put (mI_rf hp hV) 18 i 6 (v18 hi) rfl (fun m1 h1 => ?_)
    rw [uV_r] at h1
    have r6 : m1.1 (m.2.1 (s + 27) i) 6 = V 18 i 6 - 1 := (mI_18 h1 hi 6).trans (by rw [sR_r]; exact if_pos rfl)
    rw [r6]
    have hG1 : vG (sR V i (pm_up (V 18 i) 6 (V 18 i 6 - 1))) := vG_sm vSm_R hG
    -- what comes of the rest
    have rest : ∀ (m2 : fm_M) (V2 : VV) (r' : Nat → Int32) (E' : VV), mS s m m2 V2 → vSm V V2 → er V2 = er E' → V2 18 i = r' → (∀ q, q ≠ i → V2 18 q = V 18 q) → gP V (V 18 i) = (true, r', E') → fE (fm_bn (f_X7_keepPacket H s (ii i) (ii kept) m2) fun _ m3 => f_X7_movePackets_4 H s q (ii (kept + 1)) (ii (i + 1)) m3) (fun _ m' => ∃ V', mS s m m' V' ∧ er V' = uV (mvP (er V) (sg V i (k + 1))).2 0 0 6 (ii (kept + (mvP (er V) (sg V i (k + 1))).1.length : Nat)) ∧ sg V' 0 (kept + (mvP (er V) (sg V i (k + 1))).1.length) = sg V 0 kept ++ (mvP (er V) (sg V i (k + 1))).1) := by
      intro m2 V2 r' E' h2 hs he hr ho hg
      refine fE_be (c_keepPacket hS h2.2.1 h2.1 hi (show kept < 60 by omega)) (fun _ m3 h3 => ?_)
      have hs3 : vSm V (swP V2 i kept) := vSm_t hs vSm_sw
      have h9 := ih q (i + 1) (kept + 1) m3 (swP V2 i kept) h3.2.1 h3.1 (vG_sm hs3 hG) (by rw [hs3.2.2.2.1, hP, show i + (k + 1) = i + 1 + k from by omega]) (by omega) (by omega) (by omega)
      have e1 : sg (swP V2 i kept) (i + 1) k = sg V (i + 1) k := sg_c (fun q a1 a2 => by
        have : swP V2 i kept 18 q = V2 18 q := by
          funext k
          show (if 18 = 18 then (if q = i then V2 18 kept k else if q = kept then V2 18 i k else V2 18 q k) else V2 18 q k) = _
          rw [if_pos rfl, if_neg (by omega), if_neg (by omega)]
        rw [this, ho q (by omega)])
      have e2 : sg (swP V2 i kept) 0 (kept + 1) = sg V 0 kept ++ [r'] := by
        rw [sg_a]
        have g1 : sg (swP V2 i kept) 0 kept = sg V 0 kept := sg_c (fun q a1 a2 => by
          have : swP V2 i kept 18 q = V2 18 q := by
            funext k
            show (if 18 = 18 then (if q = i then V2 18 kept k else if q = kept then V2 18 i k else V2 18 q k) else V2 18 q k) = _
            rw [if_pos rfl, if_neg (by omega), if_neg (by omega)]
          rw [this, ho q (by omega)])
        rw [g1, sg_1, Nat.zero_add]
        have g2 : swP V2 i kept 18 kept = r' := by
          funext k
          show (if 18 = 18 then (if kept = i then V2 18 kept k else if kept = kept then V2 18 i k else V2 18 kept k) else V2 18 kept k) = _
          rw [if_pos rfl, ← hr]
          by_cases z : kept = i
          · rw [if_pos z, z]
          · rw [if_neg z, if_pos rfl]
        rw [g2]
      have e3 : er (swP V2 i kept) = er E' := by rw [er_sw, he]
      rw [e1, e2, e3] at h9
      refine fE_w h9 (fun _ m' ⟨V', a1, a2, a3⟩ => ⟨V', mS_tr (mS_tr h2 h3) a1, ?_, ?_⟩)
      · rw [sg_S, mvP_c, er_gP, hg, a2]
        dsimp only
        rw [if_pos rfl, List.length_cons, show kept + 1 + (mvP (er E') (sg V (i + 1) k)).1.length = kept + ((mvP (er E') (sg V (i + 1) k)).1.length + 1) from by omega]
      · rw [sg_S, mvP_c, er_gP, hg]
        dsimp only
        rw [if_pos rfl, List.length_cons, show kept + ((mvP (er E') (sg V (i + 1) k)).1.length + 1) = kept + 1 + (mvP (er E') (sg V (i + 1) k)).1.length from by omega, a3, List.append_assoc]
        rfl
    by_cases e : 0 < V 18 i 6 - 1
    · refine fE_p e ?_
      refine rest m1 _ (pm_up (V 18 i) 6 (V 18 i 6 - 1)) V (mI_S h1) vSm_R er_sR sR_r (fun q hq => by funext k; exact if_neg (fun z => hq z.2)) ?_
      unfold gP
      rw [if_pos e]
    · refine fE_n e ?_
      have h2 := c_goesOn hS h1.2.1 h1.1 hG1 hi
      rw [h1.2.2.2, sR_r] at h2
      refine fE_be h2 (fun x m2 ⟨ex, h3⟩ => ?_)
      subst ex
      have hgP : gP V (V 18 i) = gO V (pm_up (V 18 i) 6 (V 18 i 6 - 1)) := by
        unfold gP
        rw [if_neg e]
      obtain ⟨r1, hr1⟩ : ∃ r1, r1 = pm_up (V 18 i) 6 (V 18 i 6 - 1) := ⟨_, rfl⟩
      rw [← hr1] at h3 hgP h1
      have A := er_gO (V := sR V i r1) (r := r1)
      have B := er_gO (V := V) (r := r1)
      rw [er_sR, B] at A
      injection A with A1 A23
      injection A23 with A2 A3
      have hs2 : vSm V (sR (gO (sR V i r1) r1).2.2 i (gO (sR V i r1) r1).2.1) := vSm_t vSm_R (vSm_t (vSm_k k89_gO) vSm_R)
      have he2 : er (sR (gO (sR V i r1) r1).2.2 i (gO (sR V i r1) r1).2.1) = er (gO V r1).2.2 := by rw [er_sR, ← A3]
      have ho2 : ∀ q, q ≠ i → sR (gO (sR V i r1) r1).2.2 i (gO (sR V i r1) r1).2.1 18 q = V 18 q := fun q hq => by
        funext k
        rw [sR_at, if_neg (fun z => hq z.2), k89_gO 18 q k (by decide) (by decide), sR_at, if_neg (fun z => hq z.2)]
      rw [← hr1, ← A1]
      cases hb : (gO V r1).1 with
      | true =>
        refine fE_n (by decide) ?_
        refine rest m2 _ (gO V r1).2.1 (gO V r1).2.2 (mI_S (mI_tr h1 h3)) hs2 he2 (by rw [sR_r, ← A2]) ho2 ?_
        rw [hgP, ← hb]
      | false =>
        refine fE_p (by decide) ?_
        have h9 := ih q (i + 1) kept m2 _ h3.2.1 h3.1 (vG_sm hs2 hG) (by rw [hs2.2.2.2.1, hP, show i + (k + 1) = i + 1 + k from by omega]) (by omega) (by omega) (by omega)
        rw [he2, sg_c (fun q a1 a2 => ho2 q (by omega)), sg_c (fun q a1 a2 => ho2 q (by omega))] at h9
        refine fE_w h9 (fun _ m' ⟨V', a1, a2, a3⟩ => ⟨V', mS_tr (mI_S (mI_tr h1 h3)) a1, ?_, ?_⟩)
        · rw [sg_S, mvP_c, er_gP, hgP, hb, a2]
          dsimp only
          rw [if_neg (by decide)]
        · rw [sg_S, mvP_c, er_gP, hgP, hb]
          dsimp only
          rw [if_neg (by decide), a3]
theorem c_movePackets (hS : kS H s) (hp : pS m s) (hV : cv m s = V) (hG : vG V) : fE (f_X7_movePackets H s m) (fun _ m' => ∃ V', mS s m m' V' ∧ er V' = uV (mvP (er V) (sg V 0 (eP V))).2 0 0 6 (ii ((mvP (er V) (sg V 0 (eP V))).1.length : Nat)) ∧ sg V' 0 (mvP (er V) (sg V 0 (eP V))).1.length = (mvP (er V) (sg V 0 (eP V))).1) := by
  have hP := hG.2.2.2.1
  have h60 := hG.2.2.2.2.1.2.2.2
  have h := c_movePackets_l hS (eP V) fm_N 0 0 m V hp hV hG (by rw [Nat.zero_add]; exact hP) (by omega) (by omega) (by unfold fm_N; omega)
  rw [Nat.zero_add] at h
  exact h
end
