/-! the class begins to move a circuit -/
/-- a way's ends are the circuit's -/
def endV (V : VV) (i n : Nat) (N : Nat → Int32) : Bool := decide (2 ≤ n) && (decide (N 0 = V 11 i 0) && decide (N (n - 1) = V 11 i (eA V i - 1)))
def sameV (V : VV) (i n : Nat) (N : Nat → Int32) : Bool := decide (eA V i = n) && na (fun k => decide (V 11 i k = N k)) 0 (eA V i)
def mvB (V : VV) (i n : Nat) (N L : Nat → Int32) : VV := cpV V i 1 (nn n) N L
def mvV (V : VV) (i n : Nat) (N L : Nat → Int32) : Int32 × VV := if V 9 i 2 ≠ 0 then (2, V) else if endV V i n N = false then (3, V) else if sameV V i n N = true then (4, V) else
  if na (fun k => hr V (eL V) (eK V) (eA V) (eB V) (L k).toInt (V 9 i 0) (nn i)) 1 (n - 1) = false then (5, V) else
  if (tlE (mvB V i n N L) i 1 1 (n - 1)).1 = false then (6, uV (gvL (tlE (mvB V i n N L) i 1 1 (n - 1)).2 i 1 1 (n - 1)) 14 i 0 0) else
  (0, uV (uV (tlE (mvB V i n N L) i 1 1 (n - 1)).2 9 i 2 1) 9 i 10 (nn (n - 1)))
theorem tl_o {i c : Nat} : ∀ {r j : Nat} {V : VV} {kd a k : Nat}, kd ≠ 5 → kd ≠ 6 → kd ≠ 7 → ¬ (kd = 13 + 4 * c ∧ a = i) → (tlE V i c j r).2 kd a k = V kd a k := by
  intro r
  induction r with
  | zero => exact fun _ _ _ _ => rfl
  | succ r ih =>
    intro j V kd a k h5 h6 h7 h
    rw [tlE_S]
    split
    · rfl
    · rw [ih h5 h6 h7 h, taE_o h5 h6 h7 (by omega)]
section
variable {H : fm_H} {s : Nat} {m : fm_M} {V : VV}
theorem c_isCircuitN (hV : cv m s = V) (hG : vG V) {i : Nat} (hi : i < eK V) : f_X7_isCircuit H s (nn i) m = some (1, m) := by
  have hK8 := hG.2.2.2.2.1.2.2.1
  rw [show (nn i : Int32) = ii (i : Int) from rfl, c_isCircuit hV hG (by omega) (by omega), decide_eq_true (by omega)]
  rfl
theorem c_hasEndsOf (hS : kS H s) (hp : pS m s) (hV : cv m s = V) (hG : vG V) {w n i : Nat} (hw : kW H w) (hn : m.1 w 0 = nn n) (h6 : n ≤ 6) (hi : i < 8) (hA : 2 ≤ eA V i) : f_X0_hasEndsOf H (m.2.1 (s + 26) i) w m = some (bi (endV V i n (m.1 (w + 1))), m) := by
  have hwo := pS_wo hS hp hi
  have hA0 := hG.2.2.2.2.2.2.1 i hi
  have hno : m.1 (m.2.1 (m.2.1 (s + 26) i) 13) 0 = ii (eA V i) := (rd10 hV hi 0).trans hA0.1
  unfold f_X0_hasEndsOf endV
  rw [hn, nl_2]
  by_cases e1 : n < 2
  · rw [if_pos ((nn_lt (by omega) (by omega)).mpr e1), decide_eq_false (by omega), Bool.false_and]
    rfl
  · rw [if_neg (fun z => e1 ((nn_lt (by omega) (by omega)).mp z)), decide_eq_true (by omega), Bool.true_and, show (0 : Int32) = ii ((0 : Nat) : Int) from ii_0, c_nodeAtN hw hn h6 (by omega), fb_n, if_pos (kW_b hwo), c_nodeAtN hwo hno hA0.2 (by omega), fb_n, rd11 hV hi]
    by_cases e2 : m.1 (w + 1) 0 = V 11 i 0
    · rw [if_pos e2, decide_eq_true e2, Bool.true_and, c_lastNode hw hn h6, fb_n, if_pos (kW_b hwo), c_lastNode hwo hno hA0.2, fb_n, if_neg (show ¬ n = 0 by omega), if_neg (show ¬ eA V i = 0 by omega), rd11 hV hi]
      by_cases e3 : m.1 (w + 1) (n - 1) = V 11 i (eA V i - 1)
      · rw [if_pos e3, decide_eq_true e3]
        rfl
      · rw [if_neg e3, decide_eq_false e3]
        rfl
    · rw [if_neg e2, decide_eq_false e2, Bool.false_and]
      rfl
theorem c_sameV (hS : kS H s) (hp : pS m s) (hV : cv m s = V) (hG : vG V) {w n i : Nat} (hw : kW H w) (hn : m.1 w 0 = nn n) (h6 : n ≤ 6) (hi : i < 8) : f_X10_isSameAs H (m.2.1 (m.2.1 (s + 26) i) 13) w m = some (bi (sameV V i n (m.1 (w + 1))), m) := by
  have hwo := pS_wo hS hp hi
  have hA0 := hG.2.2.2.2.2.2.1 i hi
  have hno : m.1 (m.2.1 (m.2.1 (s + 26) i) 13) 0 = ii (eA V i) := (rd10 hV hi 0).trans hA0.1
  rw [c_isSameAs hwo hw hno hA0.2 hn h6, show m.1 (m.2.1 (m.2.1 (s + 26) i) 13 + 1) = V 11 i from funext (rd11 hV hi)]
  rfl
theorem c_moveAlong (hS : kS H s) (hp : pS m s) (hV : cv m s = V) (hG : vG V) {w n i : Nat} (hi : i < eK V) (hA : 2 ≤ eA V i) (hw : kW H w) (hd : w + 4 ≤ s ∨ s + 160 ≤ w) (hn : m.1 w 0 = nn n) (h6 : n ≤ 6) (hnd : ∀ k, k < n → ∃ x, x < 10 ∧ m.1 (w + 1) k = nn x) {br : Nat} (hb : V 0 0 7 = nn br) (hbr : br < 1000) : fE (f_X7_moveAlong H s (nn i) w m) (fun r m' => r = (mvV V i n (m.1 (w + 1)) (m.1 (w + 2))).1 ∧ mI s m m' (mvV V i n (m.1 (w + 1)) (m.1 (w + 2))).2) := by
  have hK8 : eK V ≤ 8 := hG.2.2.2.2.1.2.2.1
  have hi8 : i < 8 := by omega
  have z0 := mI_rf hp hV
  unfold f_X7_moveAlong mvV
  rw [c_isCircuitN hV hG hi, fb_n, if_neg (by decide), kS_3 hS, kS_z26 hS, nn_tn (by omega)]
  refine fE_p ((nn_in (by omega)).mpr hi8) (fE_p (pS_cb hS hp hi8) ?_)
  rw [rd9 hV hi8]
  by_cases e1 : V 9 i 2 = 0
  · rw [if_pos e1, if_neg (show ¬ (V 9 i 2 ≠ 0) from fun h => h e1), c_hasEndsOf hS hp hV hG hw hn h6 hi8 hA, fb_n]
    cases e2 : endV V i n (m.1 (w + 1)) with
    | false =>
      rw [it_ff]
      exact fE_p (by decide) (fE_ret ⟨rfl, z0⟩)
    | true =>
      rw [it_tf]
      refine fE_n (by decide) (fE_p (kW_b (pS_wo hS hp hi8)) ?_)
      rw [c_sameV hS hp hV hG hw hn h6 hi8, fb_n]
      cases e3 : sameV V i n (m.1 (w + 1)) with
      | true =>
        rw [it_tt]
        exact fE_n (by decide) (fE_ret ⟨rfl, z0⟩)
      | false =>
        rw [it_ft]
        refine fE_p (by decide) ?_
        rw [rd9 hV hi8]
        refine fE_bn (c_hasRoomAlong hS hp hV hG hw hn h6 (V 9 i 0) (nn i)) ?_
        cases e4 : na (fun k => hr V (eL V) (eK V) (eA V) (eB V) (m.1 (w + 2) k).toInt (V 9 i 0) (nn i)) 1 (n - 1) with
        | false =>
          rw [it_ff]
          exact fE_p (by decide) (fE_ret ⟨rfl, z0⟩)
        | true =>
          rw [it_tf]
          refine fE_n (by decide) (fE_p (kW_b (pS_wf hS hp hi8)) ?_)
          have hwa : kW H (wA m s (10 + 4 * 1) i) := wA_k hS hp hi8
          have hr1 := wA_d (m := m) (s := s) (b := 10 + 4 * 1) (c := i) (j := 0) (Or.inr rfl) hi8 (by omega)
          have hr2 := wA_d (m := m) (s := s) (b := 10 + 4 * 1) (c := i) (j := 3) (Or.inr rfl) hi8 (by omega)
          have a1 := ad_r hp hr1.2
          have a2 := ad_r hp hr2.2
          rw [hr1.1] at a1
          rw [hr2.1] at a2
          have q := c_copyNodes (m := m) hwa hw (by omega)
          have h3 := mI_cp hp z0 (i := i) (c := 1) (w1 := w) hi8 (by omega)
          rw [hn] at h3
          refine fE_bn q ?_
          generalize hm3 : cpj m (wA m s (10 + 4 * 1) i) w 6 = m3 at h3
          rw [h3.2.2.2]
          refine fE_p (kW_b (pS_wf hS hp hi8)) ?_
          change mI s m m3 (mvB V i n (m.1 (w + 1)) (m.1 (w + 2))) at h3
          have hGB : vG (mvB V i n (m.1 (w + 1)) (m.1 (w + 2))) := vG_cp hG (by omega) h6
          have hE0 : (mvB V i n (m.1 (w + 1)) (m.1 (w + 2))) (10 + 4 * 1) i 0 = nn n := cpV_0
          refine fE_be (Q1 := fun r m' => (r = 1 ∧ (tlE (mvB V i n (m.1 (w + 1)) (m.1 (w + 2))) i 1 1 (n - 1)).1 = true ∧ mI s m m' (tlE (mvB V i n (m.1 (w + 1)) (m.1 (w + 2))) i 1 1 (n - 1)).2) ∨ (r = 0 ∧ (tlE (mvB V i n (m.1 (w + 1)) (m.1 (w + 2))) i 1 1 (n - 1)).1 = false ∧ mI s m m' (gvL (tlE (mvB V i n (m.1 (w + 1)) (m.1 (w + 2))) i 1 1 (n - 1)).2 i 1 1 (n - 1)))) (c_takeLabels hS hp h3 hGB (i := i) (c := 1) (n := n) (br := br) hi8 (by omega) ((cpV_o (by omega)).trans hb) hbr hE0 h6 (fun k hk => ?_) (fun m' h1 h2 => Or.inl ⟨rfl, h1, h2⟩) (fun m' h1 h2 => Or.inr ⟨rfl, h1, h2⟩)) (fun r m4 h4 => ?_)
          · obtain ⟨z, z1, z2⟩ := hnd k hk
            exact ⟨z, z1, (cpV_1 (by omega)).trans z2⟩
          · rcases h4 with ⟨rfl, t1, h4⟩ | ⟨rfl, t1, h4⟩
            · rw [if_neg (by decide), t1, it_tf]
              refine fE_put h4 9 i 2 (v9 hi8) rfl (fun m5 h5 => ?_)
              rw [h5.2.2.2]
              refine fE_p (kW_b (pS_wf hS hp hi8)) ?_
              have e5 : m5.1 (m.2.1 (m.2.1 (s + 26) i) 14) 0 = nn n := by
                refine (mI_rd h5 14 i 0 (v14 hi8) rfl).trans ?_
                rw [uV_k (by omega), tl_o (by omega) (by omega) (by omega) (by omega)]
                exact hE0
              have hen : 2 ≤ n := by
                unfold endV at e2
                rw [Bool.and_eq_true] at e2
                exact of_decide_eq_true e2.1
              rw [e5, nl_1, nn_sub (by omega)]
              refine fE_put h5 9 i 10 (v9 hi8) rfl (fun m6 h6 => fE_ret ⟨rfl, h6⟩)
            · rw [if_pos rfl, t1, it_ff, h4.2.2.2]
              refine fE_p (kW_b (pS_wf hS hp hi8)) ?_
              unfold f_X10_erase
              rw [fb_d, fb_n]
              exact fE_ret ⟨rfl, mI_u h4 14 i 0 (x := (0 : Int32)) (v14 hi8) rfl⟩
  · rw [if_neg e1, if_pos e1]
    exact fE_ret ⟨rfl, z0⟩
end
theorem er_mv {V : VV} {i n : Nat} {N L : Nat → Int32} : mvV (er V) i n N L = ((mvV V i n N L).1, er (mvV V i n N L).2) := by
  have eb : er (mvB V i n N L) = mvB (er V) i n N L := er_cp (by decide)
  unfold mvV
  rw [show er V 9 i 2 = V 9 i 2 from rfl, show er V 9 i 0 = V 9 i 0 from rfl, show endV (er V) i n N = endV V i n N from rfl, show sameV (er V) i n N = sameV V i n N from rfl, show eK (er V) = eK V from rfl, show eL (er V) = eL V from rfl, show eA (er V) = eA V from rfl, show eB (er V) = eB V from rfl, er_na, ← eb, er_tl.1, er_tl.2]
  split
  · rfl
  · split
    · rfl
    · split
      · rfl
      · split
        · rfl
        · split
          · rw [er_uV (by decide), er_gvL]
          · rw [er_uV (by decide), er_uV (by decide)]
theorem mv_18 {V : VV} {i n : Nat} {N L : Nat → Int32} {q k : Nat} : (mvV V i n N L).2 18 q k = V 18 q k := by
  have e : mvB V i n N L 18 q k = V 18 q k := cpV_o (by omega)
  unfold mvV
  split
  · rfl
  · split
    · rfl
    · split
      · rfl
      · split
        · rfl
        · split
          · dsimp only
            rw [uV_k (by decide), gvL_o (by decide) (by omega), tl_18, e]
          · dsimp only
            rw [uV_k (by decide), uV_k (by decide), tl_18, e]
section
variable {H : fm_H} {s : Nat} {m : fm_M}
theorem c_moveS (hS : kS H s) {E : VV} {l : List (Nat → Int32)} (ha : aS m s E l) (hI : iG E l) {w n i : Nat} (hi : i < eK E) (hw : kW H w) (hd : w + 4 ≤ s ∨ s + 160 ≤ w) (hn : m.1 w 0 = nn n) (h6 : n ≤ 6) (hnd : ∀ k, k < n → ∃ x, x < 10 ∧ m.1 (w + 1) k = nn x) (e3 : (mvV E i n (m.1 (w + 1)) (m.1 (w + 2))).2 0 0 6 = E 0 0 6) (hG : vG (mvV E i n (m.1 (w + 1)) (m.1 (w + 2))).2) : fE (f_X7_moveAlong H s (nn i) w m) (fun r m' => r = (mvV E i n (m.1 (w + 1)) (m.1 (w + 2))).1 ∧ aS m' s (mvV E i n (m.1 (w + 1)) (m.1 (w + 2))).2 l ∧ fr s (s + 160) m m' ∧ m'.2.1 = m.2.1) := by
  obtain ⟨br, b1, b2⟩ := hI.2.2.2.2.2.1
  have eE := ha.2.1
  have hGV : vG (cv m s) := by
    have := ha.2.2.2.2.2
    rw [← eE] at this
    exact this
  have b3 : cv m s 0 0 7 = nn br := by
    rw [← b2, ← eE]
    rfl
  have hA : 2 ≤ eA (cv m s) i := by
    have := (hI.1.2.2.2.1 i hi).1
    rw [← eE] at this
    exact this
  have hi' : i < eK (cv m s) := by
    rw [← eE] at hi
    exact hi
  refine fE_w (c_moveAlong hS ha.1 rfl hGV hi' hA hw hd hn h6 hnd b3 (by omega)) (fun r m' h => ?_)
  have q := er_mv (V := cv m s) (i := i) (n := n) (N := m.1 (w + 1)) (L := m.1 (w + 2))
  rw [eE] at q
  refine ⟨by rw [q]; exact h.1, aS_mI ha rfl h.2 (by rw [q]) (fun q k => mv_18) e3 hG, h.2.2.2.1, h.2.2.2.2⟩
end
