/-! a move is aborted -/
def abE (E : VV) (i : Nat) : VV := uV (uV (uV (uV (gvL E i 1 1 (eB E i - 1)) 14 i 0 0) 9 i 2 0) 9 i 10 0) 8 0 6 (E 8 0 6 + 1)
theorem abE_o {E : VV} {i kd a k : Nat} (h5 : kd ≠ 5) (h : ¬ (a = i ∧ (kd = 14 ∨ kd = 17 ∨ (kd = 9 ∧ (k = 2 ∨ k = 10))))) (h8 : ¬ (kd = 8 ∧ k = 6)) : abE E i kd a k = E kd a k := by
  unfold abE
  rw [uV_at, if_neg (by omega), uV_at, if_neg (by omega), uV_at, if_neg (by omega), uV_at, if_neg (by omega), gvL_o h5 (by omega)]
theorem er_ab {V : VV} {i : Nat} : er (abE V i) = abE (er V) i := by
  unfold abE
  rw [er_uV (by decide), er_uV (by decide), er_uV (by decide), er_uV (by decide), er_gvL]
  rfl
/-- the labels of the new way are free, the others are as they were -/
theorem ab_5 {E : VV} {i t : Nat} (ht : t < 120) (hX : iX E) (hK8 : eK E ≤ 8) (hi : i < eK E) : (abE E i 5 0 t = -1 ∧ ((∃ k, 1 ≤ k ∧ k < eB E i ∧ E 17 i k = nn t) ∨ E 5 0 t = -1)) ∨ (abE E i 5 0 t = E 5 0 t ∧ E 5 0 t ≠ -1 ∧ ∀ k, 1 ≤ k → k < eB E i → E 17 i k ≠ nn t) := by
  have e : abE E i 5 0 t = gvL E i 1 1 (eB E i - 1) 5 0 t := by
    unfold abE
    rw [uV_k (by omega), uV_k (by omega), uV_k (by omega), uV_k (by omega)]
  rw [e]
  by_cases h : E 5 0 t = -1
  · exact Or.inl ⟨gvL_5z ht h, Or.inr h⟩
  · obtain ⟨a, c, k, b1, b2, b3, b4, b5⟩ := hX.1.2.1 t ht h
    by_cases q : a = i ∧ c = 1
    · obtain ⟨rfl, rfl⟩ := q
      have h4 : k < eB E a := b4
      exact Or.inl ⟨gvL_5y ht (k := k) b3 (by omega) b5, Or.inl ⟨k, b3, h4, b5⟩⟩
    · have nk : ∀ k, 1 ≤ k → k < eB E i → E 17 i k ≠ nn t := fun k' k1 k2 z => by
        have := iT_o hX.1 hK8 b1 b2 b3 b4 ht b5 hi (c' := 1) (by omega) k1 k2 z
        omega
      exact Or.inr ⟨gvL_5n ht (fun k' k1 k2 => nk k' k1 (by omega)), h, nk⟩
theorem ab_iG {E : VV} {l : List (Nat → Int32)} {i : Nat} (hI : iG E l) (hi : i < eK E) (p1 : E 9 i 2 = 1) : iG (abE E i) l := by
  obtain ⟨⟨hG, hX, v3, v4, v5, v6⟩, g2, g3, g4, g5, s1, s2, s3, s4, s5⟩ := hI
  have hK8 := hG.2.2.2.2.1.2.2.1
  have nK : eK (abE E i) = eK E := by unfold eK; rw [abE_o (by omega) (by omega) (by omega)]
  have nN : eN (abE E i) = eN E := by unfold eN; rw [abE_o (by omega) (by omega) (by omega)]
  have nL : eL (abE E i) = eL E := by unfold eL; rw [abE_o (by omega) (by omega) (by omega)]
  have nZ : ∀ f, eZ (abE E i) f = eZ E f := fun f => by unfold eZ; rw [abE_o (by omega) (by omega) (by omega)]
  have nA : ∀ a, eA (abE E i) a = eA E a := fun f => by unfold eA; rw [abE_o (by omega) (by omega) (by omega)]
  have e14 : abE E i 14 i 0 = nn 0 := by
    unfold abE
    rw [uV_k (by omega), uV_k (by omega), uV_k (by omega)]
    exact uV_s
  have nB0 : eB (abE E i) i = 0 := eW_1 e14 (by omega)
  have nW : ∀ a c, c < 2 → ¬ (a = i ∧ c = 1) → eW (abE E i) a c = eW E a c := fun a c hc h => by
    rcases (show c = 0 ∨ c = 1 by omega) with e | e <;> subst e
    · exact nA a
    · unfold eW eB
      rw [if_neg (by decide), if_neg (by decide), abE_o (by omega) (by omega) (by omega)]
  have nlk : ∀ x y, lkE (abE E i) x y = lkE E x y := fun x y => by
    unfold lkE
    rw [nL]
    exact fi_c (fun j _ _ => by rw [abE_o (by omega) (by omega) (by omega), abE_o (by omega) (by omega) (by omega)])
  have n5 : ∀ t, t < 120 → abE E i 5 0 t ≠ -1 → abE E i 5 0 t = E 5 0 t ∧ E 5 0 t ≠ -1 := fun t ht h => by
    rcases ab_5 ht hX hK8 hi with ⟨q, -⟩ | ⟨q1, q2, -⟩
    · exact absurd q h
    · exact ⟨q1, q2⟩
  have W1 : eW (abE E i) i 1 = 0 := nB0
  have hT : iT (abE E i) (eK (abE E i)) (eW (abE E i)) := by
    rw [nK]
    have ne : ∀ a c k, k < eW (abE E i) a c → c < 2 → ¬ (a = i ∧ c = 1) := fun a c k hk hc h => by
      rw [h.1, h.2, W1] at hk
      omega
    refine ⟨fun a c k t a1 a2 a3 a4 a5 a6 => ?_, fun t t1 t2 => ?_, fun a c k c' k' t a1 a2 a3 a4 a5 a6 a7 a8 a9 a10 => ?_⟩
    · have h := ne a c k a4 a2
      rw [nW a c a2 h] at a4
      rw [abE_o (by omega) (by omega) (by omega)] at a6
      have q := hX.1.1 a c k t a1 a2 a3 a4 a5 a6
      rcases ab_5 a5 hX hK8 hi with ⟨_, ⟨k', k1, k2, k3⟩ | r⟩ | ⟨r1, r2, -⟩
      · have := iT_o hX.1 hK8 a1 a2 a3 a4 a5 a6 hi (c' := 1) (by omega) k1 k2 k3
        omega
      · exact absurd r q.2.2
      · rw [r1, abE_o (by omega) (by omega) (by omega), abE_o (by omega) (by omega) (by omega)]
        exact q
    · obtain ⟨r1, r2⟩ := n5 t t1 t2
      obtain ⟨a, c, k, b1, b2, b3, b4, b5⟩ := hX.1.2.1 t t1 r2
      have h : ¬ (a = i ∧ c = 1) := fun z => by
        obtain ⟨rfl, rfl⟩ := z
        rcases ab_5 t1 hX hK8 hi with ⟨q, -⟩ | ⟨_, _, q3⟩
        · exact t2 q
        · exact q3 k b3 b4 b5
      exact ⟨a, c, k, b1, b2, b3, by rw [nW a c b2 h]; exact b4, by rw [abE_o (by omega) (by omega) (by omega)]; exact b5⟩
    · have h := ne a c k a5 a2
      have h' := ne a c' k' a7 a3
      rw [nW a c a2 h] at a5
      rw [nW a c' a3 h'] at a7
      rw [abE_o (by omega) (by omega) (by omega)] at a9 a10
      exact hX.1.2.2 a c k c' k' t a1 a2 a3 a4 a5 a6 a7 a8 a9 a10
  refine ⟨⟨?_, ⟨hT, fun t t1 t2 => ?_, fun a ha c hc => ?_⟩, fun j hj => ?_, fun a ha => ?_, fun r hr => ?_, (abE_o (by omega) (by omega) (by omega)).trans v6⟩, fun x y hx hy => ?_, fun f y hf hy e => ?_, fun j hj => ?_, fun j hj => ?_, ?_, ?_, fun j hj => ?_, fun a ha => ?_, fun f f1 f2 => ?_⟩
  · refine vG_w hG (abE_o (by omega) (by omega) (by omega)) (abE_o (by omega) (by omega) (by omega)) (abE_o (by omega) (by omega) (by omega)) (abE_o (by omega) (by omega) (by omega)) (fun _ => abE_o (by omega) (by omega) (by omega)) (fun _ => Or.inl (abE_o (by omega) (by omega) (by omega))) (fun a => ?_)
    by_cases e : a = i
    · subst e
      exact Or.inr ⟨0, by omega, e14⟩
    · exact Or.inl (abE_o (by omega) (by omega) (by omega))
  · rw [abE_o (by omega) (by omega) (by omega)]
    exact hX.2.1 t t1 (n5 t t1 t2).2
  · rw [nK] at ha
    by_cases e : a = i ∧ c = 1
    · obtain ⟨rfl, rfl⟩ := e
      rw [W1]
      exact ⟨⟨fun k hk => by omega, fun k _ hk => by omega, fun k k' hk => by omega⟩, fun k k' _ _ hk => by omega⟩
    · rw [nW a c hc e]
      obtain ⟨w1, w2⟩ := hX.2.2 a ha c hc
      exact ⟨iWy_c (E := E) (i := a) (c := c) nN nlk (fun k => abE_o (by omega) (by omega) (by omega)) (fun k => abE_o (by omega) (by omega) (by omega)) w1, iHd_c (E := E) (i := a) (c := c) (fun k => abE_o (by omega) (by omega) (by omega)) w2⟩
  · rw [nL] at hj
    rw [abE_o (by omega) (by omega) (by omega)]
    exact v3 j hj
  · rw [nK] at ha
    by_cases e : a = i
    · subst e
      obtain ⟨q1, q2, q3, q4, q5⟩ := v4 a ha
      have e9 : ∀ k, k ≠ 2 → k ≠ 10 → abE E a 9 a k = E 9 a k := fun k h1 h2 => abE_o (by omega) (by omega) (by omega)
      have e92 : abE E a 9 a 2 = 0 := by
        unfold abE
        rw [uV_k (by omega), uV_p (by omega)]
        exact uV_s
      have e910 : abE E a 9 a 10 = 0 := by
        unfold abE
        rw [uV_k (by omega)]
        exact uV_s
      have e13 : ∀ k, abE E a 13 a k = E 13 a k := fun k => abE_o (by omega) (by omega) (by omega)
      rcases q5 with q | ⟨_, _, _, r9, r8, ro⟩ | q | q
      · rw [q.1] at p1; exact absurd p1 (by decide)
      · refine ⟨by rw [nA]; exact q1, by rw [e9 3 (by omega) (by omega)]; exact q2, fun k k1 k2 => by rw [nB0] at k2; omega, by rw [nA, e13]; exact q4, Or.inl ⟨e92, nB0, e910, by rw [e9 9 (by omega) (by omega)]; exact r9, by rw [e9 8 (by omega) (by omega)]; exact r8, fun k k1 k2 => by rw [nA] at k2; rw [e13]; exact ro k k1 k2⟩⟩
      · rw [q.1] at p1; exact absurd p1 (by decide)
      · rw [q.1] at p1; exact absurd p1 (by decide)
    · exact iQ_o (fun k => abE_o (by omega) (by omega) (by omega)) (abE_o (by omega) (by omega) (by omega)) (abE_o (by omega) (by omega) (by omega)) (fun k => abE_o (by omega) (by omega) (by omega)) (fun k => abE_o (by omega) (by omega) (by omega)) (v4 a ha)
  · obtain ⟨⟨q, q1, q2⟩, h2⟩ := v5 r hr
    exact ⟨⟨q, by rw [nK]; exact q1, q2⟩, h2⟩
  · rw [abE_o (by omega) (by omega) (by omega), nlk]
    exact g2 x y hx hy
  · rw [nZ]
    exact g3 f y hf hy (n5 _ (by omega) e).2
  · rw [nL] at hj
    rw [abE_o (by omega) (by omega) (by omega)]
    exact g4 j hj
  · rw [nL] at hj
    rw [nN, nlk, abE_o (by omega) (by omega) (by omega), abE_o (by omega) (by omega) (by omega)]
    exact g5 j hj
  · rw [abE_o (by omega) (by omega) (by omega)]
    exact s1
  · rw [abE_o (by omega) (by omega) (by omega)]
    exact s2
  · rw [nL] at hj
    rw [abE_o (by omega) (by omega) (by omega)]
    exact s3 j hj
  · rw [nK] at ha
    rw [abE_o (by omega) (by omega) (by omega)]
    exact s4 a ha
  · rw [nN] at f1
    rw [nZ]
    exact s5 f f1 f2
section
variable {H : fm_H} {s : Nat} {m : fm_M}
theorem c_abortMove (hS : kS H s) {V : VV} (hp : pS m s) (hV : cv m s = V) (hG : vG V) {i : Nat} (hi : i < eK V) : fE (f_X7_abortMove H s (nn i) m) (fun r m' => r = (if V 9 i 2 = 1 then 0 else 7) ∧ mI s m m' (if V 9 i 2 = 1 then abE V i else V)) := by
  have hK8 : eK V ≤ 8 := hG.2.2.2.2.1.2.2.1
  have hi8 : i < 8 := by omega
  have z0 := mI_rf hp hV
  unfold f_X7_abortMove
  rw [c_isCircuitN hV hG hi, fb_n, if_neg (by decide), kS_3 hS, kS_z26 hS, nn_tn (by omega)]
  refine fE_p ((nn_in (by omega)).mpr hi8) (fE_p (pS_cb hS hp hi8) ?_)
  rw [rd9 hV hi8]
  by_cases e : V 9 i 2 = 1
  · rw [if_pos e, if_pos e, if_pos e]
    refine fE_p ((nn_in (by omega)).mpr hi8) (fE_p (pS_cb hS hp hi8) (fE_p (kW_b (pS_wf hS hp hi8)) ?_))
    have hB0 := hG.2.2.2.2.2.2.2 i hi8
    refine fE_be (c_giveUpLabels hS hp z0 (i := i) (c := 1) hi8 (by omega) hB0.1 hB0.2) (fun _ m2 h2 => ?_)
    rw [h2.2.2.2]
    refine fE_p (kW_b (pS_wf hS hp hi8)) ?_
    unfold f_X10_erase
    rw [fb_d, fb_n]
    have h3 := mI_u h2 14 i 0 (x := (0 : Int32)) (v14 hi8) rfl
    refine fE_put h3 9 i 2 (v9 hi8) rfl (fun m4 h4 => ?_)
    refine fE_put h4 9 i 10 (v9 hi8) rfl (fun m5 h5 => ?_)
    rw [kS_2 hS, mI_8 h5, uV_k (by omega), uV_k (by omega), uV_k (by omega), gvL_o (by omega) (by omega)]
    exact fE_put h5 8 0 6 rfl rfl (fun m6 h6 => fE_ret ⟨rfl, h6⟩)
  · rw [if_neg e, if_neg e, if_neg e]
    exact fE_ret ⟨rfl, z0⟩
theorem c_abortS (hS : kS H s) {E : VV} {l : List (Nat → Int32)} (ha : aS m s E l) (hI : iG E l) {i : Nat} (hi : i < eK E) : fE (f_X7_abortMove H s (nn i) m) (fun r m' => r = (if E 9 i 2 = 1 then 0 else 7) ∧ aS m' s (if E 9 i 2 = 1 then abE E i else E) l ∧ fr s (s + 160) m m' ∧ m'.2.1 = m.2.1) := by
  have eE := ha.2.1
  have hGV : vG (cv m s) := by
    have := ha.2.2.2.2.2
    rw [← eE] at this
    exact this
  have hi' : i < eK (cv m s) := by
    rw [← eE] at hi
    exact hi
  refine fE_w (c_abortMove hS ha.1 rfl hGV hi') (fun r m' h => ?_)
  have e2 : cv m s 9 i 2 = E 9 i 2 := by rw [← eE]; rfl
  rw [e2] at h
  refine ⟨h.1, ?_, h.2.2.2.1, h.2.2.2.2⟩
  by_cases e : E 9 i 2 = 1
  · rw [if_pos e]
    rw [if_pos e, if_pos e] at h
    exact aS_mI ha rfl h.2 (by rw [er_ab, eE]) (fun q k => abE_o (by omega) (by omega) (by omega)) (abE_o (by omega) (by omega) (by omega)) (ab_iG hI hi e).1.1
  · rw [if_neg e]
    rw [if_neg e, if_neg e] at h
    exact aS_mI ha rfl h.2 eE (fun q k => rfl) rfl hI.1.1
end
