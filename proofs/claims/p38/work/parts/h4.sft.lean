/-! .. in moves and sendings: a tick loses nothing -/
theorem PKF_g {E E' : VV} {e e' : Nat → Nat} {r : Nat → Int32} {i c k u : Nat} (h1 : i < eK E') (h2 : c < 2) (h3 : 1 ≤ k) (h4 : k < eW E i c) (h5 : r 0 = nn i) (h6 : r 4 = E (11 + 4 * c) i k) (h7 : r 5 = E (13 + 4 * c) i k) (h8 : E (13 + 4 * c) i k ≠ -1) (h9 : r 6 = nn u) (h10 : 1 ≤ u) (h11 : u ≤ 1000) (h12 : u + rem E i c k + e i ≤ rem E i c 0)
    (hC : kC E E' i c) (s13 : E' (13 + 4 * c) i k = E (13 + 4 * c) i k) (he : e' i ≤ e i) (p1 : E' 9 i 2 = 0 ∨ E' 9 i 2 = 1 → c = 0) (p2 : E' 9 i 2 = 3 → c = 1) (p3 : E' 9 i 2 = 2 → c = 0 → ∀ d, E' 9 i 9 = nn d → d ≤ 100 → u + rem E i c k + 1 + e' i ≤ d) : PKF e' E' r := by
  have n11 := (hC.2.2.2 k h4).1
  refine ⟨i, c, k, u, h1, h2, h3, by rw [hC.2.2.1]; exact h4, h5, by rw [n11]; exact h6, by rw [s13]; exact h7, by rw [s13]; exact h8, h9, h10, h11, by rw [rem_k hC, rem_k hC]; omega, p1, p2, ?_⟩
  rw [rem_k hC]
  exact p3
theorem kC_o {E E' : VV} {i c : Nat} (hc : c < 2) (h1 : ∀ k, E' 1 0 k = E 1 0 k) (h3 : ∀ j k, E' 3 j k = E 3 j k) (h : ∀ kd k, 10 ≤ kd → kd ≤ 17 → kd ≠ 13 → kd ≠ 17 → E' kd i k = E kd i k) : kC E E' i c := by
  refine ⟨by unfold eL; rw [h1], fun j _ => h3 j 3, ?_, fun k _ => ⟨h _ _ (by omega) (by omega) (by omega) (by omega), h _ _ (by omega) (by omega) (by omega) (by omega)⟩⟩
  unfold eW eA eB
  rw [h 10 0 (by omega) (by omega) (by omega) (by omega), h 14 0 (by omega) (by omega) (by omega) (by omega)]
theorem mC_7 {E : VV} {j t : Nat} (h : E 7 0 t = 1) : mC E j 7 0 t = 1 := by
  have gu : ∀ x : Int32, guE E x 7 0 t = 1 := fun x => by rw [guE_o (by omega)]; exact h
  unfold mC
  split
  · unfold buE
    split
    · split
      · rw [uV_k (by omega), uV_k (by omega), uV_k (by omega)]; exact h
      · rw [uV_k (by omega), uV_k (by omega)]; exact h
    · rw [uV_k (by omega)]
      unfold mkE
      split
      · rw [uV_at]
        split
        · rfl
        · exact h
      · exact h
  · split
    · unfold drE
      split
      · rw [uV_k (by omega)]; exact h
      · rw [uV_k (by omega), uV_k (by omega)]; exact h
    · split
      · have cl : clF E j 7 0 t = 1 := by rw [cl_at (by omega) (by omega)]; exact h
        unfold clE
        split
        · exact cl
        · rw [uV_k (by omega), uV_k (by omega), uV_k (by omega), twV_o (by omega)]
          exact cl
      · exact h
/-- what a move's tick is, by its phase -/
theorem mC_is {E : VV} {j : Nat} (hX : iX E) (hS : hS0 E) (hG : vG E) (hj : j < eK E) (hQ : iQ E j 0) :
    (E 9 j 2 = 0 ∧ mC E j = E) ∨
    (E 9 j 2 = 1 ∧ ∃ u t, 1 ≤ u ∧ u < eB E j ∧ t < 120 ∧ E 9 j 10 = nn u ∧ E 17 j u = nn t ∧ mC E j = uV (uV E 7 0 t 1) 9 j 10 (nn (u - 1))) ∨
    (E 9 j 2 = 1 ∧ E 9 j 10 = 0 ∧ ∃ h, mC E j = uV (uV (uV E 9 j 2 2) 9 j 9 (dlO E j)) 9 j 8 h) ∨
    (E 9 j 2 = 2 ∧ ∃ d, 2 ≤ d ∧ d ≤ 100 ∧ E 9 j 9 = nn d ∧ mC E j = uV E 9 j 9 (nn (d - 1))) ∨
    (E 9 j 2 = 2 ∧ E 9 j 9 = nn 1 ∧ mC E j = uV (uV E 9 j 9 0) 9 j 2 3) ∨
    (E 9 j 2 = 3 ∧ ∃ x t, 1 ≤ x ∧ x < eA E j ∧ t < 120 ∧ E 13 j x = nn t ∧ mC E j = gvE E j x t) ∨
    (E 9 j 2 = 3 ∧ ∃ x t y, 1 ≤ x ∧ x < eA E j ∧ t < 120 ∧ E 13 j x = nn t ∧ mC E j = uV (tkN (gvE E j x t) j) 8 0 5 y) := by
  have hK8 := hG.2.2.2.2.1.2.2.1
  have sl := hS_sl hS hj
  obtain ⟨q1, q2, q3, q4, q5⟩ := id hQ
  rcases q5 with ⟨a1, -⟩ | ⟨a1, a2, ⟨u, u1, u2⟩, a4, a5, a6⟩ | ⟨a1, a2, a3, ⟨d, h, d1, d2, d3, d4, d5⟩, a5⟩ | ⟨a1, a2, a3, a4, a5⟩
  · refine Or.inl ⟨a1, ?_⟩
    unfold mC
    rw [a1, if_neg (by decide), if_neg (by decide), if_neg (by decide)]
  · by_cases u0 : u = 0
    · subst u0
      refine Or.inr (Or.inr (Or.inl ⟨a1, u2, ?_⟩))
      exact ⟨_, mC_B a1 u2 a5⟩
    · refine Or.inr (Or.inl ⟨a1, ?_⟩)
      rcases sl 1 u (by omega) (by omega) (show u < eB E j from u1) with z | ⟨t, t1, t2⟩
      · exact absurd z (q3 u (by omega) u1)
      · obtain ⟨z, z1, z2⟩ := vG_B hG j (by omega)
        have h6 : eB E j ≤ 6 := by
          unfold eB
          rw [z2, nn_t (by omega)]
          omega
        exact ⟨u, t, by omega, u1, t1, u2, t2, mC_A a1 u2 (by omega) u1 h6 t1 t2⟩
  · by_cases d9 : d = 1
    · subst d9
      exact Or.inr (Or.inr (Or.inr (Or.inr (Or.inl ⟨a1, d4, mC_D a1 d4⟩))))
    · exact Or.inr (Or.inr (Or.inr (Or.inl ⟨a1, d, by omega, d2, d4, mC_C a1 d4 (by omega) d2⟩)))
  · obtain ⟨x, x1, x2, x3, x4, x5⟩ := fx_ex (hX.2.2 j hj 0 (by omega)).2 q1
    have xA : x < eA E j := by
      by_cases e : x = eA E j
      · exact absurd (x4 (eA E j - 1) (by omega) (by omega)) q4
      · omega
    rcases sl 0 x (by omega) x1 (show x < eA E j from xA) with z | ⟨t, t1, t2⟩
    · exact absurd z (x5 x (by omega) xA)
    · by_cases l : x + 1 < eA E j
      · exact Or.inr (Or.inr (Or.inr (Or.inr (Or.inr (Or.inl ⟨a1, x, t, x1, xA, t1, t2, mC_F a1 x3 l t1 t2⟩)))))
      · exact Or.inr (Or.inr (Or.inr (Or.inr (Or.inr (Or.inr ⟨a1, x, t, _, x1, xA, t1, t2, mC_G a1 x3 (by omega) t1 t2⟩)))))
theorem dlO_rem {E : VV} {j : Nat} (hX : iX E) (hL : iL E) (hL16 : eL E ≤ 16) (hj : j < eK E) : dlO E j = nn (rem E j 0 0) := dl_rem hX hL hL16 hj (c := 0) (by omega)
theorem mC_pk {E : VV} {j : Nat} (hG : vG E) (hX : iX E) (hL : iL E) (hS : hS0 E) (hj : j < eK E) (hQ : iQ E j 0) {e : Nat → Nat} (he : e j = 1) {r : Nat → Int32} (hp : PKF e E r) : PKF (fun i => if i = j then 0 else e i) (mC E j) r := by
  have hK8 := hG.2.2.2.2.1.2.2.1
  have hL16 := hG.2.2.2.2.1.2.1
  have nK : eK (mC E j) = eK E := eK_mC
  obtain ⟨i, c, k, u, a1, a2, a3, a4, a5, a6, a7, a8, a9, a10, a11, a12, a13, a14, a15⟩ := hp
  have o4 : ∀ kd q y, kd ≤ 4 → mC E j kd q y = E kd q y := fun kd q y h => mC_o h
  by_cases ij : i = j
  · subst ij
    rw [he] at a12 a15
    have E0 : (if i = i then 0 else e i) = 0 := if_pos rfl
    have eI : ∀ {z : Nat}, z ≤ 1 → z ≤ e i := fun h => by rw [he]; exact h
    have n23 : ¬ ((2 : Int32) = 3) := by decide
    rcases mC_is hX hS hG hj hQ with ⟨ph, em⟩ | ⟨ph, v, t, v1, v2, t1, e10, e17, em⟩ | ⟨ph, e10, h, em⟩ | ⟨ph, d, d1, d2, e9, em⟩ | ⟨ph, e9, em⟩ | ⟨ph, x, t, x1, x2, t1, e13, em⟩ | ⟨ph, x, t, y, x1, x2, t1, e13, em⟩
    · rw [em]
      refine PKF_g (e := e) (e' := fun x => if x = i then 0 else e x) a1 a2 a3 a4 a5 a6 a7 a8 a9 a10 a11 (by rw [he]; exact a12) ⟨rfl, fun _ _ => rfl, rfl, fun _ _ => ⟨rfl, rfl⟩⟩ rfl (by rw [E0]; omega) a13 a14 ?_
      intro z
      rw [ph] at z
      exact absurd z (by decide)
    · rw [em] at nK o4 ⊢
      have rw9 : ∀ k, k ≠ 10 → uV (uV E 7 0 t 1) 9 i 10 (nn (v - 1)) 9 i k = E 9 i k := fun k hk => by rw [uV_p hk, uV_k (by omega)]
      have rwk : ∀ kd k, 10 ≤ kd → uV (uV E 7 0 t 1) 9 i 10 (nn (v - 1)) kd i k = E kd i k := fun kd k hk => by rw [uV_k (by omega), uV_k (by omega)]
      refine PKF_g (e := e) (by rw [nK]; exact a1) a2 a3 a4 a5 a6 a7 a8 a9 a10 a11 (by rw [he]; exact a12) (kC_o (by omega) (fun k => o4 _ _ _ (by omega)) (fun j k => o4 _ _ _ (by omega)) (fun kd k h1 _ _ _ => rwk kd k h1)) (rwk _ _ (by omega)) (by rw [E0]; omega) (by rw [rw9 _ (by omega)]; exact a13) (by rw [rw9 _ (by omega)]; exact a14) ?_
      intro z
      rw [rw9 _ (by omega), ph] at z
      exact absurd z (by decide)
    · have c0 : c = 0 := a13 (Or.inr ph)
      subst c0
      rw [em] at nK o4 ⊢
      have rwk : ∀ kd k, 10 ≤ kd → uV (uV (uV E 9 i 2 2) 9 i 9 (dlO E i)) 9 i 8 h kd i k = E kd i k := fun kd k hk => by rw [uV_k (by omega), uV_k (by omega), uV_k (by omega)]
      have r2 : uV (uV (uV E 9 i 2 2) 9 i 9 (dlO E i)) 9 i 8 h 9 i 2 = 2 := by rw [uV_p (by omega), uV_p (by omega), uV_s]
      have r9 : uV (uV (uV E 9 i 2 2) 9 i 9 (dlO E i)) 9 i 8 h 9 i 9 = nn (rem E i 0 0) := by rw [uV_p (by omega), uV_s, dlO_rem hX hL hL16 hj]
      refine PKF_g (e := e) (by rw [nK]; exact a1) a2 a3 a4 a5 a6 a7 a8 a9 a10 a11 (by rw [he]; exact a12) (kC_o (by omega) (fun k => o4 _ _ _ (by omega)) (fun j k => o4 _ _ _ (by omega)) (fun kd k h1 _ _ _ => rwk kd k h1)) (rwk _ _ (by omega)) (by rw [E0]; omega) (fun _ => rfl) (fun z => by rw [r2] at z; exact absurd z (by decide)) ?_
      intro _ _ d z1 z2
      rw [r9] at z1
      obtain ⟨w, w1, w2⟩ := vG_A hG i (by omega)
      have h6 : eW E i 0 ≤ 6 := by
        show eA E i ≤ 6
        unfold eA
        rw [w2, nn_t (by omega)]
        omega
      have := rem_le hX hL hL16 hj (c := 0) (by omega) h6
      have := nn_e (by omega) (by omega) z1
      rw [E0]
      omega
    · rw [em] at nK o4 ⊢
      have rwk : ∀ kd k, 10 ≤ kd → uV E 9 i 9 (nn (d - 1)) kd i k = E kd i k := fun kd k hk => uV_k (by omega)
      have r2 : uV E 9 i 9 (nn (d - 1)) 9 i 2 = E 9 i 2 := uV_p (by omega)
      refine PKF_g (e := e) (by rw [nK]; exact a1) a2 a3 a4 a5 a6 a7 a8 a9 a10 a11 (by rw [he]; exact a12) (kC_o (by omega) (fun k => o4 _ _ _ (by omega)) (fun j k => o4 _ _ _ (by omega)) (fun kd k h1 _ _ _ => rwk kd k h1)) (rwk _ _ (by omega)) (by rw [E0]; omega) (by rw [r2]; exact a13) (by rw [r2]; exact a14) ?_
      intro _ c0 d' z1 z2
      rw [uV_s] at z1
      have := nn_e (by omega) (by omega) z1
      have := a15 ph c0 d e9 d2
      rw [E0]
      omega
    · have c1 : c = 1 := by
        rcases (show c = 0 ∨ c = 1 by omega) with z | z
        · have := a15 ph z 1 e9 (by omega)
          omega
        · exact z
      rw [em] at nK o4 ⊢
      have rwk : ∀ kd k, 10 ≤ kd → uV (uV E 9 i 9 0) 9 i 2 3 kd i k = E kd i k := fun kd k hk => by rw [uV_k (by omega), uV_k (by omega)]
      refine PKF_g (e := e) (by rw [nK]; exact a1) a2 a3 a4 a5 a6 a7 a8 a9 a10 a11 (by rw [he]; exact a12) (kC_o (by omega) (fun k => o4 _ _ _ (by omega)) (fun j k => o4 _ _ _ (by omega)) (fun kd k h1 _ _ _ => rwk kd k h1)) (rwk _ _ (by omega)) (by rw [E0]; omega) ?_ (fun _ => c1) (fun z => by rw [uV_s] at z; exact absurd z (by decide))
      rw [uV_s]
      rintro (z | z)
      · exact absurd z (by decide)
      · exact absurd z (by decide)
    · have c1 : c = 1 := a14 ph
      subst c1
      rw [em] at nK o4 ⊢
      refine PKF_g (e := e) (by rw [nK]; exact a1) a2 a3 a4 a5 a6 a7 a8 a9 a10 a11 (by rw [he]; exact a12) (kC_o (by omega) (fun k => o4 _ _ _ (by omega)) (fun j k => o4 _ _ _ (by omega)) (fun kd k h1 h2 h3 _ => gvE_o (by omega) h3)) (gvE_o (by omega) (by omega)) (by rw [E0]; omega) (by rw [gvE_o (by omega) (by omega)]; exact a13) (fun _ => rfl) ?_
      intro z
      rw [gvE_o (by omega) (by omega), ph] at z
      exact absurd z (by decide)
    · have c1 : c = 1 := a14 ph
      subst c1
      rw [em] at nK o4 ⊢
      obtain ⟨W, hW⟩ : ∃ W, W = uV (tkN (gvE E i x t) i) 8 0 5 y := ⟨_, rfl⟩
      rw [← hW] at nK o4 ⊢
      have s : ∀ kd k, 10 ≤ kd → kd ≤ 13 → W kd i k = E (kd + 4) i k := fun kd k h1 h2 => by
        rw [hW, uV_k (by omega), tkN_s h1 h2, gvE_o (by omega) (by omega)]
      have w0 : eW W i 0 = eW E i 1 := by
        show (W 10 i 0).toInt.toNat = _
        rw [s 10 0 (by omega) (by omega)]
        rfl
      have nL : eL W = eL E := by unfold eL; rw [o4 1 0 1 (by omega)]
      have lk : ∀ q, lkd W i 0 q = lkd E i 1 q := fun q => by
        have s12 : W 12 i q = E 16 i q := s 12 q (by omega) (by omega)
        unfold lkd dOn
        rw [show W (12 + 4 * 0) i q = E 16 i q from s12, nL, o4 3 _ _ (by omega)]
      have rm : ∀ q, rem W i 0 q = rem E i 1 q := fun q => by
        unfold rem
        rw [w0]
        exact sn_c (fun p _ _ => lk p)
      have p2 : W 9 i 2 = 0 := by
        rw [hW, uV_k (by omega)]
        unfold tkN
        rw [uV_s]
      refine ⟨i, 0, k, u, by rw [nK]; exact a1, by omega, a3, by rw [w0]; exact a4, a5, a6.trans (s 11 k (by omega) (by omega)).symm, a7.trans (s 13 k (by omega) (by omega)).symm, ?_, a9, a10, a11, by (show u + rem W i 0 k + (if i = i then 0 else e i) ≤ rem W i 0 0); rw [E0, rm, rm]; omega, fun _ => rfl, fun z => ?_, fun z => ?_⟩
      · have : W 13 i k = E 17 i k := s 13 k (by omega) (by omega)
        show W 13 i k ≠ -1
        rw [this]
        exact a8
      · rw [p2] at z
        exact absurd z (by decide)
      · rw [p2] at z
        exact absurd z (by decide)
  · have n : ∀ kd k, 9 ≤ kd → kd ≤ 17 → mC E j kd i k = E kd i k := fun kd k h1 h2 => mC_n ij h1 h2
    have Ei : (if i = j then 0 else e i) = e i := if_neg ij
    refine PKF_g (e := e) (by rw [nK]; exact a1) a2 a3 a4 a5 a6 a7 a8 a9 a10 a11 a12 (kC_o (by omega) (fun k => o4 _ _ _ (by omega)) (fun j k => o4 _ _ _ (by omega)) (fun kd k h1 h2 _ _ => n kd k (by omega) h2)) (n _ _ (by omega) (by omega)) (by rw [Ei]; exact Nat.le_refl _) (by rw [n 9 _ (by omega) (by omega)]; exact a13) (by rw [n 9 _ (by omega) (by omega)]; exact a14) ?_
    rw [n 9 2 (by omega) (by omega), n 9 9 (by omega) (by omega), Ei]
    exact a15
theorem eW_6 {E : VV} (hG : vG E) {i c : Nat} (hi : i < 8) (hc : c < 2) : eW E i c ≤ 6 := by
  rcases (show c = 0 ∨ c = 1 by omega) with z | z <;> subst z
  · obtain ⟨w, w1, w2⟩ := vG_A hG i hi
    show eA E i ≤ 6
    unfold eA
    rw [w2, nn_t (by omega)]
    omega
  · obtain ⟨w, w1, w2⟩ := vG_B hG i hi
    show eB E i ≤ 6
    unfold eB
    rw [w2, nn_t (by omega)]
    omega
theorem mC_md {E : VV} {j : Nat} (hG : vG E) (hX : iX E) (hS : hS0 E) (hj : j < eK E) (hQ : iQ E j 0) (hm : ∀ i, i < eK E → MD E i) : ∀ i, i < eK E → MD (mC E j) i := by
  intro i hi
  have hK8 := hG.2.2.2.2.1.2.2.1
  have hB6 : eB E i ≤ 6 := eW_6 hG (i := i) (c := 1) (by omega) (by omega)
  obtain ⟨m1, m2, m3⟩ := hm i hi
  by_cases ij : i = j
  · subst ij
    rcases mC_is hX hS hG hj hQ with ⟨ph, em⟩ | ⟨ph, v, t, v1, v2, t1, e10, e17, em⟩ | ⟨ph, e10, h, em⟩ | ⟨ph, d, d1, d2, e9, em⟩ | ⟨ph, e9, em⟩ | ⟨ph, x, t, x1, x2, t1, e13, em⟩ | ⟨ph, x, t, y, x1, x2, t1, e13, em⟩
    · rw [em]
      exact ⟨m1, m2, m3⟩
    · have h7 : ∀ t', E 7 0 t' = 1 → mC E i 7 0 t' = 1 := fun t' => mC_7
      rw [em] at h7 ⊢
      obtain ⟨W, hW⟩ : ∃ W, W = uV (uV E 7 0 t 1) 9 i 10 (nn (v - 1)) := ⟨_, rfl⟩
      rw [← hW] at h7 ⊢
      have s : ∀ kd k, 10 ≤ kd → W kd i k = E kd i k := fun kd k h => by rw [hW, uV_k (by omega), uV_k (by omega)]
      have p2 : W 9 i 2 = E 9 i 2 := by rw [hW, uV_p (by omega), uV_k (by omega)]
      have p10 : W 9 i 10 = nn (v - 1) := by rw [hW, uV_s]
      have wA : eA W i = eA E i := by unfold eA; rw [s 10 0 (by omega)]
      have wB : eB W i = eB E i := by unfold eB; rw [s 14 0 (by omega)]
      refine ⟨fun z k t' b1 b2 b3 b4 => ?_, fun z => ?_, fun _ u' k t' b1 b2 b3 b4 b5 b6 => ?_⟩
      · rw [p2] at z
        rw [wA] at b2
        rw [s 13 k (by omega)] at b4
        exact h7 _ (m1 z k t' b1 b2 b3 b4)
      · rw [p2, ph] at z
        rcases z with z | z <;> exact absurd z (by decide)
      · rw [p10] at b1
        have := nn_e (by omega) (by omega) b1
        rw [wB] at b4
        rw [s 17 k (by omega)] at b6
        by_cases kv : k = v
        · subst kv
          have := nn_e (by omega) (by omega) (e17.symm.trans b6)
          subst this
          rw [hW, uV_k (by omega), uV_s]
        · exact h7 _ (m3 ph v k t' e10 (by omega) (by omega) b4 b5 b6)
    · have h7 : ∀ t', E 7 0 t' = 1 → mC E i 7 0 t' = 1 := fun t' => mC_7
      rw [em] at h7 ⊢
      obtain ⟨W, hW⟩ : ∃ W, W = uV (uV (uV E 9 i 2 2) 9 i 9 (dlO E i)) 9 i 8 h := ⟨_, rfl⟩
      rw [← hW] at h7 ⊢
      have s : ∀ kd k, 10 ≤ kd → W kd i k = E kd i k := fun kd k h => by rw [hW, uV_k (by omega), uV_k (by omega), uV_k (by omega)]
      have p2 : W 9 i 2 = 2 := by rw [hW, uV_p (by omega), uV_p (by omega), uV_s]
      have wA : eA W i = eA E i := by unfold eA; rw [s 10 0 (by omega)]
      have wB : eB W i = eB E i := by unfold eB; rw [s 14 0 (by omega)]
      refine ⟨fun _ k t' b1 b2 b3 b4 => ?_, fun _ k t' b1 b2 b3 b4 => ?_, fun z => ?_⟩
      · rw [wA] at b2
        rw [s 13 k (by omega)] at b4
        exact h7 _ (m1 (Or.inr (Or.inl ph)) k t' b1 b2 b3 b4)
      · rw [wB] at b2
        rw [s 17 k (by omega)] at b4
        exact h7 _ (m3 ph 0 k t' e10 (by omega) (by omega) b2 b3 b4)
      · rw [p2] at z
        exact absurd z (by decide)
    · rw [em]
      have s : ∀ kd k, 10 ≤ kd → uV E 9 i 9 (nn (d - 1)) kd i k = E kd i k := fun kd k h => uV_k (by omega)
      have p2 : uV E 9 i 9 (nn (d - 1)) 9 i 2 = E 9 i 2 := uV_p (by omega)
      refine ⟨fun _ k t' b1 b2 b3 b4 => ?_, fun _ k t' b1 b2 b3 b4 => ?_, fun z => ?_⟩
      · exact (uV_k (by omega)).trans (m1 (Or.inr (Or.inr ph)) k t' b1 b2 b3 b4)
      · exact (uV_k (by omega)).trans (m2 (Or.inl ph) k t' b1 b2 b3 b4)
      · rw [p2, ph] at z
        exact absurd z (by decide)
    · rw [em]
      have p2 : uV (uV E 9 i 9 0) 9 i 2 3 9 i 2 = 3 := uV_s
      refine ⟨fun z => ?_, fun _ k t' b1 b2 b3 b4 => ?_, fun z => ?_⟩
      · rw [p2] at z
        rcases z with z | z | z <;> exact absurd z (by decide)
      · rw [uV_k (by omega), uV_k (by omega)] at b4 ⊢
        exact m2 (Or.inl ph) k t' b1 b2 b3 b4
      · rw [p2] at z
        exact absurd z (by decide)
    · rw [em]
      have p2 : gvE E i x t 9 i 2 = 3 := (gvE_o (by omega) (by omega)).trans ph
      have wB : eB (gvE E i x t) i = eB E i := by unfold eB; rw [gvE_o (by omega) (by omega)]
      refine ⟨fun z => ?_, fun _ k t' b1 b2 b3 b4 => ?_, fun z => ?_⟩
      · rw [p2] at z
        rcases z with z | z | z <;> exact absurd z (by decide)
      · rw [wB] at b2
        rw [gvE_o (by omega) (by omega)] at b4 ⊢
        exact m2 (Or.inr ph) k t' b1 b2 b3 b4
      · rw [p2] at z
        exact absurd z (by decide)
    · rw [em]
      obtain ⟨W, hW⟩ : ∃ W, W = uV (tkN (gvE E i x t) i) 8 0 5 y := ⟨_, rfl⟩
      rw [← hW]
      have s : ∀ kd k, 10 ≤ kd → kd ≤ 13 → W kd i k = E (kd + 4) i k := fun kd k h1 h2 => by
        rw [hW, uV_k (by omega), tkN_s h1 h2, gvE_o (by omega) (by omega)]
      have p2 : W 9 i 2 = 0 := by
        rw [hW, uV_k (by omega)]
        unfold tkN
        rw [uV_s]
      have w7 : ∀ t', W 7 0 t' = E 7 0 t' := fun t' => by
        rw [hW, uV_k (by omega), tkN_o (by omega), gvE_o (by omega) (by omega)]
      have wA : eA W i = eB E i := by
        unfold eA eB
        rw [s 10 0 (by omega) (by omega)]
      refine ⟨fun _ k t' b1 b2 b3 b4 => ?_, fun z => ?_, fun z => ?_⟩
      · rw [wA] at b2
        rw [s 13 k (by omega) (by omega)] at b4
        rw [w7]
        exact m2 (Or.inr ph) k t' b1 b2 b3 b4
      · rw [p2] at z
        rcases z with z | z <;> exact absurd z (by decide)
      · rw [p2] at z
        exact absurd z (by decide)
  · have n : ∀ kd k, 9 ≤ kd → kd ≤ 17 → mC E j kd i k = E kd i k := fun kd k h1 h2 => mC_n ij h1 h2
    have wA : eA (mC E j) i = eA E i := by unfold eA; rw [n 10 0 (by omega) (by omega)]
    have wB : eB (mC E j) i = eB E i := by unfold eB; rw [n 14 0 (by omega) (by omega)]
    unfold MD
    simp only [wA, wB, n 9 2 (by omega) (by omega), n 9 10 (by omega) (by omega), n 13 _ (by omega) (by omega), n 17 _ (by omega) (by omega)]
    exact ⟨fun z k t' b1 b2 b3 b4 => mC_7 (m1 z k t' b1 b2 b3 b4), fun z k t' b1 b2 b3 b4 => mC_7 (m2 z k t' b1 b2 b3 b4), fun z u k t' b1 b2 b3 b4 b5 b6 => mC_7 (m3 z u k t' b1 b2 b3 b4 b5 b6)⟩
def eJ (j : Nat) : Nat → Nat := fun i => if i < j then 0 else 1
theorem mvC_s {L : List (Nat → Int32)} : ∀ (k j : Nat) (E : VV), vG E → iX E → iL E → hS0 E → (∀ i, i < eK E → iQ E i (if i < j then 1 else 0)) → iUp E → (∀ i, i < eK E → MD E i) → (∀ r, r ∈ L → PKF (eJ j) E r) → j + k = eK E →
    iUp (mvC E j k) ∧ (∀ i, i < eK E → MD (mvC E j k) i) ∧ ∀ r, r ∈ L → PKF (eJ (j + k)) (mvC E j k) r := by
  intro k
  induction k with
  | zero => exact fun j E _ _ _ _ _ hu hm hp _ => ⟨hu, hm, hp⟩
  | succ k ih =>
    intro j E hG hX hL hS hQ hu hm hp hj
    have hK8 := hG.2.2.2.2.1.2.2.1
    have hjK : j < eK E := by omega
    have hq0 := hQ j hjK
    rw [if_neg (by omega)] at hq0
    obtain ⟨nX, nQ⟩ := mC_all hG hX hL hjK hq0 (hS_sl hS hjK)
    have nK : eK (mC E j) = eK E := eK_mC
    have g := ih (j + 1) (mC E j) (vG_mC (by omega) hG) nX (iL_mC hL) (hS_mC hS) (fun i hi => ?_) (fun x hx => ?_) (fun i hi => ?_) (fun r hr => ?_) (by rw [nK]; omega)
    · rw [nK, show j + 1 + k = j + (k + 1) by omega] at g
      exact g
    · rw [nK] at hi
      by_cases e : i = j
      · subst e
        rw [if_pos (by omega)]
        exact nQ
      · have := hQ i hi
        have e2 : (if i < j + 1 then 1 else 0) = if i < j then 1 else 0 := by
          by_cases e3 : i < j
          · rw [if_pos e3, if_pos (by omega)]
          · rw [if_neg e3, if_neg (by omega)]
        rw [e2]
        exact iQ_o (fun k => mC_n e (by omega) (by omega)) (mC_n e (by omega) (by omega)) (mC_n e (by omega) (by omega)) (fun k => mC_n e (by omega) (by omega)) (fun k => mC_n e (by omega) (by omega)) this
    · have : eL (mC E j) = eL E := by unfold eL; rw [mC_o (by omega)]
      rw [this] at hx
      rw [mC_o (by omega)]
      exact hu x hx
    · exact mC_md hG hX hS hjK hq0 hm i (by rw [nK] at hi; exact hi)
    · refine PKF_e (mC_pk hG hX hL hS hjK hq0 (e := eJ j) (if_neg (by omega)) (hp r hr)) (fun i => ?_)
      unfold eJ
      by_cases e : i = j
      · rw [if_pos e, if_pos (by omega)]
        omega
      · rw [if_neg e]
        by_cases e3 : i < j
        · rw [if_pos e3, if_pos (by omega)]
          omega
        · rw [if_neg e3, if_neg (by omega)]
          omega
/-! sendings -/
theorem kV_u {E E' : VV} {kd a k : Nat} {x : Int32} (h : kV E E') (hk : kd = 8 ∨ (kd = 9 ∧ k ≠ 2 ∧ k ≠ 9 ∧ k ≠ 10) ∨ (kd = 0 ∧ (k = 6 ∨ k = 9))) : kV E (uV E' kd a k x) := fun kd' a' k' h1 h2 h3 => by
  rw [uV_at, if_neg (by omega)]
  exact h kd' a' k' h1 h2 h3
theorem kV_rf {E : VV} : kV E E := fun _ _ _ _ _ _ => rfl
theorem kV_t {E E1 E2 : VV} (h1 : kV E E1) (h2 : kV E1 E2) : kV E E2 := fun kd a k x y z => (h2 kd a k x y z).trans (h1 kd a k x y z)
theorem kV_ls {E : VV} {r : Nat → Int32} : kV E (lsE E r) := by
  unfold lsE
  split
  · exact kV_u (kV_u kV_rf (Or.inl rfl)) (Or.inr (Or.inl ⟨rfl, by omega, by omega, by omega⟩))
  · exact kV_u kV_rf (Or.inl rfl)
theorem kV_bk {E : VV} {i : Nat} {y : Int32} : kV E (bkE E i y) := kV_u (kV_u kV_rf (Or.inr (Or.inl ⟨rfl, by omega, by omega, by omega⟩))) (Or.inl rfl)
theorem kV_sP {E : VV} {i : Nat} : kV E (sP E i).1 := by
  have sd : kV E (sdE E i) := kV_u (kV_u (kV_u kV_rf (Or.inr (Or.inl ⟨rfl, by omega, by omega, by omega⟩))) (Or.inr (Or.inl ⟨rfl, by omega, by omega, by omega⟩))) (Or.inl rfl)
  rcases sP_c (E := E) (i := i) with ⟨-, e⟩ | ⟨-, e⟩
  · rw [e]
    exact kV_u sd (Or.inr (Or.inr ⟨rfl, Or.inl rfl⟩))
  · rw [e]
    exact kV_t sd kV_ls
theorem kV_sH {E : VV} {i : Nat} : kV E (sH E i).1 := by
  rcases sH_c (E := E) (i := i) with e | e | ⟨-, e⟩
  · rw [e]
    exact kV_u kV_rf (Or.inr (Or.inl ⟨rfl, by omega, by omega, by omega⟩))
  · rw [e]
    exact kV_rf
  · rw [e]
    exact kV_sP
theorem kV_sF {E : VV} {i : Nat} : kV E (sF E i).1 := by
  rcases sF_c (E := E) (i := i) with e | e
  · rw [e]
    exact kV_sH
  · rw [e]
    exact kV_t kV_bk kV_sH
theorem sF_s {E : VV} {i : Nat} (hX : iX E) (hL : iL E) (hL16 : eL E ≤ 16) (hi : i < eK E) (hQ : iQ E i 1) (hu : iUp E) : (sF E i).1 8 0 2 = E 8 0 2 ∧ ∀ r, r ∈ (sF E i).2 → PKF (fun _ => 0) E r := by
  obtain ⟨c, c1, c2, c3⟩ := acB_c (E := E) (i := i)
  obtain ⟨h1, h2⟩ := ac_sl hQ
  rw [c2, wN_c c1] at h1
  have hup : uP E (nwR E i 3) = true := by
    rw [nw_3, c2, show 10 + 4 * c + 2 = 12 + 4 * c by omega]
    exact up_l hX hL16 hu hi c1 (by omega) (by omega)
  constructor
  · have key : ∀ E', kS6 E E' → nwR E' i = nwR E i → E' 8 0 2 = E 8 0 2 → (sH E' i).1 8 0 2 = E 8 0 2 := by
      intro E' k6 en e8
      rcases sH_c (E := E') (i := i) with e | e | ⟨-, e⟩
      · rw [e]
        show uV E' 9 i 8 (E' 9 i 8 - 1) 8 0 2 = _
        exact (uV_k (by omega)).trans e8
      · rw [e]
        exact e8
      · rw [e]
        rcases sP_c (E := E') (i := i) with ⟨-, e⟩ | ⟨z, -⟩
        · rw [e]
          show uV (sdE E' i) 0 0 6 (E' 0 0 6 + 1) 8 0 2 = _
          unfold sdE
          rw [uV_k (by omega), uV_p (by omega), uV_k (by omega), uV_k (by omega)]
          exact e8
        · rw [en, uP_6k k6, hup] at z
          cases z
    rcases sF_c (E := E) (i := i) with e | e
    · rw [e]
      exact key E (fun _ _ _ _ _ _ => rfl) rfl rfl
    · rw [e]
      exact key _ kS6_bk nw_bk (bk_at (by omega) (by omega))
  · intro r hr
    obtain ⟨e, -⟩ := sF_r hr
    subst e
    obtain ⟨l1, l2, l3⟩ := lkd_nn hX hL hL16 hi c1 (show 1 ≤ 1 by omega) (show 1 < eW E i c by omega)
    have rs := rem_s (E := E) (i := i) (c := c) (k := 0) (by omega)
    rw [Nat.zero_add] at rs
    rw [c2] at h2
    refine ⟨i, c, 1, lkd E i c 1, hi, c1, by omega, by omega, nw_0, ?_, ?_, ?_, ?_, l2, by omega, by dsimp only; rw [rs]; omega, fun z => ?_, fun z => ?_, fun z1 z2 => ?_⟩
    · rw [nw_4, c2, show 10 + 4 * c + 1 = 11 + 4 * c by omega]
    · rw [nw_5, c2, show 10 + 4 * c + 3 = 13 + 4 * c by omega]
    · rw [show 13 + 4 * c = 10 + 4 * c + 3 by omega]
      exact h2
    · rw [nw_6, c2, show 10 + 4 * c + 2 = 12 + 4 * c by omega]
      exact l1
    · refine c3.mpr (fun y => ?_)
      rcases z with z | z <;> rcases y with y | y <;> rw [z] at y <;> exact absurd y (by decide)
    · rcases (show c = 0 ∨ c = 1 by omega) with y | y
      · exact absurd (Or.inr z) (c3.mp y)
      · exact y
    · exact absurd (Or.inl z1) (c3.mp z2)
theorem sA_s : ∀ (k j : Nat) (E : VV) (L : List (Nat → Int32)), iX E → iL E → eL E ≤ 16 → (∀ i, i < eK E → iQ E i (if i < j then 0 else 1)) → SF E L → j + k = eK E → eK E ≤ 8 → SF (sA E j k).1 (L ++ (sA E j k).2) ∧ (sA E j k).1 8 0 2 = E 8 0 2 := by
  intro k
  induction k with
  | zero =>
    intro j E L _ _ _ _ h _ _
    show SF E (L ++ []) ∧ _
    rw [List.append_nil]
    exact ⟨h, rfl⟩
  | succ k ih =>
    intro j E L hX hL hL16 hQ h hj hK8
    have hjK : j < eK E := by omega
    have hQj := hQ j hjK
    rw [if_neg (by omega)] at hQj
    have k6 : kS6 E (sF E j).1 := kS6_sF
    have kv : kV E (sF E j).1 := kV_sF
    have nK : eK (sF E j).1 = eK E := kS6_K k6
    have nL : eL (sF E j).1 = eL E := kS6_L k6
    obtain ⟨hu, hm, hp⟩ := h
    obtain ⟨s1, s2⟩ := sF_s hX hL hL16 hjK hQj hu
    have g := ih (j + 1) (sF E j).1 (L ++ (sF E j).2) (kS6_iX k6 hX) (fun x hx => ?_) (by rw [nL]; exact hL16) (fun i hi => ?_) ⟨iUp_V kv hu, fun i hi => MD_V kv (hm i (by rw [nK] at hi; exact hi)), fun r hr => PKF_V kv ?_⟩ (by rw [nK]; omega) (by rw [nK]; exact hK8)
    · rw [sA_S]
      dsimp only
      rw [List.append_assoc] at g
      exact ⟨g.1, g.2.trans s1⟩
    · rw [nL] at hx
      rw [k6 3 _ _ (by decide) (by decide) (by decide)]
      exact hL x hx
    · rw [nK] at hi
      by_cases e : i = j
      · subst e
        rw [if_pos (by omega)]
        exact iQ_sF hQj
      · have := hQ i hi
        have e2 : (if i < j + 1 then 0 else 1) = if i < j then 0 else 1 := by
          by_cases e3 : i < j
          · rw [if_pos e3, if_pos (by omega)]
          · rw [if_neg e3, if_neg (by omega)]
        rw [e2]
        have h9 := (sF_9 (E := E) (i := j)).resolve_right (fun z => z ⟨hjK, by omega⟩)
        exact iQ_o (fun k => h9 i k e) (k6 _ _ _ (by decide) (by decide) (by decide)) (k6 _ _ _ (by decide) (by decide) (by decide)) (fun k => k6 _ _ _ (by decide) (by decide) (by omega)) (fun k => k6 _ _ _ (by decide) (by decide) (by omega)) this
    · rcases List.mem_append.mp hr with z | z
      · exact hp r z
      · exact s2 r z
/-- without failing links a tick loses nothing -/
theorem SF_tk {E : VV} {l : List (Nat → Int32)} (hV : iV E l) (hS : hS0 E) (h60 : l.length ≤ 60) (h : SF E l) : SF (tkE E l).1 (tkE E l).2 ∧ (tkE E l).1 8 0 2 = E 8 0 2 := by
  have hK8 := hV.1.2.2.2.2.1.2.2.1
  have hL16 := hV.1.2.2.2.2.1.2.1
  obtain ⟨hu, hm, hp⟩ := h
  obtain ⟨a1, a2, a3, a4, a5, a6, a7, a8, a9⟩ := tk1_ok hV hS h60
  obtain ⟨b1, b2, b3, b4, b5, b6, b7⟩ := tk2_ok hV hS h60
  obtain ⟨p1, p2⟩ := mvP_s l E hV.2.1 hV.2.2.1 hK8 hL16 (fun i c hi hc => eW_6 hV.1 (by omega) hc) hS hV.2.2.2.1 hu hm hp
  have kv1 : kV E (tk1 E l) := kV_u (kQ_V kQ_mvP) (Or.inr (Or.inr ⟨rfl, Or.inl rfl⟩))
  obtain ⟨c1, c2, c3⟩ := mvC_s (L := (mvP E l).1) (eK E) 0 (tk1 E l) a1 a2 a3 a4 (fun i hi => by rw [if_neg (by omega)]; exact a5 i (by rw [a9] at hi; exact hi)) (iUp_V kv1 hu) (fun i hi => MD_V kv1 (hm i (by rw [a9] at hi; exact hi))) (fun r hr => PKF_e (PKF_V kv1 (p1 r hr)) (fun i => by unfold eJ; rw [if_neg (by omega)]; exact Nat.le_refl _)) (by rw [a9]; omega)
  rw [a9] at c2
  have nL : eL (mvC (tk1 E l) 0 (eK E)) = eL E := by
    unfold eL
    rw [b6 1 0 1 (by omega), tk1_6 1 0 1 (by omega) (by omega) (by omega)]
  have hsf : SF (mvC (tk1 E l) 0 (eK E)) (mvP E l).1 := ⟨c1, fun i hi => c2 i (by rw [b7] at hi; exact hi), fun r hr => by
    obtain ⟨i, c, k, u, h1, h2, h3, h4, h5, h6, h7, h8, h9, h10, h11, h12, h13, h14, h15⟩ := c3 r hr
    exact ⟨i, c, k, u, h1, h2, h3, h4, h5, h6, h7, h8, h9, h10, h11, by (show u + rem _ i c k + 0 ≤ _); omega, h13, h14, fun x y d z w => by have := h15 x y d z w; (show u + rem _ i c k + 1 + 0 ≤ _); omega⟩⟩
  obtain ⟨d1, d2⟩ := sA_s (eK E) 0 _ _ b2 b3 (by rw [nL]; exact hL16) (fun i hi => by rw [if_neg (by omega)]; exact b5 i (by rw [b7] at hi; exact hi)) hsf (by rw [b7]; omega) (by rw [b7]; exact hK8)
  rw [tkE_1]
  have kv3 : kV (sA (mvC (tk1 E l) 0 (eK E)) 0 (eK E)).1 (uV (sA (mvC (tk1 E l) 0 (eK E)) 0 (eK E)).1 0 0 9 (E 0 0 9 + 1)) := kV_u kV_rf (Or.inr (Or.inr ⟨rfl, Or.inr rfl⟩))
  refine ⟨⟨iUp_V kv3 d1.1, fun i hi => MD_V kv3 (d1.2.1 i (by rw [kV_K kv3] at hi; exact hi)), fun r hr => PKF_V kv3 (d1.2.2 r hr)⟩, ?_⟩
  show uV (sA (mvC (tk1 E l) 0 (eK E)) 0 (eK E)).1 0 0 9 (E 0 0 9 + 1) 8 0 2 = _
  rw [uV_k (by omega), d2, mvC_8k (by omega)]
  exact (uV_k (by omega)).trans p2
