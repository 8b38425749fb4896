/-! MOVING, ABORTING, OFFERING, FAILING, CLOSING: what is kept -/
section
variable {E : VV} {l : List (Nat → Int32)} {B n i : Nat} {d : Nat → Nat} {N L : Nat → Int32}
theorem mv_0 (hI : iG E l) (hi : i < eK E) (hd : dW E n d) (hN : ∀ k, k < n → N k = nn (d k)) (h0 : (mvV E i n N L).1 = 0) :
    ∃ E1, tF (mvB E i n N L) E1 i 1 n ∧ E 9 i 2 = 0 ∧ 2 ≤ n ∧ (mvV E i n N L).2 = mvE2 E1 i n ∧ ∀ k, 1 ≤ k → k < n → hr E (eL E) (eK E) (eA E) (eB E) (L k).toInt (E 9 i 0) (nn i) = true := by
  have hG := hI.1.1
  have hN10 := hG.2.2.2.2.1.1
  revert h0
  unfold mvV
  by_cases c1 : E 9 i 2 ≠ 0
  · rw [if_pos c1]
    intro z
    exact absurd z (show ¬ ((2 : Int32) = 0) by decide)
  · rw [if_neg c1]
    cases c2 : endV E i n N with
    | false =>
      rw [if_pos rfl]
      intro z
      exact absurd z (show ¬ ((3 : Int32) = 0) by decide)
    | true =>
      rw [if_neg (by decide)]
      cases c3 : sameV E i n N with
      | true =>
        rw [if_pos rfl]
        intro z
        exact absurd z (show ¬ ((4 : Int32) = 0) by decide)
      | false =>
        rw [if_neg (by decide)]
        cases c4 : na (fun k => hr E (eL E) (eK E) (eA E) (eB E) (L k).toInt (E 9 i 0) (nn i)) 1 (n - 1) with
        | false =>
          rw [if_pos rfl]
          intro z
          exact absurd z (show ¬ ((5 : Int32) = 0) by decide)
        | true =>
          rw [if_neg (by decide)]
          have n2 : 2 ≤ n := by
            unfold endV at c2
            rw [Bool.and_eq_true] at c2
            exact of_decide_eq_true c2.1
          have hF := tl_F (E0 := mvB E i n N L) (i := i) (c := 1) (n := n) (fun k hk => ⟨d k, Nat.lt_of_lt_of_le (hd.2.1 k hk) hN10, (cpV_1 (by have := hd.1; omega)).trans (hN k hk)⟩) (n - 1) 1 _ (tF_0 (by omega)) (vG_cp hG (by omega) hd.1) (by omega) (by omega)
          cases c5 : (tlE (mvB E i n N L) i 1 1 (n - 1)).1 with
          | false =>
            rw [if_pos rfl]
            intro z
            exact absurd z (show ¬ ((6 : Int32) = 0) by decide)
          | true =>
            rw [if_neg (by decide)]
            intro _
            exact ⟨_, hF.1 c5, Decidable.not_not.mp c1, n2, rfl, fun k k1 k2 => na_iff.mp c4 k k1 (by omega)⟩
theorem smE_rf : smE E E := ⟨fun _ _ _ => rfl, fun _ _ => rfl, fun _ _ => rfl, fun _ _ _ _ => rfl, fun _ _ => rfl, fun _ _ => rfl, fun _ _ _ => ⟨rfl, rfl⟩, fun _ _ => rfl, fun _ _ _ _ => rfl, fun _ _ _ _ => ⟨rfl, fun _ _ _ _ _ => rfl⟩⟩
theorem mv_no (hI : iG E l) (hi : i < eK E) (hd : dW E n d) (hN : ∀ k, k < n → N k = nn (d k)) (h0 : (mvV E i n N L).1 ≠ 0) : smE E (mvV E i n N L).2 ∧ vG (mvV E i n N L).2 := by
  have hG := hI.1.1
  have hN10 := hG.2.2.2.2.1.1
  revert h0
  unfold mvV
  by_cases c1 : E 9 i 2 ≠ 0
  · rw [if_pos c1]
    exact fun _ => ⟨smE_rf, hG⟩
  · rw [if_neg c1]
    cases c2 : endV E i n N with
    | false =>
      rw [if_pos rfl]
      exact fun _ => ⟨smE_rf, hG⟩
    | true =>
      rw [if_neg (by decide)]
      cases c3 : sameV E i n N with
      | true =>
        rw [if_pos rfl]
        exact fun _ => ⟨smE_rf, hG⟩
      | false =>
        rw [if_neg (by decide)]
        cases c4 : na (fun k => hr E (eL E) (eK E) (eA E) (eB E) (L k).toInt (E 9 i 0) (nn i)) 1 (n - 1) with
        | false =>
          rw [if_pos rfl]
          exact fun _ => ⟨smE_rf, hG⟩
        | true =>
          rw [if_neg (by decide)]
          have n2 : 2 ≤ n := by
            unfold endV at c2
            rw [Bool.and_eq_true] at c2
            exact of_decide_eq_true c2.1
          have hF := tl_F (E0 := mvB E i n N L) (i := i) (c := 1) (n := n) (fun k hk => ⟨d k, Nat.lt_of_lt_of_le (hd.2.1 k hk) hN10, (cpV_1 (by have := hd.1; omega)).trans (hN k hk)⟩) (n - 1) 1 _ (tF_0 (by omega)) (vG_cp hG (by omega) hd.1) (by omega) (by omega)
          cases c5 : (tlE (mvB E i n N L) i 1 1 (n - 1)).1 with
          | false =>
            rw [if_pos rfl]
            intro _
            obtain ⟨j', j1, j2⟩ := hF.2 c5
            exact mv_smE hI hi (Decidable.not_not.mp c1) hd.1 j2 j1
          | true =>
            rw [if_neg (by decide)]
            intro z
            exact absurd rfl z
theorem mv_fr {E1 : VV} (ht : tF (mvB E i n N L) E1 i 1 n) {kd a k : Nat} (h5 : kd ≠ 5) (h6 : kd ≠ 6) (h7 : kd ≠ 7) (h : ¬ (a = i ∧ 14 ≤ kd ∧ kd ≤ 17)) (h9 : ¬ (a = i ∧ kd = 9 ∧ (k = 2 ∨ k = 10))) : mvE2 E1 i n kd a k = E kd a k := by
  unfold mvE2
  rw [uV_at, if_neg (by omega), uV_at, if_neg (by omega), ht.1 _ _ _ h5 h6 h7 (by omega)]
  exact cpV_o (by omega)
theorem mv_JI {E1 : VV} (hJ : JI B E l) (hi : i < eK E) (hd : dW E n d) (p0 : E 9 i 2 = 0) (h2 : 2 ≤ n) (hN : ∀ k, k < n → N k = nn (d k)) (hL : ∀ k, 1 ≤ k → k < n → L k = ii (lkE E (nn (d (k - 1))) (nn (d k)))) (ht : tF (mvB E i n N L) E1 i 1 n) (hh : ∀ k, 1 ≤ k → k < n → hr E (eL E) (eK E) (eA E) (eB E) (L k).toInt (E 9 i 0) (nn i) = true) :
    JI B (mvE2 E1 i n) l ∧ mvE2 E1 i n 9 i 2 = 1 ∧ eK (mvE2 E1 i n) = eK E ∧ (SF E l → SF (mvE2 E1 i n) l) := by
  obtain ⟨h1, h60, h3, h4, h5, h6⟩ := hJ
  have hX := h1.1.2.1
  have hK8 := h1.1.1.2.2.2.2.1.2.2.1
  have hL16 := h1.1.1.2.2.2.2.1.2.1
  obtain ⟨p1, -⟩ := mv_ok h1 hi p0 hN hL hd h2 ht
  have fr := fun {kd a k : Nat} => mv_fr (E := E) (N := N) (L := L) ht (kd := kd) (a := a) (k := k)
  obtain ⟨E', hE'⟩ : ∃ E', E' = mvE2 E1 i n := ⟨_, rfl⟩
  rw [← hE'] at p1 fr ⊢
  have nK : eK E' = eK E := by unfold eK; rw [fr (by omega) (by omega) (by omega) (by omega) (by omega)]
  have nL : eL E' = eL E := by unfold eL; rw [fr (by omega) (by omega) (by omega) (by omega) (by omega)]
  have p2 : E' 9 i 2 = 1 := by
    rw [hE']
    unfold mvE2
    rw [uV_p (by omega), uV_s]
  have p10 : E' 9 i 10 = nn (n - 1) := by
    rw [hE']
    exact uV_s
  have w0 : ∀ a, eA E' a = eA E a := fun a => by unfold eA; rw [fr (by omega) (by omega) (by omega) (by omega) (by omega)]
  have w1 : ∀ a, a ≠ i → eB E' a = eB E a := fun a ha => by unfold eB; rw [fr (by omega) (by omega) (by omega) (by omega) (by omega)]
  have own : ∀ kd k, 14 ≤ kd → kd ≤ 16 → E' kd i k = mvB E i n N L kd i k := fun kd k z1 z2 => by
    rw [hE']
    unfold mvE2
    rw [uV_k (by omega), uV_k (by omega), ht.1 _ _ _ (by omega) (by omega) (by omega) (by omega)]
  have wB : eB E' i = n := by
    have : E' 14 i 0 = nn n := (own 14 0 (by omega) (by omega)).trans (cpV_0 (c := 1))
    exact eW_1 this hd.1
  have wW : ∀ a c, ¬ (a = i ∧ c = 1) → c < 2 → eW E' a c = eW E a c := fun a c h hc => by
    rcases (show c = 0 ∨ c = 1 by omega) with z | z <;> subst z
    · exact w0 a
    · exact w1 a (by omega)
  have s17 : ∀ k, 1 ≤ k → k < n → ∃ t, t < 120 ∧ E' 17 i k = nn t := fun k k1 k2 => by
    obtain ⟨t, t1, t2, -⟩ := ht.2.2.2.1 k k1 k2
    refine ⟨t, t1, ?_⟩
    rw [hE']
    unfold mvE2
    rw [uV_k (by omega), uV_k (by omega)]
    exact t2
  refine ⟨⟨p1, h60, fun a c k a1 a2 a3 a4 => ?_, fun r hr => by rw [nL]; exact h4 r hr, ?_, ?_⟩, p2, nK, fun hs => ?_⟩
  · rw [nK] at a1
    by_cases e : a = i ∧ c = 1
    · obtain ⟨rfl, rfl⟩ := e
      have : eW E' a 1 = n := wB
      rw [this] at a4
      obtain ⟨t, t1, t2⟩ := s17 k a3 a4
      exact Or.inr ⟨t / 12, t % 12, by omega, by omega, by rw [show t / 12 * 12 + t % 12 = t by omega]; exact t2⟩
    · rw [wW a c e a2] at a4
      rw [fr (by omega) (by omega) (by omega) (by omega) (by omega)]
      exact h3 a c k a1 a2 a3 a4
  · exact CN_eq h5 nK (fun a w ha hw => fr (by omega) (by omega) (by omega) (by omega) (by omega)) (fun w hw => fr (by omega) (by omega) (by omega) (by omega) (by omega)) (fun _ _ => rfl)
  · obtain ⟨b1, b2⟩ := bN_nn h1.2.2.2.2.2 hi
    refine iR_mv h6 hi hK8 nK nL (fun j hj => fr (by omega) (by omega) (by omega) (by omega) (by omega)) (fun a ha => fr (by omega) (by omega) (by omega) (by omega) (by omega)) (fun a j ha e _ => us_c (fun c hc => wW a c (by omega) hc) (fun c k hc _ => fr (by omega) (by omega) (by omega) (by omega) (by omega))) (fun j c hj c1 c2 hu => ?_)
    obtain ⟨c', k, z1, z2, z3, z4⟩ := us_iff.mp hu
    rcases (show c' = 0 ∨ c' = 1 by omega) with z | z
    · subst z
      rw [wW i 0 (by omega) (by omega)] at z3
      rw [fr (by omega) (by omega) (by omega) (by omega) (by omega)] at z4
      exact Or.inl (us_iff.mpr ⟨0, k, by omega, z2, z3, z4⟩)
    · subst z
      have : eW E' i 1 = n := wB
      rw [this] at z3
      have q := hh k z2 z3
      have e16 : E' 16 i k = L k := (own 16 k (by omega) (by omega)).trans (cpV_2 (c := 1) (by have := hd.1; omega))
      have e12 : L k = nn j := e16.symm.trans z4
      rw [e12, nn_t (by omega), b1] at q
      have := (hr_N h1.2.2.2.2.2 hK8 hL16 b2 (e := i) (by omega) (by rw [if_pos (by omega)]; exact q)).2 c c1 c2
      exact Or.inr this
  · obtain ⟨u1, u2, u3⟩ := hs
    have m7 : ∀ a c k t, a < eK E → c < 2 → 1 ≤ k → k < eW E a c → t < 120 → E (13 + 4 * c) a k = nn t → E 7 0 t = 1 → E' 7 0 t = 1 := fun a c k t i1 c1 k1 k2 t1 e e7 => by
      have hh5 := (hX.1.1 a c k t i1 c1 k1 k2 t1 e).2.2
      have o : ∀ kd q, kd < 9 → mvB E i n N L kd 0 q = E kd 0 q := fun kd q h => cpV_o (by omega)
      have z5 : mvB E i n N L 5 0 t ≠ -1 := by rw [o 5 t (by omega)]; exact hh5
      rw [hE']
      unfold mvE2
      rw [uV_k (by omega), uV_k (by omega), (ht.2.1 t t1 z5).2.2, o 7 t (by omega)]
      exact e7
    have q0 := iQ_p0 (h1.1.2.2.2.1 i hi) p0
    refine ⟨fun j hj => ?_, fun a ha => ?_, fun r hr => ?_⟩
    · rw [nL] at hj
      rw [fr (by omega) (by omega) (by omega) (by omega) (by omega)]
      exact u1 j hj
    · rw [nK] at ha
      obtain ⟨m1, m2, m3⟩ := u2 a ha
      by_cases e : a = i
      · subst e
        refine ⟨fun z k t b1 b2 b3 b4 => ?_, fun z => ?_, fun _ u k t b0 b1 b2 b3 b4 b5 => ?_⟩
        · rw [w0] at b2
          rw [fr (by omega) (by omega) (by omega) (by omega) (by omega)] at b4
          exact m7 a 0 k t ha (by omega) b1 b2 b3 b4 (m1 (Or.inl p0) k t b1 b2 b3 b4)
        · rw [p2] at z
          rcases z with z | z <;> exact absurd z (by decide)
        · rw [p10] at b0
          have := hd.1
          have := nn_e (by omega) (by omega) b0
          rw [wB] at b3
          omega
      · have r2 : E' 9 a 2 = E 9 a 2 := fr (by omega) (by omega) (by omega) (by omega) (by omega)
        have r10 : E' 9 a 10 = E 9 a 10 := fr (by omega) (by omega) (by omega) (by omega) (by omega)
        refine ⟨fun z k t b1 b2 b3 b4 => ?_, fun z k t b1 b2 b3 b4 => ?_, fun z u k t b0 b1 b2 b3 b4 b5 => ?_⟩
        · rw [r2] at z
          rw [w0] at b2
          rw [fr (by omega) (by omega) (by omega) (by omega) (by omega)] at b4
          exact m7 a 0 k t ha (by omega) b1 b2 b3 b4 (m1 z k t b1 b2 b3 b4)
        · rw [r2] at z
          rw [w1 a e] at b2
          rw [fr (by omega) (by omega) (by omega) (by omega) (by omega)] at b4
          exact m7 a 1 k t ha (by omega) b1 b2 b3 b4 (m2 z k t b1 b2 b3 b4)
        · rw [r2] at z
          rw [r10] at b0
          rw [w1 a e] at b3
          rw [fr (by omega) (by omega) (by omega) (by omega) (by omega)] at b5
          exact m7 a 1 k t ha (by omega) (by omega) b3 b4 b5 (m3 z u k t b0 b1 b2 b3 b4 b5)
    · obtain ⟨a, c, k, u, a1, a2, a3, a4, a5, a6, a7, a8, a9, a10, a11, a12, a13, a14, a15⟩ := u3 r hr
      have c0 : a = i → c = 0 := fun e => a13 (Or.inl (by rw [e]; exact p0))
      refine PKF_g (e := fun _ => 0) (by rw [nK]; omega) a2 a3 a4 a5 a6 a7 a8 a9 a10 a11 a12 ⟨nL, fun j _ => fr (by omega) (by omega) (by omega) (by omega) (by omega), wW a c (by intro z; have := c0 z.1; omega) a2, fun k _ => ⟨fr (by omega) (by omega) (by omega) (by intro z; have := c0 z.1; omega) (by omega), fr (by omega) (by omega) (by omega) (by intro z; have := c0 z.1; omega) (by omega)⟩⟩ (fr (by omega) (by omega) (by omega) (by intro z; have := c0 z.1; omega) (by omega)) (Nat.le_refl _) ?_ ?_ ?_
      · by_cases e : a = i
        · exact fun _ => c0 e
        · rw [fr (by omega) (by omega) (by omega) (by omega) (by omega)]
          exact a13
      · by_cases e : a = i
        · rw [e, p2]
          intro z
          exact absurd z (by decide)
        · rw [fr (by omega) (by omega) (by omega) (by omega) (by omega)]
          exact a14
      · by_cases e : a = i
        · rw [e, p2]
          intro z
          exact absurd z (by decide)
        · rw [fr (kd := 9) (by omega) (by omega) (by omega) (by omega) (by omega), fr (kd := 9) (by omega) (by omega) (by omega) (by omega) (by omega)]
          exact a15
/-! aborting -/
theorem ab_JI (hJ : JI B E l) (hi : i < eK E) (p1 : E 9 i 2 = 1) : JI B (abE E i) l ∧ abE E i 9 i 2 = 0 ∧ eK (abE E i) = eK E ∧ (SF E l → SF (abE E i) l) := by
  obtain ⟨h1, h60, h3, h4, h5, h6⟩ := hJ
  have hX := h1.1.2.1
  have fr := fun {kd a k : Nat} => abE_o (E := E) (i := i) (kd := kd) (a := a) (k := k)
  have nK : eK (abE E i) = eK E := by unfold eK; rw [fr (by omega) (by omega) (by omega)]
  have nL : eL (abE E i) = eL E := by unfold eL; rw [fr (by omega) (by omega) (by omega)]
  have p2 : abE E i 9 i 2 = 0 := by
    unfold abE
    rw [uV_k (by omega), uV_p (by omega), uV_s]
  have w0 : ∀ a, eA (abE E i) a = eA E a := fun a => by unfold eA; rw [fr (by omega) (by omega) (by omega)]
  have w1 : ∀ a, a ≠ i → eB (abE E i) a = eB E a := fun a ha => by unfold eB; rw [fr (by omega) (by omega) (by omega)]
  have wB : eB (abE E i) i = 0 := by
    unfold eB abE
    rw [uV_k (by omega), uV_k (by omega), uV_k (by omega), uV_s]
    rfl
  have wW : ∀ a c, ¬ (a = i ∧ c = 1) → c < 2 → eW (abE E i) a c = eW E a c := fun a c h hc => by
    rcases (show c = 0 ∨ c = 1 by omega) with z | z <;> subst z
    · exact w0 a
    · exact w1 a (by omega)
  refine ⟨⟨ab_iG h1 hi p1, h60, fun a c k a1 a2 a3 a4 => ?_, fun r hr => by rw [nL]; exact h4 r hr, ?_, ?_⟩, p2, nK, fun hs => ?_⟩
  · rw [nK] at a1
    by_cases e : a = i ∧ c = 1
    · obtain ⟨rfl, rfl⟩ := e
      have : eW (abE E a) a 1 = 0 := wB
      omega
    · rw [wW a c e a2] at a4
      rw [fr (by omega) (by omega) (by omega)]
      exact h3 a c k a1 a2 a3 a4
  · refine CN_eq h5 nK (fun a w ha hw => fr (by omega) (by omega) (by omega)) (fun w hw => fr (by omega) (by omega) ?_) (fun _ _ => rfl)
    rcases tw_4 hw with ⟨q1, q2⟩ | ⟨q1, q2⟩ | ⟨q1, q2⟩ | ⟨q1, q2⟩ <;> omega
  · refine iR_sub h6 nK nL (fun j hj => fr (by omega) (by omega) (by omega)) (fun a ha => fr (by omega) (by omega) (by omega)) (fun a j ha _ hu => ?_)
    obtain ⟨c', k, z1, z2, z3, z4⟩ := us_iff.mp hu
    by_cases e : a = i ∧ c' = 1
    · obtain ⟨rfl, rfl⟩ := e
      have : eW (abE E a) a 1 = 0 := wB
      omega
    · rw [wW a c' e z1] at z3
      rw [fr (by omega) (by omega) (by omega)] at z4
      exact us_iff.mpr ⟨c', k, z1, z2, z3, z4⟩
  · obtain ⟨u1, u2, u3⟩ := hs
    have m7 : ∀ t, abE E i 7 0 t = E 7 0 t := fun t => fr (by omega) (by omega) (by omega)
    refine ⟨fun j hj => ?_, fun a ha => ?_, fun r hr => ?_⟩
    · rw [nL] at hj
      rw [fr (by omega) (by omega) (by omega)]
      exact u1 j hj
    · rw [nK] at ha
      obtain ⟨m1, m2, m3⟩ := u2 a ha
      by_cases e : a = i
      · subst e
        refine ⟨fun z k t b1 b2 b3 b4 => ?_, fun z => ?_, fun z => ?_⟩
        · rw [w0] at b2
          rw [fr (by omega) (by omega) (by omega)] at b4
          rw [m7]
          exact m1 (Or.inr (Or.inl p1)) k t b1 b2 b3 b4
        · rw [p2] at z
          rcases z with z | z <;> exact absurd z (by decide)
        · rw [p2] at z
          exact absurd z (by decide)
      · have r2 : abE E i 9 a 2 = E 9 a 2 := fr (by omega) (by omega) (by omega)
        have r10 : abE E i 9 a 10 = E 9 a 10 := fr (by omega) (by omega) (by omega)
        have r13 : ∀ k, abE E i 13 a k = E 13 a k := fun k => fr (by omega) (by omega) (by omega)
        have r17 : ∀ k, abE E i 17 a k = E 17 a k := fun k => fr (by omega) (by omega) (by omega)
        unfold MD
        simp only [w0 a, w1 a e, r2, r10, r13, r17, m7]
        exact ⟨m1, m2, m3⟩
    · obtain ⟨a, c, k, u, a1, a2, a3, a4, a5, a6, a7, a8, a9, a10, a11, a12, a13, a14, a15⟩ := u3 r hr
      have c0 : a = i → c = 0 := fun e => a13 (Or.inr (by rw [e]; exact p1))
      refine PKF_g (e := fun _ => 0) (by rw [nK]; omega) a2 a3 a4 a5 a6 a7 a8 a9 a10 a11 a12 ⟨nL, fun j _ => fr (by omega) (by omega) (by omega), wW a c (by intro z; have := c0 z.1; omega) a2, fun k _ => ⟨fr (by omega) (by omega) (by omega), fr (by omega) (by omega) (by omega)⟩⟩ (fr (by omega) (by intro z; have := c0 z.1; omega) (by omega)) (Nat.le_refl _) ?_ ?_ ?_
      · by_cases e : a = i
        · exact fun _ => c0 e
        · rw [fr (by omega) (by omega) (by omega)]
          exact a13
      · by_cases e : a = i
        · rw [e, p2]
          intro z
          exact absurd z (by decide)
        · rw [fr (by omega) (by omega) (by omega)]
          exact a14
      · by_cases e : a = i
        · rw [e, p2]
          intro z
          exact absurd z (by decide)
        · rw [fr (kd := 9) (by omega) (by omega) (by omega), fr (kd := 9) (by omega) (by omega) (by omega)]
          exact a15
/-! failing, repairing -/
theorem kQ_c38 {E' : VV} (h : kQ E E') : kC E E' i 0 ∧ kC E E' i 1 := ⟨kV_C (kQ_V h) i 0, kV_C (kQ_V h) i 1⟩
/-- packets on a link are lost -/
theorem CN_pu {x : Int32} {u : Bool} : ∀ (l : List (Nat → Int32)) (E : VV) (dn : List (Nat → Int32)), eK E ≤ 8 → (∀ r, r ∈ l → ∃ i, i < eK E ∧ r 0 = nn i) → CN E (dn ++ l) B → CN (pu x u E l).2 (dn ++ (pu x u E l).1) B := by
  intro l
  induction l with
  | nil => exact fun E dn _ _ h => h
  | cons r l ih =>
    intro E dn hK8 hl h
    obtain ⟨i, hi, e0⟩ := hl r List.mem_cons_self
    have hl' : ∀ r, r ∈ l → ∃ i, i < eK E ∧ r 0 = nn i := fun r hr => hl r (List.mem_cons_of_mem _ hr)
    rw [pu_c]
    by_cases c : u = false ∧ r 3 = x
    · rw [if_pos c]
      have nK : eK (lsE E r) = eK E := by rw [ls_at hi hK8 e0]; rfl
      refine ih _ dn (by rw [nK]; exact hK8) (by rw [nK]; exact hl') (CN_ls h hi hK8 e0 (fun a ha => ?_))
      rw [cP_ap, cP_ap, cP_c, e0]
      by_cases ea : a = i
      · rw [if_pos ea, if_pos (by rw [ea])]
        omega
      · rw [if_neg ea, if_neg (fun z => ea (nn_e (by omega) (by omega) z).symm)]
        rfl
    · rw [if_neg c]
      have g := ih E (dn ++ [r]) hK8 hl' (by rw [List.append_assoc]; exact h)
      rw [List.append_assoc] at g
      exact g
theorem pu_lost {x : Int32} : ∀ (l : List (Nat → Int32)) (E : VV), eK E ≤ 8 → (∀ r, r ∈ l → ∃ i, i < eK E ∧ r 0 = nn i) → (pu x false E l).2 8 0 2 = E 8 0 2 + nn (l.countP (fun r => decide (r 3 = x))) := by
  intro l
  induction l with
  | nil => exact fun E _ _ => (Int32.add_zero _).symm
  | cons r l ih =>
    intro E hK8 hl
    obtain ⟨i, hi, e0⟩ := hl r List.mem_cons_self
    have hl' : ∀ r, r ∈ l → ∃ i, i < eK E ∧ r 0 = nn i := fun r hr => hl r (List.mem_cons_of_mem _ hr)
    rw [pu_c, List.countP_cons]
    by_cases c : r 3 = x
    · have nK : eK (lsE E r) = eK E := by rw [ls_at hi hK8 e0]; rfl
      have e8 : lsE E r 8 0 2 = E 8 0 2 + nn 1 := by
        rw [ls_at hi hK8 e0, uV_k (by omega), uV_s]
        rfl
      rw [if_pos ⟨rfl, c⟩, ih _ (by rw [nK]; exact hK8) (by rw [nK]; exact hl'), e8, if_pos (decide_eq_true c), Int32.add_assoc, nn_add, Nat.add_comm]
    · rw [if_neg (fun z => c z.2), if_neg (by rw [decide_eq_false c]; decide)]
      exact ih E hK8 hl'
theorem su_JI {j : Nat} {u : Bool} (hJ : JI B E l) (hj : j < eL E) : JI B (suE E l j u) (suL E l j u) ∧ suE E l j u 3 j 4 = bi u ∧ suE E l j u 8 0 2 = E 8 0 2 + (if u = true then 0 else nn (l.countP (fun r => decide (r 3 = nn j)))) ∧ eK (suE E l j u) = eK E ∧ eL (suE E l j u) = eL E := by
  obtain ⟨h1, h60, h3, h4, h5, h6⟩ := hJ
  have hK8 := h1.1.1.2.2.2.2.1.2.2.1
  obtain ⟨kq, k38, k0, hlen, hsub⟩ := pu_kQ (x := nn j) (u := u) (l := l) (E := uV E 3 j 4 (bi u))
  have nK0 : eK (uV E 3 j 4 (bi u)) = eK E := rfl
  have hp0 : ∀ r, r ∈ l → ∃ i, i < eK (uV E 3 j 4 (bi u)) ∧ r 0 = nn i := fun r hr => (h1.1.2.2.2.2.1 r hr).1
  have fr : ∀ kd a k, kd ≠ 8 → ¬ (kd = 9 ∧ k ≠ 2 ∧ k ≠ 9 ∧ k ≠ 10) → ¬ (kd = 0 ∧ k = 6) → ¬ (kd = 3 ∧ a = j ∧ k = 4) → suE E l j u kd a k = E kd a k := fun kd a k z1 z2 z3 z4 => by
    unfold suE
    rw [uV_at, if_neg (by omega), kq kd a k z1 z2, uV_at, if_neg z4]
  have nK : eK (suE E l j u) = eK E := by unfold eK; rw [fr 0 0 5 (by omega) (by omega) (by omega) (by omega)]
  have nL : eL (suE E l j u) = eL E := by unfold eL; rw [fr 1 0 1 (by omega) (by omega) (by omega) (by omega)]
  have wW : ∀ a c, c < 2 → eW (suE E l j u) a c = eW E a c := fun a c hc => by
    unfold eW eA eB
    rw [fr 10 a 0 (by omega) (by omega) (by omega) (by omega), fr 14 a 0 (by omega) (by omega) (by omega) (by omega)]
  refine ⟨⟨su_iG h1 hj h60, Nat.le_trans hlen h60, hS0_c nK wW (fun a c k hc => Or.inl (fr _ _ _ (by omega) (by omega) (by omega) (by omega))) h3, fun r hr => by rw [nL]; exact h4 r (hsub r hr), ?_, ?_⟩, ?_, ?_, nK, nL⟩
  · have g := CN_pu (B := B) (x := nn j) (u := u) l (uV E 3 j 4 (bi u)) [] hK8 hp0 (CN_eq h5 rfl (fun a w _ _ => uV_k (by omega)) (fun w _ => uV_k (by omega)) (fun _ _ => rfl))
    exact CN_eq g (by
      rw [nK]
      unfold eK
      rw [kq 0 0 5 (by omega) (by omega), uV_k (by omega)]) (fun a w _ _ => uV_k (by omega)) (fun w _ => uV_k (by omega)) (fun _ _ => rfl)
  · refine iR_sub h6 nK nL (fun q hq => fr _ _ _ (by omega) (by omega) (by omega) (by omega)) (fun a ha => ?_) (fun a q ha _ => us_c (fun c hc => wW a c hc) (fun c k hc _ => fr _ _ _ (by omega) (by omega) (by omega) (by omega)))
    unfold suE
    rw [uV_k (by omega), k0 a, uV_k (by omega)]
  · unfold suE
    rw [uV_k (by omega), kq 3 j 4 (by omega) (by omega), uV_s]
  · unfold suE
    rw [uV_k (by omega)]
    cases u with
    | true =>
      rw [pu_t, if_pos rfl]
      dsimp only
      rw [uV_k (by omega)]
      exact (Int32.add_zero _).symm
    | false =>
      rw [pu_lost l (uV E 3 j 4 (bi false)) hK8 hp0, uV_k (by omega), if_neg (by decide)]
/-! offering -/
theorem bk_JI {y : Int32} (hJ : JI B E l) (hI' : iG (bkE E i y) l) : JI B (bkE E i y) l ∧ (SF E l → SF (bkE E i y) l) := by
  obtain ⟨h1, h60, h3, h4, h5, h6⟩ := hJ
  have nK : eK (bkE E i y) = eK E := kS6_K kS6_bk
  have nL : eL (bkE E i y) = eL E := kS6_L kS6_bk
  refine ⟨⟨hI', h60, hS0_6 kS6_bk h3, fun r hr => by rw [nL]; exact h4 r hr, ?_, ?_⟩, fun hs => ?_⟩
  · refine CN_eq h5 nK (fun a w _ _ => bk_at (by omega) (by omega)) (fun w hw => bk_at ?_ (by omega)) (fun _ _ => rfl)
    rcases tw_4 hw with ⟨q1, q2⟩ | ⟨q1, q2⟩ | ⟨q1, q2⟩ | ⟨q1, q2⟩ <;> omega
  · exact iR_sub h6 nK nL (fun j hj => bk_at (by omega) (by omega)) (fun a ha => bk_at (by omega) (by omega)) (fun a j _ _ => us_6 kS6_bk)
  · have kv : kV E (bkE E i y) := kV_bk
    exact ⟨iUp_V kv hs.1, fun a ha => MD_V kv (hs.2.1 a (by rw [nK] at ha; exact ha)), fun r hr => PKF_V kv (hs.2.2 r hr)⟩
end
