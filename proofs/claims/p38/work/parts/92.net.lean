/-! nodes, links, settings, backlogs: what is told, that all that holds is kept; the class does it -/
theorem iG_net {E E' : VV} {l : List (Nat → Int32)} (hI : iG E l) (h5 : ∀ kd a k, 5 ≤ kd → E' kd a k = E kd a k) (k5 : E' 0 0 5 = E 0 0 5) (k6 : E' 0 0 6 = E 0 0 6) (hN : eN E ≤ eN E') (hlk : ∀ u v, lkE E u v ≠ -1 → lkE E' u v = lkE E u v) (hG : vG E') (hL : iL E') (hB : iB E') (hZ : iZ E') (hU : iU E') (hE : iE E') (hS : iS E') : iG E' l := by
  obtain ⟨⟨v1, v2, v3, v4, v5, v6⟩, -⟩ := hI
  have nK : eK E' = eK E := by unfold eK; rw [k5]
  have nW : eW E' = eW E := by
    funext a c
    unfold eW eA eB
    rw [h5 10 _ _ (by omega), h5 14 _ _ (by omega)]
  refine ⟨⟨hG, ⟨?_, fun t t1 t2 => ?_, fun a ha c hc => ?_⟩, hL, fun a ha => ?_, fun r hr => ?_, k6.trans v6⟩, hB, hZ, hU, hE, hS⟩
  · rw [nK, nW]
    obtain ⟨t1, t2, t3⟩ := v2.1
    refine ⟨fun a c k t a1 a2 a3 a4 a5 a6 => ?_, fun t b1 b2 => ?_, fun a c k c' k' t a1 a2 a3 a4 a5 a6 a7 a8 a9 a10 => ?_⟩
    · rw [h5 _ _ _ (by omega)] at a6
      rw [h5 5 _ _ (by omega), h5 6 _ _ (by omega), h5 (11 + 4 * c) _ _ (by omega)]
      exact t1 a c k t a1 a2 a3 a4 a5 a6
    · rw [h5 5 _ _ (by omega)] at b2
      obtain ⟨a, c, k, c1, c2, c3, c4, c5⟩ := t2 t b1 b2
      exact ⟨a, c, k, c1, c2, c3, c4, (h5 _ _ _ (by omega)).trans c5⟩
    · rw [h5 _ _ _ (by omega)] at a9 a10
      exact t3 a c k c' k' t a1 a2 a3 a4 a5 a6 a7 a8 a9 a10
  · rw [h5 5 _ _ (by omega)] at t2
    rw [h5 7 _ _ (by omega)]
    exact v2.2.1 t t1 t2
  · rw [nK] at ha
    rw [nW]
    obtain ⟨⟨w1, w2, w3⟩, w4⟩ := v2.2.2 a ha c hc
    refine ⟨⟨fun k hk => ?_, fun k k1 k2 => ?_, fun k k' k1 k2 => ?_⟩, iHd_c (E := E) (i := a) (c := c) (fun k => h5 _ _ _ (by omega)) w4⟩
    · obtain ⟨x, x1, x2⟩ := w1 k hk
      exact ⟨x, by omega, (h5 _ _ _ (by omega)).trans x2⟩
    · obtain ⟨x1, x2⟩ := w2 k k1 k2
      rw [h5 _ _ _ (by omega), h5 _ _ _ (by omega), h5 _ _ _ (by omega), hlk _ _ x2]
      exact ⟨x1, x2⟩
    · rw [h5 _ _ _ (by omega), h5 _ _ _ (by omega)]
      exact w3 k k' k1 k2
  · rw [nK] at ha
    exact iQ_o (fun k => h5 _ _ _ (by omega)) (h5 _ _ _ (by omega)) (h5 _ _ _ (by omega)) (fun k => h5 _ _ _ (by omega)) (fun k => h5 _ _ _ (by omega)) (v4 a ha)
  · obtain ⟨⟨q, q1, q2⟩, h2⟩ := v5 r hr
    exact ⟨⟨q, by rw [nK]; exact q1, q2⟩, h2⟩
theorem rB_net {E E' : VV} {ρ ρ' : Nat → Int32} (hB : rB ρ E) (h5 : ∀ kd a k, 5 ≤ kd → E' kd a k = E kd a k) (k5 : E' 0 0 5 = E 0 0 5) (hN : rN ρ' E') (hρ : ∀ q, q < 632 → q = 4 ∨ 104 ≤ q → ρ' q = ρ q) : rB ρ' E' := by
  have nK : eK E' = eK E := by unfold eK; rw [k5]
  have nW : eW E' = eW E := by
    funext a c
    unfold eW eA eB
    rw [h5 10 _ _ (by omega), h5 14 _ _ (by omega)]
  obtain ⟨-, ⟨k1, k2, k3⟩, c1⟩ := hB
  have lt : ∀ a c k, a < 8 → c < 2 → k < 25 → 120 + 66 * a + 25 * c + k < 632 := fun a c k h1 h2 h3 => by
    rcases (show c = 0 ∨ c = 1 by omega) with z | z <;> subst z <;> omega
  refine ⟨hN, ⟨by rw [nK]; exact (hρ 4 (by omega) (by omega)).trans k1, by rw [nK]; exact k2, fun a ha c hc => ?_⟩, fun a ha => ?_⟩
  · rw [nK] at ha
    rw [nW]
    refine rW_e (rW_c (k3 a ha c hc) (fun k q1 q2 => hρ k ?_ (by omega))) (fun k => h5 _ _ _ (by omega)) (fun k => h5 _ _ _ (by omega))
    have := lt a c (k - (120 + 66 * a + 25 * c)) (by omega) hc (by omega)
    omega
  · rw [nK] at ha
    obtain ⟨d1, d2, d3⟩ := c1 a ha
    refine ⟨fun k q1 q2 q3 => ?_, ?_, fun c hc k q1 q2 => ?_⟩
    · have := pk_l k q1 q2 q3
      rw [hρ _ (by omega) (by omega), h5 9 _ _ (by omega)]
      exact d1 k q1 q2 q3
    · rw [hρ _ (by omega) (by omega), d2]
      exact (stE_c (fun k => h5 9 _ _ (by omega)) (h5 10 _ _ (by omega)) (fun k => h5 13 _ _ (by omega))).symm
    · rw [nW] at q2
      have h6 := (k3 a ha c hc).2.1
      have := lt a c (19 + k) (by omega) hc (by omega)
      rw [hρ _ (by omega) (by omega), d3 c hc k q1 q2, h5 (13 + 4 * c) _ _ (by omega)]
      exact (mdE_c (fun k => h5 7 _ _ (by omega)) _).symm
/-- numbers of circuits and totals may change, some of them -/
theorem iG_kQ {E E' : VV} {l l' : List (Nat → Int32)} (hI : iG E l) (h : kQ E E') (hq : ∀ i, i < eK E → iQ E' i 0) (hb : ∀ i, i < eK E → E' 9 i 0 = E 9 i 0) (hl : ∀ r, r ∈ l' → pkO E r) : ∀ {E'' : VV}, E'' = uV E' 0 0 6 (nn l'.length) → l'.length ≤ 60 → iG E'' l' := by
  intro E'' e h60
  subst e
  obtain ⟨⟨v1, v2, v3, v4, v5, v6⟩, g2, g3, g4, g5, s1, s2, s3, s4, s5⟩ := hI
  have o : ∀ kd i k, ¬ (kd = 0 ∧ k = 6) → uV E' 0 0 6 (nn l'.length) kd i k = E' kd i k := fun kd i k h => by rw [uV_at, if_neg (by omega)]
  have o2 : ∀ kd i k, kd < 8 → ¬ (kd = 0 ∧ k = 6) → uV E' 0 0 6 (nn l'.length) kd i k = E kd i k := fun kd i k h1 h2 => by rw [o _ _ _ h2, h kd i k (by omega) (by omega)]
  have nK : eK (uV E' 0 0 6 (nn l'.length)) = eK E := by unfold eK; rw [o2 0 _ _ (by omega) (by omega)]
  have nN : eN (uV E' 0 0 6 (nn l'.length)) = eN E := by unfold eN; rw [o2 1 _ _ (by omega) (by omega)]
  have nL : eL (uV E' 0 0 6 (nn l'.length)) = eL E := by unfold eL; rw [o2 1 _ _ (by omega) (by omega)]
  have nZ : ∀ f, eZ (uV E' 0 0 6 (nn l'.length)) f = eZ E f := fun f => by unfold eZ; rw [o2 4 _ _ (by omega) (by omega)]
  have nlk : ∀ x y, lkE (uV E' 0 0 6 (nn l'.length)) x y = lkE E x y := fun x y => by
    unfold lkE
    rw [nL]
    exact fi_c (fun j _ _ => by rw [o2 3 _ _ (by omega) (by omega), o2 3 _ _ (by omega) (by omega)])
  refine ⟨⟨?_, ?_, fun j hj => ?_, fun i hi => ?_, fun r hr => ?_, uV_s⟩, fun x y hx hy => ?_, fun f y hf hy e => ?_, fun j hj => ?_, fun j hj => ?_, ?_, ?_, fun j hj => ?_, fun a ha => ?_, fun f f1 f2 => ?_⟩
  · have g := kQ_G h v1
    refine vG_of ((o 1 0 0 (by omega)).trans g.1) ((o 1 0 1 (by omega)).trans g.2.1) ((o 0 0 5 (by omega)).trans g.2.2.1) uV_s g.2.2.2.2.1.1 g.2.2.2.2.1.2.1 g.2.2.2.2.1.2.2.1 h60 (fun i hi => ?_) (fun i hi => ?_) (fun i hi => ?_)
    · rw [o 4 _ _ (by omega)]; exact vG_Z g i hi
    · rw [o 10 _ _ (by omega)]; exact vG_A g i hi
    · rw [o 14 _ _ (by omega)]; exact vG_B g i hi
  · exact kS6_iX (fun kd i k _ _ h3 => o kd i k h3) (kQ_iX h v2)
  · rw [nL] at hj
    rw [o2 3 _ _ (by omega) (by omega)]
    exact v3 j hj
  · rw [nK] at hi
    exact iQ_o (fun k => o _ _ _ (by omega)) (o _ _ _ (by omega)) (o _ _ _ (by omega)) (fun k => o _ _ _ (by omega)) (fun k => o _ _ _ (by omega)) (hq i hi)
  · obtain ⟨⟨q, q1, q2⟩, h2⟩ := hl r hr
    exact ⟨⟨q, by rw [nK]; exact q1, q2⟩, h2⟩
  · rw [o2 2 _ _ (by omega) (by omega), nlk]
    exact g2 x y hx hy
  · rw [o2 5 _ _ (by omega) (by omega)] at e
    rw [nZ]
    exact g3 f y hf hy e
  · rw [nL] at hj
    rw [o2 3 _ _ (by omega) (by omega)]
    exact g4 j hj
  · rw [nL] at hj
    rw [nN, nlk, o2 3 _ _ (by omega) (by omega), o2 3 _ _ (by omega) (by omega)]
    exact g5 j hj
  · rw [o2 0 _ _ (by omega) (by omega)]
    exact s1
  · rw [o2 0 _ _ (by omega) (by omega)]
    exact s2
  · rw [nL] at hj
    rw [o2 3 _ _ (by omega) (by omega)]
    exact s3 j hj
  · rw [nK] at ha
    rw [o 9 _ _ (by omega), hb a ha]
    exact s4 a ha
  · rw [nN] at f1
    rw [nZ]
    exact s5 f f1 f2
theorem uV_id {E : VV} {kd i k : Nat} {x : Int32} (h : E kd i k = x) : uV E kd i k x = E := by
  funext a b c
  rw [uV_at]
  split
  · rename_i z
    rw [z.1, z.2.1, z.2.2, h]
  · rfl
theorem bk_kQ {E : VV} {i : Nat} {y : Int32} : kQ E (bkE E i y) := kQ_t (kQ_9 (by omega)) kQ_8
theorem bk_iG {E : VV} {l : List (Nat → Int32)} {i y : Nat} (hI : iG E l) (hi : i < eK E) (hy : y ≤ 9) (h60 : l.length ≤ 60) : iG (bkE E i (nn y)) l := by
  have hv := hI.1
  refine iG_kQ hI (bk_kQ (i := i) (y := nn y)) (fun j hj => ?_) (fun j hj => ?_) hv.2.2.2.2.1 (uV_id ?_).symm ?_
  · obtain ⟨q1, ⟨w, w1, w2⟩, q3, q4, q5⟩ := hv.2.2.2.1 j hj
    have o : ∀ k, k ≠ 3 → bkE E i (nn y) 9 j k = E 9 j k := fun k hk => by
      unfold bkE
      rw [uV_k (by omega), uV_p hk]
    refine ⟨q1, ?_, q3, q4, ?_⟩
    · by_cases e : j = i
      · subst e
        have e3 : bkE E j (nn y) 9 j 3 = nn (if w + y ≤ 9 then w + y else 9) := by
          unfold bkE
          rw [uV_k (by omega), uV_s, w2, nn_add, (mnx (by omega)).1]
        exact ⟨_, by split <;> omega, e3⟩
      · refine ⟨w, w1, ?_⟩
        unfold bkE
        rw [uV_k (by omega), uV_i e]
        exact w2
    · rw [o 2 (by omega), o 10 (by omega), o 9 (by omega), o 8 (by omega)]
      exact q5
  · unfold bkE
    rw [uV_k (by omega), uV_p (by omega)]
  · exact hv.2.2.2.2.2
  · exact h60
