/-! THE FIRST NODE HAS NO LABEL; what best ways' links are -/
def iS0 (E : VV) : Prop := ∀ i c, i < eK E → c < 2 → 0 < eW E i c → E (13 + 4 * c) i 0 = -1
theorem z0_c {E E' : VV} (hK : eK E' = eK E) (hW : ∀ a c, c < 2 → eW E' a c = eW E a c) (h : ∀ a c, c < 2 → E' (13 + 4 * c) a 0 = E (13 + 4 * c) a 0 ∨ E' (13 + 4 * c) a 0 = -1) (hS : iS0 E) : iS0 E' := fun i c h1 h2 h3 => by
  rw [hK] at h1
  rw [hW i c h2] at h3
  rcases h i c h2 with e | e
  · rw [e]
    exact hS i c h1 h2 h3
  · exact e
theorem z0_6 {E E' : VV} (h : kS6 E E') (hS : iS0 E) : iS0 E' := z0_c (kS6_K h) (fun a c _ => by rw [kS6_eW h]) (fun a c _ => Or.inl (h _ _ _ (by omega) (by omega) (by omega))) hS
theorem z0_mC {E : VV} {i : Nat} (hX : iX E) (hS : hS0 E) (hG : vG E) (hi : i < eK E) (hQ : iQ E i 0) (h0 : iS0 E) : iS0 (mC E i) := by
  have nK : eK (mC E i) = eK E := eK_mC
  intro a c h1 h2 h3
  rw [nK] at h1
  by_cases e : a = i
  · subst e
    have same : ∀ W : VV, (∀ kd k, 10 ≤ kd → W kd a k = E kd a k ∨ (kd = 13 ∧ W kd a k = -1)) → (0 < eW W a c → W (13 + 4 * c) a 0 = -1) := fun W g z => by
      have w : eW W a c = eW E a c := by
        unfold eW eA eB
        rw [(g 10 0 (by omega)).resolve_right (by omega), (g 14 0 (by omega)).resolve_right (by omega)]
      rw [w] at z
      rcases g (13 + 4 * c) 0 (by omega) with y | y
      · rw [y]
        exact h0 a c h1 h2 z
      · exact y.2
    rcases mC_is hX hS hG hi hQ with ⟨ph, em⟩ | ⟨ph, v, t, v1, v2, t1, e10, e17, em⟩ | ⟨ph, e10, h, em⟩ | ⟨ph, d, d1, d2, e9, em⟩ | ⟨ph, e9, em⟩ | ⟨ph, x, t, x1, x2, t1, e13, em⟩ | ⟨ph, x, t, y, x1, x2, t1, e13, em⟩
    · rw [em] at h3 ⊢
      exact h0 a c h1 h2 h3
    · rw [em] at h3 ⊢
      exact same _ (fun kd k hk => Or.inl (by rw [uV_k (by omega), uV_k (by omega)])) h3
    · rw [em] at h3 ⊢
      exact same _ (fun kd k hk => Or.inl (by rw [uV_k (by omega), uV_k (by omega), uV_k (by omega)])) h3
    · rw [em] at h3 ⊢
      exact same _ (fun kd k hk => Or.inl (uV_k (by omega))) h3
    · rw [em] at h3 ⊢
      exact same _ (fun kd k hk => Or.inl (by rw [uV_k (by omega), uV_k (by omega)])) h3
    · rw [em] at h3 ⊢
      refine same _ (fun kd k hk => ?_) h3
      by_cases z : kd = 13
      · subst z
        rw [gvE_13]
        split
        · exact Or.inr ⟨rfl, rfl⟩
        · exact Or.inl rfl
      · exact Or.inl (gvE_o (by omega) z)
    · rw [em] at h3 ⊢
      obtain ⟨W, hW⟩ : ∃ W, W = uV (tkN (gvE E a x t) a) 8 0 5 y := ⟨_, rfl⟩
      rw [← hW] at h3 ⊢
      have s : ∀ kd k, 10 ≤ kd → kd ≤ 13 → W kd a k = E (kd + 4) a k := fun kd k h1 h2 => by
        rw [hW, uV_k (by omega), tkN_s h1 h2, gvE_o (by omega) (by omega)]
      rcases (show c = 0 ∨ c = 1 by omega) with z | z
      · subst z
        have w0 : eW W a 0 = eW E a 1 := by
          show (W 10 a 0).toInt.toNat = _
          rw [s 10 0 (by omega) (by omega)]
          rfl
        rw [w0] at h3
        exact (s 13 0 (by omega) (by omega)).trans (h0 a 1 h1 (by omega) h3)
      · subst z
        have : eW W a 1 = 0 := by
          show (W 14 a 0).toInt.toNat = 0
          rw [hW, uV_k (by omega)]
          unfold tkN
          rw [uV_k (by omega), uV_s]
          rfl
        omega
  · have n : ∀ kd k, 9 ≤ kd → kd ≤ 17 → mC E i kd a k = E kd a k := fun kd k h1 h2 => mC_n e h1 h2
    have w : eW (mC E i) a c = eW E a c := by
      unfold eW eA eB
      rw [n 10 0 (by omega) (by omega), n 14 0 (by omega) (by omega)]
    rw [w] at h3
    rw [n _ 0 (by omega) (by omega)]
    exact h0 a c h1 h2 h3
theorem z0_mvC : ∀ (k j : Nat) (E : VV), vG E → iX E → iL E → hS0 E → (∀ i, i < eK E → iQ E i (if i < j then 1 else 0)) → iS0 E → j + k = eK E → iS0 (mvC E j k) := by
  intro k
  induction k with
  | zero => exact fun j E _ _ _ _ _ h _ => h
  | succ k ih =>
    intro j E hG hX hL hS hQ h0 hj
    have hK8 := hG.2.2.2.2.1.2.2.1
    have hjK : j < eK E := by omega
    have hq0 := hQ j hjK
    rw [if_neg (by omega)] at hq0
    obtain ⟨nX, nQ⟩ := mC_all hG hX hL hjK hq0 (hS_sl hS hjK)
    have nK : eK (mC E j) = eK E := eK_mC
    refine ih (j + 1) (mC E j) (vG_mC (by omega) hG) nX (iL_mC hL) (hS_mC hS) (fun i hi => ?_) (z0_mC hX hS hG hjK hq0 h0) (by rw [nK]; omega)
    rw [nK] at hi
    by_cases e : i = j
    · subst e
      rw [if_pos (by omega)]
      exact nQ
    · have := hQ i hi
      have e2 : (if i < j + 1 then 1 else 0) = if i < j then 1 else 0 := by
        by_cases e3 : i < j
        · rw [if_pos e3, if_pos (by omega)]
        · rw [if_neg e3, if_neg (by omega)]
      rw [e2]
      exact iQ_o (fun k => mC_n e (by omega) (by omega)) (mC_n e (by omega) (by omega)) (mC_n e (by omega) (by omega)) (fun k => mC_n e (by omega) (by omega)) (fun k => mC_n e (by omega) (by omega)) this
theorem z0_tk {E : VV} {l : List (Nat → Int32)} (hV : iV E l) (hS : hS0 E) (h60 : l.length ≤ 60) (h0 : iS0 E) : iS0 (tkE E l).1 := by
  obtain ⟨a1, a2, a3, a4, a5, a6, a7, a8, a9⟩ := tk1_ok hV hS h60
  have h2 := z0_mvC (eK E) 0 (tk1 E l) a1 a2 a3 a4 (fun i hi => by rw [if_neg (by omega)]; exact a5 i (by rw [a9] at hi; exact hi)) (z0_6 tk1_6 h0) (by rw [a9]; omega)
  rw [tkE_1]
  exact z0_c (E := (sA (mvC (tk1 E l) 0 (eK E)) 0 (eK E)).1) rfl (fun _ _ _ => rfl) (fun a c _ => Or.inl (uV_k (by omega))) (z0_6 kS6_sA h2)
theorem z0_sm {E E' : VV} (h : smE E E') (h0 : iS0 E) : iS0 E' := fun i c h1 h2 h3 => by
  rw [sm_K h] at h1
  rw [sm_W h h1 h2] at h3
  rw [sm_13 h h1 h2 h3]
  exact h0 i c h1 h2 h3
theorem tl_z {i c : Nat} : ∀ {r j : Nat} {E : VV}, 1 ≤ j → (tlE E i c j r).2 (13 + 4 * c) i 0 = E (13 + 4 * c) i 0 := by
  intro r
  induction r with
  | zero => exact fun _ => rfl
  | succ r ih =>
    intro j E hj
    rw [tlE_S]
    split
    · rfl
    · rw [ih (by omega), taE_o (by omega) (by omega) (by omega) (by omega)]
theorem z0_op {E : VV} {n : Nat} {N L : Nat → Int32} {x y : Int32} {l : List (Nat → Int32)} {d : Nat → Nat} (hI : iG E l) (hd : dW E n d) (hN : ∀ k, k < n → N k = nn (d k)) (h0 : iS0 E) : iS0 (opV E n N L x y).2 := by
  by_cases z : (opV E n N L x y).1 = 0
  · have hK8 := hI.1.1.2.2.2.2.1.2.2.1
    revert z
    unfold opV
    by_cases c1 : 8 ≤ eK E
    · rw [if_pos c1]
      exact fun _ => h0
    · rw [if_neg c1]
      by_cases c2 : n < 2
      · rw [if_pos c2]
        exact fun _ => h0
      · rw [if_neg c2]
        split
        · exact fun _ => h0
        · split
          · intro z
            exact absurd z (show ¬ ((6 : Int32) = 0) by decide)
          · intro _
            intro i c h1 h2 h3
            have nK : eK (uV (mkL (tlE (opB E n N L x y) (eK E) 0 1 (n - 1)).2 (eK E) 0 1 (n - 1)) 0 0 5 (nn (eK E + 1))) = eK E + 1 := eK_nn uV_s (by omega)
            dsimp only at h1 h3 ⊢
            rw [nK] at h1
            by_cases e : i = eK E
            · subst e
              rcases (show c = 0 ∨ c = 1 by omega) with q | q
              · subst q
                have q2 := tl_z (i := eK E) (c := 0) (r := n - 1) (j := 1) (E := opB E n N L x y) (by omega)
                rw [uV_k (by omega), mkL_o (by omega), q2]
                unfold opB
                rw [cpV_at, if_neg (by omega), if_neg (by omega), if_neg (by omega), if_pos (by omega)]
              · subst q
                have w : eW (uV (mkL (tlE (opB E n N L x y) (eK E) 0 1 (n - 1)).2 (eK E) 0 1 (n - 1)) 0 0 5 (nn (eK E + 1))) (eK E) 1 = 0 := by
                  show ((uV (mkL (tlE (opB E n N L x y) (eK E) 0 1 (n - 1)).2 (eK E) 0 1 (n - 1)) 0 0 5 (nn (eK E + 1))) 14 (eK E) 0).toInt.toNat = 0
                  rw [uV_k (by omega), mkL_o (by omega), tl_o (by omega) (by omega) (by omega) (by omega)]
                  unfold opB
                  rw [cpV_o (by omega), bgV_at, if_neg (by omega), if_pos (by omega)]
                  rfl
                omega
            · have fr : ∀ kd k, 10 ≤ kd → kd ≤ 17 → uV (mkL (tlE (opB E n N L x y) (eK E) 0 1 (n - 1)).2 (eK E) 0 1 (n - 1)) 0 0 5 (nn (eK E + 1)) kd i k = E kd i k := fun kd k k1 k2 => by
                rw [uV_k (by omega), mkL_o (by omega), tl_o (by omega) (by omega) (by omega) (by omega), opB_o (by omega)]
              have w : eW (uV (mkL (tlE (opB E n N L x y) (eK E) 0 1 (n - 1)).2 (eK E) 0 1 (n - 1)) 0 0 5 (nn (eK E + 1))) i c = eW E i c := by
                unfold eW eA eB
                rw [fr 10 0 (by omega) (by omega), fr 14 0 (by omega) (by omega)]
              rw [w] at h3
              rw [fr _ 0 (by omega) (by omega)]
              exact h0 i c (by omega) h2 h3
  · exact z0_sm (op_no hI hd hN z).1 h0
theorem z0_mv {E : VV} {i n : Nat} {N L : Nat → Int32} {l : List (Nat → Int32)} {d : Nat → Nat} (hI : iG E l) (hi : i < eK E) (hd : dW E n d) (hN : ∀ k, k < n → N k = nn (d k)) (h0 : iS0 E) : iS0 (mvV E i n N L).2 := by
  by_cases z : (mvV E i n N L).1 = 0
  · revert z
    unfold mvV
    split
    · exact fun _ => h0
    · split
      · exact fun _ => h0
      · split
        · exact fun _ => h0
        · split
          · exact fun _ => h0
          · split
            · intro z
              exact absurd z (show ¬ ((6 : Int32) = 0) by decide)
            · intro _
              intro a c h1 h2 h3
              have nK : eK (uV (uV (tlE (mvB E i n N L) i 1 1 (n - 1)).2 9 i 2 1) 9 i 10 (nn (n - 1))) = eK E := by
                unfold eK
                rw [uV_k (by omega), uV_k (by omega), tl_o (by omega) (by omega) (by omega) (by omega)]
                unfold mvB
                rw [cpV_o (by omega)]
              dsimp only at h1 h3 ⊢
              rw [nK] at h1
              by_cases e : a = i ∧ c = 1
              · obtain ⟨rfl, rfl⟩ := e
                have q2 := tl_z (i := a) (c := 1) (r := n - 1) (j := 1) (E := mvB E a n N L) (by omega)
                rw [uV_k (by omega), uV_k (by omega), q2]
                unfold mvB
                rw [cpV_at, if_neg (by omega), if_neg (by omega), if_neg (by omega), if_pos (by omega)]
              · have fr : ∀ kd k, 10 ≤ kd → kd ≤ 17 → ¬ (a = i ∧ 14 ≤ kd) → uV (uV (tlE (mvB E i n N L) i 1 1 (n - 1)).2 9 i 2 1) 9 i 10 (nn (n - 1)) kd a k = E kd a k := fun kd k k1 k2 k3 => by
                  rw [uV_k (by omega), uV_k (by omega), tl_o (by omega) (by omega) (by omega) (by omega)]
                  unfold mvB
                  rw [cpV_o (by omega)]
                have w : eW (uV (uV (tlE (mvB E i n N L) i 1 1 (n - 1)).2 9 i 2 1) 9 i 10 (nn (n - 1))) a c = eW E a c := by
                  rcases (show c = 0 ∨ c = 1 by omega) with q | q
                  · subst q
                    show eA _ a = eA E a
                    unfold eA
                    rw [fr 10 0 (by omega) (by omega) (by omega)]
                  · subst q
                    show eB _ a = eB E a
                    unfold eB
                    rw [fr 14 0 (by omega) (by omega) (by omega)]
                rw [w] at h3
                rw [fr _ 0 (by omega) (by omega) (by omega)]
                exact h0 a c h1 h2 h3
  · exact z0_sm (mv_no hI hi hd hN z).1 h0
theorem z0_ab {E : VV} {i : Nat} (h0 : iS0 E) : iS0 (abE E i) := by
  have nK : eK (abE E i) = eK E := by unfold eK; rw [abE_o (by omega) (by omega) (by omega)]
  intro a c h1 h2 h3
  rw [nK] at h1
  by_cases e : a = i ∧ c = 1
  · obtain ⟨rfl, rfl⟩ := e
    have : eW (abE E a) a 1 = 0 := by
      show (abE E a 14 a 0).toInt.toNat = 0
      unfold abE
      rw [uV_k (by omega), uV_k (by omega), uV_k (by omega), uV_s]
      rfl
    omega
  · have w : eW (abE E i) a c = eW E a c := by
      rcases (show c = 0 ∨ c = 1 by omega) with q | q
      · subst q
        show eA _ a = eA E a
        unfold eA
        rw [abE_o (by omega) (by omega) (by omega)]
      · subst q
        show eB _ a = eB E a
        unfold eB
        rw [abE_o (by omega) (by omega) (by omega)]
    rw [w] at h3
    rw [abE_o (by omega) (by omega) (by omega)]
    exact h0 a c h1 h2 h3
theorem z0_cs {E : VV} {i : Nat} (hK8 : eK E ≤ 8) (h0 : iS0 E) : iS0 (csE E i) := fun a c h1 h2 h3 => by
  rw [cs_K hK8] at h1
  have ha : a + 1 < eK E := by omega
  rw [cs_W h2 ha hK8] at h3
  rw [cs_w (by omega) (by omega) ha hK8]
  exact h0 _ c (csp_1 (i := i) ha).2.1 h2 h3
theorem z0_su {E : VV} {l : List (Nat → Int32)} {j : Nat} {u : Bool} (h0 : iS0 E) : iS0 (suE E l j u) := by
  obtain ⟨kq, -⟩ := pu_kQ (x := nn j) (u := u) (l := l) (E := uV E 3 j 4 (bi u))
  have fr : ∀ kd a k, kd ≠ 8 → kd ≠ 9 → kd ≠ 3 → ¬ (kd = 0 ∧ k = 6) → suE E l j u kd a k = E kd a k := fun kd a k z1 z2 z3 z4 => by
    unfold suE
    rw [uV_at, if_neg (by omega), kq kd a k z1 (by omega), uV_k z3]
  refine z0_c (by unfold eK; rw [fr 0 0 5 (by omega) (by omega) (by omega) (by omega)]) (fun a c hc => ?_) (fun a c hc => Or.inl (fr _ _ _ (by omega) (by omega) (by omega) (by omega))) h0
  unfold eW eA eB
  rw [fr 10 a 0 (by omega) (by omega) (by omega) (by omega), fr 14 a 0 (by omega) (by omega) (by omega) (by omega)]
/-! the links of best ways are open -/
def pop (lk : Nat → Nat → Int) (op : Nat → Bool) (n : Nat) (P : Nat → Nat) : Prop := ∀ k, 1 ≤ k → k < n → op (lk (P (k - 1)) (P k)).toNat = true
theorem vs_op {N t : Nat} {lk : Nat → Nat → Int} {op : Nat → Bool} {dl : Nat → Nat} : ∀ {r n d : Nat} {P : Nat → Nat} {b : Bst}, 1 ≤ n → pop lk op n P → (b.1 ≠ 0 → pop lk op b.1 b.2.2) → ((vs N t lk op dl r n P d b).1 ≠ 0 → pop lk op (vs N t lk op dl r n P d b).1 (vs N t lk op dl r n P d b).2.2) := by
  have term : ∀ {n d : Nat} {P : Nat → Nat} {b : Bst}, pop lk op n P → (b.1 ≠ 0 → pop lk op b.1 b.2.2) → ((kb b n d P).1 ≠ 0 → pop lk op (kb b n d P).1 (kb b n d P).2.2) := by
    intro n d P b hp hb
    unfold kb
    split
    · exact fun _ => hp
    · exact hb
  intro r
  induction r with
  | zero =>
    intro n d P b h1 h2 h3
    by_cases e : P (n - 1) = t
    · rw [vs_t e]
      exact term h2 h3
    · rw [vs_0 e]
      exact h3
  | succ r ih =>
    intro n d P b h1 h2 h3
    by_cases e : P (n - 1) = t
    · rw [vs_t e]
      exact term h2 h3
    · rw [vs_S e]
      have : ∀ k x (b : Bst), (b.1 ≠ 0 → pop lk op b.1 b.2.2) → ((vlp lk op dl (vs N t lk op dl r) n P d x k b).1 ≠ 0 → pop lk op (vlp lk op dl (vs N t lk op dl r) n P d x k b).1 (vlp lk op dl (vs N t lk op dl r) n P d x k b).2.2) := by
        intro k
        induction k with
        | zero => exact fun _ _ h => h
        | succ k ihk =>
          intro x b hb
          rw [vlp_S]
          refine ihk (x + 1) _ ?_
          by_cases e : okn lk op n P x = true
          · rw [if_pos e]
            have ho : op (lk (P (n - 1)) x).toNat = true := by
              unfold okn at e
              rw [Bool.and_eq_true, Bool.and_eq_true] at e
              exact e.2.1
            refine ih (by omega) (fun k k1 k2 => ?_) hb
            by_cases kn : k = n
            · subst kn
              rw [upf_s, upf_o (by omega)]
              exact ho
            · rw [upf_o (by omega), upf_o kn]
              exact h2 k k1 (by omega)
          · rw [if_neg e]
            exact hb
      exact this N 0 b h3
theorem bs_hr {E : VV} {band e y : Int32} {f0 t : Nat} (hL16 : eL E ≤ 16) (hiL : iL E) (hf : f0 < eN E) (hft : f0 ≠ t) (h0 : (bsE E band e y f0 t).1 ≠ 0) {L : Nat → Int32} (hL : ∀ k, 1 ≤ k → k < (bsE E band e y f0 t).1 → L k = ii (lkE E (nn ((bsE E band e y f0 t).2.2 (k - 1))) (nn ((bsE E band e y f0 t).2.2 k)))) :
    ∀ k, 1 ≤ k → k < (bsE E band e y f0 t).1 → hr E (eL E) (eK E) (eA E) (eB E) (L k).toInt band e = true := by
  intro k k1 k2
  have h := vs_op (N := eN E) (t := t) (lk := lkf E) (op := opF (useF E band e) y) (dl := dlF E) (r := 5) (n := 1) (d := 0) (P := fun _ => f0) (b := (0, 0, fun _ => 0)) (by omega) (fun k k1 k2 => by omega) (fun z => absurd rfl z) h0 k k1 k2
  have hl := op_L h
  have hu : useF E band e (lkf E ((bsE E band e y f0 t).2.2 (k - 1)) ((bsE E band e y f0 t).2.2 k)).toNat = true := by
    unfold opF at h
    rw [Bool.and_eq_true] at h
    exact h.1
  unfold useF at hu
  have hge : (0 ≤ lkf E ((bsE E band e y f0 t).2.2 (k - 1)) ((bsE E band e y f0 t).2.2 k) ∧ lkf E ((bsE E band e y f0 t).2.2 (k - 1)) ((bsE E band e y f0 t).2.2 k) < eL E) ∨ lkf E ((bsE E band e y f0 t).2.2 (k - 1)) ((bsE E band e y f0 t).2.2 k) = -1 := by
    unfold lkf lkE
    rcases fi_r (p := fun j => decide ((E 3 j 0 = nn ((bsE E band e y f0 t).2.2 (k - 1)) ∧ E 3 j 1 = nn ((bsE E band e y f0 t).2.2 k)) ∨ (E 3 j 0 = nn ((bsE E band e y f0 t).2.2 k) ∧ E 3 j 1 = nn ((bsE E band e y f0 t).2.2 (k - 1))))) (k := eL E) (j := 0) with z | z
    · exact Or.inr z
    · exact Or.inl ⟨by omega, by omega⟩
  rw [hL k k1 k2]
  rcases hge with z | z
  · have e : (ii (lkE E (nn ((bsE E band e y f0 t).2.2 (k - 1))) (nn ((bsE E band e y f0 t).2.2 k)))).toInt = ((lkf E ((bsE E band e y f0 t).2.2 (k - 1)) ((bsE E band e y f0 t).2.2 k)).toNat : Int) := by
      show (ii (lkf E _ _)).toInt = _
      rw [ii_toInt (by omega) (by omega)]
      omega
    rw [e]
    exact hu
  · have e1 : lkf E ((bsE E band e y f0 t).2.2 (k - 1)) ((bsE E band e y f0 t).2.2 k) = lkE E (nn ((bsE E band e y f0 t).2.2 (k - 1))) (nn ((bsE E band e y f0 t).2.2 k)) := rfl
    exact absurd (e1.symm.trans z) ((bs_dW hiL hf hft h0).1.2.2.1 k k1 k2)
