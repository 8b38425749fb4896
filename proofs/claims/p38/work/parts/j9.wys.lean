/-! THE LAW: ways are so, all of them; sums -/
theorem cnt_sum {f : (Nat → Int32) → Int32} {K : Nat} (hK : K < 1000000) : ∀ {l : List (Nat → Int32)}, (∀ r, r ∈ l → ∃ i, i < K ∧ f r = nn i) → sn (fun i => l.countP (fun r => decide (f r = nn i))) 0 K = l.length := by
  intro l
  induction l with
  | nil =>
    intro _
    exact sn_z (fun i _ _ => rfl)
  | cons r l ih =>
    intro h
    obtain ⟨i, i1, i2⟩ := h r (List.mem_cons_self)
    have e : sn (fun i => (r :: l).countP (fun r => decide (f r = nn i))) 0 K = sn (fun i => l.countP (fun r => decide (f r = nn i)) + (if decide (f r = nn i) = true then 1 else 0)) 0 K := sn_c (fun j _ _ => List.countP_cons)
    rw [e, sn_add, ih (fun r hr => h r (List.mem_cons_of_mem _ hr)), sn_1 (j := i) (by omega) (by omega) (fun j _ hj hn => if_neg (fun z => hn (nn_e (by omega) (by omega) ((of_decide_eq_true z).symm.trans i2)))), if_pos (decide_eq_true i2)]
    rfl
section
variable {H : fm_H} {m : fm_M} {o x sc n T : Nat} {E : VV} {l : List (Nat → Int32)} {d : Nat → Nat} {sv : Nat → Option (VV × List (Nat → Int32))}
theorem q_w225 (hX : LX H o x sc) (hD : DS x T m E l n d sv) (hT : T ≤ 1000) {k18 : Int32 → Int32 → Int32 → Int32 → Int32 → Int32 → Int32 → fm_M → Option (Int32 × fm_M)} {v1 v2 v3 v4 v5 v6 : Int32} {i : Nat} (hi : i < eK E) : f_L_waysAreSo_225 H k18 o v1 v2 v3 v4 v5 v6 (nn i) (E 9 i 2) fm_N (0 : Int32) (0 : Int32) m = k18 v1 v2 v3 v4 v5 v6 (nn (i + 1)) m := by
  have hx := hX.1
  have e0 := hX.2.2.1
  have hJ := hD.2.2.2.2.2.1
  have hI := hJ.1
  have hK8 := hI.1.1.2.2.2.2.1.2.2.1
  have hA2 := (hI.1.2.2.2.1 i hi).1
  have h60 := eW_6 hI.1.1 (i := i) (c := 0) (by omega) (by omega)
  have h61 := eW_6 hI.1.1 (i := i) (c := 1) (by omega) (by omega)
  obtain ⟨q, eq⟩ : ∃ q, fm_N = q + 3 := ⟨fm_N - 3, by unfold fm_N; omega⟩
  have f553 : f_L_waysAreSo_553 H k18 o v1 v2 v3 v4 v5 v6 (nn i) (E 9 i 2) m = k18 v1 v2 v3 v4 v5 v6 (nn (i + 1)) m := by
    unfold f_L_waysAreSo_553
    rw [nn_inc]
    by_cases p : E 9 i 2 = 0
    · obtain ⟨n0, u1, u2, u3, u4⟩ := mu_st hJ hi
      rw [if_pos p, e0, L_movedIn hx hD hi, fb_n, if_pos (show mu E i = 0 by rw [u2, u3.mpr p]; rfl)]
    · rw [if_neg p]
  have f2 : f_L_waysAreSo_225 H k18 o v1 v2 v3 v4 v5 v6 (nn i) (E 9 i 2) (q + 1) (nn (0 + eW E i 0 + eW E i 1)) (nn 2) m = k18 v1 v2 v3 v4 v5 v6 (nn (i + 1)) m := by
    obtain ⟨y, y1, y2⟩ := L_meanDelay hx hD hi (by omega)
    have hA : eW E i 0 = eA E i := rfl
    unfold f_L_waysAreSo_225
    rw [if_pos (show (2 : Int32) ≤ nn 2 by decide), if_neg (show ¬ nn (0 + eW E i 0 + eW E i 1) < (2 : Int32) by rw [show (2 : Int32) = nn 2 from rfl, nn_lt (by omega) (by omega)]; omega), e0, y1, fb_n]
    by_cases z : (Op.cmpValue (FP.dcmp y (13830554455654793216 : UInt64)) .l) = 0
    · rw [if_pos z]
      exact f553
    · rw [if_neg z]
      have c8 : f_L_circuit H x (nn i) (8 : Int32) m = some (E 9 i 5, m) := L_circuit hx hD hi (y := 8) (by omega)
      rw [c8, fb_n, if_neg (fun q => z (by
        rw [y2 q]
        decide))]
      exact f553
  have f1 : f_L_waysAreSo_225 H k18 o v1 v2 v3 v4 v5 v6 (nn i) (E 9 i 2) (q + 2) (nn (0 + eW E i 0)) (nn 1) m = k18 v1 v2 v3 v4 v5 v6 (nn (i + 1)) m := by
    have w := q_w237 hX hD (k18 := k18) (k225 := f_L_waysAreSo_225 H k18 o v1 v2 v3 v4 v5 v6 (nn i) (E 9 i 2) (q + 1)) (v1 := v1) (v2 := v2) (v3 := v3) (v4 := v4) (v5 := v5) (v6 := v6) (c := 1) (N0 := 0 + eW E i 0) hi (by omega) (eW E i 1) fm_N 0 (by omega) (by unfold fm_N; omega)
    unfold f_L_waysAreSo_225
    rw [if_neg (show ¬ (2 : Int32) ≤ nn 1 by decide)]
    refine Eq.trans w ?_
    rw [nn_inc]
    exact f2
  have f0 : f_L_waysAreSo_225 H k18 o v1 v2 v3 v4 v5 v6 (nn i) (E 9 i 2) (q + 3) (nn 0) (nn 0) m = k18 v1 v2 v3 v4 v5 v6 (nn (i + 1)) m := by
    have w := q_w237 hX hD (k18 := k18) (k225 := f_L_waysAreSo_225 H k18 o v1 v2 v3 v4 v5 v6 (nn i) (E 9 i 2) (q + 2)) (v1 := v1) (v2 := v2) (v3 := v3) (v4 := v4) (v5 := v5) (v6 := v6) (c := 0) (N0 := 0) hi (by omega) (eW E i 0) fm_N 0 (by omega) (by unfold fm_N; omega)
    unfold f_L_waysAreSo_225
    rw [if_neg (show ¬ (2 : Int32) ≤ nn 0 by decide)]
    refine Eq.trans w ?_
    rw [nn_inc]
    exact f1
  rw [eq]
  exact f0
/-- the links' sums -/
theorem q_w590 (hX : LX H o x sc) (hD : DS x T m E l n d sv) (hT : T ≤ 1000) {p : Nat → Nat → Nat} {c : Nat → Nat} (c1 : ∀ i w, i < eK E → w < 4 → E 9 i (4 + w) = nn (p i w)) (c2 : ∀ i, i < eK E → p i 0 = p i 1 + p i 2 + cPk i l ∧ p i 3 ≤ p i 1) (c3 : ∀ w, w < 4 → E 8 0 (tw w) = nn (c w + sn (fun i => p i w) 0 (eK E))) (c4 : c 0 = c 1 + c 2) (c5 : c 3 ≤ c 1) (c6 : c 0 + sn (fun i => p i 0) 0 (eK E) ≤ 8 * T) : f_L_waysAreSo_590 H o (nn (nc (fun i => decide (E 9 i 2 ≠ 0)) 0 (eK E))) (nn (sn (fun i => p i 0) 0 (eK E))) (nn (sn (fun i => p i 1) 0 (eK E))) (nn (sn (fun i => p i 2) 0 (eK E))) (nn (sn (fun i => p i 3) 0 (eK E))) (nn (sn (fun i => cPk i l) 0 (eK E))) fm_N (0 : Int32) (0 : Int32) (0 : Int32) (0 : Int32) m = some (1, m) := by
  have hx := hX.1
  have e0 := hX.2.2.1
  have hJ := hD.2.2.2.2.2.1
  have hI := hJ.1
  have hK8 := hI.1.1.2.2.2.2.1.2.2.1
  have hL16 := hI.1.1.2.2.2.2.1.2.1
  have hS := hI.2.2.2.2.2
  have hR := hJ.2.2.2.2.2
  have cap : ∀ j, j < eL E → E 3 j 2 = nn (E 3 j 2).toInt.toNat ∧ (E 3 j 2).toInt.toNat ≤ 99 ∧ rNj E j 100 ≤ (E 3 j 2).toInt.toNat := fun j hj => by
    obtain ⟨c, g1, g2, g3⟩ := hR j hj
    have e : (E 3 j 2).toInt.toNat = c := by
      rw [g2, nn_t (by omega)]
      rfl
    rw [e]
    exact ⟨g2, g1, g3⟩
  obtain ⟨C, eC⟩ : ∃ C : Nat → Nat, C = fun j => (E 3 j 2).toInt.toNat := ⟨_, rfl⟩
  have capC : ∀ j, j < eL E → E 3 j 2 = nn (C j) ∧ C j ≤ 99 ∧ rNj E j 100 ≤ C j := fun j hj => by
    rw [eC]
    exact cap j hj
  have rs : ∀ j, rsv E (eK E) (eA E) (eB E) (nn j) (-1) = nn (rNj E j 100) := fun j => rsv_N hS hK8 (j := j) (e := 100) (by omega)
  have SC : sn C 0 (eL E) ≤ eL E * 99 := sn_le (fun i _ hi => (capC i (by omega)).2.1)
  have SR : sn (fun j => rNj E j 100) 0 (eL E) ≤ eL E * 99 := sn_le (fun i _ hi => by
    have := capC i (by omega)
    omega)
  have big : eL E * 99 ≤ 16 * 99 := Nat.mul_le_mul_right 99 hL16
  have hlen := hJ.2.1
  have sP : sn (fun i => cPk i l) 0 (eK E) = l.length := cnt_sum (f := fun r => r 0) (by omega) (fun r hr => (hI.1.2.2.2.2.1 r hr).1)
  have sL : sn (fun j => l.countP (fun r => decide (r 3 = nn j))) 0 (eL E) = l.length := cnt_sum (f := fun r => r 3) (by omega) hJ.2.2.2.1
  have S0 : sn (fun i => p i 0) 0 (eK E) = sn (fun i => p i 1) 0 (eK E) + sn (fun i => p i 2) 0 (eK E) + sn (fun i => cPk i l) 0 (eK E) := by
    rw [← sn_add, ← sn_add]
    exact sn_c (fun i _ hi => (c2 i (by omega)).1)
  have S3 : sn (fun i => p i 3) 0 (eK E) ≤ sn (fun i => p i 1) 0 (eK E) := sn_mono (fun i _ hi => (c2 i (by omega)).2)
  have t7 : E 8 0 0 = nn (c 0 + sn (fun i => p i 0) 0 (eK E)) := c3 0 (by omega)
  have t8 : E 8 0 1 = nn (c 1 + sn (fun i => p i 1) 0 (eK E)) := c3 1 (by omega)
  have t9 : E 8 0 2 = nn (c 2 + sn (fun i => p i 2) 0 (eK E)) := c3 2 (by omega)
  have t11 : E 8 0 4 = nn (c 3 + sn (fun i => p i 3) 0 (eK E)) := c3 3 (by omega)
  have e6 : E 0 0 6 = nn l.length := hI.1.2.2.2.2.2
  have nlt : ∀ a b : Nat, a ≤ b → b < 1000000 → ¬ (nn b : Int32) < nn a := fun a b h1 h2 => by
    rw [nn_lt (by omega) (by omega)]
    omega
  have loop : ∀ (r q j : Nat), j + r = eL E → r < q → f_L_waysAreSo_590 H o (nn (nc (fun i => decide (E 9 i 2 ≠ 0)) 0 (eK E))) (nn (sn (fun i => p i 0) 0 (eK E))) (nn (sn (fun i => p i 1) 0 (eK E))) (nn (sn (fun i => p i 2) 0 (eK E))) (nn (sn (fun i => p i 3) 0 (eK E))) (nn (sn (fun i => cPk i l) 0 (eK E))) q (nn (sn (fun j => rNj E j 100) 0 j)) (nn (sn C 0 j)) (nn (sn (fun j => l.countP (fun r => decide (r 3 = nn j))) 0 j)) (nn j) m = some (1, m) := by
    intro r
    induction r with
    | zero =>
      intro q j h1 h2
      obtain ⟨q, rfl⟩ : ∃ q', q = q' + 1 := ⟨q - 1, by omega⟩
      have ej : j = eL E := by omega
      subst ej
      have us := L_usage hx hD (R := sn (fun j => rNj E j 100) 0 (eL E)) (C := sn C 0 (eL E)) (su_sn (fun i _ hi => (capC i (by omega)).1)) (su_sn (fun i _ hi => rs i)) (by omega) (by omega)
      unfold f_L_waysAreSo_590
      rw [e0, L_cL hx hD, fb_n, if_pos ((nn_le (by omega) (by omega)).mpr (Nat.le_refl _)), L_c13 hx hD, fb_n, if_pos rfl, L_c6 hx hD, fb_n, if_pos (show nn (sn (fun i => cPk i l) 0 (eK E)) = E 0 0 6 by rw [sP, e6]), if_pos (show nn (sn (fun j => l.countP (fun r => decide (r 3 = nn j))) 0 (eL E)) = nn (sn (fun i => cPk i l) 0 (eK E)) by rw [sP, sL]), L_c7 hx hD, fb_n, t7, if_neg (nlt _ _ (by omega) (by omega)), L_c8 hx hD, fb_n, t8, if_neg (nlt _ _ (by omega) (by omega)), L_c7 hx hD, fb_n, t7, L_c8 hx hD, fb_n, t8, L_c9 hx hD, fb_n, t9, nn_add, nn_add, if_pos (congrArg nn (show c 0 + sn (fun i => p i 0) 0 (eK E) = c 1 + sn (fun i => p i 1) 0 (eK E) + (c 2 + sn (fun i => p i 2) 0 (eK E)) + sn (fun i => cPk i l) 0 (eK E) by omega)), L_c9 hx hD, fb_n, t9, if_neg (nlt _ _ (by omega) (by omega)), L_c11 hx hD, fb_n, t11, if_neg (nlt _ _ (by omega) (by omega)), if_neg (show ¬ (60 : Int32) < nn (sn (fun i => cPk i l) 0 (eK E)) by rw [sP, show (60 : Int32) = nn 60 from rfl, nn_lt (by omega) (by omega)]; omega), us, fb_n]
      by_cases z : sn C 0 (eL E) = 0
      · rw [if_pos (show nn (sn C 0 (eL E)) = 0 by rw [z]; rfl), if_pos z, if_pos (by
          rw [fcmp_s (a := FP.fconst0) (by decide)]
          rfl)]
      · have hpos : 0 < nn (sn C 0 (eL E)) := by rw [nl_0]; exact (nn_lt (by omega) (by omega)).mpr (by omega)
        have nR := nn_t (a := sn (fun j => rNj E j 100) 0 (eL E)) (by omega)
        have nC := nn_t (a := sn C 0 (eL E)) (by omega)
        have ok := n32_ok (a := nn (sn (fun j => rNj E j 100) 0 (eL E))) hpos ⟨by omega, by omega⟩ (by omega)
        rw [if_neg (show ¬ nn (sn C 0 (eL E)) = 0 from fun e => z (nn_e (by omega) (by omega) (e.trans nl_0))), if_neg z, if_pos ok, if_pos (by
          rw [fcmp_s ok]
          rfl)]
    | succ r ih =>
      intro q j h1 h2
      obtain ⟨q, rfl⟩ : ∃ q', q = q' + 1 := ⟨q - 1, by omega⟩
      have hj : j < eL E := by omega
      obtain ⟨g1, g2, g3⟩ := capC j hj
      have l5 : f_L_link H x (nn j) (5 : Int32) m = some (nn (rNj E j 100), m) := (L_link hx hD hj (y := 5) (by omega)).trans (congrArg (fun z => some (z, m)) (rs j))
      have l2 : f_L_link H x (nn j) (2 : Int32) m = some (nn (C j), m) := (L_link hx hD hj (y := 2) (by omega)).trans (congrArg (fun z => some (z, m)) g1)
      have step := ih q (j + 1) (by omega) (by omega)
      rw [sn_la, sn_la, sn_la, Nat.zero_add] at step
      unfold f_L_waysAreSo_590
      rw [e0, L_cL hx hD, fb_n, if_neg (show ¬ nn (eL E) ≤ nn j by rw [nn_le (by omega) (by omega)]; omega), l5, fb_n, l2, fb_n, if_pos ((nn_le (by omega) (by omega)).mpr g3), l5, fb_n, l2, fb_n, L_l6 hx hD hj, fb_n, nn_add, nn_add, nn_add, nn_inc]
      exact step
  exact loop (eL E) fm_N 0 (by omega) (by unfold fm_N; omega)
end
