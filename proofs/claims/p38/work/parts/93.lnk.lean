/-! settings, nodes and links -/
def stV (E : VV) (w : Nat) (x : Int32) : VV := uV E 0 0 (7 + w) x
theorem iS_o {E E' : VV} (h : iS E) (h7 : E' 0 0 7 = E 0 0 7) (h8 : E' 0 0 8 = E 0 0 8) (hL : eL E' = eL E) (hK : eK E' = eK E) (hN : eN E' = eN E) (h3 : ∀ j k, E' 3 j k = E 3 j k) (h9 : ∀ i, E' 9 i 0 = E 9 i 0) (h4 : ∀ f, E' 4 0 f = E 4 0 f) : iS E' := by
  obtain ⟨s1, s2, s3, s4, s5⟩ := h
  refine ⟨by rw [h7]; exact s1, by rw [h8]; exact s2, fun j hj => by rw [hL] at hj; rw [h3]; exact s3 j hj, fun i hi => by rw [hK] at hi; rw [h9]; exact s4 i hi, fun f f1 f2 => ?_⟩
  rw [hN] at f1
  unfold eZ
  rw [h4]
  exact s5 f f1 f2
theorem st_iG {E : VV} {l : List (Nat → Int32)} {w x : Nat} (hI : iG E l) (hw : w < 2) (h0 : w = 0 → x ≤ 4) (h1 : w = 1 → x ≤ 1) : iG (stV E w (nn x)) l := by
  have o : ∀ kd a k, ¬ (kd = 0 ∧ k = 7 + w) → stV E w (nn x) kd a k = E kd a k := fun kd a k h => by
    unfold stV
    rw [uV_at, if_neg (by omega)]
  have nL : eL (stV E w (nn x)) = eL E := by unfold eL; rw [o 1 _ _ (by omega)]
  have nN : eN (stV E w (nn x)) = eN E := by unfold eN; rw [o 1 _ _ (by omega)]
  have nK : eK (stV E w (nn x)) = eK E := by unfold eK; rw [o 0 _ _ (by omega)]
  have nlk : ∀ a c, lkE (stV E w (nn x)) a c = lkE E a c := fun a c => by
    unfold lkE
    rw [nL]
    exact fi_c (fun j _ _ => by rw [o 3 _ _ (by omega), o 3 _ _ (by omega)])
  refine iG_net hI (fun kd a k h => o _ _ _ (by omega)) (o _ _ _ (by omega)) (o _ _ _ (by omega)) (by omega) (fun u v _ => nlk u v) (vG_sm ⟨o _ _ _ (by omega), o _ _ _ (by omega), o _ _ _ (by omega), o _ _ _ (by omega), fun _ => o _ _ _ (by omega), fun _ => o _ _ _ (by omega), fun _ => o _ _ _ (by omega)⟩ hI.1.1) (fun j hj => ?_) (fun a c ha hc => ?_) (fun f y hf hy e => ?_) (fun j hj => ?_) (fun j hj => ?_) ?_
  · rw [nL] at hj
    rw [o 3 _ _ (by omega)]
    exact hI.1.2.2.1 j hj
  · rw [o 2 _ _ (by omega), nlk]
    exact hI.2.1 a c ha hc
  · rw [o 5 _ _ (by omega)] at e
    unfold eZ
    rw [o 4 _ _ (by omega)]
    exact hI.2.2.1 f y hf hy e
  · rw [nL] at hj
    rw [o 3 _ _ (by omega)]
    exact hI.2.2.2.1 j hj
  · rw [nL] at hj
    rw [nN, nlk, o 3 _ _ (by omega), o 3 _ _ (by omega)]
    exact hI.2.2.2.2.1 j hj
  · obtain ⟨s1, s2, s3, s4, s5⟩ := hI.2.2.2.2.2
    refine ⟨?_, ?_, fun j hj => by rw [nL] at hj; rw [o 3 _ _ (by omega)]; exact s3 j hj, fun i hi => by rw [nK] at hi; rw [o 9 _ _ (by omega)]; exact s4 i hi, fun f f1 f2 => ?_⟩
    · by_cases e : w = 0
      · subst e
        exact ⟨x, h0 rfl, uV_s⟩
      · rw [o _ _ _ (by omega)]
        exact s1
    · by_cases e : w = 1
      · subst e
        exact ⟨x, h1 rfl, uV_s⟩
      · rw [o _ _ _ (by omega)]
        exact s2
    · rw [nN] at f1
      unfold eZ
      rw [o 4 _ _ (by omega)]
      exact s5 f f1 f2
theorem st_rB {E : VV} {ρ : Nat → Int32} {w : Nat} {x : Int32} (hB : rB ρ E) (hw : w < 2) (hG : vG E) : rB (pm_up ρ w x) (stV E w x) := by
  have o : ∀ kd a k, ¬ (kd = 0 ∧ k = 7 + w) → stV E w x kd a k = E kd a k := fun kd a k h => by
    unfold stV
    rw [uV_at, if_neg (by omega)]
  have r : ∀ q, q ≠ w → pm_up ρ w x q = ρ q := fun q h => if_neg h
  have hL16 := hG.2.2.2.2.1.2.1
  refine rB_net hB (fun kd a k h => o _ _ _ (by omega)) (o _ _ _ (by omega)) ?_ (fun q _ h => r q (by omega))
  obtain ⟨g0, g1, g2, g3, g5, g7, g8, g9⟩ := hB.1
  have nL : eL (stV E w x) = eL E := by unfold eL; rw [o 1 _ _ (by omega)]
  refine ⟨?_, ?_, (r 2 (by omega)).trans (g2.trans (o _ _ _ (by omega)).symm), (r 3 (by omega)).trans (g3.trans (o _ _ _ (by omega)).symm), (r 5 (by omega)).trans (g5.trans (o _ _ _ (by omega)).symm), fun k hk => (r _ (by omega)).trans ((g7 k hk).trans (o _ _ _ (by omega)).symm), fun i hi => (r _ (by omega)).trans ((g8 i hi).trans (o _ _ _ (by omega)).symm), fun j hj k hk => ?_⟩
  · by_cases e : w = 0
    · subst e
      rw [up_at, if_pos rfl]
      exact uV_s.symm
    · exact (r 0 (by omega)).trans (g0.trans (o _ _ _ (by omega)).symm)
  · by_cases e : w = 1
    · subst e
      rw [up_at, if_pos rfl]
      exact uV_s.symm
    · exact (r 1 (by omega)).trans (g1.trans (o _ _ _ (by omega)).symm)
  · rw [nL] at hj
    exact (r _ (by omega)).trans ((g9 j hj k hk).trans (o _ _ _ (by omega)).symm)
/-- a node more -/
def anE (E : VV) (z : Int32) : VV := uV (uV E 4 0 (eN E) z) 1 0 0 (nn (eN E + 1))
theorem an_o {E : VV} {z : Int32} {kd a k : Nat} (h : ¬ (kd = 1 ∧ k = 0)) (h4 : ¬ (kd = 4 ∧ k = eN E)) : anE E z kd a k = E kd a k := by
  unfold anE
  rw [uV_at, if_neg (by omega), uV_at, if_neg (by omega)]
theorem an_N {E : VV} {z : Int32} (h : eN E ≤ 10) : eN (anE E z) = eN E + 1 := by
  have e : anE E z 1 0 0 = nn (eN E + 1) := uV_s
  unfold eN at h ⊢
  rw [e, nn_t (by unfold eN; omega)]
  rfl
theorem an_iG {E : VV} {l : List (Nat → Int32)} {z : Nat} (hI : iG E l) (hN : eN E < 10) (hz : z ≤ 12) : iG (anE E (nn z)) l := by
  have hG := hI.1.1
  have nL : eL (anE E (nn z)) = eL E := by unfold eL; rw [an_o (by omega) (by omega)]
  have nK : eK (anE E (nn z)) = eK E := by unfold eK; rw [an_o (by omega) (by omega)]
  have nN := an_N (E := E) (z := nn z) (by omega)
  have nlk : ∀ a c, lkE (anE E (nn z)) a c = lkE E a c := fun a c => by
    unfold lkE
    rw [nL]
    exact fi_c (fun j _ _ => by rw [an_o (by omega) (by omega), an_o (by omega) (by omega)])
  have e4 : anE E (nn z) 4 0 (eN E) = nn z := by
    unfold anE
    rw [uV_k (by omega)]
    exact uV_s
  refine iG_net hI (fun kd a k h => an_o (by omega) (by omega)) (an_o (by omega) (by omega)) (an_o (by omega) (by omega)) (by omega) (fun u v _ => nlk u v) ?_ (fun j hj => ?_) (fun a c ha hc => ?_) (fun f y hf hy e => ?_) (fun j hj => ?_) (fun j hj => ?_) ?_
  · refine vG_of (N := eN E + 1) (L := eL E) (K := eK E) (P := eP E) uV_s ((an_o (by omega) (by omega)).trans hG.2.1) ((an_o (by omega) (by omega)).trans hG.2.2.1) ((an_o (by omega) (by omega)).trans hG.2.2.2.1) (by omega) hG.2.2.2.2.1.2.1 hG.2.2.2.2.1.2.2.1 hG.2.2.2.2.1.2.2.2 (fun i hi => ?_) (fun i hi => ?_) (fun i hi => ?_)
    · by_cases e : i = eN E
      · subst e
        exact ⟨z, hz, e4⟩
      · rw [an_o (by omega) (by omega)]
        exact vG_Z hG i hi
    · rw [an_o (by omega) (by omega)]
      exact vG_A hG i hi
    · rw [an_o (by omega) (by omega)]
      exact vG_B hG i hi
  · rw [nL] at hj
    rw [an_o (by omega) (by omega)]
    exact hI.1.2.2.1 j hj
  · rw [an_o (by omega) (by omega), nlk]
    exact hI.2.1 a c ha hc
  · rw [an_o (by omega) (by omega)] at e
    have h1 := hI.2.2.1 f y hf hy e
    by_cases q : f = eN E
    · subst q
      have := hI.2.2.2.2.2.2.2.2.2 (eN E) (Nat.le_refl _) hN
      omega
    · unfold eZ
      rw [an_o (by omega) (by omega)]
      exact h1
  · rw [nL] at hj
    rw [an_o (by omega) (by omega)]
    exact hI.2.2.2.1 j hj
  · rw [nL] at hj
    obtain ⟨⟨x, y, x1, x2, x3⟩, h2⟩ := hI.2.2.2.2.1 j hj
    rw [nN, nlk, an_o (by omega) (by omega), an_o (by omega) (by omega)]
    exact ⟨⟨x, y, by omega, by omega, x3⟩, h2⟩
  · obtain ⟨s1, s2, s3, s4, s5⟩ := hI.2.2.2.2.2
    refine ⟨by rw [an_o (by omega) (by omega)]; exact s1, by rw [an_o (by omega) (by omega)]; exact s2, fun j hj => by rw [nL] at hj; rw [an_o (by omega) (by omega)]; exact s3 j hj, fun i hi => by rw [nK] at hi; rw [an_o (by omega) (by omega)]; exact s4 i hi, fun f f1 f2 => ?_⟩
    rw [nN] at f1
    unfold eZ
    rw [an_o (by omega) (by omega)]
    exact s5 f (by omega) f2
theorem an_rB {E : VV} {ρ : Nat → Int32} {z : Int32} (hB : rB ρ E) (hN : eN E < 10) (hG : vG E) : rB (pm_up (pm_up ρ (14 + eN E) z) 2 (nn (eN E + 1))) (anE E z) := by
  have r : ∀ q, q ≠ 2 → q ≠ 14 + eN E → pm_up (pm_up ρ (14 + eN E) z) 2 (nn (eN E + 1)) q = ρ q := fun q h1 h2 => by rw [up_at, if_neg h1, up_at, if_neg h2]
  have hL16 := hG.2.2.2.2.1.2.1
  refine rB_net hB (fun kd a k h => an_o (by omega) (by omega)) (an_o (by omega) (by omega)) ?_ (fun q _ h => r q (by omega) (by omega))
  obtain ⟨g0, g1, g2, g3, g5, g7, g8, g9⟩ := hB.1
  have nL : eL (anE E z) = eL E := by unfold eL; rw [an_o (by omega) (by omega)]
  refine ⟨(r 0 (by omega) (by omega)).trans (g0.trans (an_o (by omega) (by omega)).symm), (r 1 (by omega) (by omega)).trans (g1.trans (an_o (by omega) (by omega)).symm), ?_, (r 3 (by omega) (by omega)).trans (g3.trans (an_o (by omega) (by omega)).symm), (r 5 (by omega) (by omega)).trans (g5.trans (an_o (by omega) (by omega)).symm), fun k hk => (r _ (by omega) (by omega)).trans ((g7 k hk).trans (an_o (by omega) (by omega)).symm), fun i hi => ?_, fun j hj k hk => ?_⟩
  · rw [up_at, if_pos rfl]
    exact uV_s.symm
  · by_cases e : i = eN E
    · subst e
      rw [up_at, if_neg (by omega), up_at, if_pos rfl]
      unfold anE
      rw [uV_k (by omega)]
      exact uV_s.symm
    · exact (r _ (by omega) (by omega)).trans ((g8 i hi).trans (an_o (by omega) (by omega)).symm)
  · rw [nL] at hj
    exact (r _ (by omega) (by omega)).trans ((g9 j hj k hk).trans (an_o (by omega) (by omega)).symm)
/-- a link more -/
def alE (E : VV) (x y : Nat) (c d : Int32) : VV := uV (uV (uV (uV (uV (uV (uV (uV E 3 (eL E) 0 (nn x)) 3 (eL E) 1 (nn y)) 3 (eL E) 2 c) 3 (eL E) 3 d) 3 (eL E) 4 1) 2 0 (x * 10 + y) (nn (eL E))) 2 0 (y * 10 + x) (nn (eL E))) 1 0 1 (nn (eL E + 1))
theorem al_o {E : VV} {x y : Nat} {c d : Int32} {kd a k : Nat} (h1 : ¬ (kd = 1 ∧ k = 1)) (h2 : ¬ (kd = 2 ∧ (k = x * 10 + y ∨ k = y * 10 + x))) (h3 : ¬ (kd = 3 ∧ a = eL E)) : alE E x y c d kd a k = E kd a k := by
  unfold alE
  rw [uV_at, if_neg (by omega), uV_at, if_neg (by omega), uV_at, if_neg (by omega), uV_at, if_neg (by omega), uV_at, if_neg (by omega), uV_at, if_neg (by omega), uV_at, if_neg (by omega), uV_at, if_neg (by omega)]
theorem al_3 {E : VV} {x y k : Nat} {c d : Int32} (hk : k < 5) : alE E x y c d 3 (eL E) k = if k = 0 then nn x else if k = 1 then nn y else if k = 2 then c else if k = 3 then d else 1 := by
  unfold alE
  rw [uV_k (by omega), uV_k (by omega), uV_k (by omega)]
  rcases (show k = 0 ∨ k = 1 ∨ k = 2 ∨ k = 3 ∨ k = 4 by omega) with e | e | e | e | e <;> subst e
  · rw [uV_p (by omega), uV_p (by omega), uV_p (by omega), uV_p (by omega), uV_s]
    rfl
  · rw [uV_p (by omega), uV_p (by omega), uV_p (by omega), uV_s]
    rfl
  · rw [uV_p (by omega), uV_p (by omega), uV_s]
    rfl
  · rw [uV_p (by omega), uV_s]
    rfl
  · rw [uV_s]
    rfl
theorem al_L {E : VV} {x y : Nat} {c d : Int32} (h : eL E ≤ 16) : eL (alE E x y c d) = eL E + 1 := by
  have e : alE E x y c d 1 0 1 = nn (eL E + 1) := uV_s
  unfold eL at h ⊢
  rw [e, nn_t (by unfold eL; omega)]
  rfl
theorem fi_ap {p : Nat → Bool} : ∀ {n j : Nat}, fi p j (n + 1) = if fi p j n = -1 then (if p (j + n) = true then ((j + n : Nat) : Int) else -1) else fi p j n := by
  intro n
  induction n with
  | zero =>
    intro j
    show (if p j = true then (j : Int) else -1) = if (-1 : Int) = -1 then (if p (j + 0) = true then ((j + 0 : Nat) : Int) else -1) else -1
    rw [if_pos rfl]
    rfl
  | succ n ih =>
    intro j
    cases e : p j with
    | true => rw [fi_t e, fi_t e, if_neg (by omega)]
    | false => rw [fi_f e, fi_f e, ih, show j + 1 + n = j + (n + 1) by omega]
theorem al_lk {E : VV} {x y : Nat} {c d : Int32} (h : eL E ≤ 16) (u v : Int32) : lkE (alE E x y c d) u v = if lkE E u v = -1 then (if (nn x = u ∧ nn y = v) ∨ (nn x = v ∧ nn y = u) then (eL E : Int) else -1) else lkE E u v := by
  unfold lkE
  rw [al_L h, fi_ap, fi_c (g := fun j => decide ((E 3 j 0 = u ∧ E 3 j 1 = v) ∨ (E 3 j 0 = v ∧ E 3 j 1 = u))) (fun j _ h2 => by rw [al_o (by omega) (by omega) (by omega), al_o (by omega) (by omega) (by omega)])]
  have f0 : alE E x y c d 3 (eL E) 0 = nn x := (al_3 (by omega)).trans rfl
  have f1 : alE E x y c d 3 (eL E) 1 = nn y := (al_3 (by omega)).trans rfl
  unfold eL at f0 f1 ⊢
  rw [Nat.zero_add, f0, f1]
  split
  · by_cases q : (nn x = u ∧ nn y = v) ∨ (nn x = v ∧ nn y = u)
    · rw [if_pos (decide_eq_true q), if_pos q]
    · rw [if_neg (by rw [decide_eq_false q]; decide), if_neg q]
  · rfl
theorem lkE_sym {E : VV} {u v : Int32} : lkE E u v = lkE E v u := by
  unfold lkE
  exact fi_c (fun j _ _ => decide_eq_decide.mpr ⟨fun h => h.symm, fun h => h.symm⟩)
theorem al_iG {E : VV} {l : List (Nat → Int32)} {x y c d : Nat} (hI : iG E l) (hL : eL E < 16) (hx : x < eN E) (hy : y < eN E) (hxy : x ≠ y) (hn : lkE E (nn x) (nn y) = -1) (hc : 1 ≤ c ∧ c ≤ 99) (hd : 1 ≤ d ∧ d ≤ 9) : iG (alE E x y (nn c) (nn d)) l := by
  have hG := hI.1.1
  have hN10 := hG.2.2.2.2.1.1
  have nL := al_L (E := E) (x := x) (y := y) (c := nn c) (d := nn d) (by omega)
  have nK : eK (alE E x y (nn c) (nn d)) = eK E := by unfold eK; rw [al_o (by omega) (by omega) (by omega)]
  have nN : eN (alE E x y (nn c) (nn d)) = eN E := by unfold eN; rw [al_o (by omega) (by omega) (by omega)]
  have nlk := al_lk (E := E) (x := x) (y := y) (c := nn c) (d := nn d) (by omega)
  refine iG_net hI (fun kd a k h => al_o (by omega) (by omega) (by omega)) (al_o (by omega) (by omega) (by omega)) (al_o (by omega) (by omega) (by omega)) (by omega) (fun u v h => by rw [nlk, if_neg h]) ?_ (fun j hj => ?_) (fun a e ha he => ?_) (fun f y hf hy e => ?_) (fun j hj => ?_) (fun j hj => ?_) ?_
  · refine vG_of (N := eN E) (L := eL E + 1) (K := eK E) (P := eP E) ((al_o (by omega) (by omega) (by omega)).trans hG.1) uV_s ((al_o (by omega) (by omega) (by omega)).trans hG.2.2.1) ((al_o (by omega) (by omega) (by omega)).trans hG.2.2.2.1) hG.2.2.2.2.1.1 (by omega) hG.2.2.2.2.1.2.2.1 hG.2.2.2.2.1.2.2.2 (fun i hi => ?_) (fun i hi => ?_) (fun i hi => ?_)
    · rw [al_o (by omega) (by omega) (by omega)]
      exact vG_Z hG i hi
    · rw [al_o (by omega) (by omega) (by omega)]
      exact vG_A hG i hi
    · rw [al_o (by omega) (by omega) (by omega)]
      exact vG_B hG i hi
  · rw [nL] at hj
    by_cases e : j = eL E
    · subst e
      exact ⟨d, hd.1, hd.2, (al_3 (by omega)).trans rfl⟩
    · rw [al_o (by omega) (by omega) (by omega)]
      exact hI.1.2.2.1 j (by omega)
  · rw [nlk]
    have hB := hI.2.1 a e ha he
    by_cases q : a * 10 + e = x * 10 + y ∨ a * 10 + e = y * 10 + x
    · have q2 : (a = x ∧ e = y) ∨ (a = y ∧ e = x) := by omega
      have e1 : alE E x y (nn c) (nn d) 2 0 (a * 10 + e) = nn (eL E) := by
        unfold alE
        rw [uV_k (by omega)]
        by_cases z : a * 10 + e = y * 10 + x
        · rw [z]
          exact uV_s
        · rw [uV_p z]
          rcases q with q | q
          · rw [q]
            exact uV_s
          · exact absurd q z
      rw [e1]
      rcases q2 with ⟨rfl, rfl⟩ | ⟨rfl, rfl⟩
      · rw [hn, if_pos rfl, if_pos (Or.inl ⟨rfl, rfl⟩)]
        rfl
      · rw [lkE_sym, hn, if_pos rfl, if_pos (Or.inr ⟨rfl, rfl⟩)]
        rfl
    · rw [al_o (by omega) (by omega) (by omega), hB]
      by_cases z : lkE E (nn a) (nn e) = -1
      · rw [if_pos z, if_neg, z]
        rintro (⟨q1, q2⟩ | ⟨q1, q2⟩)
        · have := nn_e (by omega) (by omega) q1
          have := nn_e (by omega) (by omega) q2
          omega
        · have := nn_e (by omega) (by omega) q1
          have := nn_e (by omega) (by omega) q2
          omega
      · rw [if_neg z]
  · rw [al_o (by omega) (by omega) (by omega)] at e
    unfold eZ
    rw [al_o (by omega) (by omega) (by omega)]
    exact hI.2.2.1 f y hf hy e
  · rw [nL] at hj
    by_cases e : j = eL E
    · subst e
      exact Or.inr ((al_3 (by omega)).trans rfl)
    · rw [al_o (by omega) (by omega) (by omega)]
      exact hI.2.2.2.1 j (by omega)
  · rw [nL] at hj
    rw [nN, nlk]
    by_cases e : j = eL E
    · subst e
      have e0 : alE E x y (nn c) (nn d) 3 (eL E) 0 = nn x := (al_3 (by omega)).trans rfl
      have e1 : alE E x y (nn c) (nn d) 3 (eL E) 1 = nn y := (al_3 (by omega)).trans rfl
      rw [e0, e1, hn, if_pos rfl, if_pos (Or.inl ⟨rfl, rfl⟩)]
      exact ⟨⟨x, y, hx, hy, hxy, rfl, rfl⟩, rfl⟩
    · rw [al_o (by omega) (by omega) (by omega), al_o (by omega) (by omega) (by omega)]
      obtain ⟨h1, h2⟩ := hI.2.2.2.2.1 j (by omega)
      rw [h2, if_neg (by omega)]
      exact ⟨h1, rfl⟩
  · obtain ⟨s1, s2, s3, s4, s5⟩ := hI.2.2.2.2.2
    refine ⟨by rw [al_o (by omega) (by omega) (by omega)]; exact s1, by rw [al_o (by omega) (by omega) (by omega)]; exact s2, fun j hj => ?_, fun i hi => by rw [nK] at hi; rw [al_o (by omega) (by omega) (by omega)]; exact s4 i hi, fun f f1 f2 => ?_⟩
    · rw [nL] at hj
      by_cases e : j = eL E
      · subst e
        exact ⟨c, hc.1, hc.2, (al_3 (by omega)).trans rfl⟩
      · rw [al_o (by omega) (by omega) (by omega)]
        exact s3 j (by omega)
    · rw [nN] at f1
      unfold eZ
      rw [al_o (by omega) (by omega) (by omega)]
      exact s5 f (by omega) f2
/-- the array with a link more -/
def alR (ρ : Nat → Int32) (L : Nat) (x y c d : Int32) : Nat → Int32 := pm_up (pm_up (pm_up (pm_up (pm_up (pm_up ρ (24 + 5 * L + 0) x) (24 + 5 * L + 1) y) (24 + 5 * L + 2) c) (24 + 5 * L + 3) d) (24 + 5 * L + 4) 1) 3 (nn (L + 1))
theorem alR_o {ρ : Nat → Int32} {L : Nat} {x y c d : Int32} {q : Nat} (h3 : q ≠ 3) (h : ¬ (24 + 5 * L ≤ q ∧ q < 29 + 5 * L)) : alR ρ L x y c d q = ρ q := by
  unfold alR
  rw [up_at, if_neg h3, up_at, if_neg (by omega), up_at, if_neg (by omega), up_at, if_neg (by omega), up_at, if_neg (by omega), up_at, if_neg (by omega)]
theorem alR_k {ρ : Nat → Int32} {L k : Nat} {x y c d : Int32} (hk : k < 5) : alR ρ L x y c d (24 + 5 * L + k) = if k = 0 then x else if k = 1 then y else if k = 2 then c else if k = 3 then d else 1 := by
  unfold alR
  rw [up_at, if_neg (by omega)]
  rcases (show k = 0 ∨ k = 1 ∨ k = 2 ∨ k = 3 ∨ k = 4 by omega) with e | e | e | e | e <;> subst e
  · rw [up_at, if_neg (by omega), up_at, if_neg (by omega), up_at, if_neg (by omega), up_at, if_neg (by omega), up_at, if_pos rfl]
    rfl
  · rw [up_at, if_neg (by omega), up_at, if_neg (by omega), up_at, if_neg (by omega), up_at, if_pos rfl]
    rfl
  · rw [up_at, if_neg (by omega), up_at, if_neg (by omega), up_at, if_pos rfl]
    rfl
  · rw [up_at, if_neg (by omega), up_at, if_pos rfl]
    rfl
  · rw [up_at, if_pos rfl]
    rfl
theorem al_rB {E : VV} {ρ : Nat → Int32} {x y : Nat} {c d : Int32} (hB : rB ρ E) (hL : eL E < 16) : rB (alR ρ (eL E) (nn x) (nn y) c d) (alE E x y c d) := by
  have nL := al_L (E := E) (x := x) (y := y) (c := c) (d := d) (by omega)
  refine rB_net hB (fun kd a k h => al_o (by omega) (by omega) (by omega)) (al_o (by omega) (by omega) (by omega)) ?_ (fun q _ h => alR_o (by omega) (by omega))
  obtain ⟨g0, g1, g2, g3, g5, g7, g8, g9⟩ := hB.1
  refine ⟨(alR_o (by omega) (by omega)).trans (g0.trans (al_o (by omega) (by omega) (by omega)).symm), (alR_o (by omega) (by omega)).trans (g1.trans (al_o (by omega) (by omega) (by omega)).symm), (alR_o (by omega) (by omega)).trans (g2.trans (al_o (by omega) (by omega) (by omega)).symm), ?_, (alR_o (by omega) (by omega)).trans (g5.trans (al_o (by omega) (by omega) (by omega)).symm), fun k hk => (alR_o (by omega) (by omega)).trans ((g7 k hk).trans (al_o (by omega) (by omega) (by omega)).symm), fun i hi => (alR_o (by omega) (by omega)).trans ((g8 i hi).trans (al_o (by omega) (by omega) (by omega)).symm), fun j hj k hk => ?_⟩
  · unfold alR
    rw [up_at, if_pos rfl]
    exact uV_s.symm
  · rw [nL] at hj
    by_cases e : j = eL E
    · subst e
      rw [alR_k hk, al_3 hk]
    · rw [alR_o (by omega) (by omega), al_o (by omega) (by omega) (by omega)]
      exact g9 j (by omega) k hk
