/-! what a move's tick is, case by case; what holds of a circuit between ticks (dl 0) and between moving and sending (dl 1) -/
def iQ (E : VV) (i dl : Nat) : Prop := 2 ≤ eA E i ∧ (∃ w, w ≤ 9 ∧ E 9 i 3 = nn w) ∧ (∀ k, 1 ≤ k → k < eB E i → E 17 i k ≠ -1) ∧ E 13 i (eA E i - 1) ≠ -1 ∧
  ((E 9 i 2 = 0 ∧ eB E i = 0 ∧ E 9 i 10 = 0 ∧ E 9 i 9 = 0 ∧ E 9 i 8 = 0 ∧ ∀ k, 1 ≤ k → k < eA E i → E 13 i k ≠ -1) ∨
   (E 9 i 2 = 1 ∧ 2 ≤ eB E i ∧ (∃ u, u < eB E i ∧ E 9 i 10 = nn u) ∧ E 9 i 9 = 0 ∧ E 9 i 8 = 0 ∧ ∀ k, 1 ≤ k → k < eA E i → E 13 i k ≠ -1) ∨
   (E 9 i 2 = 2 ∧ 2 ≤ eB E i ∧ E 9 i 10 = 0 ∧ (∃ d h, 1 ≤ d ∧ d ≤ 100 ∧ h ≤ d + dl ∧ E 9 i 9 = nn d ∧ E 9 i 8 = nn h) ∧ ∀ k, 1 ≤ k → k < eA E i → E 13 i k ≠ -1) ∨
   (E 9 i 2 = 3 ∧ 2 ≤ eB E i ∧ E 9 i 10 = 0 ∧ E 9 i 9 = 0 ∧ ∃ h, h ≤ dl ∧ E 9 i 8 = nn h))
def iL (E : VV) : Prop := ∀ j, j < eL E → ∃ d, 1 ≤ d ∧ d ≤ 9 ∧ E 3 j 3 = nn d
theorem su_nn {f : Nat → Int32} : ∀ {n j : Nat}, n ≤ 100 → (∀ k, j ≤ k → k < j + n → ∃ d, 1 ≤ d ∧ d ≤ 9 ∧ f k = nn d) → ∃ D, n ≤ D ∧ D ≤ 9 * n ∧ su f j n = nn D := by
  intro n
  induction n with
  | zero => exact fun _ _ => ⟨0, by omega, by omega, nl_0⟩
  | succ n ih =>
    intro j hn h
    obtain ⟨D, h1, h2, h3⟩ := ih (j := j + 1) (by omega) (fun k a1 a2 => h k (by omega) (by omega))
    obtain ⟨d, d1, d2, d3⟩ := h j (by omega) (by omega)
    exact ⟨d + D, by omega, by omega, by unfold su; rw [h3, d3, nn_add]⟩
/-- how long a way takes -/
theorem dlW_nn {E : VV} (hX : iX E) (hL : iL E) (hG : vG E) {i c : Nat} (hi : i < eK E) (hc : c < 2) (h2 : eW E i c ≤ 6) : ∃ D, eW E i c - 1 ≤ D ∧ D ≤ 45 ∧ dlW E (eL E) (E (12 + 4 * c) i) (eW E i c) = nn D := by
  have hL16 := hG.2.2.2.2.1.2.1
  obtain ⟨D, h1, h3, h4⟩ := su_nn (f := fun k => dOn E (eL E) (E (12 + 4 * c) i k)) (n := eW E i c - 1) (j := 1) (by omega) (fun k a1 a2 => by
    obtain ⟨l1, l2⟩ := (hX.2.2 i hi c hc).1.2.1 k a1 (by omega)
    obtain ⟨j, hj, ej⟩ := lkE_r l2
    rw [l1, ej, dOn_ii hj (by omega)]
    exact hL j hj)
  exact ⟨D, h1, by omega, h4⟩
theorem nc_pre {p : Nat → Bool} {x : Nat} : ∀ {k j : Nat}, j ≤ x → x ≤ j + k → (∀ i, j ≤ i → i < x → p i = false) → (∀ i, x ≤ i → i < j + k → p i = true) → nc p j k = j + k - x := by
  intro k
  induction k with
  | zero => intro j h1 h2 h3 h4; unfold nc; omega
  | succ k ih =>
    intro j h1 h2 h3 h4
    unfold nc
    by_cases e : j = x
    · subst e
      have : nc p (j + 1) k = k := by
        have : ∀ {k j : Nat}, (∀ i, j ≤ i → i < j + k → p i = true) → nc p j k = k := by
          intro k
          induction k with
          | zero => exact fun _ => rfl
          | succ k ih2 =>
            intro j h
            unfold nc
            rw [h j (by omega) (by omega), ih2 (fun i a1 a2 => h i (by omega) (by omega)), if_pos rfl]
            omega
        exact this (fun i a1 a2 => h4 i (by omega) (by omega))
      rw [this, h4 j (by omega) (by omega), if_pos rfl]
      omega
    · rw [ih (by omega) (by omega) (fun i a1 a2 => h3 i (by omega) a2) (fun i a1 a2 => h4 i a1 (by omega)), h3 j (by omega) (by omega), if_neg (by decide)]
      omega
theorem fx_ex {E : VV} {i : Nat} (hd : iHd E i 0 (eA E i)) (h2 : 2 ≤ eA E i) : ∃ x, 1 ≤ x ∧ x ≤ eA E i ∧ clX E i = x ∧ (∀ k, 1 ≤ k → k < x → E 13 i k = -1) ∧ ∀ k, x ≤ k → k < eA E i → E 13 i k ≠ -1 := by
  have key : ∃ x, 1 ≤ x ∧ x ≤ eA E i ∧ (∀ k, 1 ≤ k → k < x → E 13 i k = -1) ∧ ∀ k, x ≤ k → k < eA E i → E 13 i k ≠ -1 := by
    rcases fi_r (p := fun k => decide (E 13 i k ≠ -1)) (k := eA E i - 1) (j := 1) with h | h
    · refine ⟨eA E i, by omega, by omega, fun k k1 k2 => ?_, fun k k1 k2 => by omega⟩
      have := fi_m1.mp h k k1 (by omega)
      by_cases e : E 13 i k = -1
      · exact e
      · rw [decide_eq_true e] at this
        cases this
    · obtain ⟨x, hx⟩ : ∃ x : Nat, fi (fun k => decide (E 13 i k ≠ -1)) 1 (eA E i - 1) = x := ⟨(fi (fun k => decide (E 13 i k ≠ -1)) 1 (eA E i - 1)).toNat, by omega⟩
      obtain ⟨a1, a2, a3, a4⟩ := fi_is hx
      refine ⟨x, a1, by omega, fun k k1 k2 => ?_, fun k k1 k2 => ?_⟩
      · have := a4 k k1 k2
        by_cases e : E 13 i k = -1
        · exact e
        · rw [decide_eq_true e] at this
          cases this
      · by_cases e : k = x
        · rw [e]; exact of_decide_eq_true a3
        · exact hd x k a1 (by omega) k2 (of_decide_eq_true a3)
  obtain ⟨x, x1, x2, x3, x4⟩ := key
  refine ⟨x, x1, x2, ?_, x3, x4⟩
  have : nc (fun k => decide (E 13 i k ≠ -1)) 1 (eA E i - 1) = 1 + (eA E i - 1) - x := nc_pre x1 (by omega) (fun k k1 k2 => by
    refine decide_eq_false (fun z => z (x3 k k1 k2))) (fun k k1 k2 => decide_eq_true (x4 k k1 (by omega)))
  show ((eA E i : Nat) : Int) - (nc (fun k => decide (E 13 i k ≠ -1)) 1 (eA E i - 1) : Nat) = _
  rw [this]
  omega
theorem n3 : (nn 3 : Int32) = 3 := by decide
theorem mC_A {E : VV} {i u t : Nat} (h2 : E 9 i 2 = 1) (hu : E 9 i 10 = nn u) (u1 : 1 ≤ u) (u2 : u < eB E i) (h6 : eB E i ≤ 6) (ht : t < 120) (e : E 17 i u = nn t) : mC E i = uV (uV E 7 0 t 1) 9 i 10 (nn (u - 1)) := by
  unfold mC buE
  rw [if_pos h2, hu, if_neg (by rw [nl_0, nn_le (by omega) (by omega)]; omega), nn_t (by omega)]
  have es : slA E 14 i ((u : Nat) : Int) = nn t := by
    unfold slA
    rw [wN14, if_pos (by omega)]
    exact e
  unfold mkE
  rw [es, nn_t (by omega), if_pos (by omega), show ((t : Nat) : Int).toNat = t from rfl, nl_1, nn_sub u1]
theorem mC_B {E : VV} {i : Nat} (h2 : E 9 i 2 = 1) (hu : E 9 i 10 = 0) (h8 : E 9 i 8 = 0) : mC E i = uV (uV (uV E 9 i 2 2) 9 i 9 (dlO E i)) 9 i 8 (if E 0 0 8 = 1 then pm_mm true 0 (dlO E i - dlN E i) else 0) := by
  unfold mC buE
  rw [if_pos h2, hu, if_pos (by decide)]
  split
  · rfl
  · funext kd j k
    rw [uV_at _ 9 i 8]
    split
    · rename_i h
      obtain ⟨rfl, rfl, rfl⟩ := h
      rw [uV_p (by decide), uV_p (by decide)]
      exact h8
    · rfl
theorem mC_C {E : VV} {i d : Nat} (h2 : E 9 i 2 = 2) (hd : E 9 i 9 = nn d) (d1 : 2 ≤ d) (d2 : d ≤ 100) : mC E i = uV E 9 i 9 (nn (d - 1)) := by
  unfold mC drE
  rw [if_neg (by rw [h2]; decide), if_pos h2, hd, nl_1, nn_sub (by omega), if_pos (by rw [nl_0, nn_lt (by omega) (by omega)]; omega)]
theorem mC_D {E : VV} {i : Nat} (h2 : E 9 i 2 = 2) (hd : E 9 i 9 = 1) : mC E i = uV (uV E 9 i 9 0) 9 i 2 3 := by
  unfold mC drE
  rw [if_neg (by rw [h2]; decide), if_pos h2, hd, if_neg (by decide)]
  rfl
theorem clF_gv {E : VV} {i x t : Nat} (hx : clX E i = x) (x2 : x < eA E i) (ht : t < 120) (e : E 13 i x = nn t) : clF E i = gvE E i x t := by
  have es : slA E 10 i ((x : Nat) : Int) = nn t := by
    unfold slA
    rw [wN10, if_pos (by omega)]
    exact e
  unfold clF guE gvE
  rw [hx, if_pos (by omega), es, nn_t (by omega), if_pos (by omega)]
  rfl
theorem mC_F {E : VV} {i x t : Nat} (h2 : E 9 i 2 = 3) (hx : clX E i = x) (x2 : x + 1 < eA E i) (ht : t < 120) (e : E 13 i x = nn t) : mC E i = gvE E i x t := by
  unfold mC
  rw [if_neg (by rw [h2]; decide), if_neg (by rw [h2]; decide), if_pos h2]
  unfold clE
  rw [clF_gv hx (by omega) ht e, hx, if_pos (by omega)]
theorem mC_G {E : VV} {i x t : Nat} (h2 : E 9 i 2 = 3) (hx : clX E i = x) (x2 : x + 1 = eA E i) (ht : t < 120) (e : E 13 i x = nn t) : mC E i = uV (tkN (gvE E i x t) i) 8 0 5 (E 8 0 5 + 1) := by
  unfold mC
  rw [if_neg (by rw [h2]; decide), if_neg (by rw [h2]; decide), if_pos h2]
  unfold clE
  rw [clF_gv hx (by omega) ht e, hx, if_neg (by omega)]
  rfl
/-- another circuit is as it was -/
theorem iQ_o {E E' : VV} {i dl : Nat} (h9 : ∀ k, E' 9 i k = E 9 i k) (h10 : E' 10 i 0 = E 10 i 0) (h14 : E' 14 i 0 = E 14 i 0) (h13 : ∀ k, E' 13 i k = E 13 i k) (h17 : ∀ k, E' 17 i k = E 17 i k) (h : iQ E i dl) : iQ E' i dl := by
  have eA' : eA E' i = eA E i := by unfold eA; rw [h10]
  have eB' : eB E' i = eB E i := by unfold eB; rw [h14]
  unfold iQ
  simp only [eA', eB', h9, h13, h17]
  exact h
theorem iQ_01 {E : VV} {i : Nat} (h : iQ E i 0) : iQ E i 1 := by
  obtain ⟨h1, h2, h3, h4, h5⟩ := h
  refine ⟨h1, h2, h3, h4, ?_⟩
  rcases h5 with h5 | h5 | ⟨a1, a2, a3, ⟨d, e, d1, d2, d3, d4, d5⟩, a5⟩ | ⟨a1, a2, a3, a4, e, e1, e2⟩
  · exact Or.inl h5
  · exact Or.inr (Or.inl h5)
  · exact Or.inr (Or.inr (Or.inl ⟨a1, a2, a3, ⟨d, e, d1, d2, by omega, d4, d5⟩, a5⟩))
  · exact Or.inr (Or.inr (Or.inr ⟨a1, a2, a3, a4, e, by omega, e2⟩))
/-- all there is to know of a move's tick -/
theorem mC_all {E : VV} {i : Nat} (hG : vG E) (hX : iX E) (hL : iL E) (hi : i < eK E) (hQ : iQ E i 0) (hs : ∀ c k, c < 2 → 1 ≤ k → k < eW E i c → E (13 + 4 * c) i k = -1 ∨ ∃ t, t < 120 ∧ E (13 + 4 * c) i k = nn t) : iX (mC E i) ∧ iQ (mC E i) i 1 := by
  have hK8 := hG.2.2.2.2.1.2.2.1
  have hA6 := (hG.2.2.2.2.2.2.1 i (by omega)).2
  have hB6 := (hG.2.2.2.2.2.2.2 i (by omega)).2
  obtain ⟨h1, h2, h3, h4, h5⟩ := hQ
  have k9 : ∀ {V : VV} {a b : Nat} {x : Int32}, k89 V (uV V 9 a b x) := fun {V a b x} => k89_u (k89_rf V) (Or.inr rfl)
  rcases h5 with ⟨a1, a2, a3, a4, a5, a6⟩ | ⟨a1, a2, ⟨u, u1, u2⟩, a4, a5, a6⟩ | ⟨a1, a2, a3, ⟨d, e, d1, d2, d3, d4, d5⟩, a6⟩ | ⟨a1, a2, a3, a4, e, e1, e2⟩
  · have em : mC E i = E := by
      unfold mC
      rw [if_neg (by rw [a1]; decide), if_neg (by rw [a1]; decide), if_neg (by rw [a1]; decide)]
    rw [em]
    exact ⟨hX, h1, h2, h3, h4, Or.inl ⟨a1, a2, a3, a4, a5, a6⟩⟩
  · by_cases hu : u = 0
    · subst hu
      rw [mC_B a1 (u2.trans nl_0.symm) a5]
      obtain ⟨D, D1, D2, D3⟩ := dlW_nn hX hL hG hi (c := 0) (by omega) hA6
      obtain ⟨F, F1, F2, F3⟩ := dlW_nn hX hL hG hi (c := 1) (by omega) hB6
      have eD : dlO E i = nn D := D3
      have eF : dlN E i = nn F := F3
      have eAi : eW E i 0 = eA E i := rfl
      refine ⟨k89_iX (k89_u (k89_u (k89_u (k89_rf E) (Or.inr rfl)) (Or.inr rfl)) (Or.inr rfl)) hX, h1, ?_, h3, h4, Or.inr (Or.inr (Or.inl ⟨?_, a2, ?_, ?_, a6⟩))⟩
      · simpa only [uV_p (show 3 ≠ 8 by decide), uV_p (show 3 ≠ 9 by decide), uV_p (show 3 ≠ 2 by decide)] using h2
      · rw [uV_p (by decide), uV_p (by decide), uV_s]
      · rw [uV_p (by decide), uV_p (by decide), uV_p (by decide)]
        exact u2.trans nl_0.symm
      · rw [eD, eF, uV_p (by decide), uV_s, uV_s]
        split
        · by_cases q : F ≤ D
          · have : pm_mm true 0 (nn D - nn F) = nn (D - F) := by
              rw [nn_sub q]
              by_cases q2 : D - F = 0
              · rw [q2, nl_0]; exact mx_l (by rw [nn_le (by omega) (by omega)]; omega)
              · exact mx_r (by rw [nl_0, nn_le (by omega) (by omega)]; omega)
            exact ⟨D, D - F, by omega, by omega, by omega, rfl, this⟩
          · have : pm_mm true 0 (nn D - nn F) = nn 0 := by
              rw [nl_0]
              refine mx_l ?_
              unfold nn
              rw [ii_sub, ii_le (by omega) (by omega) (by omega) (by omega)]
              omega
            exact ⟨D, 0, by omega, by omega, by omega, rfl, this⟩
        · exact ⟨D, 0, by omega, by omega, by omega, rfl, nl_0⟩
    · obtain ⟨t, t1, t2⟩ := (hs 1 u (by omega) (by omega) u1).resolve_left (h3 u (by omega) u1)
      rw [mC_A a1 u2 (by omega) u1 hB6 t1 t2]
      refine ⟨k89_iX k9 (iX_md hX), h1, ?_, h3, h4, Or.inr (Or.inl ⟨?_, a2, ⟨u - 1, show u - 1 < eB E i by omega, uV_s⟩, ?_, ?_, a6⟩)⟩
      · simpa only [uV_p (show 3 ≠ 10 by decide), uV_k (show 9 ≠ 7 by decide)] using h2
      · rw [uV_p (by decide), uV_k (by decide)]; exact a1
      · rw [uV_p (by decide), uV_k (by decide)]; exact a4
      · rw [uV_p (by decide), uV_k (by decide)]; exact a5
  · by_cases hd : d = 1
    · subst hd
      rw [mC_D a1 (d4.trans nl_1.symm)]
      refine ⟨k89_iX (k89_u (k89_u (k89_rf E) (Or.inr rfl)) (Or.inr rfl)) hX, h1, ?_, h3, h4, Or.inr (Or.inr (Or.inr ⟨uV_s, a2, ?_, ?_, e, by omega, ?_⟩))⟩
      · simpa only [uV_p (show 3 ≠ 9 by decide), uV_p (show 3 ≠ 2 by decide)] using h2
      · rw [uV_p (by decide), uV_p (by decide)]; exact a3
      · rw [uV_p (by decide), uV_s]
      · rw [uV_p (by decide), uV_p (by decide)]; exact d5
    · rw [mC_C a1 d4 (by omega) d2]
      refine ⟨k89_iX k9 hX, h1, ?_, h3, h4, Or.inr (Or.inr (Or.inl ⟨?_, a2, ?_, ⟨d - 1, e, by omega, by omega, by omega, uV_s, ?_⟩, a6⟩))⟩
      · simpa only [uV_p (show 3 ≠ 9 by decide)] using h2
      · rw [uV_p (by decide)]; exact a1
      · rw [uV_p (by decide)]; exact a3
      · rw [uV_p (by decide)]; exact d5
  · have e0 : e = 0 := by omega
    subst e0
    obtain ⟨x, x1, x2, x3, x4, x5⟩ := fx_ex (hX.2.2 i hi 0 (by omega)).2 h1
    have x6 : x < eA E i := by
      by_cases q : x = eA E i
      · exact absurd (x4 (eA E i - 1) (by omega) (by omega)) h4
      · omega
    obtain ⟨t, t1, t2⟩ := (hs 0 x (by omega) x1 x6).resolve_left (x5 x (by omega) x6)
    have hg := iX_gv hX hi x1 x6 t1 t2 x4
    by_cases q : x + 1 = eA E i
    · rw [mC_G a1 x3 q t1 t2]
      have hp : ∀ k, 1 ≤ k → k < eA (gvE E i x t) i → gvE E i x t 13 i k = -1 := by
        intro k k1 k2
        have k2' : k < eA E i := k2
        rw [gvE_13]
        split
        · rfl
        · exact x4 k k1 (by omega)
      have eA' : eA (uV (tkN (gvE E i x t) i) 8 0 5 (E 8 0 5 + 1)) i = eB E i := by
        have := tkN_A (E := gvE E i x t) (i := i) (j := i)
        rw [if_pos rfl] at this
        exact this
      have eB' : eB (uV (tkN (gvE E i x t) i) 8 0 5 (E 8 0 5 + 1)) i = 0 := by
        have := tkN_B (E := gvE E i x t) (i := i) (j := i)
        rw [if_pos rfl] at this
        exact this
      have e13 : ∀ k, uV (tkN (gvE E i x t) i) 8 0 5 (E 8 0 5 + 1) 13 i k = E 17 i k := by
        intro k
        rw [uV_k (by decide), tkN_s (by decide) (by decide), gvE_o (by decide) (by decide)]
      have e9 : ∀ k, k ≠ 2 → uV (tkN (gvE E i x t) i) 8 0 5 (E 8 0 5 + 1) 9 i k = E 9 i k := by
        intro k hk
        unfold tkN
        rw [uV_k (by decide), uV_p hk, uV_k (by decide), twV_o (by omega), gvE_o (by decide) (by decide)]
      refine ⟨k89_iX (k89_u (k89_rf _) (Or.inl rfl)) (iX_tw hg hi hp), by rw [eA']; exact a2, by rw [e9 3 (by decide)]; exact h2, fun k k1 k2 => by rw [eB'] at k2; omega, ?_, Or.inl ⟨?_, eB', ?_, ?_, ?_, fun k k1 k2 => ?_⟩⟩
      · rw [eA', e13]
        exact h3 _ (by omega) (by omega)
      · unfold tkN
        rw [uV_k (by decide), uV_s]
      · rw [e9 10 (by decide)]; exact a3
      · rw [e9 9 (by decide)]; exact a4
      · rw [e9 8 (by decide)]; exact e2.trans nl_0.symm
      · rw [eA'] at k2
        rw [e13]
        exact h3 k k1 k2
    · rw [mC_F a1 x3 (by omega) t1 t2]
      have e9 : ∀ k, gvE E i x t 9 i k = E 9 i k := fun k => gvE_o (by decide) (by decide)
      refine ⟨hg, h1, by rw [e9]; exact h2, fun k k1 k2 => ?_, ?_, Or.inr (Or.inr (Or.inr ⟨by rw [e9]; exact a1, a2, by rw [e9]; exact a3, by rw [e9]; exact a4, 0, by omega, by rw [e9]; exact e2⟩))⟩
      · rw [gvE_o (by decide) (by decide)]
        exact h3 k k1 k2
      · show gvE E i x t 13 i (eA E i - 1) ≠ -1
        rw [gvE_13, if_neg (by omega)]
        exact h4
