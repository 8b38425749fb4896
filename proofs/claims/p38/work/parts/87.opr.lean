/-! a new circuit is laid -/
/-- the draft: its nodes, each with a link to the next one -/
def dW (E : VV) (n : Nat) (d : Nat → Nat) : Prop := n ≤ 6 ∧ (∀ k, k < n → d k < eN E) ∧ (∀ k, 1 ≤ k → k < n → lkE E (nn (d (k - 1))) (nn (d k)) ≠ -1) ∧ ∀ k k', k < n → k' < n → d k = d k' → k = k'
/-- lengths with a circuit more -/
def lnK (E : VV) (K : Nat) : Nat → Nat → Nat := fun a d => if a = K then 0 else eW E a d
theorem lnK_o {E : VV} {K a d : Nat} (h : a ≠ K) : lnK E K a d = eW E a d := if_neg h
theorem lnK_s {E : VV} {K d : Nat} : lnK E K K d = 0 := if_pos rfl
theorem eW_0 {E : VV} {i n : Nat} (h : E 10 i 0 = nn n) (h6 : n ≤ 6) : eW E i 0 = n := by
  unfold eW eA
  rw [if_pos rfl, h, nn_t (by omega)]
  rfl
theorem eW_1 {E : VV} {i n : Nat} (h : E 14 i 0 = nn n) (h6 : n ≤ 6) : eW E i 1 = n := by
  unfold eW eB
  rw [if_neg (by decide), h, nn_t (by omega)]
  rfl
theorem eK_nn {E : VV} {n : Nat} (h : E 0 0 5 = nn n) (h6 : n ≤ 100) : eK E = n := by
  unfold eK
  rw [h, nn_t (by omega)]
  rfl
/-- what is noted of a circuit that begins -/
def bg9 (x y : Int32) (k : Nat) : Int32 := if k = 0 then x else if k = 1 then y else if k = 12 then -1 else 0
def opE0 (E E0 : VV) (n : Nat) (d : Nat → Nat) (x y : Int32) : Prop := (∀ kd a k, ¬ (a = eK E ∧ 9 ≤ kd ∧ kd ≤ 17) → E0 kd a k = E kd a k) ∧ E0 10 (eK E) 0 = nn n ∧ E0 14 (eK E) 0 = 0 ∧ (∀ k, k < 13 → E0 9 (eK E) k = bg9 x y k) ∧ (∀ k, k < n → E0 11 (eK E) k = nn (d k)) ∧ ∀ k, 1 ≤ k → k < n → E0 12 (eK E) k = ii (lkE E (nn (d (k - 1))) (nn (d k)))
theorem op_iT {E E0 : VV} (fo : ∀ kd a k, ¬ (a = eK E ∧ 9 ≤ kd ∧ kd ≤ 17) → E0 kd a k = E kd a k) (hT : iT E (eK E) (eW E)) : iT E0 (eK E + 1) (lnK E (eK E)) := by
  obtain ⟨t1, t2, t3⟩ := hT
  refine ⟨fun a d k t a1 a2 a3 a4 a5 a6 => ?_, fun t b1 b2 => ?_, fun a d k d' k' t a1 a2 a3 a4 a5 a6 a7 a8 a9 a10 => ?_⟩
  · by_cases e : a = eK E
    · subst e
      rw [lnK_s] at a4
      omega
    · rw [lnK_o e] at a4
      rw [fo _ _ _ (by omega)] at a6
      rw [fo 5 _ _ (by omega), fo 6 _ _ (by omega), fo (11 + 4 * d) _ _ (by omega)]
      exact t1 a d k t (by omega) a2 a3 a4 a5 a6
  · rw [fo 5 _ _ (by omega)] at b2
    obtain ⟨a, d, k, c1, c2, c3, c4, c5⟩ := t2 t b1 b2
    exact ⟨a, d, k, by omega, c2, c3, by rw [lnK_o (by omega)]; exact c4, by rw [fo _ _ _ (by omega)]; exact c5⟩
  · by_cases e : a = eK E
    · subst e
      rw [lnK_s] at a5
      omega
    · rw [lnK_o e] at a5 a7
      rw [fo _ _ _ (by omega)] at a9 a10
      exact t3 a d k d' k' t (by omega) a2 a3 a4 a5 a6 a7 a8 a9 a10
/-- the circuit is there -/
def opE2 (E1 : VV) (K n : Nat) : VV := uV (mkL E1 K 0 1 (n - 1)) 0 0 5 (nn (K + 1))
theorem opn_ok {E E0 E1 : VV} {l : List (Nat → Int32)} {n : Nat} {d : Nat → Nat} {x y : Int32} (hI : iG E l) (hK : eK E < 8) (h0 : opE0 E E0 n d x y) (hd : dW E n d) (h2 : 2 ≤ n) (ht : tF E0 E1 (eK E) 0 n) (hx : ∃ b, b ≤ 20 ∧ x = nn b) :
    iG (opE2 E1 (eK E) n) l ∧ ∀ ρ ρ2, rB ρ E → rK ρ2 E1 (eK E + 1) (lu (lnK E (eK E)) (eK E) 0 n) → (∀ q, q < 632 → q ≠ 4 → q ≠ 6 → ¬ (104 + 66 * eK E ≤ q ∧ q < 170 + 66 * eK E) → ρ2 q = ρ q) → (∀ k, k < 13 → k ≠ 9 → k ≠ 10 → ρ2 (104 + 66 * eK E + pk k) = bg9 x y k) → ρ2 (107 + 66 * eK E) = 0 → (∀ k, 1 ≤ k → k < n → ρ2 (120 + 66 * eK E + 25 * 0 + 19 + k) = 1) → rB ρ2 (opE2 E1 (eK E) n) := by
  obtain ⟨fo, h10, h14, h9, h11, h12⟩ := h0
  obtain ⟨d1, d2, d3, d4⟩ := hd
  have hG := hI.1.1
  have hX := hI.1.2.1
  obtain ⟨K, eK0⟩ : ∃ K, K = eK E := ⟨_, rfl⟩
  have hT0 := op_iT fo hX.1
  rw [← eK0] at hK fo h10 h14 h9 h11 h12 ht hT0 ⊢
  obtain ⟨f1, f2, f3, f4, f5, f6, f7⟩ := ht
  have fp : ∀ kd a k, kd ≠ 7 → ¬ (kd = 0 ∧ k = 5) → ¬ (kd = 9 ∧ a = K) → opE2 E1 K n kd a k = E1 kd a k := fun kd a k a7 a5 _ => by
    unfold opE2
    rw [uV_at, if_neg (by omega), mkL_o a7]
  have e9 : ∀ k, opE2 E1 K n 9 K k = E0 9 K k := fun k => by
    unfold opE2
    rw [uV_k (by omega), mkL_o (by omega), f1 _ _ _ (by omega) (by omega) (by omega) (by omega)]
  have s7 : ∀ t, opE2 E1 K n 7 0 t = mkL E1 K 0 1 (n - 1) 7 0 t := fun t => uV_k (by omega)
  have c7 : ∀ t, t < 120 → E 5 0 t ≠ -1 → opE2 E1 K n 7 0 t = E1 7 0 t := fun t t1 t2 => by
    rw [s7, mkL_7n t1 (fun k k1 k2 z => ?_)]
    obtain ⟨t', a1, a2, a3, -⟩ := f4 k k1 (by omega)
    have : t = t' := nn_e (by omega) (by omega) (z.symm.trans a2)
    subst this
    rw [fo 5 _ _ (by omega)] at a3
    exact t2 a3
  have n7 : ∀ k t, 1 ≤ k → k < n → t < 120 → E1 (13 + 4 * 0) K k = nn t → opE2 E1 K n 7 0 t = 1 := fun k t k1 k2 t1 t2 => by
    rw [s7]
    exact mkL_7y t1 (k := k) k1 (by omega) t2
  have nK : eK (opE2 E1 K n) = K + 1 := eK_nn (E := opE2 E1 K n) (by unfold opE2; exact uV_s) (by omega)
  have e10 : opE2 E1 K n 10 K 0 = nn n := by rw [fp _ _ _ (by omega) (by omega) (by omega), f1 _ _ _ (by omega) (by omega) (by omega) (by omega)]; exact h10
  have e14 : opE2 E1 K n 14 K 0 = nn 0 := by rw [fp _ _ _ (by omega) (by omega) (by omega), f1 _ _ _ (by omega) (by omega) (by omega) (by omega)]; exact h14
  have nW0 := eW_0 e10 d1
  have nW1 := eW_1 e14 (by omega)
  have nA : eA (opE2 E1 K n) K = n := nW0
  have nB : eB (opE2 E1 K n) K = 0 := nW1
  have so : ∀ kd a k, kd ≠ 5 → kd ≠ 6 → kd ≠ 7 → ¬ (kd = 0 ∧ k = 5) → ¬ (a = K ∧ 9 ≤ kd ∧ kd ≤ 17) → opE2 E1 K n kd a k = E kd a k := fun kd a k a5 a6 a7 a8 a9 => by
    rw [fp kd a k a7 a8 (by omega), f1 kd a k a5 a6 a7 (by omega), fo kd a k a9]
  have nW : ∀ a d, a < K + 1 → d < 2 → eW (opE2 E1 K n) a d = lu (lnK E K) K 0 n a d := by
    intro a q ha hq
    by_cases e : a = K
    · subst e
      rcases (show q = 0 ∨ q = 1 by omega) with e | e <;> subst e
      · rw [lu_s]
        exact nW0
      · rw [lu_o (by omega), lnK_s]
        exact nW1
    · rw [lu_o (by omega), lnK_o e]
      rcases (show q = 0 ∨ q = 1 by omega) with e | e <;> subst e
      · unfold eW eA
        rw [if_pos rfl, if_pos rfl, so 10 _ _ (by omega) (by omega) (by omega) (by omega) (by omega)]
      · unfold eW eB
        rw [if_neg (by decide), if_neg (by decide), so 14 _ _ (by omega) (by omega) (by omega) (by omega) (by omega)]
  have nN : eN (opE2 E1 K n) = eN E := by unfold eN; rw [so 1 _ _ (by decide) (by decide) (by decide) (by omega) (by omega)]
  have nL : eL (opE2 E1 K n) = eL E := by unfold eL; rw [so 1 _ _ (by decide) (by decide) (by decide) (by omega) (by omega)]
  have nlk : ∀ x y, lkE (opE2 E1 K n) x y = lkE E x y := fun x y => by
    unfold lkE
    rw [nL]
    exact fi_c (fun j _ _ => by rw [so 3 _ _ (by decide) (by decide) (by decide) (by omega) (by omega), so 3 _ _ (by decide) (by decide) (by decide) (by omega) (by omega)])
  have w11 : ∀ k, k < n → opE2 E1 K n (11 + 4 * 0) K k = nn (d k) := fun k hk => by
    rw [fp _ _ _ (by omega) (by omega) (by omega), f1 _ _ _ (by omega) (by omega) (by omega) (by omega)]
    exact h11 k hk
  have w12 : ∀ k, 1 ≤ k → k < n → opE2 E1 K n (12 + 4 * 0) K k = ii (lkE E (nn (d (k - 1))) (nn (d k))) := fun k k1 hk => by
    rw [fp _ _ _ (by omega) (by omega) (by omega), f1 _ _ _ (by omega) (by omega) (by omega) (by omega)]
    exact h12 k k1 hk
  have w13 : ∀ k, 1 ≤ k → k < n → opE2 E1 K n 13 K k ≠ -1 := fun k k1 hk => by
    rw [fp _ _ _ (by omega) (by omega) (by omega)]
    obtain ⟨t, a1, a2, -⟩ := f4 k k1 hk
    rw [show E1 13 K k = nn t from a2]
    exact nn_m1 (by omega)
  have n9 : ∀ k, k < 13 → opE2 E1 K n 9 K k = bg9 x y k := fun k hk => (e9 k).trans (h9 k hk)
  have hq : iQ (opE2 E1 K n) K 0 := by
    refine ⟨by rw [nA]; exact h2, ⟨0, by omega, by rw [n9 3 (by omega)]; rfl⟩, fun k k1 k2 => by rw [nB] at k2; omega, ?_, Or.inl ⟨by rw [n9 2 (by omega)]; rfl, nB, by rw [n9 10 (by omega)]; rfl, by rw [n9 9 (by omega)]; rfl, by rw [n9 8 (by omega)]; rfl, fun k k1 k2 => ?_⟩⟩
    · rw [nA]
      exact w13 _ (by omega) (by omega)
    · rw [nA] at k2
      exact w13 k k1 k2
  have hG2 : vG (opE2 E1 K n) := by
    refine vG_of (N := eN E) (L := eL E) (K := K + 1) (P := eP E) ((so 1 0 0 (by decide) (by decide) (by decide) (by omega) (by omega)).trans hG.1) ((so 1 0 1 (by decide) (by decide) (by decide) (by omega) (by omega)).trans hG.2.1) (by unfold opE2; exact uV_s) ((so 0 0 6 (by decide) (by decide) (by decide) (by omega) (by omega)).trans hG.2.2.2.1) hG.2.2.2.2.1.1 hG.2.2.2.2.1.2.1 (by omega) hG.2.2.2.2.1.2.2.2 (fun i hi => ?_) (fun i hi => ?_) (fun i hi => ?_)
    · rw [so 4 _ _ (by decide) (by decide) (by decide) (by omega) (by omega)]
      exact vG_Z hG i hi
    · by_cases e : i = K
      · subst e
        exact ⟨n, d1, e10⟩
      · rw [so 10 _ _ (by decide) (by decide) (by decide) (by omega) (by omega)]
        exact vG_A hG i hi
    · by_cases e : i = K
      · subst e
        exact ⟨0, by omega, e14⟩
      · rw [so 14 _ _ (by decide) (by decide) (by decide) (by omega) (by omega)]
        exact vG_B hG i hi
  have hKi : ∀ a, a < K + 1 → a < eK E ∨ a = K := fun a ha => by omega
  have hlnK : ∀ a q, a < K + 1 → q < 2 → a ≠ K → lnK E K a q = eW E a q := fun a q _ _ h => lnK_o h
  refine ⟨iG_ld (i := K) (c := 0) (n := n) (K := K + 1) (ln := lnK E K) hI (by omega) (by omega) (by omega) (by omega) hKi hlnK (by rw [lnK_s]; omega) fo hT0 ⟨f1, f2, f3, f4, f5, f6, f7⟩ fp c7 (fun t t1 t2 t3 => ?_) nK nW (fun q hq => ?_) hq hG2 ?_, fun ρ ρ2 hB hK2 hρ r9 r3 rm => ?_⟩
  · rw [fp _ _ _ (by omega) (by omega) (by omega)] at t2
    obtain ⟨k, k1, k2, k3⟩ := f3 t t1 (by rw [fo _ _ _ (by omega)]; exact t3) t2
    exact Or.inr (n7 k t k1 k2 t1 k3)
  · rcases (show q = 0 ∨ q = 1 by omega) with e | e <;> subst e
    · rw [nW0]
      refine ⟨⟨fun k hk => ⟨d k, by rw [nN]; exact d2 k hk, w11 k hk⟩, fun k k1 k2 => ?_, fun k k' k1 k2 z => ?_⟩, fun k k' k1 k2 k3 _ => w13 k' (by omega) k3⟩
      · rw [w11 _ (by omega), w11 k k2, w12 k k1 k2, nlk]
        exact ⟨rfl, d3 k k1 k2⟩
      · rw [w11 k k1, w11 k' k2] at z
        have a1 := d2 k k1
        have a2 := d2 k' k2
        have := hG.2.2.2.2.1.1
        exact d4 k k' k1 k2 (nn_e (by omega) (by omega) z)
    · rw [nW1]
      exact ⟨⟨fun k hk => by omega, fun k _ hk => by omega, fun k k' hk => by omega⟩, fun k k' _ _ hk => by omega⟩
  · rw [n9 0 (by omega)]
    exact hx
  · refine rB_ld (i := K) (c := 0) (n := n) (K := K + 1) (ln := lnK E K) hB hG hX (by omega) (by omega) (by omega) hKi hlnK fo ⟨f1, f2, f3, f4, f5, f6, f7⟩ fp c7 nK nW hρ hK2 (fun k k1 k2 k3 => ?_) ?_ (fun q hq k k1 k2 => ?_)
    · rw [r9 k k1 k2 k3, n9 k k1]
    · rw [r3]
      unfold stE
      rw [n9 2 (by omega)]
      rfl
    · rcases (show q = 0 ∨ q = 1 by omega) with e | e <;> subst e
      · rw [nW0] at k2
        rw [rm k k1 k2]
        obtain ⟨t, a1, a2, -⟩ := f4 k k1 k2
        rw [fp _ _ _ (by omega) (by omega) (by omega), a2]
        unfold mdE
        rw [nn_t (by omega), if_pos (by omega), Int.toNat_natCast, n7 k t k1 k2 a1 a2]
      · rw [nW1] at k2
        omega
