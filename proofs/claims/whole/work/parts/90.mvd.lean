/-! the reference begins to move a circuit -/
theorem iQ_p0 {E : VV} {i : Nat} (hQ : iQ E i 0) (h : E 9 i 2 = 0) : eB E i = 0 ∧ E 9 i 10 = 0 ∧ E 9 i 9 = 0 ∧ E 9 i 8 = 0 ∧ ∀ k, 1 ≤ k → k < eA E i → E 13 i k ≠ -1 := by
  rcases hQ.2.2.2.2 with q | q | q | q
  · exact q.2
  · rw [q.1] at h; exact absurd h (by decide)
  · rw [q.1] at h; exact absurd h (by decide)
  · rw [q.1] at h; exact absurd h (by decide)
theorem mv_smE {E E1 : VV} {l : List (Nat → Int32)} {i n j' : Nat} {N L : Nat → Int32} (hI : iG E l) (hi : i < eK E) (h2 : E 9 i 2 = 0) (h6 : n ≤ 6) (ht : tF (mvB E i n N L) E1 i 1 j') (hj : j' ≤ n) : smE E (uV (gvL E1 i 1 1 (n - 1)) 14 i 0 0) ∧ vG (uV (gvL E1 i 1 1 (n - 1)) 14 i 0 0) := by
  obtain ⟨b0, -⟩ := iQ_p0 (hI.1.2.2.2.1 i hi) h2
  have o : ∀ kd a k, ¬ (a = i ∧ 14 ≤ kd ∧ kd ≤ 17) → mvB E i n N L kd a k = E kd a k := fun kd a k h => cpV_o (by omega)
  have g : ∀ kd a k, kd ≠ 5 → kd ≠ 6 → kd ≠ 7 → ¬ (a = i ∧ 14 ≤ kd ∧ kd ≤ 17) → uV (gvL E1 i 1 1 (n - 1)) 14 i 0 0 kd a k = E kd a k := fun kd a k a1 a2 a3 a4 => by
    rw [uV_at, if_neg (by omega)]
    exact (gv_o ht a1 a2 a3 (by omega)).trans (o kd a k a4)
  have hK8 := hI.1.1.2.2.2.2.1.2.2.1
  have e14 : E 14 i 0 = 0 := by
    have := (hI.1.1.2.2.2.2.2.2.2 i (by omega)).1
    rw [b0] at this
    exact this
  refine ⟨⟨fun k _ _ => g _ _ _ (by omega) (by omega) (by omega) (by omega), fun k _ => g _ _ _ (by omega) (by omega) (by omega) (by omega), fun k _ => g _ _ _ (by omega) (by omega) (by omega) (by omega), fun j k _ _ => g _ _ _ (by omega) (by omega) (by omega) (by omega), fun k _ => g _ _ _ (by omega) (by omega) (by omega) (by omega), fun t ht' => ?_, fun t ht' e => ?_, fun k _ => g _ _ _ (by omega) (by omega) (by omega) (by omega), fun i k hi _ => g _ _ _ (by omega) (by omega) (by omega) (by omega), fun a c ha hc => ?_⟩, ?_⟩
  · rw [uV_k (by omega), gv_5 ht hj ht' (fun k k1 k2 => ?_), o _ _ _ (by omega)]
    unfold mvB
    rw [cpV_at, if_neg (by omega), if_neg (by omega), if_neg (by omega), if_pos (by omega)]
  · have e' : mvB E i n N L 5 0 t ≠ -1 := by rw [o _ _ _ (by omega)]; exact e
    rw [uV_k (by omega), uV_k (by omega)]
    exact ⟨(gv_67 ht ht' (Or.inl rfl) e').trans (o _ _ _ (by omega)), (gv_67 ht ht' (Or.inr rfl) e').trans (o _ _ _ (by omega))⟩
  · by_cases e : a = i ∧ c = 1
    · obtain ⟨rfl, rfl⟩ := e
      refine ⟨?_, fun d k d1 d2 hk => ?_⟩
      · rw [show 10 + 4 * 1 = 14 from rfl, e14]
        exact uV_s
      · have : eW E a 1 = eB E a := rfl
        omega
    · exact ⟨g _ _ _ (by omega) (by omega) (by omega) (by omega), fun d k d1 d2 _ => g _ _ _ (by omega) (by omega) (by omega) (by omega)⟩
  · have hGB : vG (mvB E i n N L) := vG_cp hI.1.1 (by omega) h6
    have q : ∀ kd a k, kd < 5 ∨ kd = 10 ∨ kd = 14 → gvL E1 i 1 1 (n - 1) kd a k = mvB E i n N L kd a k := fun kd a k h => gv_o ht (by omega) (by omega) (by omega) (by omega)
    have hG1 : vG (gvL E1 i 1 1 (n - 1)) := vG_sm ⟨q _ _ _ (by omega), q _ _ _ (by omega), q _ _ _ (by omega), q _ _ _ (by omega), fun _ => q _ _ _ (by omega), fun _ => q _ _ _ (by omega), fun _ => q _ _ _ (by omega)⟩ hGB
    refine vG_w hG1 (uV_k (by omega)) (uV_k (by omega)) (uV_k (by omega)) (uV_k (by omega)) (fun _ => uV_k (by omega)) (fun _ => Or.inl (uV_k (by omega))) (fun a => ?_)
    by_cases e : a = i
    · subst e
      exact Or.inr ⟨0, by omega, uV_s⟩
    · exact Or.inl (uV_i e)
/-- the new way is there -/
def mvE2 (E1 : VV) (i n : Nat) : VV := uV (uV E1 9 i 2 1) 9 i 10 (nn (n - 1))
theorem mv_ok {E E1 : VV} {l : List (Nat → Int32)} {i n : Nat} {d : Nat → Nat} {N L : Nat → Int32} (hI : iG E l) (hi : i < eK E) (p0 : E 9 i 2 = 0) (hN : ∀ k, k < n → N k = nn (d k)) (hL : ∀ k, 1 ≤ k → k < n → L k = ii (lkE E (nn (d (k - 1))) (nn (d k)))) (hd : dW E n d) (h2 : 2 ≤ n) (ht : tF (mvB E i n N L) E1 i 1 n) :
    iG (mvE2 E1 i n) l ∧ ∀ ρ ρ1, rB ρ E → rK ρ1 E1 (eK E) (lu (eW E) i 1 n) → (∀ q, (q < 120 + 66 * i + 25 * 1 ∨ 145 + 66 * i + 25 * 1 ≤ q) → ρ1 q = ρ q) → (∀ k, 1 ≤ k → k < n → ρ1 (120 + 66 * i + 25 * 1 + 19 + k) = 0) → rB (pm_up (pm_up ρ1 (104 + 66 * i + 2) 1) (104 + 66 * i + 3) (nn (n - 1))) (mvE2 E1 i n) := by
  obtain ⟨d1, d2, d3, d4⟩ := hd
  have hG := hI.1.1
  have hX := hI.1.2.1
  have hK8 := hG.2.2.2.2.1.2.2.1
  have hQ := hI.1.2.2.2.1 i hi
  obtain ⟨q0, q1, q2, q3, q4⟩ := iQ_p0 hQ p0
  have hL1 : eW E i 1 = eB E i := rfl
  have o : ∀ kd a k, ¬ (a = i ∧ 14 ≤ kd ∧ kd ≤ 17) → mvB E i n N L kd a k = E kd a k := fun kd a k h => cpV_o (by omega)
  have fo : ∀ kd a k, ¬ (a = i ∧ 9 ≤ kd ∧ kd ≤ 17) → mvB E i n N L kd a k = E kd a k := fun kd a k h => o kd a k (by omega)
  have hT0 : iT (mvB E i n N L) (eK E) (eW E) := by
    obtain ⟨t1, t2, t3⟩ := hX.1
    have ne : ∀ a c k, k < eW E a c → 1 ≤ k → c < 2 → mvB E i n N L (13 + 4 * c) a k = E (13 + 4 * c) a k ∧ mvB E i n N L (11 + 4 * c) a k = E (11 + 4 * c) a k := fun a c k hk k1 hc => by
      by_cases e : a = i ∧ c = 1
      · obtain ⟨rfl, rfl⟩ := e
        omega
      · exact ⟨o _ _ _ (by omega), o _ _ _ (by omega)⟩
    refine ⟨fun a c k t a1 a2 a3 a4 a5 a6 => ?_, fun t b1 b2 => ?_, fun a c k c' k' t a1 a2 a3 a4 a5 a6 a7 a8 a9 a10 => ?_⟩
    · rw [(ne a c k a4 a3 a2).1] at a6
      rw [o 5 _ _ (by omega), o 6 _ _ (by omega), (ne a c k a4 a3 a2).2]
      exact t1 a c k t a1 a2 a3 a4 a5 a6
    · rw [o 5 _ _ (by omega)] at b2
      obtain ⟨a, c, k, c1, c2, c3, c4, c5⟩ := t2 t b1 b2
      exact ⟨a, c, k, c1, c2, c3, c4, by rw [(ne a c k c4 c3 c2).1]; exact c5⟩
    · rw [(ne a c k a5 a4 a2).1] at a9
      rw [(ne a c' k' a7 a6 a3).1] at a10
      exact t3 a c k c' k' t a1 a2 a3 a4 a5 a6 a7 a8 a9 a10
  have ht' := ht
  obtain ⟨f1, f2, f3, f4, f5, f6, f7⟩ := ht
  have fp : ∀ kd a k, kd ≠ 7 → ¬ (kd = 0 ∧ k = 5) → ¬ (kd = 9 ∧ a = i) → mvE2 E1 i n kd a k = E1 kd a k := fun kd a k _ _ h => by
    unfold mvE2
    rw [uV_at, if_neg (by omega), uV_at, if_neg (by omega)]
  have s7 : ∀ t, mvE2 E1 i n 7 0 t = E1 7 0 t := fun t => by
    unfold mvE2
    rw [uV_k (by omega), uV_k (by omega)]
  have so : ∀ kd a k, kd ≠ 5 → kd ≠ 6 → kd ≠ 7 → ¬ (a = i ∧ (14 ≤ kd ∧ kd ≤ 17 ∨ kd = 9)) → mvE2 E1 i n kd a k = E kd a k := fun kd a k a5 a6 a7 a9 => by
    have : mvE2 E1 i n kd a k = E1 kd a k := by
      unfold mvE2
      rw [uV_at, if_neg (by omega), uV_at, if_neg (by omega)]
    rw [this, f1 kd a k a5 a6 a7 (by omega), o kd a k (by omega)]
  have s9 : ∀ k, mvE2 E1 i n 9 i k = if k = 10 then nn (n - 1) else if k = 2 then 1 else E 9 i k := fun k => by
    unfold mvE2
    rw [uV_at, uV_at]
    by_cases e : k = 10
    · rw [if_pos ⟨rfl, rfl, e⟩, if_pos e]
    · rw [if_neg (by omega), if_neg e]
      by_cases e2 : k = 2
      · rw [if_pos ⟨rfl, rfl, e2⟩, if_pos e2]
      · rw [if_neg (by omega), if_neg e2, f1 _ _ _ (by omega) (by omega) (by omega) (by omega), o _ _ _ (by omega)]
  have nK : eK (mvE2 E1 i n) = eK E := by unfold eK; rw [so 0 _ _ (by omega) (by omega) (by omega) (by omega)]
  have e14 : mvE2 E1 i n 14 i 0 = nn n := by
    rw [fp _ _ _ (by omega) (by omega) (by omega), f1 _ _ _ (by omega) (by omega) (by omega) (by omega)]
    exact cpV_0
  have nW1 := eW_1 e14 d1
  have nB : eB (mvE2 E1 i n) i = n := nW1
  have nA : ∀ a, eA (mvE2 E1 i n) a = eA E a := fun a => by unfold eA; rw [so 10 _ _ (by omega) (by omega) (by omega) (by omega)]
  have nW : ∀ a c, a < eK E → c < 2 → eW (mvE2 E1 i n) a c = lu (eW E) i 1 n a c := by
    intro a c ha hc
    by_cases e : a = i ∧ c = 1
    · obtain ⟨rfl, rfl⟩ := e
      rw [lu_s]
      exact nW1
    · rw [lu_o e]
      rcases (show c = 0 ∨ c = 1 by omega) with e | e <;> subst e
      · exact nA a
      · unfold eW eB
        rw [if_neg (by decide), if_neg (by decide), so 14 _ _ (by omega) (by omega) (by omega) (by omega)]
  have nN : eN (mvE2 E1 i n) = eN E := by unfold eN; rw [so 1 _ _ (by omega) (by omega) (by omega) (by omega)]
  have nL : eL (mvE2 E1 i n) = eL E := by unfold eL; rw [so 1 _ _ (by omega) (by omega) (by omega) (by omega)]
  have nlk : ∀ x y, lkE (mvE2 E1 i n) x y = lkE E x y := fun x y => by
    unfold lkE
    rw [nL]
    exact fi_c (fun j _ _ => by rw [so 3 _ _ (by omega) (by omega) (by omega) (by omega), so 3 _ _ (by omega) (by omega) (by omega) (by omega)])
  have w11 : ∀ k, k < n → mvE2 E1 i n (11 + 4 * 1) i k = nn (d k) := fun k hk => by
    rw [fp _ _ _ (by omega) (by omega) (by omega), f1 _ _ _ (by omega) (by omega) (by omega) (by omega)]
    exact (cpV_1 (by omega)).trans (hN k hk)
  have w12 : ∀ k, 1 ≤ k → k < n → mvE2 E1 i n (12 + 4 * 1) i k = ii (lkE E (nn (d (k - 1))) (nn (d k))) := fun k k1 hk => by
    rw [fp _ _ _ (by omega) (by omega) (by omega), f1 _ _ _ (by omega) (by omega) (by omega) (by omega)]
    exact (cpV_2 (by omega)).trans (hL k k1 hk)
  have w13 : ∀ k, 1 ≤ k → k < n → mvE2 E1 i n 17 i k ≠ -1 := fun k k1 hk => by
    rw [fp _ _ _ (by omega) (by omega) (by omega)]
    obtain ⟨t, a1, a2, -⟩ := f4 k k1 hk
    rw [show E1 17 i k = nn t from a2]
    exact nn_m1 (by omega)
  have s13 : ∀ k, mvE2 E1 i n 13 i k = E 13 i k := fun k => so 13 _ _ (by omega) (by omega) (by omega) (by omega)
  have hq : iQ (mvE2 E1 i n) i 0 := by
    obtain ⟨r1, r2, r3, r4, r5⟩ := hQ
    refine ⟨by rw [nA]; exact r1, by rw [s9, if_neg (by omega), if_neg (by omega)]; exact r2, fun k k1 k2 => by rw [nB] at k2; exact w13 k k1 k2, by rw [nA, s13]; exact r4, Or.inr (Or.inl ⟨by rw [s9, if_neg (by omega), if_pos rfl], by rw [nB]; exact h2, ⟨n - 1, by rw [nB]; omega, by rw [s9, if_pos rfl]⟩, by rw [s9, if_neg (by omega), if_neg (by omega)]; exact q2, by rw [s9, if_neg (by omega), if_neg (by omega)]; exact q3, fun k k1 k2 => ?_⟩)⟩
    rw [nA] at k2
    rw [s13]
    exact q4 k k1 k2
  have hG2 : vG (mvE2 E1 i n) := by
    refine vG_w hG (so _ _ _ (by omega) (by omega) (by omega) (by omega)) (so _ _ _ (by omega) (by omega) (by omega) (by omega)) (so _ _ _ (by omega) (by omega) (by omega) (by omega)) (so _ _ _ (by omega) (by omega) (by omega) (by omega)) (fun _ => so _ _ _ (by omega) (by omega) (by omega) (by omega)) (fun _ => Or.inl (so _ _ _ (by omega) (by omega) (by omega) (by omega))) (fun a => ?_)
    by_cases e : a = i
    · subst e
      exact Or.inr ⟨n, d1, e14⟩
    · exact Or.inl (so _ _ _ (by omega) (by omega) (by omega) (by omega))
  have hKi : ∀ a, a < eK E → a < eK E ∨ a = i := fun a ha => Or.inl ha
  have hlnK : ∀ a q, a < eK E → q < 2 → a ≠ i → eW E a q = eW E a q := fun _ _ _ _ _ => rfl
  have c7 : ∀ t, t < 120 → E 5 0 t ≠ -1 → mvE2 E1 i n 7 0 t = E1 7 0 t := fun t _ _ => s7 t
  refine ⟨iG_ld (i := i) (c := 1) (n := n) (K := eK E) (ln := eW E) hI hi (by omega) hK8 (Nat.le_refl _) hKi hlnK (by omega) fo hT0 ht' fp c7 (fun t t1 t2 t3 => ?_) nK nW (fun q hq => ?_) hq hG2 ?_, fun ρ ρ1 hB hK2 hρ rm => ?_⟩
  · rw [fp _ _ _ (by omega) (by omega) (by omega)] at t2
    obtain ⟨k, k1, k2, k3⟩ := f3 t t1 (by rw [fo _ _ _ (by omega)]; exact t3) t2
    obtain ⟨t', a1, a2, a3, a4, a5, a6, a7⟩ := f4 k k1 k2
    have : t = t' := nn_e (by omega) (by omega) (k3.symm.trans a2)
    subst this
    exact Or.inl ((s7 t).trans a7)
  · rcases (show q = 0 ∨ q = 1 by omega) with e | e <;> subst e
    · obtain ⟨w1, w2⟩ := hX.2.2 i hi 0 (by omega)
      rw [show eW (mvE2 E1 i n) i 0 = eW E i 0 from nA i]
      exact ⟨iWy_c (E := E) (i := i) (c := 0) nN nlk (fun k => so _ _ _ (by omega) (by omega) (by omega) (by omega)) (fun k => so _ _ _ (by omega) (by omega) (by omega) (by omega)) w1, iHd_c (E := E) (i := i) (c := 0) (fun k => so _ _ _ (by omega) (by omega) (by omega) (by omega)) w2⟩
    · rw [nW1]
      refine ⟨⟨fun k hk => ⟨d k, by rw [nN]; exact d2 k hk, w11 k hk⟩, fun k k1 k2 => ?_, fun k k' k1 k2 z => ?_⟩, fun k k' k1 k2 k3 _ => w13 k' (by omega) k3⟩
      · rw [w11 _ (by omega), w11 k k2, w12 k k1 k2, nlk]
        exact ⟨rfl, d3 k k1 k2⟩
      · rw [w11 k k1, w11 k' k2] at z
        have a1 := d2 k k1
        have a2 := d2 k' k2
        have := hG.2.2.2.2.1.1
        exact d4 k k' k1 k2 (nn_e (by omega) (by omega) z)
  · rw [s9, if_neg (by omega), if_neg (by omega)]
    exact hI.2.2.2.2.2.2.2.2.1 i hi
  · have hC := (hB.2.2 i hi).1
    have eo : ∀ q, q ≠ 104 + 66 * i + 2 → q ≠ 104 + 66 * i + 3 → pm_up (pm_up ρ1 (104 + 66 * i + 2) 1) (104 + 66 * i + 3) (nn (n - 1)) q = ρ1 q := fun q a1 a2 => by rw [up_at, if_neg a2, up_at, if_neg a1]
    refine rB_ld (i := i) (c := 1) (n := n) (K := eK E) (ln := eW E) hB hG hX hi (by omega) hK8 hKi hlnK fo ht' fp c7 nK nW (fun q a1 a2 a3 a4 => by rw [eo q (by omega) (by omega), hρ q (by omega)]) ⟨(eo 4 (by omega) (by omega)).trans hK2.1, hK2.2.1, fun a ha c hc => rW_c (hK2.2.2 a ha c hc) (fun k k1 k2 => by rcases (show c = 0 ∨ c = 1 by omega) with z | z <;> subst z <;> exact eo k (by omega) (by omega))⟩ (fun k k1 k2 k3 => ?_) ?_ (fun q hq k k1 k2 => ?_)
    · have hp := pk_l k k1 k2 k3
      rw [s9, if_neg k3]
      by_cases e : k = 2
      · subst e
        rw [if_pos rfl, show pk 2 = 2 from rfl, up_at, if_neg (by omega), up_at, if_pos rfl]
      · have := pk_i k k1 2 (by omega) k2 k3 (by omega) (by omega)
        have hp2 : pk 2 = 2 := rfl
        rw [if_neg e, eo _ (by omega) (by omega), hρ _ (by omega)]
        exact hC k k1 k2 k3
    · rw [show 107 + 66 * i = 104 + 66 * i + 3 by omega, up_at, if_pos rfl]
      have a2 : mvE2 E1 i n 9 i 2 = 1 := by rw [s9, if_neg (by omega), if_pos rfl]
      have a10 : mvE2 E1 i n 9 i 10 = nn (n - 1) := by rw [s9, if_pos rfl]
      unfold stE
      rw [a2, if_pos rfl, a10]
    · rcases (show q = 0 ∨ q = 1 by omega) with e | e <;> subst e
      · rw [show eW (mvE2 E1 i n) i 0 = eW E i 0 from nA i] at k2
        have h6 := (hB.2.1.2.2 i hi 0 (by omega)).2.1
        rw [eo _ (by omega) (by omega), hρ _ (by omega), (hB.2.2 i hi).2.2 0 (by omega) k k1 k2, so (13 + 4 * 0) _ _ (by omega) (by omega) (by omega) (by omega)]
        rcases rB_sl hB hi (c := 0) (by omega) k1 k2 with z | ⟨t, t1, t2⟩
        · rw [z]
          rfl
        · have q5 := (hX.1.1 i 0 k t hi (by omega) k1 k2 t1 t2).2.2
          rw [t2]
          unfold mdE
          rw [nn_t (by omega), if_pos (by omega), if_pos (by omega), Int.toNat_natCast, s7, (f2 t t1 (by rw [fo 5 _ _ (by omega)]; exact q5)).2.2, fo 7 _ _ (by omega)]
      · rw [nW1] at k2
        obtain ⟨t, a1, a2, a3, a4, a5, a6, a7⟩ := f4 k k1 k2
        rw [eo _ (by omega) (by omega), rm k k1 k2, fp _ _ _ (by omega) (by omega) (by omega), a2]
        unfold mdE
        rw [nn_t (by omega), if_pos (by omega), Int.toNat_natCast, s7, a7]
section
variable {H : fm_H} {b : Nat} {m m00 : fm_M}
theorem r_same_l (hM : kM H b) {ρ : Nat → Int32} {p n : Nat} (hr : m.1 (b + 1) = ρ) (hn : m.1 b 6 = nn n) (h6 : n ≤ 6) (hp : p + 20 < 1112) : ∀ (k q j : Nat) (x : Bool), j + k = n → k < q → f_X12_isDraftWay_28 H b (nn p) q (bi x) (nn j) m = some (bi (x && na (fun k => decide (ρ (p + 1 + k) = m.1 (b + 6) k)) j k), m) := by
  intro k
  induction k with
  | zero =>
    intro q j x h1 h2
    obtain ⟨q, rfl⟩ : ∃ q', q = q' + 1 := ⟨q - 1, by omega⟩
    unfold f_X12_isDraftWay_28
    rw [hn, if_pos ((nn_le (by omega) (by omega)).mpr (by omega)), if_pos bi_01]
    unfold na
    rw [Bool.and_true]
  | succ k ih =>
    intro q j x h1 h2
    obtain ⟨q, rfl⟩ : ∃ q', q = q' + 1 := ⟨q - 1, by omega⟩
    unfold f_X12_isDraftWay_28
    rw [hn, if_neg (fun z => by rw [nn_le (by omega) (by omega)] at z; omega)]
    cases x with
    | false =>
      rw [if_pos (by decide), if_pos bi_01]
      rfl
    | true =>
      rw [if_neg (by decide), nl_1, nn_add, nn_add, kM_0 hM, kM_z1 hM, kM_5 hM, kM_z6 hM, if_pos ((nn_in (by omega)).mpr (by omega)), if_pos ((nn_in (by omega)).mpr (by omega)), nn_tn (by omega), nn_tn (by omega), hr, nn_add, Bool.true_and]
      unfold na
      by_cases e : ρ (p + 1 + j) = m.1 (b + 6) j
      · rw [if_pos e, decide_eq_true e]
        exact ih q (j + 1) true (by omega) (by omega)
      · rw [if_neg e, decide_eq_false e]
        exact ih q (j + 1) false (by omega) (by omega)
theorem na_e {f g : Nat → Bool} {j k : Nat} (h : ∀ i, j ≤ i → i < j + k → f i = g i) : na f j k = na g j k := na_c h
theorem r_isDraftWay (hM : kM H b) {ρ : Nat → Int32} {E : VV} {i n : Nat} {N : Nat → Int32} (hr : m.1 (b + 1) = ρ) (hi : i < 8) (hW : rW ρ E (120 + 66 * i + 25 * 0) (eW E i 0) 0 i) (hn : m.1 b 6 = nn n) (h6 : n ≤ 6) (hN : ∀ k, k < n → m.1 (b + 6) k = N k) : f_X12_isDraftWay H b (nn i) m = some (bi (sameV E i n N), m) := by
  obtain ⟨w0, w1, w2, -⟩ := hW
  unfold f_X12_isDraftWay
  rw [nl_0, r_wayPlace, fb_n, kM_0 hM, kM_z1 hM, if_pos ((nn_in (by omega)).mpr (by omega)), nn_tn (by omega), hr, w0, hn]
  have e0 : eW E i 0 = eA E i := rfl
  rw [e0] at w1 w2 ⊢
  unfold sameV
  by_cases e : eA E i = n
  · rw [if_pos (by rw [e]), decide_eq_true e, Bool.true_and, show (1 : Int32) = bi true from rfl, r_same_l hM hr hn h6 (by omega) n fm_N 0 true (by omega) (by unfold fm_N; omega), Bool.true_and, e]
    refine congrArg (fun z => some (bi z, m)) (na_e (fun k _ hk => ?_))
    rw [hN k (by omega), show 11 + 4 * 0 = 11 from rfl] at *
    rw [w2 k (by omega)]
  · rw [if_neg (fun z => e (nn_e (by omega) (by omega) z)), decide_eq_false e, Bool.false_and, show f_X12_isDraftWay_28 H b (nn (120 + 66 * i + 25 * 0)) fm_N (nn 0) (nn 0) m = f_X12_isDraftWay_28 H b (nn (120 + 66 * i + 25 * 0)) fm_N (bi false) (nn 0) m from rfl, r_same_l hM hr hn h6 (by omega) n fm_N 0 false (by omega) (by unfold fm_N; omega)]
    rfl
theorem r_moveToDraft (hM : kM H b) {ρ : Nat → Int32} {E : VV} {l : List (Nat → Int32)} (hR : rI b m00 m ρ) (hA : rAll ρ E l) (hI : iG E l) {i n : Nat} {d : Nat → Nat} (hi : i < eK E) (p0 : E 9 i 2 = 0) (hD : dR b m00 n d) (hd : dW E n d) {N L : Nat → Int32} (hN : ∀ k, k < n → N k = nn (d k)) (hL : ∀ k, 1 ≤ k → k < n → L k = ii (lkE E (nn (d (k - 1))) (nn (d k)))) (he : endV E i n N = true) :
    fE (f_X12_moveToDraft H b (nn i) m) (fun r m' => r = (mvV E i n N L).1 ∧ ∃ ρ', rI b m00 m' ρ' ∧ rAll ρ' (mvV E i n N L).2 l ∧ iG (mvV E i n N L).2 l ∧ (mvV E i n N L).2 0 0 6 = E 0 0 6) := by
  have hG := hI.1.1
  have hX := hI.1.2.1
  have hB := hA.1
  have h4 := hB.2.1.1
  have hK8 : eK E ≤ 8 := hB.2.1.2.1
  have h6 := hd.1
  obtain ⟨dm, dn⟩ := hD
  obtain ⟨br, b1, b2⟩ := hI.2.2.2.2.2.1
  have h2 : 2 ≤ n := by
    unfold endV at he
    rw [Bool.and_eq_true] at he
    exact of_decide_eq_true he.1
  have z6 : ∀ {m1 ρ1}, rI b m00 m1 ρ1 → m1.1 b 6 = nn n := fun h => (rI_o h (by omega) (by omega) (by omega)).trans dm
  have zd : ∀ {m1 ρ1}, rI b m00 m1 ρ1 → ∀ k, k < n → m1.1 (b + 6) k = nn (d k) := fun h k hk => (rI_o h (by omega) (by omega) (by omega)).trans (dn k hk)
  unfold f_X12_moveToDraft mvV
  rw [if_neg (show ¬ E 9 i 2 ≠ 0 from fun h => h p0), if_neg (show ¬ endV E i n N = false by rw [he]; decide), r_isDraftWay hM hR.1 (by omega) (hB.2.1.2.2 i hi 0 (by omega)) (z6 hR) h6 (fun k hk => (zd hR k hk).trans (hN k hk).symm), fb_n]
  cases c1 : sameV E i n N with
  | true =>
    rw [if_neg (by decide), it_tt]
    exact fE_ret ⟨rfl, ρ, hR, hA, hI, rfl⟩
  | false =>
    rw [if_pos (by decide), it_ft, r_of0 hM (by omega), fb_n, hR.1, show ρ (104 + 66 * i) = E 9 i 0 from (hB.2.2 i hi).1 0 (by omega) (by omega) (by omega)]
    have hV : ∀ a, a < eK E → nn a ≠ nn i → rV1 ρ E a := fun a ha _ => rB_V1 hB hX ha (hI.1.2.2.2.1 a ha)
    have hdl : ∀ k, 1 ≤ k → k < n → L k = ii (lkE E (m.1 (b + 6) (k - 1)) (m.1 (b + 6) k)) ∧ lkE E (m.1 (b + 6) (k - 1)) (m.1 (b + 6) k) ≠ -1 := fun k k1 k2 => by
      rw [zd hR _ (by omega), zd hR k k2]
      exact ⟨hL k k1 k2, hd.2.2.1 k k1 k2⟩
    rw [r_draftHasRoom hM hR.1 hB.1 hG hI.2.2.2.1 h4 hK8 hV h6 (z6 hR) hdl, fb_n]
    cases c3 : na (fun k => hr E (eL E) (eK E) (eA E) (eB E) (L k).toInt (E 9 i 0) (nn i)) 1 (n - 1) with
    | false =>
      rw [if_pos (by decide), it_ff]
      exact fE_ret ⟨rfl, ρ, hR, hA, hI, rfl⟩
    | true =>
      rw [if_neg (by decide), it_tf]
      have oB : ∀ kd a k, ¬ (a = i ∧ 14 ≤ kd ∧ kd ≤ 17) → mvB E i n N L kd a k = E kd a k := fun kd a k h => cpV_o (by omega)
      have hGB : vG (mvB E i n N L) := vG_cp hG (by omega) h6
      have nN : eN (mvB E i n N L) = eN E := by unfold eN; rw [oB 1 _ _ (by omega)]
      have nL : eL (mvB E i n N L) = eL E := by unfold eL; rw [oB 1 _ _ (by omega)]
      have nlk : ∀ p q, lkE (mvB E i n N L) p q = lkE E p q := fun p q => by
        unfold lkE
        rw [nL]
        exact fi_c (fun j _ _ => by rw [oB 3 _ _ (by omega), oB 3 _ _ (by omega)])
      have hBB : iB (mvB E i n N L) := fun p q p1 q1 => by
        rw [oB 2 _ _ (by omega), nlk]
        exact hI.2.1 p q p1 q1
      have hZB : iZ (mvB E i n N L) := fun f t f1 t1 e => by
        have z : eZ (mvB E i n N L) f = eZ E f := by unfold eZ; rw [oB 4 _ _ (by omega)]
        rw [z]
        rw [oB 5 _ _ (by omega)] at e
        exact hI.2.2.1 f t f1 t1 e
      have hL16 := hG.2.2.2.2.1.2.1
      have hNB : rN ρ (mvB E i n N L) := rN_f hB.1 (fun kd i k h => oB _ _ _ (by omega))
      have hWB : ∀ a, a < eK E → ∀ e, e < 2 → ¬ (a = i ∧ e = 1) → rW ρ (mvB E i n N L) (120 + 66 * a + 25 * e) (eW E a e) e a := fun a ha e he hn =>
        rW_e (hB.2.1.2.2 a ha e he) (fun k => oB _ _ _ (by omega)) (fun k => oB _ _ _ (by omega))
      have q0 := (iQ_p0 (hI.1.2.2.2.1 i hi) p0).1
      have hT0 : iT (mvB E i n N L) (eK E) (eW E) := by
        obtain ⟨t1, t2, t3⟩ := hX.1
        have ne : ∀ a c k, k < eW E a c → 1 ≤ k → c < 2 → mvB E i n N L (13 + 4 * c) a k = E (13 + 4 * c) a k ∧ mvB E i n N L (11 + 4 * c) a k = E (11 + 4 * c) a k := fun a c k hk k1 hc => by
          by_cases e : a = i ∧ c = 1
          · obtain ⟨rfl, rfl⟩ := e
            have : eW E a 1 = eB E a := rfl
            omega
          · exact ⟨oB _ _ _ (by omega), oB _ _ _ (by omega)⟩
        refine ⟨fun a c k t a1 a2 a3 a4 a5 a6 => ?_, fun t b1 b2 => ?_, fun a c k c' k' t a1 a2 a3 a4 a5 a6 a7 a8 a9 a10 => ?_⟩
        · rw [(ne a c k a4 a3 a2).1] at a6
          rw [oB 5 _ _ (by omega), oB 6 _ _ (by omega), (ne a c k a4 a3 a2).2]
          exact t1 a c k t a1 a2 a3 a4 a5 a6
        · rw [oB 5 _ _ (by omega)] at b2
          obtain ⟨a, c, k, c1, c2, c3, c4, c5⟩ := t2 t b1 b2
          exact ⟨a, c, k, c1, c2, c3, c4, by rw [(ne a c k c4 c3 c2).1]; exact c5⟩
        · rw [(ne a c k a5 a4 a2).1] at a9
          rw [(ne a c' k' a7 a6 a3).1] at a10
          exact t3 a c k c' k' t a1 a2 a3 a4 a5 a6 a7 a8 a9 a10
      refine fE_be (r_layDraft hM (m00 := m00) (mk := 0) (ln := eW E) (c := 1) (i := i) hR hGB hBB hZB hNB h4 hWB hT0 hK8 hi (by omega) (by have : eW E i 1 = eB E i := rfl; omega) h6 h2 dm (d := d) (fun k hk => ⟨dn k hk, (cpV_1 (by omega)).trans (hN k hk), by rw [nN]; exact hd.2.1 k hk⟩) ((oB _ _ _ (by omega)).trans b2) (by omega) (by
        unfold mvB
        rw [cpV_at, if_neg (by omega), if_neg (by omega), if_neg (by omega), if_pos (by omega)])) (fun r m3 ⟨e1, ρ', h3, q1, q2⟩ => ?_)
      subst e1
      cases c4 : (tlE (mvB E i n N L) i 1 1 (n - 1)).1 with
      | false =>
        obtain ⟨⟨j', j1, j2⟩, q3, q4⟩ := q2 c4
        rw [if_pos (by decide), it_ff]
        obtain ⟨s1, s2⟩ := mv_smE hI hi p0 h6 j1 j2
        have hI2 := sm_iG s1 s2 hI
        refine fE_ret ⟨rfl, ρ', h3, ⟨sm_rB s1 hX hG ?_, rP_c hA.2 (fun k hk => q4 k (by omega))⟩, hI2, s1.1 6 (by omega) (by omega)⟩
        obtain ⟨g1, ⟨g2, g3, g4⟩, g5⟩ := hB
        refine ⟨rN_c g1 hL16 (fun k k1 k2 k3 => q4 k (by omega)), ⟨(q4 4 (by omega)).trans g2, g3, fun a ha c hc => ?_⟩, fun a ha => ?_⟩
        · by_cases e : a = i ∧ c = 1
          · obtain ⟨rfl, rfl⟩ := e
            rw [show eW E a 1 = 0 from q0]
            exact ⟨q3, by omega, fun k hk => by omega, fun k hk => by omega⟩
          · refine rW_c (g4 a ha c hc) (fun k k1 k2 => q4 k ?_)
            rcases (show c = 0 ∨ c = 1 by omega) with e1 | e1 <;> subst e1 <;> omega
        · obtain ⟨d1, d2, d3⟩ := g5 a ha
          refine ⟨rC_c d1 (fun k k1 k2 => q4 k (by omega)), (q4 _ (by omega)).trans d2, fun c hc k k1 k2 => ?_⟩
          by_cases e : a = i ∧ c = 1
          · obtain ⟨rfl, rfl⟩ := e
            have : eW E a 1 = 0 := q0
            omega
          · have h66 := (g4 a ha c hc).2.1
            rw [q4 _ (by rcases (show c = 0 ∨ c = 1 by omega) with e1 | e1 <;> subst e1 <;> omega)]
            exact d3 c hc k k1 k2
      | true =>
        obtain ⟨l1, l2, l3, l4, l5⟩ := q1 c4
        rw [if_neg (by decide), it_tf]
        obtain ⟨p1, p2⟩ := mv_ok hI hi p0 hN hL hd h2 l3
        rw [nl_2]
        refine fE_put_ hM h3 (by omega) (fun m5 h5 => ?_)
        rw [z6 h5, nl_3, nl_1, nn_sub (by omega)]
        refine fE_put_ hM h5 (by omega) (fun m6 h6 => fE_ret ⟨rfl, _, h6, ⟨p2 ρ ρ' hB l2 l4 (fun k k1 k2 => l5 k k1 k2), rP_c hA.2 (fun k hk => ?_)⟩, p1, ?_⟩)
        · rw [up_at, if_neg (by omega), up_at, if_neg (by omega)]
          exact l4 k (by omega)
        · dsimp only
          rw [uV_k (by omega), uV_k (by omega), l3.1 _ _ _ (by decide) (by decide) (by decide) (by omega), oB _ _ _ (by omega)]
end
