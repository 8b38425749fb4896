/-! the reference begins to move a circuit -/
theorem iQ_p0 {E : VV} {i : Nat} (hQ : iQ E i 0) (h : E 9 i 2 = 0) : eB E i = 0 ∧ E 9 i 10 = 0 ∧ E 9 i 9 = 0 ∧ E 9 i 8 = 0 ∧ ∀ k, 1 ≤ k → k < eA E i → E 13 i k ≠ -1 := by
  rcases hQ.2.2.2.2 with q | q | q | q
  · exact q.2
  · rw [q.1] at h; exact absurd h (by decide)
  · rw [q.1] at h; exact absurd h (by decide)
  · rw [q.1] at h; exact absurd h (by decide)
theorem mv_smE {E E1 : VV} {l : List (Nat → Int32)} {i n j' : Nat} {N L : Nat → Int32} (hI : iG E l) (hi : i < eK E) (h2 : E 9 i 2 = 0) (h6 : n ≤ 6) (ht : tF (mvB E i n N L) E1 i 1 j') (hj : j' ≤ n) : smE E (uV (gvL E1 i 1 1 (n - 1)) 14 i 0 0) ∧ vG (uV (gvL E1 i 1 1 (n - 1)) 14 i 0 0) := by
  obtain ⟨b0, -⟩ := iQ_p0 (hI.1.2.2.2.1 i hi) h2
  have o : ∀ kd a k, ¬ (a = i ∧ 14 ≤ kd ∧ kd ≤ 17) → mvB E i n N L kd a k = E kd a k := fun kd a k h => cpV_o (by omega)
  have g : ∀ kd a k, kd ≠ 5 → kd ≠ 6 → kd ≠ 7 → ¬ (a = i ∧ 14 ≤ kd ∧ kd ≤ 17) → uV (gvL E1 i 1 1 (n - 1)) 14 i 0 0 kd a k = E kd a k := fun kd a k a1 a2 a3 a4 => by
    rw [uV_at, if_neg (by omega)]
    exact (gv_o ht a1 a2 a3 (by omega)).trans (o kd a k a4)
  have hK8 := hI.1.1.2.2.2.2.1.2.2.1
  have e14 : E 14 i 0 = 0 := by
    have := (hI.1.1.2.2.2.2.2.2.2 i (by omega)).1
    rw [b0] at this
    exact this
  refine ⟨⟨fun k _ _ => g _ _ _ (by omega) (by omega) (by omega) (by omega), fun k _ => g _ _ _ (by omega) (by omega) (by omega) (by omega), fun k _ => g _ _ _ (by omega) (by omega) (by omega) (by omega), fun j k _ _ => g _ _ _ (by omega) (by omega) (by omega) (by omega), fun k _ => g _ _ _ (by omega) (by omega) (by omega) (by omega), fun t ht' => ?_, fun t ht' e => ?_, fun k _ => g _ _ _ (by omega) (by omega) (by omega) (by omega), fun i k hi _ => g _ _ _ (by omega) (by omega) (by omega) (by omega), fun a c ha hc => ?_⟩, ?_⟩
  · rw [uV_k (by omega), gv_5 ht hj ht' (fun k k1 k2 => ?_), o _ _ _ (by omega)]
    unfold mvB
    rw [cpV_at, if_neg (by omega), if_neg (by omega), if_neg (by omega), if_pos (by omega)]
  · have e' : mvB E i n N L 5 0 t ≠ -1 := by rw [o _ _ _ (by omega)]; exact e
    rw [uV_k (by omega), uV_k (by omega)]
    exact ⟨(gv_67 ht ht' (Or.inl rfl) e').trans (o _ _ _ (by omega)), (gv_67 ht ht' (Or.inr rfl) e').trans (o _ _ _ (by omega))⟩
  · by_cases e : a = i ∧ c = 1
    · obtain ⟨rfl, rfl⟩ := e
      refine ⟨?_, fun d k d1 d2 hk => ?_⟩
      · rw [show 10 + 4 * 1 = 14 from rfl, e14]
        exact uV_s
      · have : eW E a 1 = eB E a := rfl
        omega
    · exact ⟨g _ _ _ (by omega) (by omega) (by omega) (by omega), fun d k d1 d2 _ => g _ _ _ (by omega) (by omega) (by omega) (by omega)⟩
  · have hGB : vG (mvB E i n N L) := vG_cp hI.1.1 (by omega) h6
    have q : ∀ kd a k, kd < 5 ∨ kd = 10 ∨ kd = 14 → gvL E1 i 1 1 (n - 1) kd a k = mvB E i n N L kd a k := fun kd a k h => gv_o ht (by omega) (by omega) (by omega) (by omega)
    have hG1 : vG (gvL E1 i 1 1 (n - 1)) := vG_sm ⟨q _ _ _ (by omega), q _ _ _ (by omega), q _ _ _ (by omega), q _ _ _ (by omega), fun _ => q _ _ _ (by omega), fun _ => q _ _ _ (by omega), fun _ => q _ _ _ (by omega)⟩ hGB
    refine vG_w hG1 (uV_k (by omega)) (uV_k (by omega)) (uV_k (by omega)) (uV_k (by omega)) (fun _ => uV_k (by omega)) (fun _ => Or.inl (uV_k (by omega))) (fun a => ?_)
    by_cases e : a = i
    · subst e
      exact Or.inr ⟨0, by omega, uV_s⟩
    · exact Or.inl (uV_i e)
/-- the new way is there -/
def mvE2 (E1 : VV) (i n : Nat) : VV := uV (uV E1 9 i 2 1) 9 i 10 (nn (n - 1))
theorem mv_ok {E E1 : VV} {l : List (Nat → Int32)} {i n : Nat} {d : Nat → Nat} {N L : Nat → Int32} (hI : iG E l) (hi : i < eK E) (p0 : E 9 i 2 = 0) (hN : ∀ k, k < n → N k = nn (d k)) (hL : ∀ k, 1 ≤ k → k < n → L k = ii (lkE E (nn (d (k - 1))) (nn (d k)))) (hd : dW E n d) (h2 : 2 ≤ n) (ht : tF (mvB E i n N L) E1 i 1 n) :
    iG (mvE2 E1 i n) l ∧ ∀ ρ ρ1, rB ρ E → rK ρ1 E1 (eK E) (lu (eW E) i 1 n) → (∀ q, (q < 120 + 66 * i + 25 * 1 ∨ 145 + 66 * i + 25 * 1 ≤ q) → ρ1 q = ρ q) → (∀ k, 1 ≤ k → k < n → ρ1 (120 + 66 * i + 25 * 1 + 19 + k) = 0) → rB (pm_up (pm_up ρ1 (104 + 66 * i + 2) 1) (104 + 66 * i + 3) (nn (n - 1))) (mvE2 E1 i n) := by
  obtain ⟨d1, d2, d3, d4⟩ := hd
  have hG := hI.1.1
  have hX := hI.1.2.1
  have hK8 := hG.2.2.2.2.1.2.2.1
  have hQ := hI.1.2.2.2.1 i hi
  obtain ⟨q0, q1, q2, q3, q4⟩ := iQ_p0 hQ p0
  have hL1 : eW E i 1 = eB E i := rfl
  have o : ∀ kd a k, ¬ (a = i ∧ 14 ≤ kd ∧ kd ≤ 17) → mvB E i n N L kd a k = E kd a k := fun kd a k h => cpV_o (by omega)
  have fo : ∀ kd a k, ¬ (a = i ∧ 9 ≤ kd ∧ kd ≤ 17) → mvB E i n N L kd a k = E kd a k := fun kd a k h => o kd a k (by omega)
  have hT0 : iT (mvB E i n N L) (eK E) (eW E) := by
    obtain ⟨t1, t2, t3⟩ := hX.1
    have ne : ∀ a c k, k < eW E a c → 1 ≤ k → c < 2 → mvB E i n N L (13 + 4 * c) a k = E (13 + 4 * c) a k ∧ mvB E i n N L (11 + 4 * c) a k = E (11 + 4 * c) a k := fun a c k hk k1 hc => by
      by_cases e : a = i ∧ c = 1
      · obtain ⟨rfl, rfl⟩ := e
        omega
      · exact ⟨o _ _ _ (by omega), o _ _ _ (by omega)⟩
    refine ⟨fun a c k t a1 a2 a3 a4 a5 a6 => ?_, fun t b1 b2 => ?_, fun a c k c' k' t a1 a2 a3 a4 a5 a6 a7 a8 a9 a10 => ?_⟩
    · rw [(ne a c k a4 a3 a2).1] at a6
      rw [o 5 _ _ (by omega), o 6 _ _ (by omega), (ne a c k a4 a3 a2).2]
      exact t1 a c k t a1 a2 a3 a4 a5 a6
    · rw [o 5 _ _ (by omega)] at b2
      obtain ⟨a, c, k, c1, c2, c3, c4, c5⟩ := t2 t b1 b2
      exact ⟨a, c, k, c1, c2, c3, c4, by rw [(ne a c k c4 c3 c2).1]; exact c5⟩
    · rw [(ne a c k a5 a4 a2).1] at a9
      rw [(ne a c' k' a7 a6 a3).1] at a10
      exact t3 a c k c' k' t a1 a2 a3 a4 a5 a6 a7 a8 a9 a10
  have ht' := ht
  obtain ⟨f1, f2, f3, f4, f5, f6, f7⟩ := ht
  have fp : ∀ kd a k, kd ≠ 7 → ¬ (kd = 0 ∧ k = 5) → ¬ (kd = 9 ∧ a = i) → mvE2 E1 i n kd a k = E1 kd a k := fun kd a k _ _ h => by
    unfold mvE2
    rw [uV_at, if_neg (by omega), uV_at, if_neg (by omega)]
  have s7 : ∀ t, mvE2 E1 i n 7 0 t = E1 7 0 t := fun t => by
    unfold mvE2
    rw [uV_k (by omega), uV_k (by omega)]
  have so : ∀ kd a k, kd ≠ 5 → kd ≠ 6 → kd ≠ 7 → ¬ (a = i ∧ (14 ≤ kd ∧ kd ≤ 17 ∨ kd = 9)) → mvE2 E1 i n kd a k = E kd a k := fun kd a k a5 a6 a7 a9 => by
    have : mvE2 E1 i n kd a k = E1 kd a k := by
      unfold mvE2
      rw [uV_at, if_neg (by omega), uV_at, if_neg (by omega)]
    rw [this, f1 kd a k a5 a6 a7 (by omega), o kd a k (by omega)]
  have s9 : ∀ k, mvE2 E1 i n 9 i k = if k = 10 then nn (n - 1) else if k = 2 then 1 else E 9 i k := fun k => by
    unfold mvE2
    rw [uV_at, uV_at]
    by_cases e : k = 10
    · rw [if_pos ⟨rfl, rfl, e⟩, if_pos e]
    · rw [if_neg (by omega), if_neg e]
      by_cases e2 : k = 2
      · rw [if_pos ⟨rfl, rfl, e2⟩, if_pos e2]
      · rw [if_neg (by omega), if_neg e2, f1 _ _ _ (by omega) (by omega) (by omega) (by omega), o _ _ _ (by omega)]
  have nK : eK (mvE2 E1 i n) = eK E := by unfold eK; rw [so 0 _ _ (by omega) (by omega) (by omega) (by omega)]
  have e14 : mvE2 E1 i n 14 i 0 = nn n := by
    rw [fp _ _ _ (by omega) (by omega) (by omega), f1 _ _ _ (by omega) (by omega) (by omega) (by omega)]
    exact cpV_0
  have nW1 := eW_1 e14 d1
  have nB : eB (mvE2 E1 i n) i = n := nW1
  have nA : ∀ a, eA (mvE2 E1 i n) a = eA E a := fun a => by unfold eA; rw [so 10 _ _ (by omega) (by omega) (by omega) (by omega)]
  have nW : ∀ a c, a < eK E → c < 2 → eW (mvE2 E1 i n) a c = lu (eW E) i 1 n a c := by
    intro a c ha hc
    by_cases e : a = i ∧ c = 1
    · obtain ⟨rfl, rfl⟩ := e
      rw [lu_s]
      exact nW1
    · rw [lu_o e]
      rcases (show c = 0 ∨ c = 1 by omega) with e | e <;> subst e
      · exact nA a
      · unfold eW eB
        rw [if_neg (by decide), if_neg (by decide), so 14 _ _ (by omega) (by omega) (by omega) (by omega)]
  have nN : eN (mvE2 E1 i n) = eN E := by unfold eN; rw [so 1 _ _ (by omega) (by omega) (by omega) (by omega)]
  have nL : eL (mvE2 E1 i n) = eL E := by unfold eL; rw [so 1 _ _ (by omega) (by omega) (by omega) (by omega)]
  have nlk : ∀ x y, lkE (mvE2 E1 i n) x y = lkE E x y := fun x y => by
    unfold lkE
    rw [nL]
    exact fi_c (fun j _ _ => by rw [so 3 _ _ (by omega) (by omega) (by omega) (by omega), so 3 _ _ (by omega) (by omega) (by omega) (by omega)])
  have w11 : ∀ k, k < n → mvE2 E1 i n (11 + 4 * 1) i k = nn (d k) := fun k hk => by
    rw [fp _ _ _ (by omega) (by omega) (by omega), f1 _ _ _ (by omega) (by omega) (by omega) (by omega)]
    exact (cpV_1 (by omega)).trans (hN k hk)
  have w12 : ∀ k, 1 ≤ k → k < n → mvE2 E1 i n (12 + 4 * 1) i k = ii (lkE E (nn (d (k - 1))) (nn (d k))) := fun k k1 hk => by
    rw [fp _ _ _ (by omega) (by omega) (by omega), f1 _ _ _ (by omega) (by omega) (by omega) (by omega)]
    exact (cpV_2 (by omega)).trans (hL k k1 hk)
  have w13 : ∀ k, 1 ≤ k → k < n → mvE2 E1 i n 17 i k ≠ -1 := fun k k1 hk => by
    rw [fp _ _ _ (by omega) (by omega) (by omega)]
    obtain ⟨t, a1, a2, -⟩ := f4 k k1 hk
    rw [show E1 17 i k = nn t from a2]
    exact nn_m1 (by omega)
  have s13 : ∀ k, mvE2 E1 i n 13 i k = E 13 i k := fun k => so 13 _ _ (by omega) (by omega) (by omega) (by omega)
  have hq : iQ (mvE2 E1 i n) i 0 := by
    obtain ⟨r1, r2, r3, r4, r5⟩ := hQ
    refine ⟨by rw [nA]; exact r1, by rw [s9, if_neg (by omega), if_neg (by omega)]; exact r2, fun k k1 k2 => by rw [nB] at k2; exact w13 k k1 k2, by rw [nA, s13]; exact r4, Or.inr (Or.inl ⟨by rw [s9, if_neg (by omega), if_pos rfl], by rw [nB]; exact h2, ⟨n - 1, by rw [nB]; omega, by rw [s9, if_pos rfl]⟩, by rw [s9, if_neg (by omega), if_neg (by omega)]; exact q2, by rw [s9, if_neg (by omega), if_neg (by omega)]; exact q3, fun k k1 k2 => ?_⟩)⟩
    rw [nA] at k2
    rw [s13]
    exact q4 k k1 k2
  have hG2 : vG (mvE2 E1 i n) := by
    refine vG_w hG (so _ _ _ (by omega) (by omega) (by omega) (by omega)) (so _ _ _ (by omega) (by omega) (by omega) (by omega)) (so _ _ _ (by omega) (by omega) (by omega) (by omega)) (so _ _ _ (by omega) (by omega) (by omega) (by omega)) (fun _ => so _ _ _ (by omega) (by omega) (by omega) (by omega)) (fun _ => Or.inl (so _ _ _ (by omega) (by omega) (by omega) (by omega))) (fun a => ?_)
    by_cases e : a = i
    · subst e
      exact Or.inr ⟨n, d1, e14⟩
    · exact Or.inl (so _ _ _ (by omega) (by omega) (by omega) (by omega))
  have hKi : ∀ a, a < eK E → a < eK E ∨ a = i := fun a ha => Or.inl ha
  have hlnK : ∀ a q, a < eK E → q < 2 → a ≠ i → eW E a q = eW E a q := fun _ _ _ _ _ => rfl
  have c7 : ∀ t, t < 120 → E 5 0 t ≠ -1 → mvE2 E1 i n 7 0 t = E1 7 0 t := fun t _ _ => s7 t
  refine ⟨iG_ld (i := i) (c := 1) (n := n) (K := eK E) (ln := eW E) hI hi (by omega) hK8 (Nat.le_refl _) hKi hlnK (by omega) fo hT0 ht' fp c7 (fun t t1 t2 t3 => ?_) nK nW (fun q hq => ?_) hq hG2 ?_, fun ρ ρ1 hB hK2 hρ rm => ?_⟩
  · rw [fp _ _ _ (by omega) (by omega) (by omega)] at t2
    obtain ⟨k, k1, k2, k3⟩ := f3 t t1 (by rw [fo _ _ _ (by omega)]; exact t3) t2
    obtain ⟨t', a1, a2, a3, a4, a5, a6, a7⟩ := f4 k k1 k2
    have : t = t' := nn_e (by omega) (by omega) (k3.symm.trans a2)
    subst this
    exact Or.inl ((s7 t).trans a7)
  · rcases (show q = 0 ∨ q = 1 by omega) with e | e <;> subst e
    · obtain ⟨w1, w2⟩ := hX.2.2 i hi 0 (by omega)
      rw [show eW (mvE2 E1 i n) i 0 = eW E i 0 from nA i]
      exact ⟨iWy_c (E := E) (i := i) (c := 0) nN nlk (fun k => so _ _ _ (by omega) (by omega) (by omega) (by omega)) (fun k => so _ _ _ (by omega) (by omega) (by omega) (by omega)) w1, iHd_c (E := E) (i := i) (c := 0) (fun k => so _ _ _ (by omega) (by omega) (by omega) (by omega)) w2⟩
    · rw [nW1]
      refine ⟨⟨fun k hk => ⟨d k, by rw [nN]; exact d2 k hk, w11 k hk⟩, fun k k1 k2 => ?_, fun k k' k1 k2 z => ?_⟩, fun k k' k1 k2 k3 _ => w13 k' (by omega) k3⟩
      · rw [w11 _ (by omega), w11 k k2, w12 k k1 k2, nlk]
        exact ⟨rfl, d3 k k1 k2⟩
      · rw [w11 k k1, w11 k' k2] at z
        have a1 := d2 k k1
        have a2 := d2 k' k2
        have := hG.2.2.2.2.1.1
        exact d4 k k' k1 k2 (nn_e (by omega) (by omega) z)
  · rw [s9, if_neg (by omega), if_neg (by omega)]
    exact hI.2.2.2.2.2.2.2.2.1 i hi
  · have hC := (hB.2.2 i hi).1
    have eo : ∀ q, q ≠ 104 + 66 * i + 2 → q ≠ 104 + 66 * i + 3 → pm_up (pm_up ρ1 (104 + 66 * i + 2) 1) (104 + 66 * i + 3) (nn (n - 1)) q = ρ1 q := fun q a1 a2 => by rw [up_at, if_neg a2, up_at, if_neg a1]
    refine rB_ld (i := i) (c := 1) (n := n) (K := eK E) (ln := eW E) hB hG hX hi (by omega) hK8 hKi hlnK fo ht' fp c7 nK nW (fun q a1 a2 a3 a4 => by rw [eo q (by omega) (by omega), hρ q (by omega)]) ⟨(eo 4 (by omega) (by omega)).trans hK2.1, hK2.2.1, fun a ha c hc => rW_c (hK2.2.2 a ha c hc) (fun k k1 k2 => by rcases (show c = 0 ∨ c = 1 by omega) with z | z <;> subst z <;> exact eo k (by omega) (by omega))⟩ (fun k k1 k2 k3 => ?_) ?_ (fun q hq k k1 k2 => ?_)
    · have hp := pk_l k k1 k2 k3
      rw [s9, if_neg k3]
      by_cases e : k = 2
      · subst e
        rw [if_pos rfl, show pk 2 = 2 from rfl, up_at, if_neg (by omega), up_at, if_pos rfl]
      · have := pk_i k k1 2 (by omega) k2 k3 (by omega) (by omega)
        have hp2 : pk 2 = 2 := rfl
        rw [if_neg e, eo _ (by omega) (by omega), hρ _ (by omega)]
        exact hC k k1 k2 k3
    · rw [show 107 + 66 * i = 104 + 66 * i + 3 by omega, up_at, if_pos rfl]
      have a2 : mvE2 E1 i n 9 i 2 = 1 := by rw [s9, if_neg (by omega), if_pos rfl]
      have a10 : mvE2 E1 i n 9 i 10 = nn (n - 1) := by rw [s9, if_pos rfl]
      unfold stE
      rw [a2, if_pos rfl, a10]
    · rcases (show q = 0 ∨ q = 1 by omega) with e | e <;> subst e
      · rw [show eW (mvE2 E1 i n) i 0 = eW E i 0 from nA i] at k2
        have h6 := (hB.2.1.2.2 i hi 0 (by omega)).2.1
        rw [eo _ (by omega) (by omega), hρ _ (by omega), (hB.2.2 i hi).2.2 0 (by omega) k k1 k2, so (13 + 4 * 0) _ _ (by omega) (by omega) (by omega) (by omega)]
        rcases rB_sl hB hi (c := 0) (by omega) k1 k2 with z | ⟨t, t1, t2⟩
        · rw [z]
          rfl
        · have q5 := (hX.1.1 i 0 k t hi (by omega) k1 k2 t1 t2).2.2
          rw [t2]
          unfold mdE
          rw [nn_t (by omega), if_pos (by omega), if_pos (by omega), Int.toNat_natCast, s7, (f2 t t1 (by rw [fo 5 _ _ (by omega)]; exact q5)).2.2, fo 7 _ _ (by omega)]
      · rw [nW1] at k2
        obtain ⟨t, a1, a2, a3, a4, a5, a6, a7⟩ := f4 k k1 k2
        rw [eo _ (by omega) (by omega), rm k k1 k2, fp _ _ _ (by omega) (by omega) (by omega), a2]
        unfold mdE
        rw [nn_t (by omega), if_pos (by omega), Int.toNat_natCast, s7, a7]
section
variable {H : fm_H} {b : Nat} {m m00 : fm_M}
theorem na_e {f g : Nat → Bool} {j k : Nat} (h : ∀ i, j ≤ i → i < j + k → f i = g i) : na f j k = na g j k := na_c h
end
