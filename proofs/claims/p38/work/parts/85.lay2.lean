/-! labels given up, entries made: what is so then -/
theorem gvL_S (E : VV) (i c j r : Nat) : gvL E i c j (r + 1) = gvL (uV (guE E (E (13 + 4 * c) i j)) (13 + 4 * c) i j (-1)) i c (j + 1) r := rfl
theorem mkL_S (E : VV) (i c j r : Nat) : mkL E i c j (r + 1) = mkL (mkE E (E (13 + 4 * c) i j)) i c (j + 1) r := rfl
theorem gvL_o {i c : Nat} : ∀ {r j : Nat} {E : VV} {kd a k : Nat}, kd ≠ 5 → ¬ (kd = 13 + 4 * c ∧ a = i ∧ j ≤ k ∧ k < j + r) → gvL E i c j r kd a k = E kd a k := by
  intro r
  induction r with
  | zero => exact fun _ _ => rfl
  | succ r ih =>
    intro j E kd a k h5 h
    rw [gvL_S, ih h5 (by omega)]
    by_cases e : kd = 13 + 4 * c ∧ a = i ∧ k = j
    · omega
    · rw [uV_at, if_neg e, guE_o h5]
theorem guE_5 {E : VV} {x : Int32} {t : Nat} (ht : t < 120) : guE E x 5 0 t = if x = nn t then -1 else E 5 0 t := by
  unfold guE
  by_cases e : x = nn t
  · rw [if_pos e, e, nn_t (by omega), if_pos (by omega), Int.toNat_natCast]
    exact uV_s
  · rw [if_neg e]
    split
    · rename_i h
      refine uV_p (fun z => e ?_)
      rw [z]
      have := ii_of x
      rw [show nn x.toInt.toNat = ii x.toInt from congrArg ii (by omega)]
      exact this
    · rfl
theorem gvL_5z {i c t : Nat} (ht : t < 120) : ∀ {r j : Nat} {E : VV}, E 5 0 t = -1 → gvL E i c j r 5 0 t = -1 := by
  intro r
  induction r with
  | zero => exact fun h => h
  | succ r ih =>
    intro j E h
    rw [gvL_S]
    refine ih ?_
    rw [uV_k (by omega), guE_5 ht, h]
    split <;> rfl
theorem gvL_5y {i c t : Nat} (ht : t < 120) : ∀ {r j : Nat} {E : VV} {k : Nat}, j ≤ k → k < j + r → E (13 + 4 * c) i k = nn t → gvL E i c j r 5 0 t = -1 := by
  intro r
  induction r with
  | zero => intro j E k h1 h2; omega
  | succ r ih =>
    intro j E k h1 h2 h3
    rw [gvL_S]
    by_cases e : k = j
    · subst e
      refine gvL_5z ht ?_
      rw [uV_k (by omega), guE_5 ht, if_pos h3]
    · exact ih (k := k) (by omega) (by omega) (by rw [uV_p e, guE_o (by omega)]; exact h3)
theorem gvL_5n {i c t : Nat} (ht : t < 120) : ∀ {r j : Nat} {E : VV}, (∀ k, j ≤ k → k < j + r → E (13 + 4 * c) i k ≠ nn t) → gvL E i c j r 5 0 t = E 5 0 t := by
  intro r
  induction r with
  | zero => exact fun _ => rfl
  | succ r ih =>
    intro j E h
    rw [gvL_S, ih (fun k h1 h2 => ?_)]
    · rw [uV_k (by omega), guE_5 ht, if_neg (h j (by omega) (by omega))]
    · rw [uV_p (by omega), guE_o (by omega)]
      exact h k (by omega) (by omega)
theorem gvL_13 {i c : Nat} : ∀ {r j : Nat} {E : VV} {k : Nat}, j ≤ k → k < j + r → gvL E i c j r (13 + 4 * c) i k = -1 := by
  intro r
  induction r with
  | zero => intro j E k h1 h2; omega
  | succ r ih =>
    intro j E k h1 h2
    rw [gvL_S]
    by_cases e : k = j
    · subst e
      rw [gvL_o (by omega) (by omega)]
      exact uV_s
    · exact ih (by omega) (by omega)
theorem mkL_o {i c : Nat} : ∀ {r j : Nat} {E : VV} {kd a k : Nat}, kd ≠ 7 → mkL E i c j r kd a k = E kd a k := by
  intro r
  induction r with
  | zero => exact fun _ => rfl
  | succ r ih =>
    intro j E kd a k h
    rw [mkL_S, ih h, mkE_o h]
theorem mkE_7 {E : VV} {x : Int32} {t : Nat} (ht : t < 120) : mkE E x 7 0 t = if x = nn t then 1 else E 7 0 t := by
  unfold mkE
  by_cases e : x = nn t
  · rw [if_pos e, e, nn_t (by omega), if_pos (by omega), Int.toNat_natCast]
    exact uV_s
  · rw [if_neg e]
    split
    · rename_i h
      refine uV_p (fun z => e ?_)
      rw [z]
      have := ii_of x
      rw [show nn x.toInt.toNat = ii x.toInt from congrArg ii (by omega)]
      exact this
    · rfl
theorem mkL_7z {i c t : Nat} (ht : t < 120) : ∀ {r j : Nat} {E : VV}, E 7 0 t = 1 → mkL E i c j r 7 0 t = 1 := by
  intro r
  induction r with
  | zero => exact fun h => h
  | succ r ih =>
    intro j E h
    rw [mkL_S]
    refine ih ?_
    rw [mkE_7 ht, h]
    split <;> rfl
theorem mkL_7y {i c t : Nat} (ht : t < 120) : ∀ {r j : Nat} {E : VV} {k : Nat}, j ≤ k → k < j + r → E (13 + 4 * c) i k = nn t → mkL E i c j r 7 0 t = 1 := by
  intro r
  induction r with
  | zero => intro j E k h1 h2; omega
  | succ r ih =>
    intro j E k h1 h2 h3
    rw [mkL_S]
    by_cases e : k = j
    · subst e
      refine mkL_7z ht ?_
      rw [mkE_7 ht, if_pos h3]
    · exact ih (k := k) (by omega) (by omega) (by rw [mkE_o (by omega)]; exact h3)
theorem mkL_7n {i c t : Nat} (ht : t < 120) : ∀ {r j : Nat} {E : VV}, (∀ k, j ≤ k → k < j + r → E (13 + 4 * c) i k ≠ nn t) → mkL E i c j r 7 0 t = E 7 0 t := by
  intro r
  induction r with
  | zero => exact fun _ => rfl
  | succ r ih =>
    intro j E h
    rw [mkL_S, ih (fun k h1 h2 => ?_)]
    · rw [mkE_7 ht, if_neg (h j (by omega) (by omega))]
    · rw [mkE_o (by omega)]
      exact h k (by omega) (by omega)
/-- a laying that failed has changed nothing that counts -/
theorem gv_5 {E0 E1 : VV} {i c j n : Nat} (h : tF E0 E1 i c j) (hj : j ≤ n) {t : Nat} (ht : t < 120) (h0 : ∀ k, 1 ≤ k → k < n → E0 (13 + 4 * c) i k = -1) : gvL E1 i c 1 (n - 1) 5 0 t = E0 5 0 t := by
  obtain ⟨f1, f2, f3, f4, f5, f6, f7⟩ := h
  by_cases e : E0 5 0 t = -1
  · rw [e]
    by_cases e1 : E1 5 0 t = -1
    · exact gvL_5z ht e1
    · obtain ⟨k, k1, k2, k3⟩ := f3 t ht e e1
      exact gvL_5y ht (k := k) k1 (by omega) k3
  · rw [gvL_5n ht (fun k k1 k2 z => ?_), (f2 t ht e).1]
    by_cases q : k < j
    · obtain ⟨t', t1, t2, t3, -⟩ := f4 k k1 q
      have : t = t' := nn_e (by omega) (by omega) (z.symm.trans t2)
      subst this
      exact e t3
    · rw [f5 k (by omega), h0 k k1 (by omega)] at z
      exact nn_m1 (by omega) z.symm
theorem gv_67 {E0 E1 : VV} {i c j n : Nat} (h : tF E0 E1 i c j) {t kd : Nat} (ht : t < 120) (hk : kd = 6 ∨ kd = 7) (e : E0 5 0 t ≠ -1) : gvL E1 i c 1 (n - 1) kd 0 t = E0 kd 0 t := by
  rw [gvL_o (by omega) (by omega)]
  rcases hk with hk | hk <;> subst hk
  · exact (h.2.1 t ht e).2.1
  · exact (h.2.1 t ht e).2.2
theorem gv_o {E0 E1 : VV} {i c j n kd a k : Nat} (h : tF E0 E1 i c j) (h5 : kd ≠ 5) (h6 : kd ≠ 6) (h7 : kd ≠ 7) (hn : ¬ (kd = 13 + 4 * c ∧ a = i)) : gvL E1 i c 1 (n - 1) kd a k = E0 kd a k := by
  rw [gvL_o h5 (by omega)]
  exact h.1 kd a k h5 h6 h7 hn
/-- a new way is laid: all that holds is kept -/
theorem iG_ld {E E0 E1 E2 : VV} {l : List (Nat → Int32)} {i c n K : Nat} {ln : Nat → Nat → Nat} (hI : iG E l) (hi : i < K) (hc : c < 2) (hK : K ≤ 8) (hKE : eK E ≤ K) (hKi : ∀ a, a < K → a < eK E ∨ a = i) (hln : ∀ a d, a < K → d < 2 → a ≠ i → ln a d = eW E a d) (h1 : ln i c ≤ 1)
    (fo : ∀ kd a k, ¬ (a = i ∧ 9 ≤ kd ∧ kd ≤ 17) → E0 kd a k = E kd a k) (hT : iT E0 K ln) (ht : tF E0 E1 i c n)
    (fp : ∀ kd a k, kd ≠ 7 → ¬ (kd = 0 ∧ k = 5) → ¬ (kd = 9 ∧ a = i) → E2 kd a k = E1 kd a k) (f7 : ∀ t, t < 120 → E 5 0 t ≠ -1 → E2 7 0 t = E1 7 0 t) (f7n : ∀ t, t < 120 → E2 5 0 t ≠ -1 → E 5 0 t = -1 → E2 7 0 t = 0 ∨ E2 7 0 t = 1)
    (eK2 : eK E2 = K) (eW2 : ∀ a d, a < K → d < 2 → eW E2 a d = lu ln i c n a d) (hw : ∀ d, d < 2 → iWy E2 i d (eW E2 i d) ∧ iHd E2 i d (eW E2 i d)) (hq : iQ E2 i 0) (hG : vG E2) (hb : ∃ b, b ≤ 20 ∧ E2 9 i 0 = nn b) : iG E2 l := by
  obtain ⟨⟨v1, v2, v3, v4, v5, v6⟩, g2, g3, g4, g5, s1, s2, s3, s4, s5⟩ := hI
  have tT := tF_iT ht hT hK hi hc h1
  -- what stayed
  have st : ∀ kd a k, kd ≠ 5 → kd ≠ 6 → kd ≠ 7 → ¬ (kd = 0 ∧ k = 5) → ¬ (a = i ∧ 9 ≤ kd ∧ kd ≤ 17) → E2 kd a k = E kd a k := fun kd a k a5 a6 a7 a8 a9 => by
    rw [fp kd a k a7 a8 (by omega), ht.1 kd a k a5 a6 a7 (by omega), fo kd a k a9]
  have st0 : ∀ kd a k, kd < 9 → E0 kd a k = E kd a k := fun kd a k h => fo kd a k (by omega)
  have nN : eN E2 = eN E := by unfold eN; rw [st 1 _ _ (by decide) (by decide) (by decide) (by omega) (by omega)]
  have nL : eL E2 = eL E := by unfold eL; rw [st 1 _ _ (by decide) (by decide) (by decide) (by omega) (by omega)]
  have nZ : ∀ f, eZ E2 f = eZ E f := fun f => by unfold eZ; rw [st 4 _ _ (by decide) (by decide) (by decide) (by omega) (by omega)]
  have nlk : ∀ x y, lkE E2 x y = lkE E x y := fun x y => by
    unfold lkE
    rw [nL]
    exact fi_c (fun j _ _ => by rw [st 3 _ _ (by decide) (by decide) (by decide) (by omega) (by omega), st 3 _ _ (by decide) (by decide) (by decide) (by omega) (by omega)])
  have nW : ∀ a d, a < K → d < 2 → a ≠ i → eW E2 a d = eW E a d := fun a d h1 h2 h3 => by
    rw [eW2 a d h1 h2, lu_o (by omega), hln a d h1 h2 h3]
  have nT : iT E2 (eK E2) (eW E2) := by
    rw [eK2]
    refine ⟨fun a d k t a1 a2 a3 a4 a5 a6 => ?_, fun t t1 t2 => ?_, fun a d k d' k' t a1 a2 a3 a4 a5 a6 a7 a8 a9 a10 => ?_⟩
    · rw [eW2 a d a1 a2] at a4
      rw [fp _ _ _ (by omega) (by omega) (by omega)] at a6
      rw [fp 5 _ _ (by omega) (by omega) (by omega), fp 6 _ _ (by omega) (by omega) (by omega), fp (11 + 4 * d) _ _ (by omega) (by omega) (by omega)]
      exact tT.1 a d k t a1 a2 a3 a4 a5 a6
    · rw [fp 5 _ _ (by omega) (by omega) (by omega)] at t2
      obtain ⟨a, d, k, b1, b2, b3, b4, b5⟩ := tT.2.1 t t1 t2
      exact ⟨a, d, k, b1, b2, b3, by rw [eW2 a d b1 b2]; exact b4, by rw [fp _ _ _ (by omega) (by omega) (by omega)]; exact b5⟩
    · rw [eW2 a d a1 a2] at a5
      rw [eW2 a d' a1 a3] at a7
      rw [fp _ _ _ (by omega) (by omega) (by omega)] at a9 a10
      exact tT.2.2 a d k d' k' t a1 a2 a3 a4 a5 a6 a7 a8 a9 a10
  refine ⟨⟨hG, ⟨nT, fun t t1 t2 => ?_, fun a ha d hd => ?_⟩, fun j hj => ?_, fun a ha => ?_, fun r hr => ?_, (st 0 0 6 (by decide) (by decide) (by decide) (by omega) (by omega)).trans v6⟩, fun x y hx hy => ?_, fun f y hf hy e => ?_, fun j hj => ?_, fun j hj => ?_, ?_, ?_, fun j hj => ?_, fun a ha => ?_, fun f f1 f2 => ?_⟩
  · by_cases e : E 5 0 t = -1
    · exact f7n t t1 t2 e
    · rw [f7 t t1 e, (ht.2.1 t t1 (by rw [st0 5 _ _ (by omega)]; exact e)).2.2, st0 7 _ _ (by omega)]
      exact v2.2.1 t t1 e
  · rw [eK2] at ha
    by_cases e : a = i
    · subst e
      exact hw d hd
    · have hE : a < eK E := by
        rcases hKi a ha with q | q
        · exact q
        · exact absurd q e
      rw [nW a d ha hd e]
      obtain ⟨w1, w2⟩ := v2.2.2 a hE d hd
      exact ⟨iWy_c (E := E) (i := a) (c := d) nN nlk (fun k => st _ _ _ (by omega) (by omega) (by omega) (by omega) (by omega)) (fun k => st _ _ _ (by omega) (by omega) (by omega) (by omega) (by omega)) w1, iHd_c (E := E) (i := a) (c := d) (fun k => st _ _ _ (by omega) (by omega) (by omega) (by omega) (by omega)) w2⟩
  · rw [nL] at hj
    rw [st 3 _ _ (by decide) (by decide) (by decide) (by omega) (by omega)]
    exact v3 j hj
  · rw [eK2] at ha
    by_cases e : a = i
    · subst e
      exact hq
    · have hE : a < eK E := by
        rcases hKi a ha with q | q
        · exact q
        · exact absurd q e
      exact iQ_o (fun k => st 9 _ _ (by decide) (by decide) (by decide) (by omega) (by omega)) (st 10 _ _ (by decide) (by decide) (by decide) (by omega) (by omega)) (st 14 _ _ (by decide) (by decide) (by decide) (by omega) (by omega)) (fun k => st 13 _ _ (by decide) (by decide) (by decide) (by omega) (by omega)) (fun k => st 17 _ _ (by decide) (by decide) (by decide) (by omega) (by omega)) (v4 a hE)
  · obtain ⟨⟨q, q1, q2⟩, h2⟩ := v5 r hr
    exact ⟨⟨q, by rw [eK2]; omega, q2⟩, h2⟩
  · rw [st 2 _ _ (by decide) (by decide) (by decide) (by omega) (by omega), nlk]
    exact g2 x y hx hy
  · rw [nZ]
    rw [fp 5 _ _ (by omega) (by omega) (by omega)] at e
    have := tF_iZ ht (fun f y hf hy e => by
      have z : eZ E0 f = eZ E f := by unfold eZ; rw [st0 4 _ _ (by omega)]
      rw [z]
      rw [st0 5 _ _ (by omega)] at e
      exact g3 f y hf hy e) f y hf hy e
    rw [tF_Z ht] at this
    have z : eZ E0 f = eZ E f := by unfold eZ; rw [st0 4 _ _ (by omega)]
    rw [z] at this
    exact this
  · rw [nL] at hj
    rw [st 3 _ _ (by decide) (by decide) (by decide) (by omega) (by omega)]
    exact g4 j hj
  · rw [nL] at hj
    rw [nN, nlk, st 3 _ _ (by decide) (by decide) (by decide) (by omega) (by omega), st 3 _ _ (by decide) (by decide) (by decide) (by omega) (by omega)]
    exact g5 j hj
  · rw [st 0 _ _ (by decide) (by decide) (by decide) (by omega) (by omega)]
    exact s1
  · rw [st 0 _ _ (by decide) (by decide) (by decide) (by omega) (by omega)]
    exact s2
  · rw [nL] at hj
    rw [st 3 _ _ (by decide) (by decide) (by decide) (by omega) (by omega)]
    exact s3 j hj
  · rw [eK2] at ha
    by_cases e : a = i
    · subst e
      exact hb
    · have hE : a < eK E := by
        rcases hKi a ha with q | q
        · exact q
        · exact absurd q e
      rw [st 9 _ _ (by decide) (by decide) (by decide) (by omega) (by omega)]
      exact s4 a hE
  · rw [nN] at f1
    rw [nZ]
    exact s5 f f1 f2
