/-! setup texts: what holds of what is read -/
def gL (V : VV) : Prop := iG V [] ∧ iNM 0 V
def okR (n p : Nat) (res : PRs) : Prop := ∀ V' p', res = .inr (V', p') → gL V' ∧ p ≤ p' ∧ p' ≤ n
theorem okR_l {n p : Nat} {e : Nat × Nat} : okR n p (.inl e) := fun V' p' h => by cases h
theorem okR_r {n p q : Nat} {V : VV} (h : gL V) (h1 : p ≤ q) (h2 : q ≤ n) : okR n p (.inr (V, q)) := fun V' p' h' => by
  cases h'
  exact ⟨h, h1, h2⟩
theorem okR_m {n p q : Nat} {res : PRs} (h : okR n q res) (h1 : p ≤ q) : okR n p res := fun V' p' e => ⟨(h V' p' e).1, Nat.le_trans h1 (h V' p' e).2.1, (h V' p' e).2.2⟩
section
variable {f : Nat → Nat} {n p : Nat} {V : VV}
theorem node_ok (hp : p ≤ n) (h : gL V) : okR n p (nodeP f n V p) := by
  have q2 := tN_r (f := f) hp (i := 2)
  unfold nodeP
  by_cases a1 : 10 ≤ eN V
  · rw [if_pos a1]
    exact okR_l
  · rw [if_neg a1]
    by_cases a2 : ckN f n (tN f n p 1) 1 12 ≠ 0
    · rw [if_pos a2]
      exact okR_l
    · rw [if_neg a2]
      obtain ⟨b1, b2, b3⟩ := ckN_0 (Decidable.not_not.mp a2)
      exact okR_r ⟨an_iG h.1 (by omega) (by omega), an_NM h.2⟩ q2.1 q2.2
theorem link_ok (hp : p ≤ n) (h : gL V) : okR n p (linkP f n V p) := by
  have q := tN_r (f := f) hp (i := 5)
  unfold linkP
  by_cases a1 : 16 ≤ eL V
  · rw [if_pos a1]
    exact okR_l
  · rw [if_neg a1]
    by_cases a2 : ckN f n (tN f n p 1) 0 ((eN V : Int) - 1) ≠ 0
    · rw [if_pos a2]
      exact okR_l
    · rw [if_neg a2]
      by_cases a3 : ckN f n (tN f n p 2) 0 ((eN V : Int) - 1) ≠ 0
      · rw [if_pos a3]
        exact okR_l
      · rw [if_neg a3]
        by_cases a4 : tV f n (tN f n p 1) = tV f n (tN f n p 2) ∨ lkE V (nn (tV f n (tN f n p 1))) (nn (tV f n (tN f n p 2))) ≠ -1
        · rw [if_pos a4]
          exact okR_l
        · rw [if_neg a4]
          by_cases a5 : ckN f n (tN f n p 3) 1 99 ≠ 0
          · rw [if_pos a5]
            exact okR_l
          · rw [if_neg a5]
            by_cases a6 : ckN f n (tN f n p 4) 1 9 ≠ 0
            · rw [if_pos a6]
              exact okR_l
            · rw [if_neg a6]
              obtain ⟨b1, b2, b3⟩ := ckN_0 (Decidable.not_not.mp a2)
              obtain ⟨c1, c2, c3⟩ := ckN_0 (Decidable.not_not.mp a3)
              obtain ⟨d1, d2, d3⟩ := ckN_0 (Decidable.not_not.mp a5)
              obtain ⟨e1, e2, e3⟩ := ckN_0 (Decidable.not_not.mp a6)
              refine okR_r ⟨al_iG h.1 (by omega) (by omega) (by omega) (fun z => a4 (Or.inl z)) ?_ ⟨d2, by omega⟩ ⟨e2, by omega⟩, al_NM h.2⟩ q.1 q.2
              by_cases z : lkE V (nn (tV f n (tN f n p 1))) (nn (tV f n (tN f n p 2))) = -1
              · exact z
              · exact absurd (Or.inr z) a4
theorem set_ok (hp : p ≤ n) (h : gL V) : okR n p (setP f n V p) := by
  have q := tN_r (f := f) hp (i := 3)
  unfold setP
  by_cases a1 : ckN f n (tN f n p 1) 0 1 ≠ 0
  · rw [if_pos a1]
    exact okR_l
  · rw [if_neg a1]
    by_cases a2 : ckN f n (tN f n p 2) 0 (if tV f n (tN f n p 1) = 0 then 4 else 1) ≠ 0
    · rw [if_pos a2]
      exact okR_l
    · rw [if_neg a2]
      obtain ⟨b1, b2, b3⟩ := ckN_0 (Decidable.not_not.mp a1)
      obtain ⟨c1, c2, c3⟩ := ckN_0 (Decidable.not_not.mp a2)
      refine okR_r ⟨st_iG h.1 (by omega) (fun z => ?_) (fun z => ?_), st_NM (by omega) h.2⟩ q.1 q.2
      · rw [if_pos z] at c3
        omega
      · rw [if_neg (by omega)] at c3
        omega
theorem opE2_o {W : VV} {K j kd a k : Nat} (h7 : kd ≠ 7) (h0 : ¬ (kd = 0 ∧ k = 5)) : opE2 W K j kd a k = W kd a k := by
  unfold opE2
  rw [uV_at, if_neg (by omega), mkL_o h7]
theorem opn_NM {T : Nat} {E0 W : VV} {j : Nat} {d : Nat → Nat} {x y : Int32} (hK : eK V < 8) (hN : iNM T V) (h0 : opE0 V E0 j d x y) (ht : tF E0 W (eK V) 0 j) : iNM T (opE2 W (eK V) j) := by
  have o : ∀ kd a k, kd ≠ 5 → kd ≠ 6 → kd ≠ 7 → ¬ (kd = 0 ∧ k = 5) → ¬ (a = eK V ∧ 9 ≤ kd ∧ kd ≤ 17) → opE2 W (eK V) j kd a k = V kd a k := fun kd a k a5 a6 a7 a0 a9 => by
    rw [opE2_o a7 a0, ht.1 _ _ _ a5 a6 a7 (by omega), h0.1 _ _ _ a9]
  have nK : eK (opE2 W (eK V) j) = eK V + 1 := eK_nn (E := opE2 W (eK V) j) (by unfold opE2; exact uV_s) (by omega)
  refine iNM_s ⟨o _ _ _ (by omega) (by omega) (by omega) (by omega) (by omega), fun i hi => ?_⟩ hN
  rw [nK] at hi
  by_cases e : i < eK V
  · have eA' : eA (opE2 W (eK V) j) i = eA V i := by unfold eA; rw [o _ _ _ (by omega) (by omega) (by omega) (by omega) (by omega)]
    have eB' : eB (opE2 W (eK V) j) i = eB V i := by unfold eB; rw [o _ _ _ (by omega) (by omega) (by omega) (by omega) (by omega)]
    refine ⟨Or.inr ⟨i, e, eB', ?_, ?_, ?_, ?_⟩, Or.inr ⟨i, e, ?_⟩⟩
    · exact o _ _ _ (by omega) (by omega) (by omega) (by omega) (by omega)
    · exact o _ _ _ (by omega) (by omega) (by omega) (by omega) (by omega)
    · exact o _ _ _ (by omega) (by omega) (by omega) (by omega) (by omega)
    · rw [eA']; exact o _ _ _ (by omega) (by omega) (by omega) (by omega) (by omega)
    · exact o _ _ _ (by omega) (by omega) (by omega) (by omega) (by omega)
  · have ei : i = eK V := by omega
    subst ei
    refine ⟨Or.inl ?_, Or.inl ?_⟩
    · unfold eB
      rw [opE2_o (by omega) (by omega), ht.1 _ _ _ (by omega) (by omega) (by omega) (by omega), h0.2.2.1]
      rfl
    · rw [opE2_o (by omega) (by omega), ht.1 _ _ _ (by omega) (by omega) (by omega) (by omega), h0.2.2.2.1 5 (by omega)]
      rfl
theorem wl_ok {X y : Int32} (hI : gL V) (hK : eK V < 8) (hx : ∃ b, b ≤ 20 ∧ X = nn b) : ∀ (r j p : Nat) (W : VV) (d : Nat → Nat), wI V X y W j d → p ≤ n → okR n p (wlP f n (eK V) X r W j p) := by
  intro r
  induction r with
  | zero => exact fun j p W d hW hp => okR_l
  | succ r ih =>
    intro j p W d hW hp
    rw [wlP_s]
    by_cases a : 2 ≤ j ∧ tK f n p = 3
    · rw [if_pos a]
      obtain ⟨E0, h0, hd, hG, h1, ht⟩ := hW
      exact okR_r ⟨(opn_ok hI.1 hK h0 hd a.1 ht hx).1, opn_NM hK hI.2 h0 ht⟩ (Nat.le_refl _) hp
    · rw [if_neg a]
      cases e : wnP f n (eK V) X W j p with
      | inl z => exact okR_l
      | inr z =>
        obtain ⟨W', p'⟩ := z
        obtain ⟨i1, i2, i3⟩ := wnP_i hI.1 hW hp e
        have t1 := tE_r (f := f) hp
        have t2 := tS_r (f := f) hp
        exact okR_m (ih (j + 1) p' W' _ i3 (by omega)) (by omega)
theorem circ_ok (hp : p ≤ n) (h : gL V) : okR n p (circP f n V p) := by
  have q := tN_r (f := f) hp (i := 4)
  unfold circP
  by_cases a1 : 8 ≤ eK V
  · rw [if_pos a1]
    exact okR_l
  · rw [if_neg a1]
    by_cases a2 : ckN f n (tN f n p 1) 1 20 ≠ 0
    · rw [if_pos a2]
      exact okR_l
    · rw [if_neg a2]
      by_cases a3 : ckN f n (tN f n p 2) 0 9 ≠ 0
      · rw [if_pos a3]
        exact okR_l
      · rw [if_neg a3]
        by_cases a4 : ckN f n (tN f n p 3) 0 ((eN V : Int) - 1) ≠ 0
        · rw [if_pos a4]
          exact okR_l
        · rw [if_neg a4]
          obtain ⟨b1, b2, b3⟩ := ckN_0 (Decidable.not_not.mp a2)
          obtain ⟨c1, c2, c3⟩ := ckN_0 (Decidable.not_not.mp a4)
          exact okR_m (wl_ok h (by omega) ⟨_, by omega, rfl⟩ 6 1 (tN f n p 4) _ _ (wI_1 h.1.1.1 (by omega)) q.2) q.1
theorem stmtB_ok (hp : p ≤ n) (h : gL V) : okR n p (stmtB f n V p) := by
  unfold stmtB
  split
  · exact node_ok hp h
  · split
    · exact link_ok hp h
    · split
      · exact circ_ok hp h
      · split
        · exact set_ok hp h
        · exact okR_l
/-- a statement goes on -/
theorem stmt_ok {V' : VV} {p' : Nat} (hp : p ≤ n) (h : gL V) (e : stmtP f n V p = .inr (V', p')) : gL V' ∧ p < p' ∧ p' ≤ n := by
  unfold stmtP at e
  cases eb : stmtB f n V p with
  | inl z =>
    rw [eb] at e
    cases e
  | inr z =>
    obtain ⟨V1, q⟩ := z
    obtain ⟨b1, b2, b3⟩ := stmtB_ok hp h V1 q eb
    rw [eb] at e
    change (if tK f n q = 3 then Sum.inr (V1, tE f n q) else Sum.inl (1, q)) = Sum.inr (V', p') at e
    by_cases k : tK f n q = 3
    · rw [if_pos k] at e
      cases e
      have t1 := tE_r (f := f) b3
      have t2 := tS_r (f := f) b3
      have t3 := t1.2.2 (by rw [k]; decide)
      exact ⟨b1, by omega, t1.2.1⟩
    · rw [if_neg k] at e
      cases e
theorem loadP_s {r : Nat} : loadP f n (r + 1) V p = if tK f n p = 0 then .inr (V, p) else match stmtP f n V p with
    | .inl e => .inl e
    | .inr (V', p') => loadP f n r V' p' := rfl
theorem load_ok : ∀ {r p : Nat} {V V' : VV} {p' : Nat}, p ≤ n → gL V → loadP f n r V p = .inr (V', p') → gL V' := by
  intro r
  induction r with
  | zero =>
    intro p V V' p' hp h e
    cases e
    exact h
  | succ r ih =>
    intro p V V' p' hp h e
    rw [loadP_s] at e
    by_cases k : tK f n p = 0
    · rw [if_pos k] at e
      cases e
      exact h
    · rw [if_neg k] at e
      cases es : stmtP f n V p with
      | inl z =>
        rw [es] at e
        cases e
      | inr z =>
        obtain ⟨V1, q⟩ := z
        rw [es] at e
        obtain ⟨b1, b2, b3⟩ := stmt_ok hp h es
        exact ih b3 b1 e
end
/-- a row is filled -/
def flV (V : VV) (kd : Nat) (x : Int32) (j : Nat) : VV := fun kd' a' k' => if kd' = kd ∧ a' = 0 ∧ k' < j then x else V kd' a' k'
theorem flV_at (V : VV) (kd : Nat) (x : Int32) (j kd' a' k' : Nat) : flV V kd x j kd' a' k' = if kd' = kd ∧ a' = 0 ∧ k' < j then x else V kd' a' k' := rfl
theorem flV_o {V : VV} {kd : Nat} {x : Int32} {j kd' a' k' : Nat} (h : kd' ≠ kd) : flV V kd x j kd' a' k' = V kd' a' k' := if_neg (fun z => h z.1)
theorem flV_p {V : VV} {kd : Nat} {x : Int32} {j k' : Nat} (h : k' < j) : flV V kd x j kd 0 k' = x := if_pos ⟨rfl, rfl, h⟩
/-- a state without anything -/
def zeA (V : VV) : VV := flV (flV (flV (uV (uV V 1 0 0 0) 1 0 1 0) 2 (-1) 100) 4 0 10) 5 (-1) 120
def zeB (V : VV) : VV := uV (uV (uV (uV (uV (uV (uV V 8 0 0 0) 8 0 1 0) 8 0 2 0) 8 0 3 0) 8 0 4 0) 8 0 5 0) 8 0 6 0
def zeC (V : VV) : VV := uV (uV (uV (uV (uV V 0 0 5 0) 0 0 6 0) 0 0 7 1) 0 0 8 0) 0 0 9 0
def zeV (V : VV) : VV := zeC (zeB (zeA V))
theorem zeV_w {V : VV} {kd a k : Nat} (h0 : kd ≠ 0) (h8 : kd ≠ 8) : zeV V kd a k = zeA V kd a k := by
  unfold zeV zeC zeB
  rw [uV_k h0, uV_k h0, uV_k h0, uV_k h0, uV_k h0, uV_k h8, uV_k h8, uV_k h8, uV_k h8, uV_k h8, uV_k h8, uV_k h8]
theorem zeV_o {V : VV} {kd a k : Nat} (h : 9 ≤ kd) : zeV V kd a k = V kd a k := by
  rw [zeV_w (by omega) (by omega)]
  unfold zeA
  rw [flV_o (by omega), flV_o (by omega), flV_o (by omega), uV_k (by omega), uV_k (by omega)]
theorem zeV_0 {V : VV} {k : Nat} (h : 5 ≤ k ∧ k ≤ 9) (h7 : k ≠ 7) : zeV V 0 0 k = nn 0 := by
  rcases (show k = 5 ∨ k = 6 ∨ k = 8 ∨ k = 9 by omega) with e | e | e | e <;> subst e <;> rfl
theorem zeV_7 {V : VV} : zeV V 0 0 7 = nn 1 := rfl
theorem zeV_1 {V : VV} {k : Nat} (h : k < 2) : zeV V 1 0 k = nn 0 := by
  rcases (show k = 0 ∨ k = 1 by omega) with e | e <;> subst e <;> rfl
theorem zeV_2 {V : VV} {k : Nat} (h : k < 100) : zeV V 2 0 k = -1 := by
  rw [zeV_w (by omega) (by omega)]
  unfold zeA
  rw [flV_o (by omega), flV_o (by omega), flV_p h]
theorem zeV_4 {V : VV} {k : Nat} (h : k < 10) : zeV V 4 0 k = nn 0 := by
  rw [zeV_w (by omega) (by omega)]
  unfold zeA
  rw [flV_o (by omega), flV_p h]
  rfl
theorem zeV_5 {V : VV} {k : Nat} (h : k < 120) : zeV V 5 0 k = -1 := by
  rw [zeV_w (by omega) (by omega)]
  unfold zeA
  rw [flV_p h]
theorem zeV_8 {V : VV} {k : Nat} (h : k < 7) : zeV V 8 0 k = nn 0 := by
  rcases (show k = 0 ∨ k = 1 ∨ k = 2 ∨ k = 3 ∨ k = 4 ∨ k = 5 ∨ k = 6 by omega) with e | e | e | e | e | e | e <;> subst e <;> rfl
section
variable {V : VV}
theorem ze_N : eN (zeV V) = 0 := by
  unfold eN
  rw [zeV_1 (by omega)]
  rfl
theorem ze_L : eL (zeV V) = 0 := by
  unfold eL
  rw [zeV_1 (by omega)]
  rfl
theorem ze_K : eK (zeV V) = 0 := by
  unfold eK
  rw [zeV_0 (by omega) (by omega)]
  rfl
theorem ze_G (h : vG V) : vG (zeV V) := vG_of (N := 0) (L := 0) (K := 0) (P := 0) (zeV_1 (by omega)) (zeV_1 (by omega)) (zeV_0 (by omega) (by omega)) (zeV_0 (by omega) (by omega)) (by omega) (by omega) (by omega) (by omega) (fun i hi => ⟨0, by omega, zeV_4 hi⟩) (fun i hi => by
  rw [zeV_o (by omega)]
  exact vG_A h i hi) (fun i hi => by
  rw [zeV_o (by omega)]
  exact vG_B h i hi)
theorem ze_ok (h : vG V) : gL (zeV V) := by
  have nL := ze_L (V := V)
  have nK := ze_K (V := V)
  have nN := ze_N (V := V)
  refine ⟨⟨⟨ze_G h, ⟨⟨fun i c k t a1 => by omega, fun t t1 t2 => absurd (zeV_5 t1) t2, fun i c k c' k' t a1 => by omega⟩, fun t t1 t2 => absurd (zeV_5 t1) t2, fun i hi => by omega⟩, fun j hj => by omega, fun i hi => by omega, fun r hr => absurd hr List.not_mem_nil, zeV_0 (by omega) (by omega)⟩, fun x y hx hy => ?_, fun f l hf hl e => absurd (zeV_5 (by omega)) e, fun j hj => by omega, fun j hj => by omega, ⟨1, by omega, zeV_7⟩, ⟨0, by omega, zeV_0 (by omega) (by omega)⟩, fun j hj => by omega, fun i hi => by omega, fun f f1 f2 => ?_⟩, fun i hi => by omega, 0, Nat.le_refl _, zeV_0 (by omega) (by omega), fun i hi => by omega⟩
  · rw [zeV_2 (by omega)]
    unfold lkE
    rw [nL]
    rfl
  · unfold eZ
    rw [zeV_4 f2]
    rfl
end
