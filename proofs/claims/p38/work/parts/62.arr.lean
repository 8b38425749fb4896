/-! the reference's packets arrive -/
theorem it_T {α : Type} {a b : α} {d : Decidable True} : @ite α True d a b = a := if_pos trivial
theorem uV_cm {V : VV} {kd i k kd' i' k' : Nat} {x y : Int32} (h : ¬ (kd = kd' ∧ i = i' ∧ k = k')) : uV (uV V kd i k x) kd' i' k' y = uV (uV V kd' i' k' y) kd i k x := by
  funext a b c
  simp only [uV_at]
  by_cases e : a = kd' ∧ b = i' ∧ c = k'
  · rw [if_pos e, if_neg (by omega), if_pos e]
  · rw [if_neg e, if_neg e]
theorem up_self {f : Nat → Int32} {k : Nat} {x : Int32} (h : f k = x) : pm_up f k x = f := by
  funext j
  rw [up_at]
  split
  · rename_i e; rw [e, h]
  · rfl
theorem mx_l {x y : Int32} (h : y ≤ x) : pm_mm true x y = x := by
  show (if x < y then y else x) = x
  rw [if_neg (Int32.not_lt.mpr h)]
theorem mx_r {x y : Int32} (h : ¬ y ≤ x) : pm_mm true x y = y := by
  show (if x < y then y else x) = y
  rw [if_pos (Int32.not_le.mp h)]
/-- the way's nodes are nodes, each link lies between its nodes, no node comes twice -/
def iWy (E : VV) (i c n : Nat) : Prop := (∀ k, k < n → ∃ x, x < eN E ∧ E (11 + 4 * c) i k = nn x) ∧
  (∀ k, 1 ≤ k → k < n → E (12 + 4 * c) i k = ii (lkE E (E (11 + 4 * c) i (k - 1)) (E (11 + 4 * c) i k)) ∧ lkE E (E (11 + 4 * c) i (k - 1)) (E (11 + 4 * c) i k) ≠ -1) ∧
  ∀ k k', k < n → k' < n → E (11 + 4 * c) i k = E (11 + 4 * c) i k' → k = k'
/-- behind a label that is had all are had -/
def iHd (E : VV) (i c n : Nat) : Prop := ∀ k k', 1 ≤ k → k < k' → k' < n → E (13 + 4 * c) i k ≠ -1 → E (13 + 4 * c) i k' ≠ -1
def iX (E : VV) : Prop := iT E (eK E) (eW E) ∧ (∀ t, t < 120 → E 5 0 t ≠ -1 → E 7 0 t = 0 ∨ E 7 0 t = 1) ∧ ∀ i, i < eK E → ∀ c, c < 2 → iWy E i c (eW E i c) ∧ iHd E i c (eW E i c)
theorem lkE_r {E : VV} {x y : Int32} (h : lkE E x y ≠ -1) : ∃ j, j < eL E ∧ lkE E x y = (j : Nat) := by
  rcases fi_r (p := fun j => decide ((E 3 j 0 = x ∧ E 3 j 1 = y) ∨ (E 3 j 0 = y ∧ E 3 j 1 = x))) (k := eL E) (j := 0) with h1 | h1
  · exact absurd h1 h
  · exact ⟨(lkE E x y).toNat, by unfold lkE at h ⊢; omega, by unfold lkE at h ⊢; omega⟩
theorem kQ_lk {E E' : VV} (h : kQ E E') (x y : Int32) : lkE E' x y = lkE E x y := by
  unfold lkE
  rw [kQ_L h]
  exact fi_c (fun j _ _ => by rw [h 3 j 0 (by omega) (by omega), h 3 j 1 (by omega) (by omega)])
theorem kQ_iX {E E' : VV} (h : kQ E E') (hX : iX E) : iX E' := by
  obtain ⟨h1, h2, h3⟩ := hX
  have e : ∀ kd i k, kd ≠ 8 → kd ≠ 9 → E' kd i k = E kd i k := fun kd i k a c => h kd i k a (by omega)
  refine ⟨by rw [kQ_K h, kQ_eW h]; exact kQ_iT h h1, fun t ht => ?_, ?_⟩
  · rw [e 5 _ _ (by omega) (by omega), e 7 _ _ (by omega) (by omega)]
    exact h2 t ht
  · rw [kQ_K h, kQ_eW h]
    intro i hi c hc
    obtain ⟨⟨w1, w2, w3⟩, w4⟩ := h3 i hi c hc
    refine ⟨⟨fun k hk => ?_, fun k k1 k2 => ?_, fun k k' k1 k2 => ?_⟩, fun k k' k1 k2 k3 => ?_⟩
    · rw [kQ_N h, e (11 + 4 * c) _ _ (by omega) (by omega)]
      exact w1 k hk
    · rw [e (11 + 4 * c) _ _ (by omega) (by omega), e (12 + 4 * c) _ _ (by omega) (by omega), e (11 + 4 * c) _ _ (by omega) (by omega), kQ_lk h]
      exact w2 k k1 k2
    · rw [e (11 + 4 * c) _ _ (by omega) (by omega), e (11 + 4 * c) _ _ (by omega) (by omega)]
      exact w3 k k' k1 k2
    · rw [e (13 + 4 * c) _ _ (by omega) (by omega), e (13 + 4 * c) _ _ (by omega) (by omega)]
      exact w4 k k' k1 k2 k3
/-- a packet is a circuit's, by some label -/
def pkO (E : VV) (r : Nat → Int32) : Prop := (∃ c, c < eK E ∧ r 0 = nn c) ∧ ∃ f l, f < 10 ∧ l < 12 ∧ r 5 = nn (f * 12 + l)
theorem slR_v {x y s : Int32} (h : slR x y s) (hs : s ≠ -1) : ∃ f l : Nat, f < 10 ∧ l < 12 ∧ s = nn (f * 12 + l) ∧ x = nn f ∧ y = nn l := by
  rcases h with ⟨h1, -, -⟩ | h1
  · exact absurd h1 hs
  · exact h1
theorem slR_n {x y : Int32} {f l : Nat} (h : slR x y (nn (f * 12 + l))) (hf : f < 10) (hl : l < 12) : x = nn f ∧ y = nn l := (slR_m h hf hl).mpr rfl
theorem rP_c2 {ρ ρ' : Nat → Int32} {dn l : List (Nat → Int32)} {r r' : Nat → Int32} (h : rP ρ (dn ++ r :: l)) (e : ∀ k, k = 6 ∨ (632 ≤ k ∧ (k < 632 + 8 * dn.length ∨ 640 + 8 * dn.length ≤ k)) → ρ' k = ρ k) (hq : rQ ρ' (632 + 8 * dn.length) r') : rP ρ' (dn ++ r' :: l) := by
  obtain ⟨h1, h2, h3⟩ := h
  have el : (dn ++ r' :: l).length = (dn ++ r :: l).length := by simp only [List.length_append, List.length_cons]
  refine ⟨by rw [el]; exact (e 6 (by omega)).trans h1, by rw [el]; exact h2, fun p r2 hr => ?_⟩
  by_cases ep : p = dn.length
  · subst ep
    rw [List.getElem?_append_right (by omega), Nat.sub_self, List.getElem?_cons_zero] at hr
    cases hr
    exact hq
  · have h9 := h3 p r2 (by
      by_cases e2 : p < dn.length
      · rw [List.getElem?_append_left e2] at hr ⊢; exact hr
      · rw [List.getElem?_append_right (by omega)] at hr ⊢
        obtain ⟨d, hd⟩ : ∃ d, p - dn.length = d + 1 := ⟨p - dn.length - 1, by omega⟩
        rw [hd, List.getElem?_cons_succ] at hr ⊢
        exact hr)
    unfold rQ at h9 ⊢
    rw [e _ (by omega), e _ (by omega), e _ (by omega), e _ (by omega), e _ (by omega), e _ (by omega), e _ (by omega), e _ (by omega)]
    exact h9
theorem dvE_nn {E : VV} {r : Nat → Int32} {c : Nat} (h : c < eK E) (h8 : c < 1000) (e : r 0 = nn c) : dvE E r = (if E 9 c 12 ≤ r 1 then uV (uV (uV (uV E 8 0 1 (E 8 0 1 + 1)) 9 c 5 (E 9 c 5 + 1)) 9 c 11 (E 9 c 11 + (E 0 0 9 + 1 - r 2))) 9 c 12 (r 1)
     else uV (uV (uV (uV (uV E 8 0 1 (E 8 0 1 + 1)) 9 c 5 (E 9 c 5 + 1)) 9 c 11 (E 9 c 11 + (E 0 0 9 + 1 - r 2))) 8 0 4 (E 8 0 4 + 1)) 9 c 7 (E 9 c 7 + 1)) := by
  unfold dvE
  rw [e, cR_nn h h8, if_pos rfl, nn_t (by omega), show ((c : Nat) : Int).toNat = c from rfl, uV_cm (kd := 9) (i := c) (k := 7) (kd' := 8) (k' := 4) (by omega)]
