/-! NOTHING IS LOST while no link fails: where packets are, which entries are made -/
/-- ticks on the links of a way -/
def lkd (E : VV) (i c k : Nat) : Nat := (dOn E (eL E) (E (12 + 4 * c) i k)).toInt.toNat
/-- .. behind place k -/
def rem (E : VV) (i c k : Nat) : Nat := sn (fun q => lkd E i c q) (k + 1) (eW E i c - (k + 1))
theorem lkd_nn {E : VV} (hX : iX E) (hL : iL E) (hL16 : eL E ≤ 16) {i c k : Nat} (hi : i < eK E) (hc : c < 2) (k1 : 1 ≤ k) (k2 : k < eW E i c) : dOn E (eL E) (E (12 + 4 * c) i k) = nn (lkd E i c k) ∧ 1 ≤ lkd E i c k ∧ lkd E i c k ≤ 9 := by
  obtain ⟨h1, h2⟩ := (hX.2.2 i hi c hc).1.2.1 k k1 k2
  obtain ⟨j, j1, j2⟩ := lkE_r h2
  obtain ⟨d, d1, d2, d3⟩ := hL j j1
  have e : dOn E (eL E) (E (12 + 4 * c) i k) = nn d := by
    rw [h1, j2]
    show dOn E (eL E) (nn j) = _
    unfold dOn
    rw [nn_t (by omega), if_pos ⟨by omega, by omega⟩, Int.toNat_natCast]
    exact d3
  unfold lkd
  rw [e, nn_t (by omega)]
  exact ⟨rfl, by omega, by omega⟩
theorem rem_s {E : VV} {i c k : Nat} (h : k + 1 < eW E i c) : rem E i c k = lkd E i c (k + 1) + rem E i c (k + 1) := by
  unfold rem
  rw [show eW E i c - (k + 1) = eW E i c - (k + 1 + 1) + 1 by omega]
  rfl
theorem dl_rem {E : VV} (hX : iX E) (hL : iL E) (hL16 : eL E ≤ 16) {i c : Nat} (hi : i < eK E) (hc : c < 2) : dlW E (eL E) (E (12 + 4 * c) i) (eW E i c) = nn (rem E i c 0) := by
  unfold dlW rem
  exact su_sn (fun k h1 h2 => (lkd_nn hX hL hL16 hi hc (by omega) (by omega)).1)
theorem rem_le {E : VV} (hX : iX E) (hL : iL E) (hL16 : eL E ≤ 16) {i c : Nat} (hi : i < eK E) (hc : c < 2) (h6 : eW E i c ≤ 6) : rem E i c 0 ≤ 45 := by
  unfold rem
  have := sn_le (f := fun q => lkd E i c q) (B := 9) (k := eW E i c - (0 + 1)) (j := 0 + 1) (fun k h1 h2 => (lkd_nn hX hL hL16 hi hc (by omega) (by omega)).2.2)
  omega
/-- way c of circuit i and its links are the same -/
def kC (E E' : VV) (i c : Nat) : Prop := eL E' = eL E ∧ (∀ j, j < eL E → E' 3 j 3 = E 3 j 3) ∧ eW E' i c = eW E i c ∧ ∀ k, k < eW E i c → E' (11 + 4 * c) i k = E (11 + 4 * c) i k ∧ E' (12 + 4 * c) i k = E (12 + 4 * c) i k
theorem lkd_k {E E' : VV} {i c k : Nat} (h : kC E E' i c) (hk : k < eW E i c) : lkd E' i c k = lkd E i c k := by
  unfold lkd dOn
  rw [h.1, (h.2.2.2 k hk).2]
  split
  · rename_i q
    rw [h.2.1 _ (by omega)]
  · rfl
theorem rem_k {E E' : VV} {i c k : Nat} (h : kC E E' i c) : rem E' i c k = rem E i c k := by
  unfold rem
  rw [h.2.2.1]
  exact sn_c (fun q _ _ => lkd_k h (by omega))
/-- where a packet is; e: what is missing to its due -/
def PKF (e : Nat → Nat) (E : VV) (r : Nat → Int32) : Prop := ∃ i c k u, i < eK E ∧ c < 2 ∧ 1 ≤ k ∧ k < eW E i c ∧ r 0 = nn i ∧ r 4 = E (11 + 4 * c) i k ∧ r 5 = E (13 + 4 * c) i k ∧ E (13 + 4 * c) i k ≠ -1 ∧ r 6 = nn u ∧ 1 ≤ u ∧ u ≤ 1000 ∧ u + rem E i c k + e i ≤ rem E i c 0 ∧
  (E 9 i 2 = 0 ∨ E 9 i 2 = 1 → c = 0) ∧ (E 9 i 2 = 3 → c = 1) ∧ (E 9 i 2 = 2 → c = 0 → ∀ d, E 9 i 9 = nn d → d ≤ 100 → u + rem E i c k + 1 + e i ≤ d)
def MD (E : VV) (i : Nat) : Prop := ((E 9 i 2 = 0 ∨ E 9 i 2 = 1 ∨ E 9 i 2 = 2) → ∀ k t, 1 ≤ k → k < eA E i → t < 120 → E 13 i k = nn t → E 7 0 t = 1) ∧
  ((E 9 i 2 = 2 ∨ E 9 i 2 = 3) → ∀ k t, 1 ≤ k → k < eB E i → t < 120 → E 17 i k = nn t → E 7 0 t = 1) ∧
  (E 9 i 2 = 1 → ∀ u k t, E 9 i 10 = nn u → u < 1000 → u < k → k < eB E i → t < 120 → E 17 i k = nn t → E 7 0 t = 1)
def iUp (E : VV) : Prop := ∀ j, j < eL E → E 3 j 4 ≠ 0
def SF (E : VV) (l : List (Nat → Int32)) : Prop := iUp E ∧ (∀ i, i < eK E → MD E i) ∧ ∀ r, r ∈ l → PKF (fun _ => 0) E r
theorem PKF_e {e e' : Nat → Nat} {E : VV} {r : Nat → Int32} (h : PKF e E r) (he : ∀ i, e' i ≤ e i) : PKF e' E r := by
  obtain ⟨i, c, k, u, h1, h2, h3, h4, h5, h6, h7, h8, h9, h10, h11, h12, h13, h14, h15⟩ := h
  have := he i
  exact ⟨i, c, k, u, h1, h2, h3, h4, h5, h6, h7, h8, h9, h10, h11, by omega, h13, h14, fun a b d x y => by have := h15 a b d x y; omega⟩
/-- numbers of packets may change, and of circuits but their moves -/
def kV (E E' : VV) : Prop := ∀ kd a k, kd ≠ 8 → ¬ (kd = 9 ∧ k ≠ 2 ∧ k ≠ 9 ∧ k ≠ 10) → ¬ (kd = 0 ∧ (k = 6 ∨ k = 9)) → E' kd a k = E kd a k
theorem kV_K {E E' : VV} (h : kV E E') : eK E' = eK E := by unfold eK; rw [h 0 0 5 (by omega) (by omega) (by omega)]
theorem kV_L {E E' : VV} (h : kV E E') : eL E' = eL E := by unfold eL; rw [h 1 0 1 (by omega) (by omega) (by omega)]
theorem kV_W {E E' : VV} (h : kV E E') {i c : Nat} : eW E' i c = eW E i c := by
  unfold eW eA eB
  rw [h 10 _ _ (by omega) (by omega) (by omega), h 14 _ _ (by omega) (by omega) (by omega)]
theorem kV_C {E E' : VV} (h : kV E E') (i c : Nat) : kC E E' i c := ⟨kV_L h, fun j _ => h 3 j 3 (by omega) (by omega) (by omega), kV_W h, fun k _ => ⟨h _ _ _ (by omega) (by omega) (by omega), h _ _ _ (by omega) (by omega) (by omega)⟩⟩
theorem PKF_V {E E' : VV} (h : kV E E') {e : Nat → Nat} {r : Nat → Int32} (hp : PKF e E r) : PKF e E' r := by
  obtain ⟨i, c, k, u, h1, h2, h3, h4, h5, h6, h7, h8, h9, h10, h11, h12, h13, h14, h15⟩ := hp
  have c11 := h (11 + 4 * c) i k (by omega) (by omega) (by omega)
  have c13 := h (13 + 4 * c) i k (by omega) (by omega) (by omega)
  have p2 := h 9 i 2 (by omega) (by omega) (by omega)
  have p9 := h 9 i 9 (by omega) (by omega) (by omega)
  refine ⟨i, c, k, u, by rw [kV_K h]; exact h1, h2, h3, by rw [kV_W h]; exact h4, h5, by rw [c11]; exact h6, by rw [c13]; exact h7, by rw [c13]; exact h8, h9, h10, h11, by rw [rem_k (kV_C h i c), rem_k (kV_C h i c)]; exact h12, by rw [p2]; exact h13, by rw [p2]; exact h14, ?_⟩
  rw [p2, p9, rem_k (kV_C h i c)]
  exact h15
theorem MD_V {E E' : VV} (h : kV E E') {i : Nat} (hm : MD E i) : MD E' i := by
  have c7 : ∀ t, E' 7 0 t = E 7 0 t := fun t => h 7 0 t (by omega) (by omega) (by omega)
  have c13 : ∀ k, E' 13 i k = E 13 i k := fun k => h 13 i k (by omega) (by omega) (by omega)
  have c17 : ∀ k, E' 17 i k = E 17 i k := fun k => h 17 i k (by omega) (by omega) (by omega)
  have wA : eA E' i = eA E i := kV_W h (c := 0)
  have wB : eB E' i = eB E i := kV_W h (c := 1)
  unfold MD
  simp only [c7, c13, c17, wA, wB, h 9 i 2 (by omega) (by omega) (by omega), h 9 i 10 (by omega) (by omega) (by omega)]
  exact hm
theorem iUp_V {E E' : VV} (h : kV E E') (hu : iUp E) : iUp E' := fun j hj => by
  rw [kV_L h] at hj
  rw [h 3 j 4 (by omega) (by omega) (by omega)]
  exact hu j hj
theorem kQ_V {E E' : VV} (h : kQ E E') : kV E E' := fun kd a k h1 h2 _ => h kd a k h1 h2
/-! packets -/
theorem up_l {E : VV} (hX : iX E) (hL16 : eL E ≤ 16) (hu : iUp E) {i c k : Nat} (hi : i < eK E) (hc : c < 2) (k1 : 1 ≤ k) (k2 : k < eW E i c) : uP E (E (12 + 4 * c) i k) = true := by
  obtain ⟨h1, h2⟩ := (hX.2.2 i hi c hc).1.2.1 k k1 k2
  obtain ⟨j, j1, j2⟩ := lkE_r h2
  rw [h1, j2]
  show uP E (nn j) = true
  unfold uP
  rw [nn_t (by omega)]
  exact decide_eq_true ⟨by omega, by omega, by rw [Int.toNat_natCast]; exact hu j j1⟩
/-- a way's labels are had where packets are -/
theorem sl_had {E : VV} {i c k dl : Nat} (hQ : iQ E i dl) (hc : c < 2) (k1 : 1 ≤ k) (k2 : k < eW E i c) (p1 : E 9 i 2 = 3 → c = 1) : E (13 + 4 * c) i k ≠ -1 := by
  obtain ⟨q1, q2, q3, q4, q5⟩ := hQ
  rcases (show c = 0 ∨ c = 1 by omega) with z | z
  · subst z
    rcases q5 with h | h | h | h
    · exact h.2.2.2.2.2 k k1 k2
    · exact h.2.2.2.2.2 k k1 k2
    · exact h.2.2.2.2 k k1 k2
    · have := p1 h.1
      omega
  · subst z
    exact q3 k k1 k2
theorem gP_s {E : VV} {r : Nat → Int32} (hX : iX E) (hL : iL E) (hK8 : eK E ≤ 8) (hL16 : eL E ≤ 16) (h6 : ∀ i c, i < eK E → c < 2 → eW E i c ≤ 6) (hS : hS0 E) (hQ : ∀ i, i < eK E → iQ E i 0) (hu : iUp E) (hm : ∀ i, i < eK E → MD E i) (hp : PKF (fun _ => 0) E r) :
    ((gP E r).1 = true ∧ (gP E r).2.2 = E ∧ PKF (fun _ => 1) E (gP E r).2.1) ∨ ((gP E r).1 = false ∧ ∃ r9, r9 0 = r 0 ∧ (gP E r).2.2 = dvE E r9) := by
  obtain ⟨i, c, k, u, a1, a2, a3, a4, a5, a6, a7, a8, a9, a10, a11, a12, a13, a14, a15⟩ := hp
  have hD := rem_le hX hL hL16 a1 a2 (h6 i c a1 a2)
  by_cases u1 : u = 1
  · have e6 : r 6 - 1 = 0 := by
      rw [a9, u1]
      decide
    have g0 : gP E r = gO E (pm_up r 6 0) := by
      unfold gP
      rw [e6, if_neg (by decide)]
    rw [g0]
    rcases hS i c k a1 a2 a3 a4 with z | ⟨f, g, f1, g1, fg⟩
    · exact absurd z a8
    obtain ⟨t, ht⟩ : ∃ t, t = f * 12 + g := ⟨_, rfl⟩
    have t120 : t < 120 := by omega
    rw [← ht] at fg
    obtain ⟨b1, b2, b3, b4⟩ := own_E hX t120 a1 a2 a3 a4 fg
    have r5 : (pm_up r 6 0) 5 = nn t := a7.trans fg
    have r4 : (pm_up r 6 0) 4 = E 5 0 t := a6.trans b3
    have mdt : E 7 0 t = 1 := by
      obtain ⟨m1, m2, m3⟩ := hm i a1
      obtain ⟨q1, q2, q3, q4, q5⟩ := hQ i a1
      rcases (show c = 0 ∨ c = 1 by omega) with z | z
      · subst z
        rcases q5 with h | h | h | h
        · exact m1 (Or.inl h.1) k t a3 a4 t120 fg
        · exact m1 (Or.inr (Or.inl h.1)) k t a3 a4 t120 fg
        · exact m1 (Or.inr (Or.inr h.1)) k t a3 a4 t120 fg
        · have := a14 h.1
          omega
      · subst z
        rcases q5 with h | h | h | h
        · have := a13 (Or.inl h.1)
          omega
        · have := a13 (Or.inr h.1)
          omega
        · exact m2 (Or.inl h.1) k t a3 a4 t120 fg
        · exact m2 (Or.inr h.1) k t a3 a4 t120 fg
    have cRi : cR E (E 6 0 t) = true := by
      rw [b2]
      unfold cR
      rw [nn_t (by omega)]
      exact decide_eq_true ⟨by omega, by omega⟩
    have t5 : (nn t).toInt.toNat = t := by rw [nn_t (by omega), Int.toNat_natCast]
    have i5 : (nn i).toInt.toNat = i := by rw [nn_t (by omega), Int.toNat_natCast]
    -- the next place
    have w : ((gW E (pm_up r 6 0) (10 + 4 * c) i (eW E i c) k).1 = true ∧ (gW E (pm_up r 6 0) (10 + 4 * c) i (eW E i c) k).2.2 = E ∧ PKF (fun _ => 1) E (gW E (pm_up r 6 0) (10 + 4 * c) i (eW E i c) k).2.1) ∨ ((gW E (pm_up r 6 0) (10 + 4 * c) i (eW E i c) k).1 = false ∧ ∃ r9, r9 0 = r 0 ∧ (gW E (pm_up r 6 0) (10 + 4 * c) i (eW E i c) k).2.2 = dvE E r9) := by
      have kk : ((k : Int) + 1).toNat = k + 1 := by omega
      unfold gW
      by_cases last : eW E i c ≤ k + 1
      · rw [if_pos (by omega)]
        exact Or.inr ⟨rfl, pm_up r 6 0, rfl, rfl⟩
      · have hup := up_l hX hL16 hu a1 a2 (show 1 ≤ k + 1 by omega) (show k + 1 < eW E i c by omega)
        rw [if_neg (by omega), kk, show 10 + 4 * c + 2 = 12 + 4 * c by omega, if_pos hup]
        refine Or.inl ⟨rfl, rfl, ?_⟩
        obtain ⟨l1, l2, l3⟩ := lkd_nn hX hL hL16 a1 a2 (show 1 ≤ k + 1 by omega) (show k + 1 < eW E i c by omega)
        have rs := rem_s (E := E) (i := i) (c := c) (k := k) (by omega)
        refine ⟨i, c, k + 1, lkd E i c (k + 1), a1, a2, by omega, by omega, a5, ?_, ?_, sl_had (hQ i a1) a2 (by omega) (by omega) a14, ?_, l2, by omega, ?_, a13, a14, ?_⟩
        · show E (10 + 4 * c + 1) i (k + 1) = _
          rw [show 10 + 4 * c + 1 = 11 + 4 * c by omega]
        · show E (10 + 4 * c + 3) i (k + 1) = _
          rw [show 10 + 4 * c + 3 = 13 + 4 * c by omega]
        · show dOn E (eL E) (E (10 + 4 * c + 2) i (k + 1)) = _
          rw [show 10 + 4 * c + 2 = 12 + 4 * c by omega]
          exact l1
        · dsimp only at a12 ⊢
          omega
        · intro z1 z2 d d1 d2
          have := a15 z1 z2 d d1 d2
          dsimp only at this ⊢
          omega
    have go : gO E (pm_up r 6 0) = gW E (pm_up r 6 0) (10 + 4 * c) i (eW E i c) k := by
      unfold gO
      rw [r5, t5, if_pos ⟨by rw [nn_t (by omega)]; omega, by rw [nn_t (by omega)]; omega, b1, cRi, r4.symm, mdt⟩, b2, i5]
      rcases (show c = 0 ∨ c = 1 by omega) with z | z
      · subst z
        rw [if_pos (Decidable.not_not.mp (fun q => by have := b4.mp q; omega))]
        have : fi (fun k => decide (E 13 i k = nn t)) 1 (eA E i - 1) = k := fi_eq a3 (by have : k < eA E i := a4; omega) (decide_eq_true fg) (fun q q1 q2 => decide_eq_false (fun z => by
          have := (hX.1.2.2 i 0 q 0 k t a1 (by omega) (by omega) q1 (by omega) a3 a4 t120 z fg).2
          omega))
        rw [this]
        rfl
      · subst z
        rw [if_neg (fun q => (b4.mpr rfl) q)]
        have : fi (fun k => decide (E 17 i k = nn t)) 1 (eB E i - 1) = k := fi_eq a3 (by have : k < eB E i := a4; omega) (decide_eq_true fg) (fun q q1 q2 => decide_eq_false (fun z => by
          have := (hX.1.2.2 i 1 q 1 k t a1 (by omega) (by omega) q1 (by omega) a3 a4 t120 z fg).2
          omega))
        rw [this]
        rfl
    rw [go]
    exact w
  · have e6 : r 6 - 1 = nn (u - 1) := by rw [a9, nl_1, nn_sub (by omega)]
    have g0 : gP E r = (true, pm_up r 6 (r 6 - 1), E) := by
      unfold gP
      rw [if_pos (by rw [e6, nl_0, nn_lt (by omega) (by omega)]; omega)]
    rw [g0]
    refine Or.inl ⟨rfl, rfl, i, c, k, u - 1, a1, a2, a3, a4, a5, a6, a7, a8, e6, by omega, by omega, by dsimp only at a12 ⊢; omega, a13, a14, ?_⟩
    intro z1 z2 d d1 d2
    have := a15 z1 z2 d d1 d2
    dsimp only at this ⊢
    omega
theorem dv_kQ {E : VV} {r : Nat → Int32} : kQ E (dvE E r) ∧ dvE E r 8 0 2 = E 8 0 2 := by
  refine ⟨fun kd a k h8 h9 => ?_, ?_⟩
  · unfold dvE
    split
    · split
      · rw [uV_at, if_neg (by omega), uV_at, if_neg (by omega), uV_at, if_neg (by omega), uV_k h8]
      · rw [uV_k h8, uV_at, if_neg (by omega), uV_at, if_neg (by omega), uV_at, if_neg (by omega), uV_k h8]
    · rw [uV_k h8]
  · unfold dvE
    split
    · split
      · rw [uV_k (by omega), uV_k (by omega), uV_k (by omega), uV_p (by omega)]
      · rw [uV_p (by omega), uV_k (by omega), uV_k (by omega), uV_k (by omega), uV_p (by omega)]
    · rw [uV_p (by omega)]
theorem mvP_s : ∀ (l : List (Nat → Int32)) (E : VV), iX E → iL E → eK E ≤ 8 → eL E ≤ 16 → (∀ i c, i < eK E → c < 2 → eW E i c ≤ 6) → hS0 E → (∀ i, i < eK E → iQ E i 0) → iUp E → (∀ i, i < eK E → MD E i) → (∀ r, r ∈ l → PKF (fun _ => 0) E r) →
    (∀ r, r ∈ (mvP E l).1 → PKF (fun _ => 1) E r) ∧ (mvP E l).2 8 0 2 = E 8 0 2 := by
  intro l
  induction l with
  | nil => exact fun E _ _ _ _ _ _ _ _ _ _ => ⟨(fun r hr => by cases hr), rfl⟩
  | cons r l ih =>
    intro E hX hL hK8 hL16 h6 hS hQ hu hm hp
    show (∀ r', r' ∈ (if (gP E r).1 = true then (gP E r).2.1 :: (mvP (gP E r).2.2 l).1 else (mvP (gP E r).2.2 l).1) → PKF (fun _ => 1) E r') ∧ (mvP (gP E r).2.2 l).2 8 0 2 = E 8 0 2
    have hl : ∀ r, r ∈ l → PKF (fun _ => 0) E r := fun r hr => hp r (List.mem_cons_of_mem _ hr)
    rcases gP_s hX hL hK8 hL16 h6 hS hQ hu hm (hp r List.mem_cons_self) with ⟨a1, a2, a3⟩ | ⟨a1, r9, a2, a3⟩
    · rw [a1, if_pos rfl, a2]
      obtain ⟨g1, g2⟩ := ih E hX hL hK8 hL16 h6 hS hQ hu hm hl
      refine ⟨fun r' hr' => ?_, g2⟩
      rcases List.mem_cons.mp hr' with z | z
      · rw [z]
        exact a3
      · exact g1 r' z
    · rw [a1, if_neg (by decide), a3]
      obtain ⟨kq, k8⟩ := dv_kQ (E := E) (r := r9)
      have k38 := k38_dv (E := E) (r := r9)
      have kv := kQ_V kq
      have nL : eL (dvE E r9) = eL E := kQ_L kq
      obtain ⟨g1, g2⟩ := ih (dvE E r9) (kQ_iX kq hX) (fun x hx => by
        rw [nL] at hx
        rw [kq 3 x 3 (by omega) (by omega)]
        exact hL x hx) (by rw [kQ_K kq]; exact hK8) (by rw [nL]; exact hL16) (fun i c hi hc => by
        rw [kV_K kv] at hi
        rw [kV_W kv]
        exact h6 i c hi hc) (kQ_hS kq hS) (fun i hi => iQ_kQ kq (k38 i).1 (k38 i).2 (hQ i (by rw [kV_K kv] at hi; exact hi))) (iUp_V kv hu) (fun i hi => MD_V kv (hm i (by rw [kV_K kv] at hi; exact hi))) (fun r hr => PKF_V kv (hl r hr))
      refine ⟨fun r' hr' => ?_, g2.trans k8⟩
      refine PKF_V (E := dvE E r9) (fun kd a k h1 h2 h3 => (kv kd a k h1 h2 h3).symm) (g1 r' hr')
