/-! after how many ticks a circuit is moved -/
def mu (E : VV) (i : Nat) : Int32 := if E 9 i 2 = 1 then E 9 i 10 + 1 + dlO E i + ii (hlO E (eA E) i) else if E 9 i 2 = 2 then E 9 i 9 + ii (hlO E (eA E) i) else if E 9 i 2 = 3 then ii (hlO E (eA E) i) else 0
theorem dlO_c {E E' : VV} {i : Nat} (h10 : E' 10 i 0 = E 10 i 0) (h12 : ∀ k, E' 12 i k = E 12 i k) (h3 : ∀ j k, E' 3 j k = E 3 j k) (h1 : E' 1 0 1 = E 1 0 1) : dlO E' i = dlO E i := by
  have eA' : eA E' i = eA E i := by unfold eA; rw [h10]
  have eL' : eL E' = eL E := by unfold eL; rw [h1]
  unfold dlO dlW
  rw [eA', eL']
  exact su_c (fun k _ _ => by unfold dOn; rw [h12, h3])
theorem hlO_c {E E' : VV} {i : Nat} (h10 : E' 10 i 0 = E 10 i 0) (h13 : ∀ k, E' 13 i k = E 13 i k) : hlO E' (eA E') i = hlO E (eA E) i := by
  have eA' : eA E' i = eA E i := by unfold eA; rw [h10]
  unfold hlO
  rw [eA']
  exact nc_c (fun k _ _ => by rw [h13])
theorem mu_c {E E' : VV} {i : Nat} (h9 : ∀ k, k = 2 ∨ k = 9 ∨ k = 10 → E' 9 i k = E 9 i k) (h10 : E' 10 i 0 = E 10 i 0) (h12 : ∀ k, E' 12 i k = E 12 i k) (h13 : ∀ k, E' 13 i k = E 13 i k) (h3 : ∀ j k, E' 3 j k = E 3 j k) (h1 : E' 1 0 1 = E 1 0 1) : mu E' i = mu E i := by
  unfold mu
  rw [h9 2 (by omega), h9 9 (by omega), h9 10 (by omega), dlO_c h10 h12 h3 h1, hlO_c h10 h13]
theorem hl_x {E : VV} {i x : Nat} (h2 : 2 ≤ eA E i) (x1 : 1 ≤ x) (x2 : x ≤ eA E i) (x3 : ∀ k, 1 ≤ k → k < x → E 13 i k = -1) (x4 : ∀ k, x ≤ k → k < eA E i → E 13 i k ≠ -1) : hlO E (eA E) i = eA E i - x := by
  unfold hlO
  have := nc_pre (p := fun k => decide (E 13 i k ≠ -1)) (k := eA E i - 1) x1 (by omega) (fun k k1 k2 => decide_eq_false (fun z => z (x3 k k1 k2))) (fun k k1 k2 => decide_eq_true (x4 k k1 (by omega)))
  rw [this]
  omega
/-- one less behind a move's tick -/
theorem mC_mu {E : VV} {i : Nat} (hG : vG E) (hX : iX E) (hL : iL E) (hi : i < eK E) (hQ : iQ E i 0) (hs : ∀ c k, c < 2 → 1 ≤ k → k < eW E i c → E (13 + 4 * c) i k = -1 ∨ ∃ t, t < 120 ∧ E (13 + 4 * c) i k = nn t) (hp : E 9 i 2 ≠ 0) : ∃ n, n + 1 ≤ 300 ∧ mu E i = nn (n + 1) ∧ mu (mC E i) i = nn n := by
  have hK8 := hG.2.2.2.2.1.2.2.1
  have hA6 := (hG.2.2.2.2.2.2.1 i (by omega)).2
  have hB6 := (hG.2.2.2.2.2.2.2 i (by omega)).2
  obtain ⟨q1, q2, q3, q4, q5⟩ := hQ
  have hW0 : eW E i 0 = eA E i := rfl
  have hW1 : eW E i 1 = eB E i := rfl
  obtain ⟨D, D1, D2, D3⟩ := dlW_nn hX hL hG hi (c := 0) (by omega) (by rw [hW0]; exact hA6)
  have hD : dlO E i = nn D := D3
  have two : (2 : Int32) ≠ 1 := by decide
  have three1 : (3 : Int32) ≠ 1 := by decide
  have three2 : (3 : Int32) ≠ 2 := by decide
  rcases q5 with h | ⟨p1, b2, ⟨u, u1, u2⟩, d0, e0, ho⟩ | ⟨p2, b2, u0, ⟨d, h, d1, d2, d3, d4, d5⟩, ho⟩ | ⟨p3, b2, u0, d0, -⟩
  · exact absurd h.1 hp
  · -- building
    have hh : hlO E (eA E) i = eA E i - 1 := hl_x q1 (Nat.le_refl _) (by omega) (fun k k1 k2 => by omega) (fun k k1 k2 => ho k k1 k2)
    have m0 : mu E i = nn (u + 1 + D + (eA E i - 1)) := by
      unfold mu
      rw [if_pos p1, hD, hh, u2, nn_inc, nn_add, ← nn_ii, nn_add]
    by_cases hu : 1 ≤ u
    · rcases hs 1 u (by omega) hu u1 with z | ⟨t, t1, t2⟩
      · exact absurd z (q3 u hu u1)
      · have e := mC_A p1 u2 hu u1 hB6 t1 t2
        refine ⟨u + D + (eA E i - 1), by omega, by rw [m0]; exact congrArg nn (by omega), ?_⟩
        have p1' : mC E i 9 i 2 = 1 := by rw [e, uV_p (by omega), uV_k (by omega)]; exact p1
        have c10 : mC E i 9 i 10 = nn (u - 1) := by rw [e]; exact uV_s
        have eD : dlO (mC E i) i = dlO E i := dlO_c (by rw [e, uV_k (by omega), uV_k (by omega)]) (fun k => by rw [e, uV_k (by omega), uV_k (by omega)]) (fun j k => mC_o (by omega)) (mC_o (by omega))
        have eh : hlO (mC E i) (eA (mC E i)) i = hlO E (eA E) i := hlO_c (by rw [e, uV_k (by omega), uV_k (by omega)]) (fun k => by rw [e, uV_k (by omega), uV_k (by omega)])
        unfold mu
        rw [if_pos p1', c10, eD, eh, hD, hh, nn_inc, nn_add, ← nn_ii, nn_add]
        exact congrArg nn (by omega)
    · have hu0 : u = 0 := by omega
      subst hu0
      have e := mC_B p1 u2 e0
      refine ⟨D + (eA E i - 1), by omega, by rw [m0]; exact congrArg nn (by omega), ?_⟩
      have p2' : mC E i 9 i 2 = 2 := by rw [e, uV_p (by omega), uV_p (by omega)]; exact uV_s
      have c9 : mC E i 9 i 9 = nn D := by rw [e, uV_p (by omega), uV_s]; exact hD
      have eh : hlO (mC E i) (eA (mC E i)) i = hlO E (eA E) i := hlO_c (by rw [e, uV_k (by omega), uV_k (by omega), uV_k (by omega)]) (fun k => by rw [e, uV_k (by omega), uV_k (by omega), uV_k (by omega)])
      unfold mu
      rw [p2', if_neg two, if_pos rfl, c9, eh, hh, ← nn_ii, nn_add]
  · -- draining
    have hh : hlO E (eA E) i = eA E i - 1 := hl_x q1 (Nat.le_refl _) (by omega) (fun k k1 k2 => by omega) (fun k k1 k2 => ho k k1 k2)
    have m0 : mu E i = nn (d + (eA E i - 1)) := by
      unfold mu
      rw [p2, if_neg two, if_pos rfl, d4, hh, ← nn_ii, nn_add]
    by_cases hd2 : 2 ≤ d
    · have e := mC_C p2 d4 hd2 d2
      refine ⟨d - 1 + (eA E i - 1), by omega, by rw [m0]; exact congrArg nn (by omega), ?_⟩
      have p2' : mC E i 9 i 2 = 2 := by rw [e, uV_p (by omega)]; exact p2
      have c9 : mC E i 9 i 9 = nn (d - 1) := by rw [e]; exact uV_s
      have eh : hlO (mC E i) (eA (mC E i)) i = hlO E (eA E) i := hlO_c (by rw [e, uV_k (by omega)]) (fun k => by rw [e, uV_k (by omega)])
      unfold mu
      rw [p2', if_neg two, if_pos rfl, c9, eh, hh, ← nn_ii, nn_add]
    · have hd1 : d = 1 := by omega
      subst hd1
      have e := mC_D p2 d4
      refine ⟨eA E i - 1, by omega, by rw [m0]; exact congrArg nn (by omega), ?_⟩
      have p3' : mC E i 9 i 2 = 3 := by rw [e]; exact uV_s
      have eh : hlO (mC E i) (eA (mC E i)) i = hlO E (eA E) i := hlO_c (by rw [e, uV_k (by omega), uV_k (by omega)]) (fun k => by rw [e, uV_k (by omega), uV_k (by omega)])
      unfold mu
      rw [p3', if_neg three1, if_neg three2, if_pos rfl, eh, hh]
      rfl
  · -- clearing
    obtain ⟨x, x1, x2, x3, x4, x5⟩ := fx_ex (hX.2.2 i hi 0 (by omega)).2 q1
    have hh : hlO E (eA E) i = eA E i - x := hl_x q1 x1 x2 x4 x5
    have hxA : x < eA E i := by
      by_cases z : x = eA E i
      · exact absurd (x4 (eA E i - 1) (by omega) (by omega)) q4
      · omega
    have m0 : mu E i = nn (eA E i - x) := by
      unfold mu
      rw [p3, if_neg three1, if_neg three2, if_pos rfl, hh]
      rfl
    rcases hs 0 x (by omega) x1 (by rw [hW0]; exact hxA) with z | ⟨t, t1, t2⟩
    · exact absurd z (x5 x (Nat.le_refl _) hxA)
    · by_cases hlast : x + 1 = eA E i
      · have e := mC_G p3 x3 hlast t1 t2
        refine ⟨0, by omega, by rw [m0]; exact congrArg nn (by omega), ?_⟩
        have p0' : mC E i 9 i 2 = 0 := by
          rw [e, uV_k (by omega)]
          unfold tkN
          exact uV_s
        unfold mu
        rw [p0']
        rfl
      · have e := mC_F p3 x3 (by omega) t1 t2
        refine ⟨eA E i - (x + 1), by omega, by rw [m0]; exact congrArg nn (by omega), ?_⟩
        have p3' : mC E i 9 i 2 = 3 := by rw [e, gvE_o (by omega) (by omega)]; exact p3
        have eA' : eA (mC E i) i = eA E i := by unfold eA; rw [e, gvE_o (by omega) (by omega)]
        have hh' : hlO (mC E i) (eA (mC E i)) i = eA (mC E i) i - (x + 1) := hl_x (by rw [eA']; exact q1) (by omega) (by rw [eA']; omega) (fun k k1 k2 => by
          rw [e, gvE_13]
          by_cases ek : k = x
          · rw [if_pos ⟨rfl, ek⟩]
          · rw [if_neg (fun z => ek z.2)]
            exact x4 k k1 (by omega)) (fun k k1 k2 => by
          rw [eA'] at k2
          rw [e, gvE_13, if_neg (by omega)]
          exact x5 k (by omega) k2)
        unfold mu
        rw [p3', if_neg three1, if_neg three2, if_pos rfl, hh', eA']
        rfl
/-- what a circuit's move looks at -/
def mP (kd k : Nat) : Prop := (kd = 9 ∧ (k = 2 ∨ k = 9 ∨ k = 10)) ∨ (10 ≤ kd ∧ kd ≤ 17)
theorem mC_row {E E' : VV} {i : Nat} (h : ∀ kd k, mP kd k → E' kd i k = E kd i k) (h3 : ∀ j k, E' 3 j k = E 3 j k) (h1 : E' 1 0 1 = E 1 0 1) (h0 : E' 0 0 8 = E 0 0 8) : ∀ kd k, mP kd k → mC E' i kd i k = mC E i kd i k := by
  have eA' : eA E' i = eA E i := by unfold eA; rw [h 10 _ (Or.inr (by omega))]
  have eB' : eB E' i = eB E i := by unfold eB; rw [h 14 _ (Or.inr (by omega))]
  have eL' : eL E' = eL E := by unfold eL; rw [h1]
  have dO : dlO E' i = dlO E i := dlO_c (h 10 _ (Or.inr (by omega))) (fun k => h 12 k (Or.inr (by omega))) h3 h1
  have dN : dlN E' i = dlN E i := by
    unfold dlN dlW
    rw [eB', eL']
    exact su_c (fun k _ _ => by unfold dOn; rw [h 16 _ (Or.inr (by omega)), h3])
  have eX : clX E' i = clX E i := by
    unfold clX
    rw [eA', hlO_c (h 10 _ (Or.inr (by omega))) (fun k => h 13 k (Or.inr (by omega)))]
  have u : ∀ {W W' : VV} (a k0 : Nat) (x : Int32), (∀ kd k, mP kd k → W' kd i k = W kd i k) → ∀ kd k, mP kd k → uV W' a i k0 x kd i k = uV W a i k0 x kd i k := fun a k0 x hw kd k k1 => by
    rw [uV_at, uV_at, hw kd k k1]
  have cF : ∀ kd k, mP kd k → clF E' i kd i k = clF E i kd i k := fun kd k k1 => by
    unfold clF
    rw [eX, eA']
    split
    · exact u 13 _ (-1) (fun kd k k1 => by rw [guE_o (by unfold mP at k1; omega), guE_o (by unfold mP at k1; omega)]; exact h kd k k1) kd k k1
    · rw [guE_o (by unfold mP at k1; omega), guE_o (by unfold mP at k1; omega)]
      exact h kd k k1
  intro kd k k1
  unfold mC
  rw [h 9 2 (Or.inl (by omega))]
  split
  · unfold buE
    rw [h 9 10 (Or.inl (by omega)), dO, dN, h0]
    split
    · split
      · exact u 9 8 _ (u 9 9 _ (u 9 2 2 h)) kd k k1
      · exact u 9 9 _ (u 9 2 2 h) kd k k1
    · exact u 9 10 _ (fun kd k k1 => by rw [mkE_o (by unfold mP at k1; omega), mkE_o (by unfold mP at k1; omega)]; exact h kd k k1) kd k k1
  · split
    · unfold drE
      rw [h 9 9 (Or.inl (by omega))]
      split
      · exact u 9 9 _ h kd k k1
      · exact u 9 2 3 (u 9 9 _ h) kd k k1
    · split
      · unfold clE
        rw [eX, eA']
        split
        · exact cF kd k k1
        · have w : ∀ (W : VV) x, uV W 8 0 5 x kd i k = W kd i k := fun W x => uV_k (by unfold mP at k1; omega)
          rw [w, w]
          refine u 9 2 0 (u 14 0 0 (fun kd k k1 => ?_)) kd k k1
          unfold mP at k1
          by_cases e : 10 ≤ kd
          · rw [twV_s ⟨e, by omega⟩, twV_s ⟨e, by omega⟩]
            refine cF _ k (Or.inr ?_)
            split <;> omega
          · rw [twV_o (by omega), twV_o (by omega)]
            exact cF kd k k1
      · exact h kd k k1
theorem mvC_row : ∀ {k j : Nat} {E E0 : VV} {i : Nat}, j ≤ i → i < j + k → (∀ kd x, mP kd x → E kd i x = E0 kd i x) → (∀ a x, E 3 a x = E0 3 a x) → E 1 0 1 = E0 1 0 1 → E 0 0 8 = E0 0 0 8 → ∀ kd x, mP kd x → mvC E j k kd i x = mC E0 i kd i x := by
  have past : ∀ {k j : Nat} {E : VV} {i : Nat}, i < j → ∀ kd x, mP kd x → mvC E j k kd i x = E kd i x := by
    intro k
    induction k with
    | zero => exact fun _ _ _ _ => rfl
    | succ k ih =>
      intro j E i h kd x k1
      rw [mvC_S, ih (by omega) kd x k1, mC_n (by omega) (by unfold mP at k1; omega) (by unfold mP at k1; omega)]
  intro k
  induction k with
  | zero => intro j E E0 i h1 h2; omega
  | succ k ih =>
    intro j E E0 i h1 h2 e9 e3 e1 e0 kd x k1
    rw [mvC_S]
    by_cases e : j = i
    · subst e
      rw [past (by omega) kd x k1]
      exact mC_row e9 e3 e1 e0 kd x k1
    · exact ih (by omega) (by omega) (fun kd x k1 => by rw [mC_n (by omega) (by unfold mP at k1; omega) (by unfold mP at k1; omega)]; exact e9 kd x k1) (fun a x => (mC_o (by omega)).trans (e3 a x)) ((mC_o (by omega)).trans e1) ((mC_o (by omega)).trans e0) kd x k1
theorem sP_k {E : VV} {i a k : Nat} (h : k = 2 ∨ k = 9 ∨ k = 10) : (sP E i).1 9 a k = E 9 a k := by
  unfold sP sdE
  split
  · dsimp only
    rw [uV_k (by omega), uV_k (by omega), uV_p (by omega), uV_p (by omega)]
  · dsimp only
    rw [ls_5 (by omega), uV_k (by omega), uV_p (by omega), uV_p (by omega)]
theorem sH_k {E : VV} {i a k : Nat} (h : k = 2 ∨ k = 9 ∨ k = 10) : (sH E i).1 9 a k = E 9 a k := by
  unfold sH
  split
  · split
    · rfl
    · split
      · rfl
      · exact sP_k h
  · dsimp only
    exact uV_p (by omega)
theorem sF_k {E : VV} {i a k : Nat} (h : k = 2 ∨ k = 9 ∨ k = 10) : (sF E i).1 9 a k = E 9 a k := by
  have b : bkE E i 1 9 a k = E 9 a k := by
    unfold bkE
    rw [uV_k (by omega), uV_p (by omega)]
  unfold sF
  split
  · exact sH_k h
  · split
    · exact (sH_k h).trans b
    · exact sH_k h
theorem sA_k : ∀ {n j : Nat} {E : VV} {a k : Nat}, (k = 2 ∨ k = 9 ∨ k = 10) → (sA E j n).1 9 a k = E 9 a k := by
  intro n
  induction n with
  | zero => exact fun _ => rfl
  | succ n ih =>
    intro j E a k h
    rw [sA_S]
    exact (ih h).trans (sF_k h)
/-- a whole tick -/
theorem tk_mu {E : VV} {l : List (Nat → Int32)} {i : Nat} (hi : i < eK E) : mu (tkE E l).1 i = mu (mC E i) i := by
  have q : kQ E (mvP E l).2 := kQ_mvP
  obtain ⟨E1, e1⟩ : ∃ E1, E1 = uV (mvP E l).2 0 0 6 (ii (mvP E l).1.length) := ⟨_, rfl⟩
  have o1 : ∀ kd a x, kd ≠ 8 → ¬ (kd = 9 ∧ x ≠ 2 ∧ x ≠ 9 ∧ x ≠ 10) → ¬ (kd = 0 ∧ x = 6) → E1 kd a x = E kd a x := fun kd a x h8 h9 h0 => by
    rw [e1, uV_at, if_neg (by omega), q kd a x h8 h9]
  have st : ∀ kd x, mP kd x → (tkE E l).1 kd i x = mvC E1 0 (eK E) kd i x := fun kd x h => by
    show uV (sA (mvC (uV (mvP E l).2 0 0 6 (ii (mvP E l).1.length)) 0 (eK E)) 0 (eK E)).1 0 0 9 (E 0 0 9 + 1) kd i x = _
    rw [uV_k (by unfold mP at h; omega), e1]
    rcases h with ⟨rfl, h⟩ | h
    · exact sA_k h
    · exact kS6_sA kd i x (by omega) (by omega) (by omega)
  have r : ∀ kd x, mP kd x → mvC E1 0 (eK E) kd i x = mC E i kd i x := mvC_row (by omega) (by omega) (fun kd x k1 => o1 kd i x (by unfold mP at k1; omega) (by unfold mP at k1; omega) (by unfold mP at k1; omega)) (fun a x => o1 3 a x (by omega) (by omega) (by omega)) (o1 1 0 1 (by omega) (by omega) (by omega)) (o1 0 0 8 (by omega) (by omega) (by omega))
  have w : ∀ kd x, mP kd x → (tkE E l).1 kd i x = mC E i kd i x := fun kd x h => (st kd x h).trans (r kd x h)
  exact mu_c (fun k hk => w 9 k (Or.inl ⟨rfl, hk⟩)) (w 10 0 (Or.inr (by omega))) (fun k => w 12 k (Or.inr (by omega))) (fun k => w 13 k (Or.inr (by omega))) (fun j k => (tk_all.1 3 j k (by omega) (by omega)).trans (mC_o (by omega)).symm) ((tk_all.1 1 0 1 (by omega) (by omega)).trans (mC_o (by omega)).symm)
section
variable {H : fm_H} {b : Nat} {m m00 : fm_M}
/-- as predictions leave it -/
def tR (b : Nat) (m m' : fm_M) : Prop := (∀ a k, a ≠ b + 1 → a ≠ b + 3 → ¬ (a = b ∧ (k = 6 ∨ k = 7 ∨ 18 ≤ k)) → ¬ (b + 8 ≤ a ∧ a < b + 12) → a ≠ b + 6 → m'.1 a k = m.1 a k) ∧ m'.2 = m.2
theorem tR_tr {b : Nat} {m m1 m2 : fm_M} (h1 : tR b m m1) (h2 : tR b m1 m2) : tR b m m2 := ⟨fun a k x y z w v => (h2.1 a k x y z w v).trans (h1.1 a k x y z w v), h2.2.trans h1.2⟩
theorem tR_g {b : Nat} {m m' : fm_M} (h : gR b m m') : tR b m m' := ⟨fun a k x _ y z w => h.1 a k x y z w, h.2⟩
theorem tR_f {b : Nat} {m m' : fm_M} (h : fR b m m') : tR b m m' := tR_g (gR_f h)
theorem tR_h {b : Nat} {m m' : fm_M} (h : hRf b m m') : tR b m m' := ⟨fun a k x _ y z w => h.1 a k x (by omega) z w, h.2⟩
theorem tR_c {b a p d q : Nat} {m : fm_M} (hd : d = b + 1 ∨ d = b + 3) : tR b m (cpM m a p d q 1112) := ⟨fun c k x y _ _ _ => if_neg (by omega), rfl⟩
theorem cpM_d {a p d q k : Nat} (h : q ≤ k ∧ k < q + 1112) : (cpM m a p d q 1112).1 d k = m.1 a (k - q + p) := if_pos ⟨rfl, h⟩
theorem cpM_o {a p d q c k : Nat} (h : c ≠ d) : (cpM m a p d q 1112).1 c k = m.1 c k := if_neg (fun z => h z.1)
theorem mu_nn {E : VV} {l : List (Nat → Int32)} {ρ : Nat → Int32} (hA : rAll ρ E l) (hI : iG E l) {i : Nat} (hi : i < eK E) : ∃ n, n ≤ 300 ∧ mu E i = nn n := by
  by_cases e : E 9 i 2 = 0
  · refine ⟨0, by omega, ?_⟩
    unfold mu
    rw [e]
    rfl
  · obtain ⟨n, n1, n2, -⟩ := mC_mu hI.1.1 hI.1.2.1 hI.1.2.2.1 hi (hI.1.2.2.2.1 i hi) (fun c k c1 c2 c3 => rB_sl hA.1 hi c1 c2 c3) e
    exact ⟨n + 1, by omega, n2⟩
end
