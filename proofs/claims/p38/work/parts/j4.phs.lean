/-! THE LAW: phases follow one another, predictions come true -/
theorem dv_81 {E : VV} {r : Nat → Int32} : dvE E r 8 0 1 = E 8 0 1 + 1 := by
  unfold dvE
  split
  · split
    · rw [uV_k (by omega), uV_k (by omega), uV_k (by omega), uV_s]
    · rw [uV_p (by omega), uV_k (by omega), uV_k (by omega), uV_k (by omega), uV_s]
  · rw [uV_s]
theorem ls_81 {E : VV} {r : Nat → Int32} : lsE E r 8 0 1 = E 8 0 1 := by
  unfold lsE
  split
  · rw [uV_k (by omega), uV_p (by omega)]
  · rw [uV_p (by omega)]
theorem mvP_81 : ∀ (l : List (Nat → Int32)) (E : VV), ∃ k, k ≤ l.length ∧ (mvP E l).2 8 0 1 = E 8 0 1 + nn k := by
  intro l
  induction l with
  | nil => exact fun E => ⟨0, Nat.le_refl _, (Int32.add_zero _).symm⟩
  | cons r l ih =>
    intro E
    obtain ⟨k, k1, k2⟩ := ih (gP E r).2.2
    have e : (mvP E (r :: l)).2 = (mvP (gP E r).2.2 l).2 := rfl
    rw [e, k2]
    rcases gP_c (E := E) (r := r) with ⟨_, g, _⟩ | ⟨_, r9, _, g | g⟩
    · rw [g]
      exact ⟨k, Nat.le_succ_of_le k1, rfl⟩
    · rw [g, dv_81]
      refine ⟨k + 1, Nat.succ_le_succ k1, ?_⟩
      rw [Int32.add_assoc, show (1 : Int32) + nn k = nn (1 + k) from nn_add 1 k, Nat.add_comm]
    · rw [g, ls_81]
      exact ⟨k, Nat.le_succ_of_le k1, rfl⟩
theorem sP_81 {E : VV} {i : Nat} : (sP E i).1 8 0 1 = E 8 0 1 := by
  have e : sdE E i 8 0 1 = E 8 0 1 := by
    unfold sdE
    rw [uV_p (by omega), uV_k (by omega), uV_k (by omega)]
  unfold sP
  split
  · show uV (sdE E i) 0 0 6 (E 0 0 6 + 1) 8 0 1 = _
    rw [uV_k (by omega)]
    exact e
  · exact ls_81.trans e
theorem sH_81 {E : VV} {i : Nat} : (sH E i).1 8 0 1 = E 8 0 1 := by
  unfold sH
  split
  · split
    · rfl
    · split
      · rfl
      · exact sP_81
  · show uV E 9 i 8 (E 9 i 8 - 1) 8 0 1 = _
    rw [uV_k (by omega)]
theorem sF_81 {E : VV} {i : Nat} : (sF E i).1 8 0 1 = E 8 0 1 := by
  unfold sF
  split
  · exact sH_81
  · split
    · rw [sH_81]
      unfold bkE
      rw [uV_p (by omega), uV_k (by omega)]
    · exact sH_81
theorem sA_81 : ∀ {k j : Nat} {E : VV}, (sA E j k).1 8 0 1 = E 8 0 1 := by
  intro k
  induction k with
  | zero => exact rfl
  | succ k ih =>
    intro j E
    show (sA (sF E j).1 (j + 1) k).1 8 0 1 = _
    rw [ih, sF_81]
theorem got_tk {E : VV} {l : List (Nat → Int32)} : ∃ k, k ≤ l.length ∧ (tkE E l).1 8 0 1 = E 8 0 1 + nn k := by
  obtain ⟨k, k1, k2⟩ := mvP_81 l E
  refine ⟨k, k1, ?_⟩
  show uV (sA (mvC (uV (mvP E l).2 0 0 6 (ii (mvP E l).1.length)) 0 (eK E)) 0 (eK E)).1 0 0 9 (E 0 0 9 + 1) 8 0 1 = _
  rw [uV_k (by omega), sA_81, mvC_8k (by omega), uV_k (by omega), k2]
theorem tk_rw {E : VV} {l : List (Nat → Int32)} {i : Nat} (hi : i < eK E) : (tkE E l).1 9 i 2 = mC E i 9 i 2 := by
  have q : kQ E (mvP E l).2 := kQ_mvP
  obtain ⟨E1, e1⟩ : ∃ E1, E1 = uV (mvP E l).2 0 0 6 (ii (mvP E l).1.length) := ⟨_, rfl⟩
  have o1 : ∀ kd a x, kd ≠ 8 → ¬ (kd = 9 ∧ x ≠ 2 ∧ x ≠ 9 ∧ x ≠ 10) → ¬ (kd = 0 ∧ x = 6) → E1 kd a x = E kd a x := fun kd a x h8 h9 h0 => by
    rw [e1, uV_at, if_neg (by omega), q kd a x h8 h9]
  have st : (tkE E l).1 9 i 2 = mvC E1 0 (eK E) 9 i 2 := by
    show uV (sA (mvC (uV (mvP E l).2 0 0 6 (ii (mvP E l).1.length)) 0 (eK E)) 0 (eK E)).1 0 0 9 (E 0 0 9 + 1) 9 i 2 = _
    rw [uV_k (by omega), e1]
    exact sA_k (Or.inl rfl)
  exact st.trans (mvC_row (by omega) (by omega) (fun kd x k1 => o1 kd i x (by unfold mP at k1; omega) (by unfold mP at k1; omega) (by unfold mP at k1; omega)) (fun a x => o1 3 a x (by omega) (by omega) (by omega)) (o1 1 0 1 (by omega) (by omega) (by omega)) (o1 0 0 8 (by omega) (by omega) (by omega)) 9 2 (Or.inl ⟨rfl, Or.inl rfl⟩))
/-- the phase behind a tick -/
theorem mC_ph {E : VV} {i : Nat} : (mC E i 9 i 2 = E 9 i 2) ∨ (E 9 i 2 = 1 ∧ mC E i 9 i 2 = 2) ∨ (E 9 i 2 = 2 ∧ mC E i 9 i 2 = 3) ∨ (E 9 i 2 = 3 ∧ mC E i 9 i 2 = 0) := by
  unfold mC
  by_cases c1 : E 9 i 2 = 1
  · rw [if_pos c1]
    unfold buE
    split
    · split
      · exact Or.inr (Or.inl ⟨c1, by rw [uV_p (by omega), uV_p (by omega), uV_s]⟩)
      · exact Or.inr (Or.inl ⟨c1, by rw [uV_p (by omega), uV_s]⟩)
    · refine Or.inl ?_
      rw [uV_p (by omega)]
      unfold mkE
      split
      · exact uV_k (by omega)
      · rfl
  · rw [if_neg c1]
    by_cases c2 : E 9 i 2 = 2
    · rw [if_pos c2]
      unfold drE
      split
      · exact Or.inl (uV_p (by omega))
      · exact Or.inr (Or.inr (Or.inl ⟨c2, uV_s⟩))
    · rw [if_neg c2]
      by_cases c3 : E 9 i 2 = 3
      · rw [if_pos c3]
        have g : ∀ t, guE E t 9 i 2 = E 9 i 2 := fun t => by
          unfold guE
          split
          · exact uV_k (by omega)
          · rfl
        unfold clE
        split
        · refine Or.inl ?_
          unfold clF
          split
          · rw [uV_k (by omega)]
            exact g _
          · exact g _
        · refine Or.inr (Or.inr (Or.inr ⟨c3, ?_⟩))
          rw [uV_k (by omega), uV_s]
      · rw [if_neg c3]
        exact Or.inl rfl
theorem mu_st {B : Nat} {E : VV} {l : List (Nat → Int32)} (hJ : JI B E l) {i : Nat} (hi : i < eK E) : ∃ n, n ≤ 300 ∧ mu E i = nn n ∧ (n = 0 ↔ E 9 i 2 = 0) ∧ mu (tkE E l).1 i = nn (n - 1) := by
  have hI := hJ.1
  rw [tk_mu hi]
  by_cases p : E 9 i 2 = 0
  · have e0 : mu E i = 0 := by
      unfold mu
      rw [p, if_neg (by decide), if_neg (by decide), if_neg (by decide)]
    have em : mC E i = E := by
      unfold mC
      rw [p, if_neg (by decide), if_neg (by decide), if_neg (by decide)]
    exact ⟨0, by omega, e0, ⟨fun _ => p, fun _ => rfl⟩, by rw [em, e0]; rfl⟩
  · obtain ⟨n, n1, n2, n3⟩ := mC_mu hI.1.1 hI.1.2.1 hI.1.2.2.1 hi (hI.1.2.2.2.1 i hi) (hS_sl hJ.2.2.1 hi) p
    exact ⟨n + 1, n1, n2, ⟨fun z => by omega, fun z => absurd z p⟩, n3⟩
theorem tkM_T : ∀ {a : Nat} {E : VV} {l : List (Nat → Int32)}, tkM E l (a + 1) = tkE (tkM E l a).1 (tkM E l a).2 := by
  intro a
  induction a with
  | zero => exact rfl
  | succ a ih => exact fun {E l} => (ih (E := (tkE E l).1) (l := (tkE E l).2))
section
variable {H : fm_H} {m m1 m2 : fm_M} {o x sc n N T : Nat} {sf : Int32} {E E' : VV} {l : List (Nat → Int32)} {d : Nat → Nat} {sv : Nat → Option (VV × List (Nat → Int32))}
theorem q_ph154 (hX : LX H o x sc) (hN : N < 60000) {i c n0 : Nat} (hi : i < eK E) (hc : c ≤ 60) (hn0 : n0 ≤ 300) (hJ0 : JI (8 * T) E l) (hM0 : iNM T E) (hS0 : iS0 E) (h2 : mu E i = nn n0) (hE' : smE E E') (hI' : iG E' l) (hsv : sv 1 = some (E', l)) (hs : sf ≠ 0 → SF E l) (hE : 1 ≤ eN E) {v5 v6 v7 : Int32} (e5 : v5 = (tkM E l c).1 8 0 1 - E 8 0 1) (e6 : v6 = (tkM E l c).1 8 0 2 - E 8 0 2) (e7 : v7 = (tkM E l c).1 8 0 4 - E 8 0 4) : ∀ (r q a : Nat) (m : fm_M), a + r = c → r < q → LQ H o sc sf N m → DS x (T + a) m (tkM E l a).1 (tkM E l a).2 n d sv → mu (tkM E l a).1 i = nn (n0 - a) → fE (f_L_phasesFollow_154 H o (nn i) (nn n0) (nn c) v5 v6 v7 (E 8 0 1) (E 8 0 2) (E 8 0 4) q ((tkM E l a).1 9 i 2) (nn (1 + a)) m) (fun r m1 => r = 1 ∧ LSt H o x sc sf (N + 1) T m1) := by
  have hx := hX.1
  have e0 := hX.2.2.1
  have hI := hJ0.1
  have hL16 := hI.1.1.2.2.2.2.1.2.1
  intro r
  induction r with
  | zero =>
    intro q a m h1 hq hQ hD hmu
    obtain ⟨q, rfl⟩ : ∃ q', q = q' + 1 := ⟨q - 1, by omega⟩
    have ea : a = c := by omega
    subst ea
    unfold f_L_phasesFollow_154
    rw [if_pos ((nn_lt (by omega) (by omega)).mpr (by omega)), e0, L_c8 hx hD, fb_n, if_pos (show (tkM E l a).1 8 0 1 = E 8 0 1 + v5 by rw [e5, Int32.add_comm, Int32.sub_add_cancel]), L_c9 hx hD, fb_n, if_pos (show (tkM E l a).1 8 0 2 = E 8 0 2 + v6 by rw [e6, Int32.add_comm, Int32.sub_add_cancel]), L_c11 hx hD, fb_n, if_pos (show (tkM E l a).1 8 0 4 = E 8 0 4 + v7 by rw [e7, Int32.add_comm, Int32.sub_add_cancel])]
    refine fE_be (L_restore (T' := T) hx hD hsv (sm_NM hE' hI hM0) (sm_JI hE' hI'.1.1 hJ0) (z0_sm hE' hS0)) (fun r1 m1 ⟨y1, E2, y2, y3, y4⟩ => ?_)
    have hi' : i < eK E' := by rw [sm_K hE']; exact hi
    rw [if_pos y1, L_movedIn hx y3 (i := i) (by rw [sm_K y2]; exact hi'), fb_n, if_pos (show mu E2 i = nn n0 by
      rw [sm_mu y2 hI'.1.1 hI'.1.1.2.2.2.2.1.2.1 hi', sm_mu hE' hI.1.1 hL16 hi, h2])]
    exact fE_ret ⟨rfl, LQ_m (LQ_l hX hQ y4) (by omega), E2, l, 0, d, sv, y3, fun z => sm_SF y2 hI'.1.2.1 (sm_SF hE' hI.1.2.1 (hs z)), by rw [sm_N y2, sm_N hE']; exact hE⟩
  | succ r ih =>
    intro q a m h1 hq hQ hD hmu
    obtain ⟨q, rfl⟩ : ∃ q', q = q' + 1 := ⟨q - 1, by omega⟩
    have hJa := hD.2.2.2.2.2.1
    have hia : i < eK (tkM E l a).1 := by rw [tkM_K]; exact hi
    obtain ⟨n1, u1, u2, u3, u4⟩ := mu_st hJa hia
    have en1 : n1 = n0 - a := nn_e (by omega) (by omega) (u2.symm.trans hmu)
    subst en1
    unfold f_L_phasesFollow_154
    rw [if_neg (show ¬ (nn c : Int32) < nn (1 + a) by rw [nn_lt (by omega) (by omega)]; omega), e0]
    refine fE_be (L_run hx hD (k := 1) (by omega) (by omega)) (fun r1 m1 ⟨y1, hD1, y3⟩ => ?_)
    have et : tkM (tkM E l a).1 (tkM E l a).2 1 = tkM E l (a + 1) := tkM_T.symm
    have et2 : tkM E l (a + 1) = tkE (tkM E l a).1 (tkM E l a).2 := tkM_T
    rw [et] at y1 hD1
    have hQ1 := LQ_l hX hQ y3
    obtain ⟨g, g1, g2⟩ := got_tk (E := (tkM E l a).1) (l := (tkM E l a).2)
    have er : r1 = nn g := by
      rw [y1, et2, g2, Int32.add_comm, Int32.add_sub_cancel]
    have hg : g ≤ 60 := Nat.le_trans g1 hJa.2.1
    rw [er, if_pos (show (0 : Int32) ≤ nn g by rw [nl_0]; exact (nn_le (by omega) (by omega)).mpr (by omega)), L_ci4 hx hD1 (by rw [tkM_K]; exact hi), fb_n]
    have hJ1 := hD1.2.2.2.2.2.1
    have hi1 : i < eK (tkM E l (a + 1)).1 := by rw [tkM_K]; exact hi
    obtain ⟨n2, w1, w2, w3, w4⟩ := mu_st hJ1 hi1
    have hmu1 : mu (tkM E l (a + 1)).1 i = nn (n0 - (a + 1)) := by
      rw [et2, u4]
      exact congrArg nn (by omega)
    have en2 : n2 = n0 - (a + 1) := nn_e (by omega) (by omega) (w2.symm.trans hmu1)
    have next : fE (f_L_phasesFollow_154 H o (nn i) (nn n0) (nn c) v5 v6 v7 (E 8 0 1) (E 8 0 2) (E 8 0 4) q ((tkM E l (a + 1)).1 9 i 2) (nn (1 + a) + 1) m1) (fun r m1 => r = 1 ∧ LSt H o x sc sf (N + 1) T m1) := by
      rw [nn_inc, show 1 + a + 1 = 1 + (a + 1) by omega]
      exact ih q (a + 1) m1 (by omega) (by omega) hQ1 (ds_JB hD1 (by omega)) hmu1
    have f211 : ∀ s0 : Int32, s0 = (if (tkM E l (a + 1)).1 9 i 2 = 0 then 1 else 0) → fE (f_L_phasesFollow_211 H (f_L_phasesFollow_154 H o (nn i) (nn n0) (nn c) v5 v6 v7 (E 8 0 1) (E 8 0 2) (E 8 0 4) q) o (nn i) (nn n0) (nn c) v5 v6 v7 (E 8 0 1) (E 8 0 2) (E 8 0 4) (nn (1 + a)) ((tkM E l (a + 1)).1 9 i 2) s0 m1) (fun r m1 => r = 1 ∧ LSt H o x sc sf (N + 1) T m1) := fun s0 hs0 => by
      unfold f_L_phasesFollow_211
      by_cases z : 1 + a < n0
      · rw [if_pos ((nn_lt (by omega) (by omega)).mpr z), if_pos (show s0 = 0 by
          rw [hs0, if_neg (fun q => by
            have := w3.mpr q
            omega)])]
        exact next
      · rw [if_neg (by rw [nn_lt (by omega) (by omega)]; exact z), if_pos (show s0 = 1 by
          rw [hs0, if_pos (w3.mp (by omega))])]
        exact next
    have hz : fE (if (tkM E l (a + 1)).1 9 i 2 = 0 then f_L_phasesFollow_211 H (f_L_phasesFollow_154 H o (nn i) (nn n0) (nn c) v5 v6 v7 (E 8 0 1) (E 8 0 2) (E 8 0 4) q) o (nn i) (nn n0) (nn c) v5 v6 v7 (E 8 0 1) (E 8 0 2) (E 8 0 4) (nn (1 + a)) ((tkM E l (a + 1)).1 9 i 2) (1 : Int32) m1 else f_L_phasesFollow_211 H (f_L_phasesFollow_154 H o (nn i) (nn n0) (nn c) v5 v6 v7 (E 8 0 1) (E 8 0 2) (E 8 0 4) q) o (nn i) (nn n0) (nn c) v5 v6 v7 (E 8 0 1) (E 8 0 2) (E 8 0 4) (nn (1 + a)) ((tkM E l (a + 1)).1 9 i 2) (0 : Int32) m1) (fun r m1 => r = 1 ∧ LSt H o x sc sf (N + 1) T m1) := by
      by_cases z : (tkM E l (a + 1)).1 9 i 2 = 0
      · rw [if_pos z]
        exact f211 1 (if_pos z).symm
      · rw [if_neg z]
        exact f211 0 (if_neg z).symm
    by_cases same : (tkM E l (a + 1)).1 9 i 2 = (tkM E l a).1 9 i 2
    · rw [if_pos same]
      exact hz
    · rw [if_neg same, if_neg (show ¬ (4 : Int32) = 0 by decide), if_pos (show (tkM E l (a + 1)).1 9 i 2 = (tkM E l a).1 9 i 2 + 1 - ((tkM E l a).1 9 i 2 + 1) / 4 * 4 by
        have e9 : (tkM E l (a + 1)).1 9 i 2 = mC (tkM E l a).1 i 9 i 2 := by
          rw [et2]
          exact tk_rw hia
        rcases mC_ph (E := (tkM E l a).1) (i := i) with p | ⟨p, p2⟩ | ⟨p, p2⟩ | ⟨p, p2⟩
        · exact absurd (e9.trans p) same
        · rw [e9, p2, p]
          decide
        · rw [e9, p2, p]
          decide
        · rw [e9, p2, p]
          decide)]
      exact hz
theorem q_phases (hX : LX H o x sc) (hN : N < 50000) (h : LSt H o x sc sf N T m) : fE (f_L_phasesFollow H o m) (fun r m1 => r = 1 ∧ LSt H o x sc sf (N + 6) T m1) := by
  have hx := hX.1
  have e0 := hX.2.2.1
  have h0 := h
  obtain ⟨hQ, E, l, n, d, sv, hD, hs, hE⟩ := h
  have hI := hD.2.2.2.2.2.1.1
  have hK8 := hI.1.1.2.2.2.2.1.2.2.1
  unfold f_L_phasesFollow
  rw [e0, L_cK hx hD, fb_n]
  by_cases z : eK E = 0
  · rw [if_pos (show nn (eK E) = 0 by rw [z]; rfl)]
    unfold f_L_phasesFollow_27
    rw [if_pos (show (-1 : Int32) < 0 by decide), if_neg (show ¬ (0 : Int32) ≤ -1 by decide)]
    exact fE_ret ⟨rfl, LQ_m hQ (by omega), E, l, n, d, sv, hD, hs, hE⟩
  · rw [if_neg (show ¬ nn (eK E) = 0 from fun q => z (nn_e (by omega) (by omega) (q.trans nl_0))), L_cK hx hD, fb_n]
    refine fE_be (q_draw hX hQ (by omega) (n := eK E) (by omega) (by omega)) (fun r1 m1 ⟨⟨i, hi, ei⟩, hQ1, ha1⟩ => ?_)
    subst ei
    have hD1 := ds_ag hD hx ha1
    unfold f_L_phasesFollow_27
    rw [if_neg (show ¬ nn i < (0 : Int32) by rw [nl_0, nn_lt (by omega) (by omega)]; omega), e0]
    refine fE_be (L_save hx hD1) (fun r2 m2 ⟨y1, E', y2, y3, hD2, y5⟩ => ?_)
    have hQ2 := LQ_l hX hQ1 y5
    rw [if_pos y1, L_movedIn hx hD2 hi, fb_n, L_ci4 hx hD2 hi, fb_n]
    refine fE_be (q_draw hX hQ2 (by omega) (n := 50) (by omega) (by omega)) (fun r3 m3 ⟨⟨v, hv, ev⟩, hQ3, ha3⟩ => ?_)
    subst ev
    have hD3 := ds_ag hD2 hx ha3
    rw [show (1 : Int32) + nn v = nn (1 + v) from nn_add 1 v]
    refine fE_be (L_ahead hx hD3 (k := 1 + v) (w := 0) (by omega) (by omega) (by omega)) (fun r4 m4 ⟨b1, hD4, b3⟩ => ?_)
    refine fE_be (L_ahead hx hD4 (k := 1 + v) (w := 1) (by omega) (by omega) (by omega)) (fun r5 m5 ⟨c1, hD5, c3⟩ => ?_)
    refine fE_be (L_ahead hx hD5 (k := 1 + v) (w := 2) (by omega) (by omega) (by omega)) (fun r6 m6 ⟨d1, hD6, d3⟩ => ?_)
    have hQ6 := LQ_l hX (LQ_l hX (LQ_l hX hQ3 b3) c3) d3
    rw [L_c8 hx hD6, fb_n, L_c9 hx hD6, fb_n, L_c11 hx hD6, fb_n]
    obtain ⟨n0, u1, u2, u3, u4⟩ := mu_st hD.2.2.2.2.2.1 hi
    rw [u2]
    exact fE_w (q_ph154 (sv := fun j => if j = 1 then some (E', l) else sv j) hX (by omega) hi (c := 1 + v) (by omega) u1 hD.2.2.2.2.2.1 hD.2.2.2.2.1 hD.2.2.2.2.2.2 u2 y2 y3 (if_pos rfl) hs hE b1 c1 d1 (1 + v) fm_N 0 m6 (by omega) (by unfold fm_N; omega) hQ6 hD6 u2) (fun r9 m9 ⟨j1, j2, j3⟩ => ⟨j1, LQ_m j2 (by omega), j3⟩)
end
