/-! THE LAW: it opens, time passes -/
theorem hA_dB : h_L_draftBest pm_xA = some (-102) := by decide
theorem hB_ab : h_L_abort pm_xB = some (-101) := by decide
theorem hA_rn : h_L_run pm_xA = some (-102) := by decide
section
variable {H : fm_H} {m m1 m2 : fm_M} {o x sc n N T : Nat} {sf : Int32} {E E' : VV} {l : List (Nat → Int32)} {d : Nat → Nat} {sv : Nat → Option (VV × List (Nat → Int32))}
theorem L_cN (hX : kX H x) (h : DS x T m E l n d sv) : f_L_count H x 2 m = some (nn (eN E), m) := (L_count hX h (y := 2) (by omega)).trans (congrArg (fun z => some (z, m)) h.2.2.2.2.2.1.1.1.1.1)
theorem L_cL (hX : kX H x) (h : DS x T m E l n d sv) : f_L_count H x 3 m = some (nn (eL E), m) := (L_count hX h (y := 3) (by omega)).trans (congrArg (fun z => some (z, m)) h.2.2.2.2.2.1.1.1.1.2.1)
theorem L_cK (hX : kX H x) (h : DS x T m E l n d sv) : f_L_count H x 4 m = some (nn (eK E), m) := (L_count hX h (y := 4) (by omega)).trans (congrArg (fun z => some (z, m)) h.2.2.2.2.2.1.1.1.1.2.2.1)
theorem L_c5 (hX : kX H x) (h : DS x T m E l n d sv) : f_L_count H x 5 m = some (E 0 0 9, m) := L_count hX h (y := 5) (by omega)
theorem L_c6 (hX : kX H x) (h : DS x T m E l n d sv) : f_L_count H x 6 m = some (E 0 0 6, m) := L_count hX h (y := 6) (by omega)
theorem L_c7 (hX : kX H x) (h : DS x T m E l n d sv) : f_L_count H x 7 m = some (E 8 0 0, m) := L_count hX h (y := 7) (by omega)
theorem L_c8 (hX : kX H x) (h : DS x T m E l n d sv) : f_L_count H x 8 m = some (E 8 0 1, m) := L_count hX h (y := 8) (by omega)
theorem L_c9 (hX : kX H x) (h : DS x T m E l n d sv) : f_L_count H x 9 m = some (E 8 0 2, m) := L_count hX h (y := 9) (by omega)
theorem L_c11 (hX : kX H x) (h : DS x T m E l n d sv) : f_L_count H x 11 m = some (E 8 0 4, m) := L_count hX h (y := 11) (by omega)
theorem L_c12 (hX : kX H x) (h : DS x T m E l n d sv) : f_L_count H x 12 m = some (nn (sn (fun v => bw E (eZ E) v) 0 (eN E)), m) := L_count hX h (y := 12) (by omega)
theorem L_c13 (hX : kX H x) (h : DS x T m E l n d sv) : f_L_count H x 13 m = some (nn (nc (fun i => decide (E 9 i 2 ≠ 0)) 0 (eK E)), m) := L_count hX h (y := 13) (by omega)
theorem L_c15 (hX : kX H x) (h : DS x T m E l n d sv) : f_L_count H x 15 m = some (E 8 0 6, m) := L_count hX h (y := 15) (by omega)
theorem L_c16 (hX : kX H x) (h : DS x T m E l n d sv) : f_L_count H x 16 m = some (nn n, m) := L_count hX h (y := 16) (by omega)
theorem L_ci2 (hX : kX H x) (h : DS x T m E l n d sv) {i : Nat} (hi : i < eK E) : f_L_circuit H x (nn i) 2 m = some (E 9 i 0, m) := L_circuit hX h hi (y := 2) (by omega)
theorem L_ci4 (hX : kX H x) (h : DS x T m E l n d sv) {i : Nat} (hi : i < eK E) : f_L_circuit H x (nn i) 4 m = some (E 9 i 2, m) := L_circuit hX h hi (y := 4) (by omega)
theorem L_ci6 (hX : kX H x) (h : DS x T m E l n d sv) {i : Nat} (hi : i < eK E) : f_L_circuit H x (nn i) 6 m = some (E 9 i 3, m) := L_circuit hX h hi (y := 6) (by omega)
theorem L_ci13 (hX : kX H x) (h : DS x T m E l n d sv) {i : Nat} (hi : i < eK E) : f_L_circuit H x (nn i) 13 m = some (nn (lc (fun r => decide (r 0 = nn i)) l), m) := L_circuit hX h hi (y := 13) (by omega)
/-- what holds between the rounds -/
def LSt (H : fm_H) (o x sc : Nat) (sf : Int32) (N T : Nat) (m : fm_M) : Prop := LQ H o sc sf N m ∧ ∃ E l n d sv, DS x T m E l n d sv ∧ (sf ≠ 0 → SF E l) ∧ 1 ≤ eN E
theorem nn_01 : (0 : Int32) ≤ nn n ∨ 1000000 ≤ n := by
  by_cases h : n < 1000000
  · exact Or.inl (by rw [nl_0]; exact (nn_le (by omega) (by omega)).mpr (by omega))
  · exact Or.inr (by omega)
theorem q_opens (hX : LX H o x sc) (hN : N < 50000) (h : LSt H o x sc sf N T m) : fE (f_L_opens H o m) (fun r m1 => r = 1 ∧ LSt H o x sc sf (N + 6) T m1) := by
  have hx := hX.1
  have e0 := hX.2.2.1
  obtain ⟨hQ, E, l, n, d, sv, hD, hs, hE⟩ := h
  have hI := hD.2.2.2.2.2.1.1
  have hN10 := hI.1.1.2.2.2.2.1.1
  have hK8 := hI.1.1.2.2.2.2.1.2.2.1
  unfold f_L_opens
  rw [e0, L_cN hx hD, fb_n]
  refine fE_be (q_draw hX hQ (by omega) hE (by omega)) (fun r1 m1 ⟨⟨a, ha, ea⟩, hQ1, ha1⟩ => ?_)
  subst ea
  refine fE_be (q_draw hX hQ1 (by omega) hE (by omega)) (fun r2 m2 ⟨⟨b, hb, eb⟩, hQ2, ha2⟩ => ?_)
  subst eb
  refine fE_be (q_draw hX hQ2 (by omega) (n := 20) (by omega) (by omega)) (fun r3 m3 ⟨⟨u, hu, eu⟩, hQ3, ha3⟩ => ?_)
  subst eu
  have hD3 := ds_ag (ds_ag (ds_ag hD hx ha1) hx ha2) hx ha3
  rw [show (1 : Int32) + nn u = nn (1 + u) from nn_add 1 u, L_cK hx hD3, fb_n]
  by_cases hab : a = b
  · subst hab
    obtain ⟨u1, u2⟩ := LQ_e hX hQ3
    obtain ⟨t1, t2⟩ := LQ_n hX hQ3 (by omega)
    have e4 : f_L_draftBest H x (nn a) (nn a) (nn (1 + u)) m3 = some (-102, fl_e H m3) := fL_e (L_draftBestX hx hD3 ha) t1 t2 hA_dB
    rw [e4, fb_n, if_pos rfl, if_pos rfl]
    exact fE_ret ⟨rfl, LQ_m u1 (by omega), E, l, n, d, sv, ds_ag hD3 hx u2, hs, hE⟩
  · have hne : ¬ (nn a : Int32) = nn b := fun e => hab ((nn_eq (by omega) (by omega)).mp e)
    refine fE_be (L_draftBest hx hD3 ha hb hab (u := 1 + u) (by omega) (by omega)) (fun r6 m6 ⟨hf6, hc6⟩ => ?_)
    have hQ6 := LQ_l hX hQ3 hf6
    rw [if_neg hne]
    rcases hc6 with ⟨z1, z2, hD6⟩ | ⟨z1, z2, hD6⟩
    · rw [z2, if_neg (show ¬ (0 : Int32) ≤ -1 by decide), if_pos (show (-1 : Int32) = -1 from rfl)]
      exact fE_ret ⟨rfl, LQ_m hQ6 (by omega), E, l, n, d, sv, hD6, hs, hE⟩
    · obtain ⟨bw1, bw2, bw3, bw4⟩ := bs_dW hI.1.2.2.1 (band := nn (1 + u)) (e := -1) (y := -1) ha hab z1
      have opr := fun {y : Int32} {N' L' : Nat → Int32} => opR (l := l) hI (u := nn (1 + u)) (y := y) ha hab z1 (N := N') (L := L')
      obtain ⟨z, ez⟩ : ∃ z, z = bsE E (nn (1 + u)) (-1) (-1) a b := ⟨_, rfl⟩
      rw [← ez] at z1 z2 hD6 bw1 bw2 bw3 bw4 opr
      have hz6 : z.1 ≤ 6 := bw1.1
      have hD62 := hD6.2.1
      rw [z2, if_pos (show (0 : Int32) ≤ nn z.1 from by rw [nl_0]; exact (nn_le (by omega) (by omega)).mpr (by omega)), if_neg (show ¬ nn z.1 < (2 : Int32) from by rw [show (2 : Int32) = nn 2 from rfl, nn_lt (by omega) (by omega)]; omega), if_neg (show ¬ (6 : Int32) < nn z.1 from by rw [show (6 : Int32) = nn 6 from rfl, nn_lt (by omega) (by omega)]; omega), L_c16 hx hD6, fb_n, if_pos rfl, show (0 : Int32) = nn 0 from rfl, L_draftNode hx hD6 (k := 0) (by omega), fb_n, if_pos (show 0 < z.1 by omega), bw3, if_pos rfl, show nn z.1 - (1 : Int32) = nn (z.1 - 1) from nn_dec (by omega), L_draftNode hx hD6 (k := z.1 - 1) (by omega), fb_n, if_pos (show z.1 - 1 < z.1 by omega), bw4, if_pos rfl, L_draftNode hx hD6 (k := z.1) (by omega), fb_n, if_neg (show ¬ z.1 < z.1 by omega), if_pos (show (-1 : Int32) = -1 from rfl)]
      refine fE_be (q_draw hX hQ6 (by omega) (n := 10) (by omega) (by omega)) (fun r7 m7 ⟨⟨w, hw, ew⟩, hQ7, ha7⟩ => ?_)
      subst ew
      have hD7 := ds_ag hD6 hx ha7
      refine fE_be (L_open hx hD7 (v := 1 + u) (w := w) (by omega) (by omega) (by omega)) (fun r8 m8 ⟨y1, E8, y2, y3, y4, y5, y6⟩ => ?_)
      have hQ8 := LQ_l hX hQ7 y3
      have hs8 : sf ≠ 0 → SF E8 l := fun q => y4 (hs q)
      have why := opr (y := nn w) (N' := m7.1 (x + 16)) (L' := m7.1 (x + 17)) (fun k k1 k2 => hD7.2.1.2.2 k k1 k2)
      rw [← y1] at why
      rcases y6 with ⟨c1, c2, c3⟩ | ⟨c1, c2⟩
      · rw [if_pos c1] at y2
        have hl : eK E < eK E8 := by omega
        rw [if_pos (show r8 = nn 0 from c1), L_cK hx y2, fb_n, c2, if_pos (show nn (eK E + 1) = nn (eK E) + 1 from (nn_inc _).symm), L_c16 hx y2, fb_n, if_pos rfl, L_ci2 hx y2 hl, fb_n, c3 0 (by omega), if_pos (show bg9 (nn (1 + u)) (nn w) 0 = nn (1 + u) from rfl), L_ci4 hx y2 hl, fb_n, c3 2 (by omega), if_pos (show bg9 (nn (1 + u)) (nn w) 2 = nn 0 from rfl)]
        exact fE_ret ⟨rfl, LQ_m hQ8 (by omega), E8, l, 0, _, sv, y2, hs8, by omega⟩
      · rw [if_neg c1] at y2
        have fin : fE (f_L_opens_261 H o (nn (eK E)) (nn z.1) m8) (fun r m1 => r = 1 ∧ LSt H o x sc sf (N + 6) T m1) := by
          unfold f_L_opens_261
          rw [e0, L_cK hx y2, fb_n, sm_K c2, if_pos rfl, L_c16 hx y2, fb_n, if_pos rfl]
          exact fE_ret ⟨rfl, LQ_m hQ8 (by omega), E8, l, _, _, sv, y2, hs8, by omega⟩
        rw [if_neg (show ¬ r8 = nn 0 from c1)]
        rcases why with q | ⟨q, q2⟩ | q
        · exact absurd q c1
        · rw [q, if_pos rfl, if_pos (show nn (eK E) = (8 : Int32) from by rw [show eK E = 8 by omega]; rfl)]
          exact fin
        · rw [q, if_neg (show ¬ (6 : Int32) = 1 by decide), if_pos rfl]
          exact fin
/-- time passes -/
theorem q_passes (hX : LX H o x sc) (hN : N < 50000) (h : LSt H o x sc sf N T m) : fE (f_L_passes H o m) (fun r m1 => r = 1 ∧ LSt H o x sc sf (N + 6) (T + 12) m1) := by
  have hx := hX.1
  have e0 := hX.2.2.1
  obtain ⟨hQ, E, l, n, d, sv, hD, hs, hE⟩ := h
  unfold f_L_passes
  refine fE_be (q_draw hX hQ (by omega) (n := 12) (by omega) (by omega)) (fun r1 m1 ⟨⟨v, hv, ev⟩, hQ1, ha1⟩ => ?_)
  subst ev
  have hD1 := ds_ag hD hx ha1
  rw [e0, show (1 : Int32) + nn v = nn (1 + v) from nn_add 1 v, L_c5 hx hD1, fb_n, L_c9 hx hD1, fb_n, L_c8 hx hD1, fb_n]
  refine fE_be (L_run hx hD1 (k := 1 + v) (by omega) (by omega)) (fun r5 m5 ⟨y1, hD5, y3⟩ => ?_)
  have hQ5 := LQ_l hX hQ1 y3
  have t9 : (tkM E l (1 + v)).1 0 0 9 = E 0 0 9 + nn (1 + v) := by
    have : ∀ (k : Nat) (E : VV) (l : List (Nat → Int32)), (tkM E l k).1 0 0 9 = E 0 0 9 + nn k := by
      intro k
      induction k with
      | zero => exact fun E l => (Int32.add_zero _).symm
      | succ k ih =>
        intro E l
        rw [tkM_S, ih, (tk_all (E := E) (l := l)).2.2.2, Int32.add_assoc, show (1 : Int32) + nn k = nn (1 + k) from nn_add 1 k, Nat.add_comm]
    exact this _ _ _
  have fin : LSt H o x sc sf (N + 6) (T + 12) m5 := ⟨LQ_m hQ5 (by omega), _, _, n, d, sv, ds_JB hD5 (by omega), fun q => (SF_tkM hD1.2.2.2.2.2.1 (hs q)).1, Nat.le_trans hE (tkM_lk (n := 1 + v)).1⟩
  rw [L_c5 hx hD5, fb_n, if_pos t9, L_c8 hx hD5, fb_n, if_pos (show (tkM E l (1 + v)).1 8 0 1 = E 8 0 1 + r5 by rw [y1, Int32.add_comm, Int32.sub_add_cancel])]
  by_cases z : m5.1 o 3 = 0
  · rw [if_pos z]
    exact fE_ret ⟨rfl, fin⟩
  · rw [if_neg z, L_c9 hx hD5, fb_n, if_pos (SF_tkM hD1.2.2.2.2.2.1 (hs (by rw [← hQ5.2.1]; exact z))).2]
    exact fE_ret ⟨rfl, fin⟩
end
