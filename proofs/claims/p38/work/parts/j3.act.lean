/-! THE LAW: it acts -/
theorem ph_E {E : VV} {i dl : Nat} (h : iQ E i dl) : E 9 i 2 = 0 ∨ E 9 i 2 = 1 ∨ E 9 i 2 = 2 ∨ E 9 i 2 = 3 := by
  rcases h.2.2.2.2 with q | q | q | q
  · exact Or.inl q.1
  · exact Or.inr (Or.inl q.1)
  · exact Or.inr (Or.inr (Or.inl q.1))
  · exact Or.inr (Or.inr (Or.inr q.1))
theorem sm_bw {E E' : VV} (h : smE E E') (hG : vG E) : sn (fun v => bw E' (eZ E') v) 0 (eN E') = sn (fun v => bw E (eZ E) v) 0 (eN E) := by
  rw [sm_N h]
  refine sn_c (fun v _ hv => ?_)
  unfold bw
  refine sn_c (fun i _ hi => ?_)
  have hz := (hG.2.2.2.2.2.1 i (by omega)).2
  by_cases e : i = v
  · rw [if_pos e, if_pos e]
  · rw [if_neg e, if_neg e, sm_Z h (by omega)]
    unfold hl
    exact nc_c (fun k _ hk => by rw [sm_5 h (by omega)])
section
variable {H : fm_H} {m m1 m2 : fm_M} {o x sc n N T : Nat} {sf : Int32} {E E' : VV} {l : List (Nat → Int32)} {d : Nat → Nat} {sv : Nat → Option (VV × List (Nat → Int32))}
theorem L_l4 (hX : kX H x) (h : DS x T m E l n d sv) {j : Nat} (hj : j < eL E) : f_L_link H x (nn j) 4 m = some (E 3 j 4, m) := L_link hX h hj (y := 4) (by omega)
theorem L_l6 (hX : kX H x) (h : DS x T m E l n d sv) {j : Nat} (hj : j < eL E) : f_L_link H x (nn j) 6 m = some (nn (l.countP (fun r => decide (r 3 = nn j))), m) := (L_link hX h hj (y := 6) (by omega)).trans (congrArg (fun z => some (nn z, m)) lc_P)
theorem q_acts140 (hX : LX H o x sc) (hN : N < 60000) (hQ : LQ H o sc sf N m) (hD : DS x T m E l n d sv) (hs : sf ≠ 0 → SF E l) (hE : 1 ≤ eN E) {i w : Nat} {v4 : Int32} (hi : i < eK E) (hw : w ≤ eL E) (e4 : v4 = if w = 0 then -1 else nn (w - 1)) {g : Nat} (hg : g = 3 ∨ (g = 5 ∧ sf = 0)) : fE (f_L_acts_140 H o (nn (eK E)) (nn i) v4 (E 9 i 2) (nn (sn (fun v => bw E (eZ E) v) 0 (eN E))) (E 8 0 6) (nn g) o m) (fun r m1 => r = 1 ∧ LSt H o x sc sf (N + 4) T m1) := by
  have hx := hX.1
  have e0 := hX.2.2.1
  have hJ := hD.2.2.2.2.2.1
  have hI := hJ.1
  have hK8 := hI.1.1.2.2.2.2.1.2.2.1
  have hL16 := hI.1.1.2.2.2.2.1.2.1
  have hph := ph_E (hI.1.2.2.2.1 i hi)
  unfold f_L_acts_140
  refine fE_be (q_draw hX hQ (by omega) (n := g) (by omega) (by omega)) (fun r1 m1 ⟨⟨v, hv, ev⟩, hQ1, ha1⟩ => ?_)
  subst ev
  have hD1 := ds_ag hD hx ha1
  rw [e0, sw_at (k := v) (by rw [nn_t (by omega)]; omega)]
  rcases (show v = 0 ∨ v = 1 ∨ v = 2 ∨ v = 3 ∨ v = 4 by omega) with q | q | q | q | q
  · subst q
    have hwv : v4 = -1 ∨ (0 ≤ v4.toInt ∧ v4.toInt < eL E) := by
      by_cases z : w = 0
      · rw [if_pos z] at e4
        exact Or.inl e4
      · rw [if_neg z] at e4
        rw [e4, nn_t (by omega)]
        exact Or.inr ⟨by omega, by omega⟩
    show fE (fm_bn (f_L_canMove H x (nn i) v4 m1) _) _
    refine fE_be (L_canMove hx hD1 hi hwv) (fun r2 m2 ⟨y1, hD2, y3⟩ => ?_)
    refine fE_be (L_moveBest hx hD2 hi hwv) (fun r3 m3 ⟨z1, E3, hD3, z3, z4, z5, z6⟩ => ?_)
    rw [if_pos (z1.trans y1.symm)]
    have hQ3 := LQ_l hX (LQ_l hX hQ1 y3) z3
    have hS3 : LSt H o x sc sf (N + 4) T m3 := ⟨LQ_m hQ3 (by omega), E3, l, n, d, sv, hD3, fun q => z4 (hs q), by omega⟩
    have fin : fE (f_L_acts_214 H o (nn i) (E 9 i 2) (nn (sn (fun v => bw E (eZ E) v) 0 (eN E))) r3 m3) (fun r m1 => r = 1 ∧ LSt H o x sc sf (N + 4) T m1) := by
      have hr := mvR_r hI hi (w := v4)
      rw [← z1] at hr
      have h1 : ¬ r3 = 1 := by rcases hr with ⟨_, e⟩ | ⟨_, e | e | e | e⟩ <;> rw [e] <;> decide
      have h5 : ¬ r3 = 5 := by rcases hr with ⟨_, e⟩ | ⟨_, e | e | e | e⟩ <;> rw [e] <;> decide
      have h6 : r3 ≤ 6 := by rcases hr with ⟨_, e⟩ | ⟨_, e | e | e | e⟩ <;> rw [e] <;> decide
      unfold f_L_acts_214
      rw [if_neg h1, if_neg h5, if_pos h6, e0]
      rcases z6 with ⟨c1, c2, c3⟩ | ⟨c1, c2⟩
      · rw [if_pos c1, L_ci4 hx hD3 (by omega), fb_n, if_pos c2]
        exact fE_ret ⟨rfl, hS3⟩
      · rw [if_neg c1, L_ci4 hx hD3 (by rw [sm_K c2]; exact hi), fb_n, if_pos (sm_9 c2 hi (by omega)), L_c12 hx hD3, fb_n, if_pos (congrArg nn (sm_bw c2 hI.1.1))]
        exact fE_ret ⟨rfl, hS3⟩
    by_cases c : E 9 i 2 = 0
    · rw [if_pos (by rw [c]; decide)]
      exact fin
    · have hr := mvR_r hI hi (w := v4)
      rw [← z1] at hr
      rcases hr with ⟨_, e⟩ | ⟨q, _⟩
      · rw [if_pos (show r3 = 2 from e)]
        split
        · exact fin
        · exact fin
      · exact absurd q c
  · subst q
    show fE (fm_bn (f_L_draw H o 9 m1) _) _
    refine fE_be (q_draw hX hQ1 (by omega) (n := 9) (by omega) (by omega)) (fun r2 m2 ⟨⟨y, hy, ey⟩, hQ2, ha2⟩ => ?_)
    subst ey
    have hD2 := ds_ag hD1 hx ha2
    rw [show (1 : Int32) + nn y = nn (1 + y) from nn_add 1 y]
    refine fE_be (L_offer hx hD2 hi (y := 1 + y) (by omega) (by omega)) (fun r3 m3 ⟨y1, hD3, y3⟩ => ?_)
    have hb := bk_iG hJ.1 hi (y := 1 + y) (by omega) hJ.2.1
    have nK : eK (bkE E i (nn (1 + y))) = eK E := kS6_K kS6_bk
    obtain ⟨b9, b1, b2⟩ := (hb.1.2.2.2.1 i (by rw [nK]; exact hi)).2.1
    rw [if_neg (show ¬ (9 : Int32) < r3 by
      rw [y1, b2, show (9 : Int32) = nn 9 from rfl, nn_lt (by omega) (by omega)]
      omega)]
    exact fE_ret ⟨rfl, LQ_m (LQ_l hX hQ2 y3) (by omega), _, l, n, d, sv, hD3, fun q => (bk_JI hJ hb).2 (hs q), Nat.le_trans hE bk_lk.1⟩
  · subst q
    show fE (fm_bn (f_L_draw H o 3 m1) _) _
    refine fE_be (q_draw hX hQ1 (by omega) (n := 3) (by omega) (by omega)) (fun r2 m2 ⟨⟨y, hy, ey⟩, hQ2, ha2⟩ => ?_)
    subst ey
    have hD2 := ds_ag hD1 hx ha2
    by_cases hy0 : (nn y : Int32) ≤ 0
    · rw [if_pos hy0]
      refine fE_be (L_abort hx hD2 hi) (fun r3 m3 ⟨y1, hD3, y3⟩ => ?_)
      have hQ3 := LQ_l hX hQ2 y3
      by_cases c : E 9 i 2 = 1
      · rw [if_pos c] at y1 hD3
        obtain ⟨j1, j2, j3, j4⟩ := ab_JI hJ hi c
        rw [if_pos c]
        unfold f_L_acts_356
        rw [if_pos y1, e0, L_c15 hx hD3, fb_n, if_pos y1]
        unfold f_L_acts_380
        rw [if_pos (show abE E i 8 0 6 = E 8 0 6 + 1 from uV_s), if_pos y1, e0, L_ci4 hx hD3 (by omega), fb_n, if_pos j2]
        exact fE_ret ⟨rfl, LQ_m hQ3 (by omega), _, l, n, d, sv, hD3, fun q => j4 (hs q), Nat.le_trans hE ab_lk.1⟩
      · rw [if_neg c] at y1 hD3
        have hr0 : ¬ r3 = 0 := by rw [y1]; decide
        rw [if_neg c]
        unfold f_L_acts_356
        rw [if_pos y1, e0, L_c15 hx hD3, fb_n, if_neg hr0]
        unfold f_L_acts_380
        rw [if_pos (show E 8 0 6 = E 8 0 6 + 0 from (Int32.add_zero _).symm), if_neg hr0]
        exact fE_ret ⟨rfl, LQ_m hQ3 (by omega), _, l, n, d, sv, hD3, hs, hE⟩
    · rw [if_neg hy0]
      exact fE_ret ⟨rfl, LQ_m hQ2 (by omega), _, l, n, d, sv, hD2, hs, hE⟩
  · subst q
    have sf0 : sf = 0 := by
      rcases hg with e | ⟨_, e⟩
      · omega
      · exact e
    obtain ⟨b9, b1, b2⟩ := (hI.1.2.2.2.1 i hi).2.1
    obtain ⟨C, hC⟩ : ∃ C, C = lc (fun r => decide (r 0 = nn i)) l := ⟨_, rfl⟩
    have hC60 : C ≤ 60 := by
      rw [hC, lc_P]
      exact Nat.le_trans List.countP_le_length hJ.2.1
    show fE (fm_bn (f_L_circuit H x (nn i) 13 m1) _) _
    rw [L_ci13 hx hD1 hi, fb_n, L_ci6 hx hD1 hi, fb_n]
    refine fE_be (L_close hx hD1 hi) (fun r3 m3 ⟨y1, hD3, y3⟩ => ?_)
    have hQ3 := LQ_l hX hQ1 y3
    have nK : eK (csE E i) = eK E - 1 := cs_K hK8
    have fin : fE (f_L_acts_462 H o (nn (eK E)) r3 (csA E l i) r3 m3) (fun r m1 => r = 1 ∧ LSt H o x sc sf (N + 4) T m1) := by
      unfold f_L_acts_462
      rw [if_pos y1, e0]
      by_cases z : csA E l i = 0
      · rw [if_pos z, if_pos z] at hD3
        rw [L_cK hx hD3, fb_n, if_pos (y1.trans z), nK, if_pos (show nn (eK E - 1) = nn (eK E) - 1 from (nn_dec (by omega)).symm)]
        exact fE_ret ⟨rfl, LQ_m hQ3 (by omega), _, _, n, d, sv, hD3, fun q => absurd sf0 q, Nat.le_trans hE cs_lk.1⟩
      · rw [if_neg z, if_neg z] at hD3
        rw [L_cK hx hD3, fb_n, if_neg (fun q => z (y1.symm.trans q)), if_pos (show nn (eK E) = nn (eK E) - 0 from (Int32.sub_zero _).symm)]
        exact fE_ret ⟨rfl, LQ_m hQ3 (by omega), _, _, n, d, sv, hD3, fun q => absurd sf0 q, hE⟩
    have key : csA E l i = if E 9 i 2 ≤ 0 then (if nn (lc (fun r => decide (r 0 = nn i)) l) + E 9 i 3 ≤ 0 then 0 else 8) else 2 := by
      unfold csA
      rw [b2, ← hC, nn_add]
      by_cases c : E 9 i 2 = 0
      · rw [if_neg (fun q => q c), if_pos (show E 9 i 2 ≤ 0 by rw [c]; decide)]
        by_cases c2 : C + b9 = 0
        · rw [if_pos (show nn (C + b9) ≤ 0 by rw [c2]; decide), if_neg (by
            rintro (q | q)
            · rw [show b9 = 0 by omega] at q
              exact absurd q (by decide)
            · omega)]
        · rw [if_neg (show ¬ nn (C + b9) ≤ 0 by
            rw [nl_0, nn_le (by omega) (by omega)]
            omega)]
          by_cases c3 : b9 = 0
          · rw [if_pos (Or.inr (by omega))]
          · rw [if_pos (Or.inl (by rw [nl_0]; exact (nn_lt (by omega) (by omega)).mpr (by omega)))]
      · rw [if_pos c, if_neg (show ¬ E 9 i 2 ≤ 0 by
          rcases hph with e | e | e | e
          · exact absurd e c
          · rw [e]; decide
          · rw [e]; decide
          · rw [e]; decide)]
    rw [key] at fin
    by_cases c : E 9 i 2 ≤ 0
    · rw [if_pos c] at fin ⊢
      by_cases c2 : nn (lc (fun r => decide (r 0 = nn i)) l) + E 9 i 3 ≤ 0
      · rw [if_pos c2] at fin ⊢
        exact fin
      · rw [if_neg c2] at fin ⊢
        exact fin
    · rw [if_neg c] at fin ⊢
      exact fin
  · subst q
    have sf0 : sf = 0 := by
      rcases hg with e | ⟨_, e⟩
      · omega
      · exact e
    show fE (if 0 ≤ v4 then _ else _) _
    by_cases z : w = 0
    · rw [if_pos z] at e4
      rw [e4, if_neg (show ¬ (0 : Int32) ≤ -1 by decide)]
      exact fE_ret ⟨rfl, LQ_m hQ1 (by omega), _, l, n, d, sv, hD1, hs, hE⟩
    · rw [if_neg z] at e4
      have hj : w - 1 < eL E := by omega
      rw [e4, if_pos (show (0 : Int32) ≤ nn (w - 1) from by rw [nl_0]; exact (nn_le (by omega) (by omega)).mpr (by omega)), L_c9 hx hD1, fb_n, L_l6 hx hD1 hj, fb_n]
      refine fE_be (q_draw hX hQ1 (by omega) (n := 3) (by omega) (by omega)) (fun r2 m2 ⟨⟨y, hy, ey⟩, hQ2, ha2⟩ => ?_)
      subst ey
      have hD2 := ds_ag hD1 hx ha2
      have act : ∀ u : Bool, fE (f_L_acts_538 H o (nn (w - 1)) (E 8 0 2) (nn (l.countP (fun r => decide (r 3 = nn (w - 1))))) (bi u) m2) (fun r m1 => r = 1 ∧ LSt H o x sc sf (N + 4) T m1) := fun u => by
        unfold f_L_acts_538
        rw [e0]
        refine fE_be (L_setUp hx hD2 hj u) (fun r3 m3 ⟨y1, hD3, y3⟩ => ?_)
        obtain ⟨j1, j2, j3, j4, j5⟩ := su_JI (u := u) hJ hj
        have hQ3 := LQ_l hX hQ2 y3
        rw [if_neg y1, L_l4 hx hD3 (by omega), fb_n, j2]
        cases u with
        | false =>
          rw [if_pos (show bi false = 0 from rfl)]
          unfold f_L_acts_574
          rw [if_pos (show bi false = 0 from rfl), e0, L_c9 hx hD3, fb_n, if_pos (show bi false = 0 from rfl), j3, if_neg (show ¬ (false = true) by decide), if_pos rfl]
          exact fE_ret ⟨rfl, LQ_m hQ3 (by omega), _, _, n, d, sv, hD3, fun q => absurd sf0 q, Nat.le_trans hE su_lk.1⟩
        | true =>
          rw [if_neg (show ¬ bi true = 0 by decide)]
          unfold f_L_acts_574
          rw [if_pos (show bi true = 1 from rfl), e0, L_c9 hx hD3, fb_n, if_neg (show ¬ bi true = 0 by decide), j3, if_pos rfl, if_pos rfl]
          exact fE_ret ⟨rfl, LQ_m hQ3 (by omega), _, _, n, d, sv, hD3, fun q => absurd sf0 q, Nat.le_trans hE su_lk.1⟩
      split
      · exact act false
      · exact act true
theorem q_acts (hX : LX H o x sc) (hN : N < 50000) (h : LSt H o x sc sf N T m) : fE (f_L_acts H o m) (fun r m1 => r = 1 ∧ LSt H o x sc sf (N + 8) T m1) := by
  have hx := hX.1
  have e0 := hX.2.2.1
  obtain ⟨hQ, E, l, n, d, sv, hD, hs, hE⟩ := h
  have hI := hD.2.2.2.2.2.1.1
  have hK8 := hI.1.1.2.2.2.2.1.2.2.1
  have hL16 := hI.1.1.2.2.2.2.1.2.1
  unfold f_L_acts
  rw [e0, L_cK hx hD, fb_n, nn_inc]
  refine fE_be (q_draw hX hQ (by omega) (n := eK E + 1) (by omega) (by omega)) (fun r1 m1 ⟨⟨i, hi, ei⟩, hQ1, ha1⟩ => ?_)
  subst ei
  have hD1 := ds_ag hD hx ha1
  rw [L_cL hx hD1, fb_n, nn_inc]
  refine fE_be (q_draw hX hQ1 (by omega) (n := eL E + 1) (by omega) (by omega)) (fun r2 m2 ⟨⟨w, hw, ew⟩, hQ2, ha2⟩ => ?_)
  subst ew
  have hD2 := ds_ag hD1 hx ha2
  by_cases c : i = eK E
  · rw [if_pos (congrArg nn c)]
    obtain ⟨u1, u2⟩ := LQ_e hX hQ2
    obtain ⟨t1, t2⟩ := LQ_n hX hQ2 (by omega)
    have e4 : f_L_abort H x (nn i) m2 = some (-101, fl_e H m2) := fL_e (L_abortX hx hD2 (i := i) (by omega) (by omega)) t1 t2 hB_ab
    rw [e4, fb_n, if_pos rfl]
    exact fE_ret ⟨rfl, LQ_m u1 (by omega), E, l, n, d, sv, ds_ag hD2 hx u2, hs, hE⟩
  · have hi' : i < eK E := by omega
    rw [if_neg (show ¬ (nn i : Int32) = nn (eK E) from fun e => c ((nn_eq (by omega) (by omega)).mp e)), L_ci4 hx hD2 hi', fb_n, L_c12 hx hD2, fb_n, L_c15 hx hD2, fb_n]
    have loop : ∀ (r q k : Nat) (v8 : Int32), k + r = eL E → r < q → fE (f_L_acts_100 H o (nn (eK E)) (nn i) (nn (eL E)) (nn w - 1) (E 9 i 2) (nn (sn (fun v => bw E (eZ E) v) 0 (eN E))) (E 8 0 6) q v8 (nn k) m2) (fun r m1 => r = 1 ∧ LSt H o x sc sf (N + 8) T m1) := by
      intro r
      induction r with
      | zero =>
        intro q k v8 h1 h2
        obtain ⟨q, rfl⟩ : ∃ q', q = q' + 1 := ⟨q - 1, by omega⟩
        unfold f_L_acts_100
        rw [if_pos ((nn_le (by omega) (by omega)).mpr (by omega)), hQ2.2.1]
        have e4 : nn w - 1 = if w = 0 then -1 else nn (w - 1) := by
          by_cases z : w = 0
          · rw [if_pos z, z]
            rfl
          · rw [if_neg z]
            exact nn_dec (by omega)
        by_cases z : sf = 0
        · rw [if_pos z]
          exact fE_w (q_acts140 hX (by omega) hQ2 hD2 hs hE hi' (by omega) e4 (g := 5) (Or.inr ⟨rfl, z⟩)) (fun r9 m9 ⟨j1, j2, j3⟩ => ⟨j1, LQ_m j2 (by omega), j3⟩)
        · rw [if_neg z]
          exact fE_w (q_acts140 hX (by omega) hQ2 hD2 hs hE hi' (by omega) e4 (g := 3) (Or.inl rfl)) (fun r9 m9 ⟨j1, j2, j3⟩ => ⟨j1, LQ_m j2 (by omega), j3⟩)
      | succ r ih =>
        intro q k v8 h1 h2
        obtain ⟨q, rfl⟩ : ∃ q', q = q' + 1 := ⟨q - 1, by omega⟩
        unfold f_L_acts_100
        rw [if_neg (by rw [nn_le (by omega) (by omega)]; omega), e0, show (5 : Int32) = nn 5 from rfl, L_link hx hD2 (j := k) (by omega) (y := 5) (by omega), fb_n, nn_inc]
        exact ih q (k + 1) _ (by omega) (by omega)
    exact loop (eL E) fm_N 0 0 (by omega) (by unfold fm_N; omega)
end
