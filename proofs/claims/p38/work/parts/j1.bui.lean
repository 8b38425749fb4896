/-! THE LAW: it builds -/
theorem hA_xB : h_L_addLink pm_xA = some (-102) := by decide
theorem hI_xB : h_L_addLink pm_xI = some (-103) := by decide
section
variable {H : fm_H} {m m1 m2 : fm_M} {o x sc n N : Nat} {sf : Int32} {E E' : VV} {d : Nat → Nat} {sv : Nat → Option (VV × List (Nat → Int32))} {b p : Int32}
theorem BS_ag (hX : kX H x) (h : BS x m E n d sv b p) (hag : ag x (x + 661) m m1) : BS x m1 E n d sv b p := ⟨ds_ag h.1 hX hag, h.2⟩
/-- what building comes to -/
def bQ (H : fm_H) (o x sc N n : Nat) (d : Nat → Nat) (sv : Nat → Option (VV × List (Nat → Int32))) (r : Int32) (m1 : fm_M) : Prop := r = 1 ∧ ∃ E' sf', LQ H o sc sf' N m1 ∧ DS x 0 m1 E' [] n d sv ∧ SF E' [] ∧ 4 ≤ eN E'
theorem q_b74 (hX : LX H o x sc) {c : Nat} (hc : 4 ≤ c) (hc2 : c ≤ 10) : ∀ (r q k N : Nat) (m : fm_M) (E : VV), k + r = 30 → r < q → N + 5 * r + 10 < 100000 → LQ H o sc sf N m → BS x m E n d sv 1 0 → eN E = c → fE (f_L_builds_74 H o (nn c) q (nn k) m) (bQ H o x sc (N + 5 * r + 10) n d sv) := by
  have hx := hX.1
  have e0 := hX.2.2.1
  intro r
  induction r with
  | zero =>
    intro q k N m E h1 h2 h3 hQ hB hE
    obtain ⟨q, rfl⟩ : ∃ q', q = q' + 1 := ⟨q - 1, by omega⟩
    unfold f_L_builds_74
    rw [if_pos (show (30 : Int32) ≤ nn k from (nn_le (a := 30) (by omega) (by omega)).mpr (by omega)), e0]
    refine fE_be (q_draw hX hQ (by omega) (n := 5) (by omega) (by omega)) (fun r1 m1 ⟨⟨v, hv, ev⟩, hQ1, ha1⟩ => ?_)
    subst ev
    refine fE_be (L_set hx (BS_ag hx hB ha1) (y := 0) (z := v) (by omega) (fun _ => by omega) (fun z => by omega)) (fun r2 m2 ⟨g1, E2, g2, g3, g4⟩ => ?_)
    rw [if_pos rfl] at g1 g2
    rw [if_pos rfl] at g2
    rw [g1, if_pos rfl]
    refine fE_be (q_draw hX (LQ_l hX hQ1 g4) (by omega) (n := 2) (by omega) (by omega)) (fun r3 m3 ⟨⟨w, hw, ew⟩, hQ3, ha3⟩ => ?_)
    subst ew
    refine fE_be (L_set hx (BS_ag hx g2 ha3) (y := 1) (z := w) (by omega) (fun z => by omega) (fun _ => by omega)) (fun r4 m4 ⟨i1, E4, i2, i3, i4⟩ => ?_)
    rw [if_neg (by omega)] at i1 i2
    rw [i1, if_pos rfl]
    exact fE_ret ⟨rfl, E4, sf, LQ_m (LQ_l hX hQ3 i4) (by omega), i2.1, BS_SF i2, by omega⟩
  | succ r ih =>
    intro q k N m E h1 h2 h3 hQ hB hE
    obtain ⟨q, rfl⟩ : ∃ q', q = q' + 1 := ⟨q - 1, by omega⟩
    have h104 : ∀ (a b2 N1 : Nat) (m : fm_M), a < c → b2 < c → N1 ≤ N + 2 → LQ H o sc sf N1 m → BS x m E n d sv 1 0 → fE (f_L_builds_104 H (f_L_builds_74 H o (nn c) q) o (nn c) (nn k) (nn a) (nn b2) m) (bQ H o x sc (N + 5 * (r + 1) + 10) n d sv) := fun a b2 N1 m ha hb2 hN1 hQ hB => by
      unfold f_L_builds_104
      rw [e0]
      rw [show (3 : Int32) = nn 3 from rfl, L_count hx hB.1 (y := 3) (by omega), fb_n]
      have ecnt : cntE E n 3 = nn (eL E) := hB.1.2.2.2.2.2.1.1.1.1.2.1
      refine fE_be (q_draw hX hQ (by omega) (n := 80) (by omega) (by omega)) (fun r2 m2 ⟨⟨v2, hv2, ev2⟩, hQ2, ha2⟩ => ?_)
      subst ev2
      refine fE_be (q_draw hX hQ2 (by omega) (n := 9) (by omega) (by omega)) (fun r3 m3 ⟨⟨v3, hv3, ev3⟩, hQ3, ha3⟩ => ?_)
      subst ev3
      have hB3 := BS_ag hx (BS_ag hx hB ha2) ha3
      rw [show (5 : Int32) + nn v2 = nn (5 + v2) from nn_add 5 v2, show (1 : Int32) + nn v3 = nn (1 + v3) from nn_add 1 v3, ecnt, show (nn k : Int32) + 1 = nn (k + 1) from nn_inc k]
      have go : ∀ N4 m4 E4, N4 ≤ N + 5 → LQ H o sc sf N4 m4 → BS x m4 E4 n d sv 1 0 → eN E4 = c → fE (f_L_builds_74 H o (nn c) q (nn (k + 1)) m4) (bQ H o x sc (N + 5 * (r + 1) + 10) n d sv) := fun N4 m4 E4 g1 g2 g3 g4 => by
        refine fE_w (ih q (k + 1) N4 m4 E4 (by omega) (by omega) (by omega) g2 g3 g4) (fun r9 m9 ⟨j1, E9, s9, j2, j3⟩ => ⟨j1, E9, s9, LQ_m j2 (by omega), j3⟩)
      by_cases hab : a = b2
      · subst hab
        obtain ⟨u1, u2⟩ := LQ_e hX hQ3
        obtain ⟨t1, t2⟩ := LQ_n hX hQ3 (by omega)
        have e4 : f_L_addLink H x (nn a) (nn a) (nn (5 + v2)) (nn (1 + v3)) m3 = some (-102, fl_e H m3) := fL_e (L_addLinkA hx hB3 (by omega)) t1 t2 hA_xB
        rw [e4, fb_n, if_pos rfl, if_pos rfl]
        exact go _ _ E (by omega) u1 (BS_ag hx hB3 u2) hE
      · have hne : ¬ (nn a : Int32) = nn b2 := fun e => hab ((nn_eq (by omega) (by omega)).mp e)
        rcases L_addLinkB hx hB3 (p := a) (q := b2) (c := 5 + v2) (y := 1 + v3) (by omega) (by omega) hab (by omega) (by omega) (by omega) (by omega) with w | w
        · obtain ⟨u1, u2⟩ := LQ_e hX hQ3
          obtain ⟨t1, t2⟩ := LQ_n hX hQ3 (by omega)
          have e4 : f_L_addLink H x (nn a) (nn b2) (nn (5 + v2)) (nn (1 + v3)) m3 = some (-103, fl_e H m3) := fL_e w t1 t2 hI_xB
          rw [e4, fb_n, if_neg hne, if_pos (show (-103 : Int32) = -103 from rfl)]
          split
          · exact go _ _ E (by omega) u1 (BS_ag hx hB3 u2) hE
          · exact go _ _ E (by omega) u1 (BS_ag hx hB3 u2) hE
        · refine fE_be w (fun r4 m4 ⟨y1, E4, y2, y3, y4⟩ => ?_)
          rw [if_neg hne, y1, if_pos rfl]
          exact go _ _ E4 (by omega) (LQ_l hX hQ3 y4) y2 (y3.trans hE)
    unfold f_L_builds_74
    rw [if_neg (show ¬ (30 : Int32) ≤ nn k by rw [show (30 : Int32) = nn 30 from rfl, nn_le (by omega) (by omega)]; omega)]
    refine fE_be (q_draw hX hQ (by omega) (n := c) (by omega) (by omega)) (fun r1 m1 ⟨⟨a, ha, ea⟩, hQ1, ha1⟩ => ?_)
    subst ea
    have hB1 := BS_ag hx hB ha1
    by_cases hk : c ≤ k
    · rw [if_pos ((nn_le (by omega) (by omega)).mpr hk)]
      refine fE_be (q_draw hX hQ1 (by omega) (n := c) (by omega) (by omega)) (fun r2 m2 ⟨⟨b2, hb2, eb2⟩, hQ2, ha2⟩ => ?_)
      subst eb2
      exact h104 a b2 _ m2 ha hb2 (by omega) hQ2 (BS_ag hx hB1 ha2)
    · rw [if_neg (by rw [nn_le (by omega) (by omega)]; exact hk), if_neg (by
        intro e
        have := (nn_eq (a := c) (b := 0) (by omega) (by omega)).mp (e.trans nl_0)
        omega), nn_inc]
      obtain ⟨b2, hb2, eb2⟩ := dvN (a := a + 1) (n := c) (by omega) (by omega) (by omega)
      rw [eb2]
      exact h104 a b2 _ m1 ha hb2 (by omega) hQ1 hB1
theorem q_b28 (hX : LX H o x sc) {c : Nat} (hc : 4 ≤ c) (hc2 : c ≤ 10) : ∀ (r q k N : Nat) (m : fm_M) (E : VV), k + r = c → r < q → N + 2 * r + 200 < 100000 → LQ H o sc sf N m → BS x m E n d sv 1 0 → eN E = k → fE (f_L_builds_28 H o (nn c) q (nn k) m) (bQ H o x sc (N + 2 * r + 160) n d sv) := by
  have hx := hX.1
  have e0 := hX.2.2.1
  intro r
  induction r with
  | zero =>
    intro q k N m E h1 h2 h3 hQ hB hE
    obtain ⟨q, rfl⟩ : ∃ q', q = q' + 1 := ⟨q - 1, by omega⟩
    unfold f_L_builds_28
    rw [if_pos ((nn_le (by omega) (by omega)).mpr (by omega))]
    exact fE_w (q_b74 hX hc hc2 30 fm_N 0 N m E (by omega) (by unfold fm_N; omega) (by omega) hQ hB (by omega)) (fun r9 m9 ⟨j1, E9, s9, j2, j3⟩ => ⟨j1, E9, s9, LQ_m j2 (by omega), j3⟩)
  | succ r ih =>
    intro q k N m E h1 h2 h3 hQ hB hE
    obtain ⟨q, rfl⟩ : ∃ q', q = q' + 1 := ⟨q - 1, by omega⟩
    unfold f_L_builds_28
    rw [if_neg (by rw [nn_le (by omega) (by omega)]; omega), e0, nn_inc]
    have add : ∀ (w z N1 : Nat) (m1 : fm_M), w < z → z ≤ 12 → N1 ≤ N + 2 → LQ H o sc sf N1 m1 → BS x m1 E n d sv 1 0 → fE (fm_bn (f_L_addNode H x ((1 : Int32) + nn w) m1) fun x3 m3 => if x3 = nn k then f_L_builds_28 H o (nn c) q (nn (k + 1)) m3 else some ((0 : Int32), m3)) (bQ H o x sc (N + 2 * (r + 1) + 160) n d sv) := fun w z N1 m1 hw hz hN1 hQ1 hB1 => by
      rw [show (1 : Int32) + nn w = nn (1 + w) from nn_add 1 w]
      refine fE_be (L_addNode hx hB1 (z := 1 + w) (by omega) (by omega) (by omega)) (fun r3 m3 ⟨y1, E3, y2, y3, y4⟩ => ?_)
      rw [y1, hE, if_pos rfl]
      exact fE_w (ih q (k + 1) N1 m3 E3 (by omega) (by omega) (by omega) (LQ_l hX hQ1 y4) y2 (by omega)) (fun r9 m9 ⟨j1, E9, s9, j2, j3⟩ => ⟨j1, E9, s9, LQ_m j2 (by omega), j3⟩)
    refine fE_be (q_draw hX hQ (by omega) (n := 2) (by omega) (by omega)) (fun r1 m1 ⟨⟨v, hv, ev⟩, hQ1, ha1⟩ => ?_)
    subst ev
    split
    · refine fE_be (q_draw hX hQ1 (by omega) (n := 3) (by omega) (by omega)) (fun r2 m2 ⟨⟨w, hw, ew⟩, hQ2, ha2⟩ => ?_)
      subst ew
      exact add w 3 _ m2 hw (by omega) (by omega) hQ2 (BS_ag hx (BS_ag hx hB ha1) ha2)
    · refine fE_be (q_draw hX hQ1 (by omega) (n := 12) (by omega) (by omega)) (fun r2 m2 ⟨⟨w, hw, ew⟩, hQ2, ha2⟩ => ?_)
      subst ew
      exact add w 12 _ m2 hw (by omega) (by omega) hQ2 (BS_ag hx (BS_ag hx hB ha1) ha2)
theorem q_builds (hX : LX H o x sc) (hN : N < 50000) (hQ : LQ H o sc sf N m) (hB : BS x m E n d sv 1 0) (hE : eN E = 0) : fE (f_L_builds H o m) (bQ H o x sc (N + 200) n d sv) := by
  have hx := hX.1
  have hX0 := hX
  obtain ⟨-, -, -, -, -, x6, x7, x8, x9⟩ := hX0
  unfold f_L_builds
  refine fE_be (q_draw hX hQ (by omega) (n := 7) (by omega) (by omega)) (fun r1 m1 ⟨⟨v, hv, ev⟩, hQ1, ha1⟩ => ?_)
  subst ev
  refine fE_be (q_draw hX hQ1 (by omega) (n := 2) (by omega) (by omega)) (fun r2 m2 ⟨⟨w, hw, ew⟩, hQ2, ha2⟩ => ?_)
  subst ew
  rw [show (4 : Int32) + nn v = nn (4 + v) from nn_add 4 v]
  have hB2 := BS_ag hx (BS_ag hx hB ha1) ha2
  have go : ∀ s : Int32, fE (f_L_builds_28 H o (nn (4 + v)) fm_N (0 : Int32) (fm_si m2 o 3 s)) (bQ H o x sc (N + 200) n d sv) := fun s => by
    have hQ3 : LQ H o sc s (N + 2) (fm_si m2 o 3 s) := by
      obtain ⟨h1, h2, ⟨k, k1, k2⟩, c, c1, c2⟩ := hQ2
      exact ⟨h1, si_s, ⟨k, by omega, (si_o (by omega)).trans k2⟩, c, by omega, (si_o (fun z => x8 z.1)).trans c2⟩
    exact fE_w (q_b28 hX (c := 4 + v) (by omega) (by omega) (4 + v) fm_N 0 (N + 2) _ E (by omega) (by unfold fm_N; omega) (by omega) hQ3 (BS_ag hx hB2 (fun a k z1 z2 => ⟨si_o (by omega), rfl⟩)) hE) (fun r9 m9 ⟨j1, E9, s9, j2, j3⟩ => ⟨j1, E9, s9, LQ_m j2 (by omega), j3⟩)
  split
  · rw [if_pos (by decide), fb_d]
    exact go 1
  · rw [if_pos (by decide), fb_d]
    exact go 0
end
