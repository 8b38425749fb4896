/-! THE LAW: it holds -/
section
variable {H : fm_H} {m m1 m2 : fm_M} {o x sc n N T : Nat} {sf : Int32} {E E' : VV} {l : List (Nat → Int32)} {d : Nat → Nat} {sv : Nat → Option (VV × List (Nat → Int32))}
theorem L_runX : f_X11_run H x (201 : Int32) m = some (.inr pm_xA, m) := by
  unfold f_X11_run f_X11_checkTicks
  rw [c_out, fb_n, decide_eq_false (show ¬ ((1 : Int32) ≤ 201 ∧ (201 : Int32) ≤ 200) by decide), if_neg (by decide)]
  rfl
/-- between the rounds, whatever the labels of safety -/
def LS1 (H : fm_H) (o x sc N T : Nat) (m : fm_M) : Prop := ∃ sf, LSt H o x sc sf N T m
theorem LS1_m {N' : Nat} (h : LS1 H o x sc N T m) (hN : N ≤ N') : LS1 H o x sc N' T m := h.elim fun sf h => ⟨sf, LQ_m h.1 hN, h.2⟩
theorem q_lab1 (hX : LX H o x sc) (h : LS1 H o x sc N T m) : f_L_labelsAreSo H o m = some (1, m) := by
  obtain ⟨sf, hQ, E, l, n, d, sv, hD, hs, hE⟩ := h
  exact q_labels hX hD
theorem q_way1 (hX : LX H o x sc) (hT : T ≤ 1000) (h : LS1 H o x sc N T m) : f_L_waysAreSo H o m = some (1, m) := by
  obtain ⟨sf, hQ, E, l, n, d, sv, hD, hs, hE⟩ := h
  exact q_ways hX hD hT
/-- all that the law has counted in the end -/
def lQ (H : fm_H) (r : Int32) (m1 : fm_M) : Prop := r = 1 ∧ ∃ c, c ≤ 3000 ∧ m1.1 (fm_g H) 0 = nn c
theorem q_h81 (hX : LX H o x sc) (hN : N < 40000) (h : LS1 H o x sc N T m) {k16 : Int32 → fm_M → Option (Int32 × fm_M)} {v : Int32} {Q : Int32 → fm_M → Prop} (g : ∀ m1, LS1 H o x sc (N + 6) T m1 → fE (k16 (v + 1) m1) Q) : fE (f_L_holds_81 H k16 o v m) Q := by
  unfold f_L_holds_81
  rw [if_neg (show ¬ (13 : Int32) = 0 by decide)]
  split
  · obtain ⟨sf, h⟩ := h
    refine fE_be (q_phases hX (by omega) h) (fun r1 m1 ⟨a1, a2⟩ => ?_)
    rw [a1, if_neg (show ¬ (1 : Int32) = 0 by decide)]
    exact g m1 ⟨sf, a2⟩
  · exact g m (LS1_m h (by omega))
theorem q_h47 (hX : LX H o x sc) (hN : N < 30000) (hT : T + 12 ≤ 1000) (h : LS1 H o x sc N T m) {k16 : Int32 → fm_M → Option (Int32 × fm_M)} {v : Int32} {Q : Int32 → fm_M → Prop} (g : ∀ m1, LS1 H o x sc (N + 12) (T + 12) m1 → fE (k16 (v + 1) m1) Q) : fE (f_L_holds_47 H k16 o v 1 m) Q := by
  unfold f_L_holds_47
  obtain ⟨sf, h⟩ := h
  rw [if_neg (show ¬ (1 : Int32) = 0 by decide)]
  refine fE_be (q_passes hX (by omega) h) (fun r1 m1 ⟨a1, a2⟩ => ?_)
  have a3 : LS1 H o x sc (N + 6) (T + 12) m1 := ⟨sf, a2⟩
  rw [a1, if_neg (show ¬ (1 : Int32) = 0 by decide), if_neg (show ¬ (7 : Int32) = 0 by decide)]
  have e81 := q_h81 hX (by omega) a3 (k16 := k16) (v := v) (Q := Q) g
  split
  · rw [q_lab1 hX a3, fb_n, if_neg (show ¬ (1 : Int32) = 0 by decide), q_way1 hX hT a3, fb_n, if_neg (show ¬ (1 : Int32) = 0 by decide)]
    exact e81
  · exact e81
theorem q_h16 (hX : LX H o x sc) : ∀ (r q k N T : Nat) (m : fm_M), k + r = 55 → r < q → N + 25 * r + 10 ≤ 3000 → T + 12 * r ≤ 1000 → LS1 H o x sc N T m → fE (f_L_holds_16 H o q (nn k) m) (lQ H) := by
  have hx := hX.1
  have e0 := hX.2.2.1
  intro r
  induction r with
  | zero =>
    intro q k N T m h1 h2 h3 h4 h
    obtain ⟨q, rfl⟩ : ∃ q', q = q' + 1 := ⟨q - 1, by omega⟩
    unfold f_L_holds_16
    rw [if_pos (show (55 : Int32) ≤ nn k from (nn_le (a := 55) (by omega) (by omega)).mpr (by omega)), q_lab1 hX h, fb_n, if_neg (show ¬ (1 : Int32) = 0 by decide), q_way1 hX (by omega) h, fb_n, if_neg (show ¬ (1 : Int32) = 0 by decide)]
    obtain ⟨sf, h⟩ := h
    refine fE_be (q_phases hX (by omega) h) (fun r1 m1 ⟨a1, a2⟩ => ?_)
    rw [a1, if_neg (show ¬ (1 : Int32) = 0 by decide), e0]
    obtain ⟨hQ, E, l, n, d, sv, hD, hs, hE⟩ := a2
    refine fE_be (L_weakLink hx hD) (fun r2 m2 ⟨b1, b2, b3⟩ => ?_)
    have hQ2 := LQ_l hX hQ b3
    rw [L_cL hx b2, fb_n, if_neg (show ¬ nn (eL E) ≤ r2 from fun z => by
      rw [Int32.le_iff_toInt_le] at z
      rw [Int32.lt_iff_toInt_lt] at b1
      omega)]
    obtain ⟨u1, u2⟩ := LQ_e hX hQ2
    obtain ⟨t1, t2⟩ := LQ_n hX hQ2 (by omega)
    have e4 : f_L_run H x (201 : Int32) m2 = some (-102, fl_e H m2) := fL_e L_runX t1 t2 hA_rn
    rw [e4, fb_n, if_pos rfl]
    obtain ⟨-, -, -, c, c1, c2⟩ := u1
    exact fE_ret ⟨rfl, c, by omega, c2⟩
  | succ r ih =>
    intro q k N T m h1 h2 h3 h4 h
    obtain ⟨q, rfl⟩ : ∃ q', q = q' + 1 := ⟨q - 1, by omega⟩
    have go : ∀ N1 m1, N1 ≤ N + 9 → LS1 H o x sc N1 T m1 → fE (f_L_holds_47 H (f_L_holds_16 H o q) o (nn k) 1 m1) (lQ H) := fun N1 m1 g1 g2 => q_h47 hX (by omega) (by omega) g2 (fun m2 g3 => by
      rw [nn_inc]
      exact ih q (k + 1) (N1 + 12) (T + 12) m2 (by omega) (by omega) (by omega) (by omega) g3)
    unfold f_L_holds_16
    rw [if_neg (show ¬ (55 : Int32) ≤ nn k by rw [show (55 : Int32) = nn 55 from rfl, nn_le (by omega) (by omega)]; omega)]
    obtain ⟨sf, h⟩ := h
    split
    · refine fE_be (q_opens hX (by omega) h) (fun r1 m1 ⟨a1, a2⟩ => ?_)
      rw [a1]
      exact go _ m1 (by omega) ⟨sf, a2⟩
    · obtain ⟨hQ, E, l, n, d, sv, hD, hs, hE⟩ := h
      refine fE_be (q_draw hX hQ (by omega) (n := 4) (by omega) (by omega)) (fun r1 m1 ⟨_, hQ1, ha1⟩ => ?_)
      have h1' : LSt H o x sc sf (N + 1) T m1 := ⟨hQ1, E, l, n, d, sv, ds_ag hD hx ha1, hs, hE⟩
      split
      · refine fE_be (q_opens hX (by omega) h1') (fun r2 m2 ⟨a1, a2⟩ => ?_)
        rw [a1]
        exact go _ m2 (by omega) ⟨sf, a2⟩
      · refine fE_be (q_acts hX (by omega) h1') (fun r2 m2 ⟨a1, a2⟩ => ?_)
        rw [a1]
        exact go _ m2 (by omega) ⟨sf, a2⟩
theorem q_holds (hX : LX H o x sc) (ho : ∃ k, k ≤ 0 ∧ m.1 o 2 = nn k) (hg : m.1 (fm_g H) 0 = nn 0) (hB : BS x m E n d sv 1 0) (hE : eN E = 0) : fE (f_L_holds H o sc m) (lQ H) := by
  have hx := hX.1
  have hX0 := hX
  obtain ⟨-, x2, -, x4, -, x6, x7, x8, x9⟩ := hX0
  have e1 : ∀ a k, (fm_sr m o 1 sc).1 a k = m.1 a k := fun a k => rfl
  have hQ : LQ H o sc (m.1 o 3) 0 (fm_sr m o 1 sc) := ⟨fm_up_s, rfl, ho, 0, Nat.le_refl _, hg⟩
  unfold f_L_holds
  rw [fb_d]
  refine fE_be (q_builds hX (by omega) hQ (BS_ag hx hB (fun a k z1 z2 => ⟨rfl, fm_up_o (by omega)⟩)) hE) (fun r1 m1 ⟨a1, E', sf', a2, a3, a4, a5⟩ => ?_)
  rw [a1, if_neg (show ¬ (1 : Int32) = 0 by decide)]
  exact q_h16 hX 55 fm_N 0 _ 0 m1 (by omega) (by unfold fm_N; omega) (by omega) (by omega) ⟨sf', a2, E', [], n, d, sv, a3, fun _ => a4, by omega⟩
end
