/-! calls, side by side: labels and links -/
def lbE (E : VV) (t y : Nat) (i c : Nat) : Int32 := if y = 0 then E 5 0 t else if y = 1 then nn i else if y = 2 then nn c else E 7 0 t
section
variable {H : fm_H} {m m1 m2 m00 : fm_M} {Lo : Nat → Nat → Int32} {T T' x b s t n tn : Nat} {E : VV} {l : List (Nat → Int32)} {d tx : Nat → Nat} {sv : Nat → Option (VV × List (Nat → Int32))} {c p : Int32}
/-- whose a label is -/
theorem own_E (hX : iX E) {t i c k : Nat} (ht : t < 120) (hi : i < eK E) (hc : c < 2) (k1 : 1 ≤ k) (k2 : k < eW E i c) (h : E (13 + 4 * c) i k = nn t) : E 5 0 t ≠ -1 ∧ E 6 0 t = nn i ∧ E (11 + 4 * c) i k = E 5 0 t ∧ (fi (fun k => decide (E 17 i k = nn t)) 1 (eB E i - 1) ≠ -1 ↔ c = 1) := by
  obtain ⟨a1, a2, a3⟩ := hX.1.1 i c k t hi hc k1 k2 ht h
  refine ⟨a3, a2, a1.symm, ?_⟩
  have eW1 : eW E i 1 = eB E i := rfl
  constructor
  · intro q
    by_cases hc1 : c = 1
    · exact hc1
    · have := fi_r (p := fun k => decide (E 17 i k = nn t)) (k := eB E i - 1) (j := 1)
      rcases this with z | ⟨z1, z2⟩
      · exact absurd z q
      · obtain ⟨k', e⟩ : ∃ k' : Nat, fi (fun k => decide (E 17 i k = nn t)) 1 (eB E i - 1) = k' := ⟨(fi (fun k => decide (E 17 i k = nn t)) 1 (eB E i - 1)).toNat, by omega⟩
        obtain ⟨b1, b2, b3, -⟩ := fi_is e
        have := hX.1.2.2 i c k 1 k' t hi hc (by omega) k1 k2 b1 (by omega) ht h (of_decide_eq_true b3)
        exact this.1
  · intro q
    subst q
    intro z
    have := fi_m1.mp z k k1 (by omega)
    exact of_decide_eq_false this h
theorem c_label (hX : kX H x) (hK : cN m x s t E l) (hI : iG E l) {f g y : Nat} (hf : f < eN E) (hg : g < eZ E f) (hy : y ≤ 3) : (E 5 0 (f * 12 + g) = -1 → f_X11_label H x (nn f) (nn g) (nn y) m = some (.inl (-1), m)) ∧ ∀ i c k, E 5 0 (f * 12 + g) ≠ -1 → i < eK E → c < 2 → 1 ≤ k → k < eW E i c → E (13 + 4 * c) i k = nn (f * 12 + g) → f_X11_label H x (nn f) (nn g) (nn y) m = some (.inl (lbE E (f * 12 + g) y i c), m) := by
  obtain ⟨hS, -⟩ := cN_S hX hK
  obtain ⟨a1, a2, a3, a4, a5, a6⟩ := aS_x hK.2.2.2.1
  have h10 := hI.1.1.2.2.2.2.1.1
  have hK8 := hI.1.1.2.2.2.2.1.2.2.1
  have hz := eZ_12 hI.1.1 f (by omega)
  have hck := c_ckN hX hK (nn f)
  have hs := hK.2.1
  have hE : er (cv m s) = E := hK.2.2.2.1.2.1
  have e4 : E 4 0 f = nn (eZ E f) := (hI.1.1.2.2.2.2.2.1 f (by omega)).1
  have hsp : f_X2_spaceOf H (s + 20) (nn f) m = some (nn (eZ E f), m) := by
    have := c_spaceOfN (H := H) (m := m) hS rfl a2 (f := f) (by omega)
    rw [show f_X2_spaceOf H (s + 20) (nn f) m = _ from this]
    rw [← hE]
    rfl
  have ho : f_X2_holderOf H (s + 20) (nn (f * 12 + g)) m = some (E 5 0 (f * 12 + g), m) := by
    have := c_holderOf (H := H) (m := m) hS rfl (j := ((f * 12 + g : Nat) : Int)) (by omega) (by omega)
    rw [show f_X2_holderOf H (s + 20) (nn (f * 12 + g)) m = _ from this, if_pos (by omega)]
    exact congrArg (fun z => some (z, m)) (a3 5 0 _ (by omega))
  have hb := fm_is_b hS.1
  have pre : f_X11_label H x (nn f) (nn g) (nn y) m = if nn y = 0 then some (.inl (E 5 0 (f * 12 + g)), m) else if E 5 0 (f * 12 + g) = (-1 : Int32) then some (.inl (E 5 0 (f * 12 + g)), m) else if (nn y).toInt = 1 then fm_bn (f_X2_circuitOf H (s + 20) (nn (f * 12 + g)) m) fun x6 m6 => some (.inl x6, m6) else if (nn y).toInt = 2 then fm_bn (f_X7_isOfNewWay H s (nn (f * 12 + g)) m) fun x7 m7 => if x7 = 0 then some (.inl (0 : Int32), m7) else some (.inl (1 : Int32), m7) else fm_bn (f_X2_hasMadeEntry H (s + 20) (nn (f * 12 + g)) (E 5 0 (f * 12 + g)) m) fun x8 m8 => if x8 = 0 then some (.inl (0 : Int32), m8) else some (.inl (1 : Int32), m8) := by
    unfold f_X11_label f_X11_checkWhat
    rw [hck, if_pos (rgC_n hf (by omega)), fb_x, hs, if_pos hb, kS_1 hS, hsp, fb_n, nn_dec (by omega), c_out, fb_n, decide_eq_true (show (0 : Int32) ≤ nn g ∧ nn g ≤ nn (eZ E f - 1) from w_le (by omega) (by omega)), if_pos (by decide), c_out, fb_n, decide_eq_true (show (0 : Int32) ≤ nn y ∧ nn y ≤ 3 from w_le (g := 3) hy (by omega)), if_pos (by decide), fb_x, hs, if_pos hb, kS_1 hS, nl_12, nn_mul, nn_add, ho, fb_n]
    simp only [hs, if_pos hb, kS_1 hS]
  by_cases h5 : E 5 0 (f * 12 + g) = -1
  · refine ⟨fun _ => ?_, fun i c k h => absurd h5 h⟩
    rw [pre, h5, if_pos (rfl : (-1 : Int32) = -1)]
    split <;> rfl
  · refine ⟨fun h => absurd h h5, fun i c k _ hi hc k1 k2 h => ?_⟩
    obtain ⟨o1, o2, o3, o4⟩ := own_E hI.1.2.1 (by omega) hi hc k1 k2 h
    have h : y = 0 ∨ y = 1 ∨ y = 2 ∨ y = 3 := by omega
    rw [pre]
    rcases h with h | h | h | h
    · subst h
      rw [if_pos (show nn 0 = 0 from rfl)]
      rfl
    · subst h
      rw [if_neg (by decide), if_neg h5, if_pos (by decide), show f_X2_circuitOf H (s + 20) (nn (f * 12 + g)) m = _ from c_circuitOf hS rfl (j := ((f * 12 + g : Nat) : Int)) (by omega) (by omega), fb_n, if_pos ⟨by omega, by omega, by
        show cv m s 5 0 (f * 12 + g) ≠ -1
        rw [a3 5 0 _ (by omega)]; exact h5⟩]
      refine congrArg (fun z => some (Sum.inl z, m)) ?_
      exact (a3 6 0 _ (by omega)).trans o2
    · subst h
      have hc6 : cv m s 6 0 (f * 12 + g) = ii i := (a3 6 0 _ (by omega)).trans o2
      rw [if_neg (by decide), if_neg h5, if_neg (by decide), if_pos (by decide), show f_X7_isOfNewWay H s (nn (f * 12 + g)) m = _ from c_isOfNewWay hS a1 rfl a2 (t := f * 12 + g) (by omega) (by rw [a3 5 0 _ (by omega)]; exact h5) (by rw [a6]; exact hi) hc6, fb_n]
      have e : fi (fun k => decide (cv m s 17 i k = ii (f * 12 + g : Nat))) 1 (eB (cv m s) i - 1) = fi (fun k => decide (E 17 i k = nn (f * 12 + g))) 1 (eB E i - 1) := by
        rw [← hE]
        rfl
      rw [e]
      by_cases hc1 : c = 1
      · rw [decide_eq_true (o4.mpr hc1), if_neg (by decide)]
        subst hc1
        rfl
      · rw [decide_eq_false (fun z => hc1 (o4.mp z)), if_pos (by decide)]
        have : c = 0 := by omega
        subst this
        rfl
    · subst h
      rw [if_neg (by decide), if_neg h5, if_neg (by decide), if_neg (by decide), show f_X2_hasMadeEntry H (s + 20) (nn (f * 12 + g)) (E 5 0 (f * 12 + g)) m = _ from c_hasMadeEntry hS rfl (j := ((f * 12 + g : Nat) : Int)) (by omega) (by omega) _, fb_n]
      have e7 : cv m s 7 0 (f * 12 + g) = E 7 0 (f * 12 + g) := a3 7 0 _ (by omega)
      have e5 : cv m s 5 0 (f * 12 + g) = E 5 0 (f * 12 + g) := a3 5 0 _ (by omega)
      have tn : ((f * 12 + g : Nat) : Int).toNat = f * 12 + g := rfl
      rw [tn, e7, e5]
      rcases hI.1.2.1.2.1 (f * 12 + g) (by omega) h5 with z | z
      · rw [decide_eq_false (fun q => by rw [z] at q; exact absurd q.2.2.2 (by decide)), if_pos (by decide)]
        exact congrArg (fun z => some (Sum.inl z, m)) z.symm
      · rw [decide_eq_true ⟨by omega, by omega, rfl, z⟩, if_neg (by decide)]
        exact congrArg (fun z => some (Sum.inl z, m)) z.symm
theorem mdE_t {t : Nat} (ht : t < 120) : mdE E (nn t) = E 7 0 t := by
  unfold mdE
  rw [nn_t (by omega), if_pos (by omega)]
  rfl
theorem r_label (hM : kM H b) {ρ : Nat → Int32} (hr : m.1 (b + 1) = ρ) (hA : rAll ρ E l) (hI : iG E l) {f g y : Nat} (hf : f < eN E) (hg : g < eZ E f) (hy : y ≤ 3) : (E 5 0 (f * 12 + g) = -1 ∧ f_X12_label H b (nn f) (nn g) (nn y) m = some (-1, fm_si m b 7 0)) ∨ (E 5 0 (f * 12 + g) ≠ -1 ∧ ∃ i c k, i < eK E ∧ c < 2 ∧ 1 ≤ k ∧ k < eW E i c ∧ E (13 + 4 * c) i k = nn (f * 12 + g) ∧ f_X12_label H b (nn f) (nn g) (nn y) m = some (lbE E (f * 12 + g) y i c, fdM (fm_si m b 7 0) b i c k)) := by
  have hrr : (fm_si m b 7 0).1 (b + 1) = ρ := (si_oth (by omega)).trans hr
  obtain ⟨h31, h32, h33, h34⟩ := eL_16 hA hI
  have hz := eZ_12 hI.1.1 f (by omega)
  have hK8 := hA.1.2.1.2.1
  have h14 : ρ (14 + f) = nn (eZ E f) := (hA.1.1.2.2.2.2.2.2.1 f (by omega)).trans (hI.1.1.2.2.2.2.2.1 f (by omega)).1
  have pre : ∀ {z : Int32} {m3 : fm_M}, f_X12_findHolder H b (nn f) (nn g) (fm_si m b 7 0) = some (z, m3) → f_X12_label H b (nn f) (nn g) (nn y) m = if z = 0 then some (-1, m3) else fm_bn (f_X12_wayPlace H (m3.1 b 18) (m3.1 b 19) m3) fun x6 m7 => if nn y = 0 then (if px_inb ((x6 + (1 : Int32)) + m7.1 b 20) (fm_sz H (H.2.1 b 0)) = true then some (m7.1 (H.2.1 b 0) ((x6 + (1 : Int32)) + m7.1 b 20).toNatClampNeg, m7) else none) else if nn y = (1 : Int32) then some (m7.1 b 18, m7) else if nn y = (2 : Int32) then some (m7.1 b 19, m7) else if px_inb ((x6 + (19 : Int32)) + m7.1 b 20) (fm_sz H (H.2.1 b 0)) = true then some (m7.1 (H.2.1 b 0) ((x6 + (19 : Int32)) + m7.1 b 20).toNatClampNeg, m7) else none := fun h => by
    unfold f_X12_label
    rw [fb_d, r_isNode hM hrr h33 h34, fb_n, decide_eq_true (rgC_n hf (by omega)), if_neg (by decide), nl_14, nn_add, show px_inb (nn (14 + f)) (fm_sz H (H.2.1 b 0)) = true from by rw [kM_0 hM, kM_z1 hM]; exact (nn_in (by omega)).mpr (by omega), if_pos rfl, nn_tn (by omega), show (fm_si m b 7 0).1 (H.2.1 b 0) (14 + f) = nn (eZ E f) from by rw [kM_0 hM, hrr, h14], nn_dec (by omega), r_isBetween, fb_n, decide_eq_true (show (0 : Int32) ≤ nn g ∧ nn g ≤ nn (eZ E f - 1) from w_le (by omega) (by omega)), if_neg (by decide), r_isBetween, fb_n, decide_eq_true (show (0 : Int32) ≤ nn y ∧ nn y ≤ 3 from w_le (g := 3) hy (by omega)), if_neg (by decide), h, fb_n]
  rcases r_findHolder hM hrr hA.1.2.1 hI.1.2.1.1 (f := f) (l := g) (by omega) (by omega) with ⟨q1, q2⟩ | ⟨q1, i, c, k, i1, c1, k1, k2, k3, q2⟩
  · refine Or.inl ⟨q1, ?_⟩
    rw [pre q2, if_pos rfl]
  · refine Or.inr ⟨q1, i, c, k, i1, c1, k1, k2, k3, ?_⟩
    obtain ⟨o1, o2, o3, o4⟩ := own_E hI.1.2.1 (by omega) i1 c1 k1 k2 k3
    obtain ⟨w0, w1, w2, w3⟩ := hA.1.2.1.2.2 i i1 c c1
    rw [pre q2, if_neg (by decide)]
    obtain ⟨m3, em⟩ : ∃ m3, m3 = fdM (fm_si m b 7 0) b i c k := ⟨_, rfl⟩
    have e18 : m3.1 b 18 = nn i := by rw [em]; unfold fdM; rw [si_o (by omega), si_o (by omega), si_s]
    have e19 : m3.1 b 19 = nn c := by rw [em]; unfold fdM; rw [si_o (by omega), si_s]
    have e20 : m3.1 b 20 = nn k := by rw [em]; unfold fdM; rw [si_s]
    have er3 : m3.1 (b + 1) = ρ := by rw [em]; unfold fdM; rw [si_oth (by omega), si_oth (by omega), si_oth (by omega), hrr]
    rw [← em, e18, e19, r_wayPlace, fb_n, e20, e18, e19, kM_0 hM, kM_z1 hM, er3]
    have h : y = 0 ∨ y = 1 ∨ y = 2 ∨ y = 3 := by omega
    rcases h with h | h | h | h
    · subst h
      rw [if_pos (show nn 0 = 0 from rfl), nl_1, nn_add, nn_add, if_pos ((nn_in (by omega)).mpr (by omega)), nn_tn (by omega), w2 k k2, o3]
      rfl
    · subst h
      rw [if_neg (by decide), if_pos (show nn 1 = 1 from rfl)]
      rfl
    · subst h
      rw [if_neg (by decide), if_neg (by decide), if_pos (show nn 2 = 2 from rfl)]
      rfl
    · subst h
      rw [if_neg (by decide), if_neg (by decide), if_neg (by decide), nl_19, nn_add, nn_add, if_pos ((nn_in (by omega)).mpr (by omega)), nn_tn (by omega), (hA.1.2.2 i i1).2.2 c c1 k k1 k2, k3, mdE_t (by omega)]
      rfl
theorem t_label (hX : kX H x) (hM : kM H b) (hb : x + 661 ≤ b) (hT : TOP Lo T x b m) (v w u : Int32) : CALL Lo x b T (f_X11_label H x v w u m) (f_X12_label H b v w u) (an [pm_xB, pm_xA]) := by
  have hT0 := hT
  obtain ⟨s, t, E, l, n, d, sv, tn, tx, c, p, hK, hR, hI, hN, hW, h2⟩ := hT
  obtain ⟨hS, -⟩ := cN_S hX hK.1
  obtain ⟨a1, a2, a3, a4, a5, a6⟩ := aS_x hK.1.2.2.2.1
  obtain ⟨h31, h32, h33, h34⟩ := eL_16 hR.1 hI
  have rr : (fm_si m b 7 0).1 (b + 1) = m.1 (b + 1) := si_oth (by omega)
  by_cases hv : 0 ≤ v.toInt ∧ v.toInt < eN E
  · obtain ⟨f, hf, rfl⟩ := rgC (by omega) hv
    have hz := eZ_12 hI.1.1 f (by omega)
    have e4 : E 4 0 f = nn (eZ E f) := (hI.1.1.2.2.2.2.2.1 f (by omega)).1
    have h14 : m.1 (b + 1) (14 + f) = nn (eZ E f) := (hR.1.1.1.2.2.2.2.2.2.1 f (by omega)).trans e4
    have hsp : f_X2_spaceOf H (s + 20) (nn f) m = some (nn (eZ E f), m) := by
      rw [show f_X2_spaceOf H (s + 20) (nn f) m = _ from c_spaceOfN (H := H) (m := m) hS rfl a2 (f := f) (by omega), ← hK.1.2.2.2.1.2.1]
      rfl
    have r14 : (fm_si m b 7 0).1 (H.2.1 b 0) (14 + f) = nn (eZ E f) := by rw [kM_0 hM, rr, h14]
    have in14 : px_inb (nn (14 + f)) (fm_sz H (H.2.1 b 0)) = true := by rw [kM_0 hM, kM_z1 hM]; exact (nn_in (by omega)).mpr (by omega)
    by_cases hw : (0 : Int32) ≤ w ∧ w ≤ nn (eZ E f) - 1
    · obtain ⟨g, hg, rfl⟩ : ∃ g, g < eZ E f ∧ w = nn g := by
        obtain ⟨z1, z2⟩ := hw
        rw [show (nn (eZ E f) : Int32) - 1 = ii ((eZ E f : Int) - 1) from ii_dec _] at z2
        rw [Int32.le_iff_toInt_le] at z1 z2
        rw [ii_toInt (by omega) (by omega)] at z2
        change 0 ≤ w.toInt at z1
        obtain ⟨g, g1, g2⟩ := rgC (v := w) (K := eZ E f) (by omega) ⟨z1, by omega⟩
        exact ⟨g, g1, g2⟩
      by_cases hu : (0 : Int32) ≤ u ∧ u ≤ 3
      · obtain ⟨y, -, y1, rfl⟩ := rgN (lo := 0) (hi := 3) (by omega) (by omega) hu
        rcases r_label hM (m := m) rfl hR.1 hI hf hg y1 with ⟨q1, q2⟩ | ⟨q1, i, c', k, i1, c1, k1, k2, k3, q2⟩
        · refine call_rd hb hT0 ((c_label hX hK.1 hI hf hg y1).1 q1) ?_
          rw [q2]
          exact fE_ret ⟨rfl, rI_7 rfl⟩
        · refine call_rd hb hT0 ((c_label hX hK.1 hI hf hg y1).2 i c' k q1 i1 c1 k1 k2 k3) ?_
          rw [q2]
          refine fE_ret ⟨rfl, ?_, ?_⟩
          · unfold fdM
            rw [si_oth (by omega), si_oth (by omega), si_oth (by omega), rr]
          · exact fdM_R
      · refine call_e hb hT0 (Nat.le_refl _) (k := 1) (e := pm_xA) (y := 0) rfl ?_ ?_
        · unfold f_X11_label f_X11_checkWhat
          rw [c_ckN hX hK.1, if_pos hv, fb_x, hK.1.2.1, if_pos (fm_is_b hS.1), kS_1 hS, hsp, fb_n, c_out, fb_n, decide_eq_true hw, if_pos (by decide), c_out, fb_n, decide_eq_false hu, if_neg (by decide), fb_e]
        · unfold f_X12_label
          rw [fb_d, r_isNode hM rr h33 h34, fb_n, decide_eq_true hv, if_neg (by decide), nl_14, nn_add, if_pos in14, nn_tn (by omega), r14, r_isBetween, fb_n, decide_eq_true hw, if_neg (by decide), r_isBetween, fb_n, decide_eq_false hu, if_pos (by decide), r_fail, fb_n]
          rfl
    · refine call_e hb hT0 (Nat.le_refl _) (k := 0) (e := pm_xB) (y := 0) rfl ?_ ?_
      · unfold f_X11_label
        rw [c_ckN hX hK.1, if_pos hv, fb_x, hK.1.2.1, if_pos (fm_is_b hS.1), kS_1 hS, hsp, fb_n, c_out, fb_n, decide_eq_false hw, if_neg (by decide)]
      · unfold f_X12_label
        rw [fb_d, r_isNode hM rr h33 h34, fb_n, decide_eq_true hv, if_neg (by decide), nl_14, nn_add, if_pos in14, nn_tn (by omega), r14, r_isBetween, fb_n, decide_eq_false hw, if_pos (by decide), r_fail, fb_n]
        rfl
  · refine call_e hb hT0 (Nat.le_refl _) (k := 0) (e := pm_xB) (y := 0) rfl ?_ ?_
    · unfold f_X11_label
      rw [c_ckN hX hK.1, if_neg hv, fb_e]
    · unfold f_X12_label
      rw [fb_d, r_isNode hM rr h33 h34, fb_n, decide_eq_false hv, if_pos (by decide), r_fail, fb_n]
      rfl
end
