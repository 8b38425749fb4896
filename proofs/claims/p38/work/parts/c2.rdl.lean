/-! calls, side by side: labels and links -/
def lbE (E : VV) (t y : Nat) (i c : Nat) : Int32 := if y = 0 then E 5 0 t else if y = 1 then nn i else if y = 2 then nn c else E 7 0 t
section
variable {H : fm_H} {m m1 m2 m00 : fm_M} {Lo : Nat → Nat → Int32} {T T' x b s t n tn : Nat} {E : VV} {l : List (Nat → Int32)} {d tx : Nat → Nat} {sv : Nat → Option (VV × List (Nat → Int32))} {c p : Int32}
/-- whose a label is -/
theorem own_E (hX : iX E) {t i c k : Nat} (ht : t < 120) (hi : i < eK E) (hc : c < 2) (k1 : 1 ≤ k) (k2 : k < eW E i c) (h : E (13 + 4 * c) i k = nn t) : E 5 0 t ≠ -1 ∧ E 6 0 t = nn i ∧ E (11 + 4 * c) i k = E 5 0 t ∧ (fi (fun k => decide (E 17 i k = nn t)) 1 (eB E i - 1) ≠ -1 ↔ c = 1) := by
  obtain ⟨a1, a2, a3⟩ := hX.1.1 i c k t hi hc k1 k2 ht h
  refine ⟨a3, a2, a1.symm, ?_⟩
  have eW1 : eW E i 1 = eB E i := rfl
  constructor
  · intro q
    by_cases hc1 : c = 1
    · exact hc1
    · have := fi_r (p := fun k => decide (E 17 i k = nn t)) (k := eB E i - 1) (j := 1)
      rcases this with z | ⟨z1, z2⟩
      · exact absurd z q
      · obtain ⟨k', e⟩ : ∃ k' : Nat, fi (fun k => decide (E 17 i k = nn t)) 1 (eB E i - 1) = k' := ⟨(fi (fun k => decide (E 17 i k = nn t)) 1 (eB E i - 1)).toNat, by omega⟩
        obtain ⟨b1, b2, b3, -⟩ := fi_is e
        have := hX.1.2.2 i c k 1 k' t hi hc (by omega) k1 k2 b1 (by omega) ht h (of_decide_eq_true b3)
        exact this.1
  · intro q
    subst q
    intro z
    have := fi_m1.mp z k k1 (by omega)
    exact of_decide_eq_false this h
theorem c_label (hX : kX H x) (hK : cN m x s t E l) (hI : iG E l) {f g y : Nat} (hf : f < eN E) (hg : g < eZ E f) (hy : y ≤ 3) : (E 5 0 (f * 12 + g) = -1 → f_X11_label H x (nn f) (nn g) (nn y) m = some (.inl (-1), m)) ∧ ∀ i c k, E 5 0 (f * 12 + g) ≠ -1 → i < eK E → c < 2 → 1 ≤ k → k < eW E i c → E (13 + 4 * c) i k = nn (f * 12 + g) → f_X11_label H x (nn f) (nn g) (nn y) m = some (.inl (lbE E (f * 12 + g) y i c), m) := by
  obtain ⟨hS, -⟩ := cN_S hX hK
  obtain ⟨a1, a2, a3, a4, a5, a6⟩ := aS_x hK.2.2.2.1
  have h10 := hI.1.1.2.2.2.2.1.1
  have hK8 := hI.1.1.2.2.2.2.1.2.2.1
  have hz := eZ_12 hI.1.1 f (by omega)
  have hck := c_ckN hX hK (nn f)
  have hs := hK.2.1
  have hE : er (cv m s) = E := hK.2.2.2.1.2.1
  have e4 : E 4 0 f = nn (eZ E f) := (hI.1.1.2.2.2.2.2.1 f (by omega)).1
  have hsp : f_X2_spaceOf H (s + 20) (nn f) m = some (nn (eZ E f), m) := by
    have := c_spaceOfN (H := H) (m := m) hS rfl a2 (f := f) (by omega)
    rw [show f_X2_spaceOf H (s + 20) (nn f) m = _ from this]
    rw [← hE]
    rfl
  have ho : f_X2_holderOf H (s + 20) (nn (f * 12 + g)) m = some (E 5 0 (f * 12 + g), m) := by
    have := c_holderOf (H := H) (m := m) hS rfl (j := ((f * 12 + g : Nat) : Int)) (by omega) (by omega)
    rw [show f_X2_holderOf H (s + 20) (nn (f * 12 + g)) m = _ from this, if_pos (by omega)]
    exact congrArg (fun z => some (z, m)) (a3 5 0 _ (by omega))
  have hb := fm_is_b hS.1
  have pre : f_X11_label H x (nn f) (nn g) (nn y) m = if nn y = 0 then some (.inl (E 5 0 (f * 12 + g)), m) else if E 5 0 (f * 12 + g) = (-1 : Int32) then some (.inl (E 5 0 (f * 12 + g)), m) else if (nn y).toInt = 1 then fm_bn (f_X2_circuitOf H (s + 20) (nn (f * 12 + g)) m) fun x6 m6 => some (.inl x6, m6) else if (nn y).toInt = 2 then fm_bn (f_X7_isOfNewWay H s (nn (f * 12 + g)) m) fun x7 m7 => if x7 = 0 then some (.inl (0 : Int32), m7) else some (.inl (1 : Int32), m7) else fm_bn (f_X2_hasMadeEntry H (s + 20) (nn (f * 12 + g)) (E 5 0 (f * 12 + g)) m) fun x8 m8 => if x8 = 0 then some (.inl (0 : Int32), m8) else some (.inl (1 : Int32), m8) := by
    unfold f_X11_label f_X11_checkWhat
    rw [hck, if_pos (rgC_n hf (by omega)), fb_x, hs, if_pos hb, kS_1 hS, hsp, fb_n, nn_dec (by omega), c_out, fb_n, decide_eq_true (show (0 : Int32) ≤ nn g ∧ nn g ≤ nn (eZ E f - 1) from w_le (by omega) (by omega)), if_pos (by decide), c_out, fb_n, decide_eq_true (show (0 : Int32) ≤ nn y ∧ nn y ≤ 3 from w_le (g := 3) hy (by omega)), if_pos (by decide), fb_x, hs, if_pos hb, kS_1 hS, nl_12, nn_mul, nn_add, ho, fb_n]
    simp only [hs, if_pos hb, kS_1 hS]
  by_cases h5 : E 5 0 (f * 12 + g) = -1
  · refine ⟨fun _ => ?_, fun i c k h => absurd h5 h⟩
    rw [pre, h5, if_pos (rfl : (-1 : Int32) = -1)]
    split <;> rfl
  · refine ⟨fun h => absurd h h5, fun i c k _ hi hc k1 k2 h => ?_⟩
    obtain ⟨o1, o2, o3, o4⟩ := own_E hI.1.2.1 (by omega) hi hc k1 k2 h
    have h : y = 0 ∨ y = 1 ∨ y = 2 ∨ y = 3 := by omega
    rw [pre]
    rcases h with h | h | h | h
    · subst h
      rw [if_pos (show nn 0 = 0 from rfl)]
      rfl
    · subst h
      rw [if_neg (by decide), if_neg h5, if_pos (by decide), show f_X2_circuitOf H (s + 20) (nn (f * 12 + g)) m = _ from c_circuitOf hS rfl (j := ((f * 12 + g : Nat) : Int)) (by omega) (by omega), fb_n, if_pos ⟨by omega, by omega, by
        show cv m s 5 0 (f * 12 + g) ≠ -1
        rw [a3 5 0 _ (by omega)]; exact h5⟩]
      refine congrArg (fun z => some (Sum.inl z, m)) ?_
      exact (a3 6 0 _ (by omega)).trans o2
    · subst h
      have hc6 : cv m s 6 0 (f * 12 + g) = ii i := (a3 6 0 _ (by omega)).trans o2
      rw [if_neg (by decide), if_neg h5, if_neg (by decide), if_pos (by decide), show f_X7_isOfNewWay H s (nn (f * 12 + g)) m = _ from c_isOfNewWay hS a1 rfl a2 (t := f * 12 + g) (by omega) (by rw [a3 5 0 _ (by omega)]; exact h5) (by rw [a6]; exact hi) hc6, fb_n]
      have e : fi (fun k => decide (cv m s 17 i k = ii (f * 12 + g : Nat))) 1 (eB (cv m s) i - 1) = fi (fun k => decide (E 17 i k = nn (f * 12 + g))) 1 (eB E i - 1) := by
        rw [← hE]
        rfl
      rw [e]
      by_cases hc1 : c = 1
      · rw [decide_eq_true (o4.mpr hc1), if_neg (by decide)]
        subst hc1
        rfl
      · rw [decide_eq_false (fun z => hc1 (o4.mp z)), if_pos (by decide)]
        have : c = 0 := by omega
        subst this
        rfl
    · subst h
      rw [if_neg (by decide), if_neg h5, if_neg (by decide), if_neg (by decide), show f_X2_hasMadeEntry H (s + 20) (nn (f * 12 + g)) (E 5 0 (f * 12 + g)) m = _ from c_hasMadeEntry hS rfl (j := ((f * 12 + g : Nat) : Int)) (by omega) (by omega) _, fb_n]
      have e7 : cv m s 7 0 (f * 12 + g) = E 7 0 (f * 12 + g) := a3 7 0 _ (by omega)
      have e5 : cv m s 5 0 (f * 12 + g) = E 5 0 (f * 12 + g) := a3 5 0 _ (by omega)
      have tn : ((f * 12 + g : Nat) : Int).toNat = f * 12 + g := rfl
      rw [tn, e7, e5]
      rcases hI.1.2.1.2.1 (f * 12 + g) (by omega) h5 with z | z
      · rw [decide_eq_false (fun q => by rw [z] at q; exact absurd q.2.2.2 (by decide)), if_pos (by decide)]
        exact congrArg (fun z => some (Sum.inl z, m)) z.symm
      · rw [decide_eq_true ⟨by omega, by omega, rfl, z⟩, if_neg (by decide)]
        exact congrArg (fun z => some (Sum.inl z, m)) z.symm
theorem mdE_t {t : Nat} (ht : t < 120) : mdE E (nn t) = E 7 0 t := by
  unfold mdE
  rw [nn_t (by omega), if_pos (by omega)]
  rfl
end
