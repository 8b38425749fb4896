/-! calls, side by side: best ways, and what would be -/
theorem eL_16 {E : VV} {l : List (Nat → Int32)} {ρ : Nat → Int32} (hA : rAll ρ E l) (hI : iG E l) : ρ 3 = nn (eL E) ∧ eL E ≤ 16 ∧ ρ 2 = nn (eN E) ∧ eN E ≤ 10 := by
  have h := hI.1.1
  exact ⟨hA.1.1.2.2.2.1.trans h.2.1, h.2.2.2.2.1.2.1, hA.1.1.2.2.1.trans h.1, h.2.2.2.2.1.1⟩
section
variable {H : fm_H} {m m1 m2 m00 : fm_M} {Lo : Nat → Nat → Int32} {T T' x b s t n tn : Nat} {E : VV} {l : List (Nat → Int32)} {d tx : Nat → Nat} {sv : Nat → Option (VV × List (Nat → Int32))} {c p : Int32}
theorem c_ckLN (hX : kX H x) (h : cN m x s t E l) (v : Int32) : f_X11_checkLinkOrNone H x v m = if v = -1 ∨ (0 ≤ v.toInt ∧ v.toInt < eL E) then some (.inl (), m) else some (.inr pm_xB, m) := by
  unfold f_X11_checkLinkOrNone
  by_cases e : v = -1
  · rw [if_pos e, if_pos (Or.inl e)]
  · rw [if_neg e, c_ckL hX h]
    by_cases z : 0 ≤ v.toInt ∧ v.toInt < eL E
    · rw [if_pos z, fb_x, if_pos (Or.inr z)]
    · rw [if_neg z, fb_e, if_neg (by rintro (q | q); exact e q; exact z q)]
theorem wF_cF (h : wF (x + 4) m m1) : cF x m m1 := ⟨fun a k z _ => ⟨h.1 a k (by omega), by rw [h.2]⟩, by rw [h.2]⟩
/-- what a search finds, as rows -/
def cnN (z : Bst) (k : Nat) : Int32 := nn (z.2.2 k)
def cnL (E : VV) (z : Bst) (k : Nat) : Int32 := ii (lkE E (nn (z.2.2 (k - 1))) (nn (z.2.2 k)))
theorem cn_ok {z : Bst} : bNL E z (cnN z) (cnL E z) := ⟨fun _ _ => rfl, fun _ _ _ => rfl⟩
theorem cpM_w {a p d q c : Nat} (h : c ≠ d) : (cpM m a p d q 1112).1 c = m.1 c := funext fun _ => cpM_o h
theorem hRf_7 {m m' : fm_M} (h : hRf b m m') : m'.1 b 7 = m.1 b 7 := h.1 _ _ (by omega) (by omega) (by omega) (by omega)
end
