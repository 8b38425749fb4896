/-! what the reference counts, told of the table -/
/-- labels lie in their spaces -/
def iZ (E : VV) : Prop := ∀ f l, f < 10 → l < 12 → E 5 0 (f * 12 + l) ≠ -1 → l < eZ E f
theorem slR_f {x y s : Int32} {t : Nat} (h : slR x y s) (ht : t < 120) (hs : s = nn t) : x = nn (t / 12) ∧ y = nn (t % 12) := by
  obtain ⟨f, l, hf, hl, e, e1, e2⟩ := slR_v h (by rw [hs]; exact nn_m1 (by omega))
  have : t = f * 12 + l := nn_e (by omega) (by omega) (hs.symm.trans e)
  rw [show t / 12 = f from by omega, show t % 12 = l from by omega]
  exact ⟨e1, e2⟩
theorem cn_no {ρ : Nat → Int32} {v : Nat} {v2 : Int32} {p k : Nat} (hv : v < 10) (h7 : ρ (p + 7 + k) = -1) (h2 : v2 = 0 ∨ v2 = 1 ∨ v2 = 2 ∨ v2 = 3) : cn ρ (nn v) v2 p k = false := by
  have e : ¬ ((-1 : Int32) = nn v) := fun z => nn_m1 (a := v) (by omega) z.symm
  unfold cn
  rw [h7]
  rcases h2 with h2 | h2 | h2 | h2
  · rw [if_pos h2, decide_eq_false e, Bool.and_false]
  · rw [if_neg (by rw [h2]; decide), if_pos h2, decide_eq_false (p := (-1 : Int32) ≠ -1) (fun z => z rfl), Bool.and_false, Bool.and_false]
  · rw [if_neg (by rw [h2]; decide), if_neg (by rw [h2]; decide), if_pos h2, decide_eq_false (p := (-1 : Int32) ≠ -1) (fun z => z rfl), Bool.false_and, Bool.and_false]
  · rw [if_neg (by rw [h2]; decide), if_neg (by rw [h2]; decide), if_neg (by rw [h2]; decide), decide_eq_false e, Bool.and_false]
theorem tT {t : Nat} (h : t < 120) : t / 12 < 10 ∧ t % 12 < 12 ∧ t / 12 * 12 + t % 12 = t := by omega
theorem cn_1 {ρ : Nat → Int32} {E : VV} {v p k t : Nat} (hv : v < 10) (h1 : ρ (p + 1 + k) = E 5 0 t) (ht : t < 120) (h7 : ρ (p + 7 + k) = nn (t / 12)) : cn ρ (nn v) 1 p k = (decide (E 5 0 t = nn v) && decide (t / 12 ≠ v)) := by
  unfold cn
  rw [if_neg (by decide), if_pos rfl, h1, h7, decide_eq_true (show nn (t / 12) ≠ -1 from nn_m1 (by omega)), Bool.and_true, decide_eq_decide.mpr (show nn (t / 12) ≠ nn v ↔ t / 12 ≠ v by rw [ne_eq, nn_eq (by omega) (by omega)])]
theorem cn_0 {ρ : Nat → Int32} {E : VV} {v p k t : Nat} (hv : v < 10) (h1 : ρ (p + 1 + k) = E 5 0 t) (ht : t < 120) (h7 : ρ (p + 7 + k) = nn (t / 12)) : cn ρ (nn v) 0 p k = (decide (E 5 0 t = nn v) && decide (t / 12 = v)) := by
  unfold cn
  rw [if_pos rfl, h1, h7, decide_eq_decide.mpr (show nn (t / 12) = nn v ↔ t / 12 = v by rw [nn_eq (by omega) (by omega)])]
theorem cn_2 {ρ : Nat → Int32} {E : VV} {v p k t : Nat} (h1 : ρ (p + 1 + k) = E 5 0 t) (ht : t < 120) (h7 : ρ (p + 7 + k) = nn (t / 12)) (h19 : ρ (p + 19 + k) = E 7 0 t) : cn ρ (nn v) 2 p k = (decide (E 5 0 t = nn v) && decide (E 7 0 t = 1)) := by
  unfold cn
  rw [if_neg (by decide), if_neg (by decide), if_pos rfl, h1, h7, h19, decide_eq_true (show nn (t / 12) ≠ -1 from nn_m1 (by omega)), Bool.true_and]
theorem cn_3 {ρ : Nat → Int32} {E : VV} {v p k t : Nat} (hv : v < 10) (h1 : ρ (p + 1 + k) = E 5 0 t) (ht : t < 120) (h7 : ρ (p + 7 + k) = nn (t / 12)) : cn ρ (nn v) 3 p k = (!decide (E 5 0 t = nn v) && decide (t / 12 = v)) := by
  unfold cn
  rw [if_neg (by decide), if_neg (by decide), if_neg (by decide), h1, h7, decide_eq_decide.mpr (show nn (t / 12) = nn v ↔ t / 12 = v by rw [nn_eq (by omega) (by omega)])]
/-- counts over the table -/
theorem nc_120 {p : Nat → Bool} : nc p 0 120 = sn (fun s => nc (fun l => p (s * 12 + l)) 0 12) 0 10 := by
  rw [nc_sn]
  refine Eq.trans (sn_12 (n := 10) (a := 0)) (sn_c (fun s _ _ => ?_))
  rw [nc_sn]
theorem nc_own {E : VV} (hZ : iZ E) (hz12 : ∀ f, f < 10 → eZ E f ≤ 12) {v : Nat} (hv : v < 10) {q : Nat → Bool} (hq : ∀ l, l < 12 → E 5 0 (v * 12 + l) = -1 → q (v * 12 + l) = false) : nc (fun t => q t && decide (t / 12 = v)) 0 120 = nc (fun l => q (v * 12 + l)) 0 (eZ E v) := by
  rw [nc_120, sn_1 (j := v) (by omega) (by omega) (fun f _ hf hn => nc_z (fun l _ hl => by
    rw [decide_eq_false (show ¬ (f * 12 + l) / 12 = v by omega), Bool.and_false])), nc_cut (hz12 v hv) (fun l l1 l2 => ?_)]
  · exact nc_c (fun l _ hl => by
      have := hz12 v hv
      rw [decide_eq_true (show (v * 12 + l) / 12 = v by omega), Bool.and_true])
  · by_cases e : E 5 0 (v * 12 + l) = -1
    · rw [hq l l2 e, Bool.false_and]
    · exact absurd (hZ v l hv l2 e) (by omega)
theorem nc_bw {E : VV} (hZ : iZ E) (hz12 : ∀ f, f < 10 → eZ E f ≤ 12) {v : Nat} (hv : v < 10) : nc (fun t => decide (E 5 0 t = nn v) && decide (t / 12 ≠ v)) 0 120 = bw E (eZ E) v := by
  rw [nc_120]
  unfold bw hl
  refine sn_c (fun f _ hf => ?_)
  by_cases e : f = v
  · rw [if_pos e]
    refine nc_z (fun l _ hl => ?_)
    rw [decide_eq_false (show ¬ ((f * 12 + l) / 12 ≠ v) by omega), Bool.and_false]
  · rw [if_neg e, nc_cut (hz12 f (by omega)) (fun l l1 l2 => ?_)]
    · exact nc_c (fun l _ hl => by
        have := hz12 f (by omega)
        rw [decide_eq_true (show (f * 12 + l) / 12 ≠ v by omega), Bool.and_true]
        rfl)
    · by_cases e2 : E 5 0 (f * 12 + l) = nn v
      · exact absurd (hZ f l (by omega) l2 (by rw [e2]; exact nn_m1 (by omega))) (by omega)
      · rw [decide_eq_false e2, Bool.false_and]
theorem eZ_12 {E : VV} (hG : vG E) : ∀ f, f < 10 → eZ E f ≤ 12 := fun f hf => (hG.2.2.2.2.2.1 f hf).2
section
variable {H : fm_H} {b : Nat} {m m00 : fm_M}
theorem rK_s {ρ : Nat → Int32} {E : VV} {K : Nat} {ln : Nat → Nat → Nat} (hK : rK ρ E K ln) : ∀ i c k, i < K → c < 2 → 1 ≤ k → k < ln i c → E (13 + 4 * c) i k = -1 ∨ ∃ t, t < 120 ∧ E (13 + 4 * c) i k = nn t := by
  intro i c k hi hc h1 h2
  rcases (hK.2.2 i hi c hc).2.2.2 k h2 with ⟨a, -, -⟩ | ⟨f, l, hf, hl, e, -, -⟩
  · exact Or.inl a
  · exact Or.inr ⟨f * 12 + l, by omega, e⟩
end
