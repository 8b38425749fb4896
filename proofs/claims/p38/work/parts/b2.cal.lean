/-! calls, side by side: checks, and those with a circuit -/
/-- an answer of the class beside one of the reference -/
def an {α : Type} (cs : List String) (r : α ⊕ String) (r' : α) (th : Int32) : Prop := (r = .inl r' ∧ th = 0) ∨ ∃ k e, cs[k]? = some e ∧ r = .inr e ∧ th = nn (k + 1)
/-- both are called -/
def CALL {α β : Type} (Lo : Nat → Nat → Int32) (x b T : Nat) (o : Option (α × fm_M)) (g : fm_M → Option (β × fm_M)) (A : α → β → Int32 → Prop) : Prop := fE o (fun r m1 => fE (g m1) (fun r' m2 => A r r' (m2.1 b 7) ∧ TOP Lo T x b m2))
theorem rgN {v : Int32} {lo hi : Nat} (hl : lo < 1000000) (hh : hi < 1000000) (h : nn lo ≤ v ∧ v ≤ nn hi) : ∃ k, lo ≤ k ∧ k ≤ hi ∧ v = nn k := by
  obtain ⟨h1, h2⟩ := h
  rw [Int32.le_iff_toInt_le] at h1 h2
  rw [nn_t hl] at h1
  rw [nn_t hh] at h2
  refine ⟨v.toInt.toNat, by omega, by omega, ?_⟩
  rw [nn_ii, Int.toNat_of_nonneg (by omega)]
  exact ii_of v
theorem rgC {v : Int32} {K : Nat} (hK : K < 1000000) (h : 0 ≤ v.toInt ∧ v.toInt < K) : ∃ i, i < K ∧ v = nn i := by
  refine ⟨v.toInt.toNat, by omega, ?_⟩
  rw [nn_ii, Int.toNat_of_nonneg (by omega)]
  exact ii_of v
theorem rgC_n {i K : Nat} (h : i < K) (hK : K < 1000000) : 0 ≤ (nn i).toInt ∧ (nn i).toInt < K := by
  rw [nn_t (by omega)]
  omega
theorem c_out {H : fm_H} {m : fm_M} {v lo hi : Int32} : f_X11_isOutside H v lo hi m = some (bi (!decide (lo ≤ v ∧ v ≤ hi)), m) := by
  unfold f_X11_isOutside
  by_cases h1 : v < lo
  · rw [if_pos h1, decide_eq_false (fun z => by
      have := z.1
      rw [Int32.le_iff_toInt_le] at this
      rw [Int32.lt_iff_toInt_lt] at h1
      omega)]
    rfl
  · rw [if_neg h1]
    have h3 : lo ≤ v := by
      rw [Int32.le_iff_toInt_le]
      rw [Int32.lt_iff_toInt_lt] at h1
      omega
    by_cases h2 : v ≤ hi
    · rw [if_pos h2, decide_eq_true ⟨h3, h2⟩]
      rfl
    · rw [if_neg h2, decide_eq_false (fun z => h2 z.2)]
      rfl
theorem aS_x {m : fm_M} {s : Nat} {E : VV} {l : List (Nat → Int32)} (h : aS m s E l) : pS m s ∧ vG (cv m s) ∧ (∀ kd i k, kd ≠ 18 → cv m s kd i k = E kd i k) ∧ eN (cv m s) = eN E ∧ eL (cv m s) = eL E ∧ eK (cv m s) = eK E := by
  have h2 := sp_aS h
  obtain ⟨a1, a2, a3, a4, a5, a6⟩ := h
  subst a2
  exact ⟨a1, h2.2, fun kd i k hk => (er_n hk).symm, rfl, rfl, rfl⟩
theorem kX_b {H : fm_H} {x : Nat} (h : kX H x) : fm_isb H x 11 = true := fm_is_b h.1
section
variable {H : fm_H} {m m1 m2 : fm_M} {Lo : Nat → Nat → Int32} {T T' x b s t n tn : Nat} {E : VV} {l : List (Nat → Int32)} {d tx : Nat → Nat} {sv : Nat → Option (VV × List (Nat → Int32))} {c p : Int32}
theorem cN_S (hX : kX H x) (h : cN m x s t E l) : kS H s ∧ kS H t ∧ (s + 160 ≤ t ∨ t + 160 ≤ s) ∧ x + 21 ≤ s ∧ s + 160 ≤ x + 341 ∧ x + 21 ≤ t ∧ t + 160 ≤ x + 341 := by
  rcases h.1 with ⟨e1, e2⟩ | ⟨e1, e2⟩
  · subst e1 e2
    exact ⟨hX.2.2.2.2.2.2.1, hX.2.2.2.2.2.2.2.1, by omega, by omega, by omega, by omega, by omega⟩
  · subst e1 e2
    exact ⟨hX.2.2.2.2.2.2.2.1, hX.2.2.2.2.2.2.1, by omega, by omega, by omega, by omega, by omega⟩
theorem c_ckC (hX : kX H x) (h : cN m x s t E l) (v : Int32) : f_X11_checkCircuit H x v m = if 0 ≤ v.toInt ∧ v.toInt < eK E then some (.inl (), m) else some (.inr pm_xB, m) := by
  obtain ⟨hS, -⟩ := cN_S hX h
  obtain ⟨a1, a2, a3, a4, a5, a6⟩ := aS_x h.2.2.2.1
  unfold f_X11_checkCircuit
  rw [h.2.1, if_pos (fm_is_b hS.1)]
  have e := c_isCircuit (H := H) (m := m) (j := v.toInt) rfl a2 (Int32.le_toInt v) (by have := Int32.toInt_lt v; omega)
  rw [← ii_of v] at e
  rw [e, fb_n, a6]
  by_cases z : 0 ≤ v.toInt ∧ v.toInt < eK E
  · rw [decide_eq_true z, if_neg (by decide), if_pos z]
  · rw [decide_eq_false z, if_pos (by decide), if_neg z]
theorem c_ckL (hX : kX H x) (h : cN m x s t E l) (v : Int32) : f_X11_checkLink H x v m = if 0 ≤ v.toInt ∧ v.toInt < eL E then some (.inl (), m) else some (.inr pm_xB, m) := by
  obtain ⟨hS, -⟩ := cN_S hX h
  obtain ⟨a1, a2, a3, a4, a5, a6⟩ := aS_x h.2.2.2.1
  unfold f_X11_checkLink
  rw [h.2.1, if_pos (fm_is_b hS.1), kS_0 hS]
  have e := c_isLink (H := H) (m := m) (j := v.toInt) rfl a2 (Int32.le_toInt v) (by have := Int32.toInt_lt v; omega)
  rw [← ii_of v] at e
  rw [e, fb_n, a5]
  by_cases z : 0 ≤ v.toInt ∧ v.toInt < eL E
  · rw [decide_eq_true z, if_neg (by decide), if_pos z]
  · rw [decide_eq_false z, if_pos (by decide), if_neg z]
theorem c_ckN (hX : kX H x) (h : cN m x s t E l) (v : Int32) : f_X11_checkNode H x v m = if 0 ≤ v.toInt ∧ v.toInt < eN E then some (.inl (), m) else some (.inr pm_xB, m) := by
  obtain ⟨hS, -⟩ := cN_S hX h
  obtain ⟨a1, a2, a3, a4, a5, a6⟩ := aS_x h.2.2.2.1
  unfold f_X11_checkNode
  rw [h.2.1, if_pos (fm_is_b hS.1), kS_0 hS]
  have e := c_isNode (H := H) (m := m) (j := v.toInt) rfl a2 (Int32.le_toInt v) (by have := Int32.toInt_lt v; omega)
  rw [← ii_of v] at e
  rw [e, fb_n, a4]
  by_cases z : 0 ≤ v.toInt ∧ v.toInt < eN E
  · rw [decide_eq_true z, if_neg (by decide), if_pos z]
  · rw [decide_eq_false z, if_pos (by decide), if_neg z]
/-- the reference alone went on, and nothing that counts has changed -/
theorem top_r (hb : x + 661 ≤ b) (hT : TOP Lo T x b m) (hTT : T ≤ T') (hr : tR b m m2) (h1 : ∀ k, k < 1112 → m2.1 (b + 1) k = m.1 (b + 1) k) (h6 : m2.1 b 6 = m.1 b 6) (hd : m2.1 (b + 6) = m.1 (b + 6)) : TOP Lo T' x b m2 := by
  obtain ⟨s, t, E, l, n, d, sv, tn, tx, c, p, hK, hR, hI, hN, hW, h2⟩ := hT
  have hs := hK.1.1
  have hst : x + 21 ≤ s ∧ s + 160 ≤ x + 341 := by
    rcases hs with ⟨e1, e2⟩ | ⟨e1, e2⟩ <;> omega
  refine top_mk hb hK hR h2 hTT cF_rf hr hK.1.2.2.2.1 hK.1.2.2.2.2 hK.2.1 (rAll_c hR.1 hI.1.1 h1) ⟨h6.trans hR.2.1.1, fun k hk => ?_⟩ hI ⟨hN.1, iM_m hN.2 hTT⟩ hW
  rw [hd]
  exact hR.2.1.2 k hk
theorem top_7 (hb : x + 661 ≤ b) (hT : TOP Lo T x b m) (hTT : T ≤ T') {v : Int32} : TOP Lo T' x b (fm_si m b 7 v) := top_r hb hT hTT (tR_g gR_7) (fun k _ => by rw [si_oth (by omega)]) (si_o (by omega)) (si_oth (by omega))
theorem cF_r (hb : x + 661 ≤ b) (h : cF x m m1) {a : Nat} (ha : b ≤ a) : m1.1 a = m.1 a := funext fun k => (h.1 a k (by omega) (by omega)).1
theorem dR_c (h : dR b m n d) (h6 : m1.1 b 6 = m.1 b 6) (hd : m1.1 (b + 6) = m.1 (b + 6)) : dR b m1 n d := ⟨h6.trans h.1, fun k hk => by rw [hd]; exact h.2 k hk⟩
theorem rB_4 {ρ : Nat → Int32} (h : rAll ρ E l) : ρ 4 = nn (eK E) ∧ eK E ≤ 8 := ⟨h.1.2.1.1, h.1.2.1.2.1⟩
/-- a call that neither side takes -/
theorem call_e {β : Type} (hb : x + 661 ≤ b) (hT : TOP Lo T x b m) (hTT : T ≤ T') {o : Option ((β ⊕ String) × fm_M)} {g : fm_M → Option (β × fm_M)} {cs : List String} {e : String} {k : Nat} {y : β} (hk : cs[k]? = some e) (ho : o = some (.inr e, m)) (hg : g m = some (y, fm_si (fm_si m b 7 0) b 7 (nn (k + 1)))) : CALL Lo x b T' o g (an cs) := by
  rw [show CALL Lo x b T' o g (an cs) = fE o _ from rfl, ho]
  refine fE_ret ?_
  rw [hg]
  exact fE_ret ⟨Or.inr ⟨k, e, hk, rfl, si_s⟩, top_7 hb (top_7 hb hT hTT) (Nat.le_refl _)⟩
theorem nn_hi {K : Nat} (hK : K ≤ 8) : K < 1000000 := by omega
end
