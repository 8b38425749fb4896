/-! the reference lays a draft -/
theorem rN_e {ρ : Nat → Int32} {E E' : VV} (h : rN ρ E) (e : ∀ kd i k, kd = 0 ∨ kd = 1 ∨ kd = 3 ∨ kd = 4 ∨ kd = 8 → E' kd i k = E kd i k) : rN ρ E' := by
  obtain ⟨g0, g1, g2, g3, g5, g7, g8, g9⟩ := h
  have eL' : eL E' = eL E := by unfold eL; rw [e 1 _ _ (by omega)]
  refine ⟨g0.trans (e 0 _ _ (by omega)).symm, g1.trans (e 0 _ _ (by omega)).symm, g2.trans (e 1 _ _ (by omega)).symm, g3.trans (e 1 _ _ (by omega)).symm, g5.trans (e 0 _ _ (by omega)).symm, fun k hk => (g7 k hk).trans (e 8 _ _ (by omega)).symm, fun i hi => (g8 i hi).trans (e 4 _ _ (by omega)).symm, fun j hj k hk => ?_⟩
  rw [eL'] at hj
  rw [e 3 _ _ (by omega)]
  exact g9 j hj k hk
/-- while the draft is laid -/
def LD (ρ0 : Nat → Int32) (E0 : VV) (ρ : Nat → Int32) (E : VV) (K : Nat) (ln : Nat → Nat → Nat) (i c : Nat) (mk : Int32) (j : Nat) : Prop :=
  rN ρ E ∧ rK ρ E K (lu ln i c j) ∧ tF E0 E i c j ∧ (∀ q, (q < 120 + 66 * i + 25 * c ∨ 145 + 66 * i + 25 * c ≤ q) → ρ q = ρ0 q) ∧ ∀ k, 1 ≤ k → k < j → ρ (120 + 66 * i + 25 * c + 19 + k) = mk
theorem lu_lu {ln : Nat → Nat → Nat} {i c a d : Nat} : lu (lu ln i c a) i c d = lu ln i c d := by
  funext x y
  unfold lu
  split
  · rfl
  · rfl
theorem LD_s {ρ0 : Nat → Int32} {E0 : VV} {ρ : Nat → Int32} {E E' : VV} {K : Nat} {ln : Nat → Nat → Nat} {i c j : Nat} {mk v x y : Int32} (h : LD ρ0 E0 ρ E K ln i c mk j) (hL : eL E ≤ 16) (hi : i < K) (hc : c < 2) (hj : j < 6) (ho : ∀ kd a k, kd ≠ 5 → kd ≠ 6 → kd ≠ 7 → ¬ (kd = 13 + 4 * c ∧ a = i ∧ k = j) → E' kd a k = E kd a k) (hv : E (11 + 4 * c) i j = v) (hs : slR x y (E' (13 + 4 * c) i j)) (ht : tF E0 E' i c (j + 1)) : LD ρ0 E0 (apR ρ (120 + 66 * i + 25 * c) j v x y mk) E' K ln i c mk (j + 1) := by
  obtain ⟨l1, l2, l3, l4, l5⟩ := h
  refine ⟨?_, ?_, ht, fun q hq => ?_, fun k k1 k2 => ?_⟩
  · refine rN_e (E := E) (rN_c l1 hL (fun k a1 a2 a3 => apR_o hj (by omega))) (fun kd a k hkd => ho kd a k (by omega) (by omega) (by omega) (by omega))
  · have := rK_ap (E' := E') (x := x) (y := y) (mk := mk) l2 hi hc lu_s hj (fun d a k => ho _ _ _ (by omega) (by omega) (by omega) (by omega)) (fun d a k hn => ho _ _ _ (by omega) (by omega) (by omega) (by omega)) hv hs
    rw [lu_lu] at this
    exact this
  · rw [apR_o hj (by omega)]
    exact l4 q (by omega)
  · by_cases ek : k = j
    · subst ek
      unfold apR
      simp (disch := omega) only [up_at, if_neg, if_pos, it_T]
    · have := l5 k k1 (by omega)
      unfold apR
      simp (disch := omega) only [up_at, if_neg]
      exact this
section
variable {H : fm_H} {b : Nat} {m m00 : fm_M}
theorem rI_o {ρ : Nat → Int32} (hr : rI b m00 m ρ) {a k : Nat} (h1 : a ≠ b + 1) (h2 : ¬ (a = b ∧ 18 ≤ k)) (h3 : ¬ (b + 8 ≤ a ∧ a < b + 11)) : m.1 a k = m00.1 a k := hr.2.1 a k h1 h2 h3
theorem r_ld_l (hM : kM H b) {ρ0 : Nat → Int32} {E0 : VV} {K n br : Nat} {ln : Nat → Nat → Nat} {i c : Nat} {mk : Int32} {d : Nat → Nat} (hG : vG E0) (hB : iB E0) (hZ : iZ E0) (hT : iT E0 K ln) (hK : K ≤ 8) (hi : i < K) (hc : c < 2) (hln : ln i c ≤ 1) (h6 : n ≤ 6) (hn : m00.1 b 6 = nn n) (hd : ∀ k, k < n → m00.1 (b + 6) k = nn (d k) ∧ E0 (11 + 4 * c) i k = nn (d k) ∧ d k < eN E0) (hbr : E0 0 0 7 = nn br) (h1000 : br < 1000) :
    ∀ (k q j : Nat) (m : fm_M) (ρ : Nat → Int32) (E : VV), rI b m00 m ρ → LD ρ0 E0 ρ E K ln i c mk j → 1 ≤ j → j + k = n → k < q →
      fE (f_X12_layDraft_14 H b (nn i) (nn c) mk q (nn j) m) (fun x m' => x = bi (tlE E i c j k).1 ∧ ∃ ρ', rI b m00 m' ρ' ∧ ((tlE E i c j k).1 = true → LD ρ0 E0 ρ' (tlE E i c j k).2 K ln i c mk n) ∧ ((tlE E i c j k).1 = false → (∃ j', tF E0 (tlE E i c j k).2 i c j' ∧ j' ≤ n) ∧ ρ' (120 + 66 * i + 25 * c) = 0 ∧ ∀ q, (q < 120 + 66 * i + 25 * c ∨ 145 + 66 * i + 25 * c ≤ q) → ρ' q = ρ0 q)) := by
  intro k
  induction k with
  | zero =>
    intro q j m ρ E hr hL h1 h2 h3
    obtain ⟨q, rfl⟩ : ∃ q', q = q' + 1 := ⟨q - 1, by omega⟩
    have e6 : m.1 b 6 = nn n := (rI_o hr (by omega) (by omega) (by omega)).trans hn
    have ej : j = n := by omega
    subst ej
    unfold f_X12_layDraft_14
    simp (disch := omega) only [e6, nn_le, if_pos]
    exact fE_ret ⟨rfl, ρ, hr, fun _ => hL, fun z => by cases z⟩
  | succ k ih =>
    intro q j m ρ E hr hL h1 h2 h3
    obtain ⟨q, rfl⟩ : ∃ q', q = q' + 1 := ⟨q - 1, by omega⟩
    have e6 : m.1 b 6 = nn n := (rI_o hr (by omega) (by omega) (by omega)).trans hn
    obtain ⟨d1, d2, d3⟩ := hd j (by omega)
    have ed : m.1 (b + 6) j = nn (d j) := (rI_o hr (by omega) (by omega) (by omega)).trans d1
    obtain ⟨l1, l2, l3, l4, l5⟩ := hL
    have hG' := tF_G l3 hG
    have hT' := tF_iT l3 hT hK hi hc hln
    have hL16 : eL E ≤ 16 := hG'.2.2.2.2.1.2.1
    have ev : E (11 + 4 * c) i j = nn (d j) := (l3.1 _ _ _ (by omega) (by omega) (by omega) (by omega)).trans d2
    have hdN : d j < eN E := by rw [tF_N l3]; exact d3
    have hN10 : eN E ≤ 10 := hG'.2.2.2.2.1.1
    have en : ndE E i c j = d j := by
      unfold ndE
      rw [ev, nn_t (by omega)]
      rfl
    unfold f_X12_layDraft_14
    simp (disch := omega) only [e6, nn_le, if_neg, kM_5 hM, kM_z6 hM, nn_in, if_pos, nn_tn, ed]
    refine fE_be (r_appendToWay hM hr l1 hG' (tF_iB l3 hB) (tF_iZ l3 hZ) l2 hT' hi hc lu_s (by omega) hdN ((l3.1 0 0 7 (by decide) (by decide) (by decide) (by omega)).trans hbr) h1000) (fun x m1 hx => ?_)
    rw [tlE_S, en]
    rcases hx with ⟨a, -, -⟩ | ⟨a1, a2, a3, a4⟩ | ⟨a1, a2, a3, a4⟩
    · omega
    · rw [a3, if_pos rfl, r_wayPlace, fb_n, if_pos a2]
      simp (disch := omega) only [kM_0 hM, kM_z1 hM, nn_in, if_pos, nn_tn, fb_d]
      refine fE_ret ⟨rfl, _, rI_u a4, fun z => (by cases z), fun _ => ⟨⟨j, l3, by omega⟩, ?_, fun q hq => ?_⟩⟩
      · rw [up_at, if_pos rfl]
      · rw [up_at, if_neg (by omega)]
        exact l4 q hq
    · obtain ⟨g1, g2, g3, g4⟩ := tkI_f (show d j < 10 by omega) hG' a2
      rw [a3, if_neg (by decide), if_neg a2, nn_inc]
      refine ih q (j + 1) m1 _ _ a4 ?_ (by omega) (by omega) (by omega)
      have ht := tF_s l3 h1 (show (tkI E (d j)).toNat < 120 by omega) g3 ev (by omega) g4
      refine LD_s ⟨l1, l2, l3, l4, l5⟩ hL16 hi hc (by omega) (fun kd a k c1 c2 c3 c4 => taE_o c1 c2 c3 c4) ev ?_ ht
      rw [taE_s]
      exact Or.inr ⟨(tkI E (d j)).toNat / 12, (tkI E (d j)).toNat % 12, by omega, by omega, by unfold nn; exact congrArg ii (by omega), rfl, rfl⟩
/-- a draft of two nodes or more is laid as the class lays it -/
theorem r_layDraft (hM : kM H b) {ρ0 : Nat → Int32} {E0 : VV} {K n br : Nat} {ln : Nat → Nat → Nat} {i c : Nat} {mk : Int32} {d : Nat → Nat} (hr : rI b m00 m ρ0) (hG : vG E0) (hB : iB E0) (hZ : iZ E0) (hN : rN ρ0 E0) (h4 : ρ0 4 = nn K) (hW : ∀ a, a < K → ∀ e, e < 2 → ¬ (a = i ∧ e = c) → rW ρ0 E0 (120 + 66 * a + 25 * e) (ln a e) e a) (hT : iT E0 K ln) (hK : K ≤ 8) (hi : i < K) (hc : c < 2) (hln : ln i c ≤ 1) (h6 : n ≤ 6) (hn2 : 2 ≤ n) (hn : m00.1 b 6 = nn n) (hd : ∀ k, k < n → m00.1 (b + 6) k = nn (d k) ∧ E0 (11 + 4 * c) i k = nn (d k) ∧ d k < eN E0) (hbr : E0 0 0 7 = nn br) (h1000 : br < 1000) (h0 : E0 (13 + 4 * c) i 0 = -1) :
    fE (f_X12_layDraft H b (nn i) (nn c) mk m) (fun x m' => x = bi (tlE E0 i c 1 (n - 1)).1 ∧ ∃ ρ', rI b m00 m' ρ' ∧ ((tlE E0 i c 1 (n - 1)).1 = true → LD ρ0 E0 ρ' (tlE E0 i c 1 (n - 1)).2 K ln i c mk n) ∧ ((tlE E0 i c 1 (n - 1)).1 = false → (∃ j', tF E0 (tlE E0 i c 1 (n - 1)).2 i c j' ∧ j' ≤ n) ∧ ρ' (120 + 66 * i + 25 * c) = 0 ∧ ∀ q, (q < 120 + 66 * i + 25 * c ∨ 145 + 66 * i + 25 * c ≤ q) → ρ' q = ρ0 q)) := by
  have hL16 : eL E0 ≤ 16 := hG.2.2.2.2.1.2.1
  have hN10 : eN E0 ≤ 10 := hG.2.2.2.2.1.1
  obtain ⟨d1, d2, d3⟩ := hd 0 (by omega)
  have i1 := rI_u (k := 120 + 66 * i + 25 * c) (x := (0 : Int32)) hr
  have L0 : LD ρ0 E0 (pm_up ρ0 (120 + 66 * i + 25 * c) 0) E0 K ln i c mk 0 := by
    refine ⟨rN_c hN hL16 (fun k a1 a2 a3 => by rw [up_at, if_neg (by omega)]), ⟨by rw [up_at, if_neg (by omega)]; exact h4, hK, fun a ha e he => ?_⟩, tF_0 (by omega), fun q hq => by rw [up_at, if_neg (by omega)], fun k k1 k2 => by omega⟩
    by_cases ee : a = i ∧ e = c
    · obtain ⟨rfl, rfl⟩ := ee
      rw [lu_s]
      exact ⟨by rw [up_at, if_pos rfl]; rfl, by omega, fun k hk => by omega, fun k k2 => by omega⟩
    · rw [lu_o ee]
      refine rW_c (hW a ha e he ee) (fun k k1 k2 => ?_)
      rw [up_at, if_neg]
      rcases (show c = 0 ∨ c = 1 by omega) with e1 | e1 <;> rcases (show e = 0 ∨ e = 1 by omega) with e2 | e2 <;> subst e1 <;> subst e2 <;> omega
  unfold f_X12_layDraft
  simp (disch := omega) only [r_wayPlace, fb_n, kM_0 hM, kM_z1 hM, nn_in, nn_tn, if_pos, fb_d]
  -- the first node
  show fE (f_X12_layDraft_14 H b (nn i) (nn c) mk (999999 + 1) 0 _) _
  have e6 : ∀ {m : fm_M} {ρ}, rI b m00 m ρ → m.1 b 6 = nn n := fun hr => (rI_o hr (by omega) (by omega) (by omega)).trans hn
  have ed : ∀ {m : fm_M} {ρ}, rI b m00 m ρ → m.1 (b + 6) 0 = nn (d 0) := fun hr => (rI_o hr (by omega) (by omega) (by omega)).trans d1
  unfold f_X12_layDraft_14
  rw [e6 i1, nl_0] at *
  simp (disch := omega) only [nn_le, if_neg, kM_5 hM, kM_z6 hM, nn_in, if_pos, nn_tn]
  rw [ed i1]
  refine fE_be (r_appendToWay hM i1 L0.1 hG hB hZ L0.2.1 (tF_iT L0.2.2.1 hT hK hi hc hln) hi hc lu_s (by omega) d3 hbr h1000) (fun x m1 hx => ?_)
  rcases hx with ⟨a1, a2, a3⟩ | ⟨a, -⟩ | ⟨a, -⟩
  · rw [a2, if_neg (by decide), nn_inc]
    refine r_ld_l hM hG hB hZ hT hK hi hc hln h6 hn hd hbr h1000 (n - 1) 999999 1 m1 _ E0 a3 ?_ (by omega) (by omega) (by omega)
    exact LD_s L0 hL16 hi hc (by omega) (fun kd a k c1 c2 c3 c4 => rfl) d2 (Or.inl ⟨h0, rfl, rfl⟩) (tF_0 (by omega))
  · omega
  · omega
end
