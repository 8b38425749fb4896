/-! all that holds between calls; states that mean the same -/
/-- each link lies between two nodes, and is the only one there -/
def iE (E : VV) : Prop := ∀ j, j < eL E → (∃ x y, x < eN E ∧ y < eN E ∧ x ≠ y ∧ E 3 j 0 = nn x ∧ E 3 j 1 = nn y) ∧ lkE E (E 3 j 0) (E 3 j 1) = j
/-- ranges -/
def iS (E : VV) : Prop := (∃ b, b ≤ 4 ∧ E 0 0 7 = nn b) ∧ (∃ o, o ≤ 1 ∧ E 0 0 8 = nn o) ∧ (∀ j, j < eL E → ∃ c, 1 ≤ c ∧ c ≤ 99 ∧ E 3 j 2 = nn c) ∧ (∀ i, i < eK E → ∃ b, b ≤ 20 ∧ E 9 i 0 = nn b) ∧ ∀ f, eN E ≤ f → f < 10 → eZ E f = 0
def iG (E : VV) (l : List (Nat → Int32)) : Prop := iV E l ∧ iB E ∧ iZ E ∧ iU E ∧ iE E ∧ iS E
/-- the same in all that counts -/
def smE (E E' : VV) : Prop := (∀ k, 5 ≤ k → k ≤ 9 → E' 0 0 k = E 0 0 k) ∧ (∀ k, k < 2 → E' 1 0 k = E 1 0 k) ∧ (∀ k, k < 100 → E' 2 0 k = E 2 0 k) ∧ (∀ j k, j < eL E → k < 5 → E' 3 j k = E 3 j k) ∧ (∀ k, k < 10 → E' 4 0 k = E 4 0 k) ∧
  (∀ t, t < 120 → E' 5 0 t = E 5 0 t) ∧ (∀ t, t < 120 → E 5 0 t ≠ -1 → E' 6 0 t = E 6 0 t ∧ E' 7 0 t = E 7 0 t) ∧ (∀ k, k < 7 → E' 8 0 k = E 8 0 k) ∧ (∀ i k, i < eK E → k < 13 → E' 9 i k = E 9 i k) ∧
  ∀ i c, i < eK E → c < 2 → E' (10 + 4 * c) i 0 = E (10 + 4 * c) i 0 ∧ ∀ d k, 1 ≤ d → d < 4 → k < eW E i c → E' (10 + d + 4 * c) i k = E (10 + d + 4 * c) i k
section
variable {E E' : VV}
theorem sm_K (h : smE E E') : eK E' = eK E := by unfold eK; rw [h.1 5 (by omega) (by omega)]
theorem sm_P (h : smE E E') : eP E' = eP E := by unfold eP; rw [h.1 6 (by omega) (by omega)]
theorem sm_N (h : smE E E') : eN E' = eN E := by unfold eN; rw [h.2.1 0 (by omega)]
theorem sm_L (h : smE E E') : eL E' = eL E := by unfold eL; rw [h.2.1 1 (by omega)]
theorem sm_Z (h : smE E E') {f : Nat} (hf : f < 10) : eZ E' f = eZ E f := by unfold eZ; rw [h.2.2.2.2.1 f hf]
theorem sm_W (h : smE E E') {i c : Nat} (hi : i < eK E) (hc : c < 2) : eW E' i c = eW E i c := by
  have q := (h.2.2.2.2.2.2.2.2.2 i c hi hc).1
  rcases (show c = 0 ∨ c = 1 by omega) with e | e <;> subst e
  · unfold eW eA
    rw [if_pos rfl, if_pos rfl]
    exact congrArg (fun x : Int32 => x.toInt.toNat) q
  · unfold eW eB
    rw [if_neg (by decide), if_neg (by decide)]
    exact congrArg (fun x : Int32 => x.toInt.toNat) q
theorem sm_A (h : smE E E') {i : Nat} (hi : i < eK E) : eA E' i = eA E i := sm_W h hi (c := 0) (by omega)
theorem sm_Bn (h : smE E E') {i : Nat} (hi : i < eK E) : eB E' i = eB E i := sm_W h hi (c := 1) (by omega)
theorem sm_11 (h : smE E E') {i c k : Nat} (hi : i < eK E) (hc : c < 2) (hk : k < eW E i c) : E' (11 + 4 * c) i k = E (11 + 4 * c) i k := (h.2.2.2.2.2.2.2.2.2 i c hi hc).2 1 k (by omega) (by omega) hk
theorem sm_12 (h : smE E E') {i c k : Nat} (hi : i < eK E) (hc : c < 2) (hk : k < eW E i c) : E' (12 + 4 * c) i k = E (12 + 4 * c) i k := (h.2.2.2.2.2.2.2.2.2 i c hi hc).2 2 k (by omega) (by omega) hk
theorem sm_13 (h : smE E E') {i c k : Nat} (hi : i < eK E) (hc : c < 2) (hk : k < eW E i c) : E' (13 + 4 * c) i k = E (13 + 4 * c) i k := (h.2.2.2.2.2.2.2.2.2 i c hi hc).2 3 k (by omega) (by omega) hk
theorem sm_3 (h : smE E E') {j k : Nat} (hj : j < eL E) (hk : k < 5) : E' 3 j k = E 3 j k := h.2.2.2.1 j k hj hk
theorem sm_5 (h : smE E E') {t : Nat} (ht : t < 120) : E' 5 0 t = E 5 0 t := h.2.2.2.2.2.1 t ht
theorem sm_9 (h : smE E E') {i k : Nat} (hi : i < eK E) (hk : k < 13) : E' 9 i k = E 9 i k := h.2.2.2.2.2.2.2.2.1 i k hi hk
theorem sm_lk (h : smE E E') (x y : Int32) : lkE E' x y = lkE E x y := by
  unfold lkE
  rw [sm_L h]
  exact fi_c (fun j _ h2 => by rw [sm_3 h (by omega) (by omega), sm_3 h (by omega) (by omega)])
theorem sm_hl (h : smE E E') {i : Nat} (hi : i < eK E) : clX E' i = clX E i := by
  unfold clX hlO
  rw [sm_A h hi, nc_c (fun k a1 a2 => by rw [show E' 13 i k = E 13 i k from sm_13 h hi (c := 0) (by omega) (by show k < eA E i; omega)])]
theorem sm_st (h : smE E E') {i : Nat} (hi : i < eK E) : stE E' i = stE E i := by
  unfold stE
  rw [sm_9 h hi (by omega), sm_9 h hi (by omega), sm_9 h hi (by omega), sm_hl h hi]
theorem sm_iT (h : smE E E') (hT : iT E (eK E) (eW E)) : iT E' (eK E') (eW E') := by
  rw [sm_K h]
  obtain ⟨h1, h2, h3⟩ := hT
  refine ⟨fun i c k t a1 a2 a3 a4 a5 a6 => ?_, fun t t1 t2 => ?_, fun i c k c' k' t a1 a2 a3 a4 a5 a6 a7 a8 a9 a10 => ?_⟩
  · rw [sm_W h a1 a2] at a4
    rw [sm_13 h a1 a2 a4] at a6
    have q := h1 i c k t a1 a2 a3 a4 a5 a6
    rw [sm_5 h a5, (h.2.2.2.2.2.2.1 t a5 q.2.2).1, sm_11 h a1 a2 a4]
    exact q
  · rw [sm_5 h t1] at t2
    obtain ⟨i, c, k, b1, b2, b3, b4, b5⟩ := h2 t t1 t2
    exact ⟨i, c, k, b1, b2, b3, by rw [sm_W h b1 b2]; exact b4, by rw [sm_13 h b1 b2 b4]; exact b5⟩
  · rw [sm_W h a1 a2] at a5
    rw [sm_W h a1 a3] at a7
    rw [sm_13 h a1 a2 a5] at a9
    rw [sm_13 h a1 a3 a7] at a10
    exact h3 i c k c' k' t a1 a2 a3 a4 a5 a6 a7 a8 a9 a10
theorem sm_iX (h : smE E E') (hX : iX E) : iX E' := by
  obtain ⟨h1, h2, h3⟩ := hX
  refine ⟨sm_iT h h1, fun t ht e => ?_, fun i hi c hc => ?_⟩
  · rw [sm_5 h ht] at e
    rw [(h.2.2.2.2.2.2.1 t ht e).2]
    exact h2 t ht e
  · rw [sm_K h] at hi
    obtain ⟨⟨w1, w2, w3⟩, w4⟩ := h3 i hi c hc
    rw [sm_W h hi hc]
    refine ⟨⟨fun k hk => ?_, fun k k1 k2 => ?_, fun k k' k1 k2 => ?_⟩, fun k k' k1 k2 k3 => ?_⟩
    · rw [sm_N h, sm_11 h hi hc hk]
      exact w1 k hk
    · rw [sm_11 h hi hc (by omega), sm_12 h hi hc k2, sm_11 h hi hc k2, sm_lk h]
      exact w2 k k1 k2
    · rw [sm_11 h hi hc k1, sm_11 h hi hc k2]
      exact w3 k k' k1 k2
    · rw [sm_13 h hi hc (by omega), sm_13 h hi hc k3]
      exact w4 k k' k1 k2 k3
theorem sm_iQ (h : smE E E') {i dl : Nat} (hi : i < eK E) (hQ : iQ E i dl) : iQ E' i dl := by
  obtain ⟨q1, q2, q3, q4, q5⟩ := hQ
  have e9 : ∀ k, k < 13 → E' 9 i k = E 9 i k := fun k hk => sm_9 h hi hk
  have e13 : ∀ k, k < eA E i → E' 13 i k = E 13 i k := fun k hk => sm_13 h hi (c := 0) (by omega) hk
  have e17 : ∀ k, k < eB E i → E' 17 i k = E 17 i k := fun k hk => sm_13 h hi (c := 1) (by omega) hk
  have hh : (∀ k, 1 ≤ k → k < eA E i → E 13 i k ≠ -1) → ∀ k, 1 ≤ k → k < eA E i → E' 13 i k ≠ -1 := fun z k k1 k2 => by
    rw [e13 k k2]
    exact z k k1 k2
  unfold iQ
  rw [sm_A h hi, sm_Bn h hi, e9 2 (by omega), e9 3 (by omega), e9 10 (by omega), e9 9 (by omega), e9 8 (by omega), e13 _ (by omega)]
  refine ⟨q1, q2, fun k k1 k2 => by rw [e17 k k2]; exact q3 k k1 k2, q4, ?_⟩
  rcases q5 with ⟨a1, a2, a3, a4, a5, a6⟩ | ⟨a1, a2, a3, a4, a5, a6⟩ | ⟨a1, a2, a3, a4, a6⟩ | q5
  · exact Or.inl ⟨a1, a2, a3, a4, a5, hh a6⟩
  · exact Or.inr (Or.inl ⟨a1, a2, a3, a4, a5, hh a6⟩)
  · exact Or.inr (Or.inr (Or.inl ⟨a1, a2, a3, a4, hh a6⟩))
  · exact Or.inr (Or.inr (Or.inr q5))
theorem sm_pk (h : smE E E') {r : Nat → Int32} (hk : pkO E r) : pkO E' r := by
  obtain ⟨⟨c, c1, c2⟩, h2⟩ := hk
  exact ⟨⟨c, by rw [sm_K h]; exact c1, c2⟩, h2⟩
theorem sm_iG (h : smE E E') (hG' : vG E') {l : List (Nat → Int32)} (hI : iG E l) : iG E' l := by
  obtain ⟨⟨v1, v2, v3, v4, v5, v6⟩, g2, g3, g4, g5, s1, s2, s3, s4, s5⟩ := hI
  refine ⟨⟨hG', sm_iX h v2, fun j hj => ?_, fun i hi => ?_, fun r hr => sm_pk h (v5 r hr), (h.1 6 (by omega) (by omega)).trans v6⟩, fun x y hx hy => ?_, fun f l hf hl e => ?_, fun j hj => ?_, fun j hj => ?_, ?_, ?_, fun j hj => ?_, fun i hi => ?_, fun f f1 f2 => ?_⟩
  · rw [sm_L h] at hj
    rw [sm_3 h hj (by omega)]
    exact v3 j hj
  · rw [sm_K h] at hi
    exact sm_iQ h hi (v4 i hi)
  · rw [h.2.2.1 _ (by omega), sm_lk h]
    exact g2 x y hx hy
  · rw [sm_5 h (by omega)] at e
    rw [sm_Z h hf]
    exact g3 f l hf hl e
  · rw [sm_L h] at hj
    rw [sm_3 h hj (by omega)]
    exact g4 j hj
  · rw [sm_L h] at hj
    rw [sm_N h, sm_3 h hj (by omega), sm_3 h hj (by omega), sm_lk h]
    exact g5 j hj
  · rw [h.1 7 (by omega) (by omega)]
    exact s1
  · rw [h.1 8 (by omega) (by omega)]
    exact s2
  · rw [sm_L h] at hj
    rw [sm_3 h hj (by omega)]
    exact s3 j hj
  · rw [sm_K h] at hi
    rw [sm_9 h hi (by omega)]
    exact s4 i hi
  · rw [sm_N h] at f1
    rw [sm_Z h f2]
    exact s5 f f1 f2
theorem sm_rW (h : smE E E') {ρ : Nat → Int32} {p i c : Nat} (hi : i < eK E) (hc : c < 2) (hW : rW ρ E p (eW E i c) c i) : rW ρ E' p (eW E' i c) c i := by
  rw [sm_W h hi hc]
  exact ⟨hW.1, hW.2.1, fun k hk => by rw [sm_11 h hi hc hk]; exact hW.2.2.1 k hk, fun k k2 => by rw [sm_13 h hi hc k2]; exact hW.2.2.2 k k2⟩
theorem sm_rB (h : smE E E') (hX : iX E) (hG : vG E) {ρ : Nat → Int32} (hB : rB ρ E) : rB ρ E' := by
  have hsl : ∀ i c k, i < eK E → c < 2 → 1 ≤ k → k < eW E i c → E (13 + 4 * c) i k = -1 ∨ ∃ t, t < 120 ∧ E (13 + 4 * c) i k = nn t := fun i c k a1 a2 a3 a4 => rB_sl hB a1 a2 a3 a4
  obtain ⟨⟨b1, b2, b3, b4, b5, b6, b7, b8⟩, ⟨k1, k2, k3⟩, c1⟩ := hB
  refine ⟨⟨b1.trans (h.1 7 (by omega) (by omega)).symm, b2.trans (h.1 8 (by omega) (by omega)).symm, b3.trans (h.2.1 0 (by omega)).symm, b4.trans (h.2.1 1 (by omega)).symm, b5.trans (h.1 9 (by omega) (by omega)).symm, fun k hk => (b6 k hk).trans (h.2.2.2.2.2.2.2.1 k hk).symm, fun i hi => (b7 i hi).trans (h.2.2.2.2.1 i hi).symm, fun j hj k hk => ?_⟩, ?_, fun i hi => ?_⟩
  · rw [sm_L h] at hj
    rw [sm_3 h hj hk]
    exact b8 j hj k hk
  · rw [sm_K h]
    exact ⟨k1, k2, fun i hi c hc => sm_rW h hi hc (k3 i hi c hc)⟩
  · rw [sm_K h] at hi
    obtain ⟨d1, d2, d3⟩ := c1 i hi
    refine ⟨fun k a1 a2 a3 => by rw [sm_9 h hi a1]; exact d1 k a1 a2 a3, by rw [sm_st h hi]; exact d2, fun c hc k a1 a2 => ?_⟩
    rw [sm_W h hi hc] at a2
    rw [d3 c hc k a1 a2, sm_13 h hi hc a2]
    rcases hsl i c k hi hc a1 a2 with e | ⟨t, t1, t2⟩
    · rw [e]
      rfl
    · rw [t2]
      unfold mdE
      rw [nn_t (by omega), if_pos (by omega), if_pos (by omega), Int.toNat_natCast, (h.2.2.2.2.2.2.1 t t1 (hX.1.1 i c k t hi hc a1 a2 t1 t2).2.2).2]
end
/-- the array read where it counts -/
theorem rB_j {ρ ρ' : Nat → Int32} {E : VV} (h : rB ρ E) (hG : vG E) (e : ∀ k, k < 632 → k ≠ 6 → ¬ (104 + 66 * eK E ≤ k) → ρ' k = ρ k) : rB ρ' E := by
  have hK8 := hG.2.2.2.2.1.2.2.1
  obtain ⟨h1, ⟨k1, k2, k3⟩, h3⟩ := h
  refine ⟨rN_c h1 hG.2.2.2.2.1.2.1 (fun k a1 a2 a3 => e k (by omega) a3 (by omega)), ⟨(e 4 (by omega) (by omega) (by omega)).trans k1, k2, fun i hi c hc => rW_c (k3 i hi c hc) (fun k a1 a2 => ?_)⟩, fun i hi => ?_⟩
  · have : k < 170 + 66 * i := by
      rcases (show c = 0 ∨ c = 1 by omega) with q | q <;> subst q <;> omega
    exact e k (by omega) (by omega) (by omega)
  · obtain ⟨d1, d2, d3⟩ := h3 i hi
    refine ⟨rC_c d1 (fun k a1 a2 => e k (by omega) (by omega) (by omega)), (e _ (by omega) (by omega) (by omega)).trans d2, fun c hc => rMd_c (d3 c hc) (k3 i hi c hc).2.1 (fun k a1 a2 => ?_)⟩
    have : k < 170 + 66 * i := by
      rcases (show c = 0 ∨ c = 1 by omega) with q | q <;> subst q <;> omega
    exact e k (by omega) (by omega) (by omega)
