/-! the reference's search, whole -/
/-- the best way when the places from j on are still to be tried -/
def vR (N t : Nat) (lk : Nat → Nat → Int) (op : Nat → Bool) (dl : Nat → Nat) (r n : Nat) (P : Nat → Nat) (d j k : Nat) (z : Bst) : Bst := if P (n - 1) = t then z else match r with
  | 0 => z
  | r + 1 => vlp lk op dl (vs N t lk op dl r) n P d j k z
theorem tP_k {m m' : fm_M} {b n d : Nat} {P P' : Nat → Nat} (h : tP m b n P d) (e : m'.1 b 24 = m.1 b 24) (e2 : m'.1 b 25 = m.1 b 25) (e3 : ∀ k, k < n → m'.1 (b + 8) k = m.1 (b + 8) k) (e4 : ∀ k, k < n → P' k = P k) : tP m' b n P' d := ⟨e.trans h.1, e2.trans h.2.1, fun k hk => by rw [e3 k hk, e4 k hk]; exact h.2.2 k hk⟩
theorem tB_k {m m' : fm_M} {b : Nat} {z : Bst} (h : tB m b z) (e : ∀ a k, (a = b ∧ (k = 26 ∨ k = 27)) ∨ a = b + 9 ∨ a = b + 10 → m'.1 a k = m.1 a k) : tB m' b z := ⟨(e _ _ (by omega)).trans h.1, (e _ _ (by omega)).trans h.2.1, fun k hk => (e _ _ (by omega)).trans (h.2.2 k hk)⟩
theorem tU_k {m m' : fm_M} {b L : Nat} {op : Nat → Bool} (h : tU m b L op) (e : ∀ a k, (a = b ∧ (k = 26 ∨ k = 27)) ∨ a = b + 9 ∨ a = b + 10 → m'.1 a k = m.1 a k) : tU m' b L op := fun j hj => (e _ _ (by omega)).trans (h j hj)
section
variable {H : fm_H} {b : Nat} {m m00 : fm_M} {ρ : Nat → Int32} {E : VV} {op : Nat → Bool} {dl : Nat → Nat} {t : Nat}
theorem r_lay_l (hM : kM H b) (hN : rN ρ E) (hG : vG E) (hdl : ∀ j, j < eL E → E 3 j 3 = nn (dl j) ∧ 1 ≤ dl j ∧ dl j ≤ 9) (hop : ∀ j, op j = true → j < eL E) (ht : t < 10) {f0 : Nat} (hft : f0 ≠ t) {Q : Int32 → fm_M → Prop} : ∀ (r k j n d d' : Nat) (P : Nat → Nat) (z : Bst) (m : fm_M) (q : Nat), n + r = 6 → 1 ≤ n → j + k = eN E ∨ (k = 0 ∧ eN E ≤ j) → j ≤ 20 → d ≤ 9 * (n - 1) → pth (eN E) f0 (lkf E) n P → bok (eN E) f0 t (lkf E) z → rI b m00 m ρ → tU m b (eL E) op → tP m b n P d → tB m b z → (2 ≤ n → d = d' + dl (lkf E (P (n - 2)) (P (n - 1))).toNat) → (n = 1 → d = d') → cst r k ≤ q →
    (∀ m' q', q ≤ q' + cst r k → q' < q → rI b m00 m' ρ → tU m' b (eL E) op → tP m' b (n - 1) P d' → tB m' b (vR (eN E) t (lkf E) op dl r n P d j k z) → fE (f_X12_layBest_81 H b (nn t) q' (nn (P (n - 1) + 1)) m') Q) → fE (f_X12_layBest_81 H b (nn t) q (nn j) m) Q := by
  have hN10 := hG.2.2.2.2.1.1
  intro r
  induction r with
  | zero =>
    intro k j n d d' P z m q h1 h2 h3 h4 h5 hp hz hr hU hP hB c1 c2 hq hQ
    have hq1 : 1 ≤ q := Nat.le_trans cst_1 hq
    obtain ⟨q, rfl⟩ : ∃ q', q = q' + 1 := ⟨q - 1, by omega⟩
    have hPn := hp.1 (n - 1) (by omega)
    unfold f_X12_layBest_81 f_X12_goOn
    rw [hP.1, if_neg (by rw [nl_0, nn_le (by omega) (by omega)]; omega), nn_dec h2, kM_21 hM, kM_z8 hM, if_pos ((nn_in (by omega)).mpr (by omega)), nn_tn (by omega), hP.2.2 _ (by omega)]
    refine fE_be (r_go_l hM hr hN hG hdl hU ht hP h2 (by omega) (by omega) hp.1 k fm_N j h3 h4 (by unfold fm_N; omega)) (fun x m1 h => ?_)
    rcases h with ⟨e1, e2, -⟩ | ⟨-, e6, -⟩
    · subst e1 e2
      rw [if_pos rfl, hP.1, nn_dec h2, if_pos ((nn_in (by omega)).mpr (by omega)), nn_tn (by omega), hP.2.2 _ (by omega)]
      refine fE_be (r_dropTried hM hr hN hG hdl (d' := d') hP h2 (by omega) (fun z => ⟨?_, c1 z⟩) c2 (by omega)) (fun _ m2 ⟨g1, g2, g3⟩ => ?_)
      · exact hp.2.1 (n - 1) (by omega) (by omega)
      · rw [nn_inc]
        refine hQ m2 q (by show q + 1 ≤ q + 1; omega) (by omega) g1 (tU_k hU g3) g2 ?_
        have : vR (eN E) t (lkf E) op dl 0 n P d j k z = z := by
          unfold vR
          split <;> rfl
        rw [this]
        exact tB_k hB g3
    · omega
  | succ r ihr =>
    intro k
    -- by how many places are still to be tried
    have main : ∀ (w k : Nat), k ≤ w → ∀ (j n d d' : Nat) (P : Nat → Nat) (z : Bst) (m : fm_M) (q : Nat), n + (r + 1) = 6 → 1 ≤ n → j + k = eN E ∨ (k = 0 ∧ eN E ≤ j) → j ≤ 20 → d ≤ 9 * (n - 1) → pth (eN E) f0 (lkf E) n P → bok (eN E) f0 t (lkf E) z → rI b m00 m ρ → tU m b (eL E) op → tP m b n P d → tB m b z → (2 ≤ n → d = d' + dl (lkf E (P (n - 2)) (P (n - 1))).toNat) → (n = 1 → d = d') → cst (r + 1) k ≤ q →
        (∀ m' q', q ≤ q' + cst (r + 1) k → q' < q → rI b m00 m' ρ → tU m' b (eL E) op → tP m' b (n - 1) P d' → tB m' b (vR (eN E) t (lkf E) op dl (r + 1) n P d j k z) → fE (f_X12_layBest_81 H b (nn t) q' (nn (P (n - 1) + 1)) m') Q) → fE (f_X12_layBest_81 H b (nn t) q (nn j) m) Q := by
      intro w
      induction w with
      | zero =>
        intro k hkw j n d d' P z m q h1 h2 h3 h4 h5 hp hz hr hU hP hB c1 c2 hq hQ
        have ek : k = 0 := by omega
        subst ek
        have hq1 : 1 ≤ q := Nat.le_trans cst_1 hq
        obtain ⟨q, rfl⟩ : ∃ q', q = q' + 1 := ⟨q - 1, by omega⟩
        have hPn := hp.1 (n - 1) (by omega)
        unfold f_X12_layBest_81 f_X12_goOn
        rw [hP.1, if_neg (by rw [nl_0, nn_le (by omega) (by omega)]; omega), nn_dec h2, kM_21 hM, kM_z8 hM, if_pos ((nn_in (by omega)).mpr (by omega)), nn_tn (by omega), hP.2.2 _ (by omega)]
        refine fE_be (r_go_l hM hr hN hG hdl hU ht hP h2 (by omega) (by omega) hp.1 0 fm_N j h3 h4 (by unfold fm_N; omega)) (fun x m1 h => ?_)
        rcases h with ⟨e1, e2, -⟩ | ⟨-, -, -, y, y1, y2, -⟩
        · subst e1 e2
          rw [if_pos rfl, hP.1, nn_dec h2, if_pos ((nn_in (by omega)).mpr (by omega)), nn_tn (by omega), hP.2.2 _ (by omega)]
          refine fE_be (r_dropTried hM hr hN hG hdl (d' := d') hP h2 (by omega) (fun z => ⟨hp.2.1 (n - 1) (by omega) (by omega), c1 z⟩) c2 (by omega)) (fun _ m2 ⟨g1, g2, g3⟩ => ?_)
          rw [nn_inc]
          refine hQ m2 q (by have := cst_1 (r := r + 1) (k := 0); omega) (by omega) g1 (tU_k hU g3) g2 ?_
          have : vR (eN E) t (lkf E) op dl (r + 1) n P d j 0 z = z := by
            unfold vR
            split <;> rfl
          rw [this]
          exact tB_k hB g3
        · omega
      | succ w ihw =>
        intro k hkw j n d d' P z m q h1 h2 h3 h4 h5 hp hz hr hU hP hB c1 c2 hq hQ
        have hq1 : 1 ≤ q := Nat.le_trans cst_1 hq
        obtain ⟨q, rfl⟩ : ∃ q', q = q' + 1 := ⟨q - 1, by omega⟩
        have hPn := hp.1 (n - 1) (by omega)
        unfold f_X12_layBest_81 f_X12_goOn
        rw [hP.1, if_neg (by rw [nl_0, nn_le (by omega) (by omega)]; omega), nn_dec h2, kM_21 hM, kM_z8 hM, if_pos ((nn_in (by omega)).mpr (by omega)), nn_tn (by omega), hP.2.2 _ (by omega)]
        refine fE_be (r_go_l hM hr hN hG hdl hU ht hP h2 (by omega) (by omega) hp.1 k fm_N j h3 h4 (by unfold fm_N; omega)) (fun x m1 h => ?_)
        rcases h with ⟨e1, e2, e3⟩ | ⟨e1, e6, et, y, y1, y2, y3, y4, g1, g2, g3⟩
        · subst e1 e2
          rw [if_pos rfl, hP.1, nn_dec h2, if_pos ((nn_in (by omega)).mpr (by omega)), nn_tn (by omega), hP.2.2 _ (by omega)]
          refine fE_be (r_dropTried hM hr hN hG hdl (d' := d') hP h2 (by omega) (fun z => ⟨hp.2.1 (n - 1) (by omega) (by omega), c1 z⟩) c2 (by omega)) (fun _ m2 ⟨g1, g2, g3⟩ => ?_)
          rw [nn_inc]
          refine hQ m2 q (by have := cst_1 (r := r + 1) (k := k); omega) (by omega) g1 (tU_k hU g3) g2 ?_
          have : vR (eN E) t (lkf E) op dl (r + 1) n P d j k z = z := by
            unfold vR
            by_cases et : P (n - 1) = t
            · rw [if_pos et]
            · rw [if_neg et]
              rcases e3 with e3 | e3 | e3
              · omega
              · exact absurd e3 et
              · exact vlp_n e3
          rw [this]
          exact tB_k hB g3
        · subst e1
          -- on to the next node
          have hyN : y < eN E := by omega
          have hpy := pth_up h2 hp hyN y3
          have e24 : m1.1 b 24 = nn (n + 1) := g1.1
          have e8 : m1.1 (b + 8) n = nn y := by
            rw [g1.2.2 n (by omega), upf_s]
          have hopy : op (lkf E (P (n - 1)) y).toNat = true := by
            unfold okn at y3
            rw [Bool.and_eq_true, Bool.and_eq_true] at y3
            exact y3.2.1
          have hdy := hdl _ (hop _ hopy)
          have hkk : (j + k - (y + 1)) + 1 ≤ k := by omega
          have hcS := cst_S (r := r) hkk
          rw [if_neg (by decide), e24, nn_dec (by omega), Nat.add_sub_cancel, if_pos ((nn_in (by omega)).mpr (by omega)), nn_tn (by omega), e8]
          have vRe : vR (eN E) t (lkf E) op dl (r + 1) n P d j k z = vR (eN E) t (lkf E) op dl (r + 1) n P d (y + 1) (j + k - (y + 1)) (vs (eN E) t (lkf E) op dl r (n + 1) (upf P n y) (d + dl (lkf E (P (n - 1)) y).toNat) z) := by
            unfold vR
            rw [if_neg et, if_neg et]
            exact vlp_y y1 y2 y3 y4
          have hzv := vs_ok (t := t) (op := op) (dl := dl) hft (fun j hj => (hdl j (hop j hj)).2.2) (r := r) (n := n + 1) (by omega) (by omega) (show d + dl (lkf E (P (n - 1)) y).toNat ≤ 9 * (n + 1 - 1) by omega) hpy hz
          -- behind the child the rest
          have rest : ∀ (m' : fm_M) (q' : Nat), q ≤ q' + cst r 10 → q' < q → rI b m00 m' ρ → tU m' b (eL E) op → tP m' b n (upf P n y) d → tB m' b (vs (eN E) t (lkf E) op dl r (n + 1) (upf P n y) (d + dl (lkf E (P (n - 1)) y).toNat) z) → fE (f_X12_layBest_81 H b (nn t) q' (nn (y + 1)) m') Q := by
            intro m' q' b1 b1' b2 b3 b4 b5
            have b4' : tP m' b n P d := tP_k b4 rfl rfl (fun _ _ => rfl) (fun k hk => (upf_o (by omega)).symm)
            refine ihw (j + k - (y + 1)) (by omega) (y + 1) n d d' P _ m' q' h1 h2 (by omega) (by omega) h5 hp hzv b2 b3 b4' b5 c1 c2 (by omega) (fun m'' q'' a1 a1' a2 a3 a4 a5 => ?_)
            exact hQ m'' q'' (by omega) (by omega) a2 a3 a4 (by rw [vRe]; exact a5)
          have hn2 : upf P n y (n + 1 - 2) = P (n - 1) := by rw [upf_o (by omega)]; rfl
          have hn1 : upf P n y (n + 1 - 1) = y := by rw [Nat.add_sub_cancel]; exact upf_s
          have c1' : 2 ≤ n + 1 → d + dl (lkf E (P (n - 1)) y).toNat = d + dl (lkf E (upf P n y (n + 1 - 2)) (upf P n y (n + 1 - 1))).toNat := fun _ => by rw [hn2, hn1]
          by_cases eyt : y = t
          · rw [if_pos (by rw [eyt])]
            refine fE_be (r_compareTried hM g2 g1 (tB_k hB g3) (by omega) (by omega) hz.2.1 (by have := hz.1; omega)) (fun _ m3 ⟨a1, a2, a3, a4⟩ => ?_)
            have hvs : vs (eN E) t (lkf E) op dl r (n + 1) (upf P n y) (d + dl (lkf E (P (n - 1)) y).toNat) z = kb z (n + 1) (d + dl (lkf E (P (n - 1)) y).toNat) (upf P n y) := vs_t (by rw [hn1]; exact eyt)
            have hzk : bok (eN E) f0 t (lkf E) (kb z (n + 1) (d + dl (lkf E (P (n - 1)) y).toNat) (upf P n y)) := by rw [← hvs]; exact hzv
            have hU3 : tU m3 b (eL E) op := fun i hi => (a4 i).trans (tU_k hU g3 i hi)
            refine ihr (eN E) 0 (n + 1) (d + dl (lkf E (P (n - 1)) y).toNat) d (upf P n y) _ m3 q (by omega) (by omega) (by omega) (by omega) (by omega) hpy hzk a1 hU3 a2 a3 c1' (fun z => by omega) (by have := cst_m (r := r) hN10; omega) (fun m' q' b1 b1' b2 b3 b4 b5 => ?_)
            rw [hn1]
            refine rest m' q' (by have := cst_m (r := r) hN10; omega) b1' b2 b3 b4 ?_
            rw [hvs]
            have : vR (eN E) t (lkf E) op dl r (n + 1) (upf P n y) (d + dl (lkf E (P (n - 1)) y).toNat) 0 (eN E) (kb z (n + 1) (d + dl (lkf E (P (n - 1)) y).toNat) (upf P n y)) = kb z (n + 1) (d + dl (lkf E (P (n - 1)) y).toNat) (upf P n y) := if_pos (by rw [hn1]; exact eyt)
            rw [this] at b5
            exact b5
          · have := hG.2.2.2.2.1.1
            rw [if_neg (fun h => eyt (nn_e (by omega) (by omega) h))]
            refine ihr (eN E) 0 (n + 1) (d + dl (lkf E (P (n - 1)) y).toNat) d (upf P n y) z m1 q (by omega) (by omega) (by omega) (by omega) (by omega) hpy hz g2 (tU_k hU g3) g1 (tB_k hB g3) c1' (fun z => by omega) (by have := cst_m (r := r) hN10; omega) (fun m' q' b1 b1' b2 b3 b4 b5 => ?_)
            rw [hn1]
            refine rest m' q' (by have := cst_m (r := r) hN10; omega) b1' b2 b3 b4 ?_
            have e : vR (eN E) t (lkf E) op dl r (n + 1) (upf P n y) (d + dl (lkf E (P (n - 1)) y).toNat) 0 (eN E) z = vs (eN E) t (lkf E) op dl r (n + 1) (upf P n y) (d + dl (lkf E (P (n - 1)) y).toNat) z := by
              unfold vR
              rw [if_neg (by rw [hn1]; exact eyt)]
              cases r with
              | zero => exact (vs_0 (by rw [hn1]; exact eyt)).symm
              | succ r => exact (vs_S (by rw [hn1]; exact eyt)).symm
            rw [e] at b5
            exact b5
    exact fun j n d d' P z m q => main k k (Nat.le_refl _) j n d d' P z m q
theorem r_lb3 (hM : kM H b) (hA : rB ρ E) (hI : ∀ i, i < eK E → ∃ dl, iQ E i dl) (hX : iX E) (hN : rN ρ E) (hG : vG E) (hU0 : iU E) {band e y : Int32} {v1 v2 : Int32} {Q : Int32 → fm_M → Prop} (hQ : ∀ m', rI b m00 m' ρ → tU m' b (eL E) (opF (useF E band e) y) → fE (fm_bd (fm_si m' b 26 (0 : Int32)) fun m1 => fm_bd (fm_si m1 b 27 (0 : Int32)) fun m2 => if px_inb (0 : Int32) (fm_sz H (H.2.1 b 21)) = true then (fm_bd (fm_si m2 (H.2.1 b 21) (0 : Int32).toNatClampNeg v1) fun m3 => fm_bd (fm_si m3 b 24 (1 : Int32)) fun m4 => fm_bd (fm_si m4 b 25 (0 : Int32)) fun m5 => f_X12_layBest_81 H b v2 fm_N (0 : Int32) m5) else none) Q) : ∀ (k q j : Nat) (m : fm_M), rI b m00 m ρ → (∀ i, i < j → m.1 (b + 10) i = bi (opF (useF E band e) y i)) → j + k = eL E → k < q → fE (f_X12_layBest_3 H b v1 v2 e band y q (nn j) m) Q := by
  have hL16 := hG.2.2.2.2.1.2.1
  obtain ⟨h3, -⟩ := rN_3 hN hG
  intro k
  induction k with
  | zero =>
    intro q j m hRr hU h1 h2
    obtain ⟨q, rfl⟩ : ∃ q', q = q' + 1 := ⟨q - 1, by omega⟩
    have ej : j = eL E := by omega
    subst ej
    unfold f_X12_layBest_3
    rw [nl_3, nn_tn (by omega), kM_0 hM, kM_z1 hM, if_pos ((nn_in (by omega)).mpr (by omega)), hRr.1, h3, if_pos ((nn_le (by omega) (by omega)).mpr (Nat.le_refl _))]
    exact hQ m hRr hU
  | succ k ih =>
    intro q j m hRr hU h1 h2
    obtain ⟨q, rfl⟩ : ∃ q', q = q' + 1 := ⟨q - 1, by omega⟩
    have hj : j < eL E := by omega
    have step : ∀ x, fm_nw .boolean x = bi (opF (useF E band e) y j) → ∀ m1, rI b m00 m1 ρ → (∀ i, m1.1 (b + 10) i = m.1 (b + 10) i) → fE (if px_inb (nn j) 16 = true then fm_bd (fm_si m1 (b + 10) j (fm_nw .boolean x)) fun m6 => f_X12_layBest_3 H b v1 v2 e band y q (nn (j + 1)) m6 else none) Q := by
      intro x hx m1 h1' h10
      rw [if_pos ((nn_in (by omega)).mpr (by omega)), fb_d, hx]
      refine ih q (j + 1) _ (rI_s h1' (by omega)) (fun i hi => ?_) (by omega) (by omega)
      by_cases ei : i = j
      · rw [ei]; exact si_s
      · rw [si_o (by omega), h10]
        exact hU i (by omega)
    unfold f_X12_layBest_3
    rw [nl_3, nn_tn (by omega), kM_0 hM, kM_z1 hM, if_pos ((nn_in (by omega)).mpr (by omega)), hRr.1, h3, if_neg (by rw [nn_le (by omega) (by omega)]; omega), kM_23 hM, kM_z10 hM, nn_tn (by omega), nn_inc]
    by_cases ey : nn j = y
    · rw [if_pos ey]
      refine step 0 ?_ m hRr (fun _ => rfl)
      unfold opF
      rw [decide_eq_true ey, Bool.not_true, Bool.and_false]
      decide
    · rw [if_neg ey]
      have hV : ∀ i, i < eK E → nn i ≠ e → rV1 ρ E i := fun i hi _ => by
        obtain ⟨dl, hq⟩ := hI i hi
        exact rB_V1 hA hX hi hq
      rw [r_hasRoom hM hRr.1 hN hG hU0 hA.2.1.1 hA.2.1.2.1 hj hV, fb_n]
      have eop : opF (useF E band e) y j = hr E (eL E) (eK E) (eA E) (eB E) j band e := by
        unfold opF
        rw [decide_eq_false ey, Bool.not_false, Bool.and_true]
        rfl
      cases eh : hr E (eL E) (eK E) (eA E) (eB E) j band e with
      | false =>
        rw [if_pos (by decide)]
        exact step 0 (by rw [eop, eh]; decide) m hRr (fun _ => rfl)
      | true =>
        rw [if_neg (by decide)]
        exact step 1 (by rw [eop, eh]; decide) m hRr (fun _ => rfl)
/-- what the reference's search leaves -/
theorem r_layBest (hM : kM H b) (hr0 : rI b m00 m ρ) (hA : rB ρ E) (hI : ∀ i, i < eK E → ∃ dl, iQ E i dl) (hX : iX E) (hG : vG E) (hU0 : iU E) (hL : iL E) {band e y : Int32} {f0 t : Nat} (hf0 : f0 < eN E) (ht : t < 10) (hft : f0 ≠ t) : fE (f_X12_layBest H b (nn f0) (nn t) e band y m) (fun r m' => r = nn (bsE E band e y f0 t).1 ∧ rI b m00 m' ρ ∧ tB m' b (bsE E band e y f0 t)) := by
  have hN := hA.1
  have hN10 := hG.2.2.2.2.1.1
  unfold f_X12_layBest
  rw [nl_0]
  refine r_lb3 hM hA hI hX hN hG hU0 (fun m1 h1 hU1 => ?_) (eL E) fm_N 0 m hr0 (fun i hi => by omega) (by omega) (by have := hG.2.2.2.2.1.2.1; unfold fm_N; omega)
  rw [fb_d, fb_d, kM_21 hM, kM_z8 hM, if_pos (by decide), fb_d, fb_d, fb_d]
  have g5 : rI b m00 (fm_si (fm_si (fm_si (fm_si (fm_si m1 b 26 0) b 27 0) (b + 8) (0 : Int32).toNatClampNeg (nn f0)) b 24 1) b 25 0) ρ := rI_s (rI_s (rI_s (rI_s (rI_s h1 (by omega)) (by omega)) (by omega)) (by omega)) (by omega)
  have p5 : tP (fm_si (fm_si (fm_si (fm_si (fm_si m1 b 26 0) b 27 0) (b + 8) (0 : Int32).toNatClampNeg (nn f0)) b 24 1) b 25 0) b 1 (fun _ => f0) 0 := by
    refine ⟨?_, si_s, fun k hk => ?_⟩
    · rw [si_o (by omega)]; exact si_s
    · have ek : k = 0 := by omega
      subst ek
      rw [si_o (by omega), si_o (by omega)]
      exact si_s
  have b5 : tB (fm_si (fm_si (fm_si (fm_si (fm_si m1 b 26 0) b 27 0) (b + 8) (0 : Int32).toNatClampNeg (nn f0)) b 24 1) b 25 0) b (0, 0, fun _ => 0) := by
    refine ⟨?_, ?_, fun k hk => absurd hk (by show ¬ k < 0; omega)⟩
    · rw [si_o (by omega), si_o (by omega), si_o (by omega), si_o (by omega)]; exact si_s
    · rw [si_o (by omega), si_o (by omega), si_o (by omega)]; exact si_s
  have u5 : tU (fm_si (fm_si (fm_si (fm_si (fm_si m1 b 26 0) b 27 0) (b + 8) (0 : Int32).toNatClampNeg (nn f0)) b 24 1) b 25 0) b (eL E) (opF (useF E band e) y) := fun j hj => by
    rw [si_o (by omega), si_o (by omega), si_o (by omega), si_o (by omega), si_o (by omega)]
    exact hU1 j hj
  generalize fm_si (fm_si (fm_si (fm_si (fm_si m1 b 26 0) b 27 0) (b + 8) (0 : Int32).toNatClampNeg (nn f0)) b 24 1) b 25 0 = m5 at g5 p5 b5 u5
  have hpth : pth (eN E) f0 (lkf E) 1 (fun _ => f0) := ⟨fun k hk => hf0, fun k k1 k2 => by omega, fun k k' k1 k2 _ => by omega, rfl⟩
  have hbok : bok (eN E) f0 t (lkf E) (0, 0, fun _ => 0) := ⟨by show 0 ≤ 54; omega, by show 0 ≤ 6; omega, fun h => absurd rfl h⟩
  have hc : cst 5 (eN E) ≤ 222221 := by
    rw [← cst_5]
    exact cst_m hN10
  refine r_lay_l hM hN hG (dlF_ok hL) (fun j hj => op_L hj) ht hft 5 (eN E) 0 1 0 0 (fun _ => f0) (0, 0, fun _ => 0) m5 fm_N (by omega) (by omega) (by omega) (by omega) (by omega) hpth hbok g5 u5 p5 b5 (fun z => by omega) (fun _ => rfl) (by unfold fm_N; omega) (fun m' q' a1 a1' a2 a3 a4 a5 => ?_)
  obtain ⟨q', rfl⟩ : ∃ q'', q' = q'' + 1 := ⟨q' - 1, by unfold fm_N at a1; omega⟩
  unfold f_X12_layBest_81
  have e24 : m'.1 b 24 = 0 := a4.1
  have ev : vR (eN E) t (lkf E) (opF (useF E band e) y) (dlF E) 5 1 (fun _ => f0) 0 0 (eN E) (0, 0, fun _ => 0) = bsE E band e y f0 t := by
    unfold vR bsE
    rw [if_neg hft]
    exact (vs_S (r := 4) hft).symm
  rw [ev] at a5
  rw [e24, if_pos (by decide), a5.1]
  exact fE_ret ⟨rfl, a2, a5⟩
end
