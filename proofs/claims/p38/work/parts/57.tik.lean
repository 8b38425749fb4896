/-! a whole tick -/
theorem sP_6 {E : VV} {i : Nat} : ((sP E i).2 = [] ∧ (sP E i).1 0 0 6 = E 0 0 6) ∨ (∃ r, (sP E i).2 = [r] ∧ (sP E i).1 0 0 6 = E 0 0 6 + 1) := by
  unfold sP
  split
  · exact Or.inr ⟨_, rfl, rfl⟩
  · refine Or.inl ⟨rfl, ?_⟩
    show lsE (sdE E i) (nwR E i) 0 0 6 = _
    rw [k89_ls 0 0 6 (by decide) (by decide)]
    rfl
theorem sH_6 {E : VV} {i : Nat} : ((sH E i).2 = [] ∧ (sH E i).1 0 0 6 = E 0 0 6) ∨ (∃ r, (sH E i).2 = [r] ∧ (sH E i).1 0 0 6 = E 0 0 6 + 1) := by
  unfold sH
  split
  · split
    · exact Or.inl ⟨rfl, rfl⟩
    · split
      · exact Or.inl ⟨rfl, rfl⟩
      · exact sP_6
  · exact Or.inl ⟨rfl, rfl⟩
theorem sF_6 {E : VV} {i : Nat} : ((sF E i).2 = [] ∧ (sF E i).1 0 0 6 = E 0 0 6) ∨ (∃ r, (sF E i).2 = [r] ∧ (sF E i).1 0 0 6 = E 0 0 6 + 1) := by
  unfold sF
  split
  · exact sH_6
  · split
    · exact sH_6 (E := bkE E i 1)
    · exact sH_6
/-- active ways are long enough -/
def iA (V : VV) : Prop := ∀ i, i < eK V → 2 ≤ eA V i ∧ (V 9 i 2 ≠ 0 → 2 ≤ eB V i)
theorem iA_ac {V : VV} (h : iA V) {i : Nat} (hi : i < eK V) : 2 ≤ wN V (acB V i) i := by
  obtain ⟨h1, h2⟩ := h i hi
  unfold acB wN
  split
  · rename_i e
    rw [if_pos rfl]
    refine h2 (fun z => ?_)
    rw [z] at e
    exact absurd e (by decide)
  · rw [if_neg (by decide)]
    exact h1
theorem vSm_u {V : VV} {kd i k : Nat} {x : Int32} (h : kd = 5 ∨ kd = 7 ∨ kd = 8 ∨ kd = 9 ∨ kd = 13) : vSm V (uV V kd i k x) := ⟨uV_k (by omega), uV_k (by omega), uV_k (by omega), uV_k (by omega), fun _ => uV_k (by omega), fun _ => uV_k (by omega), fun _ => uV_k (by omega)⟩
theorem vSm_rf (V : VV) : vSm V V := ⟨rfl, rfl, rfl, rfl, fun _ => rfl, fun _ => rfl, fun _ => rfl⟩
theorem vSm_bu {E : VV} {i : Nat} : vSm E (buE E i) := by
  unfold buE
  split
  · split
    · exact vSm_t (vSm_t (vSm_u (by decide)) (vSm_u (by decide))) (vSm_u (by decide))
    · exact vSm_t (vSm_u (by decide)) (vSm_u (by decide))
  · refine vSm_t ?_ (vSm_u (by decide))
    unfold mkE
    split
    · exact vSm_u (by decide)
    · exact vSm_rf _
theorem vSm_dr {E : VV} {i : Nat} : vSm E (drE E i) := by
  unfold drE
  split
  · exact vSm_u (by decide)
  · exact vSm_t (vSm_u (by decide)) (vSm_u (by decide))
theorem vSm_gu {E : VV} {t : Int32} : vSm E (guE E t) := by
  unfold guE
  split
  · exact vSm_u (by decide)
  · exact vSm_rf _
theorem vSm_clF {E : VV} {i : Nat} : vSm E (clF E i) := by
  unfold clF
  split
  · exact vSm_t vSm_gu (vSm_u (by decide))
  · exact vSm_gu
/-- behind takeNewWay -/
def tn (W : VV) (i : Nat) (x : Int32) : VV := uV (uV (uV (twV W i) 14 i 0 0) 9 i 2 0) 8 0 5 x
theorem tn_10 {W : VV} {i : Nat} {x : Int32} (q : Nat) : tn W i x 10 q 0 = if q = i then W 14 i 0 else W 10 q 0 := by
  unfold tn
  rw [uV_k (by decide), uV_k (by decide), uV_k (by decide)]
  by_cases e : q = i
  · subst e
    rw [twV_s (by decide), if_pos rfl]
    rfl
  · rw [twV_n e, if_neg e]
theorem tn_14 {W : VV} {i : Nat} {x : Int32} (q : Nat) : tn W i x 14 q 0 = if q = i then 0 else W 14 q 0 := by
  unfold tn
  rw [uV_k (by decide), uV_k (by decide)]
  by_cases e : q = i
  · subst e
    rw [uV_s, if_pos rfl]
  · rw [uV_i e, twV_n e, if_neg e]
theorem tn_o {W : VV} {i kd q k : Nat} {x : Int32} (h : kd < 8) : tn W i x kd q k = W kd q k := by
  unfold tn
  rw [uV_k (by omega), uV_k (by omega), uV_k (by omega), twV_o (by omega)]
theorem eA_tn {W : VV} {i : Nat} {x : Int32} (q : Nat) : eA (tn W i x) q = if q = i then eB W i else eA W q := by
  unfold eA eB
  rw [tn_10]
  split <;> rfl
theorem eB_tn {W : VV} {i : Nat} {x : Int32} (q : Nat) : eB (tn W i x) q = if q = i then 0 else eB W q := by
  unfold eB
  rw [tn_14]
  split <;> rfl
theorem vG_tn {W : VV} {i : Nat} {x : Int32} (hi : i < 8) (hG : vG W) : vG (tn W i x) := by
  obtain ⟨g1, g2, g3, g4, g5, g6, g7, g8⟩ := hG
  have e1 : eN (tn W i x) = eN W := by unfold eN; rw [tn_o (by decide)]
  have e2 : eL (tn W i x) = eL W := by unfold eL; rw [tn_o (by decide)]
  have e3 : eK (tn W i x) = eK W := by unfold eK; rw [tn_o (by decide)]
  have e4 : eP (tn W i x) = eP W := by unfold eP; rw [tn_o (by decide)]
  refine ⟨?_, ?_, ?_, ?_, ?_, ?_, ?_, ?_⟩
  · rw [e1, tn_o (by decide)]; exact g1
  · rw [e2, tn_o (by decide)]; exact g2
  · rw [e3, tn_o (by decide)]; exact g3
  · rw [e4, tn_o (by decide)]; exact g4
  · rw [e1, e2, e3, e4]; exact g5
  · intro q hq
    rw [tn_o (by decide), show eZ (tn W i x) q = eZ W q from by unfold eZ; rw [tn_o (by decide)]]
    exact g6 q hq
  · intro q hq
    rw [tn_10, eA_tn]
    split
    · exact g8 i hi
    · exact g7 q hq
  · intro q hq
    rw [tn_14, eB_tn]
    split
    · exact ⟨by decide, by omega⟩
    · exact g8 q hq
theorem vG_mC {V : VV} {i : Nat} (hi : i < 8) (hG : vG V) : vG (mC V i) := by
  unfold mC
  split
  · exact vG_sm vSm_bu hG
  · split
    · exact vG_sm vSm_dr hG
    · split
      · unfold clE
        split
        · exact vG_sm vSm_clF hG
        · exact vG_tn hi (vG_sm vSm_clF hG)
      · exact hG
theorem mC_o {V : VV} {i kd q k : Nat} (h : kd ≤ 4) : mC V i kd q k = V kd q k := by
  unfold mC
  split
  · unfold buE
    split
    · split
      · rw [uV_k (by omega), uV_k (by omega), uV_k (by omega)]
      · rw [uV_k (by omega), uV_k (by omega)]
    · rw [uV_k (by omega)]
      unfold mkE
      split
      · rw [uV_k (by omega)]
      · rfl
  · split
    · unfold drE
      split
      · rw [uV_k (by omega)]
      · rw [uV_k (by omega), uV_k (by omega)]
    · split
      · have h9 : clF V i kd q k = V kd q k := by
          unfold clF guE
          split
          · split
            · rw [uV_k (by omega), uV_k (by omega)]
            · rw [uV_k (by omega)]
          · split
            · rw [uV_k (by omega)]
            · rfl
        unfold clE
        split
        · exact h9
        · exact (tn_o (by omega)).trans h9
      · rfl
theorem eK_mC {V : VV} {i : Nat} : eK (mC V i) = eK V := by
  unfold eK
  rw [mC_o (by decide)]
theorem mC_18 {V : VV} {i q k : Nat} : mC V i 18 q k = V 18 q k := by
  unfold mC
  split
  · unfold buE
    split
    · split
      · rw [uV_k (by omega), uV_k (by omega), uV_k (by omega)]
      · rw [uV_k (by omega), uV_k (by omega)]
    · rw [uV_k (by omega)]
      unfold mkE
      split
      · rw [uV_k (by omega)]
      · rfl
  · split
    · unfold drE
      split
      · rw [uV_k (by omega)]
      · rw [uV_k (by omega), uV_k (by omega)]
    · split
      · have h9 : clF V i 18 q k = V 18 q k := by
          unfold clF guE
          split
          · split
            · rw [uV_k (by omega), uV_k (by omega)]
            · rw [uV_k (by omega)]
          · split
            · rw [uV_k (by omega)]
            · rfl
        unfold clE
        split
        · exact h9
        · rw [uV_k (by omega), uV_k (by omega), uV_k (by omega), twV_o (by omega)]
          exact h9
      · rfl
theorem iA_sm {V V' : VV} (h : vSm V V') (hp : ∀ q, V' 9 q 2 ≠ 0 → V 9 q 2 ≠ 0) (hA : iA V) : iA V' := by
  intro q hq
  have e1 : eK V' = eK V := by unfold eK; rw [h.2.2.1]
  have e2 : eA V' q = eA V q := by unfold eA; rw [h.2.2.2.2.2.1]
  have e3 : eB V' q = eB V q := by unfold eB; rw [h.2.2.2.2.2.2]
  rw [e1] at hq
  rw [e2, e3]
  exact ⟨(hA q hq).1, fun z => (hA q hq).2 (hp q z)⟩
theorem iA_mC {V : VV} {i : Nat} (hA : iA V) : iA (mC V i) := by
  unfold mC
  have ne : ∀ q, ∀ W : VV, W 9 q 2 = V 9 q 2 → W 9 q 2 ≠ 0 → V 9 q 2 ≠ 0 := fun q W e z => by rw [← e]; exact z
  split
  · rename_i e
    refine iA_sm vSm_bu (fun q z => ?_) hA
    by_cases eq : q = i
    · rw [eq, e]; decide
    · refine ne q (buE V i) ?_ z
      unfold buE
      split
      · split
        · rw [uV_i eq, uV_i eq, uV_i eq]
        · rw [uV_i eq, uV_i eq]
      · rw [uV_i eq]
        unfold mkE
        split
        · rw [uV_k (by decide)]
        · rfl
  · split
    · rename_i e
      refine iA_sm vSm_dr (fun q z => ?_) hA
      by_cases eq : q = i
      · rw [eq, e]; decide
      · refine ne q (drE V i) ?_ z
        unfold drE
        split
        · rw [uV_i eq]
        · rw [uV_i eq, uV_i eq]
    · split
      · rename_i e
        have h9 : ∀ q, clF V i 9 q 2 = V 9 q 2 := by
          intro q
          unfold clF guE
          split
          · split
            · rw [uV_k (by decide), uV_k (by decide)]
            · rw [uV_k (by decide)]
          · split
            · rw [uV_k (by decide)]
            · rfl
        have hF : iA (clF V i) := iA_sm vSm_clF (fun q z => by rw [← h9 q]; exact z) hA
        unfold clE
        split
        · exact hF
        · show iA (tn (clF V i) i _)
          intro q hq
          have ek : eK (tn (clF V i) i (V 8 0 5 + 1)) = eK (clF V i) := by unfold eK; rw [tn_o (by decide)]
          rw [ek] at hq
          rw [eA_tn, eB_tn]
          by_cases eq : q = i
          · subst eq
            rw [if_pos rfl, if_pos rfl]
            refine ⟨(hF q hq).2 (by rw [h9, e]; decide), fun z => absurd ?_ z⟩
            unfold tn
            rw [uV_k (by decide), uV_s]
          · rw [if_neg eq, if_neg eq]
            refine ⟨(hF q hq).1, fun z => (hF q hq).2 (fun y => z ?_)⟩
            unfold tn
            rw [uV_k (by decide), uV_i eq, uV_k (by decide), twV_o (by decide)]
            exact y
      · exact hA
theorem mvC_i {V : VV} : ∀ {k j : Nat}, j + k ≤ 8 → vG V → iA V → vG (mvC V j k) ∧ iA (mvC V j k) ∧ (∀ kd q x, kd ≤ 4 → mvC V j k kd q x = V kd q x) ∧ ∀ q x, mvC V j k 18 q x = V 18 q x := by
  intro k
  induction k generalizing V with
  | zero => exact fun _ hG hA => ⟨hG, hA, fun _ _ _ _ => rfl, fun _ _ => rfl⟩
  | succ k ih =>
    intro j h hG hA
    have h1 := ih (V := mC V j) (j := j + 1) (by omega) (vG_mC (by omega) hG) (iA_mC hA)
    exact ⟨h1.1, h1.2.1, fun kd q x hk => (h1.2.2.1 kd q x hk).trans (mC_o hk), fun q x => (h1.2.2.2 q x).trans mC_18⟩
theorem er_mC {V : VV} {i : Nat} : er (mC V i) = mC (er V) i := by
  have et : ∀ W : VV, er (twV W i) = twV (er W) i := by
    intro W
    funext kd q k
    simp only [er_at, twV]
    grind
  have em : ∀ t, er (mkE V t) = mkE (er V) t := by
    intro t
    unfold mkE
    split
    · exact er_uV (by decide)
    · rfl
  have eg : ∀ t, er (guE V t) = guE (er V) t := by
    intro t
    unfold guE
    split
    · exact er_uV (by decide)
    · rfl
  have ec : er (clF V i) = clF (er V) i := by
    show _ = (if 0 ≤ clX V i ∧ clX V i < eA V i then uV (guE (er V) (slA V 10 i (clX V i))) 13 i (clX V i).toNat (-1) else guE (er V) (slA V 10 i (clX V i)))
    unfold clF
    split
    · rw [er_uV (by decide), eg]
    · rw [eg]
  show _ = (if V 9 i 2 = 1 then buE (er V) i else if V 9 i 2 = 2 then drE (er V) i else if V 9 i 2 = 3 then clE (er V) i else er V)
  unfold mC
  split
  · show _ = (if V 9 i 10 ≤ 0 then
    (if V 0 0 8 = 1 then uV (uV (uV (er V) 9 i 2 2) 9 i 9 (dlO V i)) 9 i 8 (pm_mm true 0 (dlO V i - dlN V i)) else uV (uV (er V) 9 i 2 2) 9 i 9 (dlO V i))
  else uV (mkE (er V) (slA V 14 i (V 9 i 10).toInt)) 9 i 10 (V 9 i 10 - 1))
    unfold buE
    split
    · split
      · rw [er_uV (by decide), er_uV (by decide), er_uV (by decide)]
      · rw [er_uV (by decide), er_uV (by decide)]
    · rw [er_uV (by decide), em]
  · split
    · show _ = (if 0 < V 9 i 9 - 1 then uV (er V) 9 i 9 (V 9 i 9 - 1) else uV (uV (er V) 9 i 9 (V 9 i 9 - 1)) 9 i 2 3)
      unfold drE
      split
      · rw [er_uV (by decide)]
      · rw [er_uV (by decide), er_uV (by decide)]
    · split
      · show _ = (if clX V i < eA V i - 1 then clF (er V) i else uV (uV (uV (twV (clF (er V) i) i) 14 i 0 0) 9 i 2 0) 8 0 5 (V 8 0 5 + 1))
        unfold clE
        split
        · exact ec
        · rw [er_uV (by decide), er_uV (by decide), er_uV (by decide), et, ec]
      · rfl
theorem er_mvC {V : VV} : ∀ {k j : Nat}, er (mvC V j k) = mvC (er V) j k := by
  intro k
  induction k generalizing V with
  | zero => intro j; rfl
  | succ k ih =>
    intro j
    show er (mvC (mC V j) (j + 1) k) = mvC (mC (er V) j) (j + 1) k
    rw [ih, er_mC]
section
variable {H : fm_H} {s : Nat} {m : fm_M} {V : VV}
theorem c_tick_32_l (hS : kS H s) : ∀ (k q j P : Nat) (m : fm_M) (V : VV), pS m s → cv m s = V → vG V → (∀ i, i < eK V → 2 ≤ wN V (acB V i) i) → V 0 0 6 = ii P → P ≤ 60 → j + k = eK V → k < q → fE (f_X7_tick_32 H s q (ii j) m) (fun _ m' => ∃ V', mS s m m' V' ∧ er V' = uV (sA (er V) j k).1 0 0 9 (V 0 0 9 + 1) ∧ sg V' 0 (P + (sA (er V) j k).2.length) = sg V 0 P ++ (sA (er V) j k).2 ∧ P + (sA (er V) j k).2.length ≤ 60 ∧ V' 0 0 6 = ii (P + (sA (er V) j k).2.length : Nat)) := by
  intro k
  induction k with
  | zero =>
    intro q j P m V hp hV hG hA hP h60 hj hq
    obtain ⟨q, rfl⟩ : ∃ q', q = q' + 1 := ⟨q - 1, by omega⟩
    have hK8 := hG.2.2.2.2.1.2.2.1
    unfold f_X7_tick_32
    rw [rd0 hV, hG.2.2.1, rd0 hV]
    refine fE_p (by rw [ii_le (by omega) (by omega) (by omega) (by omega)]; omega) ?_
    refine fE_put (mI_rf hp hV) 0 0 9 rfl rfl (fun m1 h1 => fE_ret ⟨_, mI_S h1, ?_, ?_, h60, ?_⟩)
    · rw [er_uV (by decide)]
      rfl
    · show sg _ 0 (P + 0) = sg V 0 P ++ []
      rw [List.append_nil]
      exact sg_c (fun q _ _ => rfl)
    · exact hP
  | succ k ih =>
    intro q j P m V hp hV hG hA hP h60 hj hq
    obtain ⟨q, rfl⟩ : ∃ q', q = q' + 1 := ⟨q - 1, by omega⟩
    have hK8 := hG.2.2.2.2.1.2.2.1
    unfold f_X7_tick_32
    rw [rd0 hV, hG.2.2.1, ii_inc]
    refine fE_n (by rw [ii_le (by omega) (by omega) (by omega) (by omega)]; omega) ?_
    refine fE_be (c_sendFrom hS hp hV hG (i := j) (P := P) (by omega) hP h60 (hA j (by omega))) (fun _ m1 ⟨V1, a1, a2, a3, a4⟩ => ?_)
    have k6 : kS6 (er V) (er V1) := by rw [a2]; exact kS6_sF
    have p9 : ph9 (er V) (er V1) := by rw [a2]; exact ph9_sF
    have hP1 : V1 0 0 6 = ii (P + (sF (er V) j).2.length : Nat) ∧ P + (sF (er V) j).2.length ≤ 60 ∧ sg V1 0 (P + (sF (er V) j).2.length) = sg V 0 P ++ (sF (er V) j).2 := by
      have e6 : V1 0 0 6 = (sF (er V) j).1 0 0 6 := by rw [← a2]; rfl
      have eV : er V 0 0 6 = ii P := hP
      rcases sF_6 (E := er V) (i := j) with ⟨b1, b2⟩ | ⟨r, b1, b2⟩
      · rw [e6, b2, b1, eV]
        refine ⟨rfl, h60, ?_⟩
        rw [List.append_nil]
        exact sg_c (fun q _ h => a3 q (by simpa using h))
      · obtain ⟨-, c2, c3⟩ := a4 r [] b1
        rw [e6, b2, b1, eV, ii_inc]
        refine ⟨rfl, by simp only [List.length_cons, List.length_nil]; omega, ?_⟩
        show sg V1 0 (P + 1) = _
        rw [sg_a, sg_c (fun q _ h => a3 q (by omega)), sg_1, Nat.zero_add, c2]
    have hG1 : vG V1 := vG_6 hG k6 hP1.1 hP1.2.1
    have eK1 : eK V1 = eK V := by
      unfold eK
      rw [show V1 0 0 5 = V 0 0 5 from k6 0 0 5 (by decide) (by decide) (by decide)]
    have hA1 : ∀ i, i < eK V1 → 2 ≤ wN V1 (acB V1 i) i := by
      intro i hi
      rw [eK1] at hi
      have g := hA i hi
      have e2 : V1 9 i 2 = V 9 i 2 := p9 i
      have e10 : V1 10 i 0 = V 10 i 0 := k6 10 i 0 (by decide) (by decide) (by omega)
      have e14 : V1 14 i 0 = V 14 i 0 := k6 14 i 0 (by decide) (by decide) (by omega)
      unfold acB wN eA eB at g ⊢
      rw [e2, e10, e14]
      exact g
    have h9 := ih q (j + 1) (P + (sF (er V) j).2.length) m1 V1 a1.2.1 a1.1 hG1 hA1 hP1.1 hP1.2.1 (by omega) (by omega)
    rw [a2, show V1 0 0 9 = V 0 0 9 from k6 0 0 9 (by decide) (by decide) (by decide), hP1.2.2] at h9
    refine fE_w h9 (fun _ m' ⟨V', b1, b2, b3, b4, b5⟩ => ⟨V', mS_tr (mI_S a1) b1, b2, ?_, ?_, ?_⟩)
    · show sg V' 0 (P + ((sF (er V) j).2 ++ (sA (sF (er V) j).1 (j + 1) k).2).length) = sg V 0 P ++ ((sF (er V) j).2 ++ (sA (sF (er V) j).1 (j + 1) k).2)
      rw [List.length_append, ← Nat.add_assoc, b3, List.append_assoc]
    · show P + ((sF (er V) j).2 ++ (sA (sF (er V) j).1 (j + 1) k).2).length ≤ 60
      rw [List.length_append, ← Nat.add_assoc]
      exact b4
    · show V' 0 0 6 = ii (P + ((sF (er V) j).2 ++ (sA (sF (er V) j).1 (j + 1) k).2).length : Nat)
      rw [List.length_append, ← Nat.add_assoc]
      exact b5
theorem c_tick_6_l (hS : kS H s) {Q : Unit → fm_M → Prop} : ∀ (k q j : Nat) (m : fm_M) (V : VV), pS m s → cv m s = V → vG V → j + k = eK V → k < q → (∀ m', mS s m m' (mvC V j k) → fE (f_X7_tick_32 H s fm_N 0 m') Q) → fE (f_X7_tick_6 H s q (ii j) m) Q := by
  intro k
  induction k with
  | zero =>
    intro q j m V hp hV hG hj hq hQ
    obtain ⟨q, rfl⟩ : ∃ q', q = q' + 1 := ⟨q - 1, by omega⟩
    have hK8 := hG.2.2.2.2.1.2.2.1
    unfold f_X7_tick_6
    rw [rd0 hV, hG.2.2.1]
    refine fE_p (by rw [ii_le (by omega) (by omega) (by omega) (by omega)]; omega) (hQ m (mI_S (mI_rf hp hV)))
  | succ k ih =>
    intro q j m V hp hV hG hj hq hQ
    obtain ⟨q, rfl⟩ : ∃ q', q = q' + 1 := ⟨q - 1, by omega⟩
    have hK8 := hG.2.2.2.2.1.2.2.1
    unfold f_X7_tick_6
    rw [rd0 hV, hG.2.2.1, kS_3 hS, kS_z26 hS, ii_tnn (by omega), ii_inc]
    refine fE_n (by rw [ii_le (by omega) (by omega) (by omega) (by omega)]; omega) (fE_p (by rw [ii_inb (by omega) (by omega)]; omega) (fE_p (pS_cb hS hp (by omega)) ?_))
    refine fE_be (c_moveCircuit hS hp hV hG (by omega)) (fun _ m1 h1 => ?_)
    exact ih q (j + 1) m1 (mC V j) h1.2.1 h1.1 (vG_mC (by omega) hG) (by rw [eK_mC]; omega) (by omega) (fun m' h' => hQ m' (mS_tr h1 h'))
theorem kS6_sA {E : VV} : ∀ {k j : Nat}, kS6 E (sA E j k).1 := by
  intro k
  induction k generalizing E with
  | zero => intro j; exact kS6_k (k89_rf E)
  | succ k ih => intro j; exact kS6_t kS6_sF ih
/-- a state in memory: its numbers without the packets, and the packets -/
def aS (m : fm_M) (s : Nat) (E : VV) (l : List (Nat → Int32)) : Prop := pS m s ∧ er (cv m s) = E ∧ sg (cv m s) 0 l.length = l ∧ E 0 0 6 = ii l.length ∧ l.length ≤ 60 ∧ vG E
theorem mvP_len {E : VV} : ∀ {l : List (Nat → Int32)}, (mvP E l).1.length ≤ l.length := by
  intro l
  induction l generalizing E with
  | nil => exact Nat.le_refl _
  | cons r l ih =>
    rw [mvP_c]
    dsimp only
    split
    · rw [List.length_cons, List.length_cons]
      have := ih (E := (gP E r).2.2)
      omega
    · rw [List.length_cons]
      have := ih (E := (gP E r).2.2)
      omega
theorem mvP_k {E : VV} : ∀ {l : List (Nat → Int32)}, k89 E (mvP E l).2 := by
  intro l
  induction l generalizing E with
  | nil => exact k89_rf E
  | cons r l ih =>
    rw [mvP_c]
    intro kd i k h1 h2
    exact (ih (E := (gP E r).2.2) kd i k h1 h2).trans (k89_gP kd i k h1 h2)
/-- phases stay while packets move -/
theorem ph9_dv {V : VV} {r : Nat → Int32} : ph9 V (dvE V r) := by
  intro i
  unfold dvE
  split
  · split
    · rw [uV_p (by decide), uV_p (by decide), uV_p (by decide), uV_k (by decide)]
    · rw [uV_k (by decide), uV_p (by decide), uV_p (by decide), uV_p (by decide), uV_k (by decide)]
  · rw [uV_k (by decide)]
theorem ph9_gP {E : VV} {r : Nat → Int32} : ph9 E (gP E r).2.2 := by
  have w : ∀ r b c n q, ph9 E (gW E r b c n q).2.2 := by
    intro r b c n q
    unfold gW
    split
    · exact ph9_dv
    · split
      · exact fun _ => rfl
      · exact ph9_ls
  unfold gP
  split
  · exact fun _ => rfl
  · unfold gO
    split
    · split
      · exact w _ _ _ _ _
      · exact w _ _ _ _ _
    · exact ph9_ls
theorem mvP_9 {E : VV} : ∀ {l : List (Nat → Int32)}, ph9 E (mvP E l).2 := by
  intro l
  induction l generalizing E with
  | nil => exact fun _ => rfl
  | cons r l ih =>
    rw [mvP_c]
    intro i
    exact (ih (E := (gP E r).2.2) i).trans (ph9_gP i)
theorem c_tick (hS : kS H s) {E : VV} {l : List (Nat → Int32)} (ha : aS m s E l) (hA : iA E) : fE (f_X7_tick H s m) (fun _ m' => aS m' s (tkE E l).1 (tkE E l).2 ∧ fr s (s + 160) m m') := by
  obtain ⟨hp, hE, hl, h6, h60, hG⟩ := ha
  obtain ⟨V, hV⟩ : ∃ V, cv m s = V := ⟨_, rfl⟩
  rw [hV] at hE hl
  subst hE
  have hGV : vG V := hG
  have eP1 : eP V = l.length := by
    unfold eP
    rw [show V 0 0 6 = ii l.length from h6, ii_toInt (by omega) (by omega)]
    rfl
  unfold f_X7_tick
  refine fE_be (c_movePackets hS hp hV hGV) (fun _ m1 ⟨V1, a1, a2, a3⟩ => ?_)
  rw [eP1, hl] at a2 a3
  have hlen := mvP_len (E := er V) (l := l)
  have hk : kS6 (er V) (er V1) := by
    rw [a2]
    exact kS6_u (kS6_k mvP_k) (Or.inr (Or.inr ⟨rfl, rfl⟩))
  have h61 : V1 0 0 6 = ii ((mvP (er V) l).1.length : Nat) := by
    have : er V1 0 0 6 = ii ((mvP (er V) l).1.length : Nat) := by rw [a2, uV_s]
    exact this
  have hG1 : vG V1 := vG_6 hGV hk h61 (by omega)
  have p9 : ph9 (er V) (er V1) := by
    rw [a2]
    intro i
    rw [uV_k (by decide)]
    exact mvP_9 i
  have hA1 : iA V1 := by
    have e1 : eK V1 = eK (er V) := by
      unfold eK
      rw [show V1 0 0 5 = er V 0 0 5 from hk 0 0 5 (by decide) (by decide) (by decide)]
    intro i hi
    rw [e1] at hi
    have g := hA i hi
    have e10 : V1 10 i 0 = V 10 i 0 := hk 10 i 0 (by decide) (by decide) (by omega)
    have e14 : V1 14 i 0 = V 14 i 0 := hk 14 i 0 (by decide) (by decide) (by omega)
    have e9 : V1 9 i 2 = V 9 i 2 := p9 i
    unfold eA eB at g ⊢
    rw [e10, e14, e9]
    exact g
  have hK8 := hG1.2.2.2.2.1.2.2.1
  have eK1 : eK V1 = eK (er V) := by
    unfold eK
    rw [show V1 0 0 5 = er V 0 0 5 from hk 0 0 5 (by decide) (by decide) (by decide)]
  rw [ii_0]
  refine c_tick_6_l hS (eK V1) fm_N 0 m1 V1 a1.2.1 a1.1 hG1 (by omega) (by unfold fm_N; omega) (fun m2 h2 => ?_)
  obtain ⟨c1, c2, c3, c4⟩ := mvC_i (V := V1) (k := eK V1) (j := 0) (by omega) hG1 hA1
  have eK2 : eK (mvC V1 0 (eK V1)) = eK V1 := by
    show ((mvC V1 0 (eK V1)) 0 0 5).toInt.toNat = (V1 0 0 5).toInt.toNat
    rw [c3 0 0 5 (by decide)]
  rw [ii_0]
  have h9 := c_tick_32_l hS (eK V1) fm_N 0 (mvP (er V) l).1.length m2 _ h2.2.1 h2.1 c1 (fun i hi => iA_ac c2 hi) ((c3 0 0 6 (by decide)).trans h61) (by omega) (by rw [eK2]; omega) (by unfold fm_N; omega)
  rw [er_mvC, c3 0 0 9 (by decide), sg_c (V := V1) (fun q _ _ => funext fun x => c4 q x), a3, eK1, a2, show V1 0 0 9 = er V 0 0 9 from hk 0 0 9 (by decide) (by decide) (by decide)] at h9
  refine fE_w h9 (fun _ m' ⟨V', b1, b2, b3, b4, b5⟩ => ?_)
  have bm := mS_tr a1 (mS_tr h2 b1)
  have hl2 : (tkE (er V) l).2.length = (mvP (er V) l).1.length + (sA (mvC (uV (mvP (er V) l).2 0 0 6 (ii (mvP (er V) l).1.length)) 0 (eK (er V))) 0 (eK (er V))).2.length := by
    unfold tkE
    rw [List.length_append]
  have h66 : (tkE (er V) l).1 0 0 6 = ii ((tkE (er V) l).2.length : Nat) := by
    rw [hl2]
    have : er V' 0 0 6 = (tkE (er V) l).1 0 0 6 := by rw [b2]; rfl
    rw [← this]
    exact b5
  refine ⟨⟨bm.2.1, ?_, ?_, ?_, ?_, ?_⟩, bm.2.2⟩
  · rw [bm.1]
    exact b2
  · rw [bm.1, hl2]
    exact b3
  · exact h66
  · rw [hl2]
    exact b4
  · have g : vG (sA (mvC (uV (mvP (er V) l).2 0 0 6 (ii (mvP (er V) l).1.length)) 0 (eK (er V))) 0 (eK (er V))).1 := by
      refine vG_6 (V := mvC V1 0 (eK V1)) c1 (n := (tkE (er V) l).2.length) ?_ h66 (by rw [hl2]; exact b4)
      rw [er_mvC, a2, eK1]
      intro kd i k z1 z2 z3
      rw [er_at]
      split
      · rename_i e18
        subst e18
        rw [← a2, ← eK1, ← er_mvC]
        rfl
      · exact kS6_sA kd i k z1 z2 z3
    exact g
end
