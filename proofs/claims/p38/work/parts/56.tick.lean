/-! sendings and ticks: what is told, and the class does it -/
def bkE (E : VV) (i : Nat) (y : Int32) : VV := uV (uV E 9 i 3 (pm_mm false (E 9 i 3 + y) 9)) 8 0 3 (E 8 0 3 + (E 9 i 3 + y - pm_mm false (E 9 i 3 + y) 9))
/-- the base of the active way -/
def acB (E : VV) (i : Nat) : Nat := if E 9 i 2 = 2 ∨ E 9 i 2 = 3 then 14 else 10
def nwR (E : VV) (i : Nat) : Nat → Int32 := pO E (acB E i) i 1 (fun k => if k = 0 then ii i else if k = 1 then E 9 i 4 else if k = 2 then E 0 0 9 + 1 else 0)
def sdE (E : VV) (i : Nat) : VV := uV (uV (uV E 9 i 3 (E 9 i 3 - 1)) 9 i 4 (E 9 i 4 + 1)) 8 0 0 (E 8 0 0 + 1)
def sP (E : VV) (i : Nat) : VV × List (Nat → Int32) := if uP E (nwR E i 3) = true then (uV (sdE E i) 0 0 6 (E 0 0 6 + 1), [nwR E i]) else (lsE (sdE E i) (nwR E i), [])
def sH (E : VV) (i : Nat) : VV × List (Nat → Int32) := if E 9 i 8 ≤ 0 then (if E 9 i 3 ≤ 0 then (E, []) else if 60 ≤ E 0 0 6 then (E, []) else sP E i) else (uV E 9 i 8 (E 9 i 8 - 1), [])
def sF (E : VV) (i : Nat) : VV × List (Nat → Int32) := if E 9 i 1 ≤ 0 then sH E i else if E 0 0 9 + 1 - (E 0 0 9 + 1) / E 9 i 1 * E 9 i 1 = 0 then sH (bkE E i 1) i else sH E i
def sA (E : VV) : Nat → Nat → VV × List (Nat → Int32)
  | _, 0 => (E, [])
  | j, k + 1 => ((sA (sF E j).1 (j + 1) k).1, (sF E j).2 ++ (sA (sF E j).1 (j + 1) k).2)
/-- a tick -/
def tkE (E : VV) (l : List (Nat → Int32)) : VV × List (Nat → Int32) :=
  (uV (sA (mvC (uV (mvP E l).2 0 0 6 (ii (mvP E l).1.length)) 0 (eK E)) 0 (eK E)).1 0 0 9 (E 0 0 9 + 1), (mvP E l).1 ++ (sA (mvC (uV (mvP E l).2 0 0 6 (ii (mvP E l).1.length)) 0 (eK E)) 0 (eK E)).2)
/-- only totals, circuits' numbers and the number of packets differ -/
def kS6 (V V' : VV) : Prop := ∀ kd i k, kd ≠ 8 → kd ≠ 9 → ¬ (kd = 0 ∧ k = 6) → V' kd i k = V kd i k
theorem kS6_k {V V' : VV} (h : k89 V V') : kS6 V V' := fun kd i k h1 h2 _ => h kd i k h1 h2
theorem kS6_u {V V' : VV} {kd i k : Nat} {x : Int32} (h : kS6 V V') (hk : kd = 8 ∨ kd = 9 ∨ (kd = 0 ∧ k = 6)) : kS6 V (uV V' kd i k x) := fun kd' i' k' h1 h2 h3 => by
  rw [uV_at, if_neg (by omega)]
  exact h kd' i' k' h1 h2 h3
theorem kS6_t {V V1 V2 : VV} (h1 : kS6 V V1) (h2 : kS6 V1 V2) : kS6 V V2 := fun kd i k a b c => (h2 kd i k a b c).trans (h1 kd i k a b c)
theorem kS6_sP {E : VV} {i : Nat} : kS6 E (sP E i).1 := by
  have h : kS6 E (sdE E i) := kS6_u (kS6_u (kS6_u (kS6_k (k89_rf E)) (Or.inr (Or.inl rfl))) (Or.inr (Or.inl rfl))) (Or.inl rfl)
  unfold sP
  split
  · exact kS6_u h (Or.inr (Or.inr ⟨rfl, rfl⟩))
  · exact kS6_t h (kS6_k k89_ls)
theorem kS6_sH {E : VV} {i : Nat} : kS6 E (sH E i).1 := by
  unfold sH
  split
  · split
    · exact kS6_k (k89_rf E)
    · split
      · exact kS6_k (k89_rf E)
      · exact kS6_sP
  · exact kS6_u (kS6_k (k89_rf E)) (Or.inr (Or.inl rfl))
theorem kS6_sF {E : VV} {i : Nat} : kS6 E (sF E i).1 := by
  unfold sF
  split
  · exact kS6_sH
  · split
    · exact kS6_t (kS6_u (kS6_u (kS6_k (k89_rf E)) (Or.inr (Or.inl rfl))) (Or.inl rfl)) kS6_sH
    · exact kS6_sH
/-- phases stay in sendings -/
def ph9 (V V' : VV) : Prop := ∀ i, V' 9 i 2 = V 9 i 2
theorem ph9_ls {V : VV} {r : Nat → Int32} : ph9 V (lsE V r) := by
  intro i
  unfold lsE
  split
  · rw [uV_p (by decide), uV_k (by decide)]
  · rw [uV_k (by decide)]
theorem ph9_sH {E : VV} {i : Nat} : ph9 E (sH E i).1 := by
  intro j
  unfold sH
  split
  · split
    · rfl
    · split
      · rfl
      · unfold sP
        split
        · show uV (uV (uV (uV E 9 i 3 (E 9 i 3 - 1)) 9 i 4 (E 9 i 4 + 1)) 8 0 0 (E 8 0 0 + 1)) 0 0 6 (E 0 0 6 + 1) 9 j 2 = _
          rw [uV_k (by decide), uV_k (by decide), uV_p (by decide), uV_p (by decide)]
        · show lsE (uV (uV (uV E 9 i 3 (E 9 i 3 - 1)) 9 i 4 (E 9 i 4 + 1)) 8 0 0 (E 8 0 0 + 1)) _ 9 j 2 = _
          rw [ph9_ls, uV_k (by decide), uV_p (by decide), uV_p (by decide)]
  · show uV E 9 i 8 _ 9 j 2 = _
    rw [uV_p (by decide)]
theorem ph9_sF {E : VV} {i : Nat} : ph9 E (sF E i).1 := by
  intro j
  unfold sF
  split
  · exact ph9_sH j
  · split
    · rw [ph9_sH j]
      unfold bkE
      rw [uV_k (by decide), uV_p (by decide)]
    · exact ph9_sH j
theorem vG_6 {V V' : VV} (hG : vG V) (h : kS6 (er V) (er V')) {n : Nat} (hn : V' 0 0 6 = ii n) (h60 : n ≤ 60) : vG V' := by
  have h1 : vSm V (uV V' 0 0 6 (V 0 0 6)) := by
    refine ⟨h 1 0 0 (by decide) (by decide) (by decide), h 1 0 1 (by decide) (by decide) (by decide), h 0 0 5 (by decide) (by decide) (by decide), uV_s, fun i => h 4 0 i (by decide) (by decide) (by omega), fun i => h 10 i 0 (by decide) (by decide) (by omega), fun i => h 14 i 0 (by decide) (by decide) (by omega)⟩
  have h2 := vG_sm h1 hG
  have e : eP V' = n := by
    unfold eP
    rw [hn, ii_toInt (by omega) (by omega)]
    rfl
  obtain ⟨g1, g2, g3, g4, g5, g6, g7, g8⟩ := h2
  exact ⟨g1, g2, g3, by rw [hn, e], ⟨g5.1, g5.2.1, g5.2.2.1, by rw [e]; exact h60⟩, g6, g7, g8⟩
section
variable {H : fm_H} {s : Nat} {m : fm_M} {V : VV}
theorem c_addToBacklog (hS : kS H s) (hp : pS m s) (hV : cv m s = V) {i : Nat} (hi : i < 8) (y : Int32) : fE (f_X7_addToBacklog H s (m.2.1 (s + 26) i) y m) (fun _ m' => mI s m m' (bkE V i y)) := by
  unfold f_X7_addToBacklog
  rw [rd9 hV hi]
  refine fE_put (mI_rf hp hV) 9 i 3 (v9 hi) rfl (fun m1 h1 => ?_)
  have r3 : m1.1 (m.2.1 (s + 26) i) 3 = pm_mm false (V 9 i 3 + y) 9 := (mI_9 h1 hi 3).trans uV_s
  rw [kS_2 hS, mI_8 h1 3, r3]
  exact fE_put h1 8 0 3 rfl rfl (fun m2 h2 => fE_ret h2)
theorem c_activeA (hS : kS H s) (hp : pS m s) (hV : cv m s = V) {i : Nat} (hi : i < 8) : f_X0_activeWay H (m.2.1 (s + 26) i) m = some (wA m s (acB V i) i, m) := by
  rw [c_activeWay hS hp hV hi]
  unfold acB wA
  split
  · rw [if_pos rfl]
  · rw [if_neg (by decide)]
theorem acB_b {V : VV} {i : Nat} : acB V i = 10 ∨ acB V i = 14 := by
  unfold acB
  split
  · exact Or.inr rfl
  · exact Or.inl rfl
theorem c_sendPacket (hS : kS H s) (hp : pS m s) (hV : cv m s = V) (hG : vG V) {i P : Nat} (hi : i < 8) (hP : V 0 0 6 = ii P) (h60 : P < 60) (hA : 2 ≤ wN V (acB V i) i) : fE (f_X7_sendPacket H s (m.2.1 (s + 26) i) (ii i) m) (fun _ m' => ∃ V', mI s m m' V' ∧ er V' = (sP (er V) i).1 ∧ (∀ q, q < P → V' 18 q = V 18 q) ∧ ∀ r l, (sP (er V) i).2 = r :: l → l = [] ∧ V' 18 P = r) := by
  unfold f_X7_sendPacket
  rw [rd0 hV, hP, kS_4 hS, kS_z27 hS, ii_tnn (by omega)]
  refine fE_p (by rw [ii_inb (by omega) (by omega)]; omega) (fE_p (pS_pb hS hp h60) ?_)
  refine fE_put (mI_rf hp hV) 18 P 0 (v18 h60) rfl (fun m1 h1 => ?_)
  have r4 : m1.1 (m.2.1 (s + 26) i) 4 = V 9 i 4 := mI_9 h1 hi 4
  rw [r4]
  refine fE_put h1 18 P 1 (v18 h60) rfl (fun m2 h2 => ?_)
  have r9 : m2.1 s 9 = V 0 0 9 := mI_0 h2 9
  rw [r9]
  refine fE_put h2 18 P 2 (v18 h60) rfl (fun m3 h3 => ?_)
  have a3 := c_activeA hS h3.2.1 h3.1 hi
  rw [h3.2.2.2] at a3
  refine fE_bn a3 ?_
  have ea : acB (uV (uV (uV V 18 P 0 (ii i)) 18 P 1 (V 9 i 4)) 18 P 2 (V 0 0 9 + 1)) i = acB V i := rfl
  rw [ea, wA_e (m := m) h3.2.2.2]
  refine fE_p (kW_b (wA_k hS hp hi)) ?_
  have hG3 : vG (uV (uV (uV V 18 P 0 (ii i)) 18 P 1 (V 9 i 4)) 18 P 2 (V 0 0 9 + 1)) := hG
  rw [kS_0 hS]
  have p3 := c_putOnLinkTo hS h3.2.1 h3.1 hG3 (q := 1) h60 (acB_b (V := V) (i := i)) hi hA
  rw [h3.2.2.2, wA_e (m := m) h3.2.2.2] at p3
  refine fE_be p3 (fun _ m4 h4 => ?_)
  -- the row
  have hrow : pO (uV (uV (uV V 18 P 0 (ii i)) 18 P 1 (V 9 i 4)) 18 P 2 (V 0 0 9 + 1)) (acB V i) i 1 (uV (uV (uV V 18 P 0 (ii i)) 18 P 1 (V 9 i 4)) 18 P 2 (V 0 0 9 + 1) 18 P) = nwR V i := by
    have hb := acB_b (V := V) (i := i)
    unfold nwR pO
    rw [uV_k (by omega), uV_k (by omega), uV_k (by omega), uV_k (by omega), uV_k (by omega), uV_k (by omega), uV_k (by omega), uV_k (by omega), uV_k (by omega), show dOn (uV (uV (uV V 18 P 0 (ii i)) 18 P 1 (V 9 i 4)) 18 P 2 (V 0 0 9 + 1)) (eL (uV (uV (uV V 18 P 0 (ii i)) 18 P 1 (V 9 i 4)) 18 P 2 (V 0 0 9 + 1))) (V (acB V i + 2) i 1) = dOn V (eL V) (V (acB V i + 2) i 1) from rfl]
    funext k
    have g : 7 ≤ k → V 18 P k = 0 := fun h => by rw [← hV]; exact cv_g h
    simp only [up_at, uV_at]
    grind
  rw [hrow] at h4
  have h04 : mI s m m4 (sR (uV (uV (uV V 18 P 0 (ii i)) 18 P 1 (V 9 i 4)) 18 P 2 (V 0 0 9 + 1)) P (nwR V i)) := mI_tr h3 h4
  rw [uV_r, uV_r, uV_r, sR_sR, sR_sR, sR_sR] at h04
  have r3 : m4.1 (m.2.1 (s + 26) i) 3 = V 9 i 3 := mI_9 h04 hi 3
  rw [r3]
  refine fE_put h04 9 i 3 (v9 hi) rfl (fun m5 h5 => ?_)
  have r4 : m5.1 (m.2.1 (s + 26) i) 4 = V 9 i 4 := (mI_9 h5 hi 4).trans (uV_p (by decide))
  rw [r4]
  refine fE_put h5 9 i 4 (v9 hi) rfl (fun m6 h6 => ?_)
  have r0 : m6.1 (s + 25) 0 = V 8 0 0 := mI_8 h6 0
  rw [kS_2 hS, r0]
  refine fE_put h6 8 0 0 rfl rfl (fun m7 h7 => ?_)
  rw [uV_sR (by decide), uV_sR (by decide), uV_sR (by decide)] at h7
  have hG7 : vG (sR (uV (uV (uV V 9 i 3 (V 9 i 3 - 1)) 9 i 4 (V 9 i 4 + 1)) 8 0 0 (V 8 0 0 + 1)) P (nwR V i)) := hG
  have u7 := c_isOnUpLink hS h7.2.1 h7.1 hG7 h60
  rw [h7.2.2.2, sR_r, lsE_sR] at u7
  refine fE_be u7 (fun x m8 ⟨ex, h8⟩ => ?_)
  rw [ex]
  have eu : uP (sR (uV (uV (uV V 9 i 3 (V 9 i 3 - 1)) 9 i 4 (V 9 i 4 + 1)) 8 0 0 (V 8 0 0 + 1)) P (nwR V i)) (nwR V i 3) = uP V (nwR V i 3) := rfl
  rw [eu] at h8 ⊢
  have en : nwR (er V) i = nwR V i := by
    have hb := acB_b (V := V) (i := i)
    have e : ∀ j i k, j < 4 → er V (acB V i + j) i k = V (acB V i + j) i k := by
      intro j i k hj
      have hb := acB_b (V := V) (i := i)
      rw [er_at, if_neg (by omega)]
    show pO (er V) (acB V i) i 1 _ = _
    unfold nwR pO
    rw [e 2 _ _ (by omega), e 1 _ _ (by omega), e 3 _ _ (by omega)]
    rfl
  have eu2 : uP (er V) (nwR (er V) i 3) = uP V (nwR V i 3) := by rw [en]; rfl
  have esd : er (uV (uV (uV V 9 i 3 (V 9 i 3 - 1)) 9 i 4 (V 9 i 4 + 1)) 8 0 0 (V 8 0 0 + 1)) = sdE (er V) i := by
    rw [er_uV (by decide), er_uV (by decide), er_uV (by decide)]
    rfl
  have hq : ∀ (W : VV) q, q < P → sR W P (nwR V i) 18 q = W 18 q := fun W q h => by
    funext k
    rw [sR_at, if_neg (by omega)]
  by_cases e : uP V (nwR V i 3) = true
  · rw [if_pos e] at h8
    rw [e]
    refine fE_n (by decide) ?_
    have h08 := mI_tr h7 h8
    have r6 : m8.1 s 6 = V 0 0 6 := mI_0 h08 6
    rw [r6]
    refine fE_put h08 0 0 6 rfl rfl (fun m9 h9 => fE_ret ⟨_, h9, ?_, ?_, ?_⟩)
    · unfold sP
      rw [eu2, if_pos e, er_uV (by decide), er_sR, esd]
      rfl
    · intro q h
      show sR _ P (nwR V i) 18 q = _
      rw [hq _ q h]
      rfl
    · intro r l hl
      unfold sP at hl
      rw [eu2, if_pos e, en] at hl
      cases hl
      exact ⟨rfl, sR_r⟩
  · rw [if_neg e] at h8
    rw [Bool.not_eq_true] at e
    rw [e]
    refine fE_p (by decide) (fE_ret ⟨_, mI_tr h7 h8, ?_, ?_, ?_⟩)
    · unfold sP
      rw [eu2, if_neg (by rw [e]; decide), er_sR, er_lsE, esd, en]
    · intro q h
      rw [hq _ q h]
      funext k
      exact k89_ls 18 q k (by decide) (by decide)
    · intro r l hl
      unfold sP at hl
      rw [eu2, if_neg (by rw [e]; decide)] at hl
      cases hl
theorem c_sendFrom_34 (hS : kS H s) (hp : pS m s) (hV : cv m s = V) (hG : vG V) {i P : Nat} (hi : i < 8) (hP : V 0 0 6 = ii P) (h60 : P ≤ 60) (hA : 2 ≤ wN V (acB V i) i) : fE (f_X7_sendFrom_34 H s (ii i) (m.2.1 (s + 26) i) m) (fun _ m' => ∃ V', mI s m m' V' ∧ er V' = (sH (er V) i).1 ∧ (∀ q, q < P → V' 18 q = V 18 q) ∧ ∀ r l, (sH (er V) i).2 = r :: l → l = [] ∧ V' 18 P = r ∧ P < 60) := by
  unfold f_X7_sendFrom_34
  have es : sH (er V) i = (if V 9 i 8 ≤ 0 then (if V 9 i 3 ≤ 0 then (er V, []) else if 60 ≤ V 0 0 6 then (er V, []) else sP (er V) i) else (uV (er V) 9 i 8 (V 9 i 8 - 1), [])) := rfl
  rw [es, rd9 hV hi, rd9 hV hi, rd0 hV]
  by_cases e1 : V 9 i 8 ≤ 0
  · refine fE_p e1 ?_
    rw [if_pos e1]
    by_cases e2 : V 9 i 3 ≤ 0
    · refine fE_p e2 ?_
      rw [if_pos e2]
      exact fE_ret ⟨V, mI_rf hp hV, rfl, fun _ _ => rfl, fun r l h => by cases h⟩
    · refine fE_n e2 ?_
      rw [if_neg e2]
      by_cases e3 : 60 ≤ V 0 0 6
      · refine fE_p e3 ?_
        rw [if_pos e3]
        exact fE_ret ⟨V, mI_rf hp hV, rfl, fun _ _ => rfl, fun r l h => by cases h⟩
      · refine fE_n e3 ?_
        rw [if_neg e3]
        have h6 : P < 60 := by
          rw [hP, show (60 : Int32) = ii 60 from by decide, ii_le (by omega) (by omega) (by omega) (by omega)] at e3
          omega
        refine fE_be (c_sendPacket hS hp hV hG hi hP h6 hA) (fun _ m1 ⟨V', a1, a2, a3, a4⟩ => fE_ret ⟨V', a1, a2, a3, fun r l h => ⟨(a4 r l h).1, (a4 r l h).2, h6⟩⟩)
  · refine fE_n e1 ?_
    rw [if_neg e1]
    refine fE_put (mI_rf hp hV) 9 i 8 (v9 hi) rfl (fun m1 h1 => fE_ret ⟨_, h1, ?_, fun _ _ => rfl, fun r l h => by cases h⟩)
    rw [er_uV (by decide)]
theorem c_sendFrom (hS : kS H s) (hp : pS m s) (hV : cv m s = V) (hG : vG V) {i P : Nat} (hi : i < 8) (hP : V 0 0 6 = ii P) (h60 : P ≤ 60) (hA : 2 ≤ wN V (acB V i) i) : fE (f_X7_sendFrom H s (ii i) m) (fun _ m' => ∃ V', mI s m m' V' ∧ er V' = (sF (er V) i).1 ∧ (∀ q, q < P → V' 18 q = V 18 q) ∧ ∀ r l, (sF (er V) i).2 = r :: l → l = [] ∧ V' 18 P = r ∧ P < 60) := by
  unfold f_X7_sendFrom
  have es : sF (er V) i = (if V 9 i 1 ≤ 0 then sH (er V) i else if V 0 0 9 + 1 - (V 0 0 9 + 1) / V 9 i 1 * V 9 i 1 = 0 then sH (bkE (er V) i 1) i else sH (er V) i) := rfl
  rw [es, kS_3 hS, kS_z26 hS, ii_tnn (by omega), rd9 hV hi, rd0 hV]
  refine fE_p (by rw [ii_inb (by omega) (by omega)]; omega) (fE_p (pS_cb hS hp hi) ?_)
  by_cases e1 : V 9 i 1 ≤ 0
  · refine fE_p e1 ?_
    rw [if_pos e1]
    exact c_sendFrom_34 hS hp hV hG hi hP h60 hA
  · refine fE_n e1 (fE_n (fun h => e1 (by rw [h]; decide)) ?_)
    rw [if_neg e1]
    by_cases e2 : V 0 0 9 + 1 - (V 0 0 9 + 1) / V 9 i 1 * V 9 i 1 = 0
    · refine fE_p e2 ?_
      rw [if_pos e2]
      refine fE_be (c_addToBacklog hS hp hV hi 1) (fun _ m1 h1 => ?_)
      have hG1 : vG (bkE V i 1) := hG
      have hA1 : 2 ≤ wN (bkE V i 1) (acB (bkE V i 1) i) i := by
        have e9 : acB (bkE V i 1) i = acB V i := by
          unfold acB bkE
          rw [uV_k (by decide), uV_p (by decide)]
        rw [e9]
        exact hA
      have h2 := c_sendFrom_34 hS h1.2.1 h1.1 hG1 hi (show bkE V i 1 0 0 6 = ii P from hP) h60 hA1
      rw [h1.2.2.2] at h2
      have eb : er (bkE V i 1) = bkE (er V) i 1 := by
        show er (uV (uV V 9 i 3 _) 8 0 3 _) = _
        rw [er_uV (by decide), er_uV (by decide)]
        rfl
      rw [eb] at h2
      refine fE_w h2 (fun _ m' ⟨V', a1, a2, a3, a4⟩ => ⟨V', mI_tr h1 a1, a2, fun q h => (a3 q h).trans rfl, a4⟩)
    · refine fE_n e2 ?_
      rw [if_neg e2]
      exact c_sendFrom_34 hS hp hV hG hi hP h60 hA
end
