/-! closings: the class's and the reference's -/
/-- how many packets are so -/
def lc (q : (Nat → Int32) → Bool) (l : List (Nat → Int32)) : Nat := nc (fun p => match l[p]? with | some r => q r | none => false) 0 l.length
theorem sg_at {V : VV} : ∀ {n a p : Nat}, p < n → (sg V a n)[p]? = some (V 18 (a + p)) := by
  intro n
  induction n with
  | zero => intro a p h; omega
  | succ n ih =>
    intro a p h
    rw [sg_S]
    cases p with
    | zero => rfl
    | succ p =>
      rw [List.getElem?_cons_succ, ih (by omega), show a + 1 + p = a + (p + 1) by omega]
theorem lc_sg {V : VV} {q : (Nat → Int32) → Bool} {n : Nat} : lc q (sg V 0 n) = nc (fun p => q (V 18 p)) 0 n := by
  unfold lc
  rw [sg_l]
  refine nc_c (fun p _ hp => ?_)
  rw [sg_at (by omega), Nat.zero_add]
theorem lc_r {ρ : Nat → Int32} {l : List (Nat → Int32)} {q : (Nat → Int32) → Bool} {q' : Nat → Bool} (h : ∀ p r, l[p]? = some r → q' p = q r) : nc q' 0 l.length = lc q l := by
  unfold lc
  refine nc_c (fun p _ hp => ?_)
  have e : l[p]? = some l[p] := List.getElem?_eq_getElem (by omega)
  rw [e]
  exact h p _ e
theorem lc_0 {l : List (Nat → Int32)} {q : (Nat → Int32) → Bool} (h : lc q l = 0) : ∀ r, r ∈ l → q r = false := by
  intro r hr
  obtain ⟨p, hp⟩ := List.getElem?_of_mem hr
  have hl := (List.getElem?_eq_some_iff.mp hp).1
  have z : ∀ {f : Nat → Bool} {n j : Nat}, nc f j n = 0 → ∀ i, j ≤ i → i < j + n → f i = false := by
    intro f n
    induction n with
    | zero => intro j _ i h1 h2; omega
    | succ n ih =>
      intro j h i h1 h2
      unfold nc at h
      by_cases e : i = j
      · subst e
        cases ef : f i with
        | false => rfl
        | true => rw [ef, if_pos rfl] at h; omega
      · exact ih (j := j + 1) (by omega) i (by omega) (by omega)
  have := z h p (by omega) (by omega)
  rw [hp] at this
  exact this
theorem er_cs {V : VV} {i : Nat} : csE (er V) i = er (csE V i) := by
  symm
  refine er_x (fun kd a k h => ?_) (fun a k => ?_)
  · unfold csE
    rw [show eA (er V) i = eA V i from rfl, show eK (er V) = eK V from rfl, ← er_gvL]
    unfold crV
    have e : ∀ a k, uV (rnV (gvL V i 0 1 (eA V i - 1)) i 120) 0 0 5 (nn (eK V - 1)) kd a k = uV (rnV (er (gvL V i 0 1 (eA V i - 1))) i 120) 0 0 5 (nn (eK V - 1)) kd a k := fun a k => by
      rw [uV_at, uV_at]
      unfold rnV
      rw [er_n (V := gvL V i 0 1 (eA V i - 1)) h, er_n (V := gvL V i 0 1 (eA V i - 1)) (show 6 ≠ 18 by decide)]
    rw [e, e]
  · unfold csE
    rw [crV_o (by omega), uV_k (by omega), rnV_o (by omega), gvL_o (by omega) (by omega), er_18]
theorem sg_map {V V' : VV} {f : (Nat → Int32) → Nat → Int32} : ∀ {n a : Nat}, (∀ p, a ≤ p → p < a + n → V' 18 p = f (V 18 p)) → sg V' a n = (sg V a n).map f := by
  intro n
  induction n with
  | zero => exact fun _ => rfl
  | succ n ih =>
    intro a h
    rw [sg_S, sg_S, List.map_cons, h a (by omega) (by omega), ih (fun p a1 a2 => h p (by omega) (by omega))]
/-- the answer of a closing -/
def csA (E : VV) (l : List (Nat → Int32)) (i : Nat) : Int32 := if E 9 i 2 ≠ 0 then 2 else if 0 < E 9 i 3 ∨ 0 < lc (fun r => decide (r 0 = nn i)) l then 8 else 0
section
variable {H : fm_H} {s : Nat} {m : fm_M}
theorem c_closeS (hS : kS H s) {E : VV} {l : List (Nat → Int32)} (ha : aS m s E l) (hI : iG E l) {i : Nat} (hi : i < eK E) : fE (f_X7_closeCircuit H s (nn i) m) (fun r m' => r = csA E l i ∧ fr s (s + 160) m m' ∧ (r ≠ 0 → m' = m) ∧ (r = 0 → aS m' s (csE E i) (l.map (dcR i)))) := by
  obtain ⟨a1, a2, a3, a4, a5, a6⟩ := ha
  have hGV : vG (cv m s) := by
    rw [← a2] at a6
    exact a6
  have hi' : i < eK (cv m s) := by rw [← a2] at hi; exact hi
  have eP' : eP (cv m s) = l.length := by
    have e6 : cv m s 0 0 6 = nn l.length := by
      refine Eq.trans ?_ a4
      rw [← a2]
      rfl
    unfold eP
    rw [e6, nn_t (by omega)]
    rfl
  have e2 : cv m s 9 i 2 = E 9 i 2 := by rw [← a2]; rfl
  have e3 : cv m s 9 i 3 = E 9 i 3 := by rw [← a2]; rfl
  have elc : nc (fun p => decide (cv m s 18 p 0 = nn i)) 0 (eP (cv m s)) = lc (fun r => decide (r 0 = nn i)) l := by
    rw [eP', ← lc_sg (V := cv m s) (q := fun r => decide (r 0 = nn i)), a3]
  refine fE_w (c_closeCircuit hS a1 rfl hGV hi') (fun r m' h => ?_)
  rw [e2, e3, elc] at h
  unfold csA
  rcases h with ⟨h1, rfl, rfl⟩ | ⟨h1, h2, rfl, rfl⟩ | ⟨h1, h2, h3, rfl, h4⟩
  · rw [if_pos h1]
    exact ⟨rfl, ⟨fun _ _ _ => ⟨rfl, rfl⟩, rfl⟩, fun _ => rfl, fun z => absurd z (by decide)⟩
  · rw [if_neg (fun z => z h1), if_pos h2]
    exact ⟨rfl, ⟨fun _ _ _ => ⟨rfl, rfl⟩, rfl⟩, fun _ => rfl, fun z => absurd z (by decide)⟩
  · rw [if_neg (fun z => z h1), if_neg (fun z => by rcases z with z | z; exact h2 z; omega)]
    refine ⟨rfl, h4.2.2, fun z => absurd rfl z, fun _ => ?_⟩
    have hp : ∀ r, r ∈ l → r 0 ≠ nn i := fun r hr => of_decide_eq_false (lc_0 h3 r hr)
    have hI2 := cs_iG hI hi h1 hp
    have e18 : ∀ p, p < l.length → crV (uV (dcV (rnV (gvL (cv m s) i 0 1 (eA (cv m s) i - 1)) i 120) i (eP (cv m s))) 0 0 5 (nn (eK (cv m s) - 1))) (csp i (eK (cv m s))) 18 p = dcR i (cv m s 18 p) := fun p hp => by
      have e0 : rnV (gvL (cv m s) i 0 1 (eA (cv m s) i - 1)) i 120 18 p = cv m s 18 p := funext fun k => (rnV_o (by omega)).trans (gvL_o (by omega) (by omega))
      rw [← e0, ← dcV_r (V := rnV (gvL (cv m s) i 0 1 (eA (cv m s) i - 1)) i 120) (i := i) (a := eP (cv m s)) (by omega)]
      funext k
      rw [crV_o (by omega), uV_k (by omega)]
    refine ⟨h4.2.1, ?_, ?_, ?_, by rw [List.length_map]; exact a5, hI2.1.1⟩
    · rw [h4.1, ← a2, er_cs]
      refine (er_x (W := er (csE (cv m s) i)) (fun kd a k h => ?_) (fun a k => er_18)).trans rfl
      rw [er_n h]
      unfold csE crV
      rw [uV_at, uV_at, uV_at, uV_at, dcV_o h, dcV_o h]
    · rw [h4.1, List.length_map, sg_map (V := cv m s) (f := dcR i) (fun p _ hp => e18 p (by omega)), a3]
    · rw [cs_o (by omega) (by omega) (by omega) (by omega), List.length_map]
      exact a4
end
section
variable {H : fm_H} {b : Nat} {m m00 : fm_M}
theorem r_ofP0 (hM : kM H b) {j : Nat} (h : j < 60) : f_X12_ofPacket H b (nn j) 0 m = some (m.1 (b + 1) (632 + 8 * j), m) := by
  have := r_ofPacket (m := m) hM (j := j) (k := 0) (by omega)
  rw [← nl_0] at this
  exact this
theorem r_packetsOf_l (hM : kM H b) {ρ : Nat → Int32} {P : Nat} (hr : m.1 (b + 1) = ρ) (h6 : ρ 6 = nn P) (hP : P ≤ 60) (x : Int32) : ∀ (k q j a : Nat), j + k = P → k < q → f_X12_packetsOf_4 H b x q (nn a) (nn j) m = some (nn (a + nc (fun p => decide (ρ (632 + 8 * p) = x)) j k), m) := by
  intro k
  induction k with
  | zero =>
    intro q j a h1 h2
    obtain ⟨q, rfl⟩ : ∃ q', q = q' + 1 := ⟨q - 1, by omega⟩
    unfold f_X12_packetsOf_4
    simp (disch := omega) only [kM_0 hM, kM_z1 hM, nl_6, nn_tn, nn_in, if_pos, hr, h6, nn_le]
    rfl
  | succ k ih =>
    intro q j a h1 h2
    obtain ⟨q, rfl⟩ : ∃ q', q = q' + 1 := ⟨q - 1, by omega⟩
    unfold f_X12_packetsOf_4
    rw [nl_6, nn_tn (by omega), kM_0 hM, kM_z1 hM, if_pos ((nn_in (by omega)).mpr (by omega)), hr, h6, if_neg (by rw [nn_le (by omega) (by omega)]; omega), r_ofP0 hM (by omega), fb_n, hr]
    unfold nc
    by_cases e : ρ (632 + 8 * j) = x
    · rw [if_pos e, if_pos (decide_eq_true e), nn_inc, nn_inc, ih q (j + 1) (a + 1) (by omega) (by omega), Nat.add_assoc]
    · rw [if_neg e, if_neg (by rw [decide_eq_false e]; decide), Int32.add_zero, nn_inc, ih q (j + 1) a (by omega) (by omega), Nat.zero_add]
theorem r_packetsOf (hM : kM H b) {ρ : Nat → Int32} {l : List (Nat → Int32)} (hr : m.1 (b + 1) = ρ) (hP : rP ρ l) (x : Int32) : f_X12_packetsOf H b x m = some (nn (lc (fun r => decide (r 0 = x)) l), m) := by
  unfold f_X12_packetsOf
  have h := r_packetsOf_l hM hr hP.1 hP.2.1 x l.length fm_N 0 0 (by omega) (by have := hP.2.1; unfold fm_N; omega)
  rw [Nat.zero_add, lc_r (ρ := ρ) (l := l) (q := fun r => decide (r 0 = x)) (fun p r hr => by rw [(hP.2.2 p r hr).1])] at h
  rw [nl_0]
  exact h
theorem r_cs107 (hM : kM H b) {ρ : Nat → Int32} {P i : Nat} (h6 : ρ 6 = nn P) (hP : P ≤ 60) : ∀ (k q j : Nat) (m : fm_M), rI b m00 m (dkR ρ i j) → j + k = P → k < q → fE (f_X12_close_107 H b (nn i) q (nn j) m) (fun r m' => r = 0 ∧ rI b m00 m' (dkR ρ i P)) := by
  intro k
  induction k with
  | zero =>
    intro q j m hr h1 h2
    obtain ⟨q, rfl⟩ : ∃ q', q = q' + 1 := ⟨q - 1, by omega⟩
    have ej : j = P := by omega
    subst ej
    have e6 : dkR ρ i j 6 = nn j := (if_neg (by omega)).trans h6
    unfold f_X12_close_107
    rw [nl_6, nn_tn (by omega), kM_0 hM, kM_z1 hM, if_pos ((nn_in (by omega)).mpr (by omega)), hr.1, e6, if_pos ((nn_le (by omega) (by omega)).mpr (Nat.le_refl _))]
    exact fE_ret ⟨rfl, hr⟩
  | succ k ih =>
    intro q j m hr h1 h2
    obtain ⟨q, rfl⟩ : ∃ q', q = q' + 1 := ⟨q - 1, by omega⟩
    have e6 : dkR ρ i j 6 = nn P := (if_neg (by omega)).trans h6
    have ej : dkR ρ i j (632 + 8 * j) = ρ (632 + 8 * j) := if_neg (by omega)
    unfold f_X12_close_107
    rw [nl_6, nn_tn (by omega), kM_0 hM, kM_z1 hM, if_pos ((nn_in (by omega)).mpr (by omega)), hr.1, e6, if_neg (by rw [nn_le (by omega) (by omega)]; omega), nl_632, nl_8, nn_mul, nn_add, if_pos ((nn_in (by omega)).mpr (by omega)), r_ofP0 hM (by omega), fb_n, hr.1, nn_tn (by omega), ej, nn_inc]
    have st : ∀ x, x = (if ρ (632 + 8 * j) ≤ nn i then ρ (632 + 8 * j) - 0 else ρ (632 + 8 * j) - 1) → pm_up (dkR ρ i j) (632 + 8 * j) x = dkR ρ i (j + 1) := fun x hx => by
      funext q
      rw [up_at]
      unfold dkR
      by_cases e : q = 632 + 8 * j
      · rw [if_pos e, e, if_pos ⟨by omega, by omega, by omega⟩]
        exact hx
      · rw [if_neg e]
        by_cases e2 : 632 ≤ q ∧ q < 632 + 8 * j ∧ (q - 632) % 8 = 0
        · rw [if_pos e2, if_pos (show 632 ≤ q ∧ q < 632 + 8 * (j + 1) ∧ (q - 632) % 8 = 0 from ⟨e2.1, by omega, e2.2.2⟩)]
        · rw [if_neg e2, if_neg (by omega)]
    by_cases e : ρ (632 + 8 * j) ≤ nn i
    · rw [if_pos e]
      refine fE_p ((nn_in (by omega)).mpr (by omega)) (fE_rput hr (fun m2 h2' => ?_))
      rw [st _ (by rw [if_pos e])] at h2'
      exact ih q (j + 1) m2 h2' (by omega) (by omega)
    · rw [if_neg e]
      refine fE_p ((nn_in (by omega)).mpr (by omega)) (fE_rput hr (fun m2 h2' => ?_))
      rw [st _ (by rw [if_neg e])] at h2'
      exact ih q (j + 1) m2 h2' (by omega) (by omega)
theorem r_cs68 (hM : kM H b) {ρ : Nat → Int32} {i K : Nat} (hK : K ≤ 7) (h4 : ρ 4 = nn K) {Q : Int32 → fm_M → Prop} (hQ : ∀ m', rI b m00 m' (csR ρ i (104 + 66 * K)) → fE (f_X12_close_107 H b (nn i) fm_N 0 m') Q) : ∀ (k q j : Nat) (m : fm_M), rI b m00 m (csR ρ i j) → 104 + 66 * i ≤ j → j + k = 104 + 66 * K → k < q → fE (f_X12_close_68 H b (nn i) q (nn j) m) Q := by
  intro k
  induction k with
  | zero =>
    intro q j m hr h0 h1 h2
    obtain ⟨q, rfl⟩ : ∃ q', q = q' + 1 := ⟨q - 1, by omega⟩
    have ej : j = 104 + 66 * K := by omega
    subst ej
    have e4 : csR ρ i (104 + 66 * K) 4 = nn K := (if_neg (by omega)).trans h4
    unfold f_X12_close_68
    rw [nl_4, nn_tn (by omega), kM_0 hM, kM_z1 hM, if_pos ((nn_in (by omega)).mpr (by omega)), hr.1, e4, nl_104, nl_66, nn_mul, nn_add, if_pos ((nn_le (by omega) (by omega)).mpr (Nat.le_refl _))]
    exact hQ m hr
  | succ k ih =>
    intro q j m hr h0 h1 h2
    obtain ⟨q, rfl⟩ : ∃ q', q = q' + 1 := ⟨q - 1, by omega⟩
    have e4 : csR ρ i j 4 = nn K := (if_neg (by omega)).trans h4
    have ej : csR ρ i j (j + 66) = ρ (j + 66) := if_neg (by omega)
    unfold f_X12_close_68
    rw [nl_4, nn_tn (by omega), kM_0 hM, kM_z1 hM, if_pos ((nn_in (by omega)).mpr (by omega)), hr.1, e4, nl_104, nl_66, nn_mul, nn_add, if_neg (by rw [nn_le (by omega) (by omega)]; omega), nn_add, if_pos ((nn_in (by omega)).mpr (by omega)), if_pos ((nn_in (by omega)).mpr (by omega)), nn_tn (by omega), nn_tn (by omega), ej, nn_inc]
    refine fE_rput hr (fun m2 h2' => ?_)
    have st : pm_up (csR ρ i j) j (ρ (j + 66)) = csR ρ i (j + 1) := by
      funext q
      rw [up_at]
      unfold csR
      by_cases e : q = j
      · rw [if_pos e, e, if_pos ⟨h0, by omega⟩]
      · rw [if_neg e]
        by_cases e2 : 104 + 66 * i ≤ q ∧ q < j
        · rw [if_pos e2, if_pos ⟨e2.1, by omega⟩]
        · rw [if_neg e2, if_neg (by omega)]
    rw [st] at h2'
    exact ih q (j + 1) m2 h2' (by omega) (by omega) (by omega)
theorem r_of5 (hM : kM H b) {j : Nat} (h : j < 8) : f_X12_of H b (nn j) 5 m = some (m.1 (b + 1) (104 + 66 * j + 5), m) := by
  rw [nl_5]
  exact r_of hM (by omega)
theorem r_close (hM : kM H b) {ρ : Nat → Int32} {E : VV} {l : List (Nat → Int32)} (hr : m.1 (b + 1) = ρ) (hA : rAll ρ E l) (hI : iG E l) {i : Nat} (hi : i < eK E) :
    fE (f_X12_close H b (nn i) m) (fun r m' => r = csA E l i ∧ m'.1 b 7 = 0 ∧ m'.1 b 6 = m.1 b 6 ∧ m'.1 (b + 6) = m.1 (b + 6) ∧ gR b m m' ∧ (r ≠ 0 → m'.1 (b + 1) = ρ) ∧ (r = 0 → rAll (m'.1 (b + 1)) (csE E i) (l.map (dcR i)) ∧ iG (csE E i) (l.map (dcR i)))) := by
  have hG := hI.1.1
  have hB := hA.1
  have h4 := hB.2.1.1
  have hK8 : eK E ≤ 8 := hB.2.1.2.1
  have hQ := hI.1.2.2.2.1 i hi
  unfold f_X12_close csA
  rw [fb_d]
  have hm1 : (fm_si m b 7 0).1 (b + 1) = ρ := (si_oth (by omega)).trans hr
  have z7 : (fm_si m b 7 0).1 b 7 = 0 := si_s
  have z6 : (fm_si m b 7 0).1 b 6 = m.1 b 6 := si_o (by omega)
  have zd : (fm_si m b 7 0).1 (b + 6) = m.1 (b + 6) := si_oth (by omega)
  have zg : gR b m (fm_si m b 7 0) := gR_7
  rw [r_isCircuit hM hm1 h4 hK8, fb_n, decide_eq_true (by rw [nn_t (by omega)]; omega), if_neg (by decide), r_of2 hM (by omega), fb_n, hm1, show ρ (104 + 66 * i + 2) = E 9 i 2 from (hB.2.2 i hi).1 2 (by omega) (by omega) (by omega)]
  have hph : E 9 i 2 ≤ 0 ↔ E 9 i 2 = 0 := by
    rcases hQ.2.2.2.2 with h | h | h | h <;> rw [h.1] <;> decide
  by_cases e1 : E 9 i 2 = 0
  · rw [if_pos (hph.mpr e1), if_neg (fun z => z e1), r_packetsOf hM hm1 hA.2, fb_n]
    have hlc : lc (fun r => decide (r 0 = nn i)) l ≤ 60 := Nat.le_trans nc_le hA.2.2.1
    by_cases e2 : 0 < lc (fun r => decide (r 0 = nn i)) l
    · rw [if_pos (by rw [nl_0, nn_lt (by omega) (by omega)]; exact e2), if_pos (Or.inr e2)]
      exact fE_ret ⟨rfl, z7, z6, zd, zg, fun _ => hm1, fun z => absurd z (by decide)⟩
    · rw [if_neg (by rw [nl_0, nn_lt (by omega) (by omega)]; exact e2), r_of5 hM (by omega), fb_n, hm1, show ρ (104 + 66 * i + 5) = E 9 i 3 from (hB.2.2 i hi).1 3 (by omega) (by omega) (by omega)]
      by_cases e3 : 0 < E 9 i 3
      · rw [if_neg (Int32.not_le.mpr e3), if_pos (Or.inl e3)]
        exact fE_ret ⟨rfl, z7, z6, zd, zg, fun _ => hm1, fun z => absurd z (by decide)⟩
      · rw [if_pos (Int32.not_lt.mp e3), if_neg (show ¬ (0 < E 9 i 3 ∨ 0 < lc (fun r => decide (r 0 = nn i)) l) from fun z => by rcases z with z | z; exact e3 z; exact e2 z), nl_4, nn_tn (by omega), kM_0 hM, kM_z1 hM, if_pos ((nn_in (by omega)).mpr (by omega)), if_pos ((nn_in (by omega)).mpr (by omega)), hm1, h4, nn_dec (by omega), nl_104, nl_66, nn_mul, nn_add]
        have hp : ∀ r, r ∈ l → r 0 ≠ nn i := fun r hr => of_decide_eq_false (lc_0 (show lc (fun r => decide (r 0 = nn i)) l = 0 by omega) r hr)
        have hI2 := cs_iG hI hi e1 hp
        refine fE_rput (rI_rf (m := fm_si m b 7 0) hm1) (fun m2 h2 => ?_)
        have hcs0 : csR (pm_up ρ 4 (nn (eK E - 1))) i (104 + 66 * i) = pm_up ρ 4 (nn (eK E - 1)) := funext fun q => if_neg (by omega)
        refine r_cs68 hM (m00 := fm_si m b 7 0) (ρ := pm_up ρ 4 (nn (eK E - 1))) (K := eK E - 1) (by omega) (if_pos rfl) (fun m3 h3 => ?_) (66 * (eK E - 1 - i)) fm_N (104 + 66 * i) m2 (by rw [hcs0]; exact h2) (Nat.le_refl _) (by omega) (by unfold fm_N; omega)
        have h6 : csR (pm_up ρ 4 (nn (eK E - 1))) i (104 + 66 * (eK E - 1)) 6 = nn l.length := by
          unfold csR
          rw [if_neg (by omega), up_at, if_neg (by omega)]
          exact hA.2.1
        have hdk0 : dkR (csR (pm_up ρ 4 (nn (eK E - 1))) i (104 + 66 * (eK E - 1))) i 0 = csR (pm_up ρ 4 (nn (eK E - 1))) i (104 + 66 * (eK E - 1)) := funext fun q => if_neg (by omega)
        rw [nl_0]
        refine fE_w (r_cs107 hM (m00 := fm_si m b 7 0) h6 hA.2.2.1 l.length fm_N 0 m3 (by rw [hdk0]; exact h3) (by omega) (by have := hA.2.2.1; unfold fm_N; omega)) (fun r m4 ⟨er, h4'⟩ => ?_)
        refine ⟨er, (rI_o h4' (by omega) (by omega) (by omega)).trans z7, (rI_o h4' (by omega) (by omega) (by omega)).trans z6, (funext fun k => rI_o h4' (by omega) (by omega) (by omega)).trans zd, gR_tr zg (gR_f h4'.2), fun z => absurd er z, fun _ => ⟨?_, hI2⟩⟩
        rw [h4'.1]
        have lo : ∀ q, q < 632 → dkR (csR (pm_up ρ 4 (nn (eK E - 1))) i (104 + 66 * (eK E - 1))) i l.length q = csR (pm_up ρ 4 (nn (eK E - 1))) i (104 + 66 * (eK E - 1)) q := fun q hq => if_neg (by omega)
        refine ⟨cs_rB hB hG hi ?_ (fun q a1 a2 a3 => ?_) (fun x a x1 x2 ha => ?_), cs_rP hA.2 ?_ (fun q hq => ?_)⟩
        · rw [lo 4 (by omega)]
          exact (if_neg (by omega)).trans (if_pos rfl)
        · rw [lo q (by omega)]
          exact (if_neg (by omega)).trans (if_neg a2)
        · rw [lo _ (by omega), (csp_1 ha).1]
          unfold csR
          by_cases c : i ≤ a
          · rw [if_pos c, if_pos (by omega), up_at, if_neg (by omega), show x + 66 * a + 66 = x + 66 * (a + 1) by omega]
          · rw [if_neg c, if_neg (by omega), up_at, if_neg (by omega)]
        · rw [lo 6 (by omega)]
          exact (if_neg (by omega)).trans (if_neg (by omega))
        · have e : csR (pm_up ρ 4 (nn (eK E - 1))) i (104 + 66 * (eK E - 1)) q = ρ q := (if_neg (by omega)).trans (if_neg (by omega))
          unfold dkR
          rw [e]
  · rw [if_neg (fun z => e1 (hph.mp z)), if_pos e1]
    exact fE_ret ⟨rfl, z7, z6, zd, zg, fun _ => hm1, fun z => absurd z (by decide)⟩
end
