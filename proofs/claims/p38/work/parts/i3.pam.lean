/-! COPIES: a move to the best way answers the same -/
theorem li_c {p q : Nat → Bool} : ∀ {k : Nat}, (∀ i, i < k → p i = q i) → li p k = li q k := by
  intro k
  induction k with
  | zero => exact fun _ => rfl
  | succ k ih =>
    intro h
    unfold li
    rw [h k (by omega), ih (fun i hi => h i (by omega))]
theorem vs_dl {N t : Nat} {lk : Nat → Nat → Int} {op : Nat → Bool} {dl dl' : Nat → Nat} (h : ∀ j, op j = true → dl j = dl' j) : ∀ {r n d : Nat} {P : Nat → Nat} {b : Bst}, vs N t lk op dl r n P d b = vs N t lk op dl' r n P d b := by
  intro r
  induction r with
  | zero => exact rfl
  | succ r ih =>
    intro n d P b
    by_cases e : P (n - 1) = t
    · rw [vs_t e, vs_t e]
    · rw [vs_S e, vs_S e]
      have : ∀ k x (b : Bst), vlp lk op dl (vs N t lk op dl r) n P d x k b = vlp lk op dl' (vs N t lk op dl' r) n P d x k b := by
        intro k
        induction k with
        | zero => exact fun _ _ => rfl
        | succ k ihk =>
          intro x b
          rw [vlp_S, vlp_S]
          by_cases e : okn lk op n P x = true
          · rw [if_pos e, if_pos e]
            have ho : op (lk (P (n - 1)) x).toNat = true := by
              unfold okn at e
              rw [Bool.and_eq_true, Bool.and_eq_true] at e
              exact e.2.1
            rw [h _ ho, ih, ihk]
          · rw [if_neg e, if_neg e, ihk]
      exact this N 0 b
section
variable {K L : Nat} {E E' : VV}
theorem PZ_us (hb : bD K L E) {i : Nat} (hi : i < K) {x : Int32} : us (PZ K L E) (eA (PZ K L E)) (eB (PZ K L E)) i x = us E (eA E) (eB E) i x := by
  have hA := bD_A hb hi
  have hB := bD_B hb hi
  unfold us
  rw [PZ_A hi, PZ_B hi, ny_c (f := fun k => decide (PZ K L E 12 i k = x)) (g := fun k => decide (E 12 i k = x)) (fun k _ _ => by rw [PZ_at (iBw6 hi (by omega))]), ny_c (f := fun k => decide (PZ K L E 16 i k = x)) (g := fun k => decide (E 16 i k = x)) (fun k _ _ => by rw [PZ_at (iBw6 hi (by omega))])]
theorem PZ_rsv (hb : bD K L E) {x e : Int32} : rsv (PZ K L E) (eK (PZ K L E)) (eA (PZ K L E)) (eB (PZ K L E)) x e = rsv E (eK E) (eA E) (eB E) x e := by
  have h1 := hb.1
  unfold rsv
  rw [PZ_K]
  refine su_c (fun i _ hi => ?_)
  rw [PZ_us hb (by omega), PZ_at (iB9 (by omega))]
theorem PZ_hr (hb : bD K L E) {j : Int} {band e : Int32} : hr (PZ K L E) (eL (PZ K L E)) (eK (PZ K L E)) (eA (PZ K L E)) (eB (PZ K L E)) j band e = hr E (eL E) (eK E) (eA E) (eB E) j band e := by
  have h2 := hb.2.1
  unfold hr
  rw [PZ_rsv hb, PZ_L]
  by_cases h : 0 ≤ j ∧ j < eL E
  · rw [PZ_at (kd := 3) (k := 4) (iB3 (by omega)), PZ_at (kd := 3) (k := 2) (iB3 (by omega))]
  · have d1 : decide (0 ≤ j ∧ j < eL E ∧ PZ K L E 3 j.toNat 4 ≠ 0) = false := decide_eq_false (fun z => h ⟨z.1, z.2.1⟩)
    have d2 : decide (0 ≤ j ∧ j < eL E ∧ E 3 j.toNat 4 ≠ 0) = false := decide_eq_false (fun z => h ⟨z.1, z.2.1⟩)
    rw [d1, d2, Bool.false_and, Bool.false_and]
theorem PZ_lk (hb : bD K L E) {x y : Int32} : lkE (PZ K L E) x y = lkE E x y := by
  have h2 := hb.2.1
  unfold lkE
  rw [PZ_L]
  exact fi_c (fun j _ hj => by rw [PZ_at (kd := 3) (k := 0) (iB3 (by omega)), PZ_at (kd := 3) (k := 1) (iB3 (by omega))])
theorem PZ_bs (hb : bD K L E) {band e y : Int32} {f0 t : Nat} : bsE (PZ K L E) band e y f0 t = bsE E band e y f0 t := by
  have h2 := hb.2.1
  unfold bsE
  have a : lkf (PZ K L E) = lkf E := funext fun p => funext fun q => PZ_lk hb
  have c : useF (PZ K L E) band e = useF E band e := funext fun j => PZ_hr hb
  rw [a, c, PZ_N]
  refine vs_dl (fun j hj => ?_)
  have := op_L hj
  unfold dlF
  rw [PZ_at (iB3 (by omega))]
theorem PZ_bc (hb : bD K L E) {i : Nat} (hi : i < K) {y : Int32} : bcE (PZ K L E) i y = bcE E i y := by
  have hA := bD_A hb hi
  unfold bcE
  rw [PZ_bs hb, PZ_at (kd := 9) (iB9 (by omega))]
  have e1 : f0E (PZ K L E) i = f0E E i := by
    unfold f0E
    rw [PZ_at (iBw6 hi (by omega))]
  have e2 : t0E (PZ K L E) i = t0E E i := by
    unfold t0E
    rw [PZ_A hi, PZ_at (iBw6 hi (by omega))]
  rw [e1, e2]
theorem PZ_hl {f z : Nat} {x : Int32} (hf : f < 10) (hz : z ≤ 12) : hl (PZ K L E) f z x = hl E f z x := nc_c (fun i _ hi => by rw [PZ_at (iB5 (by omega) (by omega))])
theorem PZ_lf {f z : Nat} (hf : f < 10) (hz : z ≤ 12) : lf (PZ K L E) f z = lf E f z := by
  unfold lf
  rw [fi_c (f := fun i => decide (PZ K L E 5 0 (f * 12 + i) = -1)) (g := fun i => decide (E 5 0 (f * 12 + i) = -1)) (fun i _ hi => by rw [PZ_at (iB5 (by omega) (by omega))])]
theorem PZ_hf {f z : Nat} (hf1 : f < 10) (hz : z ≤ 12) : hf (PZ K L E) f z = hf E f z := by
  unfold hf
  rw [li_c (p := fun i => decide (PZ K L E 5 0 (f * 12 + i) = -1)) (q := fun i => decide (E 5 0 (f * 12 + i) = -1)) (fun i hi => by rw [PZ_at (iB5 (by omega) (by omega))])]
theorem PZ_bw (hZ : ∀ f, f < 10 → eZ E f ≤ 12) {f : Nat} : bw (PZ K L E) (eZ (PZ K L E)) f = bw E (eZ E) f := sn_c (fun i _ hi => by
  rw [PZ_Zs (by omega), PZ_hl (by omega) (hZ i (by omega))])
theorem PZ_lb {N : Nat} (hN : N ≤ 10) {a b : Int} : lbV (PZ K L E) N a b = lbV E N a b := by
  unfold lbV
  by_cases h : 0 ≤ a ∧ a < N ∧ 0 ≤ b ∧ b < N
  · rw [if_pos h, if_pos h, PZ_at (iB2 (by omega))]
  · rw [if_neg h, if_neg h]
theorem PZ_ld {N f : Nat} (hN : N ≤ 10) (hZ : ∀ f, f < 10 → eZ E f ≤ 12) : ∀ {k j : Nat} {b : Int} {mo : Nat}, j + k ≤ N → ld (PZ K L E) N (eZ (PZ K L E)) f j k b mo = ld E N (eZ E) f j k b mo := by
  intro k
  induction k with
  | zero =>
    intro j b mo _
    simp only [ld]
  | succ k ih =>
    intro j b mo hj
    have e : fe (PZ K L E) N (eZ (PZ K L E)) f j = fe E N (eZ E) f j := by
      unfold fe
      rw [PZ_lb hN, PZ_Zs (by omega), PZ_hl (by omega) (hZ j (by omega))]
    unfold ld
    rw [e, ih (by omega), ih (by omega)]
theorem PZ_tkI (hN : eN E ≤ 10) (hZ : ∀ f, f < 10 → eZ E f ≤ 12) {v : Nat} (hv : v < 10) : tkI (PZ K L E) v = tkI E v := by
  unfold tkI tk
  rw [PZ_N, PZ_at (kd := 0) (iB0 (by omega)), PZ_Zs hv, PZ_lf hv (hZ v hv), PZ_bw hZ, PZ_ld hN hZ (by omega)]
  split
  · split
    · split
      · rfl
      · rename_i h
        have : (ld E (eN E) (eZ E) v 0 (eN E) (-1) 0).toNat < 10 := by
          rcases tk_ld (V := E) (N := eN E) (Z := eZ E) (f := v) (k := eN E) (j := 0) (b := -1) (mo := 0) with q | ⟨i, q, -, q2, -⟩ <;> omega
        rw [PZ_Zs this, PZ_hf this (hZ _ this)]
    · rfl
  · rfl
theorem PZ_cp {i n : Nat} {N Q : Nat → Int32} (hi : i < K) : cpV (PZ K L E) i 1 (nn n) N Q = PZ K L (cpV E i 1 (nn n) N Q) := by
  funext kd a k
  by_cases h1 : a = i ∧ kd = 14 ∧ k = 0
  · obtain ⟨rfl, rfl, rfl⟩ := h1
    have w : ∀ V : VV, cpV V a 1 (nn n) N Q 14 a 0 = nn n := fun V => by
      rw [cpV_at, if_pos (by omega)]
    rw [PZ_at (iBLx hi (by omega)), w, w]
  · by_cases h2 : a = i ∧ 15 ≤ kd ∧ kd ≤ 17 ∧ k < 6
    · obtain ⟨rfl, h2⟩ := h2
      have w : ∀ V : VV, cpV V a 1 (nn n) N Q kd a k = if kd = 15 then N k else if kd = 16 then Q k else -1 := fun V => by
        rw [cpV_at, if_neg (by omega)]
        rcases (show kd = 15 ∨ kd = 16 ∨ kd = 17 by omega) with z | z | z
        · subst z
          rw [if_pos (by omega), if_pos rfl]
        · subst z
          rw [if_neg (by omega), if_pos (by omega), if_neg (by omega), if_pos rfl]
        · subst z
          rw [if_neg (by omega), if_neg (by omega), if_pos (by omega), if_neg (by omega), if_neg (by omega)]
      rw [PZ_at (iBw6 hi (by omega)), w, w]
    · have w : ∀ V : VV, cpV V i 1 (nn n) N Q kd a k = V kd a k := fun V => by
        rw [cpV_at, if_neg (by omega), if_neg (by omega), if_neg (by omega), if_neg (by omega)]
      rw [w]
      unfold PZ
      rw [w]
theorem PZ_ta {i c k t v : Nat} (hi : i < K) (hc : c < 2) (hk : k < 6) (ht : t < 120) : taE (PZ K L E) i c k t v = PZ K L (taE E i c k t v) := by
  unfold taE
  rw [PZ_u (iB5 (by omega) (by omega)), PZ_u (iB5 (by omega) (by omega)), PZ_u (iB5 (by omega) (by omega)), PZ_u (iBw6 hi (by omega))]
theorem PZ_tl {i c : Nat} (hi : i < K) (hc : c < 2) : ∀ (r j : Nat) (E : VV), eN E ≤ 10 → (∀ f, f < 10 → eZ E f ≤ 12) → (∀ k, j ≤ k → k < j + r → ndE E i c k < 10) → j + r ≤ 6 → tlE (PZ K L E) i c j r = ((tlE E i c j r).1, PZ K L (tlE E i c j r).2) := by
  intro r
  induction r with
  | zero => exact fun _ _ _ _ _ _ => rfl
  | succ r ih =>
    intro j E hN hZ hn hj
    have hnj := hn j (by omega) (by omega)
    have en : ndE (PZ K L E) i c j = ndE E i c j := by
      unfold ndE
      rw [PZ_at (iBw6 hi (by omega))]
    rw [tlE_S, tlE_S, en, PZ_tkI hN hZ hnj]
    by_cases e : tkI E (ndE E i c j) = -1
    · rw [if_pos e, if_pos e]
    · rw [if_neg e, if_neg e]
      have ht : (tkI E (ndE E i c j)).toNat < 120 := by
        rcases tk_r (V := E) (N := eN E) (Z := eZ E) (f := ndE E i c j) (br := (E 0 0 7).toInt.toNat) hnj hN hZ with q | q
        · exact absurd q e
        · have : tkI E (ndE E i c j) = tk E (eN E) (eZ E) (ndE E i c j) (E 0 0 7).toInt.toNat := rfl
          omega
      rw [PZ_ta hi hc (by omega) ht]
      refine ih (j + 1) _ ?_ (fun f hf => ?_) (fun k k1 k2 => ?_) (by omega)
      · unfold eN
        rw [taE_o (by omega) (by omega) (by omega) (by omega)]
        exact hN
      · unfold eZ
        rw [taE_o (by omega) (by omega) (by omega) (by omega)]
        exact hZ f hf
      · unfold ndE
        rw [taE_o (by omega) (by omega) (by omega) (by omega)]
        exact hn k (by omega) (by omega)
theorem PZ_mv {i n : Nat} {N Q : Nat → Int32} {d : Nat → Nat} (hG : vG E) (h1 : eK E = K) (h2 : eL E = L) (hi : i < K) (h6 : n ≤ 6) (hN : ∀ k, k < n → N k = nn (d k) ∧ d k < 10) : (mvV (PZ K L E) i n N Q).1 = (mvV E i n N Q).1 := by
  have hb := bD_G hG
  rw [h1, h2] at hb
  have hA := bD_A hb hi
  have e1 : endV (PZ K L E) i n N = endV E i n N := by
    unfold endV
    rw [PZ_A hi, PZ_at (kd := 11) (k := 0) (iBw6 hi (by omega)), PZ_at (kd := 11) (k := eA E i - 1) (iBw6 hi (by omega))]
  have e2 : sameV (PZ K L E) i n N = sameV E i n N := by
    unfold sameV
    rw [PZ_A hi, na_c (f := fun k => decide (PZ K L E 11 i k = N k)) (g := fun k => decide (E 11 i k = N k)) (fun k _ _ => by rw [PZ_at (iBw6 hi (by omega))])]
  have e3 : na (fun k => hr (PZ K L E) (eL (PZ K L E)) (eK (PZ K L E)) (eA (PZ K L E)) (eB (PZ K L E)) (Q k).toInt (E 9 i 0) (nn i)) 1 (n - 1) = na (fun k => hr E (eL E) (eK E) (eA E) (eB E) (Q k).toInt (E 9 i 0) (nn i)) 1 (n - 1) := na_c (fun k _ _ => PZ_hr hb)
  have e4 : mvB (PZ K L E) i n N Q = PZ K L (mvB E i n N Q) := PZ_cp hi
  have nN : eN (mvB E i n N Q) = eN E := by
    unfold eN mvB
    rw [cpV_o (by omega)]
  have nZ : ∀ f, eZ (mvB E i n N Q) f = eZ E f := fun f => by
    unfold eZ mvB
    rw [cpV_o (by omega)]
  have e5 : tlE (PZ K L (mvB E i n N Q)) i 1 1 (n - 1) = ((tlE (mvB E i n N Q) i 1 1 (n - 1)).1, PZ K L (tlE (mvB E i n N Q) i 1 1 (n - 1)).2) := by
    by_cases z : n = 0
    · subst z
      rfl
    · refine PZ_tl hi (by omega) (n - 1) 1 _ (by rw [nN]; exact hG.2.2.2.2.1.1) (fun f hf => by rw [nZ]; exact (hG.2.2.2.2.2.1 f hf).2) (fun k k1 k2 => ?_) (by omega)
      have : mvB E i n N Q (11 + 4 * 1) i k = N k := by
        unfold mvB
        rw [cpV_at, if_neg (by omega), if_pos (by omega)]
      unfold ndE
      rw [this, (hN k (by omega)).1, nn_t (by have := (hN k (by omega)).2; omega)]
      exact (hN k (by omega)).2
  unfold mvV
  rw [PZ_at (kd := 9) (k := 2) (iB9 (by omega)), PZ_at (kd := 9) (k := 0) (iB9 (by omega)), e1, e2, e3, e4, e5]
  split
  · rfl
  · split
    · rfl
    · split
      · rfl
      · split
        · rfl
        · split <;> rfl
end
