/-! the reference reads a circuit -/
theorem su_S {f : Nat → Int32} {k j : Nat} : su f j (k + 1) = f j + su f (j + 1) k := rfl
theorem su_last {f : Nat → Int32} : ∀ {k j : Nat}, f (j + k) = 0 → su f j (k + 1) = su f j k := by
  intro k
  induction k with
  | zero =>
    intro j h
    show f j + 0 = 0
    rw [Nat.add_zero] at h
    rw [h]
    rfl
  | succ k ih =>
    intro j h
    rw [su_S, ih (by rw [← h]; exact congrArg f (by omega))]
    rfl
/-- without the last circuit -/
theorem rsv_last {E : VV} {K : Nat} {A B : Nat → Nat} {x : Int32} (hK : K ≤ 8) : rsv E (K + 1) A B x (nn K) = rsv E K A B x (-1) := by
  unfold rsv
  rw [su_last (by rw [Nat.zero_add]; exact if_pos rfl)]
  refine su_c (fun i _ h2 => ?_)
  rw [if_neg (show ¬ ii (i : Int) = nn K from fun z => by
    have := nn_e (a := i) (b := K) (by omega) (by omega) z
    omega), if_neg (show ¬ ii (i : Int) = -1 from nn_m1 (a := i) (by omega))]
theorem hr_last {E : VV} {L K : Nat} {A B : Nat → Nat} {j : Int} {band : Int32} (hK : K ≤ 8) : hr E L (K + 1) A B j band (nn K) = hr E L K A B j band (-1) := by
  unfold hr
  rw [rsv_last hK]
/-- what holds while a way is read -/
theorem wI_g {V W : VV} {l : List (Nat → Int32)} {x y : Int32} {j : Nat} {d : Nat → Nat} (hI : iG V l) (hK : eK V < 8) (h : wI V x y W j d) : iZ W ∧ iU W ∧ iT W (eK V + 1) (lu (lnK V (eK V)) (eK V) 0 j) ∧ (∀ i c, i < eK V → eW W i c = eW V i c) ∧ (∀ kd a k, kd ≠ 5 → kd ≠ 6 → kd ≠ 7 → ¬ (a = eK V ∧ 9 ≤ kd ∧ kd ≤ 17) → W kd a k = V kd a k) := by
  obtain ⟨E0, h0, hd, hG, h1, ht⟩ := h
  have o : ∀ kd a k, kd ≠ 5 → kd ≠ 6 → kd ≠ 7 → ¬ (a = eK V ∧ 9 ≤ kd ∧ kd ≤ 17) → W kd a k = V kd a k := fun kd a k a5 a6 a7 a9 => by
    rw [ht.1 _ _ _ a5 a6 a7 (by omega), h0.1 _ _ _ a9]
  refine ⟨tF_iZ ht (fun f t hf hl e => ?_), fun q hq => ?_, tF_iT ht (op_iT h0.1 hI.1.2.1.1) (by omega) (by omega) (by omega) (by rw [lnK_s]; omega), fun i c hi => ?_, o⟩
  · have z : eZ E0 f = eZ V f := by unfold eZ; rw [h0.1 4 _ _ (by omega)]
    rw [z]
    rw [h0.1 5 _ _ (by omega)] at e
    exact hI.2.2.1 f t hf hl e
  · have nL : eL W = eL V := by unfold eL; rw [o _ _ _ (by omega) (by omega) (by omega) (by omega)]
    rw [nL] at hq
    rw [o _ _ _ (by omega) (by omega) (by omega) (by omega)]
    exact hI.2.2.2.1 q hq
  · unfold eW eA eB
    rw [o 10 i 0 (by omega) (by omega) (by omega) (by omega), o 14 i 0 (by omega) (by omega) (by omega) (by omega)]
/-- the reference's array while a way is read -/
def rWL (ρA ρ : Nat → Int32) (V W : VV) (j : Nat) : Prop := rN ρ W ∧ rK ρ W (eK V + 1) (lu (lnK V (eK V)) (eK V) 0 j) ∧ (∀ q, (q < 120 + 66 * eK V + 25 * 0 ∨ 145 + 66 * eK V + 25 * 0 ≤ q) → ρ q = ρA q) ∧ ∀ k, 1 ≤ k → k < j → ρ (120 + 66 * eK V + 25 * 0 + 19 + k) = 1
/-- a node more is not yet counted -/
theorem rK_av {ρ : Nat → Int32} {W : VV} {K i j v : Nat} {lk : Int32} {ln : Nat → Nat → Nat} (h : rK ρ W K ln) (hj : ln i 0 = j) : rK ρ (apV W i j v lk) K ln := by
  refine ⟨h.1, h.2.1, fun a ha d hd => ?_⟩
  obtain ⟨w1, w2, w3, w4⟩ := h.2.2 a ha d hd
  refine ⟨w1, w2, fun k hk => ?_, fun k hk => ?_⟩
  · rw [w3 k hk, apV_at, if_neg (by omega), if_neg (by omega), if_neg (by omega), if_neg]
    rintro ⟨z1, z2, z3⟩
    have : d = 0 := by omega
    subst this
    rw [z2, hj] at hk
    omega
  · have : apV W i j v lk (13 + 4 * d) a k = W (13 + 4 * d) a k := by
      rw [apV_at, if_neg (by omega), if_neg, if_neg (by omega), if_neg (by omega)]
      rintro ⟨z1, z2, z3⟩
      have : d = 0 := by omega
      subst this
      rw [z2, hj] at hk
      omega
    rw [this]
    exact w4 k hk
theorem rWL_s {ρA ρ : Nat → Int32} {V W : VV} {j v t : Nat} {lk : Int32} (h : rWL ρA ρ V W j) (hG : vG W) (h1 : 1 ≤ j) (hj : j < 6) (ht : t < 120) : rWL ρA (apR ρ (120 + 66 * eK V + 25 * 0) j (nn v) (nn (t / 12)) (nn (t % 12)) 1) V (taE (apV W (eK V) j v lk) (eK V) 0 j t v) (j + 1) := by
  obtain ⟨l1, l2, l3, l4⟩ := h
  have o : ∀ kd a k, kd ≠ 5 → kd ≠ 6 → kd ≠ 7 → ¬ (kd = 13 ∧ a = eK V ∧ k = j) → taE (apV W (eK V) j v lk) (eK V) 0 j t v kd a k = apV W (eK V) j v lk kd a k := fun kd a k a5 a6 a7 a13 => taE_o a5 a6 a7 (by omega)
  have hL := hG.2.2.2.2.1.2.1
  refine ⟨?_, ?_, fun q hq => ?_, fun k k1 k2 => ?_⟩
  · refine rN_e (E := W) (rN_c l1 hL (fun k a1 a2 a3 => apR_o hj (by omega))) (fun kd a k hkd => ?_)
    rw [o _ _ _ (by omega) (by omega) (by omega) (by omega), apV_o (by omega)]
  · have := rK_ap (E := apV W (eK V) j v lk) (E' := taE (apV W (eK V) j v lk) (eK V) 0 j t v) (v := nn v) (x := nn (t / 12)) (y := nn (t % 12)) (mk := 1) (rK_av (v := v) (lk := lk) l2 lu_s) (show eK V < eK V + 1 by omega) (show 0 < 2 by omega) lu_s hj (fun d a k => o _ _ _ (by omega) (by omega) (by omega) (by omega)) (fun d a k hn => o _ _ _ (by omega) (by omega) (by omega) (by omega)) (by
      show apV W (eK V) j v lk 11 (eK V) j = nn v
      rw [apV_at, if_neg (by omega), if_neg (by omega), if_neg (by omega), if_pos ⟨rfl, rfl, rfl⟩]) (by
      rw [taE_s]
      exact Or.inr ⟨t / 12, t % 12, by omega, by omega, congrArg nn (by omega), rfl, rfl⟩)
    rw [lu_lu] at this
    exact this
  · rw [apR_o hj (by omega)]
    exact l3 q hq
  · by_cases ek : k = j
    · subst ek
      unfold apR
      simp (disch := omega) only [up_at, if_neg, if_pos, it_T]
    · have := l4 k k1 (by omega)
      unfold apR
      simp (disch := omega) only [up_at, if_neg]
      exact this
section
variable {H : fm_H} {b n : Nat} {m m0 m00 : fm_M} {f : Nat → Nat} {V W : VV} {ρ ρ' ρA ρ0 : Nat → Int32}
theorem r_canFollow_l (hM : kM H b) (hR : m.1 (b + 1) = ρ) {L p j v : Nat} (hL : ρ 3 = nn L) (h16 : L ≤ 16) (hp : p < 1000) (h1 : 1 ≤ j) (h6 : j ≤ 6) : ∀ (k q i : Nat), i + k = j → k < q → f_X12_canFollow_3 H b (nn p) (nn j) (nn v) q (nn i) m = some (bi (!(ny (fun k => decide (ρ (p + 1 + k) = nn v)) i k) && !decide (ii (lkR ρ L (ρ (p + 1 + j - 1)) (nn v)) = -1)), m) := by
  intro k
  induction k with
  | zero =>
    intro q i h2 h3
    obtain ⟨q, rfl⟩ : ∃ q', q = q' + 1 := ⟨q - 1, by omega⟩
    unfold f_X12_canFollow_3
    rw [if_pos ((nn_le (by omega) (by omega)).mpr (by omega)), if_neg (by rw [nl_0, nn_eq (by omega) (by omega)]; omega), nl_1, nn_add, nn_add, nn_sub (by omega), kM_0 hM, kM_z1 hM, if_pos ((nn_in (by omega)).mpr (by omega)), nn_tn (by omega), hR, r_linkOf hM hR hL h16, fb_n, ← nl_1]
    show _ = some (bi (!false && !decide (ii (lkR ρ L (ρ (p + 1 + j - 1)) (nn v)) = -1)), m)
    by_cases z : ii (lkR ρ L (ρ (p + 1 + j - 1)) (nn v)) = -1
    · rw [if_pos z, decide_eq_true z]
      rfl
    · rw [if_neg z, decide_eq_false z]
      rfl
  | succ k ih =>
    intro q i h2 h3
    obtain ⟨q, rfl⟩ : ∃ q', q = q' + 1 := ⟨q - 1, by omega⟩
    unfold f_X12_canFollow_3
    rw [if_neg (by rw [nn_le (by omega) (by omega)]; omega), nl_1, nn_add, nn_add, kM_0 hM, kM_z1 hM, if_pos ((nn_in (by omega)).mpr (by omega)), nn_tn (by omega), hR, ← nl_1]
    show _ = some (bi (!(decide (ρ (p + 1 + i) = nn v) || ny (fun k => decide (ρ (p + 1 + k) = nn v)) (i + 1) k) && !decide (ii (lkR ρ L (ρ (p + 1 + j - 1)) (nn v)) = -1)), m)
    by_cases z : ρ (p + 1 + i) = nn v
    · rw [if_pos z, decide_eq_true z]
      rfl
    · rw [if_neg z, decide_eq_false z, Bool.false_or, nn_inc]
      exact ih q (i + 1) (by omega) (by omega)
theorem r_125E {c p : Nat} {u v s0 : Int32} (h : rPE b f n m ρ c p) : f_X12_parseWayNode_125 H b u v s0 b m = some ((), m) := by
  unfold f_X12_parseWayNode_125
  rw [r_reqE h, fb_n, r_fineE h, fb_n, if_pos rfl, r_req1, fb_n, r_advE h, fb_n]
theorem r_72E {c p : Nat} {u v w y s0 : Int32} (h : rPE b f n m ρ c p) : f_X12_parseWayNode_72 H b u v w y s0 b m = some ((), m) := by
  unfold f_X12_parseWayNode_72
  rw [r_reqE h, fb_n, r_fineE h, fb_n, if_pos rfl, r_125E h]
theorem r_38E {c p : Nat} {u v w s0 : Int32} (h : rPE b f n m ρ c p) : f_X12_parseWayNode_38 H b u v w s0 b m = some ((), m) := by
  unfold f_X12_parseWayNode_38
  rw [r_reqE h, fb_n, r_fineE h, fb_n, if_pos rfl, r_72E h]
/-- what reading a node comes to -/
def rWR (b : Nat) (f : Nat → Nat) (n : Nat) (ρA : Nat → Int32) (V : VV) (j : Nat) (m : fm_M) (res : PRs) : Prop := match res with
  | .inl (c, p) => ∃ ρ, rPE b f n m ρ c p
  | .inr (W, p) => ∃ ρ, rPC b f n m ρ p ∧ rWL ρA ρ V W (j + 1)
theorem r_wayNode (hM : kM H b) {X y : Int32} {j p : Nat} {d : Nat → Nat} (hI : iG V []) (hB : rB ρ0 V) (hK : eK V < 8) (hW : wI V X y W j d) (hp : p ≤ n) (h : rPC b f n m ρ p) (hρA : ρA = acR ρ0 (eK V) X y) (hL : rWL ρA ρ V W j) : fE (f_X12_parseWayNode H b (nn (eK V)) m) (fun _ m' => rWR b f n ρA V j m' (wnP f n (eK V) X W j p) ∧ qR b m m') := by
  obtain ⟨f1, f2, f3, f4, f5, f6, f7, f8, f9, f10⟩ := wI_f hI hW
  obtain ⟨g1, g2, g3, g4, g5⟩ := wI_g hI hK hW
  obtain ⟨j1, j6, jd⟩ : 1 ≤ j ∧ j ≤ 6 ∧ ∀ k, k < j → d k < eN V := by
    obtain ⟨E0, h0, hd, hG, h1, ht⟩ := hW
    exact ⟨h1, hd.1, hd.2.1⟩
  obtain ⟨br, br4, hbr⟩ := hI.2.2.2.2.2.1
  have hL0 := hL
  obtain ⟨l1, l2, l3, l4⟩ := hL
  obtain ⟨n2, n10⟩ := rN_2 l1 f1
  obtain ⟨n3, n16⟩ := rN_3 l1 f1
  obtain ⟨w1, w2, w3, w4⟩ := l2.2.2 (eK V) (by omega) 0 (by omega)
  rw [lu_s] at w1 w2 w3 w4
  have hd : (nn (eN W) : Int32) - 1 = ii ((eN W : Int) - 1) := ii_dec _
  unfold f_X12_parseWayNode wnP
  rw [nl_0, r_wayPlace, fb_n, kM_0 hM, kM_z1 hM, if_pos ((nn_in (by omega)).mpr (by omega)), if_pos (by decide), show (2 : Int32).toNatClampNeg = 2 by decide, nn_tn (by omega), h.1, n2, hd, w1, ← nl_0]
  rcases r_look (H := H) (lo := 0) (hi := (eN W : Int) - 1) (by omega) (by omega) h with ⟨c0, c1, c2⟩ | ⟨c0, c1⟩
  · rw [show f_X12_look H b 0 (ii ((eN W : Int) - 1)) m = _ from c1, fb_n, if_neg (show ¬ ckN f n p 0 ((eN W : Int) - 1) ≠ 0 from fun z => z c0)]
    obtain ⟨v1, v2, v3⟩ := ckN_0 c0
    have hv : tV f n p < eN V := by omega
    by_cases a2 : 6 ≤ j
    · have pe := rPC_e (c := 3) (by omega) h
      rw [if_pos (by rw [nl_6]; exact (nn_le (by omega) (by omega)).mpr a2), if_pos a2]
      unfold f_X12_parseWayNode_38
      rw [show (3 : Int32) = nn 3 from nl_3, r_req0 h, fb_n, r_fineE pe, fb_n, if_pos rfl, r_72E pe]
      exact fE_ret ⟨⟨_, pe⟩, qR_er⟩
    · rw [if_neg (by rw [nl_6, nn_le (by omega) (by omega)]; exact a2), if_neg a2]
      unfold f_X12_parseWayNode_38
      rw [r_req1, fb_n, r_fine h, fb_n, if_neg (by decide), c2]
      generalize hgv : tV f n p = v at *
      have cf := r_canFollow_l (H := H) hM h.1 (L := eL W) (p := 120 + 66 * eK V + 25 * 0) (j := j) (v := v) n3 n16 (by omega) j1 j6 j fm_N 0 (by omega) (by unfold fm_N; omega)
      rw [ny_c (g := fun k => decide (W 11 (eK V) k = nn v)) (fun i _ hi => by rw [show ρ (120 + 66 * eK V + 25 * 0 + 1 + i) = W 11 (eK V) i from w3 i (by omega)]), lkR_E l1, show 120 + 66 * eK V + 25 * 0 + 1 + j - 1 = 120 + 66 * eK V + 25 * 0 + 1 + (j - 1) by omega, show ρ (120 + 66 * eK V + 25 * 0 + 1 + (j - 1)) = W 11 (eK V) (j - 1) from w3 (j - 1) (by omega)] at cf
      rw [show f_X12_canFollow H b (nn (120 + 66 * eK V + 25 * 0)) (nn j) (nn v) m = _ from cf, fb_n]
      have lk1 : ii (lkE W (W 11 (eK V) (j - 1)) (nn v)) = -1 ↔ lkE W (W 11 (eK V) (j - 1)) (nn v) = -1 := by
        constructor
        · intro z
          by_cases e : lkE W (W 11 (eK V) (j - 1)) (nn v) = -1
          · exact e
          · obtain ⟨q, q1, q2⟩ := lkE_r e
            rw [q2] at z
            exact absurd z (nn_m1 (a := q) (by omega))
        · intro z
          rw [z]
          rfl
      by_cases a3 : ny (fun k => decide (W 11 (eK V) k = nn v)) 0 j = true ∨ lkE W (W 11 (eK V) (j - 1)) (nn v) = -1
      · have pe := rPC_e (c := 4) (by omega) h
        have e : (!ny (fun k => decide (W 11 (eK V) k = nn v)) 0 j && !decide (ii (lkE W (W 11 (eK V) (j - 1)) (nn v)) = -1)) = false := by
          rcases a3 with z | z
          · rw [z]
            rfl
          · rw [decide_eq_true (lk1.mpr z), Bool.not_true, Bool.and_false]
        rw [e, if_pos (show bi false = 0 from rfl), if_pos a3]
        unfold f_X12_parseWayNode_72
        rw [show (4 : Int32) = nn 4 from nl_4, r_req0 h, fb_n, r_fineE pe, fb_n, if_pos rfl, r_125E pe]
        exact fE_ret ⟨⟨_, pe⟩, qR_er⟩
      · have n1 : ny (fun k => decide (W 11 (eK V) k = nn v)) 0 j = false := by
          cases z : ny (fun k => decide (W 11 (eK V) k = nn v)) 0 j with
          | false => rfl
          | true => exact absurd (Or.inl z) a3
        have n4 : lkE W (W 11 (eK V) (j - 1)) (nn v) ≠ -1 := fun z => a3 (Or.inr z)
        obtain ⟨q, q1, q2⟩ := lkE_r n4
        rw [if_neg a3, n1, decide_eq_false (fun z => n4 (lk1.mp z)), if_neg (show ¬ bi (!false && !false) = 0 by decide)]
        unfold f_X12_parseWayNode_72
        rw [r_req1, fb_n, r_fine h, fb_n, if_neg (by decide), if_neg (by rw [nl_0, nn_eq (by omega) (by omega)]; omega), nl_1, nn_add, nn_add, nn_sub (by omega), kM_0 hM, kM_z1 hM, if_pos ((nn_in (by omega)).mpr (by omega)), nn_tn (by omega), h.1, show 120 + 66 * eK V + 25 * 0 + 1 + j - 1 = 120 + 66 * eK V + 25 * 0 + 1 + (j - 1) by omega, show ρ (120 + 66 * eK V + 25 * 0 + 1 + (j - 1)) = W 11 (eK V) (j - 1) from w3 (j - 1) (by omega), r_linkOf hM h.1 n3 n16, fb_n, lkR_E l1, r_of0 hM hK, fb_n, h.1]
        have eX : ρ (104 + 66 * eK V) = X := by
          rw [l3 _ (by omega), hρA]
          exact acR_9 hK 0 (by omega) (by omega) (by omega)
        have hV1 : ∀ i, i < eK V + 1 → nn i ≠ nn (eK V) → rV1 ρ W i := fun i hi hne => by
          have hi' : i < eK V := by
            by_cases e : i = eK V
            · rw [e] at hne
              exact absurd rfl hne
            · omega
          obtain ⟨r1, r2, r3, r4, r5⟩ := rB_V1 hB hI.1.2.1 hi' (hI.1.2.2.2.1 i hi')
          have oo : ∀ q, q < 120 + 66 * eK V + 25 * 0 → ρ q = ρA q := fun q hq => l3 q (by omega)
          refine ⟨fun c hc => ⟨?_, ?_⟩, ?_, ?_, ?_, fun z => ?_⟩
          · have := l2.2.2 i (by omega) c hc
            rw [lu_o (by omega), lnK_o (by omega)] at this
            rw [g4 i c hi']
            exact this
          · rw [g4 i c hi']
            exact iWy_c (E := V) (i := i) (c := c) f2 f5 (fun k => g5 _ _ _ (by omega) (by omega) (by omega) (by omega)) (fun k => g5 _ _ _ (by omega) (by omega) (by omega) (by omega)) (r1 c hc).2
          · rw [oo _ (by omega), hρA, acR_o (by omega) (by omega), r2, g5 _ _ _ (by omega) (by omega) (by omega) (by omega)]
          · rw [oo _ (by omega), hρA, acR_o (by omega) (by omega), r3, g5 _ _ _ (by omega) (by omega) (by omega) (by omega)]
          · rw [g5 _ _ _ (by omega) (by omega) (by omega) (by omega)]
            exact r4
          · rw [g5 9 _ _ (by omega) (by omega) (by omega) (by omega)] at z
            have := g4 i 1 hi'
            exact this.trans (r5 z)
        rw [eX, q2, show f_X12_hasRoom H b (ii ((q : Nat) : Int)) (nn (eK V)) X m = _ from r_hasRoom hM h.1 l1 f1 g2 l2.1 (by omega) q1 hV1, fb_n, hr_last (by omega), ← nl_1, show hr W (eL W) (eK V) (eA W) (eB W) ((q : Nat) : Int) X (-1) = hr W (eL W) (eK W) (eA W) (eB W) ((q : Nat) : Int) X (-1) from by rw [f4]]
        cases c5 : hr W (eL W) (eK W) (eA W) (eB W) ((q : Nat) : Int) X (-1) with
        | false =>
          have pe := rPC_e (c := 5) (by omega) h
          rw [if_pos (show bi false = 0 from rfl), it_ff]
          unfold f_X12_parseWayNode_125
          rw [show (5 : Int32) = nn 5 from nl_5, r_req0 h, fb_n, r_fineE pe, fb_n, if_pos rfl, r_req1, fb_n, r_advE pe, fb_n]
          exact fE_ret ⟨⟨_, pe⟩, qR_er⟩
        | true =>
          rw [if_neg (show ¬ bi true = 0 by decide), it_tf]
          unfold f_X12_parseWayNode_125
          rw [r_req1, fb_n, r_fine h, fb_n, if_neg (by decide)]
          refine fE_be (show fE (f_X12_appendToWay H b (nn (eK V)) (nn 0) (nn v) 1 m) _ from r_appendToWay hM (m00 := m) (rI_rf h.1) l1 f1 f6 g1 l2 g3 (i := eK V) (c := 0) (j := j) (v := v) (br := br) (mk := 1) (by omega) (by omega) lu_s (by omega) (by omega) (f7.trans hbr) (by omega)) (fun r m1 hx => ?_)
          rcases hx with ⟨a, -, -⟩ | ⟨b1, b2, b3, b4⟩ | ⟨b1, b2, b3, b4⟩
          · omega
          · have h1 := rPC_I h b4
            have pe := rPC_e (c := 5) (by omega) h1
            rw [b3, if_pos rfl, if_pos b2, show (5 : Int32) = nn 5 from nl_5, r_req0 h1, fb_n, r_advE pe, fb_n]
            exact fE_ret ⟨⟨_, pe⟩, qR_tr (qR_I b4) qR_er⟩
          · have h1 := rPC_I h b4
            obtain ⟨t1, t2, t3, t4⟩ := tkI_f (E := W) (v := v) (by omega) f1 b2
            rw [b3, if_neg (by decide), if_neg b2, r_req1, fb_n]
            refine fE_be (r_adv hM hp h1) (fun _ m2 ⟨k1, k2⟩ => fE_ret ⟨⟨_, k1, rWL_s hL0 f1 j1 (by omega) (by omega)⟩, qR_tr (qR_I b4) (qR_w k2)⟩)
  · have hc2 := ckN_2 (f := f) (n := n) (p := p) (lo := 0) (hi := (eN W : Int) - 1)
    have pe := rPC_e (c := ckN f n p 0 ((eN W : Int) - 1)) (by omega) h
    rw [if_pos c0, show f_X12_look H b 0 (ii ((eN W : Int) - 1)) m = _ from c1, fb_n]
    refine fE_w (Q := fun _ m' => m' = erM b f n m (ckN f n p 0 ((eN W : Int) - 1)) p) ?_ (fun _ m' e => by rw [e]; exact ⟨⟨_, pe⟩, qR_er⟩)
    split
    · rw [r_38E pe]
      exact fE_ret rfl
    · rw [r_38E pe]
      exact fE_ret rfl
end
