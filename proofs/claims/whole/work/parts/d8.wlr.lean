/-! the class reads a circuit -/
/-- a node of a way -/
def wnP (f : Nat → Nat) (n K : Nat) (band : Int32) (W : VV) (j p : Nat) : PRs := if ckN f n p 0 ((eN W : Int) - 1) ≠ 0 then .inl (ckN f n p 0 ((eN W : Int) - 1), p) else
  if 6 ≤ j then .inl (3, p) else
  if ny (fun k => decide (W 11 K k = nn (tV f n p))) 0 j = true ∨ lkE W (W 11 K (j - 1)) (nn (tV f n p)) = -1 then .inl (4, p) else
  if hr W (eL W) (eK W) (eA W) (eB W) (lkE W (W 11 K (j - 1)) (nn (tV f n p))) band (-1) = false then .inl (5, p) else
  if tkI W (tV f n p) = -1 then .inl (5, p) else
  .inr (taE (apV W K j (tV f n p) (ii (lkE W (W 11 K (j - 1)) (nn (tV f n p))))) K 0 j (tkI W (tV f n p)).toNat (tV f n p), tE f n p)
def wkP (g : VV → Nat → PRs) : PRs → PRs
  | .inl e => .inl e
  | .inr (W, p) => g W p
theorem wlP_s {f : Nat → Nat} {n K r j p : Nat} {band : Int32} {W : VV} : wlP f n K band (r + 1) W j p = if 2 ≤ j ∧ tK f n p = 3 then .inr (uV (mkL W K 0 1 (j - 1)) 0 0 5 (nn (K + 1)), p) else wkP (fun W' p' => wlP f n K band r W' (j + 1) p') (wnP f n K band W j p) := by
  unfold wnP
  show (if _ then _ else _) = _
  by_cases a0 : 2 ≤ j ∧ tK f n p = 3
  · simp only [if_pos a0]
  · simp only [if_neg a0]
    by_cases a1 : ckN f n p 0 ((eN W : Int) - 1) ≠ 0
    · simp only [if_pos a1]; rfl
    · simp only [if_neg a1]
      by_cases a2 : 6 ≤ j
      · simp only [if_pos a2]; rfl
      · simp only [if_neg a2]
        by_cases a3 : ny (fun k => decide (W 11 K k = nn (tV f n p))) 0 j = true ∨ lkE W (W 11 K (j - 1)) (nn (tV f n p)) = -1
        · simp only [if_pos a3]; rfl
        · simp only [if_neg a3]
          by_cases a4 : hr W (eL W) (eK W) (eA W) (eB W) (lkE W (W 11 K (j - 1)) (nn (tV f n p))) band (-1) = false
          · simp only [if_pos a4]; rfl
          · simp only [if_neg a4]
            by_cases a5 : tkI W (tV f n p) = -1
            · simp only [if_pos a5]; rfl
            · simp only [if_neg a5]; rfl
theorem apV_u {W : VV} {K j v kd a k : Nat} {lk x : Int32} (h : kd < 10) : apV (uV W kd a k x) K j v lk = uV (apV W K j v lk) kd a k x := by
  funext p q r
  by_cases e : p = kd ∧ q = a ∧ r = k
  · rw [apV_o (by omega), uV_at, if_pos e, uV_at, if_pos e]
  · rw [uV_at, if_neg e, apV_at, apV_at, uV_at, if_neg e]
theorem wnP_i {V W W' : VV} {l : List (Nat → Int32)} {x y band : Int32} {f : Nat → Nat} {n j p p' : Nat} {d : Nat → Nat} (hI : iG V l) (h : wI V x y W j d) (hp : p ≤ n) (e : wnP f n (eK V) band W j p = .inr (W', p')) : p' = tE f n p ∧ tK f n p = 2 ∧ wI V x y W' (j + 1) (apD j (tV f n p) d) := by
  obtain ⟨f1, f2, f3, f4, f5, f6, f7, f8, f9, f10⟩ := wI_f hI h
  have hj1 : 1 ≤ j ∧ j ≤ 6 ∧ ∀ k, k < j → d k < eN V := by
    obtain ⟨E0, h0, hd, hG, h1, ht⟩ := h
    exact ⟨h1, hd.1, hd.2.1⟩
  have hN := hI.1.1.2.2.2.2.1.1
  unfold wnP at e
  by_cases a1 : ckN f n p 0 ((eN W : Int) - 1) ≠ 0
  · rw [if_pos a1] at e; cases e
  · rw [if_neg a1] at e
    by_cases a2 : 6 ≤ j
    · rw [if_pos a2] at e; cases e
    · rw [if_neg a2] at e
      by_cases a3 : ny (fun k => decide (W 11 (eK V) k = nn (tV f n p))) 0 j = true ∨ lkE W (W 11 (eK V) (j - 1)) (nn (tV f n p)) = -1
      · rw [if_pos a3] at e; cases e
      · rw [if_neg a3] at e
        by_cases a4 : hr W (eL W) (eK W) (eA W) (eB W) (lkE W (W 11 (eK V) (j - 1)) (nn (tV f n p))) band (-1) = false
        · rw [if_pos a4] at e; cases e
        · rw [if_neg a4] at e
          by_cases a5 : tkI W (tV f n p) = -1
          · rw [if_pos a5] at e; cases e
          · rw [if_neg a5] at e
            obtain ⟨c1, c2, c3⟩ := ckN_0 (show ckN f n p 0 ((eN W : Int) - 1) = 0 from Decidable.not_not.mp a1)
            rw [f10 (j - 1) (by omega), f5] at e a3
            cases e
            refine ⟨rfl, c1, wI_s hI h (by omega) (by omega) (fun k hk z => a3 (Or.inl (ny_iff.mpr ⟨k, by omega, by omega, ?_⟩))) (fun z => a3 (Or.inr z)) a5⟩
            rw [f10 k hk, z]
            exact decide_eq_true rfl
section
variable {H : fm_H} {x t n : Nat} {m m0 m00 : fm_M} {f : Nat → Nat} {V W : VV}
theorem pE_mI {m' : fm_M} (hk : kR H x t) {c p : Nat} {V' : VV} (h : pE x t f n m c p) (hm : mI t m m' V') (hG : vG V') : pE x t f n m' c p := by
  obtain ⟨h1, h2, h3, h4⟩ := h
  have ht := hk.2.2.2.2
  have o : ∀ a k, a < x + 4 → m'.1 a k = m.1 a k := fun a k ha => (hm.2.2.1.1 a k (by omega)).1
  refine ⟨⟨hm.2.1, ?_⟩, h2, (o _ _ (by omega)).trans h3, (o _ _ (by omega)).trans h4⟩
  rw [hm.1]
  exact hG
theorem c_junk (hk : kR H x t) {c p K v : Nat} {lk : Int32} (hK : K < 8) (h : pE x t f n m c p) : fE (fm_bn (f_X10_append H (m.2.1 (m.2.1 (t + 26) K) 13) (nn v) lk m) fun _ m5 => fm_bn (f_X10_putSlot H (m.2.1 (m.2.1 (t + 26) K) 13) (m5.1 (m.2.1 (m.2.1 (t + 26) K) 13) 0 - 1) (-1) m5) fun _ m6 => fm_bn (f_X6_passToken H (x + 1) m6) fun _ m7 => some ((), m7)) (fun _ m' => pE x t f n m' c p ∧ qF x t m m') := by
  have hS := hk.2.2.2.1
  obtain ⟨hp, hG⟩ := h.1
  have z0 := mI_rf (m := m) (s := t) hp rfl
  obtain ⟨a1, a2⟩ := hG.2.2.2.2.2.2.1 K hK
  have e0 : m.1 (m.2.1 (m.2.1 (t + 26) K) 13) 0 = nn (eA (cv m t) K) := (rd10 (m := m) (s := t) rfl hK 0).trans a1
  have fin : ∀ (m1 : fm_M) (W1 : VV) (z : Nat), z < 6 → mI t m m1 W1 → vG W1 → fE (fm_bn (f_X10_putSlot H (m.2.1 (m.2.1 (t + 26) K) 13) (nn z) (-1) m1) fun _ m6 => fm_bn (f_X6_passToken H (x + 1) m6) fun _ m7 => some ((), m7)) (fun _ m' => pE x t f n m' c p ∧ qF x t m m') := fun m1 W1 z hz h1 hG1 => by
    have e := h1.2.2.2
    refine fE_be (Q1 := fun _ m' => mI t m1 m' (if 0 ≤ (z : Int) ∧ (z : Int) < eA W1 K then uV W1 13 K z (-1) else W1)) ?_ (fun _ m2 h2 => ?_)
    · rw [← e]
      exact c_putSlotX hS h1.2.1 h1.1 hG1 hK (x := (z : Int)) (by omega) (by omega) (-1)
    · have pe := pE_mI hk h (mI_tr h1 h2) (by
        split
        · exact vG_w hG1 (uV_k (by omega)) (uV_k (by omega)) (uV_k (by omega)) (uV_k (by omega)) (fun i => uV_k (by omega)) (fun i => Or.inl (uV_k (by omega))) (fun i => Or.inl (uV_k (by omega)))
        · exact hG1)
      rw [c_passE pe, fb_n]
      exact fE_ret ⟨pe, qF_mI (mI_tr h1 h2)⟩
  by_cases h6 : eA (cv m t) K < 6
  · refine fE_be (c_apV hS hp z0 hK a1 h6 lk) (fun _ m1 h1 => ?_)
    have e1 : m1.1 (m.2.1 (m.2.1 (t + 26) K) 13) 0 = nn (eA (cv m t) K + 1) := (mI_rd h1 10 K 0 (v10 hK) rfl).trans (by rw [apV_at, if_pos ⟨rfl, rfl, rfl⟩])
    rw [e1, nn_dec (by omega)]
    exact fin m1 _ _ (by omega) h1 (vG_apV hG h6)
  · have e6 : eA (cv m t) K = 6 := by omega
    rw [e6] at e0
    unfold f_X10_append
    rw [e0, if_neg (by decide), if_pos (by decide), fb_n, e0, nn_dec (by omega)]
    exact fin m _ 5 (by omega) z0 hG
theorem c_132E (hk : kR H x t) {c p K v : Nat} {lk : Int32} (hK : K < 8) (h : pE x t f n m c p) : fE (f_X6_readWayNode_132 H (x + 1) (nn v) (m.2.1 (m.2.1 (t + 26) K) 13) lk (-1) m) (fun _ m' => pE x t f n m' c p ∧ qF x t m m') := by
  unfold f_X6_readWayNode_132
  rw [if_pos rfl, c_failE h, fb_n]
  exact c_junk hk hK h
theorem c_readWayNode (hk : kR H x t) {l : List (Nat → Int32)} {X y : Int32} {j p : Nat} {d : Nat → Nat} (hI : iG V l) (hK : eK V < 8) (hW : wI V X y W j d) (hp : p ≤ n) (h : pC x t f n m W p) : fE (f_X6_readWayNode H (x + 1) t (m.2.1 (t + 26) (eK V)) m) (fun _ m' => pR x t f n m' (wnP f n (eK V) X W j p) ∧ qF x t m m') := by
  have hS := hk.2.2.2.1
  obtain ⟨f1, f2, f3, f4, f5, f6, f7, f8, f9, f10⟩ := wI_f hI hW
  obtain ⟨j1, j6, jd⟩ : 1 ≤ j ∧ j ≤ 6 ∧ ∀ k, k < j → d k < eN V := by
    obtain ⟨E0, h0, hd, hG, h1, ht⟩ := hW
    exact ⟨h1, hd.1, hd.2.1⟩
  obtain ⟨br, br4, hbr⟩ := hI.2.2.2.2.2.1
  have hN10 := hI.1.1.2.2.2.2.1.1
  have hL16 := hI.1.1.2.2.2.2.1.2.1
  have hP := h.1
  have hV := h.2.1
  have hw := pS_wo hS hP hK
  have e0 : m.1 (t + 1) 0 = nn (eN W) := (rd1 hV 0).trans f1.1
  have en : m.1 (m.2.1 (m.2.1 (t + 26) (eK V)) 13) 0 = nn j := (rd10 hV hK 0).trans f8
  have e11 : ∀ i, m.1 (m.2.1 (m.2.1 (t + 26) (eK V)) 13 + 1) i = W 11 (eK V) i := fun i => rd11 hV hK i
  have hd : (nn (eN W) : Int32) - 1 = ii ((eN W : Int) - 1) := ii_dec _
  have jun : ∀ k, 1 ≤ k ∧ k ≤ 5 → ∀ (lk : Int32), fE (fm_bn (f_X6_fail H (x + 1) (nn k) m) fun _ m5 => f_X6_readWayNode_132 H (x + 1) (nn (tV f n p)) (m.2.1 (m.2.1 (t + 26) (eK V)) 13) lk (-1) m5) (fun _ m' => pR x t f n m' (.inl (k, p)) ∧ qF x t m m') := fun k hk5 lk => by
    rw [c_failN hk h, fb_n]
    have pe := pC_e hk hk5 h f1
    exact fE_w (c_132E (m := fm_si (fm_si m (x + 1) 1 (nn k)) (x + 1) 2 (nn (tS f n p))) hk hK pe) (fun _ m' h' => ⟨h'.1, qF_tr (qF_tr qF_1 qF_1) h'.2⟩)
  unfold f_X6_readWayNode wnP
  rw [kS_0 hS, e0, hd]
  rcases c_check hk (lo := 0) (hi := (eN W : Int) - 1) (by omega) (by omega) h f1 with ⟨c0, c1⟩ | ⟨c0, c1⟩
  · rw [show f_X6_checkedNumber H (x + 1) 0 (ii ((eN W : Int) - 1)) m = _ from c1, fb_n, if_pos h.2.2.2.2, if_pos (kW_b hw), if_neg (show ¬ ckN f n p 0 ((eN W : Int) - 1) ≠ 0 from fun z => z c0)]
    obtain ⟨v1, v2, v3⟩ := ckN_0 c0
    have hv : tV f n p < eN V := by omega
    generalize tV f n p = v at *
    rw [c_lastNode hw (show m.1 (m.2.1 (m.2.1 (t + 26) (eK V)) 13) 0 = ii (j : Int) from en) j6, fb_n, if_neg (show ¬ j = 0 by omega), e11, f10 (j - 1) (by omega), show f_X4_linkBetween H (t + 1) (nn (d (j - 1))) (nn v) m = _ from c_linkBetween hS hV f1 (a := (d (j - 1) : Int)) (b := (v : Int)) (by have := jd (j - 1) (by omega); omega) (by have := jd (j - 1) (by omega); omega) (by omega) (by omega), fb_n, en]
    obtain ⟨l1, l2⟩ := lbV_lk f6 (by omega) (x := d (j - 1)) (y := v) (by have := jd (j - 1) (by omega); omega) (by omega) (by omega)
    rw [l2]
    by_cases a2 : 6 ≤ j
    · rw [if_neg (by rw [nl_6, nn_lt (by omega) (by omega)]; omega), if_pos a2]
      exact jun 3 (by omega) _
    · rw [if_pos (by rw [nl_6, nn_lt (by omega) (by omega)]; omega), if_neg a2, c_hasNode hw (show m.1 (m.2.1 (m.2.1 (t + 26) (eK V)) 13) 0 = ii (j : Int) from en) j6, fb_n, ny_c (f := fun i => decide (m.1 (m.2.1 (m.2.1 (t + 26) (eK V)) 13 + 1) i = nn v)) (g := fun k => decide (W 11 (eK V) k = nn v)) (fun i _ _ => by rw [e11])]
      cases e3 : ny (fun k => decide (W 11 (eK V) k = nn v)) 0 j with
      | true =>
        rw [if_neg (show ¬ bi true = 0 by decide), if_pos (Or.inl rfl)]
        exact jun 4 (by omega) _
      | false =>
        rw [if_pos (show bi false = 0 from rfl)]
        by_cases a4 : lkE W (nn (d (j - 1))) (nn v) = -1
        · rw [if_pos (by rw [a4]; rfl), if_pos (Or.inr a4)]
          exact jun 4 (by omega) _
        · obtain ⟨q, q1, q2⟩ := lkE_r a4
          rw [if_neg (by rw [q2]; exact nn_m1 (by omega)), if_neg (by rintro (z | z); exact Bool.noConfusion z; exact a4 z), rd9 hV hK, f9, c_hasRoom hS hP hV f1 (by omega) (by omega), fb_n]
          cases e5 : hr W (eL W) (eK W) (eA W) (eB W) (lkE W (nn (d (j - 1))) (nn v)) X (-1) with
          | false =>
            rw [if_pos (show bi false = 0 from rfl), it_ff]
            exact jun 5 (by omega) _
          | true =>
            rw [if_neg (show ¬ bi true = 0 by decide), it_tf, kS_1 hS, rd0 hV, rd0 hV, f7, hbr, f1.2.2.1, f4]
            have z0 := mI_rf (m := m) (s := t) hP hV
            obtain ⟨t1, t2⟩ := c_takeX hS hP z0 f1 (v := v) (br := br) (by omega) (f7.trans hbr) (by omega) (nn (eK V))
            rw [show f_X2_take H (t + 20) (t + 1) (nn v) (ii ((eK V : Nat) : Int)) (nn br) m = _ from t1, fb_n]
            by_cases a6 : tkI W v = -1
            · rw [a6, if_pos rfl]
              unfold mTk
              rw [if_pos rfl]
              unfold f_X6_readWayNode_132
              rw [if_pos ii_m1.symm, show (5 : Int32) = nn 5 from nl_5, c_failN hk h, fb_n, ← ii_m1]
              have pe := pC_e hk (k := 5) (by omega) h f1
              exact fE_w (c_junk (m := fm_si (fm_si m (x + 1) 1 (nn 5)) (x + 1) 2 (nn (tS f n p))) hk hK pe) (fun _ m' h' => ⟨h'.1, qF_tr (qF_tr qF_1 qF_1) h'.2⟩)
            · obtain ⟨g1, g2, g3, g4⟩ := tkI_f (E := W) (v := v) (by omega) f1 a6
              have h1 := t2 a6
              rw [if_neg a6]
              unfold f_X6_readWayNode_132
              rw [if_neg (by rw [show (-1 : Int32) = ii (-1) from rfl, ii_eq (by omega) (by omega) (by omega) (by omega)]; exact a6)]
              refine fE_be (c_apV hS hP h1 hK (v := v) (j := j) (by rw [uV_k (by omega), uV_k (by omega), uV_k (by omega)]; exact f8) (by omega) (ii (lkE W (nn (d (j - 1))) (nn v)))) (fun _ m2 h2 => ?_)
              have e2 : m2.1 (m.2.1 (m.2.1 (t + 26) (eK V)) 13) 0 = nn (j + 1) := (mI_rd h2 10 (eK V) 0 (v10 hK) rfl).trans (by rw [apV_at, if_pos ⟨rfl, rfl, rfl⟩])
              rw [e2, nn_dec (by omega), show f_X10_putSlot H (m.2.1 (m.2.1 (t + 26) (eK V)) 13) (nn (j + 1 - 1)) (ii (tkI W v)) m2 = some ((), fm_si m2 (m.2.1 (m.2.1 (t + 26) (eK V)) 13 + 3) j (ii (tkI W v))) from c_putSlot hw (show m2.1 (m.2.1 (m.2.1 (t + 26) (eK V)) 13) 0 = ii ((j + 1 : Nat) : Int) from e2) (by omega) (by omega) _, fb_n]
              have h3 := mI_u h2 13 (eK V) j (x := ii (tkI W v)) (v13 hK) rfl
              have et : ii (tkI W v) = nn (tkI W v).toNat := congrArg ii (by omega)
              have eE : uV (apV (uV (uV (uV W 5 0 (tkI W v).toNat (nn v)) 6 0 (tkI W v).toNat (nn (eK V))) 7 0 (tkI W v).toNat 0) (eK V) j v (ii (lkE W (nn (d (j - 1))) (nn v)))) 13 (eK V) j (ii (tkI W v)) = taE (apV W (eK V) j v (ii (lkE W (nn (d (j - 1))) (nn v)))) (eK V) 0 j (tkI W v).toNat v := by
                rw [et, apV_u (by omega), apV_u (by omega), apV_u (by omega)]
                rfl
              rw [eE] at h3
              refine fE_be (c_pass hk hp (pC_mI hk h h3)) (fun _ m4 ⟨p1, p2⟩ => fE_ret ⟨p1, qF_tr (qF_mI h3) (qF_w p2)⟩)
  · rw [if_pos c0]
    refine fE_be (show fE (f_X6_checkedNumber H (x + 1) 0 (ii ((eN W : Int) - 1)) m) _ from c1) (fun z3 m3 ⟨k1, k2, k3⟩ => ?_)
    rw [if_neg (pE_0 k2)]
    exact fE_ret ⟨k2, k3⟩
theorem c_118E (hk : kR H x t) {c p K : Nat} (h : pE x t f n m c p) : f_X6_readCircuit_118 H (x + 1) t K m = some ((), m) := by
  unfold f_X6_readCircuit_118
  rw [if_neg (pE_0 h)]
theorem c_86E (hk : kR H x t) {c p K q : Nat} {i : Int32} (hK : K < 8) (h : pE x t f n m c p) (hq : 0 < q) : f_X6_readCircuit_86 H (x + 1) t (m.2.1 (t + 26) K) q i m = some ((), m) := by
  obtain ⟨q, rfl⟩ : ∃ q', q = q' + 1 := ⟨q - 1, by omega⟩
  unfold f_X6_readCircuit_86
  by_cases e : (6 : Int32) < i
  · rw [if_pos e, c_118E hk h]
  · rw [if_neg e, if_pos (kW_b (pS_wo hk.2.2.2.1 h.1.1 hK))]
    unfold f_X6_isWayRead
    rw [if_neg (pE_0 h), fb_n, if_neg (by decide), c_118E hk h]
theorem c_118 (hk : kR H x t) {l : List (Nat → Int32)} {X y : Int32} {j p : Nat} {d : Nat → Nat} (hI : iG V l) (hK : eK V < 8) (hW : wI V X y W j d) (h : pC x t f n m W p) : fE (f_X6_readCircuit_118 H (x + 1) t (m.2.1 (t + 26) (eK V)) m) (fun _ m' => pC x t f n m' (opE2 W (eK V) j) p ∧ qF x t m m') := by
  have hS := hk.2.2.2.1
  obtain ⟨f1, f2, f3, f4, f5, f6, f7, f8, f9, f10⟩ := wI_f hI hW
  have j6 : j ≤ 6 := by
    obtain ⟨E0, h0, hd, hG, h1, ht⟩ := hW
    exact hd.1
  unfold f_X6_readCircuit_118
  rw [if_pos h.2.2.2.2, if_pos (kW_b (pS_wo hS h.1 hK))]
  have z0 := mI_rf (m := m) (s := t) h.1 h.2.1
  have c1 := c_makeEntries hS h.1 z0 (i := eK V) (c := 0) (n := j) hK (by omega) f8 j6
  rw [show (10 + 4 * 0 : Nat) = 10 from rfl, wA10] at c1
  refine fE_be c1 (fun _ m1 h1 => ?_)
  have e5 : m1.1 t 5 = nn (eK V) := by
    rw [mI_0 h1, mkL_o (by omega)]
    exact f1.2.2.1.trans (by rw [f4]; rfl)
  rw [e5, nn_inc]
  exact fE_put h1 0 0 5 rfl rfl (fun m2 h2 => fE_ret ⟨pC_mI hk h h2, qF_mI h2⟩)
theorem c_86_l (hk : kR H x t) {l : List (Nat → Int32)} {X y : Int32} (hI : iG V l) (hK : eK V < 8) : ∀ (r j p q : Nat) (W : VV) (m : fm_M) (d : Nat → Nat), wI V X y W j d → p ≤ n → pC x t f n m W p → j + r = 7 → r < q → fE (f_X6_readCircuit_86 H (x + 1) t (m.2.1 (t + 26) (eK V)) q (nn j) m) (fun _ m' => pR x t f n m' (wlP f n (eK V) X r W j p) ∧ qF x t m m') := by
  have hS := hk.2.2.2.1
  intro r
  induction r with
  | zero =>
    intro j p q W m d hW hp h h1 h2
    obtain ⟨E0, h0, hd, hG, _, ht⟩ := hW
    have := hd.1
    omega
  | succ r ih =>
    intro j p q W m d hW hp h h1 h2
    obtain ⟨q, rfl⟩ : ∃ q', q = q' + 1 := ⟨q - 1, by omega⟩
    obtain ⟨f1, f2, f3, f4, f5, f6, f7, f8, f9, f10⟩ := wI_f hI hW
    have en : m.1 (m.2.1 (m.2.1 (t + 26) (eK V)) 13) 0 = nn j := (rd10 h.2.1 hK 0).trans f8
    have e2 := h.2.2.2.1.1
    have hk4 := tK_4 (f := f) (n := n) (p := p)
    rw [wlP_s]
    unfold f_X6_readCircuit_86
    rw [if_neg (by rw [nl_6, nn_lt (by omega) (by omega)]; omega), if_pos (kW_b (pS_wo hS h.1 hK))]
    have go : fE (fm_bn (f_X6_readWayNode H (x + 1) t (m.2.1 (t + 26) (eK V)) m) fun _ m2 => f_X6_readCircuit_86 H (x + 1) t (m.2.1 (t + 26) (eK V)) q (nn j + 1) m2) (fun _ m' => pR x t f n m' (wkP (fun W' p' => wlP f n (eK V) X r W' (j + 1) p') (wnP f n (eK V) X W j p)) ∧ qF x t m m') := by
      refine fE_be (c_readWayNode hk hI hK hW hp h) (fun _ m2 ⟨g1, g2⟩ => ?_)
      have e : m.2.1 = m2.2.1 := (congrArg Prod.fst g2.2).symm
      rw [e, nn_inc]
      cases eP : wnP f n (eK V) X W j p with
      | inl z =>
        rw [eP] at g1
        obtain ⟨c, p'⟩ := z
        rw [c_86E hk hK g1 (by omega)]
        exact fE_ret ⟨g1, g2⟩
      | inr z =>
        rw [eP] at g1
        obtain ⟨W', p'⟩ := z
        obtain ⟨i1, i2, i3⟩ := wnP_i hI hW hp eP
        have hp' : p' ≤ n := by rw [i1]; exact (tE_r hp).2.1
        exact fE_w (ih (j + 1) p' q W' m2 _ i3 hp' g1 (by omega) (by omega)) (fun _ m' h' => ⟨h'.1, qF_tr g2 h'.2⟩)
    unfold f_X6_isWayRead
    rw [if_pos h.2.2.2.2, en, hk.1, e2]
    by_cases a0 : j < 2
    · rw [if_pos (by rw [nl_2, nn_lt (by omega) (by omega)]; exact a0), fb_n, if_pos rfl, if_neg (by omega)]
      exact go
    · rw [if_neg (by rw [nl_2, nn_lt (by omega) (by omega)]; exact a0)]
      by_cases a1 : tK f n p = 3
      · rw [if_pos (by rw [a1]; rfl), fb_n, if_neg (by decide), if_pos ⟨by omega, a1⟩]
        exact c_118 hk hI hK hW h
      · rw [if_neg (by rw [nl_3, nn_eq (by omega) (by omega)]; exact a1), fb_n, if_pos rfl, if_neg (fun z => a1 z.2)]
        exact go
theorem c_readCircuit (hk : kR H x t) {l : List (Nat → Int32)} {p : Nat} (hI : iG V l) (hp : p ≤ n) (h : pC x t f n m V p) : fE (f_X6_readCircuit H (x + 1) t m) (fun _ m' => pR x t f n m' (circP f n V p) ∧ qF x t m m') := by
  have hS := hk.2.2.2.1
  have hG := hI.1.1
  have hN10 := hG.2.2.2.2.1.1
  have hK8 := hG.2.2.2.2.1.2.2.1
  obtain ⟨-, -, e5, -⟩ := pC_N h hG
  have q1 : tN f n p 1 ≤ n := (tN_r hp).2
  have q2 : tN f n p 2 ≤ n := (tN_r hp).2
  have q3 : tN f n p 3 ≤ n := (tN_r hp).2
  have q4 : tN f n p 4 ≤ n := (tN_r hp).2
  unfold f_X6_readCircuit circP
  rw [e5]
  refine fE_be (show fE (f_X6_passFirstWord H (x + 1) (nn (eK V)) 8 m) _ from c_first hk hp (N := eK V) (M := 8) (by omega) (by omega) h hG) (fun r m1 h1 => ?_)
  rcases h1 with ⟨a1, a2, a3, a4⟩ | ⟨a1, a2, a3, a4⟩
  · rw [a2, if_neg (by decide), if_neg (by omega)]
    refine fE_be (show fE (f_X6_passNumber H (x + 1) 1 20 m1) _ from c_num hk (lo := 1) (hi := 20) q1 (by omega) (by omega) a3 hG) (fun z2 m2 h2 => ?_)
    change (ckN f n (tN f n p 1) 1 20 = 0 ∧ z2 = nn (tV f n (tN f n p 1)) ∧ pC x t f n m2 V (tN f n p 2) ∧ wT (x + 2) m1 m2) ∨ (ckN f n (tN f n p 1) 1 20 ≠ 0 ∧ z2 = -1 ∧ pE x t f n m2 (ckN f n (tN f n p 1) 1 20) (tN f n p 1) ∧ qF x t m1 m2) at h2
    rcases h2 with ⟨b1, b2, b3, b4⟩ | ⟨b1, b2, b3, b4⟩
    · rw [if_neg (show ¬ ckN f n (tN f n p 1) 1 20 ≠ 0 from fun z => z b1)]
      refine fE_be (show fE (f_X6_passNumber H (x + 1) 0 9 m2) _ from c_num hk (lo := 0) (hi := 9) q2 (by omega) (by omega) b3 hG) (fun z3 m3 h3 => ?_)
      change (ckN f n (tN f n p 2) 0 9 = 0 ∧ z3 = nn (tV f n (tN f n p 2)) ∧ pC x t f n m3 V (tN f n p 3) ∧ wT (x + 2) m2 m3) ∨ (ckN f n (tN f n p 2) 0 9 ≠ 0 ∧ z3 = -1 ∧ pE x t f n m3 (ckN f n (tN f n p 2) 0 9) (tN f n p 2) ∧ qF x t m2 m3) at h3
      have f3 : qF x t m m2 := qF_tr (qF_w a4) (qF_w b4)
      rcases h3 with ⟨c1, c2, c3, c4⟩ | ⟨c1, c2, c3, c4⟩
      · obtain ⟨e0, -⟩ := pC_N c3 hG
        have hd : (nn (eN V) : Int32) - 1 = ii ((eN V : Int) - 1) := ii_dec _
        rw [if_neg (show ¬ ckN f n (tN f n p 2) 0 9 ≠ 0 from fun z => z c1), kS_0 hS, e0, hd]
        refine fE_be (show fE (f_X6_passNumber H (x + 1) 0 (ii ((eN V : Int) - 1)) m3) _ from c_num hk (lo := 0) (hi := (eN V : Int) - 1) q3 (by omega) (by omega) c3 hG) (fun z4 m4 h4 => ?_)
        change (ckN f n (tN f n p 3) 0 ((eN V : Int) - 1) = 0 ∧ z4 = nn (tV f n (tN f n p 3)) ∧ pC x t f n m4 V (tN f n p 4) ∧ wT (x + 2) m3 m4) ∨ (ckN f n (tN f n p 3) 0 ((eN V : Int) - 1) ≠ 0 ∧ z4 = -1 ∧ pE x t f n m4 (ckN f n (tN f n p 3) 0 ((eN V : Int) - 1)) (tN f n p 3) ∧ qF x t m3 m4) at h4
        rcases h4 with ⟨d1, d2, d3, d4⟩ | ⟨d1, d2, d3, d4⟩
        · obtain ⟨-, -, e5', -⟩ := pC_N d3 hG
          obtain ⟨v1, v2, v3⟩ := ckN_0 d1
          have hK : eK V < 8 := by omega
          have f4 : qF x t m m4 := qF_tr (qF_tr f3 (qF_w c4)) (qF_w d4)
          rw [if_neg (show ¬ ckN f n (tN f n p 3) 0 ((eN V : Int) - 1) ≠ 0 from fun z => z d1), if_pos d3.2.2.2.2, kS_3 hS, kS_z26 hS, e5', if_pos ((nn_in (by omega)).mpr (by omega)), nn_tn (by omega), if_pos (pS_cb hS d3.1 hK), b2, c2, d2]
          have z0 := mI_rf (m := m4) (s := t) d3.1 d3.2.1
          refine fE_be (c_begin hS d3.1 z0 hK (nn (tV f n (tN f n p 1))) (nn (tV f n (tN f n p 2)))) (fun _ m5 h5 => ?_)
          rw [h5.2.2.2, if_pos (kW_b (pS_wo hS d3.1 hK))]
          refine fE_be (c_apV hS d3.1 h5 hK (j := 0) (v := tV f n (tN f n p 3)) (by rw [bgV_at, if_neg (by omega), if_pos (by omega)]; rfl) (by omega) (-1)) (fun _ m6 h6 => ?_)
          rw [← h6.2.2.2]
          exact fE_w (c_86_l hk hI hK 6 1 (tN f n p 4) fm_N _ m6 _ (wI_1 hG (by omega)) q4 (pC_mI hk d3 h6) rfl (by unfold fm_N; omega)) (fun _ m' h' => ⟨h'.1, qF_tr (qF_tr f4 (qF_mI h6)) h'.2⟩)
        · rw [if_pos d1, if_neg (pE_0 d3)]
          exact fE_ret ⟨d3, qF_tr (qF_tr f3 (qF_w c4)) d4⟩
      · rw [if_pos c1, c_numE hk c3, fb_n, if_neg (pE_0 c3)]
        exact fE_ret ⟨c3, qF_tr f3 c4⟩
    · rw [if_pos b1, c_numE hk b3, fb_n, c_numE hk b3, fb_n, if_neg (pE_0 b3)]
      exact fE_ret ⟨b3, qF_tr (qF_w a4) b4⟩
  · rw [a2, if_pos rfl, if_pos a1]
    exact fE_ret ⟨a3, a4⟩
end
