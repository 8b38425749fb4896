/-! the reference reads circuits, statements, texts -/
section
variable {H : fm_H} {b n : Nat} {m m0 m00 : fm_M} {f : Nat → Nat} {V W : VV} {ρ ρ' ρA ρ0 : Nat → Int32}
/-- the first node of a way -/
theorem r_wayNode0 (hM : kM H b) {X y : Int32} {p : Nat} (hI : iG V []) (hB : rB ρ0 V) (hK : eK V < 8) (hp : p ≤ n) (h : rPC b f n m (acR ρ0 (eK V) X y) p) : fE (f_X12_parseWayNode H b (nn (eK V)) m) (fun _ m' => ((ckN f n p 0 ((eN V : Int) - 1) = 0 ∧ ∃ ρ, rPC b f n m' ρ (tE f n p) ∧ rWL (acR ρ0 (eK V) X y) ρ V (apV (bgV V (eK V) X y) (eK V) 0 (tV f n p) (-1)) 1) ∨ (ckN f n p 0 ((eN V : Int) - 1) ≠ 0 ∧ ∃ ρ, rPE b f n m' ρ (ckN f n p 0 ((eN V : Int) - 1)) p)) ∧ qR b m m') := by
  have hG := hI.1.1
  have hL16 := hG.2.2.2.2.1.2.1
  have hN10 := hG.2.2.2.2.1.1
  have r2 : acR ρ0 (eK V) X y 2 = nn (eN V) := (acR_o (by omega) (by omega)).trans (rN_2 hB.1 hG).1
  have hd : (nn (eN V) : Int32) - 1 = ii ((eN V : Int) - 1) := ii_dec _
  have w0 : acR ρ0 (eK V) X y (120 + 66 * eK V + 25 * 0) = nn 0 := acR_z (by omega) (by omega) (by omega) (by omega)
  unfold f_X12_parseWayNode
  rw [nl_0, r_wayPlace, fb_n, kM_0 hM, kM_z1 hM, if_pos ((nn_in (by omega)).mpr (by omega)), if_pos (by decide), show (2 : Int32).toNatClampNeg = 2 by decide, nn_tn (by omega), h.1, r2, hd, w0]
  rcases r_look (H := H) (lo := 0) (hi := (eN V : Int) - 1) (by omega) (by omega) h with ⟨c0, c1, c2⟩ | ⟨c0, c1⟩
  · obtain ⟨v1, v2, v3⟩ := ckN_0 c0
    rw [c1, fb_n, if_neg (by decide)]
    unfold f_X12_parseWayNode_38
    rw [r_req1, fb_n, r_fine h, fb_n, if_neg (by decide), c2]
    have cf : f_X12_canFollow H b (nn (120 + 66 * eK V + 25 * 0)) (nn 0) (nn (tV f n p)) m = some (1, m) := by
      show f_X12_canFollow_3 H b (nn (120 + 66 * eK V + 25 * 0)) (nn 0) (nn (tV f n p)) (999999 + 1) 0 m = some (1, m)
      unfold f_X12_canFollow_3
      rw [if_pos (by decide), if_pos (by decide)]
    rw [cf, fb_n, if_neg (by decide)]
    unfold f_X12_parseWayNode_72
    rw [r_req1, fb_n, r_fine h, fb_n, if_neg (by decide), if_pos (by decide)]
    unfold f_X12_parseWayNode_125
    rw [r_req1, fb_n, r_fine h, fb_n, if_neg (by decide)]
    -- what is read
    obtain ⟨W1, eW1⟩ : ∃ W1, W1 = apV (bgV V (eK V) X y) (eK V) 0 (tV f n p) (-1) := ⟨_, rfl⟩
    have hW : wI V X y W1 1 (fun _ => tV f n p) := by rw [eW1]; exact wI_1 hG (by omega)
    obtain ⟨f1, f2, f3, f4, f5, f6, f7, f8, f9, f10⟩ := wI_f hI hW
    obtain ⟨g1, g2, g3, g4, g5⟩ := wI_g hI hK hW
    obtain ⟨br, br4, hbr⟩ := hI.2.2.2.2.2.1
    have fo : ∀ kd a k, ¬ (a = eK V ∧ 9 ≤ kd ∧ kd ≤ 17) → W1 kd a k = V kd a k := fun kd a k h => by
      rw [eW1, apV_o (by omega), bgV_o (by omega)]
    have e13 : W1 13 (eK V) 0 = -1 := by
      rw [eW1, apV_at, if_neg (by omega), if_pos ⟨rfl, rfl, rfl⟩]
    have hN1 : rN (acR ρ0 (eK V) X y) W1 := rN_f (rN_c hB.1 hL16 (fun k a1 a2 a3 => acR_o a2 (by omega))) (fun kd i k h => fo _ _ _ (by omega))
    have hK1 : rK (acR ρ0 (eK V) X y) W1 (eK V + 1) (lnK V (eK V)) := by
      refine ⟨acR_4, by omega, fun a ha e he => ?_⟩
      by_cases q : a = eK V
      · subst q
        rw [lnK_s]
        exact ⟨acR_z (by omega) (by omega) (by omega) (by omega), by omega, fun k hk => by omega, fun k hk => by omega⟩
      · rw [lnK_o q]
        exact rW_e (rW_c (hB.2.1.2.2 a (by omega) e he) (fun k k1 k2 => acR_o (by omega) (by omega))) (fun k => fo _ _ _ (by omega)) (fun k => fo _ _ _ (by omega))
    refine fE_be (show fE (f_X12_appendToWay H b (nn (eK V)) (nn 0) (nn (tV f n p)) 1 m) _ from r_appendToWay hM (m00 := m) (rI_rf h.1) hN1 f1 f6 g1 hK1 (op_iT fo hI.1.2.1.1) (i := eK V) (c := 0) (j := 0) (v := tV f n p) (br := br) (mk := 1) (by omega) (by omega) lnK_s (by omega) (by omega) (f7.trans hbr) (by omega)) (fun r m1 hx => ?_)
    rcases hx with ⟨b1, b2, b3⟩ | ⟨a, -⟩ | ⟨a, -⟩
    · have h1 := rPC_I h b3
      rw [b2, if_neg (by decide), r_req1, fb_n]
      refine fE_be (r_adv hM hp h1) (fun _ m2 ⟨k1, k2⟩ => fE_ret ⟨Or.inl ⟨c0, _, k1, ?_⟩, qR_tr (qR_I b3) (qR_w k2)⟩)
      rw [← eW1]
      refine ⟨rN_e (E := W1) (rN_c hN1 f1.2.2.2.2.1.2.1 (fun k a1 a2 a3 => apR_o (by omega) (by omega))) (fun kd a k hkd => rfl), ?_, fun q hq => apR_o (by omega) (by omega), fun k k1 k2 => by omega⟩
      exact rK_ap (E := W1) (E' := W1) (i := eK V) (c := 0) (j := 0) hK1 (by omega) (by omega) lnK_s (by omega) (fun _ _ _ => rfl) (fun _ _ _ _ => rfl) (by
        show W1 11 (eK V) 0 = nn (tV f n p)
        exact f10 0 (by omega)) (Or.inl ⟨e13, rfl, rfl⟩)
    · omega
    · omega
  · have hc2 := ckN_2 (f := f) (n := n) (p := p) (lo := 0) (hi := (eN V : Int) - 1)
    have pe := rPC_e (c := ckN f n p 0 ((eN V : Int) - 1)) (by omega) h
    rw [c1, fb_n, if_neg (by decide), r_38E pe]
    exact fE_ret ⟨Or.inr ⟨c0, _, pe⟩, qR_er⟩
/-- the way's end -/
theorem rWL_end {X y : Int32} {j : Nat} {d : Nat → Nat} (hI : iG V []) (hA : rAll ρ0 V []) (hK : eK V < 8) (hx : ∃ b, b ≤ 20 ∧ X = nn b) (hW : wI V X y W j d) (h2 : 2 ≤ j) (hL : rWL (acR ρ0 (eK V) X y) ρ V W j) : rAll ρ (opE2 W (eK V) j) [] := by
  obtain ⟨E0, h0, hd, hG, h1, ht⟩ := hW
  obtain ⟨l1, l2, l3, l4⟩ := hL
  refine ⟨(opn_ok hI hK h0 hd h2 ht hx).2 ρ0 ρ hA.1 l2 (fun q a1 a2 a3 a4 => ?_) (fun k k1 k2 k3 => ?_) ?_ (fun k k1 k2 => l4 k k1 k2), rP_c hA.2 (fun k hk => ?_)⟩
  · rw [l3 q (by omega), acR_o a2 a4]
  · have := pk_l k k1 k2 k3
    rw [l3 _ (by omega)]
    exact acR_9 hK k k1 k2 k3
  · rw [l3 _ (by omega)]
    exact acR_z (by omega) (by omega) (by omega) (by omega)
  · rw [l3 k (by omega), acR_o (by omega) (by omega)]
theorem r_73E {c p q : Nat} {u : Int32} (h : rPE b f n m ρ c p) (hq : 0 < q) : f_X12_parseCircuit_73 H b u q m = some ((), m) := by
  obtain ⟨q, rfl⟩ : ∃ q', q = q' + 1 := ⟨q - 1, by omega⟩
  unfold f_X12_parseCircuit_73
  rw [r_fineE h, fb_n, if_pos rfl]
theorem r_73 (hM : kM H b) {X y : Int32} (hI : iG V []) (hA : rAll ρ0 V []) (hK : eK V < 8) (hx : ∃ b, b ≤ 20 ∧ X = nn b) : ∀ (r j p q : Nat) (W : VV) (m : fm_M) (ρ : Nat → Int32) (d : Nat → Nat), wI V X y W j d → p ≤ n → rPC b f n m ρ p → rWL (acR ρ0 (eK V) X y) ρ V W j → 2 ≤ j → j + r = 7 → r < q → fE (f_X12_parseCircuit_73 H b (nn (eK V)) q m) (fun _ m' => rPX b f n m' (wlP f n (eK V) X r W j p) ∧ qR b m m') := by
  intro r
  induction r with
  | zero =>
    intro j p q W m ρ d hW hp h hL h1 h2 h3
    obtain ⟨E0, h0, hd, hG, _, ht⟩ := hW
    have := hd.1
    omega
  | succ r ih =>
    intro j p q W m ρ d hW hp h hL h1 h2 h3
    obtain ⟨q, rfl⟩ : ∃ q', q = q' + 1 := ⟨q - 1, by omega⟩
    have hk4 := tK_4 (f := f) (n := n) (p := p)
    rw [wlP_s]
    unfold f_X12_parseCircuit_73
    rw [r_fine h, fb_n, if_neg (by decide), h.2.2.1.1]
    by_cases k2 : tK f n p = 2
    · rw [if_pos ((rkd_3 hk4).mpr k2), if_neg (show ¬ (2 ≤ j ∧ tK f n p = 3) from fun z => by omega)]
      refine fE_be (r_wayNode hM hI hA.1 hK hW hp h rfl hL) (fun _ m1 ⟨g1, g2⟩ => ?_)
      cases eP : wnP f n (eK V) X W j p with
      | inl z =>
        rw [eP] at g1
        obtain ⟨c, p'⟩ := z
        obtain ⟨ρ1, g1⟩ := g1
        rw [r_73E g1 (by omega)]
        exact fE_ret ⟨Or.inl ⟨_, g1⟩, g2⟩
      | inr z =>
        rw [eP] at g1
        obtain ⟨W', p'⟩ := z
        obtain ⟨ρ1, g1, g3⟩ := g1
        obtain ⟨i1, i2, i3⟩ := wnP_i hI hW hp eP
        have hp' : p' ≤ n := by rw [i1]; exact (tE_r hp).2.1
        exact fE_w (ih (j + 1) p' q W' m1 ρ1 _ i3 hp' g1 g3 (by omega) (by omega) (by omega)) (fun _ m' h' => ⟨h'.1, qR_tr g2 h'.2⟩)
    · rw [if_neg (fun z => k2 ((rkd_3 hk4).mp z))]
      by_cases k3 : tK f n p = 3
      · rw [if_pos ⟨h1, k3⟩]
        exact fE_ret ⟨⟨_, h, rWL_end hI hA hK hx hW h1 hL⟩, qR_rf⟩
      · rw [if_neg (fun z => k3 z.2)]
        have e0 : ckN f n p 0 ((eN W : Int) - 1) = 1 := by
          unfold ckN
          rw [if_neg k2]
        have eP : wnP f n (eK V) X W j p = .inl (1, p) := by
          unfold wnP
          rw [if_pos (by rw [e0]; omega), e0]
        rw [eP]
        exact fE_ret ⟨Or.inr ⟨rfl, hp, k3, _, h⟩, qR_rf⟩
theorem r_parseCircuit (hM : kM H b) {p : Nat} (hp : p ≤ n) (h : rPC b f n m ρ p) (hA : rAll ρ V []) (hV : gL V) : fE (f_X12_parseCircuit H b m) (fun _ m' => rPX b f n m' (circP f n V p) ∧ qR b m m') := by
  obtain ⟨n2, n10, n3, n16, n4, n8⟩ := rB_N hA hV
  have q1 : tN f n p 1 ≤ n := (tN_r hp).2
  have q2 : tN f n p 2 ≤ n := (tN_r hp).2
  have q3 : tN f n p 3 ≤ n := (tN_r hp).2
  have q4 : tN f n p 4 ≤ n := (tN_r hp).2
  unfold f_X12_parseCircuit circP
  rw [kM_0 hM, kM_z1 hM, if_pos (by decide), show (4 : Int32).toNatClampNeg = 4 by decide, h.1, n4, nl_8]
  by_cases c1 : 8 ≤ eK V
  · rw [if_pos ((nn_le (by omega) (by omega)).mpr c1), if_pos c1]
    have pe := rPC_e (c := 3) (by omega) h
    unfold f_X12_parseCircuit_17
    rw [show (3 : Int32) = nn 3 from nl_3, r_req0 h, fb_n, r_advE pe, fb_n, r_numE pe, fb_n, r_numE pe, fb_n, r_fineE pe, fb_n, if_pos rfl]
    exact fE_ret ⟨Or.inl ⟨_, pe⟩, qR_er⟩
  · rw [if_neg (by rw [nn_le (by omega) (by omega)]; exact c1), if_neg c1]
    unfold f_X12_parseCircuit_17
    rw [r_req1, fb_n]
    refine fE_be (r_adv hM hp h) (fun _ m1 ⟨a1, a2⟩ => ?_)
    change rPC b f n m1 ρ (tN f n p 1) at a1
    refine fE_be (show fE (f_X12_parseNumber H b 1 20 m1) _ from r_num hM (lo := 1) (hi := 20) q1 (by omega) (by omega) a1) (fun z2 m2 h2 => ?_)
    rcases h2 with ⟨b1, b2, b3, b4⟩ | ⟨b1, b3, b4⟩
    · change rPC b f n m2 ρ (tN f n p 2) at b3
      have f2 : qR b m m2 := qR_tr (qR_w a2) b4
      rw [if_neg (show ¬ ckN f n (tN f n p 1) 1 20 ≠ 0 from fun z => z b1)]
      refine fE_be (show fE (f_X12_parseNumber H b 0 9 m2) _ from r_num hM (lo := 0) (hi := 9) q2 (by omega) (by omega) b3) (fun z3 m3 h3 => ?_)
      rcases h3 with ⟨d1, d2, d3, d4⟩ | ⟨d1, d3, d4⟩
      · change rPC b f n m3 ρ (tN f n p 3) at d3
        have f3 : qR b m m3 := qR_tr f2 d4
        rw [if_neg (show ¬ ckN f n (tN f n p 2) 0 9 ≠ 0 from fun z => z d1), r_fine d3, fb_n, if_neg (by decide), b2, d2]
        refine fE_be (r_appendCircuit hM (m00 := m3) (rI_rf d3.1) (K := eK V) (by omega) n4 (nn (tV f n (tN f n p 1))) (nn (tV f n (tN f n p 2)))) (fun r m4 ⟨hr4, h4⟩ => ?_)
        subst hr4
        have e4 := rPC_I d3 h4
        have f4 : qR b m m4 := qR_tr f3 (qR_I h4)
        obtain ⟨u1, u2, u3⟩ := ckN_0 b1
        have hx : ∃ b, b ≤ 20 ∧ nn (tV f n (tN f n p 1)) = nn b := ⟨_, by omega, rfl⟩
        refine fE_be (r_wayNode0 hM hV.1 hA.1 (by omega) q3 e4) (fun _ m5 ⟨h5, g5⟩ => ?_)
        have f5 : qR b m m5 := qR_tr f4 g5
        rcases h5 with ⟨i1, ρ5, i2, i3⟩ | ⟨i1, ρ5, i2⟩
        · change rPC b f n m5 ρ5 (tN f n p 4) at i2
          rw [r_fine i2, fb_n, if_neg (by decide), if_neg (show ¬ ckN f n (tN f n p 3) 0 ((eN V : Int) - 1) ≠ 0 from fun z => z i1)]
          obtain ⟨v1, v2, v3⟩ := ckN_0 i1
          have hW := wI_1 (x := nn (tV f n (tN f n p 1))) (y := nn (tV f n (tN f n p 2))) (v := tV f n (tN f n p 3)) hV.1.1.1 (by omega)
          rw [wlP_s, if_neg (by omega)]
          refine fE_be (r_wayNode hM hV.1 hA.1 (by omega) hW q4 i2 rfl i3) (fun _ m6 ⟨g1, g2⟩ => ?_)
          cases eP : wnP f n (eK V) (nn (tV f n (tN f n p 1))) (apV (bgV V (eK V) (nn (tV f n (tN f n p 1))) (nn (tV f n (tN f n p 2)))) (eK V) 0 (tV f n (tN f n p 3)) (-1)) 1 (tN f n p 4) with
          | inl z =>
            rw [eP] at g1
            obtain ⟨c, p'⟩ := z
            obtain ⟨ρ6, g1⟩ := g1
            rw [r_73E g1 (by unfold fm_N; omega)]
            exact fE_ret ⟨Or.inl ⟨_, g1⟩, qR_tr f5 g2⟩
          | inr z =>
            rw [eP] at g1
            obtain ⟨W', p'⟩ := z
            obtain ⟨ρ6, g1, g3⟩ := g1
            obtain ⟨k1, k2, k3⟩ := wnP_i hV.1 hW q4 eP
            have hp' : p' ≤ n := by rw [k1]; exact (tE_r q4).2.1
            exact fE_w (r_73 hM hV.1 hA (by omega) hx 5 2 p' fm_N W' m6 ρ6 _ k3 hp' g1 g3 (by omega) (by omega) (by unfold fm_N; omega)) (fun _ m' h' => ⟨h'.1, qR_tr (qR_tr f5 g2) h'.2⟩)
        · rw [r_fineE i2, fb_n, if_pos rfl, if_pos i1, r_73E i2 (by unfold fm_N; omega)]
          exact fE_ret ⟨Or.inl ⟨_, i2⟩, f5⟩
      · rw [if_pos d1, r_fineE d3, fb_n, if_pos rfl]
        exact fE_ret ⟨Or.inl ⟨_, d3⟩, qR_tr f2 d4⟩
    · rw [if_pos b1, r_numE b3, fb_n, r_fineE b3, fb_n, if_pos rfl]
      exact fE_ret ⟨Or.inl ⟨_, b3⟩, qR_tr (qR_w a2) b4⟩
/-- what a statement comes to -/
def rPY (b : Nat) (f : Nat → Nat) (n : Nat) (m : fm_M) (res : PRs) : Prop := match res with
  | .inl (c, p) => ∃ ρ, rPE b f n m ρ c p
  | .inr (V, p) => ∃ ρ, rPC b f n m ρ p ∧ rAll ρ V []
theorem r_52E {c p : Nat} (h : rPE b f n m ρ c p) : f_X12_parseStatement_52 H b m = some ((), m) := by
  unfold f_X12_parseStatement_52
  split
  · rw [r_req1, fb_n, r_advE h, fb_n]
  · rw [r_reqE h, fb_n, r_advE h, fb_n]
theorem r_52 (hM : kM H b) {res : PRs} (h : rPX b f n m res) (hn : ∀ V' p', res = .inr (V', p') → p' ≤ n) : fE (f_X12_parseStatement_52 H b m) (fun _ m' => rPY b f n m' (semiP f n res) ∧ qR b m m') := by
  cases res with
  | inl z =>
    obtain ⟨c, p⟩ := z
    rcases h with ⟨ρ, h⟩ | ⟨e, hp, k3, ρ, h⟩
    · rw [r_52E h]
      exact fE_ret ⟨⟨_, h⟩, qR_rf⟩
    · subst e
      have hk4 := tK_4 (f := f) (n := n) (p := p)
      have pe := rPC_e (c := 1) (by omega) h
      unfold f_X12_parseStatement_52
      rw [h.2.2.1.1, if_neg (fun z => k3 ((rkd_4 hk4).mp z)), show f_X12_require H b 0 (1 : Int32) m = _ from r_req0 (k := 1) h, fb_n, r_advE pe, fb_n]
      exact fE_ret ⟨⟨_, pe⟩, qR_er⟩
  | inr z =>
    obtain ⟨V', p⟩ := z
    obtain ⟨ρ, h, hA⟩ := h
    have hp := hn V' p rfl
    have hk4 := tK_4 (f := f) (n := n) (p := p)
    unfold f_X12_parseStatement_52
    rw [h.2.2.1.1]
    show fE _ (fun _ m' => rPY b f n m' (if tK f n p = 3 then .inr (V', tE f n p) else .inl (1, p)) ∧ qR b m m')
    by_cases k3 : tK f n p = 3
    · rw [if_pos ((rkd_4 hk4).mpr k3), if_pos k3, r_req1, fb_n]
      exact fE_be (r_adv hM hp h) (fun _ m1 ⟨a1, a2⟩ => fE_ret ⟨⟨_, a1, hA⟩, qR_w a2⟩)
    · have pe := rPC_e (c := 1) (by omega) h
      rw [if_neg (fun z => k3 ((rkd_4 hk4).mp z)), if_neg k3, show f_X12_require H b 0 (1 : Int32) m = _ from r_req0 (k := 1) h, fb_n, r_advE pe, fb_n]
      exact fE_ret ⟨⟨_, pe⟩, qR_er⟩
/-- the reference's four words -/
def wdR (H : fm_H) (m : fm_M) (x : Nat) : Prop := isTx H m x (H.2.2 RX12 173) uN ∧ isTx H m x (H.2.2 RX12 178) uLk ∧ isTx H m x (H.2.2 RX12 183) uCi ∧ isTx H m x (H.2.2 RX12 167) uSe
theorem wdR_w {H : fm_H} {m m' : fm_M} {x : Nat} (h : wdR H m x) (hw : ∀ a k, a < x → m'.1 a k = m.1 a k) : wdR H m' x := ⟨isTx_w h.1 hw, isTx_w h.2.1 hw, isTx_w h.2.2.1 hw, isTx_w h.2.2.2 hw⟩
theorem qR_lo {x : Nat} {m' : fm_M} (hb : x ≤ b) (h : qR b m m') : ∀ a k, a < x → m'.1 a k = m.1 a k := fun a k ha => h.1 a k (by omega) (by omega) (by omega)
theorem r_parseStatement (hM : kM H b) {x p : Nat} (hp : p ≤ n) (h : rPC b f n m ρ p) (hw : wdR H m x) (hA : rAll ρ V []) (hV : gL V) : fE (f_X12_parseStatement H b m) (fun _ m' => rPY b f n m' (stmtP f n V p) ∧ qR b m m') := by
  have fin : ∀ {m1 : fm_M} {res : PRs}, stmtB f n V p = res → rPX b f n m1 res → qR b m m1 → fE (f_X12_parseStatement_52 H b m1) (fun _ m' => rPY b f n m' (stmtP f n V p) ∧ qR b m m') := fun {m1 res} eb h1 hq => by
    have es : stmtP f n V p = semiP f n res := by
      unfold stmtP
      rw [eb]
    rw [es]
    exact fE_w (r_52 hM h1 (fun V' p' e => (stmtB_ok hp hV V' p' (eb.trans e)).2.2)) (fun _ m' h' => ⟨h'.1, qR_tr hq h'.2⟩)
  unfold f_X12_parseStatement
  rw [r_isWord hw.1.1 h.2.1 hp h.2.2.1, fb_n]
  cases b1 : wdB f n p uN with
  | true =>
    rw [if_neg (by decide)]
    have eb : stmtB f n V p = nodeP f n V p := by unfold stmtB; rw [b1, it_tt]
    exact fE_be (r_parseNode hM hp h hA hV) (fun _ m1 ⟨g1, g2⟩ => fin eb g1 g2)
  | false =>
    rw [if_pos (by decide), r_isWord hw.2.1.1 h.2.1 hp h.2.2.1, fb_n]
    cases b2 : wdB f n p uLk with
    | true =>
      rw [if_neg (by decide)]
      have eb : stmtB f n V p = linkP f n V p := by unfold stmtB; rw [b1, it_ft, b2, it_tt]
      exact fE_be (r_parseLink hM hp h hA hV) (fun _ m1 ⟨g1, g2⟩ => fin eb g1 g2)
    | false =>
      rw [if_pos (by decide), r_isWord hw.2.2.1.1 h.2.1 hp h.2.2.1, fb_n]
      cases b3 : wdB f n p uCi with
      | true =>
        rw [if_neg (by decide)]
        have eb : stmtB f n V p = circP f n V p := by unfold stmtB; rw [b1, it_ft, b2, it_ft, b3, it_tt]
        exact fE_be (r_parseCircuit hM hp h hA hV) (fun _ m1 ⟨g1, g2⟩ => fin eb g1 g2)
      | false =>
        rw [if_pos (by decide)]
        have eb : stmtB f n V p = if wdB f n p uSe = true then setP f n V p else .inl (1, p) := by unfold stmtB; rw [b1, it_ft, b2, it_ft, b3, it_ft]
        exact fE_be (r_parseSet hM hp h hw.2.2.2.1 hA hV) (fun _ m1 ⟨g1, g2⟩ => fin eb g1 g2)
end
