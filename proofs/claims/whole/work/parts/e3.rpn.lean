/-! the reference reads nodes, links, settings -/
section
variable {H : fm_H} {b n : Nat} {m m0 m00 : fm_M} {f : Nat → Nat} {V : VV} {ρ ρ' : Nat → Int32}
/-- what a statement's body comes to -/
def rPX (b : Nat) (f : Nat → Nat) (n : Nat) (m : fm_M) (res : PRs) : Prop := match res with
  | .inl (c, p) => (∃ ρ, rPE b f n m ρ c p) ∨ (c = 1 ∧ p ≤ n ∧ tK f n p ≠ 3 ∧ ∃ ρ, rPC b f n m ρ p)
  | .inr (V, p) => ∃ ρ, rPC b f n m ρ p ∧ rAll ρ V []
theorem rB_N (hA : rAll ρ V []) (hV : gL V) : ρ 2 = nn (eN V) ∧ eN V ≤ 10 ∧ ρ 3 = nn (eL V) ∧ eL V ≤ 16 ∧ ρ 4 = nn (eK V) ∧ eK V ≤ 8 := by
  obtain ⟨a1, a2⟩ := rN_2 hA.1.1 hV.1.1.1
  obtain ⟨a3, a4⟩ := rN_3 hA.1.1 hV.1.1.1
  exact ⟨a1, a2, a3, a4, hA.1.2.1.1, hA.1.2.1.2.1⟩
theorem r_parseNode (hM : kM H b) {p : Nat} (hp : p ≤ n) (h : rPC b f n m ρ p) (hA : rAll ρ V []) (hV : gL V) : fE (f_X12_parseNode H b m) (fun _ m' => rPX b f n m' (nodeP f n V p) ∧ qR b m m') := by
  obtain ⟨n2, n10, -⟩ := rB_N hA hV
  have q1 : tN f n p 1 ≤ n := (tN_r hp).2
  unfold f_X12_parseNode nodeP
  rw [kM_0 hM, kM_z1 hM, if_pos (by decide), show (2 : Int32).toNatClampNeg = 2 by decide, h.1, n2, nl_10]
  by_cases c1 : 10 ≤ eN V
  · rw [if_pos ((nn_le (by omega) (by omega)).mpr c1), if_pos c1]
    have pe := rPC_e (c := 3) (by omega) h
    unfold f_X12_parseNode_17
    rw [show (3 : Int32) = nn 3 from nl_3, r_req0 h, fb_n, r_advE pe, fb_n, r_numE pe, fb_n, r_fineE pe, fb_n, if_pos rfl]
    exact fE_ret ⟨Or.inl ⟨_, pe⟩, qR_er⟩
  · rw [if_neg (by rw [nn_le (by omega) (by omega)]; exact c1), if_neg c1]
    unfold f_X12_parseNode_17
    rw [r_req1, fb_n]
    refine fE_be (r_adv hM hp h) (fun _ m1 ⟨a1, a2⟩ => ?_)
    change rPC b f n m1 ρ (tN f n p 1) at a1
    refine fE_be (show fE (f_X12_parseNumber H b 1 12 m1) _ from r_num hM (lo := 1) (hi := 12) q1 (by omega) (by omega) a1) (fun z m2 h2 => ?_)
    rcases h2 with ⟨b1, b2, b3, b4⟩ | ⟨b1, b3, b4⟩
    · change rPC b f n m2 ρ (tN f n p 2) at b3
      rw [r_fine b3, fb_n, if_neg (by decide), if_neg (show ¬ ckN f n (tN f n p 1) 1 12 ≠ 0 from fun z => z b1), b2]
      refine fE_be (r_appendNode hM (m00 := m2) (rI_rf b3.1) n2 (by omega) (nn (tV f n (tN f n p 1)))) (fun r3 m3 ⟨_, d1⟩ => fE_ret ⟨⟨_, rPC_I b3 d1, an_rB hA.1 (by omega) hV.1.1.1, rP_s hA.2 (fun k hk => by rw [up_at, if_neg (by omega), up_at, if_neg (by omega)])⟩, qR_tr (qR_tr (qR_w a2) b4) (qR_I d1)⟩)
    · rw [r_fineE b3, fb_n, if_pos rfl, if_pos b1]
      exact fE_ret ⟨Or.inl ⟨_, b3⟩, qR_tr (qR_w a2) b4⟩
theorem r_78E {c p : Nat} {u v s0 : Int32} (h : rPE b f n m ρ c p) : f_X12_parseLink_78 H b u v s0 b m = some ((), m) := by
  unfold f_X12_parseLink_78
  rw [r_reqE h, fb_n, r_advE h, fb_n, r_numE h, fb_n, r_numE h, fb_n, r_fineE h, fb_n, if_pos rfl]
/-- behind the first number -/
theorem r_lkE2 (hM : kM H b) (hN : ρ 3 = nn (eL V)) (h16 : eL V ≤ 16) {c p : Nat} {u v : Int32} (h : rPE b f n m ρ c p) (h14 : m.1 b 14 = v) : (if u = v then f_X12_parseLink_78 H b u v 0 b m else fm_bn (f_X12_linkOf H b u v m) fun x5 m5 => if x5 = (-1 : Int32) then f_X12_parseLink_78 H b u v 1 b m5 else f_X12_parseLink_78 H b u v 0 b m5) = some ((), m) := by
  split
  · exact r_78E h
  · rw [r_linkOf hM h.1 hN h16, fb_n]
    split
    · exact r_78E h
    · exact r_78E h
theorem r_parseLink (hM : kM H b) {p : Nat} (hp : p ≤ n) (h : rPC b f n m ρ p) (hA : rAll ρ V []) (hV : gL V) : fE (f_X12_parseLink H b m) (fun _ m' => rPX b f n m' (linkP f n V p) ∧ qR b m m') := by
  obtain ⟨n2, n10, n3, n16, -⟩ := rB_N hA hV
  have q1 : tN f n p 1 ≤ n := (tN_r hp).2
  have q2 : tN f n p 2 ≤ n := (tN_r hp).2
  have q3 : tN f n p 3 ≤ n := (tN_r hp).2
  have q4 : tN f n p 4 ≤ n := (tN_r hp).2
  have hd : (nn (eN V) : Int32) - 1 = ii ((eN V : Int) - 1) := ii_dec _
  unfold f_X12_parseLink linkP
  rw [kM_0 hM, kM_z1 hM, if_pos (by decide), show (3 : Int32).toNatClampNeg = 3 by decide, h.1, n3, nl_16]
  by_cases c1 : 16 ≤ eL V
  · rw [if_pos ((nn_le (by omega) (by omega)).mpr c1), if_pos c1]
    have pe := rPC_e (c := 3) (by omega) h
    unfold f_X12_parseLink_17
    rw [show (3 : Int32) = nn 3 from nl_3, r_req0 h, fb_n, r_advE pe, fb_n, kM_0 hM, kM_z1 hM, if_pos (by decide), r_numE pe, fb_n, if_pos (by decide), r_lookE pe, fb_n, r_lkE2 hM n3 n16 pe rfl]
    exact fE_ret ⟨Or.inl ⟨_, pe⟩, qR_er⟩
  · rw [if_neg (by rw [nn_le (by omega) (by omega)]; exact c1), if_neg c1]
    unfold f_X12_parseLink_17
    rw [r_req1, fb_n]
    refine fE_be (r_adv hM hp h) (fun _ m1 ⟨a1, a2⟩ => ?_)
    change rPC b f n m1 ρ (tN f n p 1) at a1
    rw [kM_0 hM, kM_z1 hM, if_pos (by decide), show (2 : Int32).toNatClampNeg = 2 by decide, a1.1, n2, hd]
    refine fE_be (show fE (f_X12_parseNumber H b 0 (ii ((eN V : Int) - 1)) m1) _ from r_num hM (lo := 0) (hi := (eN V : Int) - 1) q1 (by omega) (by omega) a1) (fun z m2 h2 => ?_)
    rw [if_pos (by decide)]
    rcases h2 with ⟨b1, b2, b3, b4⟩ | ⟨b1, b3, b4⟩
    · change rPC b f n m2 ρ (tN f n p 2) at b3
      rw [if_neg (show ¬ ckN f n (tN f n p 1) 0 ((eN V : Int) - 1) ≠ 0 from fun z => z b1), b2, b3.1, n2, hd]
      have f2 : qR b m m2 := qR_tr (qR_w a2) b4
      obtain ⟨u1, u2, u3⟩ := ckN_0 b1
      rcases r_look (H := H) (lo := 0) (hi := (eN V : Int) - 1) (by omega) (by omega) b3 with ⟨c0, c1, c2⟩ | ⟨c0, c1⟩
      · rw [show f_X12_look H b 0 (ii ((eN V : Int) - 1)) m2 = _ from c1, fb_n, c2, if_neg (show ¬ ckN f n (tN f n p 2) 0 ((eN V : Int) - 1) ≠ 0 from fun z => z c0)]
        obtain ⟨v1, v2, v3⟩ := ckN_0 c0
        have err : fE (f_X12_parseLink_78 H b (nn (tV f n (tN f n p 1))) (nn (tV f n (tN f n p 2))) 0 b m2) (fun _ m' => rPX b f n m' (.inl (4, tN f n p 2)) ∧ qR b m m') := by
          have pe := rPC_e (c := 4) (by omega) b3
          unfold f_X12_parseLink_78
          rw [show (4 : Int32) = nn 4 from nl_4, r_req0 b3, fb_n, r_advE pe, fb_n, r_numE pe, fb_n, r_numE pe, fb_n, r_fineE pe, fb_n, if_pos rfl]
          exact fE_ret ⟨Or.inl ⟨_, pe⟩, qR_tr f2 qR_er⟩
        by_cases d1 : tV f n (tN f n p 1) = tV f n (tN f n p 2)
        · rw [if_pos (by rw [d1]), if_pos (Or.inl d1)]
          exact err
        · rw [if_neg (by rw [nn_eq (by omega) (by omega)]; exact d1), r_linkOf hM b3.1 n3 n16, fb_n, lkR_E hA.1.1]
          by_cases d2 : lkE V (nn (tV f n (tN f n p 1))) (nn (tV f n (tN f n p 2))) = -1
          · rw [if_pos (by rw [d2]; rfl), if_neg (by rintro (z | z); exact d1 z; exact z d2)]
            unfold f_X12_parseLink_78
            rw [r_req1, fb_n]
            refine fE_be (r_adv hM q2 b3) (fun _ m3 ⟨g1, g2⟩ => ?_)
            change rPC b f n m3 ρ (tN f n p 3) at g1
            refine fE_be (show fE (f_X12_parseNumber H b 1 99 m3) _ from r_num hM (lo := 1) (hi := 99) q3 (by omega) (by omega) g1) (fun z4 m4 h4 => ?_)
            have f3 : qR b m m3 := qR_tr f2 (qR_w g2)
            rcases h4 with ⟨i1, i2, i3, i4⟩ | ⟨i1, i3, i4⟩
            · change rPC b f n m4 ρ (tN f n p 4) at i3
              rw [if_neg (show ¬ ckN f n (tN f n p 3) 1 99 ≠ 0 from fun z => z i1)]
              refine fE_be (show fE (f_X12_parseNumber H b 1 9 m4) _ from r_num hM (lo := 1) (hi := 9) q4 (by omega) (by omega) i3) (fun z5 m5 h5 => ?_)
              rcases h5 with ⟨j1, j2, j3, j4⟩ | ⟨j1, j3, j4⟩
              · change rPC b f n m5 ρ (tN f n p 5) at j3
                rw [if_neg (show ¬ ckN f n (tN f n p 4) 1 9 ≠ 0 from fun z => z j1), r_fine j3, fb_n, if_neg (by decide), i2, j2]
                refine fE_be (r_appendLink hM (m00 := m5) (rI_rf j3.1) n3 (by omega) (nn (tV f n (tN f n p 1))) (nn (tV f n (tN f n p 2))) (nn (tV f n (tN f n p 3))) (nn (tV f n (tN f n p 4)))) (fun r6 m6 ⟨_, k1⟩ => fE_ret ⟨⟨_, rPC_I j3 k1, al_rB hA.1 (by omega), rP_s hA.2 (fun k hk => alR_o (by omega) (by omega))⟩, qR_tr (qR_tr (qR_tr f3 i4) j4) (qR_I k1)⟩)
              · rw [if_pos j1, r_fineE j3, fb_n, if_pos rfl]
                exact fE_ret ⟨Or.inl ⟨_, j3⟩, qR_tr (qR_tr f3 i4) j4⟩
            · rw [if_pos i1, r_numE i3, fb_n, r_fineE i3, fb_n, if_pos rfl]
              exact fE_ret ⟨Or.inl ⟨_, i3⟩, qR_tr f3 i4⟩
          · obtain ⟨j, j1, j2⟩ := lkE_r d2
            rw [if_neg (by rw [j2]; exact nn_m1 (by omega)), if_pos (Or.inr d2)]
            exact err
      · have hc2 := ckN_2 (f := f) (n := n) (p := tN f n p 2) (lo := 0) (hi := (eN V : Int) - 1)
        have pe := rPC_e (c := ckN f n (tN f n p 2) 0 ((eN V : Int) - 1)) (by omega) b3
        rw [if_pos c0, show f_X12_look H b 0 (ii ((eN V : Int) - 1)) m2 = _ from c1, fb_n, r_lkE2 hM n3 n16 pe rfl]
        exact fE_ret ⟨Or.inl ⟨_, pe⟩, qR_tr f2 qR_er⟩
    · rw [if_pos b1, r_lookE b3, fb_n, r_lkE2 hM n3 n16 b3 rfl]
      exact fE_ret ⟨Or.inl ⟨_, b3⟩, qR_tr (qR_w a2) b4⟩
theorem r_setE (hM : kM H b) {c p : Nat} {u : Int32} (h : rPE b f n m ρ c p) : (if u = 0 then (fm_bn (f_X12_parseNumber H b (0 : Int32) (4 : Int32) m) fun x7 m8 => fm_bn (f_X12_isFine H b m8) fun x8 m9 => if x8 = 0 then some ((), m9) else if px_inb u (fm_sz H (H.2.1 b 0)) = true then (fm_bd (fm_si m9 (H.2.1 b 0) u.toNatClampNeg x7) fun m10 => some ((), m10)) else none) else fm_bn (f_X12_parseNumber H b (0 : Int32) (1 : Int32) m) fun x5 m5 => fm_bn (f_X12_isFine H b m5) fun x6 m6 => if x6 = 0 then some ((), m6) else if px_inb u (fm_sz H (H.2.1 b 0)) = true then (fm_bd (fm_si m6 (H.2.1 b 0) u.toNatClampNeg x5) fun m7 => some ((), m7)) else none) = some ((), m) := by
  split
  · rw [r_numE h, fb_n, r_fineE h, fb_n, if_pos rfl]
  · rw [r_numE h, fb_n, r_fineE h, fb_n, if_pos rfl]
theorem r_parseSet (hM : kM H b) {p : Nat} (hp : p ≤ n) (h : rPC b f n m ρ p) (hw : isT H m (H.2.2 RX12 167) uSe) (hA : rAll ρ V []) (hV : gL V) : fE (f_X12_parseSet H b m) (fun _ m' => rPX b f n m' (if wdB f n p uSe = true then setP f n V p else .inl (1, p)) ∧ qR b m m') := by
  have q1 : tN f n p 1 ≤ n := (tN_r hp).2
  have q2 : tN f n p 2 ≤ n := (tN_r hp).2
  unfold f_X12_parseSet
  rw [r_isWord hw h.2.1 hp h.2.2.1, fb_n]
  cases hb : wdB f n p uSe with
  | false =>
    have pe := rPC_e (c := 1) (by omega) h
    rw [show bi false = 0 from rfl, show f_X12_require H b 0 (1 : Int32) m = _ from r_req0 (k := 1) h, fb_n, r_advE pe, fb_n, r_numE pe, fb_n, r_setE hM pe, it_ft]
    exact fE_ret ⟨Or.inl ⟨_, pe⟩, qR_er⟩
  | true =>
    rw [show bi true = 1 from rfl, r_req1, fb_n, it_tt]
    unfold setP
    refine fE_be (r_adv hM hp h) (fun _ m1 ⟨a1, a2⟩ => ?_)
    change rPC b f n m1 ρ (tN f n p 1) at a1
    refine fE_be (show fE (f_X12_parseNumber H b 0 1 m1) _ from r_num hM (lo := 0) (hi := 1) q1 (by omega) (by omega) a1) (fun z m2 h2 => ?_)
    rcases h2 with ⟨b1, b2, b3, b4⟩ | ⟨b1, b3, b4⟩
    · change rPC b f n m2 ρ (tN f n p 2) at b3
      obtain ⟨u1, u2, u3⟩ := ckN_0 b1
      have hv : tV f n (tN f n p 1) = 0 ∨ tV f n (tN f n p 1) = 1 := by omega
      have f2 : qR b m m2 := qR_tr (qR_w a2) b4
      rw [if_neg (show ¬ ckN f n (tN f n p 1) 0 1 ≠ 0 from fun z => z b1), b2]
      rcases hv with hv | hv
      · rw [hv, if_pos (show nn 0 = 0 from rfl), if_pos rfl]
        refine fE_be (show fE (f_X12_parseNumber H b 0 4 m2) _ from r_num hM (lo := 0) (hi := 4) q2 (by omega) (by omega) b3) (fun z3 m3 h3 => ?_)
        rcases h3 with ⟨c1, c2, c3, c4⟩ | ⟨c1, c3, c4⟩
        · change rPC b f n m3 ρ (tN f n p 3) at c3
          rw [if_neg (show ¬ ckN f n (tN f n p 2) 0 4 ≠ 0 from fun z => z c1), r_fine c3, fb_n, if_neg (by decide), kM_0 hM, kM_z1 hM, if_pos (by decide), show (nn 0).toNatClampNeg = 0 from nn_tn (by omega), fb_d, c2]
          have hi := rI_u (m0 := m3) (k := 0) (x := nn (tV f n (tN f n p 2))) (rI_rf c3.1)
          exact fE_ret ⟨⟨_, rPC_I c3 hi, st_rB hA.1 (by omega) hV.1.1.1, rP_s hA.2 (fun k hk => by rw [up_at, if_neg (by omega)])⟩, qR_tr (qR_tr f2 c4) (qR_I hi)⟩
        · rw [if_pos c1, r_fineE c3, fb_n, if_pos rfl]
          exact fE_ret ⟨Or.inl ⟨_, c3⟩, qR_tr f2 c4⟩
      · rw [hv, if_neg (show ¬ nn 1 = 0 by decide), if_neg (show ¬ 1 = 0 by omega)]
        refine fE_be (show fE (f_X12_parseNumber H b 0 1 m2) _ from r_num hM (lo := 0) (hi := 1) q2 (by omega) (by omega) b3) (fun z3 m3 h3 => ?_)
        rcases h3 with ⟨c1, c2, c3, c4⟩ | ⟨c1, c3, c4⟩
        · change rPC b f n m3 ρ (tN f n p 3) at c3
          rw [if_neg (show ¬ ckN f n (tN f n p 2) 0 1 ≠ 0 from fun z => z c1), r_fine c3, fb_n, if_neg (by decide), kM_0 hM, kM_z1 hM, if_pos (by decide), show (nn 1).toNatClampNeg = 1 from nn_tn (by omega), fb_d, c2]
          have hi := rI_u (m0 := m3) (k := 1) (x := nn (tV f n (tN f n p 2))) (rI_rf c3.1)
          exact fE_ret ⟨⟨_, rPC_I c3 hi, st_rB hA.1 (by omega) hV.1.1.1, rP_s hA.2 (fun k hk => by rw [up_at, if_neg (by omega)])⟩, qR_tr (qR_tr f2 c4) (qR_I hi)⟩
        · rw [if_pos c1, r_fineE c3, fb_n, if_pos rfl]
          exact fE_ret ⟨Or.inl ⟨_, c3⟩, qR_tr f2 c4⟩
    · rw [if_pos b1, r_setE hM b3]
      exact fE_ret ⟨Or.inl ⟨_, b3⟩, qR_tr (qR_w a2) b4⟩
end
