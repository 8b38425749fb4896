/-! the class reads nodes, links, settings -/
section
variable {H : fm_H} {x t n : Nat} {m m0 m00 : fm_M} {f : Nat → Nat} {V : VV}
def pR (x t : Nat) (f : Nat → Nat) (n : Nat) (m : fm_M) (res : PRs) : Prop := match res with
  | .inl (c, p) => pE x t f n m c p
  | .inr (V, p) => pC x t f n m V p
theorem pC_mI {m' : fm_M} (hk : kR H x t) {p : Nat} {V' : VV} (h : pC x t f n m V p) (hm : mI t m m' V') : pC x t f n m' V' p := by
  obtain ⟨h1, h2, h3, h4, h5⟩ := h
  have ht := hk.2.2.2.2
  have o : ∀ a k, a < x + 4 → m'.1 a k = m.1 a k := fun a k ha => (hm.2.2.1.1 a k (by omega)).1
  exact ⟨hm.2.1, hm.1, ⟨⟨(o _ _ (by omega)).trans h3.1.1, h3.1.2.1, fun k hk' => ⟨(o _ _ (by omega)).trans (h3.1.2.2 k hk').1, (h3.1.2.2 k hk').2⟩⟩, (o _ _ (by omega)).trans h3.2⟩, ⟨(o _ _ (by omega)).trans h4.1, (o _ _ (by omega)).trans h4.2.1, (o _ _ (by omega)).trans h4.2.2.1, fun z => (o _ _ (by omega)).trans (h4.2.2.2 z)⟩, (o _ _ (by omega)).trans h5⟩
theorem pC_N {p : Nat} (h : pC x t f n m V p) (hG : vG V) : m.1 (t + 1) 0 = nn (eN V) ∧ m.1 (t + 1) 1 = nn (eL V) ∧ m.1 t 5 = nn (eK V) ∧ m.1 t 7 = V 0 0 7 := ⟨(rd1 h.2.1 0).trans hG.1, (rd1 h.2.1 1).trans hG.2.1, (rd0 h.2.1 5).trans hG.2.2.1, rd0 h.2.1 7⟩
theorem c_readNode (hk : kR H x t) {p : Nat} (hp : p ≤ n) (h : pC x t f n m V p) (hG : vG V) : fE (f_X6_readNode H (x + 1) t m) (fun _ m' => pR x t f n m' (nodeP f n V p) ∧ qF x t m m') := by
  have hS := hk.2.2.2.1
  have hN10 := hG.2.2.2.2.1.1
  obtain ⟨e0, -⟩ := pC_N h hG
  unfold f_X6_readNode nodeP
  rw [kS_0 hS, e0]
  refine fE_be (show fE (f_X6_passFirstWord H (x + 1) (nn (eN V)) 10 m) _ from c_first hk hp (N := eN V) (M := 10) (by omega) (by omega) h hG) (fun r m1 h1 => ?_)
  rcases h1 with ⟨a1, a2, a3, a4⟩ | ⟨a1, a2, a3, a4⟩
  · have q1 : tE f n p ≤ n := (tE_r hp).2.1
    rw [a2, if_neg (by decide), if_neg (by omega)]
    refine fE_be (show fE (f_X6_passNumber H (x + 1) 1 12 m1) _ from c_num hk (lo := 1) (hi := 12) q1 (by omega) (by omega) a3 hG) (fun z m2 h2 => ?_)
    change (ckN f n (tN f n p 1) 1 12 = 0 ∧ z = nn (tV f n (tN f n p 1)) ∧ pC x t f n m2 V (tN f n p 2) ∧ wT (x + 2) m1 m2) ∨ (ckN f n (tN f n p 1) 1 12 ≠ 0 ∧ z = -1 ∧ pE x t f n m2 (ckN f n (tN f n p 1) 1 12) (tN f n p 1) ∧ qF x t m1 m2) at h2
    rcases h2 with ⟨b1, b2, b3, b4⟩ | ⟨b1, b2, b3, b4⟩
    · rw [if_neg (show ¬ ckN f n (tN f n p 1) 1 12 ≠ 0 from fun z => z b1), if_pos b3.2.2.2.2, b2]
      refine fE_be (c_appendNode hS b3.1 b3.2.1 hG (by omega) (nn (tV f n (tN f n p 1)))) (fun r3 m3 ⟨_, c2⟩ => fE_ret ⟨pC_mI hk b3 c2, qF_tr (qF_tr (qF_w a4) (qF_w b4)) (qF_mI c2)⟩)
    · rw [if_pos b1, if_neg (pE_0 b3)]
      exact fE_ret ⟨b3, qF_tr (qF_w a4) b4⟩
  · rw [a2, if_pos rfl, if_pos a1]
    exact fE_ret ⟨a3, a4⟩
theorem c_link74E (hk : kR H x t) {c p : Nat} {u v : Int32} (h : pE x t f n m c p) : f_X6_readLink_74 H (x + 1) t u v m = some ((), m) := by
  unfold f_X6_readLink_74
  rw [c_passE h, fb_n, c_numE hk h, fb_n, c_numE hk h, fb_n, if_neg (pE_0 h)]
theorem c_readLink (hk : kR H x t) {p : Nat} (hp : p ≤ n) (h : pC x t f n m V p) (hG : vG V) (hB : iB V) : fE (f_X6_readLink H (x + 1) t m) (fun _ m' => pR x t f n m' (linkP f n V p) ∧ qF x t m m') := by
  have hS := hk.2.2.2.1
  have hN10 := hG.2.2.2.2.1.1
  have hL16 := hG.2.2.2.2.1.2.1
  obtain ⟨-, e1, -⟩ := pC_N h hG
  have hd : (nn (eN V) : Int32) - 1 = ii ((eN V : Int) - 1) := ii_dec _
  unfold f_X6_readLink linkP
  rw [kS_0 hS, e1]
  refine fE_be (show fE (f_X6_passFirstWord H (x + 1) (nn (eL V)) 16 m) _ from c_first hk hp (N := eL V) (M := 16) (by omega) (by omega) h hG) (fun r m1 h1 => ?_)
  rcases h1 with ⟨a1, a2, a3, a4⟩ | ⟨a1, a2, a3, a4⟩
  · obtain ⟨e0, -⟩ := pC_N a3 hG
    have q1 : tN f n p 1 ≤ n := (tN_r hp).2
    have q2 : tN f n p 2 ≤ n := (tN_r hp).2
    have q3 : tN f n p 3 ≤ n := (tN_r hp).2
    have q4 : tN f n p 4 ≤ n := (tN_r hp).2
    rw [a2, if_neg (by decide), if_neg (by omega), e0, hd]
    refine fE_be (show fE (f_X6_passNumber H (x + 1) 0 (ii ((eN V : Int) - 1)) m1) _ from c_num hk (lo := 0) (hi := (eN V : Int) - 1) q1 (by omega) (by omega) a3 hG) (fun z m2 h2 => ?_)
    change (ckN f n (tN f n p 1) 0 ((eN V : Int) - 1) = 0 ∧ z = nn (tV f n (tN f n p 1)) ∧ pC x t f n m2 V (tN f n p 2) ∧ wT (x + 2) m1 m2) ∨ (ckN f n (tN f n p 1) 0 ((eN V : Int) - 1) ≠ 0 ∧ z = -1 ∧ pE x t f n m2 (ckN f n (tN f n p 1) 0 ((eN V : Int) - 1)) (tN f n p 1) ∧ qF x t m1 m2) at h2
    rcases h2 with ⟨b1, b2, b3, b4⟩ | ⟨b1, b2, b3, b4⟩
    · rw [if_neg (show ¬ ckN f n (tN f n p 1) 0 ((eN V : Int) - 1) ≠ 0 from fun z => z b1)]
      rcases c_check hk (lo := 0) (hi := (eN V : Int) - 1) (by omega) (by omega) b3 hG with ⟨c0, c1⟩ | ⟨c0, c1⟩
      · rw [show f_X6_checkedNumber H (x + 1) 0 (ii ((eN V : Int) - 1)) m2 = _ from c1, fb_n, if_pos b3.2.2.2.2, b2, if_neg (show ¬ ckN f n (tN f n p 2) 0 ((eN V : Int) - 1) ≠ 0 from fun z => z c0)]
        obtain ⟨u1, u2, u3⟩ := ckN_0 b1
        obtain ⟨v1, v2, v3⟩ := ckN_0 c0
        have la : tV f n (tN f n p 1) < eN V := by omega
        have lc : tV f n (tN f n p 2) < eN V := by omega
        have err : ∀ mm : fm_M, mm = m2 → fE (fm_bn (f_X6_fail H (x + 1) 4 mm) fun _ m4 => f_X6_readLink_74 H (x + 1) t (nn (tV f n (tN f n p 1))) (nn (tV f n (tN f n p 2))) m4) (fun _ m' => pR x t f n m' (.inl (4, tN f n p 2)) ∧ qF x t m m') := fun mm em => by
          rw [em, show (4 : Int32) = nn 4 from nl_4, c_failN hk b3, fb_n, c_link74E hk (pC_e hk (k := 4) (by omega) b3 hG)]
          exact fE_ret ⟨pC_e hk (k := 4) (by omega) b3 hG, qF_tr (qF_tr (qF_w a4) (qF_w b4)) (qF_tr qF_1 qF_1)⟩
        by_cases d1 : tV f n (tN f n p 1) = tV f n (tN f n p 2)
        · rw [if_pos (by rw [d1]), if_pos (Or.inl d1)]
          exact err m2 rfl
        · rw [if_neg (by rw [nn_eq (by omega) (by omega)]; exact d1)]
          obtain ⟨l1, l2⟩ := lbV_lk hB hL16 la lc hN10
          rw [show f_X4_linkBetween H (t + 1) (nn (tV f n (tN f n p 1))) (nn (tV f n (tN f n p 2))) m2 = _ from c_linkBetween hS b3.2.1 hG (a := (tV f n (tN f n p 1) : Int)) (b := (tV f n (tN f n p 2) : Int)) (by omega) (by omega) (by omega) (by omega), fb_n]
          by_cases d2 : lkE V (nn (tV f n (tN f n p 1))) (nn (tV f n (tN f n p 2))) = -1
          · rw [if_pos (l1.mpr d2), if_neg (by rintro (z | z); exact d1 z; exact z d2)]
            unfold f_X6_readLink_74
            refine fE_be (c_pass hk q2 b3) (fun _ m5 ⟨g1, g2⟩ => ?_)
            change pC x t f n m5 V (tN f n p 3) at g1
            refine fE_be (show fE (f_X6_passNumber H (x + 1) 1 99 m5) _ from c_num hk (lo := 1) (hi := 99) q3 (by omega) (by omega) g1 hG) (fun z6 m6 h6 => ?_)
            change (ckN f n (tN f n p 3) 1 99 = 0 ∧ z6 = nn (tV f n (tN f n p 3)) ∧ pC x t f n m6 V (tN f n p 4) ∧ wT (x + 2) m5 m6) ∨ (ckN f n (tN f n p 3) 1 99 ≠ 0 ∧ z6 = -1 ∧ pE x t f n m6 (ckN f n (tN f n p 3) 1 99) (tN f n p 3) ∧ qF x t m5 m6) at h6
            have f5 : qF x t m m5 := qF_tr (qF_tr (qF_w a4) (qF_w b4)) (qF_w g2)
            rcases h6 with ⟨i1, i2, i3, i4⟩ | ⟨i1, i2, i3, i4⟩
            · rw [if_neg (show ¬ ckN f n (tN f n p 3) 1 99 ≠ 0 from fun z => z i1)]
              refine fE_be (show fE (f_X6_passNumber H (x + 1) 1 9 m6) _ from c_num hk (lo := 1) (hi := 9) q4 (by omega) (by omega) i3 hG) (fun z7 m7 h7 => ?_)
              change (ckN f n (tN f n p 4) 1 9 = 0 ∧ z7 = nn (tV f n (tN f n p 4)) ∧ pC x t f n m7 V (tN f n p 5) ∧ wT (x + 2) m6 m7) ∨ (ckN f n (tN f n p 4) 1 9 ≠ 0 ∧ z7 = -1 ∧ pE x t f n m7 (ckN f n (tN f n p 4) 1 9) (tN f n p 4) ∧ qF x t m6 m7) at h7
              rcases h7 with ⟨j1, j2, j3, j4⟩ | ⟨j1, j2, j3, j4⟩
              · rw [if_neg (show ¬ ckN f n (tN f n p 4) 1 9 ≠ 0 from fun z => z j1), if_pos j3.2.2.2.2, i2, j2, kS_0 hS]
                refine fE_be (c_appendLink hS j3.1 j3.2.1 hG (by omega) la lc (nn (tV f n (tN f n p 3))) (nn (tV f n (tN f n p 4)))) (fun _ m8 ⟨_, k2⟩ => fE_ret ⟨pC_mI hk j3 k2, qF_tr (qF_tr (qF_tr f5 (qF_w i4)) (qF_w j4)) (qF_mI k2)⟩)
              · rw [if_pos j1, if_neg (pE_0 j3)]
                exact fE_ret ⟨j3, qF_tr (qF_tr f5 (qF_w i4)) j4⟩
            · rw [if_pos i1, c_numE hk i3, fb_n, if_neg (pE_0 i3)]
              exact fE_ret ⟨i3, qF_tr f5 i4⟩
          · rw [if_neg (fun z => d2 (l1.mp z)), if_pos (Or.inr d2)]
            exact err m2 rfl
      · rw [if_pos c0]
        refine fE_be (show fE (f_X6_checkedNumber H (x + 1) 0 (ii ((eN V : Int) - 1)) m2) _ from c1) (fun z3 m3 ⟨k1, k2, k3⟩ => ?_)
        rw [if_neg (pE_0 k2), c_link74E hk k2]
        exact fE_ret ⟨k2, qF_tr (qF_tr (qF_w a4) (qF_w b4)) k3⟩
    · rw [if_pos b1, c_checkE hk b3, fb_n, if_neg (pE_0 b3), c_link74E hk b3]
      exact fE_ret ⟨b3, qF_tr (qF_w a4) b4⟩
  · rw [a2, if_pos rfl, if_pos a1]
    exact fE_ret ⟨a3, a4⟩
theorem c_readSetting (hk : kR H x t) {p : Nat} (hp : p ≤ n) (h : pC x t f n m V p) (hG : vG V) : fE (f_X6_readSetting H (x + 1) t m) (fun _ m' => pR x t f n m' (setP f n V p) ∧ qF x t m m') := by
  have q1 : tN f n p 1 ≤ n := (tN_r hp).2
  have q2 : tN f n p 2 ≤ n := (tN_r hp).2
  unfold f_X6_readSetting setP
  refine fE_be (c_pass hk hp h) (fun _ m1 ⟨a1, a2⟩ => ?_)
  change pC x t f n m1 V (tN f n p 1) at a1
  refine fE_be (show fE (f_X6_passNumber H (x + 1) 0 1 m1) _ from c_num hk (lo := 0) (hi := 1) q1 (by omega) (by omega) a1 hG) (fun z m2 h2 => ?_)
  change (ckN f n (tN f n p 1) 0 1 = 0 ∧ z = nn (tV f n (tN f n p 1)) ∧ pC x t f n m2 V (tN f n p 2) ∧ wT (x + 2) m1 m2) ∨ (ckN f n (tN f n p 1) 0 1 ≠ 0 ∧ z = -1 ∧ pE x t f n m2 (ckN f n (tN f n p 1) 0 1) (tN f n p 1) ∧ qF x t m1 m2) at h2
  rcases h2 with ⟨b1, b2, b3, b4⟩ | ⟨b1, b2, b3, b4⟩
  · obtain ⟨u1, u2, u3⟩ := ckN_0 b1
    rw [if_neg (show ¬ ckN f n (tN f n p 1) 0 1 ≠ 0 from fun z => z b1), b2]
    have hv : tV f n (tN f n p 1) = 0 ∨ tV f n (tN f n p 1) = 1 := by omega
    have f2 : qF x t m m2 := qF_tr (qF_w a2) (qF_w b4)
    rcases hv with hv | hv
    · rw [hv, if_pos (show nn 0 = 0 from rfl), if_pos rfl]
      refine fE_be (show fE (f_X6_passNumber H (x + 1) 0 4 m2) _ from c_num hk (lo := 0) (hi := 4) q2 (by omega) (by omega) b3 hG) (fun z3 m3 h3 => ?_)
      change (ckN f n (tN f n p 2) 0 4 = 0 ∧ z3 = nn (tV f n (tN f n p 2)) ∧ pC x t f n m3 V (tN f n p 3) ∧ wT (x + 2) m2 m3) ∨ (ckN f n (tN f n p 2) 0 4 ≠ 0 ∧ z3 = -1 ∧ pE x t f n m3 (ckN f n (tN f n p 2) 0 4) (tN f n p 2) ∧ qF x t m2 m3) at h3
      rcases h3 with ⟨c1, c2, c3, c4⟩ | ⟨c1, c2, c3, c4⟩
      · rw [if_neg (show ¬ ckN f n (tN f n p 2) 0 4 ≠ 0 from fun z => z c1), if_pos c3.2.2.2.2, c2]
        refine fE_be (c_putSetting c3.1 c3.2.1 (w := 0) (by omega) (nn (tV f n (tN f n p 2)))) (fun _ m4 k2 => fE_ret ⟨pC_mI hk c3 k2, qF_tr (qF_tr f2 (qF_w c4)) (qF_mI k2)⟩)
      · rw [if_pos c1, if_neg (pE_0 c3)]
        exact fE_ret ⟨c3, qF_tr f2 c4⟩
    · rw [hv, if_neg (show ¬ nn 1 = 0 by decide), if_neg (show ¬ 1 = 0 by omega)]
      refine fE_be (show fE (f_X6_passNumber H (x + 1) 0 1 m2) _ from c_num hk (lo := 0) (hi := 1) q2 (by omega) (by omega) b3 hG) (fun z3 m3 h3 => ?_)
      change (ckN f n (tN f n p 2) 0 1 = 0 ∧ z3 = nn (tV f n (tN f n p 2)) ∧ pC x t f n m3 V (tN f n p 3) ∧ wT (x + 2) m2 m3) ∨ (ckN f n (tN f n p 2) 0 1 ≠ 0 ∧ z3 = -1 ∧ pE x t f n m3 (ckN f n (tN f n p 2) 0 1) (tN f n p 2) ∧ qF x t m2 m3) at h3
      rcases h3 with ⟨c1, c2, c3, c4⟩ | ⟨c1, c2, c3, c4⟩
      · rw [if_neg (show ¬ ckN f n (tN f n p 2) 0 1 ≠ 0 from fun z => z c1), if_pos c3.2.2.2.2, c2]
        refine fE_be (c_putSetting c3.1 c3.2.1 (w := 1) (by omega) (nn (tV f n (tN f n p 2)))) (fun _ m4 k2 => fE_ret ⟨pC_mI hk c3 k2, qF_tr (qF_tr f2 (qF_w c4)) (qF_mI k2)⟩)
      · rw [if_pos c1, if_neg (pE_0 c3)]
        exact fE_ret ⟨c3, qF_tr f2 c4⟩
  · rw [if_pos b1, b2, if_neg (show ¬ (-1 : Int32) = 0 by decide), c_numE hk b3, fb_n, if_neg (pE_0 b3)]
    exact fE_ret ⟨b3, qF_tr (qF_w a2) b4⟩
end
