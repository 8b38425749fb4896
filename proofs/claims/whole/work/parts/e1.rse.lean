/-! the class reads a setup -/
/-- a text constant that lies below the desk -/
def isTx (H : fm_H) (m : fm_M) (x a : Nat) (u : List Nat) : Prop := isT H m a u ∧ a < x ∧ H.2.1 a 0 < x
theorem isTx_w {H : fm_H} {m m' : fm_M} {x a : Nat} {u : List Nat} (h : isTx H m x a u) (hw : ∀ a k, a < x → m'.1 a k = m.1 a k) : isTx H m' x a u := by
  obtain ⟨⟨h1, h2, h3, h4⟩, h5, h6⟩ := h
  exact ⟨⟨h1, (hw _ _ h5).trans h2, h3, fun k hk => ⟨(hw _ _ h6).trans (h4 k hk).1, (h4 k hk).2⟩⟩, h5, h6⟩
/-- the class's four words -/
def wdC (H : fm_H) (m : fm_M) (x : Nat) : Prop := isTx H m x (H.2.2 RX6 36) uN ∧ isTx H m x (H.2.2 RX6 46) uLk ∧ isTx H m x (H.2.2 RX6 51) uCi ∧ isTx H m x (H.2.2 RX6 56) uSe
theorem wdC_w {H : fm_H} {m m' : fm_M} {x : Nat} (h : wdC H m x) (hw : ∀ a k, a < x → m'.1 a k = m.1 a k) : wdC H m' x := ⟨isTx_w h.1 hw, isTx_w h.2.1 hw, isTx_w h.2.2.1 hw, isTx_w h.2.2.2 hw⟩
section
variable {H : fm_H} {x t n : Nat} {m m0 m00 : fm_M} {f : Nat → Nat} {V : VV}
theorem qF_lo {m' : fm_M} (hk : kR H x t) (h : qF x t m m') : ∀ a k, a < x → m'.1 a k = m.1 a k := fun a k ha => h.1 a k (by omega) (by omega) (by have := hk.2.2.2.2; omega)
theorem c_semiE (hk : kR H x t) {c p : Nat} (h : pE x t f n m c p) : f_X6_passSemicolon H (x + 1) m = some ((), m) := by
  unfold f_X6_passSemicolon
  split
  · rw [c_passE h, fb_n]
  · rw [c_failE h, fb_n, c_passE h, fb_n]
theorem c_semi (hk : kR H x t) {p : Nat} (hp : p ≤ n) (h : pC x t f n m V p) (hG : vG V) : fE (f_X6_passSemicolon H (x + 1) m) (fun _ m' => pR x t f n m' (semiP f n (.inr (V, p))) ∧ qF x t m m') := by
  have hk4 := tK_4 (f := f) (n := n) (p := p)
  have e2 := h.2.2.2.1.1
  unfold f_X6_passSemicolon
  rw [hk.1, e2]
  show fE _ (fun _ m' => pR x t f n m' (if tK f n p = 3 then .inr (V, tE f n p) else .inl (1, p)) ∧ qF x t m m')
  by_cases z : tK f n p = 3
  · rw [if_pos (by rw [z]; rfl), if_pos z]
    exact fE_be (c_pass hk hp h) (fun _ m1 ⟨a1, a2⟩ => fE_ret ⟨a1, qF_w a2⟩)
  · rw [if_neg (by rw [nl_3, nn_eq (by omega) (by omega)]; exact z), if_neg z, show (1 : Int32) = nn 1 from nl_1, c_failN hk h, fb_n]
    have pe := pC_e hk (k := 1) (by omega) h hG
    rw [c_passE pe, fb_n]
    exact fE_ret ⟨pe, qF_tr qF_1 qF_1⟩
/-- what a load says -/
def lR (x t : Nat) (f : Nat → Nat) (n : Nat) (m : fm_M) (r : Int32) (res : PRs) : Prop := match res with
  | .inl (c, p) => r = 0 ∧ pE x t f n m c p
  | .inr (V, p) => r = 1 ∧ pC x t f n m V p
theorem c_142 (h : m.1 (x + 1) 1 = 0) : f_X6_readSetup_142 H (x + 1) m = some (1, m) := by
  unfold f_X6_readSetup_142
  rw [if_pos h]
theorem c_142E {c p : Nat} (h : pE x t f n m c p) : f_X6_readSetup_142 H (x + 1) m = some (0, m) := by
  unfold f_X6_readSetup_142
  rw [if_neg (pE_0 h)]
theorem c_23E {c p q : Nat} {i : Int32} (h : pE x t f n m c p) (hq : 0 < q) : f_X6_readSetup_23 H (x + 1) t q i m = some (0, m) := by
  obtain ⟨q, rfl⟩ : ∃ q', q = q' + 1 := ⟨q - 1, by omega⟩
  unfold f_X6_readSetup_23
  split
  · exact c_142E h
  · rw [if_neg (pE_0 h)]
    exact c_142E h
/-- behind a statement's body -/
theorem c_132 (hk : kR H x t) {p k q : Nat} (hp : p ≤ n) (hV : gL V) (i : Int32) {mm : fm_M} (h : pR x t f n m (stmtB f n V p)) (hm : qF x t mm m) (hq : 0 < q)
    (go : ∀ (V' : VV) (p' : Nat) (m' : fm_M), stmtP f n V p = .inr (V', p') → pC x t f n m' V' p' → qF x t mm m' → fE (f_X6_readSetup_23 H (x + 1) t q (i + 1) m') (fun r m2 => lR x t f n m2 r (loadP f n k V' p') ∧ qF x t mm m2)) :
    fE (f_X6_readSetup_132 H (f_X6_readSetup_23 H (x + 1) t q) (x + 1) t i m) (fun r m2 => lR x t f n m2 r (match stmtP f n V p with | .inl e => .inl e | .inr (V', p') => loadP f n k V' p') ∧ qF x t mm m2) := by
  unfold f_X6_readSetup_132
  cases eb : stmtB f n V p with
  | inl z =>
    obtain ⟨c, p1⟩ := z
    rw [eb] at h
    have es : stmtP f n V p = .inl (c, p1) := by
      unfold stmtP
      rw [eb]
      rfl
    rw [c_semiE hk h, fb_n, c_23E h hq, es]
    exact fE_ret ⟨⟨rfl, h⟩, hm⟩
  | inr z =>
    obtain ⟨V1, p1⟩ := z
    obtain ⟨b1, b2, b3⟩ := stmtB_ok hp hV V1 p1 eb
    rw [eb] at h
    have es : stmtP f n V p = semiP f n (.inr (V1, p1)) := by
      unfold stmtP
      rw [eb]
    refine fE_be (c_semi hk b3 h b1.1.1.1) (fun _ m1 ⟨g1, g2⟩ => ?_)
    cases e2 : stmtP f n V p with
    | inl z =>
      obtain ⟨c, p2⟩ := z
      rw [← es, e2] at g1
      rw [c_23E g1 hq]
      exact fE_ret ⟨⟨rfl, g1⟩, qF_tr hm g2⟩
    | inr z =>
      obtain ⟨V2, p2⟩ := z
      rw [← es, e2] at g1
      exact go V2 p2 m1 e2 g1 (qF_tr hm g2)
theorem c_23 (hk : kR H x t) : ∀ (k q j p : Nat) (V : VV) (m : fm_M), gL V → p ≤ n → pC x t f n m V p → wdC H m x → j + k = 800 → k < q → fE (f_X6_readSetup_23 H (x + 1) t q (nn j) m) (fun r m' => lR x t f n m' r (loadP f n k V p) ∧ qF x t m m') := by
  intro k
  induction k with
  | zero =>
    intro q j p V m hV hp h hw h1 h2
    obtain ⟨q, rfl⟩ : ∃ q', q = q' + 1 := ⟨q - 1, by omega⟩
    unfold f_X6_readSetup_23
    rw [if_pos (by rw [nl_800]; exact (nn_le (by omega) (by omega)).mpr (by omega)), c_142 h.2.2.2.2]
    exact fE_ret ⟨⟨rfl, h⟩, qF_rf⟩
  | succ k ih =>
    intro q j p V m hV hp h hw h1 h2
    obtain ⟨q, rfl⟩ : ∃ q', q = q' + 1 := ⟨q - 1, by omega⟩
    have hk4 := tK_4 (f := f) (n := n) (p := p)
    have e2 := h.2.2.2.1.1
    have hG := hV.1.1.1
    rw [loadP_s]
    unfold f_X6_readSetup_23
    rw [if_neg (by rw [nl_800, nn_le (by omega) (by omega)]; omega), if_pos h.2.2.2.2, hk.1, e2]
    by_cases z : tK f n p = 0
    · rw [if_pos (by rw [z]; rfl), if_pos z, c_142 h.2.2.2.2]
      exact fE_ret ⟨⟨rfl, h⟩, qF_rf⟩
    · rw [if_neg (by rw [nl_0, nn_eq (by omega) (by omega)]; exact z), if_neg z]
      have go : ∀ (V' : VV) (p' : Nat) (m' : fm_M), stmtP f n V p = .inr (V', p') → pC x t f n m' V' p' → qF x t m m' → fE (f_X6_readSetup_23 H (x + 1) t q (nn j + 1) m') (fun r m2 => lR x t f n m2 r (loadP f n k V' p') ∧ qF x t m m2) := fun V' p' m' es hc hm => by
        obtain ⟨s1, s2, s3⟩ := stmt_ok hp hV es
        rw [nn_inc]
        exact fE_w (ih q (j + 1) p' V' m' s1 s3 hc (wdC_w hw (qF_lo hk hm)) (by omega) (by omega)) (fun r m2 ⟨w1, w2⟩ => ⟨w1, qF_tr hm w2⟩)
      rw [c_isWord hk.2.1 hk.2.2.1 hw.1.1 h.2.2.1.1 hp h.2.2.2.1, fb_n]
      cases b1 : wdB f n p uN with
      | true =>
        rw [if_neg (by decide)]
        have eb : stmtB f n V p = nodeP f n V p := by unfold stmtB; rw [b1, it_tt]
        refine fE_be (c_readNode hk hp h hG) (fun _ m1 ⟨g1, g2⟩ => c_132 hk hp hV (nn j) (by rw [eb]; exact g1) g2 (by omega) go)
      | false =>
        rw [if_pos (by decide), c_isWord hk.2.1 hk.2.2.1 hw.2.1.1 h.2.2.1.1 hp h.2.2.2.1, fb_n]
        cases b2 : wdB f n p uLk with
        | true =>
          rw [if_neg (by decide)]
          have eb : stmtB f n V p = linkP f n V p := by unfold stmtB; rw [b1, it_ft, b2, it_tt]
          refine fE_be (c_readLink hk hp h hG hV.1.2.1) (fun _ m1 ⟨g1, g2⟩ => c_132 hk hp hV (nn j) (by rw [eb]; exact g1) g2 (by omega) go)
        | false =>
          rw [if_pos (by decide), c_isWord hk.2.1 hk.2.2.1 hw.2.2.1.1 h.2.2.1.1 hp h.2.2.2.1, fb_n]
          cases b3 : wdB f n p uCi with
          | true =>
            rw [if_neg (by decide)]
            have eb : stmtB f n V p = circP f n V p := by unfold stmtB; rw [b1, it_ft, b2, it_ft, b3, it_tt]
            refine fE_be (c_readCircuit hk hV.1 hp h) (fun _ m1 ⟨g1, g2⟩ => c_132 hk hp hV (nn j) (by rw [eb]; exact g1) g2 (by omega) go)
          | false =>
            rw [if_pos (by decide), c_isWord hk.2.1 hk.2.2.1 hw.2.2.2.1 h.2.2.1.1 hp h.2.2.2.1, fb_n]
            cases b4 : wdB f n p uSe with
            | true =>
              rw [if_neg (by decide)]
              have eb : stmtB f n V p = setP f n V p := by unfold stmtB; rw [b1, it_ft, b2, it_ft, b3, it_ft, b4, it_tt]
              refine fE_be (c_readSetting hk hp h hG) (fun _ m1 ⟨g1, g2⟩ => c_132 hk hp hV (nn j) (by rw [eb]; exact g1) g2 (by omega) go)
            | false =>
              have eb : stmtB f n V p = .inl (1, p) := by unfold stmtB; rw [b1, it_ft, b2, it_ft, b3, it_ft, b4, it_ft]
              rw [if_pos (by decide), show (1 : Int32) = nn 1 from nl_1, c_failN hk h, fb_n]
              have pe := pC_e hk (k := 1) (by omega) h hG
              exact c_132 hk hp hV (nn j) (by rw [eb]; exact pe) (qF_tr qF_1 qF_1) (by omega) go
/-- the class reads the text -/
theorem c_readSetup (hk : kR H x t) (hsp : sp m t) (hT : cTx m (x + 2) n f) (hw : wdC H m x) : fE (f_X6_readSetup H (x + 1) t m) (fun r m' => lR x t f n m' r (loadP f n 800 (zeV (cv m t)) 0) ∧ qF x t m m') := by
  have hS := hk.2.2.2.1
  have ht := hk.2.2.2.2
  unfold f_X6_readSetup
  rw [fb_d, fb_d]
  obtain ⟨m1, em⟩ : ∃ m1, m1 = fm_si (fm_si m (x + 1) 1 0) (x + 1) 2 (-1) := ⟨_, rfl⟩
  have q1 : qF x t m m1 := by rw [em]; exact qF_tr qF_1 qF_1
  have o1 : ∀ a k, a ≠ x + 1 → m1.1 a k = m.1 a k := fun a k h => by rw [em, si_o (by omega), si_o (by omega)]
  have c1 : m1.1 (x + 1) 1 = 0 := by
    rw [em, si_o (by omega)]
    exact si_s
  have c2 : m1.1 (x + 1) 2 = -1 := by
    rw [em]
    exact si_s
  have p1 : pS m1 t := pS_2 hsp.1 q1.2
  have v1 : cv m1 t = cv m t := cv_f hsp.1 (fun a k a1 _ => o1 a k (by omega)) q1.2
  rw [← em]
  refine fE_be (c_erase hS p1 v1) (fun _ m2 h2 => ?_)
  have o2 : ∀ a k, a < t → m2.1 a k = m1.1 a k := fun a k h => (h2.2.2.1.1 a k (by omega)).1
  unfold f_X8_toFirst
  rw [hk.1, fb_d]
  obtain ⟨m3, em3⟩ : ∃ m3, m3 = fm_si m2 (x + 2) 5 0 := ⟨_, rfl⟩
  have w3 : wT (x + 2) m2 m3 := by rw [em3]; exact wT_si (by omega)
  have hT2 : cTx m2 (x + 2) n f := ⟨(o2 _ _ (by omega)).trans ((o1 _ _ (by omega)).trans hT.1), hT.2.1, fun k hk' => ⟨(o2 _ _ (by omega)).trans ((o1 _ _ (by omega)).trans (hT.2.2 k hk').1), (hT.2.2 k hk').2⟩⟩
  have e5 : m3.1 (x + 2) 5 = nn 0 := by
    rw [em3]
    exact si_s
  rw [← em3]
  have tn := c_toNext hk.2.1 hk.2.2.1 (p := 0) (cTx_w hT2 w3) (by omega) e5
  refine fE_be (Q1 := fun _ m' => cT m' (x + 2) f n 0 ∧ wT (x + 2) m3 m') (fE_be tn (fun _ m4 h4 => fE_ret h4)) (fun _ m4 ⟨g1, g2⟩ => ?_)
  have w4 : wT (x + 2) m2 m4 := wT_tr w3 g2
  have hc : pC x t f n m4 (zeV (cv m t)) 0 := ⟨pS_2 h2.2.1 w4.2, (cv_f h2.2.1 (fun a k a1 _ => w4.1 a k (by omega)) w4.2).trans h2.1, ⟨cTx_w hT2 w4, (w4.1 _ _ (by omega)).trans ((o2 _ _ (by omega)).trans c2)⟩, g1, (w4.1 _ _ (by omega)).trans ((o2 _ _ (by omega)).trans c1)⟩
  have q4 : qF x t m m4 := qF_tr (qF_tr q1 (qF_mI h2)) (qF_w w4)
  exact fE_w (c_23 hk 800 fm_N 0 0 _ m4 (ze_ok hsp.2) (by omega) hc (wdC_w hw (qF_lo hk q4)) (by omega) (by unfold fm_N; omega)) (fun r m' ⟨a1, a2⟩ => ⟨a1, qF_tr q4 a2⟩)
end
