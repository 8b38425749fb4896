/-! the class finds best ways -/
/-- a finder and its rows -/
def kF (H : fm_H) (f : Nat) : Prop := fm_is H f 1 ∧ (H.2.1 f 0 = f + 1 ∧ H.2.1 f 1 = f + 5 ∧ H.2.1 f 2 = f + 9 ∧ H.2.1 f 3 = f + 10) ∧ kW H (f + 1) ∧ kW H (f + 5) ∧ fm_sz H (f + 9) = 16 ∧ fm_sz H (f + 10) = 16
theorem kF_0 {H : fm_H} {f : Nat} (h : kF H f) : H.2.1 f 0 = f + 1 := h.2.1.1
theorem kF_1 {H : fm_H} {f : Nat} (h : kF H f) : H.2.1 f 1 = f + 5 := h.2.1.2.1
theorem kF_2 {H : fm_H} {f : Nat} (h : kF H f) : H.2.1 f 2 = f + 9 := h.2.1.2.2.1
theorem kF_3 {H : fm_H} {f : Nat} (h : kF H f) : H.2.1 f 3 = f + 10 := h.2.1.2.2.2
theorem kF_b {H : fm_H} {f : Nat} (h : kF H f) : kW H (f + 1) := h.2.2.1
theorem kF_p {H : fm_H} {f : Nat} (h : kF H f) : kW H (f + 5) := h.2.2.2.1
theorem kF_z9 {H : fm_H} {f : Nat} (h : kF H f) : fm_sz H (f + 9) = 16 := h.2.2.2.2.1
theorem kF_z10 {H : fm_H} {f : Nat} (h : kF H f) : fm_sz H (f + 10) = 16 := h.2.2.2.2.2
/-- only what a search writes differs -/
def vF (f : Nat) (m m' : fm_M) : Prop := (∀ a k, ¬ (f ≤ a ∧ a < f + 9) → m'.1 a k = m.1 a k) ∧ m'.1 f 5 = m.1 f 5 ∧ m'.2 = m.2
theorem vF_rf {f : Nat} {m : fm_M} : vF f m m := ⟨fun _ _ _ => rfl, rfl, rfl⟩
theorem vF_tr {f : Nat} {m m1 m2 : fm_M} (h1 : vF f m m1) (h2 : vF f m1 m2) : vF f m m2 := ⟨fun a k h => (h2.1 a k h).trans (h1.1 a k h), h2.2.1.trans h1.2.1, h2.2.2.trans h1.2.2⟩
theorem vF_si {f a k : Nat} {m : fm_M} {x : Int32} (h1 : f ≤ a) (h2 : a < f + 9) (h3 : ¬ (a = f ∧ k = 5)) : vF f m (fm_si m a k x) := ⟨fun c j h => si_o (by omega), si_o (by omega), rfl⟩
/-- a state doesn't see what a search writes -/
theorem cv_f {m m' : fm_M} {s : Nat} (hp : pS m s) (h : ∀ a k, s ≤ a → a < s + 160 → m'.1 a k = m.1 a k) (h2 : m'.2 = m.2) : cv m' s = cv m s := by
  funext kd i k
  show (if vld kd i = true ∧ vk kd k = true then m'.1 (ad m' s kd i) k else 0) = (if vld kd i = true ∧ vk kd k = true then m.1 (ad m s kd i) k else 0)
  have e : ad m' s kd i = ad m s kd i := by
    unfold ad
    rw [h2]
  rw [e]
  by_cases hv : vld kd i = true ∧ vk kd k = true
  · rw [if_pos hv, if_pos hv]
    have r := ad_r hp hv.1
    exact h _ _ r.1 r.2
  · rw [if_neg hv, if_neg hv]
theorem pS_2 {m m' : fm_M} {s : Nat} (h : pS m s) (e : m'.2 = m.2) : pS m' s := pS_eq h (by rw [e])
/-- the path, and the best way so far -/
def fP (m : fm_M) (f : Nat) (lk : Nat → Nat → Int) (n : Nat) (P : Nat → Nat) : Prop := m.1 (f + 5) 0 = nn n ∧ (∀ k, k < n → m.1 (f + 6) k = nn (P k)) ∧ ∀ k, 1 ≤ k → k < n → m.1 (f + 7) k = ii (lk (P (k - 1)) (P k))
def fB (m : fm_M) (f : Nat) (lk : Nat → Nat → Int) (b : Bst) : Prop := m.1 (f + 1) 0 = nn b.1 ∧ m.1 f 4 = nn b.2.1 ∧ (∀ k, k < b.1 → m.1 (f + 2) k = nn (b.2.2 k)) ∧ ∀ k, 1 ≤ k → k < b.1 → m.1 (f + 3) k = ii (lk (b.2.2 (k - 1)) (b.2.2 k))
/-- the links that are open -/
def opF (use : Nat → Bool) (y : Int32) (j : Nat) : Bool := use j && !decide (nn j = y)
/-- where the search goes on -/
def sF9 (m : fm_M) (f s : Nat) (V : VV) (use : Nat → Bool) (y : Int32) : Prop := pS m s ∧ cv m s = V ∧ (∀ j, j < 16 → m.1 (f + 9) j = bi (use j)) ∧ m.1 f 5 = y
theorem sF9_v {m m' : fm_M} {f s : Nat} {V : VV} {use : Nat → Bool} {y : Int32} (hd : f + 11 ≤ s ∨ s + 160 ≤ f) (h : sF9 m f s V use y) (hv : vF f m m') : sF9 m' f s V use y := by
  obtain ⟨h1, h2, h3, h4⟩ := h
  exact ⟨pS_2 h1 hv.2.2, (cv_f h1 (fun a k _ _ => hv.1 a k (by omega)) hv.2.2).trans h2, fun j hj => (hv.1 _ _ (by omega)).trans (h3 j hj), hv.2.1.trans h4⟩
theorem ny_e {f g : Nat → Bool} {j k : Nat} (h : ∀ i, j ≤ i → i < j + k → f i = g i) : ny f j k = ny g j k := ny_c h
section
variable {H : fm_H} {f s : Nat} {m : fm_M} {V : VV} {use : Nat → Bool} {y : Int32}
theorem c_isOpen (hF : kF H f) (hs : sF9 m f s V use y) {j : Int} (h1 : -1 ≤ j) (h2 : j < 16) : f_X1_isOpen H f (ii j) m = some (bi (decide (j ≠ -1) && opF use y j.toNat), m) := by
  obtain ⟨-, -, h3, h4⟩ := hs
  unfold f_X1_isOpen
  by_cases e : j = -1
  · rw [if_pos (by rw [ii_0]; exact (by rw [ii_lt (by omega) (by omega) (by omega) (by omega)]; omega)), decide_eq_false (fun z => z e), Bool.false_and]
    rfl
  · have ej : ii j = nn j.toNat := congrArg ii (by omega)
    rw [if_neg (by rw [ii_0]; exact (by rw [ii_lt (by omega) (by omega) (by omega) (by omega)]; omega)), decide_eq_true e, Bool.true_and, if_neg (by rw [ii_16]; exact (by rw [ii_le (by omega) (by omega) (by omega) (by omega)]; omega)), h4, ej]
    unfold opF
    by_cases e2 : nn j.toNat = y
    · rw [if_pos e2, decide_eq_true e2, Bool.not_true, Bool.and_false]
      rfl
    · rw [if_neg e2, decide_eq_false e2, kF_2 hF, kF_z9 hF, if_pos ((nn_in (by omega)).mpr (by omega)), nn_tn (by omega), h3 _ (by omega), Bool.not_false, Bool.and_true]
      cases use j.toNat with
      | true => rw [if_neg (by decide)]; rfl
      | false => rw [if_pos (by decide)]; rfl
theorem c_keep (hF : kF H f) {lk : Nat → Nat → Int} {n d : Nat} {P : Nat → Nat} {b : Bst} (hP : fP m f lk n P) (hB : fB m f lk b) (hn : n ≤ 6) (hd : d ≤ 100) (hb : b.1 ≤ 6) (hb2 : b.2.1 ≤ 100) : fE (f_X1_keepIfBetter H f (nn d) m) (fun _ m' => fP m' f lk n P ∧ fB m' f lk (kb b n d P) ∧ vF f m m') := by
  obtain ⟨p1, p2, p3⟩ := hP
  obtain ⟨b1, b2, b3, b4⟩ := hB
  have put : ∀ b', b' = (n, d, P) → fE (f_X1_keepIfBetter_43 H f (nn d) m) (fun _ m' => fP m' f lk n P ∧ fB m' f lk b' ∧ vF f m m') := by
    intro b' eb
    subst eb
    unfold f_X1_keepIfBetter_43
    rw [if_neg (by decide), kF_0 hF, kF_1 hF, c_copyNodes (kF_b hF) (kF_p hF) (by omega), fb_n, fb_d]
    have o : ∀ a k, (a < f + 1 ∨ f + 5 ≤ a) → (cpj m (f + 1) (f + 5) 6).1 a k = m.1 a k := fun a k h => by
      show (if a = f + 1 ∧ k = 0 then _ else if a = f + 1 + 1 ∧ k < 6 then _ else if a = f + 1 + 2 ∧ k < 6 then _ else if a = f + 1 + 3 ∧ k < 6 then -1 else m.1 a k) = _
      rw [if_neg (by omega), if_neg (by omega), if_neg (by omega), if_neg (by omega)]
    refine fE_ret ⟨⟨?_, fun k hk => ?_, fun k k1 k2 => ?_⟩, ⟨?_, ?_, fun k hk => ?_, fun k k1 k2 => ?_⟩, ⟨fun a k h => ?_, ?_, rfl⟩⟩
    · rw [si_o (by omega), o _ _ (by omega)]; exact p1
    · rw [si_o (by omega), o _ _ (by omega)]; exact p2 k hk
    · rw [si_o (by omega), o _ _ (by omega)]; exact p3 k k1 k2
    · rw [si_o (by omega)]
      show (if f + 1 = f + 1 ∧ 0 = 0 then m.1 (f + 5) 0 else _) = _
      rw [if_pos ⟨rfl, rfl⟩]
      exact p1
    · exact si_s
    · have hk' : k < n := hk
      rw [si_o (by omega)]
      show (if f + 2 = f + 1 ∧ k = 0 then _ else if f + 2 = f + 1 + 1 ∧ k < 6 then m.1 (f + 5 + 1) k else _) = _
      rw [if_neg (by omega), if_pos ⟨rfl, by omega⟩]
      exact p2 k hk
    · have hk' : k < n := k2
      rw [si_o (by omega)]
      show (if f + 3 = f + 1 ∧ k = 0 then _ else if f + 3 = f + 1 + 1 ∧ k < 6 then _ else if f + 3 = f + 1 + 2 ∧ k < 6 then m.1 (f + 5 + 2) k else _) = _
      rw [if_neg (by omega), if_neg (by omega), if_pos ⟨rfl, by omega⟩]
      exact p3 k k1 k2
    · rw [si_o (by omega), o _ _ (by omega)]
    · rw [si_o (by omega), o _ _ (by omega)]
  unfold f_X1_keepIfBetter kb
  rw [kF_0 hF, kF_1 hF, b1, b2, p1]
  by_cases e1 : b.1 = 0
  · rw [if_pos (by rw [e1]; rfl), if_pos (Or.inl e1)]
    exact put _ rfl
  · rw [if_neg (fun z => e1 (nn_e (by omega) (by omega) (z.trans nl_0)))]
    by_cases e2 : d < b.2.1
    · rw [if_pos ((nn_lt (by omega) (by omega)).mpr e2), if_pos (Or.inr (Or.inl e2))]
      exact put _ rfl
    · rw [if_neg (fun z => e2 ((nn_lt (by omega) (by omega)).mp z))]
      by_cases e3 : d = b.2.1
      · rw [if_pos (by rw [e3])]
        by_cases e4 : n < b.1
        · rw [if_neg (by rw [nn_le (by omega) (by omega)]; omega), if_pos (Or.inr (Or.inr ⟨e3, e4⟩))]
          exact put _ rfl
        · rw [if_pos ((nn_le (by omega) (by omega)).mpr (by omega)), if_pos rfl, if_neg (by omega)]
          exact fE_ret ⟨⟨p1, p2, p3⟩, ⟨b1, b2, b3, b4⟩, vF_rf⟩
      · rw [if_neg (fun z => e3 (nn_e (by omega) (by omega) z)), if_pos rfl, if_neg (by omega)]
        exact fE_ret ⟨⟨p1, p2, p3⟩, ⟨b1, b2, b3, b4⟩, vF_rf⟩
theorem c_visit (hF : kF H f) (hS : kS H s) (hd : f + 11 ≤ s ∨ s + 160 ≤ f) (hG : vG V) (hB : iB V) (hL : iL V) {t f0 : Nat} (ht : t < 10) (hft : f0 ≠ t) {dl : Nat → Nat} (hdl : ∀ j, j < eL V → V 3 j 3 = nn (dl j) ∧ 1 ≤ dl j ∧ dl j ≤ 9) (huse : ∀ j, eL V ≤ j → use j = false) : ∀ (r q n d : Nat) (P : Nat → Nat) (b : Bst) (m : fm_M), r < q → n + r = 6 → 1 ≤ n → d ≤ 9 * (n - 1) → pth (eN V) f0 (fun x y => lkE V (nn x) (nn y)) n P → bok (eN V) f0 t (fun x y => lkE V (nn x) (nn y)) b → sF9 m f s V use y → fP m f (fun x y => lkE V (nn x) (nn y)) n P → fB m f (fun x y => lkE V (nn x) (nn y)) b →
    fE (f_X1_visit H q f (s + 1) (nn t) (nn d) (nn n) m) (fun _ m' => fP m' f (fun x y => lkE V (nn x) (nn y)) n P ∧ fB m' f (fun x y => lkE V (nn x) (nn y)) (vs (eN V) t (fun x y => lkE V (nn x) (nn y)) (opF use y) dl r n P d b) ∧ vF f m m') := by
  have hN10 := hG.2.2.2.2.1.1
  have hL16 := hG.2.2.2.2.1.2.1
  obtain ⟨lk, elk⟩ : ∃ lk : Nat → Nat → Int, lk = fun x y => lkE V (nn x) (nn y) := ⟨_, rfl⟩
  have lkd : ∀ x y, lk x y = lkE V (nn x) (nn y) := fun x y => by rw [elk]
  have lkr : ∀ x y, lk x y = -1 ∨ (0 ≤ lk x y ∧ lk x y < eL V) := fun x y => by
    rw [lkd]
    by_cases e : lkE V (nn x) (nn y) = -1
    · exact Or.inl e
    · obtain ⟨j, h1, h2⟩ := lkE_r e
      rw [h2]
      exact Or.inr ⟨by omega, by omega⟩
  have hop : ∀ j, opF use y j = true → j < eL V := fun j h => by
    unfold opF at h
    rw [Bool.and_eq_true] at h
    by_cases e : j < eL V
    · exact e
    · rw [huse j (by omega)] at h
      exact Bool.noConfusion h.1
  rw [← elk]
  intro r
  induction r with
  | zero =>
    intro q n d P b m h1 h2 h3 h4 hp hb hs hP hBb
    obtain ⟨q, rfl⟩ : ∃ q', q = q' + 1 := ⟨q - 1, by omega⟩
    unfold f_X1_visit
    rw [kF_1 hF, c_lastNode (kF_p hF) hP.1 (by omega), fb_n, if_neg (show ¬ n = 0 by omega), hP.2.1 _ (by omega)]
    have hPn := hp.1 (n - 1) (by omega)
    by_cases e : P (n - 1) = t
    · rw [if_pos (by rw [e]), vs_t e]
      exact fE_be (c_keep hF hP hBb (by omega) (by omega) hb.2.1 (by have := hb.1; omega)) (fun _ m2 h => fE_ret h)
    · rw [if_neg (fun z => e (nn_e (by omega) (by omega) z)), vs_0 e, if_pos (by rw [nl_6, nn_le (by omega) (by omega)]; omega)]
      exact fE_ret ⟨hP, hBb, vF_rf⟩
  | succ r ih =>
    intro q n d P b m h1 h2 h3 h4 hp hb hs hP hBb
    obtain ⟨q, rfl⟩ : ∃ q', q = q' + 1 := ⟨q - 1, by omega⟩
    unfold f_X1_visit
    rw [kF_1 hF, c_lastNode (kF_p hF) hP.1 (by omega), fb_n, if_neg (show ¬ n = 0 by omega), hP.2.1 _ (by omega)]
    have hPn := hp.1 (n - 1) (by omega)
    by_cases e : P (n - 1) = t
    · rw [if_pos (by rw [e]), vs_t e]
      exact fE_be (c_keep hF hP hBb (by omega) (by omega) hb.2.1 (by have := hb.1; omega)) (fun _ m2 h => fE_ret h)
    · rw [if_neg (fun z => e (nn_e (by omega) (by omega) z)), if_neg (by rw [nl_6, nn_le (by omega) (by omega)]; omega), kF_0 hF, hBb.1, hBb.2.1]
      have hb54 := hb.1
      have hb6 := hb.2.1
      -- the children
      have loop : ∀ (k q' x : Nat) (b : Bst) (m : fm_M), x + k = eN V → k < q' → bok (eN V) f0 t lk b → sF9 m f s V use y → fP m f lk n P → fB m f lk b → fE (f_X1_visit_50 H (f_X1_visit H q) f (s + 1) (nn t) (nn d) (nn n) (nn (P (n - 1))) q' (nn x) m) (fun _ m' => fP m' f lk n P ∧ fB m' f lk (vlp lk (opF use y) dl (vs (eN V) t lk (opF use y) dl r) n P d x k b) ∧ vF f m m') := by
        intro k
        induction k with
        | zero =>
          intro q' x b m a1 a2 hb hs hP hBb
          obtain ⟨q', rfl⟩ : ∃ q'', q' = q'' + 1 := ⟨q' - 1, by omega⟩
          unfold f_X1_visit_50
          rw [rd1 hs.2.1, show V 1 0 0 = nn (eN V) from hG.1, if_pos ((nn_le (by omega) (by omega)).mpr (by omega))]
          exact fE_ret ⟨hP, hBb, vF_rf⟩
        | succ k ihk =>
          intro q' x b m a1 a2 hb hs hP hBb
          obtain ⟨q', rfl⟩ : ∃ q'', q' = q'' + 1 := ⟨q' - 1, by omega⟩
          unfold f_X1_visit_50
          have hx : x < eN V := by omega
          have elb := (lbV_lk hB hL16 hPn hx hN10).2
          rw [← lkd] at elb
          have hlr := lkr (P (n - 1)) x
          rw [rd1 hs.2.1, show V 1 0 0 = nn (eN V) from hG.1, if_neg (by rw [nn_le (by omega) (by omega)]; omega), show f_X4_linkBetween H (s + 1) (nn (P (n - 1))) (nn x) m = some (lbV V (eN V) (P (n - 1) : Nat) (x : Nat), m) from c_linkBetween hS hs.2.1 hG (by omega) (by omega) (by omega) (by omega), fb_n, elb, c_isOpen hF hs (by omega) (by omega), fb_n, vlp_S, nn_inc]
          have eok : okn lk (opF use y) n P x = (decide (lk (P (n - 1)) x ≠ -1) && (opF use y (lk (P (n - 1)) x).toNat && !ny (fun k => decide (P k = x)) 0 n)) := rfl
          have hny : ny (fun i => decide (m.1 (f + 5 + 1) i = nn x)) 0 n = ny (fun k => decide (P k = x)) 0 n := ny_e (fun i _ hi => by
            have := hp.1 i (by omega)
            rw [show f + 5 + 1 = f + 6 from rfl, hP.2.1 i (by omega)]
            exact decide_eq_decide.mpr (nn_eq (by omega) (by omega)))
          cases o1 : (decide (lk (P (n - 1)) x ≠ -1) && opF use y (lk (P (n - 1)) x).toNat) with
          | false =>
            rw [if_pos (by decide), eok, ← Bool.and_assoc, o1, Bool.false_and, if_neg (by decide)]
            exact ihk q' (x + 1) b m (by omega) (by omega) hb hs hP hBb
          | true =>
            rw [if_neg (by decide), kF_1 hF, c_hasNode (kF_p hF) hP.1 (by omega), fb_n, hny, eok, ← Bool.and_assoc, o1, Bool.true_and]
            cases o2 : ny (fun k => decide (P k = x)) 0 n with
            | true =>
              rw [if_neg (by decide), Bool.not_true, if_neg (by decide)]
              exact ihk q' (x + 1) b m (by omega) (by omega) hb hs hP hBb
            | false =>
              rw [if_pos (by decide), Bool.not_false, if_pos rfl, c_append (kF_p hF) hP.1 (by omega), fb_n]
              have hok : okn lk (opF use y) n P x = true := by
                rw [eok, ← Bool.and_assoc, o1, o2]
                rfl
              rw [Bool.and_eq_true] at o1
              have hjL := hop _ o1.2
              have hj0 := of_decide_eq_true o1.1
              have hdj := hdl _ hjL
              -- the path is one longer
              have hv4 : vF f m (wAp m (f + 5) n (nn x) (ii (lk (P (n - 1)) x))) := vF_tr (vF_tr (vF_tr (vF_si (by omega) (by omega) (by omega)) (vF_si (by omega) (by omega) (by omega))) (vF_si (by omega) (by omega) (by omega))) (vF_si (by omega) (by omega) (by omega))
              have hs4 := sF9_v hd hs hv4
              have hP4 : fP (wAp m (f + 5) n (nn x) (ii (lk (P (n - 1)) x))) f lk (n + 1) (upf P n x) := by
                unfold wAp
                refine ⟨si_s, fun k hk => ?_, fun k k1 k2 => ?_⟩
                · rw [si_o (by omega), si_o (by omega), si_o (by omega)]
                  by_cases ek : k = n
                  · rw [ek, upf_s]
                    exact si_s
                  · rw [upf_o ek, si_o (by omega)]
                    exact hP.2.1 k (by omega)
                · rw [si_o (by omega), si_o (by omega)]
                  by_cases ek : k = n
                  · rw [ek, upf_s, upf_o (by omega)]
                    exact si_s
                  · rw [upf_o ek, upf_o (by omega), si_o (by omega), si_o (by omega)]
                    exact hP.2.2 k k1 (by omega)
              have hB4 : fB (wAp m (f + 5) n (nn x) (ii (lk (P (n - 1)) x))) f lk b := by
                unfold wAp
                refine ⟨?_, ?_, fun k hk => ?_, fun k k1 k2 => ?_⟩
                · rw [si_o (by omega), si_o (by omega), si_o (by omega), si_o (by omega)]; exact hBb.1
                · rw [si_o (by omega), si_o (by omega), si_o (by omega), si_o (by omega)]; exact hBb.2.1
                · rw [si_o (by omega), si_o (by omega), si_o (by omega), si_o (by omega)]; exact hBb.2.2.1 k hk
                · rw [si_o (by omega), si_o (by omega), si_o (by omega), si_o (by omega)]; exact hBb.2.2.2 k k1 k2
              generalize wAp m (f + 5) n (nn x) (ii (lk (P (n - 1)) x)) = m4 at hv4 hs4 hP4 hB4
              have ejj : ii (lk (P (n - 1)) x) = ii ((lk (P (n - 1)) x).toNat : Int) := congrArg ii (by omega)
              rw [c_delayOn hS hs4.1 hs4.2.1 hG, fb_n, ejj, dOn_ii hjL (by omega), hdj.1, nn_add, nn_inc]
              have hp4 := pth_up h3 hp hx hok
              refine fE_be (ih q (n + 1) (d + dl (lk (P (n - 1)) x).toNat) (upf P n x) b m4 (by omega) (by omega) (by omega) (by omega) hp4 hb hs4 hP4 hB4) (fun _ m6 ⟨g1, g2, g3⟩ => ?_)
              rw [c_dropLast g1.1 (by omega) (by omega), fb_n, Nat.add_sub_cancel]
              have hb6' := vs_ok (t := t) (op := opF use y) (dl := dl) hft (fun j hj => (hdl j (hop j hj)).2.2) (r := r) (by omega) (by omega) (show d + dl (lk (P (n - 1)) x).toNat ≤ 9 * (n + 1 - 1) by omega) hp4 hb
              have hv7 : vF f m6 (fm_si m6 (f + 5) 0 (ii (n : Nat))) := vF_si (by omega) (by omega) (by omega)
              have hP7 : fP (fm_si m6 (f + 5) 0 (ii (n : Nat))) f lk n P := by
                refine ⟨si_s, fun k hk => ?_, fun k k1 k2 => ?_⟩
                · rw [si_o (by omega), g1.2.1 k (by omega), upf_o (by omega)]
                · rw [si_o (by omega), g1.2.2 k k1 (by omega), upf_o (by omega), upf_o (by omega)]
              have hB7 : fB (fm_si m6 (f + 5) 0 (ii (n : Nat))) f lk (vs (eN V) t lk (opF use y) dl r (n + 1) (upf P n x) (d + dl (lk (P (n - 1)) x).toNat) b) := by
                refine ⟨?_, ?_, fun k hk => ?_, fun k k1 k2 => ?_⟩
                · rw [si_o (by omega)]; exact g2.1
                · rw [si_o (by omega)]; exact g2.2.1
                · rw [si_o (by omega)]; exact g2.2.2.1 k hk
                · rw [si_o (by omega)]; exact g2.2.2.2 k k1 k2
              have hvA := vF_tr (vF_tr hv4 g3) hv7
              refine fE_w (ihk q' (x + 1) _ _ (by omega) (by omega) hb6' (sF9_v hd hs hvA) hP7 hB7) (fun _ m' ⟨c1, c2, c3⟩ => ⟨c1, c2, vF_tr hvA c3⟩)
      rw [vs_S e]
      by_cases e2 : b.1 = 0
      · rw [if_pos (by rw [e2]; decide), nl_0]
        exact loop (eN V) fm_N 0 b m (by omega) (by unfold fm_N; omega) hb hs hP hBb
      · rw [if_neg (by rw [nl_0, nn_le (by omega) (by omega)]; omega)]
        by_cases e3 : d < b.2.1
        · rw [if_pos ((nn_lt (by omega) (by omega)).mpr e3), nl_0]
          exact loop (eN V) fm_N 0 b m (by omega) (by unfold fm_N; omega) hb hs hP hBb
        · rw [if_neg (fun z => e3 ((nn_lt (by omega) (by omega)).mp z)), ← vs_S e, vs_p (fun j hj => (hdl j (hop j hj)).2.1) e e2 (by omega)]
          exact fE_ret ⟨hP, hBb, vF_rf⟩
end
