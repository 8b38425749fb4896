/-! a link fails or is repaired -/
/-- the packets on link x are lost if it fails (u: it is up then) -/
def pu (x : Int32) (u : Bool) (E : VV) : List (Nat → Int32) → List (Nat → Int32) × VV
  | [] => ([], E)
  | r :: l => if u = false ∧ r 3 = x then pu x u (lsE E r) l else (r :: (pu x u E l).1, (pu x u E l).2)
/-- from the last one on -/
def puR (x : Int32) (E : VV) : List (Nat → Int32) → List (Nat → Int32) × VV
  | [] => ([], E)
  | r :: l => if r 3 = x then ((puR x E l).1, lsE (puR x E l).2 r) else (r :: (puR x E l).1, (puR x E l).2)
theorem pu_c (x : Int32) (u : Bool) (E : VV) (r : Nat → Int32) (l : List (Nat → Int32)) : pu x u E (r :: l) = if u = false ∧ r 3 = x then pu x u (lsE E r) l else (r :: (pu x u E l).1, (pu x u E l).2) := rfl
theorem puR_c (x : Int32) (E : VV) (r : Nat → Int32) (l : List (Nat → Int32)) : puR x E (r :: l) = if r 3 = x then ((puR x E l).1, lsE (puR x E l).2 r) else (r :: (puR x E l).1, (puR x E l).2) := rfl
theorem lsE_cm {E : VV} {r r' : Nat → Int32} : lsE (lsE E r) r' = lsE (lsE E r') r := by
  have c : ∀ {E : VV} {r : Nat → Int32} (x : Int32), cR (lsE E r) x = cR E x := fun {E r} x => by
    unfold cR eK
    rw [show lsE E r 0 0 5 = E 0 0 5 from k89_ls 0 0 5 (by decide) (by decide)]
  have d : ∀ (E : VV) (r : Nat → Int32), lsE E r = if cR E (r 0) = true then uV (uV E 8 0 2 (E 8 0 2 + 1)) 9 (r 0).toInt.toNat 6 (E 9 (r 0).toInt.toNat 6 + 1) else uV E 8 0 2 (E 8 0 2 + 1) := fun _ _ => rfl
  rw [d (lsE E r) r', d (lsE E r') r, c, c, d E r, d E r']
  by_cases h1 : cR E (r 0) = true
  · by_cases h2 : cR E (r' 0) = true
    · rw [if_pos h1, if_pos h2, if_pos h1, if_pos h2]
      funext a b d
      simp only [uV_at]
      grind
    · rw [if_pos h1, if_neg h2, if_pos h1, if_neg h2]
      funext a b d
      simp only [uV_at]
      grind
  · by_cases h2 : cR E (r' 0) = true
    · rw [if_neg h1, if_pos h2, if_neg h1, if_pos h2]
      funext a b d
      simp only [uV_at]
      grind
    · rw [if_neg h1, if_neg h2, if_neg h1, if_neg h2]
theorem puR_ls {x : Int32} {r : Nat → Int32} : ∀ {l : List (Nat → Int32)} {E : VV}, puR x (lsE E r) l = ((puR x E l).1, lsE (puR x E l).2 r) := by
  intro l
  induction l with
  | nil => exact rfl
  | cons r' l ih =>
    intro E
    rw [puR_c, puR_c, ih]
    split
    · rw [lsE_cm]
    · rfl
theorem pu_R {x : Int32} : ∀ {l : List (Nat → Int32)} {E : VV}, pu x false E l = puR x E l := by
  intro l
  induction l with
  | nil => exact rfl
  | cons r l ih =>
    intro E
    rw [pu_c, puR_c, ih, ih]
    by_cases e : r 3 = x
    · rw [if_pos ⟨rfl, e⟩, if_pos e, puR_ls]
    · rw [if_neg (fun z => e z.2), if_neg e]
theorem pu_t {x : Int32} : ∀ {l : List (Nat → Int32)} {E : VV}, pu x true E l = (l, E) := by
  intro l
  induction l with
  | nil => exact rfl
  | cons r l ih =>
    intro E
    rw [pu_c, if_neg (fun z => Bool.noConfusion z.1), ih]
theorem puR_ap {x : Int32} {r : Nat → Int32} : ∀ {l : List (Nat → Int32)} {E : VV}, puR x E (l ++ [r]) = if r 3 = x then puR x (lsE E r) l else ((puR x E l).1 ++ [r], (puR x E l).2) := by
  intro l
  induction l with
  | nil =>
    intro E
    show puR x E [r] = _
    rw [puR_c]
    rfl
  | cons r' l ih =>
    intro E
    rw [List.cons_append, puR_c, ih]
    by_cases e : r 3 = x
    · rw [if_pos e, if_pos e, puR_c]
    · rw [if_neg e, if_neg e, puR_c]
      split
      · rfl
      · rfl
theorem pu_kQ {x : Int32} {u : Bool} : ∀ {l : List (Nat → Int32)} {E : VV}, kQ E (pu x u E l).2 ∧ k38 E (pu x u E l).2 ∧ (∀ i, (pu x u E l).2 9 i 0 = E 9 i 0) ∧ (pu x u E l).1.length ≤ l.length ∧ ∀ r, r ∈ (pu x u E l).1 → r ∈ l := by
  intro l
  induction l with
  | nil => exact fun {E} => ⟨kQ_r E, fun _ => ⟨rfl, rfl⟩, fun _ => rfl, Nat.le_refl _, fun r h => h⟩
  | cons r l ih =>
    intro E
    rw [pu_c]
    split
    · obtain ⟨a1, a2, a3, a4, a5⟩ := ih (E := lsE E r)
      refine ⟨kQ_t kQ_ls a1, fun i => ⟨(a2 i).1.trans (k38_ls i).1, (a2 i).2.trans (k38_ls i).2⟩, fun i => (a3 i).trans (ls_o (by decide)), by rw [List.length_cons]; omega, fun q hq => List.mem_cons_of_mem _ (a5 q hq)⟩
    · obtain ⟨a1, a2, a3, a4, a5⟩ := ih (E := E)
      refine ⟨a1, a2, a3, by rw [List.length_cons, List.length_cons]; omega, fun q hq => ?_⟩
      rcases List.mem_cons.mp hq with e | e
      · rw [e]
        exact List.mem_cons_self
      · exact List.mem_cons_of_mem _ (a5 q e)
/-- what is so then -/
def suE (E : VV) (l : List (Nat → Int32)) (j : Nat) (u : Bool) : VV := uV (pu (nn j) u (uV E 3 j 4 (bi u)) l).2 0 0 6 (nn (pu (nn j) u (uV E 3 j 4 (bi u)) l).1.length)
def suL (E : VV) (l : List (Nat → Int32)) (j : Nat) (u : Bool) : List (Nat → Int32) := (pu (nn j) u (uV E 3 j 4 (bi u)) l).1
theorem up_iG {E : VV} {l : List (Nat → Int32)} {j : Nat} {u : Bool} (hI : iG E l) (hj : j < eL E) : iG (uV E 3 j 4 (bi u)) l := by
  have o : ∀ kd a k, ¬ (kd = 3 ∧ a = j ∧ k = 4) → uV E 3 j 4 (bi u) kd a k = E kd a k := fun kd a k h => if_neg h
  have nL : eL (uV E 3 j 4 (bi u)) = eL E := by unfold eL; rw [o 1 _ _ (by omega)]
  have nN : eN (uV E 3 j 4 (bi u)) = eN E := by unfold eN; rw [o 1 _ _ (by omega)]
  have nK : eK (uV E 3 j 4 (bi u)) = eK E := by unfold eK; rw [o 0 _ _ (by omega)]
  have nlk : ∀ a c, lkE (uV E 3 j 4 (bi u)) a c = lkE E a c := fun a c => by
    unfold lkE
    rw [nL]
    exact fi_c (fun j _ _ => by rw [o 3 _ _ (by omega), o 3 _ _ (by omega)])
  refine iG_net hI (fun kd a k h => o _ _ _ (by omega)) (o _ _ _ (by omega)) (o _ _ _ (by omega)) (by omega) (fun u v _ => nlk u v) (vG_sm ⟨o _ _ _ (by omega), o _ _ _ (by omega), o _ _ _ (by omega), o _ _ _ (by omega), fun _ => o _ _ _ (by omega), fun _ => o _ _ _ (by omega), fun _ => o _ _ _ (by omega)⟩ hI.1.1) (fun j hj => ?_) (fun a c ha hc => ?_) (fun f y hf hy e => ?_) (fun i hi => ?_) (fun j hj => ?_) ?_
  · rw [nL] at hj
    rw [o 3 _ _ (by omega)]
    exact hI.1.2.2.1 j hj
  · rw [o 2 _ _ (by omega), nlk]
    exact hI.2.1 a c ha hc
  · rw [o 5 _ _ (by omega)] at e
    unfold eZ
    rw [o 4 _ _ (by omega)]
    exact hI.2.2.1 f y hf hy e
  · rw [nL] at hi
    by_cases e : i = j
    · subst e
      have : uV E 3 i 4 (bi u) 3 i 4 = bi u := uV_s
      rw [this]
      cases u
      · exact Or.inl rfl
      · exact Or.inr rfl
    · rw [o 3 _ _ (by omega)]
      exact hI.2.2.2.1 i hi
  · rw [nL] at hj
    rw [nN, nlk, o 3 _ _ (by omega), o 3 _ _ (by omega)]
    exact hI.2.2.2.2.1 j hj
  · obtain ⟨s1, s2, s3, s4, s5⟩ := hI.2.2.2.2.2
    refine ⟨by rw [o 0 _ _ (by omega)]; exact s1, by rw [o 0 _ _ (by omega)]; exact s2, fun j hj => by rw [nL] at hj; rw [o 3 _ _ (by omega)]; exact s3 j hj, fun i hi => by rw [nK] at hi; rw [o 9 _ _ (by omega)]; exact s4 i hi, fun f f1 f2 => ?_⟩
    rw [nN] at f1
    unfold eZ
    rw [o 4 _ _ (by omega)]
    exact s5 f f1 f2
theorem su_iG {E : VV} {l : List (Nat → Int32)} {j : Nat} {u : Bool} (hI : iG E l) (hj : j < eL E) (h60 : l.length ≤ 60) : iG (suE E l j u) (suL E l j u) := by
  have hI1 := up_iG (u := u) hI hj
  obtain ⟨a1, a2, a3, a4, a5⟩ := pu_kQ (x := nn j) (u := u) (l := l) (E := uV E 3 j 4 (bi u))
  exact iG_kQ hI1 a1 (fun i hi => iQ_kQ a1 (a2 i).1 (a2 i).2 (hI1.1.2.2.2.1 i hi)) (fun i _ => a3 i) (fun r hr => hI1.1.2.2.2.2.1 r (a5 r hr)) rfl (by omega)
section
variable {H : fm_H} {s : Nat} {m : fm_M} {V : VV}
theorem c_putUp_l (hS : kS H s) (x : Int32) (u : Bool) : ∀ (k q i kept : Nat) (m : fm_M) (V : VV), pS m s → cv m s = V → vG V → V 0 0 6 = ii (i + k : Nat) → i + k ≤ 60 → kept ≤ i → k < q → fE (f_X7_putUp_29 H s x (bi u) q (ii kept) (ii i) m) (fun _ m' => ∃ V', mS s m m' V' ∧ er V' = uV (pu x u (er V) (sg V i k)).2 0 0 6 (ii (kept + (pu x u (er V) (sg V i k)).1.length : Nat)) ∧ sg V' 0 (kept + (pu x u (er V) (sg V i k)).1.length) = sg V 0 kept ++ (pu x u (er V) (sg V i k)).1) := by
  intro k
  induction k with
  | zero =>
    intro q i kept m V hp hV hG hP h60 hk hq
    obtain ⟨q, rfl⟩ : ∃ q', q = q' + 1 := ⟨q - 1, by omega⟩
    unfold f_X7_putUp_29
    rw [rd0 hV, hP]
    refine fE_p (by rw [ii_le (by omega) (by omega) (by omega) (by omega)]; omega) ?_
    refine fE_put (mI_rf hp hV) 0 0 6 rfl rfl (fun m1 h1 => fE_ret ⟨_, mI_S h1, ?_, ?_⟩)
    · rw [er_uV (by decide)]
      rfl
    · show sg _ 0 (kept + 0) = sg V 0 kept ++ []
      rw [List.append_nil]
      exact sg_c (fun q _ _ => rfl)
  | succ k ih =>
    intro q i kept m V hp hV hG hP h60 hk hq
    obtain ⟨q, rfl⟩ : ∃ q', q = q' + 1 := ⟨q - 1, by omega⟩
    unfold f_X7_putUp_29
    have hi : i < 60 := by omega
    rw [rd0 hV, hP, kS_4 hS, kS_z27 hS, ii_tnn (by omega), ii_inc, ii_inc, rd18 hV hi 3]
    refine fE_n (by rw [ii_le (by omega) (by omega) (by omega) (by omega)]; omega) ?_
    -- what comes of the rest
    have rest : ¬ (u = false ∧ V 18 i 3 = x) → fE (fm_bn (f_X7_keepPacket H s (ii i) (ii kept) m) fun _ m3 => f_X7_putUp_29 H s x (bi u) q (ii (kept + 1)) (ii (i + 1)) m3) (fun _ m' => ∃ V', mS s m m' V' ∧ er V' = uV (pu x u (er V) (sg V i (k + 1))).2 0 0 6 (ii (kept + (pu x u (er V) (sg V i (k + 1))).1.length : Nat)) ∧ sg V' 0 (kept + (pu x u (er V) (sg V i (k + 1))).1.length) = sg V 0 kept ++ (pu x u (er V) (sg V i (k + 1))).1) := by
      intro hno
      refine fE_be (c_keepPacket hS hp hV hi (show kept < 60 by omega)) (fun _ m3 h3 => ?_)
      have hs3 : vSm V (swP V i kept) := vSm_sw
      have h9 := ih q (i + 1) (kept + 1) m3 (swP V i kept) h3.2.1 h3.1 (vG_sm hs3 hG) (by rw [hs3.2.2.2.1, hP, show i + (k + 1) = i + 1 + k from by omega]) (by omega) (by omega) (by omega)
      have sw : ∀ q, q ≠ i → q ≠ kept → swP V i kept 18 q = V 18 q := fun q h1 h2 => by
        funext k
        show (if 18 = 18 then (if q = i then V 18 kept k else if q = kept then V 18 i k else V 18 q k) else V 18 q k) = _
        rw [if_pos rfl, if_neg h1, if_neg h2]
      have e1 : sg (swP V i kept) (i + 1) k = sg V (i + 1) k := sg_c (fun q a1 a2 => sw q (by omega) (by omega))
      have e2 : sg (swP V i kept) 0 (kept + 1) = sg V 0 kept ++ [V 18 i] := by
        rw [sg_a]
        have g1 : sg (swP V i kept) 0 kept = sg V 0 kept := sg_c (fun q a1 a2 => sw q (by omega) (by omega))
        rw [g1, sg_1, Nat.zero_add]
        have g2 : swP V i kept 18 kept = V 18 i := by
          funext k
          show (if 18 = 18 then (if kept = i then V 18 kept k else if kept = kept then V 18 i k else V 18 kept k) else V 18 kept k) = _
          rw [if_pos rfl]
          by_cases z : kept = i
          · rw [if_pos z, z]
          · rw [if_neg z, if_pos rfl]
        rw [g2]
      rw [e1, e2, er_sw] at h9
      refine fE_w h9 (fun _ m' ⟨V', a1, a2, a3⟩ => ⟨V', mS_tr h3 a1, ?_, ?_⟩)
      · rw [sg_S, pu_c, if_neg hno, a2]
        dsimp only
        rw [List.length_cons, show kept + 1 + (pu x u (er V) (sg V (i + 1) k)).1.length = kept + ((pu x u (er V) (sg V (i + 1) k)).1.length + 1) from by omega]
      · rw [sg_S, pu_c, if_neg hno]
        dsimp only
        rw [List.length_cons, show kept + ((pu x u (er V) (sg V (i + 1) k)).1.length + 1) = kept + 1 + (pu x u (er V) (sg V (i + 1) k)).1.length from by omega, a3, List.append_assoc]
        rfl
    cases u with
    | true =>
      refine fE_n (by decide) ?_
      exact rest (fun z => Bool.noConfusion z.1)
    | false =>
      refine fE_p (by decide) (fE_p (by rw [ii_inb (by omega) (by omega)]; omega) (fE_p (pS_pb hS hp hi) ?_))
      by_cases e : V 18 i 3 = x
      · refine fE_p e (fE_p (by rw [ii_inb (by omega) (by omega)]; omega) (fE_p (pS_pb hS hp hi) ?_))
        refine fE_be (c_lose hS hp hV hG hi) (fun _ m2 h2 => ?_)
        have hs : vSm V (lsE V (V 18 i)) := vSm_k k89_ls
        have h18 : ∀ q, lsE V (V 18 i) 18 q = V 18 q := fun q => funext fun k => k89_ls 18 q k (by decide) (by decide)
        have h9 := ih q (i + 1) kept m2 _ h2.2.1 h2.1 (vG_sm hs hG) (by rw [hs.2.2.2.1, hP, show i + (k + 1) = i + 1 + k from by omega]) (by omega) (by omega) (by omega)
        rw [sg_c (fun q _ _ => h18 q), sg_c (V' := lsE V (V 18 i)) (V := V) (n := kept) (fun q _ _ => h18 q), er_lsE] at h9
        refine fE_w h9 (fun _ m' ⟨V', a1, a2, a3⟩ => ⟨V', mS_tr (mI_S h2) a1, ?_, ?_⟩)
        · rw [sg_S, pu_c, if_pos ⟨rfl, e⟩]
          exact a2
        · rw [sg_S, pu_c, if_pos ⟨rfl, e⟩]
          exact a3
      · refine fE_n e ?_
        exact rest (fun z => e z.2)
theorem c_putUpS (hS : kS H s) {E : VV} {l : List (Nat → Int32)} (ha : aS m s E l) (hI : iG E l) {j : Nat} {u : Bool} (hj : j < eL E) : fE (f_X7_putUp H s (nn j) (bi u) m) (fun _ m' => aS m' s (suE E l j u) (suL E l j u) ∧ fr s (s + 160) m m') := by
  obtain ⟨a1, a2, a3, a4, a5, a6⟩ := ha
  have hGV : vG (cv m s) := by
    rw [← a2] at a6
    exact a6
  have hL16 := hI.1.1.2.2.2.2.1.2.1
  have hj' : j < eL (cv m s) := by rw [← a2] at hj; exact hj
  unfold f_X7_putUp
  rw [kS_0 hS, show (nn j : Int32) = ii (j : Int) from rfl, c_isLink rfl hGV (by omega) (by omega), fb_n, decide_eq_true (by omega), if_neg (by decide), kS_n2 hS, kS_z2 hS]
  refine fE_p ((nn_in (by omega)).mpr (by omega)) ?_
  rw [show (ii (j : Int) : Int32) = nn j from rfl, nn_tn (by omega), pS_lk a1 (by omega)]
  refine fE_p (kS_lk hS (by omega)) (fE_p bi_01 ?_)
  refine fE_put (mI_rf a1 rfl) 3 j 4 (v3 (by omega)) rfl (fun m1 h1 => ?_)
  have hG1 : vG (uV (cv m s) 3 j 4 (bi u)) := vG_sm ⟨rfl, rfl, rfl, rfl, fun _ => rfl, fun _ => rfl, fun _ => rfl⟩ hGV
  have e6 : cv m s 0 0 6 = ii (l.length : Nat) := by
    rw [← a4, ← a2]
    rfl
  have h9 := c_putUp_l hS (nn j) u l.length fm_N 0 0 m1 _ h1.2.1 h1.1 hG1 (by rw [uV_k (by omega), Nat.zero_add]; exact e6) (by omega) (by omega) (by unfold fm_N; omega)
  have es : sg (uV (cv m s) 3 j 4 (bi u)) 0 l.length = l := (sg_c (fun q _ _ => funext fun k => uV_k (by omega))).trans a3
  rw [es, er_uV (by decide), a2] at h9
  refine fE_w h9 (fun _ m' ⟨V', b1, b2, b3⟩ => ⟨⟨b1.2.1, ?_, ?_, ?_, ?_, (su_iG hI hj a5).1.1⟩, fr_tr h1.2.2.1 b1.2.2⟩)
  · rw [b1.1, b2]
    unfold suE
    rw [Nat.zero_add]
    rfl
  · rw [b1.1]
    rw [Nat.zero_add] at b3
    exact b3
  · exact uV_s
  · have := (pu_kQ (x := nn j) (u := u) (l := l) (E := uV E 3 j 4 (bi u))).2.2.2.1
    unfold suL
    omega
end
section
variable {H : fm_H} {b : Nat} {m m00 : fm_M}
theorem up_rB {E : VV} {ρ : Nat → Int32} {j : Nat} {x : Int32} (hB : rB ρ E) (hj : j < eL E) (hL : eL E ≤ 16) : rB (pm_up ρ (24 + 5 * j + 4) x) (uV E 3 j 4 x) := by
  have o : ∀ kd a k, ¬ (kd = 3 ∧ a = j ∧ k = 4) → uV E 3 j 4 x kd a k = E kd a k := fun kd a k h => if_neg h
  have r : ∀ q, q ≠ 24 + 5 * j + 4 → pm_up ρ (24 + 5 * j + 4) x q = ρ q := fun q h => if_neg h
  refine rB_net hB (fun kd a k h => o _ _ _ (by omega)) (o _ _ _ (by omega)) ?_ (fun q _ h => r q (by omega))
  obtain ⟨g0, g1, g2, g3, g5, g7, g8, g9⟩ := hB.1
  have nL : eL (uV E 3 j 4 x) = eL E := by unfold eL; rw [o 1 _ _ (by omega)]
  refine ⟨(r 0 (by omega)).trans (g0.trans (o _ _ _ (by omega)).symm), (r 1 (by omega)).trans (g1.trans (o _ _ _ (by omega)).symm), (r 2 (by omega)).trans (g2.trans (o _ _ _ (by omega)).symm), (r 3 (by omega)).trans (g3.trans (o _ _ _ (by omega)).symm), (r 5 (by omega)).trans (g5.trans (o _ _ _ (by omega)).symm), fun k hk => (r _ (by omega)).trans ((g7 k hk).trans (o _ _ _ (by omega)).symm), fun i hi => (r _ (by omega)).trans ((g8 i hi).trans (o _ _ _ (by omega)).symm), fun i hi k hk => ?_⟩
  rw [nL] at hi
  by_cases e : i = j ∧ k = 4
  · obtain ⟨rfl, rfl⟩ := e
    rw [up_at, if_pos rfl]
    exact uV_s.symm
  · exact (r _ (by omega)).trans ((g9 i hi k hk).trans (o _ _ _ (by omega)).symm)
end
