/-! a link fails or is repaired -/
/-- the packets on link x are lost if it fails (u: it is up then) -/
def pu (x : Int32) (u : Bool) (E : VV) : List (Nat → Int32) → List (Nat → Int32) × VV
  | [] => ([], E)
  | r :: l => if u = false ∧ r 3 = x then pu x u (lsE E r) l else (r :: (pu x u E l).1, (pu x u E l).2)
/-- from the last one on -/
def puR (x : Int32) (E : VV) : List (Nat → Int32) → List (Nat → Int32) × VV
  | [] => ([], E)
  | r :: l => if r 3 = x then ((puR x E l).1, lsE (puR x E l).2 r) else (r :: (puR x E l).1, (puR x E l).2)
theorem pu_c (x : Int32) (u : Bool) (E : VV) (r : Nat → Int32) (l : List (Nat → Int32)) : pu x u E (r :: l) = if u = false ∧ r 3 = x then pu x u (lsE E r) l else (r :: (pu x u E l).1, (pu x u E l).2) := rfl
theorem puR_c (x : Int32) (E : VV) (r : Nat → Int32) (l : List (Nat → Int32)) : puR x E (r :: l) = if r 3 = x then ((puR x E l).1, lsE (puR x E l).2 r) else (r :: (puR x E l).1, (puR x E l).2) := rfl
theorem lsE_cm {E : VV} {r r' : Nat → Int32} : lsE (lsE E r) r' = lsE (lsE E r') r := by
  have c : ∀ {E : VV} {r : Nat → Int32} (x : Int32), cR (lsE E r) x = cR E x := fun {E r} x => by
    unfold cR eK
    rw [show lsE E r 0 0 5 = E 0 0 5 from k89_ls 0 0 5 (by decide) (by decide)]
  have d : ∀ (E : VV) (r : Nat → Int32), lsE E r = if cR E (r 0) = true then uV (uV E 8 0 2 (E 8 0 2 + 1)) 9 (r 0).toInt.toNat 6 (E 9 (r 0).toInt.toNat 6 + 1) else uV E 8 0 2 (E 8 0 2 + 1) := fun _ _ => rfl
  rw [d (lsE E r) r', d (lsE E r') r, c, c, d E r, d E r']
  by_cases h1 : cR E (r 0) = true
  · by_cases h2 : cR E (r' 0) = true
    · rw [if_pos h1, if_pos h2, if_pos h1, if_pos h2]
      funext a b d
      simp only [uV_at]
      grind
    · rw [if_pos h1, if_neg h2, if_pos h1, if_neg h2]
      funext a b d
      simp only [uV_at]
      grind
  · by_cases h2 : cR E (r' 0) = true
    · rw [if_neg h1, if_pos h2, if_neg h1, if_pos h2]
      funext a b d
      simp only [uV_at]
      grind
    · rw [if_neg h1, if_neg h2, if_neg h1, if_neg h2]
theorem puR_ls {x : Int32} {r : Nat → Int32} : ∀ {l : List (Nat → Int32)} {E : VV}, puR x (lsE E r) l = ((puR x E l).1, lsE (puR x E l).2 r) := by
  intro l
  induction l with
  | nil => exact rfl
  | cons r' l ih =>
    intro E
    rw [puR_c, puR_c, ih]
    split
    · rw [lsE_cm]
    · rfl
theorem pu_R {x : Int32} : ∀ {l : List (Nat → Int32)} {E : VV}, pu x false E l = puR x E l := by
  intro l
  induction l with
  | nil => exact rfl
  | cons r l ih =>
    intro E
    rw [pu_c, puR_c, ih, ih]
    by_cases e : r 3 = x
    · rw [if_pos ⟨rfl, e⟩, if_pos e, puR_ls]
    · rw [if_neg (fun z => e z.2), if_neg e]
theorem pu_t {x : Int32} : ∀ {l : List (Nat → Int32)} {E : VV}, pu x true E l = (l, E) := by
  intro l
  induction l with
  | nil => exact rfl
  | cons r l ih =>
    intro E
    rw [pu_c, if_neg (fun z => Bool.noConfusion z.1), ih]
theorem puR_ap {x : Int32} {r : Nat → Int32} : ∀ {l : List (Nat → Int32)} {E : VV}, puR x E (l ++ [r]) = if r 3 = x then puR x (lsE E r) l else ((puR x E l).1 ++ [r], (puR x E l).2) := by
  intro l
  induction l with
  | nil =>
    intro E
    show puR x E [r] = _
    rw [puR_c]
    rfl
  | cons r' l ih =>
    intro E
    rw [List.cons_append, puR_c, ih]
    by_cases e : r 3 = x
    · rw [if_pos e, if_pos e, puR_c]
    · rw [if_neg e, if_neg e, puR_c]
      split
      · rfl
      · rfl
theorem pu_kQ {x : Int32} {u : Bool} : ∀ {l : List (Nat → Int32)} {E : VV}, kQ E (pu x u E l).2 ∧ k38 E (pu x u E l).2 ∧ (∀ i, (pu x u E l).2 9 i 0 = E 9 i 0) ∧ (pu x u E l).1.length ≤ l.length ∧ ∀ r, r ∈ (pu x u E l).1 → r ∈ l := by
  intro l
  induction l with
  | nil => exact fun {E} => ⟨kQ_r E, fun _ => ⟨rfl, rfl⟩, fun _ => rfl, Nat.le_refl _, fun r h => h⟩
  | cons r l ih =>
    intro E
    rw [pu_c]
    split
    · obtain ⟨a1, a2, a3, a4, a5⟩ := ih (E := lsE E r)
      refine ⟨kQ_t kQ_ls a1, fun i => ⟨(a2 i).1.trans (k38_ls i).1, (a2 i).2.trans (k38_ls i).2⟩, fun i => (a3 i).trans (ls_o (by decide)), by rw [List.length_cons]; omega, fun q hq => List.mem_cons_of_mem _ (a5 q hq)⟩
    · obtain ⟨a1, a2, a3, a4, a5⟩ := ih (E := E)
      refine ⟨a1, a2, a3, by rw [List.length_cons, List.length_cons]; omega, fun q hq => ?_⟩
      rcases List.mem_cons.mp hq with e | e
      · rw [e]
        exact List.mem_cons_self
      · exact List.mem_cons_of_mem _ (a5 q e)
/-- what is so then -/
def suE (E : VV) (l : List (Nat → Int32)) (j : Nat) (u : Bool) : VV := uV (pu (nn j) u (uV E 3 j 4 (bi u)) l).2 0 0 6 (nn (pu (nn j) u (uV E 3 j 4 (bi u)) l).1.length)
def suL (E : VV) (l : List (Nat → Int32)) (j : Nat) (u : Bool) : List (Nat → Int32) := (pu (nn j) u (uV E 3 j 4 (bi u)) l).1
theorem up_iG {E : VV} {l : List (Nat → Int32)} {j : Nat} {u : Bool} (hI : iG E l) (hj : j < eL E) : iG (uV E 3 j 4 (bi u)) l := by
  have o : ∀ kd a k, ¬ (kd = 3 ∧ a = j ∧ k = 4) → uV E 3 j 4 (bi u) kd a k = E kd a k := fun kd a k h => if_neg h
  have nL : eL (uV E 3 j 4 (bi u)) = eL E := by unfold eL; rw [o 1 _ _ (by omega)]
  have nN : eN (uV E 3 j 4 (bi u)) = eN E := by unfold eN; rw [o 1 _ _ (by omega)]
  have nK : eK (uV E 3 j 4 (bi u)) = eK E := by unfold eK; rw [o 0 _ _ (by omega)]
  have nlk : ∀ a c, lkE (uV E 3 j 4 (bi u)) a c = lkE E a c := fun a c => by
    unfold lkE
    rw [nL]
    exact fi_c (fun j _ _ => by rw [o 3 _ _ (by omega), o 3 _ _ (by omega)])
  refine iG_net hI (fun kd a k h => o _ _ _ (by omega)) (o _ _ _ (by omega)) (o _ _ _ (by omega)) (by omega) (fun u v _ => nlk u v) (vG_sm ⟨o _ _ _ (by omega), o _ _ _ (by omega), o _ _ _ (by omega), o _ _ _ (by omega), fun _ => o _ _ _ (by omega), fun _ => o _ _ _ (by omega), fun _ => o _ _ _ (by omega)⟩ hI.1.1) (fun j hj => ?_) (fun a c ha hc => ?_) (fun f y hf hy e => ?_) (fun i hi => ?_) (fun j hj => ?_) ?_
  · rw [nL] at hj
    rw [o 3 _ _ (by omega)]
    exact hI.1.2.2.1 j hj
  · rw [o 2 _ _ (by omega), nlk]
    exact hI.2.1 a c ha hc
  · rw [o 5 _ _ (by omega)] at e
    unfold eZ
    rw [o 4 _ _ (by omega)]
    exact hI.2.2.1 f y hf hy e
  · rw [nL] at hi
    by_cases e : i = j
    · subst e
      have : uV E 3 i 4 (bi u) 3 i 4 = bi u := uV_s
      rw [this]
      cases u
      · exact Or.inl rfl
      · exact Or.inr rfl
    · rw [o 3 _ _ (by omega)]
      exact hI.2.2.2.1 i hi
  · rw [nL] at hj
    rw [nN, nlk, o 3 _ _ (by omega), o 3 _ _ (by omega)]
    exact hI.2.2.2.2.1 j hj
  · obtain ⟨s1, s2, s3, s4, s5⟩ := hI.2.2.2.2.2
    refine ⟨by rw [o 0 _ _ (by omega)]; exact s1, by rw [o 0 _ _ (by omega)]; exact s2, fun j hj => by rw [nL] at hj; rw [o 3 _ _ (by omega)]; exact s3 j hj, fun i hi => by rw [nK] at hi; rw [o 9 _ _ (by omega)]; exact s4 i hi, fun f f1 f2 => ?_⟩
    rw [nN] at f1
    unfold eZ
    rw [o 4 _ _ (by omega)]
    exact s5 f f1 f2
theorem su_iG {E : VV} {l : List (Nat → Int32)} {j : Nat} {u : Bool} (hI : iG E l) (hj : j < eL E) (h60 : l.length ≤ 60) : iG (suE E l j u) (suL E l j u) := by
  have hI1 := up_iG (u := u) hI hj
  obtain ⟨a1, a2, a3, a4, a5⟩ := pu_kQ (x := nn j) (u := u) (l := l) (E := uV E 3 j 4 (bi u))
  exact iG_kQ hI1 a1 (fun i hi => iQ_kQ a1 (a2 i).1 (a2 i).2 (hI1.1.2.2.2.1 i hi)) (fun i _ => a3 i) (fun r hr => hI1.1.2.2.2.2.1 r (a5 r hr)) rfl (by omega)
section
variable {H : fm_H} {s : Nat} {m : fm_M} {V : VV}
theorem c_putUp_l (hS : kS H s) (x : Int32) (u : Bool) : ∀ (k q i kept : Nat) (m : fm_M) (V : VV), pS m s → cv m s = V → vG V → V 0 0 6 = ii (i + k : Nat) → i + k ≤ 60 → kept ≤ i → k < q → fE (f_X7_putUp_29 H s x (bi u) q (ii kept) (ii i) m) (fun _ m' => ∃ V', mS s m m' V' ∧ er V' = uV (pu x u (er V) (sg V i k)).2 0 0 6 (ii (kept + (pu x u (er V) (sg V i k)).1.length : Nat)) ∧ sg V' 0 (kept + (pu x u (er V) (sg V i k)).1.length) = sg V 0 kept ++ (pu x u (er V) (sg V i k)).1) := by
  intro k
  induction k with
  | zero =>
    intro q i kept m V hp hV hG hP h60 hk hq
    obtain ⟨q, rfl⟩ : ∃ q', q = q' + 1 := ⟨q - 1, by omega⟩
    unfold f_X7_putUp_29
    rw [rd0 hV, hP]
    refine fE_p (by rw [ii_le (by omega) (by omega) (by omega) (by omega)]; omega) ?_
    refine fE_put (mI_rf hp hV) 0 0 6 rfl rfl (fun m1 h1 => fE_ret ⟨_, mI_S h1, ?_, ?_⟩)
    · rw [er_uV (by decide)]
      rfl
    · show sg _ 0 (kept + 0) = sg V 0 kept ++ []
      rw [List.append_nil]
      exact sg_c (fun q _ _ => rfl)
  | succ k ih =>
    intro q i kept m V hp hV hG hP h60 hk hq
    obtain ⟨q, rfl⟩ : ∃ q', q = q' + 1 := ⟨q - 1, by omega⟩
    unfold f_X7_putUp_29
    have hi : i < 60 := by omega
    rw [rd0 hV, hP, kS_4 hS, kS_z27 hS, ii_tnn (by omega), ii_inc, ii_inc, rd18 hV hi 3]
    refine fE_n (by rw [ii_le (by omega) (by omega) (by omega) (by omega)]; omega) ?_
    -- what comes of the rest
    have rest : ¬ (u = false ∧ V 18 i 3 = x) → fE (fm_bn (f_X7_keepPacket H s (ii i) (ii kept) m) fun _ m3 => f_X7_putUp_29 H s x (bi u) q (ii (kept + 1)) (ii (i + 1)) m3) (fun _ m' => ∃ V', mS s m m' V' ∧ er V' = uV (pu x u (er V) (sg V i (k + 1))).2 0 0 6 (ii (kept + (pu x u (er V) (sg V i (k + 1))).1.length : Nat)) ∧ sg V' 0 (kept + (pu x u (er V) (sg V i (k + 1))).1.length) = sg V 0 kept ++ (pu x u (er V) (sg V i (k + 1))).1) := by
      intro hno
      refine fE_be (c_keepPacket hS hp hV hi (show kept < 60 by omega)) (fun _ m3 h3 => ?_)
      have hs3 : vSm V (swP V i kept) := vSm_sw
      have h9 := ih q (i + 1) (kept + 1) m3 (swP V i kept) h3.2.1 h3.1 (vG_sm hs3 hG) (by rw [hs3.2.2.2.1, hP, show i + (k + 1) = i + 1 + k from by omega]) (by omega) (by omega) (by omega)
      have sw : ∀ q, q ≠ i → q ≠ kept → swP V i kept 18 q = V 18 q := fun q h1 h2 => by
        funext k
        show (if 18 = 18 then (if q = i then V 18 kept k else if q = kept then V 18 i k else V 18 q k) else V 18 q k) = _
        rw [if_pos rfl, if_neg h1, if_neg h2]
      have e1 : sg (swP V i kept) (i + 1) k = sg V (i + 1) k := sg_c (fun q a1 a2 => sw q (by omega) (by omega))
      have e2 : sg (swP V i kept) 0 (kept + 1) = sg V 0 kept ++ [V 18 i] := by
        rw [sg_a]
        have g1 : sg (swP V i kept) 0 kept = sg V 0 kept := sg_c (fun q a1 a2 => sw q (by omega) (by omega))
        rw [g1, sg_1, Nat.zero_add]
        have g2 : swP V i kept 18 kept = V 18 i := by
          funext k
          show (if 18 = 18 then (if kept = i then V 18 kept k else if kept = kept then V 18 i k else V 18 kept k) else V 18 kept k) = _
          rw [if_pos rfl]
          by_cases z : kept = i
          · rw [if_pos z, z]
          · rw [if_neg z, if_pos rfl]
        rw [g2]
      rw [e1, e2, er_sw] at h9
      refine fE_w h9 (fun _ m' ⟨V', a1, a2, a3⟩ => ⟨V', mS_tr h3 a1, ?_, ?_⟩)
      · rw [sg_S, pu_c, if_neg hno, a2]
        dsimp only
        rw [List.length_cons, show kept + 1 + (pu x u (er V) (sg V (i + 1) k)).1.length = kept + ((pu x u (er V) (sg V (i + 1) k)).1.length + 1) from by omega]
      · rw [sg_S, pu_c, if_neg hno]
        dsimp only
        rw [List.length_cons, show kept + ((pu x u (er V) (sg V (i + 1) k)).1.length + 1) = kept + 1 + (pu x u (er V) (sg V (i + 1) k)).1.length from by omega, a3, List.append_assoc]
        rfl
    cases u with
    | true =>
      refine fE_n (by decide) ?_
      exact rest (fun z => Bool.noConfusion z.1)
    | false =>
      refine fE_p (by decide) (fE_p (by rw [ii_inb (by omega) (by omega)]; omega) (fE_p (pS_pb hS hp hi) ?_))
      by_cases e : V 18 i 3 = x
      · refine fE_p e (fE_p (by rw [ii_inb (by omega) (by omega)]; omega) (fE_p (pS_pb hS hp hi) ?_))
        refine fE_be (c_lose hS hp hV hG hi) (fun _ m2 h2 => ?_)
        have hs : vSm V (lsE V (V 18 i)) := vSm_k k89_ls
        have h18 : ∀ q, lsE V (V 18 i) 18 q = V 18 q := fun q => funext fun k => k89_ls 18 q k (by decide) (by decide)
        have h9 := ih q (i + 1) kept m2 _ h2.2.1 h2.1 (vG_sm hs hG) (by rw [hs.2.2.2.1, hP, show i + (k + 1) = i + 1 + k from by omega]) (by omega) (by omega) (by omega)
        rw [sg_c (fun q _ _ => h18 q), sg_c (V' := lsE V (V 18 i)) (V := V) (n := kept) (fun q _ _ => h18 q), er_lsE] at h9
        refine fE_w h9 (fun _ m' ⟨V', a1, a2, a3⟩ => ⟨V', mS_tr (mI_S h2) a1, ?_, ?_⟩)
        · rw [sg_S, pu_c, if_pos ⟨rfl, e⟩]
          exact a2
        · rw [sg_S, pu_c, if_pos ⟨rfl, e⟩]
          exact a3
      · refine fE_n e ?_
        exact rest (fun z => e z.2)
theorem c_putUpS (hS : kS H s) {E : VV} {l : List (Nat → Int32)} (ha : aS m s E l) (hI : iG E l) {j : Nat} {u : Bool} (hj : j < eL E) : fE (f_X7_putUp H s (nn j) (bi u) m) (fun _ m' => aS m' s (suE E l j u) (suL E l j u) ∧ fr s (s + 160) m m') := by
  obtain ⟨a1, a2, a3, a4, a5, a6⟩ := ha
  have hGV : vG (cv m s) := by
    rw [← a2] at a6
    exact a6
  have hL16 := hI.1.1.2.2.2.2.1.2.1
  have hj' : j < eL (cv m s) := by rw [← a2] at hj; exact hj
  unfold f_X7_putUp
  rw [kS_0 hS, show (nn j : Int32) = ii (j : Int) from rfl, c_isLink rfl hGV (by omega) (by omega), fb_n, decide_eq_true (by omega), if_neg (by decide), kS_n2 hS, kS_z2 hS]
  refine fE_p ((nn_in (by omega)).mpr (by omega)) ?_
  rw [show (ii (j : Int) : Int32) = nn j from rfl, nn_tn (by omega), pS_lk a1 (by omega)]
  refine fE_p (kS_lk hS (by omega)) (fE_p bi_01 ?_)
  refine fE_put (mI_rf a1 rfl) 3 j 4 (v3 (by omega)) rfl (fun m1 h1 => ?_)
  have hG1 : vG (uV (cv m s) 3 j 4 (bi u)) := vG_sm ⟨rfl, rfl, rfl, rfl, fun _ => rfl, fun _ => rfl, fun _ => rfl⟩ hGV
  have e6 : cv m s 0 0 6 = ii (l.length : Nat) := by
    rw [← a4, ← a2]
    rfl
  have h9 := c_putUp_l hS (nn j) u l.length fm_N 0 0 m1 _ h1.2.1 h1.1 hG1 (by rw [uV_k (by omega), Nat.zero_add]; exact e6) (by omega) (by omega) (by unfold fm_N; omega)
  have es : sg (uV (cv m s) 3 j 4 (bi u)) 0 l.length = l := (sg_c (fun q _ _ => funext fun k => uV_k (by omega))).trans a3
  rw [es, er_uV (by decide), a2] at h9
  refine fE_w h9 (fun _ m' ⟨V', b1, b2, b3⟩ => ⟨⟨b1.2.1, ?_, ?_, ?_, ?_, (su_iG hI hj a5).1.1⟩, fr_tr h1.2.2.1 b1.2.2⟩)
  · rw [b1.1, b2]
    unfold suE
    rw [Nat.zero_add]
    rfl
  · rw [b1.1]
    rw [Nat.zero_add] at b3
    exact b3
  · exact uV_s
  · have := (pu_kQ (x := nn j) (u := u) (l := l) (E := uV E 3 j 4 (bi u))).2.2.2.1
    unfold suL
    omega
end
section
variable {H : fm_H} {b : Nat} {m m00 : fm_M}
theorem r_su_l (hM : kM H b) {x v3 : Int32} (hv3 : fm_b01 v3 = true) : ∀ (k q : Nat) (dn bk : List (Nat → Int32)) (m : fm_M) (ρ : Nat → Int32) (E : VV), dn.length = k → rI b m00 m ρ → rB ρ E → rP ρ (dn ++ bk) → vG E → (∀ r, r ∈ dn → pkO E r) → k < q → fE (f_X12_setUp_75 H b x 0 v3 q (ii ((k : Int) - 1)) m) (fun r m' => r = v3 ∧ ∃ ρ', rI b m00 m' ρ' ∧ rB ρ' (puR x E dn).2 ∧ rP ρ' ((puR x E dn).1 ++ bk)) := by
  intro k
  induction k with
  | zero =>
    intro q dn bk m ρ E hk hr hB hP hG hp hq
    obtain ⟨q, rfl⟩ : ∃ q', q = q' + 1 := ⟨q - 1, by omega⟩
    obtain rfl := List.eq_nil_of_length_eq_zero hk
    unfold f_X12_setUp_75
    rw [if_pos (by rw [ii_0]; exact (by rw [ii_lt (by omega) (by omega) (by omega) (by omega)]; omega)), if_pos hv3]
    exact fE_ret ⟨rfl, ρ, hr, hB, hP⟩
  | succ k ih =>
    intro q dn bk m ρ E hk hr hB hP hG hp hq
    obtain ⟨q, rfl⟩ : ∃ q', q = q' + 1 := ⟨q - 1, by omega⟩
    obtain ⟨dn', r, e⟩ : ∃ dn' r, dn = dn' ++ [r] := ⟨dn.dropLast, dn.getLast (by intro z; rw [z] at hk; cases hk), (List.dropLast_concat_getLast _).symm⟩
    subst e
    have hk' : dn'.length = k := by
      rw [List.length_append] at hk
      exact Nat.succ_inj.mp hk
    have h60 := hP.2.1
    rw [List.length_append, List.length_append, show ([r] : List (Nat → Int32)).length = 1 from rfl] at h60
    rw [List.append_assoc, List.singleton_append] at hP
    have hQ := rP_at hP
    have eint : ((k + 1 : Nat) : Int) - 1 = (k : Nat) := by omega
    unfold f_X12_setUp_75
    rw [eint, if_neg (by rw [ii_0]; exact (by rw [ii_lt (by omega) (by omega) (by omega) (by omega)]; omega)), if_pos rfl, show (ii ((k : Nat) : Int) : Int32) = nn dn'.length from by rw [hk']; rfl, nl_2, r_ofPacket hM (by omega), fb_n, hr.1, show ρ (632 + 8 * dn'.length + 2) = r 3 from hQ.2.2.1, puR_ap]
    have estep : nn dn'.length + (-1) = ii ((k : Int) - 1) := by
      rw [hk', ii_m1]
      exact (ii_add _ _).trans (congrArg ii (by omega))
    have hpr := hp r (List.mem_append_right _ List.mem_cons_self)
    have hpd : ∀ q, q ∈ dn' → pkO E q := fun q hq => hp q (List.mem_append_left _ hq)
    by_cases e : r 3 = x
    · rw [if_pos e, if_pos e]
      obtain ⟨⟨c, c1, c2⟩, -⟩ := hpr
      refine fE_be (r_losePacket hM hr hB hP hG c1 c2) (fun _ m2 ⟨ρ2, h2, h3, h4⟩ => ?_)
      rw [estep]
      exact ih q dn' bk m2 ρ2 (lsE E r) hk' h2 h3 h4 (kQ_G kQ_ls hG) (fun q hq => kQ_pk kQ_ls (hpd q hq)) (by omega)
    · rw [if_neg e, if_neg e, estep]
      refine fE_w (ih q dn' (r :: bk) m ρ E hk' hr hB hP hG hpd (by omega)) (fun _ m' ⟨h1, ρ', h2, h3, h4⟩ => ⟨h1, ρ', h2, h3, ?_⟩)
      rw [List.append_assoc, List.singleton_append]
      exact h4
end
section
variable {H : fm_H} {b : Nat} {m m00 : fm_M}
theorem r_isLink (hM : kM H b) {ρ : Nat → Int32} {L : Nat} (hr : m.1 (b + 1) = ρ) (h3 : ρ 3 = nn L) (hL : L ≤ 16) (x : Int32) : f_X12_isLink H b x m = some (bi (decide (0 ≤ x.toInt ∧ x.toInt < L)), m) := by
  unfold f_X12_isLink
  rw [nl_3, nn_tn (by omega), kM_0 hM, kM_z1 hM, if_pos ((nn_in (by omega)).mpr (by omega)), hr, h3]
  first
    | rw [r_isBetween, fb_n]
    | rw [r_isBetween]
  have a1 := Int32.le_toInt x
  have a2 := Int32.toInt_lt x
  obtain ⟨j, hj⟩ : ∃ j, j = x.toInt := ⟨_, rfl⟩
  have ex : x = ii j := by rw [hj]; exact ii_of x
  rw [← hj] at a1 a2
  have e : (ii 0 ≤ ii j ∧ ii j ≤ ii ((L : Int) - 1)) ↔ (0 ≤ j ∧ j < (L : Int)) := by
    rw [ii_le (by omega) (by omega) (by omega) (by omega), ii_le (by omega) (by omega) (by omega) (by omega)]
    omega
  rw [← hj, ex, show (nn L : Int32) - 1 = ii ((L : Int) - 1) from ii_dec _, ii_0, decide_eq_decide.mpr e, if_pos bi_01]
theorem r_isNode (hM : kM H b) {ρ : Nat → Int32} {L : Nat} (hr : m.1 (b + 1) = ρ) (h3 : ρ 2 = nn L) (hL : L ≤ 10) (x : Int32) : f_X12_isNode H b x m = some (bi (decide (0 ≤ x.toInt ∧ x.toInt < L)), m) := by
  unfold f_X12_isNode
  rw [nl_2, nn_tn (by omega), kM_0 hM, kM_z1 hM, if_pos ((nn_in (by omega)).mpr (by omega)), hr, h3]
  first
    | rw [r_isBetween, fb_n]
    | rw [r_isBetween]
  have a1 := Int32.le_toInt x
  have a2 := Int32.toInt_lt x
  obtain ⟨j, hj⟩ : ∃ j, j = x.toInt := ⟨_, rfl⟩
  have ex : x = ii j := by rw [hj]; exact ii_of x
  rw [← hj] at a1 a2
  have e : (ii 0 ≤ ii j ∧ ii j ≤ ii ((L : Int) - 1)) ↔ (0 ≤ j ∧ j < (L : Int)) := by
    rw [ii_le (by omega) (by omega) (by omega) (by omega), ii_le (by omega) (by omega) (by omega) (by omega)]
    omega
  rw [← hj, ex, show (nn L : Int32) - 1 = ii ((L : Int) - 1) from ii_dec _, ii_0, decide_eq_decide.mpr e, if_pos bi_01]
theorem up_rB {E : VV} {ρ : Nat → Int32} {j : Nat} {x : Int32} (hB : rB ρ E) (hj : j < eL E) (hL : eL E ≤ 16) : rB (pm_up ρ (24 + 5 * j + 4) x) (uV E 3 j 4 x) := by
  have o : ∀ kd a k, ¬ (kd = 3 ∧ a = j ∧ k = 4) → uV E 3 j 4 x kd a k = E kd a k := fun kd a k h => if_neg h
  have r : ∀ q, q ≠ 24 + 5 * j + 4 → pm_up ρ (24 + 5 * j + 4) x q = ρ q := fun q h => if_neg h
  refine rB_net hB (fun kd a k h => o _ _ _ (by omega)) (o _ _ _ (by omega)) ?_ (fun q _ h => r q (by omega))
  obtain ⟨g0, g1, g2, g3, g5, g7, g8, g9⟩ := hB.1
  have nL : eL (uV E 3 j 4 x) = eL E := by unfold eL; rw [o 1 _ _ (by omega)]
  refine ⟨(r 0 (by omega)).trans (g0.trans (o _ _ _ (by omega)).symm), (r 1 (by omega)).trans (g1.trans (o _ _ _ (by omega)).symm), (r 2 (by omega)).trans (g2.trans (o _ _ _ (by omega)).symm), (r 3 (by omega)).trans (g3.trans (o _ _ _ (by omega)).symm), (r 5 (by omega)).trans (g5.trans (o _ _ _ (by omega)).symm), fun k hk => (r _ (by omega)).trans ((g7 k hk).trans (o _ _ _ (by omega)).symm), fun i hi => (r _ (by omega)).trans ((g8 i hi).trans (o _ _ _ (by omega)).symm), fun i hi k hk => ?_⟩
  rw [nL] at hi
  by_cases e : i = j ∧ k = 4
  · obtain ⟨rfl, rfl⟩ := e
    rw [up_at, if_pos rfl]
    exact uV_s.symm
  · exact (r _ (by omega)).trans ((g9 i hi k hk).trans (o _ _ _ (by omega)).symm)
theorem r_setUp (hM : kM H b) {ρ : Nat → Int32} {E : VV} {l : List (Nat → Int32)} (hr : m.1 (b + 1) = ρ) (hA : rAll ρ E l) (hI : iG E l) {j : Nat} {u : Bool} (hj : j < eL E) :
    fE (f_X12_setUp H b (nn j) (bi u) m) (fun r m' => r = E 3 j 4 ∧ m'.1 b 7 = 0 ∧ m'.1 b 6 = m.1 b 6 ∧ m'.1 (b + 6) = m.1 (b + 6) ∧ gR b m m' ∧ rAll (m'.1 (b + 1)) (suE E l j u) (suL E l j u)) := by
  have hG := hI.1.1
  have hB := hA.1
  have hL16 := hG.2.2.2.2.1.2.1
  have h3 : ρ 3 = nn (eL E) := hB.1.2.2.2.1.trans hG.2.1
  unfold f_X12_setUp f_X12_setUp_14
  rw [r_isLink hM hr h3 hL16, fb_n, decide_eq_true (by rw [nn_t (by omega)]; omega), if_neg (by decide), fb_d]
  have hm1 : (fm_si m b 7 0).1 (b + 1) = ρ := (si_oth (by omega)).trans hr
  rw [if_pos si_s, nl_4, r_ofLink hM (by omega), fb_n, hm1, show ρ (24 + 5 * j + 4) = E 3 j 4 from hB.1.2.2.2.2.2.2.2 j hj 4 (by omega)]
  -- both ways on
  have hU := hI.2.2.2.1 j hj
  have key : ∀ v3 : Int32, v3 = E 3 j 4 → fE (f_X12_setUp_41 H b (nn j) (bi u) v3 (fm_si m b 7 0)) (fun r m' => r = E 3 j 4 ∧ m'.1 b 7 = 0 ∧ m'.1 b 6 = m.1 b 6 ∧ m'.1 (b + 6) = m.1 (b + 6) ∧ gR b m m' ∧ rAll (m'.1 (b + 1)) (suE E l j u) (suL E l j u)) := by
    intro v3 ev
    have hv3 : fm_b01 v3 = true := by
      rw [ev]
      rcases hU with h | h <;> rw [h] <;> decide
    have fin : ∀ (m' : fm_M) (ρ' : Nat → Int32), rI b (fm_si m b 7 0) m' ρ' → rB ρ' (pu (nn j) u (uV E 3 j 4 (bi u)) l).2 → rP ρ' (pu (nn j) u (uV E 3 j 4 (bi u)) l).1 → m'.1 b 7 = 0 ∧ m'.1 b 6 = m.1 b 6 ∧ m'.1 (b + 6) = m.1 (b + 6) ∧ gR b m m' ∧ rAll (m'.1 (b + 1)) (suE E l j u) (suL E l j u) := by
      intro m' ρ' h1 h2 h3
      refine ⟨(rI_o h1 (by omega) (by omega) (by omega)).trans si_s, (rI_o h1 (by omega) (by omega) (by omega)).trans (si_o (by omega)), (funext fun k => rI_o h1 (by omega) (by omega) (by omega)).trans (si_oth (by omega)), gR_tr gR_7 (gR_f h1.2), ?_⟩
      rw [h1.1]
      exact ⟨rB_6 h2, h3⟩
    unfold f_X12_setUp_41
    cases u with
    | false =>
      rw [if_pos (by decide)]
      simp (disch := omega) only [nl_24, nl_5, nl_4, nl_6, nn_mul, nn_add, kM_0 hM, kM_z1 hM, nn_in, nn_tn, if_pos]
      refine fE_rput (rI_rf (m := fm_si m b 7 0) hm1) (fun m2 h2 => ?_)
      have hB2 := up_rB (x := 0) hB hj hL16
      have hP2 : rP (pm_up ρ (24 + 5 * j + 4) 0) l := rP_c hA.2 (fun k hk => by rw [up_at, if_neg (by omega)])
      have e6 : m2.1 (b + 1) 6 = nn l.length := by
        rw [h2.1]
        exact hP2.1
      have hI1 := up_iG (u := false) hI hj
      rw [e6, show (nn l.length : Int32) - 1 = ii ((l.length : Int) - 1) from ii_dec _]
      refine fE_w (r_su_l hM (x := nn j) hv3 l.length fm_N l [] m2 _ _ rfl h2 hB2 (by rw [List.append_nil]; exact hP2) hI1.1.1 hI1.1.2.2.2.2.1 (by have := hA.2.2.1; unfold fm_N; omega)) (fun r m' ⟨h4, ρ', h5, h6, h7⟩ => ?_)
      rw [List.append_nil] at h7
      refine ⟨h4.trans ev, fin m' ρ' h5 ?_ ?_⟩
      · rw [pu_R]
        exact h6
      · rw [pu_R]
        exact h7
    | true =>
      rw [if_neg (by decide)]
      simp (disch := omega) only [nl_24, nl_5, nl_4, nl_6, nn_mul, nn_add, kM_0 hM, kM_z1 hM, nn_in, nn_tn, if_pos]
      refine fE_rput (rI_rf (m := fm_si m b 7 0) hm1) (fun m2 h2 => ?_)
      have hB2 := up_rB (x := 1) hB hj hL16
      have hP2 : rP (pm_up ρ (24 + 5 * j + 4) 1) l := rP_c hA.2 (fun k hk => by rw [up_at, if_neg (by omega)])
      have e6 : m2.1 (b + 1) 6 = nn l.length := by
        rw [h2.1]
        exact hP2.1
      have h60 := hA.2.2.1
      have e75 : ∀ y, f_X12_setUp_75 H b (nn j) (bi true) v3 fm_N y m2 = some (v3, m2) := fun y => by
        show f_X12_setUp_75 H b (nn j) (bi true) v3 (999999 + 1) y m2 = _
        unfold f_X12_setUp_75
        split
        · rfl
        · rw [if_neg (by decide)]
      rw [e75]
      refine fE_ret ⟨ev, fin m2 _ h2 ?_ ?_⟩
      · rw [pu_t]
        exact hB2
      · rw [pu_t]
        exact hP2
  rcases hU with h | h
  · rw [h, if_neg (by decide)]
    rw [h] at key
    exact key 0 rfl
  · rw [h, if_pos rfl]
    rw [h] at key
    exact key 1 rfl
end
