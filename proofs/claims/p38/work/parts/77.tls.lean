/-! labels are taken along a way: what is told -/
def taE (E : VV) (i c k t v : Nat) : VV := uV (uV (uV (uV E 5 0 t (nn v)) 6 0 t (nn i)) 7 0 t 0) (13 + 4 * c) i k (nn t)
/-- the node at k of the way -/
def ndE (E : VV) (i c k : Nat) : Nat := (E (11 + 4 * c) i k).toInt.toNat
def tkI (E : VV) (v : Nat) : Int := tk E (eN E) (eZ E) v (E 0 0 7).toInt.toNat
def tlE (E : VV) (i c : Nat) : Nat → Nat → Bool × VV
  | _, 0 => (true, E)
  | j, r + 1 => if tkI E (ndE E i c j) = -1 then (false, E) else tlE (taE E i c j (tkI E (ndE E i c j)).toNat (ndE E i c j)) i c (j + 1) r
theorem tlE_S (E : VV) (i c j r : Nat) : tlE E i c j (r + 1) = if tkI E (ndE E i c j) = -1 then (false, E) else tlE (taE E i c j (tkI E (ndE E i c j)).toNat (ndE E i c j)) i c (j + 1) r := rfl
theorem taE_o {E : VV} {i c k t v kd j q : Nat} (h5 : kd ≠ 5) (h6 : kd ≠ 6) (h7 : kd ≠ 7) (h : ¬ (kd = 13 + 4 * c ∧ j = i ∧ q = k)) : taE E i c k t v kd j q = E kd j q := by
  unfold taE
  rw [uV_at, if_neg h, uV_k h7, uV_k h6, uV_k h5]
theorem taE_5 {E : VV} {i c k t v q : Nat} : taE E i c k t v 5 0 q = if q = t then nn v else E 5 0 q := by
  unfold taE
  rw [uV_k (by omega), uV_k (by decide), uV_k (by decide), uV_at]
  by_cases e : q = t
  · rw [if_pos ⟨rfl, rfl, e⟩, if_pos e]
  · rw [if_neg (fun z => e z.2.2), if_neg e]
theorem taE_6 {E : VV} {i c k t v q : Nat} : taE E i c k t v 6 0 q = if q = t then nn i else E 6 0 q := by
  unfold taE
  rw [uV_k (by omega), uV_k (by decide), uV_at]
  by_cases e : q = t
  · rw [if_pos ⟨rfl, rfl, e⟩, if_pos e]
  · rw [if_neg (fun z => e z.2.2), if_neg e, uV_k (by decide)]
theorem taE_7 {E : VV} {i c k t v q : Nat} : taE E i c k t v 7 0 q = if q = t then 0 else E 7 0 q := by
  unfold taE
  rw [uV_k (by omega), uV_at]
  by_cases e : q = t
  · rw [if_pos ⟨rfl, rfl, e⟩, if_pos e]
  · rw [if_neg (fun z => e z.2.2), if_neg e, uV_k (by decide), uV_k (by decide)]
theorem taE_s {E : VV} {i c k t v : Nat} : taE E i c k t v (13 + 4 * c) i k = nn t := by
  unfold taE
  exact uV_s
/-- labels were taken for the places below j of way c of circuit i -/
def tF (E0 E : VV) (i c j : Nat) : Prop :=
  (∀ kd a k, kd ≠ 5 → kd ≠ 6 → kd ≠ 7 → ¬ (kd = 13 + 4 * c ∧ a = i) → E kd a k = E0 kd a k) ∧
  (∀ t, t < 120 → E0 5 0 t ≠ -1 → E 5 0 t = E0 5 0 t ∧ E 6 0 t = E0 6 0 t ∧ E 7 0 t = E0 7 0 t) ∧
  (∀ t, t < 120 → E0 5 0 t = -1 → E 5 0 t ≠ -1 → ∃ k, 1 ≤ k ∧ k < j ∧ E (13 + 4 * c) i k = nn t) ∧
  (∀ k, 1 ≤ k → k < j → ∃ t, t < 120 ∧ E (13 + 4 * c) i k = nn t ∧ E0 5 0 t = -1 ∧ E 5 0 t = E (11 + 4 * c) i k ∧ E 5 0 t ≠ -1 ∧ E 6 0 t = nn i ∧ E 7 0 t = 0) ∧
  (∀ k, j ≤ k → E (13 + 4 * c) i k = E0 (13 + 4 * c) i k) ∧
  (∀ k k', 1 ≤ k → k < j → 1 ≤ k' → k' < j → E (13 + 4 * c) i k = E (13 + 4 * c) i k' → k = k') ∧
  ∀ t, t < 120 → E0 5 0 t = -1 → E 5 0 t ≠ -1 → t % 12 < eZ E0 (t / 12)
theorem tF_0 {E : VV} {i c j : Nat} (hj : j ≤ 1) : tF E E i c j :=
  ⟨fun _ _ _ _ _ _ _ => rfl, fun _ _ _ => ⟨rfl, rfl, rfl⟩, fun _ _ h1 h2 => absurd h1 h2, fun _ h1 h2 => by omega, fun _ _ => rfl, fun _ _ h1 h2 => by omega, fun _ _ h1 h2 => absurd h1 h2⟩
theorem tF_N {E0 E : VV} {i c j : Nat} (h : tF E0 E i c j) : eN E = eN E0 := by unfold eN; rw [h.1 1 0 0 (by decide) (by decide) (by decide) (by omega)]
theorem tF_L {E0 E : VV} {i c j : Nat} (h : tF E0 E i c j) : eL E = eL E0 := by unfold eL; rw [h.1 1 0 1 (by decide) (by decide) (by decide) (by omega)]
theorem tF_K {E0 E : VV} {i c j : Nat} (h : tF E0 E i c j) : eK E = eK E0 := by unfold eK; rw [h.1 0 0 5 (by decide) (by decide) (by decide) (by omega)]
theorem tF_Z {E0 E : VV} {i c j : Nat} (h : tF E0 E i c j) : eZ E = eZ E0 := by
  funext f
  unfold eZ
  rw [h.1 4 0 f (by decide) (by decide) (by decide) (by omega)]
theorem tF_lk {E0 E : VV} {i c j : Nat} (h : tF E0 E i c j) (x y : Int32) : lkE E x y = lkE E0 x y := by
  unfold lkE
  rw [tF_L h]
  exact fi_c (fun q _ _ => by rw [h.1 3 q 0 (by decide) (by decide) (by decide) (by omega), h.1 3 q 1 (by decide) (by decide) (by decide) (by omega)])
theorem tF_nd {E0 E : VV} {i c j k : Nat} (h : tF E0 E i c j) : ndE E i c k = ndE E0 i c k := by
  unfold ndE
  rw [h.1 _ _ _ (by omega) (by omega) (by omega) (by omega)]
theorem tF_G {E0 E : VV} {i c j : Nat} (h : tF E0 E i c j) (hG : vG E0) : vG E := by
  refine vG_sm ⟨?_, ?_, ?_, ?_, fun q => ?_, fun q => ?_, fun q => ?_⟩ hG
  all_goals exact h.1 _ _ _ (by decide) (by decide) (by decide) (by omega)
theorem tF_iB {E0 E : VV} {i c j : Nat} (h : tF E0 E i c j) (hB : iB E0) : iB E := by
  intro x y hx hy
  rw [tF_lk h, h.1 2 _ _ (by decide) (by decide) (by decide) (by omega)]
  exact hB x y hx hy
theorem tF_iZ {E0 E : VV} {i c j : Nat} (h : tF E0 E i c j) (hZ : iZ E0) : iZ E := by
  intro f l hf hl e
  rw [tF_Z h]
  by_cases e0 : E0 5 0 (f * 12 + l) = -1
  · have := h.2.2.2.2.2.2 _ (by omega) e0 e
    rw [show (f * 12 + l) % 12 = l from by omega, show (f * 12 + l) / 12 = f from by omega] at this
    exact this
  · exact hZ f l hf hl e0
/-- a taken label was free, and lies in a space -/
theorem tkI_f {E : VV} {v : Nat} (hv : v < 10) (hG : vG E) (h : tkI E v ≠ -1) : 0 ≤ tkI E v ∧ tkI E v < 120 ∧ E 5 0 (tkI E v).toNat = -1 ∧ (tkI E v).toNat % 12 < eZ E ((tkI E v).toNat / 12) := by
  have hN : eN E ≤ 10 := hG.2.2.2.2.1.1
  have hz := eZ_12 hG
  have key : ∀ f z : Nat, f < 10 → z = eZ E f → ∀ x : Int, x ≠ -1 → ((x = lf E f z) ∨ (x = hf E f z)) → 0 ≤ x ∧ x < 120 ∧ E 5 0 x.toNat = -1 ∧ x.toNat % 12 < eZ E (x.toNat / 12) := by
    intro f z hf10 hzz x hx hh
    have hz12 := hz f hf10
    rw [← hzz] at hz12
    have fin : ∀ y : Nat, y < z → E 5 0 (f * 12 + y) = -1 → x = ((f * 12 + y : Nat) : Int) → 0 ≤ x ∧ x < 120 ∧ E 5 0 x.toNat = -1 ∧ x.toNat % 12 < eZ E (x.toNat / 12) := by
      intro y hy e ex
      rw [ex, show (((f * 12 + y : Nat) : Int)).toNat = f * 12 + y from rfl, show (f * 12 + y) % 12 = y from by omega, show (f * 12 + y) / 12 = f from by omega, ← hzz]
      exact ⟨by omega, by omega, e, hy⟩
    rcases hh with hh | hh
    · unfold lf at hh
      rcases fi_r (p := fun i => decide (E 5 0 (f * 12 + i) = -1)) (k := z) (j := 0) with h9 | h9
      · rw [if_pos h9] at hh; exact absurd hh hx
      · rw [if_neg (by omega)] at hh
        obtain ⟨y, hy⟩ : ∃ y : Nat, fi (fun i => decide (E 5 0 (f * 12 + i) = -1)) 0 z = y := ⟨(fi (fun i => decide (E 5 0 (f * 12 + i) = -1)) 0 z).toNat, by omega⟩
        obtain ⟨-, a2, a3, -⟩ := fi_is hy
        exact fin y (by omega) (of_decide_eq_true a3) (by rw [hh, hy]; omega)
    · unfold hf at hh
      have lis : ∀ {p : Nat → Bool} {z y : Nat}, li p z = y → y < z ∧ p y = true := by
        intro p z
        induction z with
        | zero => intro y h; unfold li at h; omega
        | succ z ih =>
          intro y h
          unfold li at h
          by_cases e : p z = true
          · rw [if_pos e] at h
            have : z = y := by omega
            subst this
            exact ⟨by omega, e⟩
          · rw [if_neg e] at h
            have := ih h
            exact ⟨by omega, this.2⟩
      rcases li_r (p := fun i => decide (E 5 0 (f * 12 + i) = -1)) (k := z) with h9 | h9
      · rw [if_pos h9] at hh; exact absurd hh hx
      · rw [if_neg (by omega)] at hh
        obtain ⟨y, hy⟩ : ∃ y : Nat, li (fun i => decide (E 5 0 (f * 12 + i) = -1)) z = y := ⟨(li (fun i => decide (E 5 0 (f * 12 + i) = -1)) z).toNat, by omega⟩
        obtain ⟨a2, a3⟩ := lis hy
        exact fin y a2 (of_decide_eq_true a3) (by rw [hh, hy]; omega)
  unfold tkI tk at h ⊢
  by_cases e1 : lf E v (eZ E v) = -1
  · rw [if_pos e1] at h ⊢
    by_cases e2 : bw E (eZ E) v < (E 0 0 7).toInt.toNat
    · rw [if_pos e2] at h ⊢
      by_cases e3 : ld E (eN E) (eZ E) v 0 (eN E) (-1) 0 < 0
      · rw [if_pos e3] at h; exact absurd rfl h
      · rw [if_neg e3] at h ⊢
        have h1 := ld_r (V := E) (N := eN E) (Z := eZ E) (f := v) (k := eN E) (j := 0) (b := -1) (mo := 0)
        exact key _ _ (by omega) rfl _ h (Or.inr rfl)
    · rw [if_neg e2] at h; exact absurd rfl h
  · rw [if_neg e1] at h ⊢
    exact key _ _ hv rfl _ h (Or.inl rfl)
theorem tF_s {E0 E : VV} {i c j t v : Nat} (h : tF E0 E i c j) (h1 : 1 ≤ j) (ht : t < 120) (e : E 5 0 t = -1) (hv : E (11 + 4 * c) i j = nn v) (hv10 : v < 10) (hz : t % 12 < eZ E (t / 12)) : tF E0 (taE E i c j t v) i c (j + 1) := by
  obtain ⟨f1, f2, f3, f4, f5, f6, f7⟩ := h
  have e0 : E0 5 0 t = -1 := by
    by_cases q : E0 5 0 t = -1
    · exact q
    · exact (f2 t ht q).1.symm.trans e
  have so : ∀ k, k ≠ j → taE E i c j t v (13 + 4 * c) i k = E (13 + 4 * c) i k := fun k hk => taE_o (by omega) (by omega) (by omega) (by omega)
  refine ⟨fun kd a k a5 a6 a7 a8 => ?_, fun q hq h9 => ?_, fun q hq h8 h9 => ?_, fun k k1 k2 => ?_, fun k hk => ?_, fun k k' k1 k2 k3 k4 k5 => ?_, fun q hq h8 h9 => ?_⟩
  · rw [taE_o a5 a6 a7 (by omega)]
    exact f1 kd a k a5 a6 a7 a8
  · have nq : q ≠ t := fun z => h9 (by rw [z]; exact e0)
    rw [taE_5, if_neg nq, taE_6, if_neg nq, taE_7, if_neg nq]
    exact f2 q hq h9
  · rw [taE_5] at h9
    by_cases nq : q = t
    · subst nq
      exact ⟨j, h1, by omega, taE_s⟩
    · rw [if_neg nq] at h9
      obtain ⟨k, k1, k2, k3⟩ := f3 q hq h8 h9
      exact ⟨k, k1, by omega, by rw [so k (by omega)]; exact k3⟩
  · by_cases ek : k = j
    · subst ek
      refine ⟨t, ht, taE_s, e0, ?_, ?_, ?_, ?_⟩
      · rw [taE_5, if_pos rfl, taE_o (by omega) (by omega) (by omega) (by omega), hv]
      · rw [taE_5, if_pos rfl]; exact nn_m1 (by omega)
      · rw [taE_6, if_pos rfl]
      · rw [taE_7, if_pos rfl]
    · obtain ⟨q, q1, q2, q3, q4, q5, q6, q7⟩ := f4 k k1 (by omega)
      have nq : q ≠ t := fun z => by
        rw [z] at q5
        exact q5 e
      refine ⟨q, q1, by rw [so k ek]; exact q2, q3, ?_, ?_, ?_, ?_⟩
      · rw [taE_5, if_neg nq, taE_o (by omega) (by omega) (by omega) (by omega)]; exact q4
      · rw [taE_5, if_neg nq]; exact q5
      · rw [taE_6, if_neg nq]; exact q6
      · rw [taE_7, if_neg nq]; exact q7
  · rw [so k (by omega)]
    exact f5 k (by omega)
  · by_cases ek : k = j
    · by_cases ek' : k' = j
      · omega
      · rw [ek, taE_s, so k' ek'] at k5
        obtain ⟨q, q1, q2, q3, q4, q5', q6, q7⟩ := f4 k' k3 (by omega)
        rw [q2] at k5
        have : t = q := nn_e (by omega) (by omega) k5
        rw [← this] at q5'
        exact absurd e q5'
    · by_cases ek' : k' = j
      · rw [ek', taE_s, so k ek] at k5
        obtain ⟨q, q1, q2, q3, q4, q5', q6, q7⟩ := f4 k k1 (by omega)
        rw [q2] at k5
        have : q = t := nn_e (by omega) (by omega) k5
        rw [this] at q5'
        exact absurd e q5'
      · rw [so k ek, so k' ek'] at k5
        exact f6 k k' k1 (by omega) k3 (by omega) k5
  · rw [taE_5] at h9
    by_cases nq : q = t
    · subst nq
      have ez : eZ E = eZ E0 := by
        funext f
        unfold eZ
        rw [f1 4 0 f (by decide) (by decide) (by decide) (by omega)]
      rw [ez] at hz
      exact hz
    · rw [if_neg nq] at h9
      exact f7 q hq h8 h9
/-- lengths with one changed -/
def lu (ln : Nat → Nat → Nat) (i c n : Nat) : Nat → Nat → Nat := fun i' c' => if i' = i ∧ c' = c then n else ln i' c'
theorem lu_s {ln : Nat → Nat → Nat} {i c n : Nat} : lu ln i c n i c = n := if_pos ⟨rfl, rfl⟩
theorem lu_o {ln : Nat → Nat → Nat} {i c n i' c' : Nat} (h : ¬ (i' = i ∧ c' = c)) : lu ln i c n i' c' = ln i' c' := if_neg h
theorem tF_iT {E0 E : VV} {i c j K : Nat} {ln : Nat → Nat → Nat} (h : tF E0 E i c j) (hT : iT E0 K ln) (hK : K ≤ 8) (hi : i < K) (hc : c < 2) (hln : ln i c ≤ 1) : iT E K (lu ln i c j) := by
  obtain ⟨f1, f2, f3, f4, f5, f6, f7⟩ := h
  have old : ∀ a d k t, ¬ (a = i ∧ d = c) → a < K → d < 2 → 1 ≤ k → k < ln a d → t < 120 → E (13 + 4 * d) a k = nn t → E0 (13 + 4 * d) a k = nn t ∧ E0 5 0 t ≠ -1 := by
    intro a d k t hn a1 a2 a3 a4 a5 a6
    have e : E (13 + 4 * d) a k = E0 (13 + 4 * d) a k := f1 _ _ _ (by omega) (by omega) (by omega) (by omega)
    rw [e] at a6
    exact ⟨a6, (hT.1 a d k t a1 a2 a3 a4 a5 a6).2.2⟩
  refine ⟨fun a d k t a1 a2 a3 a4 a5 a6 => ?_, fun t t1 t2 => ?_, fun a d k d' k' t a1 a2 a3 a4 a5 a6 a7 a8 a9 a10 => ?_⟩
  · by_cases e : a = i ∧ d = c
    · obtain ⟨rfl, rfl⟩ := e
      rw [lu_s] at a4
      obtain ⟨q, q1, q2, q3, q4, q5, q6, q7⟩ := f4 k a3 a4
      have : t = q := nn_e (by omega) (by omega) (a6.symm.trans q2)
      subst this
      exact ⟨q4, q6, q5⟩
    · rw [lu_o e] at a4
      obtain ⟨b1, b2⟩ := old a d k t e a1 a2 a3 a4 a5 a6
      obtain ⟨g1, g2, g3⟩ := f2 t a5 b2
      rw [g1, g2, f1 (11 + 4 * d) a k (by omega) (by omega) (by omega) (by omega)]
      exact hT.1 a d k t a1 a2 a3 a4 a5 b1
  · by_cases e0 : E0 5 0 t = -1
    · obtain ⟨k, k1, k2, k3⟩ := f3 t t1 e0 t2
      exact ⟨i, c, k, hi, hc, k1, by rw [lu_s]; exact k2, k3⟩
    · obtain ⟨a, d, k, b1, b2, b3, b4, b5⟩ := hT.2.1 t t1 e0
      have e : ¬ (a = i ∧ d = c) := fun z => by
        rw [z.1, z.2] at b4
        omega
      exact ⟨a, d, k, b1, b2, b3, by rw [lu_o e]; exact b4, (f1 _ _ _ (by omega) (by omega) (by omega) (by omega)).trans b5⟩
  · by_cases e : a = i ∧ d = c
    · obtain ⟨rfl, rfl⟩ := e
      rw [lu_s] at a5
      obtain ⟨q, q1, q2, q3, -⟩ := f4 k a4 a5
      have : t = q := nn_e (by omega) (by omega) (a9.symm.trans q2)
      subst this
      by_cases e' : d' = d
      · subst e'
        rw [lu_s] at a7
        exact ⟨rfl, f6 k k' a4 a5 a6 a7 (a9.trans a10.symm)⟩
      · rw [lu_o (by omega)] at a7
        exact absurd q3 (old a d' k' t (by omega) a1 a3 a6 a7 a8 a10).2
    · rw [lu_o e] at a5
      obtain ⟨b1, b2⟩ := old a d k t e a1 a2 a4 a5 a8 a9
      by_cases e' : a = i ∧ d' = c
      · obtain ⟨rfl, rfl⟩ := e'
        rw [lu_s] at a7
        obtain ⟨q, q1, q2, q3, -⟩ := f4 k' a6 a7
        have : t = q := nn_e (by omega) (by omega) (a10.symm.trans q2)
        subst this
        exact absurd q3 b2
      · rw [lu_o e'] at a7
        obtain ⟨b1', -⟩ := old a d' k' t e' a1 a3 a6 a7 a8 a10
        exact hT.2.2 a d k d' k' t a1 a2 a3 a4 a5 a6 a7 a8 b1 b1'
