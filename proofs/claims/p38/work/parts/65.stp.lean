/-! the reference's moves of a circuit, single steps -/
/-- all but the packets and the step of circuit i -/
def rBs (ρ : Nat → Int32) (E : VV) (i : Nat) : Prop := rN ρ E ∧ rK ρ E (eK E) (eW E) ∧ ∀ j, j < eK E → rC ρ E (104 + 66 * j) j ∧ (j ≠ i → ρ (107 + 66 * j) = stE E j) ∧ ∀ c, c < 2 → rMd ρ E (120 + 66 * j + 25 * c) (eW E j c) c j
theorem rBs_of {ρ : Nat → Int32} {E : VV} {i : Nat} (h : rB ρ E) : rBs ρ E i := ⟨h.1, h.2.1, fun j hj => ⟨(h.2.2 j hj).1, fun _ => (h.2.2 j hj).2.1, (h.2.2 j hj).2.2⟩⟩
theorem rBs_to {ρ : Nat → Int32} {E : VV} {i : Nat} (h : rBs ρ E i) (e : ρ (107 + 66 * i) = stE E i) : rB ρ E := ⟨h.1, h.2.1, fun j hj => ⟨(h.2.2 j hj).1, by
  by_cases ej : j = i
  · subst ej; exact e
  · exact (h.2.2 j hj).2.1 ej, (h.2.2 j hj).2.2⟩⟩
def kI (E E' : VV) (i : Nat) : Prop := ∀ kd j k, kd ≠ 5 → kd ≠ 7 → ¬ (9 ≤ kd ∧ kd ≤ 17 ∧ j = i) → E' kd j k = E kd j k
theorem stE_c {E E' : VV} {j : Nat} (h9 : ∀ k, E' 9 j k = E 9 j k) (h10 : E' 10 j 0 = E 10 j 0) (h13 : ∀ k, E' 13 j k = E 13 j k) : stE E' j = stE E j := by
  have e : eA E' j = eA E j := by unfold eA; rw [h10]
  have ec : clX E' j = clX E j := by
    show ((eA E' j : Nat) : Int) - (nc (fun k => decide (E' 13 j k ≠ -1)) 1 (eA E' j - 1) : Nat) = _
    rw [e, show (fun k => decide (E' 13 j k ≠ -1)) = (fun k => decide (E 13 j k ≠ -1)) from funext fun k => by rw [h13]]
    rfl
  unfold stE
  rw [h9, h9, h9, ec]
theorem rW_e {ρ : Nat → Int32} {E E' : VV} {p n c j : Nat} (h : rW ρ E p n c j) (h1 : ∀ k, E' (11 + 4 * c) j k = E (11 + 4 * c) j k) (h2 : ∀ k, E' (13 + 4 * c) j k = E (13 + 4 * c) j k) : rW ρ E' p n c j := by
  obtain ⟨a1, a2, a3, a4⟩ := h
  refine ⟨a1, a2, fun k hk => (a3 k hk).trans (h1 k).symm, fun k k2 => ?_⟩
  rw [h2]
  exact a4 k k2
theorem rBs_g {ρ ρ' : Nat → Int32} {E E' : VV} {i : Nat} (h : rBs ρ E i) (hG : vG E) (hi : i < 8) (ho : ∀ k, k < 632 → k ≠ 6 → ¬ (104 + 66 * i ≤ k ∧ k < 170 + 66 * i) → ρ' k = ρ k) (hE : kI E E' i)
    (hmd : ∀ j c k, j < eK E → j ≠ i → c < 2 → 1 ≤ k → k < eW E j c → mdE E' (E (13 + 4 * c) j k) = mdE E (E (13 + 4 * c) j k))
    (hC : rC ρ' E' (104 + 66 * i) i) (hW : ∀ c, c < 2 → rW ρ' E' (120 + 66 * i + 25 * c) (eW E' i c) c i ∧ rMd ρ' E' (120 + 66 * i + 25 * c) (eW E' i c) c i) : rBs ρ' E' i := by
  obtain ⟨h1, ⟨h2, h3, h4⟩, h5⟩ := h
  have hL := hG.2.2.2.2.1.2.1
  have eKK : eK E' = eK E := by unfold eK; rw [hE 0 0 5 (by omega) (by omega) (by omega)]
  have eLL : eL E' = eL E := by unfold eL; rw [hE 1 0 1 (by omega) (by omega) (by omega)]
  have eWW : ∀ j c, j ≠ i → eW E' j c = eW E j c := by
    intro j c hj
    unfold eW eA eB
    rw [hE 10 j 0 (by omega) (by omega) (by omega), hE 14 j 0 (by omega) (by omega) (by omega)]
  have hN : rN ρ' E := rN_c h1 hL (fun k a1 a2 a3 => ho k (by omega) a3 (by omega))
  refine ⟨?_, ⟨?_, ?_, fun j hj c hc => ?_⟩, fun j hj => ?_⟩
  · obtain ⟨g0, g1, g2, g3, g5, g7, g8, g9⟩ := hN
    refine ⟨?_, ?_, ?_, ?_, ?_, fun k hk => ?_, fun k hk => ?_, fun j hj k hk => ?_⟩
    · rw [hE 0 0 7 (by omega) (by omega) (by omega)]; exact g0
    · rw [hE 0 0 8 (by omega) (by omega) (by omega)]; exact g1
    · rw [hE 1 0 0 (by omega) (by omega) (by omega)]; exact g2
    · rw [hE 1 0 1 (by omega) (by omega) (by omega)]; exact g3
    · rw [hE 0 0 9 (by omega) (by omega) (by omega)]; exact g5
    · rw [hE 8 0 k (by omega) (by omega) (by omega)]; exact g7 k hk
    · rw [hE 4 0 k (by omega) (by omega) (by omega)]; exact g8 k hk
    · rw [hE 3 j k (by omega) (by omega) (by omega)]; exact g9 j (by omega) k hk
  · rw [eKK]
    exact (ho 4 (by omega) (by omega) (by omega)).trans h2
  · rw [eKK]; exact h3
  · rw [eKK] at hj
    by_cases ej : j = i
    · subst ej
      exact (hW c hc).1
    · rw [eWW j c ej]
      refine rW_e (rW_c (h4 j hj c hc) (fun k a1 a2 => ho k (by omega) (by omega) (by rcases (show c = 0 ∨ c = 1 by omega) with e | e <;> subst e <;> omega))) (fun k => hE _ _ _ (by omega) (by omega) (by omega)) (fun k => hE _ _ _ (by omega) (by omega) (by omega))
  · rw [eKK] at hj
    by_cases ej : j = i
    · subst ej
      exact ⟨hC, fun z => absurd rfl z, fun c hc => (hW c hc).2⟩
    · refine ⟨fun k k1 k2 k3 => ?_, fun _ => ?_, fun c hc k k1 k2 => ?_⟩
      · have hp := pk_l k k1 k2 k3
        rw [hE 9 j k (by omega) (by omega) (by omega), ho _ (by omega) (by omega) (by omega)]
        exact (h5 j hj).1 k k1 k2 k3
      · rw [stE_c (fun k => hE 9 j k (by omega) (by omega) (by omega)) (hE 10 j 0 (by omega) (by omega) (by omega)) (fun k => hE 13 j k (by omega) (by omega) (by omega)), ho _ (by omega) (by omega) (by omega)]
        exact (h5 j hj).2.1 ej
      · rw [eWW j c ej] at k2
        have h6 := (h4 j hj c hc).2.1
        rw [hE (13 + 4 * c) j k (by omega) (by omega) (by omega), hmd j c k hj ej hc k1 k2, ho _ (by omega) (by omega) (by rcases (show c = 0 ∨ c = 1 by omega) with e | e <;> subst e <;> omega)]
        exact (h5 j hj).2.2 c hc k k1 k2
theorem mdE_c {E E' : VV} (h : ∀ k, E' 7 0 k = E 7 0 k) (t : Int32) : mdE E' t = mdE E t := by
  unfold mdE
  rw [h]
theorem rBs_st {ρ : Nat → Int32} {E : VV} {i : Nat} {x : Int32} (h : rBs ρ E i) (hG : vG E) (hi : i < eK E) : rBs (pm_up ρ (107 + 66 * i) x) E i := by
  have hK8 := hG.2.2.2.2.1.2.2.1
  refine rBs_g h hG (by omega) (fun k h1 h2 h3 => if_neg (by omega)) (fun _ _ _ _ _ _ => rfl) (fun _ _ _ _ _ _ _ _ => rfl) (fun k k1 k2 k3 => ?_) (fun c hc => ⟨rW_c (h.2.1.2.2 i hi c hc) (fun k a1 a2 => if_neg (by omega)), rMd_c ((h.2.2 i hi).2.2 c hc) (h.2.1.2.2 i hi c hc).2.1 (fun k a1 a2 => if_neg (by omega))⟩)
  have hp := pk_l k k1 k2 k3
  rw [up_at, if_neg (by omega)]
  exact (h.2.2 i hi).1 k k1 k2 k3
theorem rBs_9 {ρ : Nat → Int32} {E : VV} {i k : Nat} {x : Int32} (h : rBs ρ E i) (hG : vG E) (hi : i < eK E) (hk : k < 13) (h9 : k ≠ 9) (h10 : k ≠ 10) : rBs (pm_up ρ (104 + 66 * i + pk k) x) (uV E 9 i k x) i := by
  have hK8 := hG.2.2.2.2.1.2.2.1
  have hp := pk_l k hk h9 h10
  refine rBs_g h hG (by omega) (fun k h1 h2 h3 => if_neg (by omega)) (fun kd j k' a1 a2 a3 => if_neg (by omega)) (fun j c k' _ _ _ _ _ => mdE_c (fun q => uV_k (by decide)) _) (fun k' k1 k2 k3 => ?_) (fun c hc => ⟨rW_e (rW_c (h.2.1.2.2 i hi c hc) (fun k a1 a2 => if_neg (by omega))) (fun q => uV_k (by omega)) (fun q => uV_k (by omega)), ?_⟩)
  · have hp' := pk_l k' k1 k2 k3
    rw [up_at, uV_at]
    by_cases e : k' = k
    · subst e
      rw [if_pos rfl, if_pos ⟨rfl, rfl, rfl⟩]
    · rw [if_neg (fun z => e (pk_i k' k1 k hk k2 k3 h9 h10 (by omega))), if_neg (fun z => e z.2.2)]
      exact (h.2.2 i hi).1 k' k1 k2 k3
  · intro q q1 q2
    have q3 : eW E i c ≤ 6 := (h.2.1.2.2 i hi c hc).2.1
    have q4 : eW (uV E 9 i k x) i c = eW E i c := rfl
    rw [q4] at q2
    rw [up_at, if_neg (by omega), mdE_c (fun q => uV_k (by decide)), uV_k (by omega)]
    exact (h.2.2 i hi).2.2 c hc q q1 q2
theorem rBs_d {ρ : Nat → Int32} {E : VV} {i k : Nat} {x : Int32} (h : rBs ρ E i) (hG : vG E) (hi : i < eK E) (hk : k = 9 ∨ k = 10) : rBs ρ (uV E 9 i k x) i := by
  have hK8 := hG.2.2.2.2.1.2.2.1
  refine rBs_g h hG (by omega) (fun k h1 h2 h3 => rfl) (fun kd j k' a1 a2 a3 => if_neg (by omega)) (fun j c k' _ _ _ _ _ => mdE_c (fun q => uV_k (by decide)) _) (fun k' k1 k2 k3 => ?_) (fun c hc => ⟨rW_e (h.2.1.2.2 i hi c hc) (fun q => uV_k (by omega)) (fun q => uV_k (by omega)), ?_⟩)
  · rw [uV_at, if_neg (by omega)]
    exact (h.2.2 i hi).1 k' k1 k2 k3
  · intro q q1 q2
    rw [mdE_c (fun q => uV_k (by decide)), uV_k (by omega)]
    exact (h.2.2 i hi).2.2 c hc q q1 q2
theorem mdE_u {E : VV} {t : Nat} {x s : Int32} (ht : t < 120) : mdE (uV E 7 0 t x) s = if s = nn t then x else mdE E s := by
  unfold mdE
  by_cases e : s = nn t
  · rw [if_pos e, e, nn_t (by omega), if_pos (by omega)]
    exact uV_s
  · rw [if_neg e]
    split
    · rename_i h
      rw [uV_at, if_neg]
      rintro ⟨-, -, z⟩
      refine e ?_
      rw [ii_of s]
      exact congrArg ii (by omega)
    · rfl
/-- a label has one place -/
theorem iT_o {E : VV} {K : Nat} {ln : Nat → Nat → Nat} (hT : iT E K ln) (hK : K ≤ 8) {i c k t j c' k' : Nat} (hi : i < K) (hc : c < 2) (h1 : 1 ≤ k) (h2 : k < ln i c) (ht : t < 120) (e : E (13 + 4 * c) i k = nn t) (hj : j < K) (hc' : c' < 2) (h1' : 1 ≤ k') (h2' : k' < ln j c') (e' : E (13 + 4 * c') j k' = nn t) : j = i ∧ c' = c ∧ k' = k := by
  have q1 := (hT.1 i c k t hi hc h1 h2 ht e).2.1
  have q2 := (hT.1 j c' k' t hj hc' h1' h2' ht e').2.1
  have ej : j = i := (nn_eq (by omega) (by omega)).mp (q2.symm.trans q1)
  subst ej
  have := hT.2.2 j c k c' k' t hi hc hc' h1 h2 h1' h2' ht e e'
  omega
theorem rBs_md {ρ : Nat → Int32} {E : VV} {i c k t : Nat} {x : Int32} (h : rBs ρ E i) (hG : vG E) (hT : iT E (eK E) (eW E)) (hi : i < eK E) (hc : c < 2) (h1 : 1 ≤ k) (h2 : k < eW E i c) (ht : t < 120) (e : E (13 + 4 * c) i k = nn t) : rBs (pm_up ρ (120 + 66 * i + 25 * c + 19 + k) x) (uV E 7 0 t x) i := by
  have hK8 := hG.2.2.2.2.1.2.2.1
  have h6 := (h.2.1.2.2 i hi c hc).2.1
  refine rBs_g h hG (by omega) (fun k h1 h2 h3 => if_neg (by omega)) (fun kd j k' a1 a2 a3 => uV_k a2) (fun j c' k' a1 a2 a3 a4 a5 => ?_) (fun k' k1 k2 k3 => ?_) (fun c' hc' => ⟨rW_e (rW_c (h.2.1.2.2 i hi c' hc') (fun k a1 a2 => if_neg (by rcases (show c = 0 ∨ c = 1 by omega) with e | e <;> rcases (show c' = 0 ∨ c' = 1 by omega) with e' | e' <;> subst e <;> subst e' <;> omega))) (fun q => uV_k (by omega)) (fun q => uV_k (by omega)), fun q q1 q2 => ?_⟩)
  · rw [mdE_u ht, if_neg (fun z => a2 (iT_o hT hK8 hi hc h1 h2 ht e a1 a3 a4 a5 z).1)]
  · have hp' := pk_l k' k1 k2 k3
    rw [up_at, if_neg (by omega), uV_k (by decide)]
    exact (h.2.2 i hi).1 k' k1 k2 k3
  · have q3 : eW (uV E 7 0 t x) i c' = eW E i c' := rfl
    rw [q3] at q2
    have h6' := (h.2.1.2.2 i hi c' hc').2.1
    rw [uV_k (by omega), mdE_u ht, up_at]
    by_cases eq : c' = c ∧ q = k
    · obtain ⟨rfl, rfl⟩ := eq
      rw [if_pos rfl, if_pos e]
    · rw [if_neg (fun z => eq (iT_o hT hK8 hi hc h1 h2 ht e hi hc' q1 q2 z).2), if_neg (by rcases (show c = 0 ∨ c = 1 by omega) with e | e <;> rcases (show c' = 0 ∨ c' = 1 by omega) with e' | e' <;> subst e <;> subst e' <;> omega)]
      exact (h.2.2 i hi).2.2 c' hc' q q1 q2
theorem rBs_gv {ρ : Nat → Int32} {E : VV} {i x t : Nat} (h : rBs ρ E i) (hG : vG E) (hi : i < eK E) (h1 : 1 ≤ x) (h2 : x < eA E i) : rBs (pm_up (pm_up (pm_up ρ (120 + 66 * i + 7 + x) (-1)) (120 + 66 * i + 13 + x) (-1)) (120 + 66 * i + 19 + x) 0) (gvE E i x t) i := by
  have hK8 := hG.2.2.2.2.1.2.2.1
  have h6 : eA E i ≤ 6 := (h.2.1.2.2 i hi 0 (by omega)).2.1
  have em : ∀ s, mdE (gvE E i x t) s = mdE E s := mdE_c (fun k => gvE_o (by decide) (by decide))
  have o : ∀ q, q ≠ 120 + 66 * i + 7 + x → q ≠ 120 + 66 * i + 13 + x → q ≠ 120 + 66 * i + 19 + x → pm_up (pm_up (pm_up ρ (120 + 66 * i + 7 + x) (-1)) (120 + 66 * i + 13 + x) (-1)) (120 + 66 * i + 19 + x) 0 q = ρ q := fun q a1 a2 a3 => by
    rw [up_at, if_neg a3, up_at, if_neg a2, up_at, if_neg a1]
  refine rBs_g h hG (by omega) (fun k h1 h2 h3 => o k (by omega) (by omega) (by omega)) (fun kd j k' a1 a2 a3 => by
    by_cases e13 : kd = 13
    · subst e13
      rw [gvE_13, if_neg (by omega)]
    · exact gvE_o a1 e13) (fun j c' k' _ _ _ _ _ => em _) (fun k' k1 k2 k3 => ?_) (fun c hc => ?_)
  · have hp' := pk_l k' k1 k2 k3
    rw [o _ (by omega) (by omega) (by omega), gvE_o (by decide) (by decide)]
    exact (h.2.2 i hi).1 k' k1 k2 k3
  · obtain ⟨w1, w2, w3, w4⟩ := h.2.1.2.2 i hi c hc
    have w5 := (h.2.2 i hi).2.2 c hc
    show rW _ _ _ (eW E i c) c i ∧ rMd _ _ _ (eW E i c) c i
    refine ⟨⟨(o _ (by omega) (by omega) (by omega)).trans w1, w2, fun k hk => ?_, fun k k2 => ?_⟩, fun k k1 k2 => ?_⟩
    · rw [gvE_o (by omega) (by omega), o _ (by omega) (by omega) (by omega)]
      exact w3 k hk
    · by_cases ek : c = 0 ∧ k = x
      · obtain ⟨rfl, rfl⟩ := ek
        rw [show gvE E i k t (13 + 4 * 0) i k = gvE E i k t 13 i k from rfl, gvE_13, if_pos ⟨rfl, rfl⟩]
        simp (disch := omega) only [up_at, if_pos, if_neg]
        exact Or.inl ⟨rfl, rfl, rfl⟩
      · rw [gvE_s (fun z => ek ⟨z.1, z.2.2⟩), o _ (by omega) (by omega) (by omega), o _ (by omega) (by omega) (by omega)]
        exact w4 k k2
    · rw [em]
      by_cases ek : c = 0 ∧ k = x
      · obtain ⟨rfl, rfl⟩ := ek
        rw [show gvE E i k t (13 + 4 * 0) i k = gvE E i k t 13 i k from rfl, gvE_13, if_pos ⟨rfl, rfl⟩, up_at, if_pos (by omega)]
        rfl
      · rw [gvE_s (fun z => ek ⟨z.1, z.2.2⟩), o _ (by omega) (by omega) (by omega)]
        exact w5 k k1 k2
/-- the new way over the old one -/
def twR (ρ : Nat → Int32) (i : Nat) : Nat → Int32 := fun q => if 120 + 66 * i ≤ q ∧ q < 145 + 66 * i then ρ (q + 25) else if q = 145 + 66 * i then 0 else if q = 106 + 66 * i then 0 else ρ q
theorem rBs_tw {ρ : Nat → Int32} {E : VV} {i : Nat} (h : rBs ρ E i) (hG : vG E) (hi : i < eK E) : rBs (twR ρ i) (tkN E i) i := by
  have hK8 := hG.2.2.2.2.1.2.2.1
  have em : ∀ s, mdE (tkN E i) s = mdE E s := mdE_c (fun k => tkN_o (by omega))
  refine rBs_g h hG (by omega) (fun k h1 h2 h3 => ?_) (fun kd j k' a1 a2 a3 => ?_) (fun j c' k' _ _ _ _ _ => em _) (fun k' k1 k2 k3 => ?_) (fun c hc => ?_)
  · unfold twR
    rw [if_neg (by omega), if_neg (by omega), if_neg (by omega)]
  · by_cases ej : j = i
    · exact tkN_o (by omega)
    · exact tkN_n ej
  · have hp' := pk_l k' k1 k2 k3
    unfold twR tkN
    rw [if_neg (by omega), if_neg (by omega), uV_at]
    by_cases e2 : k' = 2
    · subst e2
      rw [if_pos (show 104 + 66 * i + pk 2 = 106 + 66 * i from (show 104 + 66 * i + 2 = 106 + 66 * i by omega)), if_pos ⟨rfl, rfl, rfl⟩]
    · have n2 : pk k' ≠ 2 := fun z => e2 (pk_i k' k1 2 (by omega) k2 k3 (by omega) (by omega) z)
      rw [if_neg (by omega), if_neg (by omega), uV_k (by decide), twV_o (by omega)]
      exact (h.2.2 i hi).1 k' k1 k2 k3
  · rcases (show c = 0 ∨ c = 1 by omega) with ec | ec
    · subst ec
      obtain ⟨w1, w2, w3, w4⟩ := h.2.1.2.2 i hi 1 (by omega)
      have w5 := (h.2.2 i hi).2.2 1 (by omega)
      have o : ∀ d, d < 25 → twR ρ i (120 + 66 * i + d) = ρ (120 + 66 * i + 25 * 1 + d) := fun d hd => by
        unfold twR
        rw [if_pos (by omega)]
        exact congrArg ρ (by omega)
      rw [tkN_A, if_pos rfl, show 120 + 66 * i + 25 * 0 = 120 + 66 * i from by omega]
      refine ⟨⟨(o 0 (by omega)).trans w1, w2, fun k hk => ?_, fun k k2 => ?_⟩, fun k k1 k2 => ?_⟩
      · rw [tkN_s (by omega) (by omega), Nat.add_assoc, o _ (by omega), ← Nat.add_assoc]
        exact w3 k hk
      · rw [tkN_s (by omega) (by omega), Nat.add_assoc, o _ (by omega), ← Nat.add_assoc, Nat.add_assoc (120 + 66 * i) 13, o _ (by omega), ← Nat.add_assoc]
        exact w4 k k2
      · rw [em, tkN_s (by omega) (by omega), Nat.add_assoc, o _ (by omega), ← Nat.add_assoc]
        exact w5 k k1 k2
    · subst ec
      rw [tkN_B, if_pos rfl]
      refine ⟨⟨?_, by omega, fun k hk => by omega, fun k k2 => by omega⟩, fun k k1 k2 => by omega⟩
      unfold twR
      rw [if_neg (by omega), if_pos (by omega)]
      rfl
