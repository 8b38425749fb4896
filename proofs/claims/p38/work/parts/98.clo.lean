/-! closings: the class's and the reference's -/
/-- how many packets are so -/
def lc (q : (Nat → Int32) → Bool) (l : List (Nat → Int32)) : Nat := nc (fun p => match l[p]? with | some r => q r | none => false) 0 l.length
theorem sg_at {V : VV} : ∀ {n a p : Nat}, p < n → (sg V a n)[p]? = some (V 18 (a + p)) := by
  intro n
  induction n with
  | zero => intro a p h; omega
  | succ n ih =>
    intro a p h
    rw [sg_S]
    cases p with
    | zero => rfl
    | succ p =>
      rw [List.getElem?_cons_succ, ih (by omega), show a + 1 + p = a + (p + 1) by omega]
theorem lc_sg {V : VV} {q : (Nat → Int32) → Bool} {n : Nat} : lc q (sg V 0 n) = nc (fun p => q (V 18 p)) 0 n := by
  unfold lc
  rw [sg_l]
  refine nc_c (fun p _ hp => ?_)
  rw [sg_at (by omega), Nat.zero_add]
theorem lc_r {ρ : Nat → Int32} {l : List (Nat → Int32)} {q : (Nat → Int32) → Bool} {q' : Nat → Bool} (h : ∀ p r, l[p]? = some r → q' p = q r) : nc q' 0 l.length = lc q l := by
  unfold lc
  refine nc_c (fun p _ hp => ?_)
  have e : l[p]? = some l[p] := List.getElem?_eq_getElem (by omega)
  rw [e]
  exact h p _ e
theorem lc_0 {l : List (Nat → Int32)} {q : (Nat → Int32) → Bool} (h : lc q l = 0) : ∀ r, r ∈ l → q r = false := by
  intro r hr
  obtain ⟨p, hp⟩ := List.getElem?_of_mem hr
  have hl := (List.getElem?_eq_some_iff.mp hp).1
  have z : ∀ {f : Nat → Bool} {n j : Nat}, nc f j n = 0 → ∀ i, j ≤ i → i < j + n → f i = false := by
    intro f n
    induction n with
    | zero => intro j _ i h1 h2; omega
    | succ n ih =>
      intro j h i h1 h2
      unfold nc at h
      by_cases e : i = j
      · subst e
        cases ef : f i with
        | false => rfl
        | true => rw [ef, if_pos rfl] at h; omega
      · exact ih (j := j + 1) (by omega) i (by omega) (by omega)
  have := z h p (by omega) (by omega)
  rw [hp] at this
  exact this
theorem er_cs {V : VV} {i : Nat} : csE (er V) i = er (csE V i) := by
  symm
  refine er_x (fun kd a k h => ?_) (fun a k => ?_)
  · unfold csE
    rw [show eA (er V) i = eA V i from rfl, show eK (er V) = eK V from rfl, ← er_gvL]
    unfold crV
    have e : ∀ a k, uV (rnV (gvL V i 0 1 (eA V i - 1)) i 120) 0 0 5 (nn (eK V - 1)) kd a k = uV (rnV (er (gvL V i 0 1 (eA V i - 1))) i 120) 0 0 5 (nn (eK V - 1)) kd a k := fun a k => by
      rw [uV_at, uV_at]
      unfold rnV
      rw [er_n (V := gvL V i 0 1 (eA V i - 1)) h, er_n (V := gvL V i 0 1 (eA V i - 1)) (show 6 ≠ 18 by decide)]
    rw [e, e]
  · unfold csE
    rw [crV_o (by omega), uV_k (by omega), rnV_o (by omega), gvL_o (by omega) (by omega), er_18]
theorem sg_map {V V' : VV} {f : (Nat → Int32) → Nat → Int32} : ∀ {n a : Nat}, (∀ p, a ≤ p → p < a + n → V' 18 p = f (V 18 p)) → sg V' a n = (sg V a n).map f := by
  intro n
  induction n with
  | zero => exact fun _ => rfl
  | succ n ih =>
    intro a h
    rw [sg_S, sg_S, List.map_cons, h a (by omega) (by omega), ih (fun p a1 a2 => h p (by omega) (by omega))]
/-- the answer of a closing -/
def csA (E : VV) (l : List (Nat → Int32)) (i : Nat) : Int32 := if E 9 i 2 ≠ 0 then 2 else if 0 < E 9 i 3 ∨ 0 < lc (fun r => decide (r 0 = nn i)) l then 8 else 0
section
variable {H : fm_H} {s : Nat} {m : fm_M}
theorem c_closeS (hS : kS H s) {E : VV} {l : List (Nat → Int32)} (ha : aS m s E l) (hI : iG E l) {i : Nat} (hi : i < eK E) : fE (f_X7_closeCircuit H s (nn i) m) (fun r m' => r = csA E l i ∧ fr s (s + 160) m m' ∧ (r ≠ 0 → m' = m) ∧ (r = 0 → aS m' s (csE E i) (l.map (dcR i)))) := by
  obtain ⟨a1, a2, a3, a4, a5, a6⟩ := ha
  have hGV : vG (cv m s) := by
    rw [← a2] at a6
    exact a6
  have hi' : i < eK (cv m s) := by rw [← a2] at hi; exact hi
  have eP' : eP (cv m s) = l.length := by
    have e6 : cv m s 0 0 6 = nn l.length := by
      refine Eq.trans ?_ a4
      rw [← a2]
      rfl
    unfold eP
    rw [e6, nn_t (by omega)]
    rfl
  have e2 : cv m s 9 i 2 = E 9 i 2 := by rw [← a2]; rfl
  have e3 : cv m s 9 i 3 = E 9 i 3 := by rw [← a2]; rfl
  have elc : nc (fun p => decide (cv m s 18 p 0 = nn i)) 0 (eP (cv m s)) = lc (fun r => decide (r 0 = nn i)) l := by
    rw [eP', ← lc_sg (V := cv m s) (q := fun r => decide (r 0 = nn i)), a3]
  refine fE_w (c_closeCircuit hS a1 rfl hGV hi') (fun r m' h => ?_)
  rw [e2, e3, elc] at h
  unfold csA
  rcases h with ⟨h1, rfl, rfl⟩ | ⟨h1, h2, rfl, rfl⟩ | ⟨h1, h2, h3, rfl, h4⟩
  · rw [if_pos h1]
    exact ⟨rfl, ⟨fun _ _ _ => ⟨rfl, rfl⟩, rfl⟩, fun _ => rfl, fun z => absurd z (by decide)⟩
  · rw [if_neg (fun z => z h1), if_pos h2]
    exact ⟨rfl, ⟨fun _ _ _ => ⟨rfl, rfl⟩, rfl⟩, fun _ => rfl, fun z => absurd z (by decide)⟩
  · rw [if_neg (fun z => z h1), if_neg (fun z => by rcases z with z | z; exact h2 z; omega)]
    refine ⟨rfl, h4.2.2, fun z => absurd rfl z, fun _ => ?_⟩
    have hp : ∀ r, r ∈ l → r 0 ≠ nn i := fun r hr => of_decide_eq_false (lc_0 h3 r hr)
    have hI2 := cs_iG hI hi h1 hp
    have e18 : ∀ p, p < l.length → crV (uV (dcV (rnV (gvL (cv m s) i 0 1 (eA (cv m s) i - 1)) i 120) i (eP (cv m s))) 0 0 5 (nn (eK (cv m s) - 1))) (csp i (eK (cv m s))) 18 p = dcR i (cv m s 18 p) := fun p hp => by
      have e0 : rnV (gvL (cv m s) i 0 1 (eA (cv m s) i - 1)) i 120 18 p = cv m s 18 p := funext fun k => (rnV_o (by omega)).trans (gvL_o (by omega) (by omega))
      rw [← e0, ← dcV_r (V := rnV (gvL (cv m s) i 0 1 (eA (cv m s) i - 1)) i 120) (i := i) (a := eP (cv m s)) (by omega)]
      funext k
      rw [crV_o (by omega), uV_k (by omega)]
    refine ⟨h4.2.1, ?_, ?_, ?_, by rw [List.length_map]; exact a5, hI2.1.1⟩
    · rw [h4.1, ← a2, er_cs]
      refine (er_x (W := er (csE (cv m s) i)) (fun kd a k h => ?_) (fun a k => er_18)).trans rfl
      rw [er_n h]
      unfold csE crV
      rw [uV_at, uV_at, uV_at, uV_at, dcV_o h, dcV_o h]
    · rw [h4.1, List.length_map, sg_map (V := cv m s) (f := dcR i) (fun p _ hp => e18 p (by omega)), a3]
    · rw [cs_o (by omega) (by omega) (by omega) (by omega), List.length_map]
      exact a4
end
