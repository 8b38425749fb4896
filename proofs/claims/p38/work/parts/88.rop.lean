/-! the reference opens a circuit -/
/-- as its search may leave it: the array, the draft, what is noted on the way -/
def gR (b : Nat) (m m' : fm_M) : Prop := (∀ a k, a ≠ b + 1 → ¬ (a = b ∧ (k = 6 ∨ k = 7 ∨ 18 ≤ k)) → ¬ (b + 8 ≤ a ∧ a < b + 12) → a ≠ b + 6 → m'.1 a k = m.1 a k) ∧ m'.2 = m.2
theorem gR_rf {b : Nat} {m : fm_M} : gR b m m := ⟨fun _ _ _ _ _ _ => rfl, rfl⟩
theorem gR_tr {b : Nat} {m m1 m2 : fm_M} (h1 : gR b m m1) (h2 : gR b m1 m2) : gR b m m2 := ⟨fun a k x y z w => (h2.1 a k x y z w).trans (h1.1 a k x y z w), h2.2.trans h1.2⟩
theorem gR_f {b : Nat} {m m' : fm_M} (h : fR b m m') : gR b m m' := ⟨fun a k x y z _ => h.1 a k x (by omega) (by omega), h.2⟩
theorem gR_7 {b : Nat} {m : fm_M} {x : Int32} : gR b m (fm_si m b 7 x) := ⟨fun a k _ h _ _ => fm_up_o (fun z => h ⟨z.1, by omega⟩), rfl⟩
theorem gR_6 {b : Nat} {m : fm_M} {x : Int32} : gR b m (fm_si m b 6 x) := ⟨fun a k _ h _ _ => fm_up_o (fun z => h ⟨z.1, by omega⟩), rfl⟩
theorem si_s {m : fm_M} {a k : Nat} {x : Int32} : (fm_si m a k x).1 a k = x := fm_up_s
theorem si_o {m : fm_M} {a k c j : Nat} {x : Int32} (h : ¬ (c = a ∧ j = k)) : (fm_si m a k x).1 c j = m.1 c j := fm_up_o h
/-- the array behind appendCircuit -/
def zR (ρ : Nat → Int32) (K j : Nat) : Nat → Int32 := fun q => if 104 + 66 * K ≤ q ∧ q < 104 + 66 * K + j then 0 else ρ q
def acR (ρ : Nat → Int32) (K : Nat) (x y : Int32) : Nat → Int32 := pm_up (pm_up (pm_up (pm_up (zR ρ K 66) (104 + 66 * K + 0) x) (104 + 66 * K + 1) y) (104 + 66 * K + 10) (-1)) 4 (nn (K + 1))
theorem acR_o {ρ : Nat → Int32} {K : Nat} {x y : Int32} {q : Nat} (h4 : q ≠ 4) (h : ¬ (104 + 66 * K ≤ q ∧ q < 170 + 66 * K)) : acR ρ K x y q = ρ q := by
  unfold acR zR
  simp (disch := omega) only [up_at, if_neg]
theorem acR_4 {ρ : Nat → Int32} {K : Nat} {x y : Int32} : acR ρ K x y 4 = nn (K + 1) := by
  unfold acR
  rw [up_at, if_pos rfl]
theorem acR_z {ρ : Nat → Int32} {K : Nat} {x y : Int32} {q : Nat} (h : 104 + 66 * K ≤ q ∧ q < 170 + 66 * K) (h0 : q ≠ 104 + 66 * K) (h1 : q ≠ 105 + 66 * K) (h10 : q ≠ 114 + 66 * K) : acR ρ K x y q = 0 := by
  unfold acR zR
  simp (disch := omega) only [up_at, if_neg, if_pos, it_T]
theorem acR_9 {ρ : Nat → Int32} {K : Nat} {x y : Int32} (hK : K < 8) (k : Nat) (h : k < 13) (h9 : k ≠ 9) (h10 : k ≠ 10) : acR ρ K x y (104 + 66 * K + pk k) = bg9 x y k := by
  rcases (show k = 0 ∨ k = 1 ∨ k = 2 ∨ k = 3 ∨ k = 4 ∨ k = 5 ∨ k = 6 ∨ k = 7 ∨ k = 8 ∨ k = 11 ∨ k = 12 by omega) with e | e | e | e | e | e | e | e | e | e | e <;> subst e
  · show acR ρ K x y (104 + 66 * K + 0) = x
    unfold acR
    simp (disch := omega) only [up_at, if_neg, if_pos, it_T]
  · show acR ρ K x y (104 + 66 * K + 1) = y
    unfold acR
    simp (disch := omega) only [up_at, if_neg, if_pos, it_T]
  · exact acR_z (q := 104 + 66 * K + 2) (by omega) (by omega) (by omega) (by omega)
  · exact acR_z (q := 104 + 66 * K + 5) (by omega) (by omega) (by omega) (by omega)
  · exact acR_z (q := 104 + 66 * K + 6) (by omega) (by omega) (by omega) (by omega)
  · exact acR_z (q := 104 + 66 * K + 7) (by omega) (by omega) (by omega) (by omega)
  · exact acR_z (q := 104 + 66 * K + 8) (by omega) (by omega) (by omega) (by omega)
  · exact acR_z (q := 104 + 66 * K + 9) (by omega) (by omega) (by omega) (by omega)
  · exact acR_z (q := 104 + 66 * K + 4) (by omega) (by omega) (by omega) (by omega)
  · exact acR_z (q := 104 + 66 * K + 11) (by omega) (by omega) (by omega) (by omega)
  · show acR ρ K x y (104 + 66 * K + 10) = -1
    unfold acR
    simp (disch := omega) only [up_at, if_neg, if_pos, it_T]
theorem zR_s {ρ : Nat → Int32} {K j : Nat} : pm_up (zR ρ K j) (104 + 66 * K + j) 0 = zR ρ K (j + 1) := by
  funext q
  unfold zR
  rw [up_at]
  by_cases e : q = 104 + 66 * K + j
  · rw [if_pos e, if_pos (by omega)]
  · rw [if_neg e]
    by_cases e2 : 104 + 66 * K ≤ q ∧ q < 104 + 66 * K + j
    · rw [if_pos e2, if_pos (by omega)]
    · rw [if_neg e2, if_neg (by omega)]
section
variable {H : fm_H} {b : Nat} {m m00 : fm_M}
/-- the reference's draft -/
def dR (b : Nat) (m : fm_M) (n : Nat) (d : Nat → Nat) : Prop := m.1 b 6 = nn n ∧ ∀ k, k < n → m.1 (b + 6) k = nn (d k)
theorem op_smE {E E1 : VV} {l : List (Nat → Int32)} {n j' : Nat} {N L : Nat → Int32} {x y : Int32} (hI : iG E l) (hK : eK E < 8) (h6 : n ≤ 6) (ht : tF (opB E n N L x y) E1 (eK E) 0 j') (hj : j' ≤ n) : smE E (gvL E1 (eK E) 0 1 (n - 1)) ∧ vG (gvL E1 (eK E) 0 1 (n - 1)) := by
  have o : ∀ kd a k, ¬ (a = eK E ∧ 9 ≤ kd ∧ kd ≤ 17) → opB E n N L x y kd a k = E kd a k := fun kd a k h => (cpV_o (by omega)).trans (bgV_o (by omega))
  have g : ∀ kd a k, kd ≠ 5 → kd ≠ 6 → kd ≠ 7 → ¬ (a = eK E ∧ 9 ≤ kd ∧ kd ≤ 17) → gvL E1 (eK E) 0 1 (n - 1) kd a k = E kd a k := fun kd a k a1 a2 a3 a4 => (gv_o ht a1 a2 a3 (by omega)).trans (o kd a k a4)
  refine ⟨⟨fun k _ _ => g _ _ _ (by omega) (by omega) (by omega) (by omega), fun k _ => g _ _ _ (by omega) (by omega) (by omega) (by omega), fun k _ => g _ _ _ (by omega) (by omega) (by omega) (by omega), fun j k _ _ => g _ _ _ (by omega) (by omega) (by omega) (by omega), fun k _ => g _ _ _ (by omega) (by omega) (by omega) (by omega), fun t ht' => ?_, fun t ht' e => ?_, fun k _ => g _ _ _ (by omega) (by omega) (by omega) (by omega), fun i k hi _ => g _ _ _ (by omega) (by omega) (by omega) (by omega), fun i c hi hc => ⟨g _ _ _ (by omega) (by omega) (by omega) (by omega), fun d k d1 d2 _ => g _ _ _ (by omega) (by omega) (by omega) (by omega)⟩⟩, ?_⟩
  · rw [gv_5 ht hj ht' (fun k k1 k2 => ?_), o _ _ _ (by omega)]
    unfold opB
    rw [cpV_at, if_neg (by omega), if_neg (by omega), if_neg (by omega), if_pos (by omega)]
  · have e' : opB E n N L x y 5 0 t ≠ -1 := by rw [o _ _ _ (by omega)]; exact e
    exact ⟨(gv_67 ht ht' (Or.inl rfl) e').trans (o _ _ _ (by omega)), (gv_67 ht ht' (Or.inr rfl) e').trans (o _ _ _ (by omega))⟩
  · have hGB : vG (opB E n N L x y) := vG_cp (vG_bg hI.1.1) (by omega) h6
    have q : ∀ kd a k, kd < 5 ∨ kd = 10 ∨ kd = 14 → gvL E1 (eK E) 0 1 (n - 1) kd a k = opB E n N L x y kd a k := fun kd a k h => gv_o ht (by omega) (by omega) (by omega) (by omega)
    exact vG_sm ⟨q _ _ _ (by omega), q _ _ _ (by omega), q _ _ _ (by omega), q _ _ _ (by omega), fun _ => q _ _ _ (by omega), fun _ => q _ _ _ (by omega), fun _ => q _ _ _ (by omega)⟩ hGB
end
