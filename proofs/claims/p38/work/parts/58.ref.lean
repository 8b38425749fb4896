/-! the reference: its array, and what it reads there -/
/-- a small natural number as a 32-bit one -/
def nn (n : Nat) : Int32 := ii n
theorem nn_ii (n : Nat) : nn n = ii n := rfl
theorem nn_add (a b : Nat) : nn a + nn b = nn (a + b) := by
  unfold nn
  rw [ii_add]
  exact congrArg ii (by omega)
theorem nn_mul (a b : Nat) : nn a * nn b = nn (a * b) := by
  unfold nn
  rw [ii_mul]
  exact congrArg ii (by rw [Int.natCast_mul])
theorem nn_sub {a b : Nat} (h : b ≤ a) : nn a - nn b = nn (a - b) := by
  unfold nn
  rw [ii_sub]
  exact congrArg ii (by omega)
theorem nn_tn {a : Nat} (h : a < 2147483648) : (nn a).toNatClampNeg = a := ii_tnn h
theorem nn_in {a n : Nat} (h : a < 2147483648) : px_inb (nn a) n = true ↔ a < n := by
  unfold nn
  rw [ii_inb (by omega) (by omega)]
  omega
theorem nn_lt {a b : Nat} (h1 : a < 2147483648) (h2 : b < 2147483648) : nn a < nn b ↔ a < b := by
  unfold nn
  rw [ii_lt (by omega) (by omega) (by omega) (by omega)]
  omega
theorem nn_le {a b : Nat} (h1 : a < 2147483648) (h2 : b < 2147483648) : nn a ≤ nn b ↔ a ≤ b := by
  unfold nn
  rw [ii_le (by omega) (by omega) (by omega) (by omega)]
  omega
theorem nn_eq {a b : Nat} (h1 : a < 2147483648) (h2 : b < 2147483648) : nn a = nn b ↔ a = b := by
  unfold nn
  rw [ii_eq (by omega) (by omega) (by omega) (by omega)]
  omega
theorem nn_m1 {a : Nat} (h1 : a < 2147483648) : nn a ≠ -1 := by
  unfold nn
  rw [ii_m1]
  intro h
  rw [ii_eq (by omega) (by omega) (by omega) (by omega)] at h
  omega
theorem nl_0 : (0 : Int32) = nn 0 := by decide
theorem nl_1 : (1 : Int32) = nn 1 := by decide
theorem nl_2 : (2 : Int32) = nn 2 := by decide
theorem nl_3 : (3 : Int32) = nn 3 := by decide
theorem nl_4 : (4 : Int32) = nn 4 := by decide
theorem nl_5 : (5 : Int32) = nn 5 := by decide
theorem nl_6 : (6 : Int32) = nn 6 := by decide
theorem nl_7 : (7 : Int32) = nn 7 := by decide
theorem nl_8 : (8 : Int32) = nn 8 := by decide
theorem nl_9 : (9 : Int32) = nn 9 := by decide
theorem nl_10 : (10 : Int32) = nn 10 := by decide
theorem nl_11 : (11 : Int32) = nn 11 := by decide
theorem nl_12 : (12 : Int32) = nn 12 := by decide
theorem nl_13 : (13 : Int32) = nn 13 := by decide
theorem nl_14 : (14 : Int32) = nn 14 := by decide
theorem nl_15 : (15 : Int32) = nn 15 := by decide
theorem nl_16 : (16 : Int32) = nn 16 := by decide
theorem nl_19 : (19 : Int32) = nn 19 := by decide
theorem nl_20 : (20 : Int32) = nn 20 := by decide
theorem nl_24 : (24 : Int32) = nn 24 := by decide
theorem nl_25 : (25 : Int32) = nn 25 := by decide
theorem nl_60 : (60 : Int32) = nn 60 := by decide
theorem nl_66 : (66 : Int32) = nn 66 := by decide
theorem nl_99 : (99 : Int32) = nn 99 := by decide
theorem nl_104 : (104 : Int32) = nn 104 := by decide
theorem nl_200 : (200 : Int32) = nn 200 := by decide
theorem nl_632 : (632 : Int32) = nn 632 := by decide
theorem nl_800 : (800 : Int32) = nn 800 := by decide
theorem nl_1112 : (1112 : Int32) = nn 1112 := by decide
/-- the shape of the reference -/
def kM (H : fm_H) (b : Nat) : Prop := fm_is H b 12 ∧ (H.2.1 b 0 = b + 1 ∧ H.2.1 b 1 = b + 2 ∧ H.2.1 b 2 = b + 3 ∧ H.2.1 b 3 = b + 4 ∧ H.2.1 b 4 = b + 5 ∧ H.2.1 b 5 = b + 6 ∧ H.2.1 b 8 = b + 7 ∧ H.2.1 b 21 = b + 8 ∧ H.2.1 b 22 = b + 9 ∧ H.2.1 b 23 = b + 10 ∧ H.2.1 b 28 = b + 11) ∧
  (fm_sz H (b + 1) = 1112 ∧ fm_sz H (b + 2) = 1112 ∧ fm_sz H (b + 3) = 1112 ∧ fm_sz H (b + 4) = 2224 ∧ fm_sz H (b + 5) = 2 ∧ fm_sz H (b + 6) = 6 ∧ fm_sz H (b + 7) = 800 ∧ fm_sz H (b + 8) = 6 ∧ fm_sz H (b + 9) = 6 ∧ fm_sz H (b + 10) = 16 ∧ fm_sz H (b + 11) = 6)
theorem kM_0 {H : fm_H} {b : Nat} (h : kM H b) : H.2.1 b 0 = b + 1 := h.2.1.1
theorem kM_1 {H : fm_H} {b : Nat} (h : kM H b) : H.2.1 b 1 = b + 2 := h.2.1.2.1
theorem kM_2 {H : fm_H} {b : Nat} (h : kM H b) : H.2.1 b 2 = b + 3 := h.2.1.2.2.1
theorem kM_3 {H : fm_H} {b : Nat} (h : kM H b) : H.2.1 b 3 = b + 4 := h.2.1.2.2.2.1
theorem kM_4 {H : fm_H} {b : Nat} (h : kM H b) : H.2.1 b 4 = b + 5 := h.2.1.2.2.2.2.1
theorem kM_5 {H : fm_H} {b : Nat} (h : kM H b) : H.2.1 b 5 = b + 6 := h.2.1.2.2.2.2.2.1
theorem kM_8 {H : fm_H} {b : Nat} (h : kM H b) : H.2.1 b 8 = b + 7 := h.2.1.2.2.2.2.2.2.1
theorem kM_21 {H : fm_H} {b : Nat} (h : kM H b) : H.2.1 b 21 = b + 8 := h.2.1.2.2.2.2.2.2.2.1
theorem kM_22 {H : fm_H} {b : Nat} (h : kM H b) : H.2.1 b 22 = b + 9 := h.2.1.2.2.2.2.2.2.2.2.1
theorem kM_23 {H : fm_H} {b : Nat} (h : kM H b) : H.2.1 b 23 = b + 10 := h.2.1.2.2.2.2.2.2.2.2.2.1
theorem kM_28 {H : fm_H} {b : Nat} (h : kM H b) : H.2.1 b 28 = b + 11 := h.2.1.2.2.2.2.2.2.2.2.2.2
theorem kM_z1 {H : fm_H} {b : Nat} (h : kM H b) : fm_sz H (b + 1) = 1112 := h.2.2.1
theorem kM_z2 {H : fm_H} {b : Nat} (h : kM H b) : fm_sz H (b + 2) = 1112 := h.2.2.2.1
theorem kM_z3 {H : fm_H} {b : Nat} (h : kM H b) : fm_sz H (b + 3) = 1112 := h.2.2.2.2.1
theorem kM_z4 {H : fm_H} {b : Nat} (h : kM H b) : fm_sz H (b + 4) = 2224 := h.2.2.2.2.2.1
theorem kM_z5 {H : fm_H} {b : Nat} (h : kM H b) : fm_sz H (b + 5) = 2 := h.2.2.2.2.2.2.1
theorem kM_z6 {H : fm_H} {b : Nat} (h : kM H b) : fm_sz H (b + 6) = 6 := h.2.2.2.2.2.2.2.1
theorem kM_z7 {H : fm_H} {b : Nat} (h : kM H b) : fm_sz H (b + 7) = 800 := h.2.2.2.2.2.2.2.2.1
theorem kM_z8 {H : fm_H} {b : Nat} (h : kM H b) : fm_sz H (b + 8) = 6 := h.2.2.2.2.2.2.2.2.2.1
theorem kM_z9 {H : fm_H} {b : Nat} (h : kM H b) : fm_sz H (b + 9) = 6 := h.2.2.2.2.2.2.2.2.2.2.1
theorem kM_z10 {H : fm_H} {b : Nat} (h : kM H b) : fm_sz H (b + 10) = 16 := h.2.2.2.2.2.2.2.2.2.2.2.1
theorem kM_z11 {H : fm_H} {b : Nat} (h : kM H b) : fm_sz H (b + 11) = 6 := h.2.2.2.2.2.2.2.2.2.2.2.2
/-- only the array and what is noted on the way differ -/
def fR (b : Nat) (m m' : fm_M) : Prop := (∀ a k, a ≠ b + 1 → ¬ (a = b ∧ 18 ≤ k) → ¬ (b + 8 ≤ a ∧ a < b + 11) → m'.1 a k = m.1 a k) ∧ m'.2 = m.2
theorem fR_rf {b : Nat} {m : fm_M} : fR b m m := ⟨fun _ _ _ _ _ => rfl, rfl⟩
theorem fR_tr {b : Nat} {m m1 m2 : fm_M} (h1 : fR b m m1) (h2 : fR b m1 m2) : fR b m m2 := ⟨fun a k x y z => (h2.1 a k x y z).trans (h1.1 a k x y z), h2.2.trans h1.2⟩
/-- the array holds r -/
def rI (b : Nat) (m m' : fm_M) (r : Nat → Int32) : Prop := m'.1 (b + 1) = r ∧ fR b m m'
theorem rI_rf {b : Nat} {m : fm_M} {r : Nat → Int32} (h : m.1 (b + 1) = r) : rI b m m r := ⟨h, fR_rf⟩
theorem rI_tr {b : Nat} {m m1 m2 : fm_M} {r1 r2 : Nat → Int32} (h1 : rI b m m1 r1) (h2 : rI b m1 m2 r2) : rI b m m2 r2 := ⟨h2.1, fR_tr h1.2 h2.2⟩
theorem si_row {m : fm_M} {a k : Nat} {x : Int32} : (fm_si m a k x).1 a = pm_up (m.1 a) k x := by
  funext j
  show fm_up m.1 a k x a j = _
  unfold fm_up
  rw [up_at]
  grind
theorem si_oth {m : fm_M} {a k c : Nat} {x : Int32} (h : c ≠ a) : (fm_si m a k x).1 c = m.1 c := by
  funext j
  exact fm_up_o (fun z => h z.1)
theorem fE_rput {β : Type} {b : Nat} {m m0 : fm_M} {r0 : Nat → Int32} {k : Nat} {x : Int32} {F : fm_M → Option (β × fm_M)} {Q : β → fm_M → Prop} (h0 : rI b m m0 r0) (g : ∀ m1, rI b m m1 (pm_up r0 k x) → fE (F m1) Q) : fE (fm_bd (fm_si m0 (b + 1) k x) F) Q := by
  rw [fb_d]
  refine g _ ⟨by rw [si_row, h0.1], fR_tr h0.2 ⟨fun a j h1 _ _ => fm_up_o (fun z => h1 z.1), rfl⟩⟩
theorem fE_rscr {β : Type} {b : Nat} {m m0 : fm_M} {r0 : Nat → Int32} {k : Nat} {x : Int32} {F : fm_M → Option (β × fm_M)} {Q : β → fm_M → Prop} (h0 : rI b m m0 r0) (hk : 18 ≤ k) (g : ∀ m1, rI b m m1 r0 → m1 = fm_si m0 b k x → fE (F m1) Q) : fE (fm_bd (fm_si m0 b k x) F) Q := by
  rw [fb_d]
  refine g _ ⟨by rw [si_oth (by omega)]; exact h0.1, fR_tr h0.2 ⟨fun a j _ h2 _ => fm_up_o (fun z => h2 ⟨z.1, by omega⟩), rfl⟩⟩ rfl
section
variable {H : fm_H} {b : Nat} {m : fm_M}
/-- the link between two nodes, by its search; -1 without one -/
def lkR (r : Nat → Int32) (L : Nat) (x y : Int32) : Int := fi (fun j => decide ((r (24 + 5 * j) = x ∧ r (24 + 5 * j + 1) = y) ∨ (r (24 + 5 * j) = y ∧ r (24 + 5 * j + 1) = x))) 0 L
theorem lkR_r {r : Nat → Int32} {L : Nat} {x y : Int32} : lkR r L x y = -1 ∨ (0 ≤ lkR r L x y ∧ lkR r L x y < L) := by
  rcases fi_r (p := fun j => decide ((r (24 + 5 * j) = x ∧ r (24 + 5 * j + 1) = y) ∨ (r (24 + 5 * j) = y ∧ r (24 + 5 * j + 1) = x))) (k := L) (j := 0) with h | h
  · exact Or.inl h
  · exact Or.inr ⟨by unfold lkR; omega, by unfold lkR; omega⟩
end
