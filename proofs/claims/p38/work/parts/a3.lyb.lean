/-! the reference's search, whole -/
/-- the best way when the places from j on are still to be tried -/
def vR (N t : Nat) (lk : Nat → Nat → Int) (op : Nat → Bool) (dl : Nat → Nat) (r n : Nat) (P : Nat → Nat) (d j k : Nat) (z : Bst) : Bst := if P (n - 1) = t then z else match r with
  | 0 => z
  | r + 1 => vlp lk op dl (vs N t lk op dl r) n P d j k z
theorem tP_k {m m' : fm_M} {b n d : Nat} {P P' : Nat → Nat} (h : tP m b n P d) (e : m'.1 b 24 = m.1 b 24) (e2 : m'.1 b 25 = m.1 b 25) (e3 : ∀ k, k < n → m'.1 (b + 8) k = m.1 (b + 8) k) (e4 : ∀ k, k < n → P' k = P k) : tP m' b n P' d := ⟨e.trans h.1, e2.trans h.2.1, fun k hk => by rw [e3 k hk, e4 k hk]; exact h.2.2 k hk⟩
theorem tB_k {m m' : fm_M} {b : Nat} {z : Bst} (h : tB m b z) (e : ∀ a k, (a = b ∧ (k = 26 ∨ k = 27)) ∨ a = b + 9 ∨ a = b + 10 → m'.1 a k = m.1 a k) : tB m' b z := ⟨(e _ _ (by omega)).trans h.1, (e _ _ (by omega)).trans h.2.1, fun k hk => (e _ _ (by omega)).trans (h.2.2 k hk)⟩
theorem tU_k {m m' : fm_M} {b L : Nat} {op : Nat → Bool} (h : tU m b L op) (e : ∀ a k, (a = b ∧ (k = 26 ∨ k = 27)) ∨ a = b + 9 ∨ a = b + 10 → m'.1 a k = m.1 a k) : tU m' b L op := fun j hj => (e _ _ (by omega)).trans (h j hj)
