/-! best ways: what the searches find -/
abbrev Bst : Type := Nat × Nat × (Nat → Nat)
def upf (P : Nat → Nat) (n x : Nat) : Nat → Nat := fun k => if k = n then x else P k
theorem upf_s {P : Nat → Nat} {n x : Nat} : upf P n x n = x := if_pos rfl
theorem upf_o {P : Nat → Nat} {n x k : Nat} (h : k ≠ n) : upf P n x k = P k := if_neg h
/-- kept if better -/
def kb (b : Bst) (n d : Nat) (P : Nat → Nat) : Bst := if b.1 = 0 ∨ d < b.2.1 ∨ (d = b.2.1 ∧ n < b.1) then (n, d, P) else b
/-- may x be the next one -/
def okn (lk : Nat → Nat → Int) (op : Nat → Bool) (n : Nat) (P : Nat → Nat) (x : Nat) : Bool := decide (lk (P (n - 1)) x ≠ -1) && (op (lk (P (n - 1)) x).toNat && !ny (fun k => decide (P k = x)) 0 n)
def vlp (lk : Nat → Nat → Int) (op : Nat → Bool) (dl : Nat → Nat) (rec : Nat → (Nat → Nat) → Nat → Bst → Bst) (n : Nat) (P : Nat → Nat) (d : Nat) : Nat → Nat → Bst → Bst
  | _, 0, b => b
  | x, k + 1, b => vlp lk op dl rec n P d (x + 1) k (if okn lk op n P x = true then rec (n + 1) (upf P n x) (d + dl (lk (P (n - 1)) x).toNat) b else b)
def vs (N t : Nat) (lk : Nat → Nat → Int) (op : Nat → Bool) (dl : Nat → Nat) : Nat → Nat → (Nat → Nat) → Nat → Bst → Bst
  | 0, n, P, d, b => if P (n - 1) = t then kb b n d P else b
  | r + 1, n, P, d, b => if P (n - 1) = t then kb b n d P else vlp lk op dl (vs N t lk op dl r) n P d 0 N b
section
variable {N t : Nat} {lk : Nat → Nat → Int} {op : Nat → Bool} {dl : Nat → Nat}
theorem vlp_S {rec : Nat → (Nat → Nat) → Nat → Bst → Bst} {n d x k : Nat} {P : Nat → Nat} {b : Bst} : vlp lk op dl rec n P d x (k + 1) b = vlp lk op dl rec n P d (x + 1) k (if okn lk op n P x = true then rec (n + 1) (upf P n x) (d + dl (lk (P (n - 1)) x).toNat) b else b) := rfl
theorem vs_t {r n d : Nat} {P : Nat → Nat} {b : Bst} (h : P (n - 1) = t) : vs N t lk op dl r n P d b = kb b n d P := by
  cases r <;> exact if_pos h
theorem vs_S {r n d : Nat} {P : Nat → Nat} {b : Bst} (h : P (n - 1) ≠ t) : vs N t lk op dl (r + 1) n P d b = vlp lk op dl (vs N t lk op dl r) n P d 0 N b := if_neg h
theorem vs_0 {n d : Nat} {P : Nat → Nat} {b : Bst} (h : P (n - 1) ≠ t) : vs N t lk op dl 0 n P d b = b := if_neg h
/-- what is worse changes nothing -/
theorem vs_w : ∀ {r n d : Nat} {P : Nat → Nat} {b : Bst}, b.1 ≠ 0 → b.2.1 < d → vs N t lk op dl r n P d b = b := by
  intro r
  induction r with
  | zero =>
    intro n d P b h1 h2
    by_cases e : P (n - 1) = t
    · rw [vs_t e]
      exact if_neg (by omega)
    · exact vs_0 e
  | succ r ih =>
    intro n d P b h1 h2
    by_cases e : P (n - 1) = t
    · rw [vs_t e]
      exact if_neg (by omega)
    · rw [vs_S e]
      have : ∀ k x, vlp lk op dl (vs N t lk op dl r) n P d x k b = b := by
        intro k
        induction k with
        | zero => exact fun _ => rfl
        | succ k ihk =>
          intro x
          rw [vlp_S, ih h1 (by omega)]
          rw [show (if okn lk op n P x = true then b else b) = b from by split <;> rfl]
          exact ihk (x + 1)
      exact this N 0
theorem vs_p (hd : ∀ j, op j = true → 1 ≤ dl j) {r n d : Nat} {P : Nat → Nat} {b : Bst} (h0 : P (n - 1) ≠ t) (h1 : b.1 ≠ 0) (h2 : b.2.1 ≤ d) : vs N t lk op dl r n P d b = b := by
  cases r with
  | zero => exact vs_0 h0
  | succ r =>
    rw [vs_S h0]
    have : ∀ k x, vlp lk op dl (vs N t lk op dl r) n P d x k b = b := by
      intro k
      induction k with
      | zero => exact fun _ => rfl
      | succ k ihk =>
        intro x
        rw [vlp_S]
        by_cases e : okn lk op n P x = true
        · have : op (lk (P (n - 1)) x).toNat = true := by
            unfold okn at e
            rw [Bool.and_eq_true, Bool.and_eq_true] at e
            exact e.2.1
          have := hd _ this
          rw [if_pos e, vs_w h1 (by omega)]
          exact ihk (x + 1)
        · rw [if_neg e]
          exact ihk (x + 1)
    exact this N 0
/-- nothing to be done from x on -/
theorem vlp_n {rec : Nat → (Nat → Nat) → Nat → Bst → Bst} {n d : Nat} {P : Nat → Nat} {b : Bst} : ∀ {k x : Nat}, (∀ y, x ≤ y → y < x + k → okn lk op n P y = false) → vlp lk op dl rec n P d x k b = b := by
  intro k
  induction k with
  | zero => exact fun _ => rfl
  | succ k ih =>
    intro x h
    rw [vlp_S, h x (by omega) (by omega), if_neg (by decide)]
    exact ih (fun y a1 a2 => h y (by omega) (by omega))
/-- on to the next one -/
theorem vlp_y {rec : Nat → (Nat → Nat) → Nat → Bst → Bst} {n d : Nat} {P : Nat → Nat} {b : Bst} : ∀ {k x y : Nat}, x ≤ y → y < x + k → okn lk op n P y = true → (∀ z, x ≤ z → z < y → okn lk op n P z = false) → vlp lk op dl rec n P d x k b = vlp lk op dl rec n P d (y + 1) (x + k - (y + 1)) (rec (n + 1) (upf P n y) (d + dl (lk (P (n - 1)) y).toNat) b) := by
  intro k
  induction k with
  | zero => intro x y h1 h2; omega
  | succ k ih =>
    intro x y h1 h2 h3 h4
    by_cases e : x = y
    · subst e
      rw [vlp_S, if_pos h3, show x + (k + 1) - (x + 1) = k by omega]
    · rw [vlp_S, h4 x (by omega) (by omega), if_neg (by decide), ih (y := y) (by omega) (by omega) h3 (fun z a1 a2 => h4 z (by omega) a2), show x + 1 + k - (y + 1) = x + (k + 1) - (y + 1) by omega]
/-- a path: nodes, adjacent, different, from f0 on -/
def pth (N f0 : Nat) (lk : Nat → Nat → Int) (n : Nat) (P : Nat → Nat) : Prop := (∀ k, k < n → P k < N) ∧ (∀ k, 1 ≤ k → k < n → lk (P (k - 1)) (P k) ≠ -1) ∧ (∀ k k', k < n → k' < n → P k = P k' → k = k') ∧ P 0 = f0
/-- nothing, or a way from f0 to t -/
def bok (N f0 t : Nat) (lk : Nat → Nat → Int) (b : Bst) : Prop := b.2.1 ≤ 54 ∧ b.1 ≤ 6 ∧ (b.1 ≠ 0 → 2 ≤ b.1 ∧ pth N f0 lk b.1 b.2.2 ∧ b.2.2 (b.1 - 1) = t)
theorem pth_up {f0 n x : Nat} {P : Nat → Nat} (hn : 1 ≤ n) (h : pth N f0 lk n P) (hx : x < N) (ho : okn lk op n P x = true) : pth N f0 lk (n + 1) (upf P n x) := by
  obtain ⟨h1, h2, h3, h4⟩ := h
  unfold okn at ho
  rw [Bool.and_eq_true, Bool.and_eq_true, Bool.not_eq_true'] at ho
  have o1 := of_decide_eq_true ho.1
  have o3 : ∀ k, k < n → P k ≠ x := fun k hk e => by
    have : ny (fun k => decide (P k = x)) 0 n = true := ny_iff.mpr ⟨k, by omega, by omega, decide_eq_true e⟩
    rw [this] at ho
    exact Bool.noConfusion ho.2.2
  refine ⟨fun k hk => ?_, fun k k1 k2 => ?_, fun k k' k1 k2 e => ?_, by rw [upf_o (by omega)]; exact h4⟩
  · by_cases e : k = n
    · rw [e, upf_s]; exact hx
    · rw [upf_o e]; exact h1 k (by omega)
  · by_cases e : k = n
    · rw [e, upf_s, upf_o (by omega)]; exact o1
    · rw [upf_o e, upf_o (by omega)]; exact h2 k k1 (by omega)
  · by_cases e1 : k = n
    · by_cases e2 : k' = n
      · omega
      · rw [e1, upf_s, upf_o e2] at e
        exact absurd e.symm (o3 k' (by omega))
    · by_cases e2 : k' = n
      · rw [e2, upf_s, upf_o e1] at e
        exact absurd e (o3 k (by omega))
      · rw [upf_o e1, upf_o e2] at e
        exact h3 k k' (by omega) (by omega) e
theorem vs_ok {f0 : Nat} (hft : f0 ≠ t) (hd : ∀ j, op j = true → dl j ≤ 9) : ∀ {r n d : Nat} {P : Nat → Nat} {b : Bst}, 1 ≤ n → n + r = 6 → d ≤ 9 * (n - 1) → pth N f0 lk n P → bok N f0 t lk b → bok N f0 t lk (vs N t lk op dl r n P d b) := by
  have term : ∀ {n d : Nat} {P : Nat → Nat} {b : Bst}, 1 ≤ n → n ≤ 6 → d ≤ 9 * (n - 1) → pth N f0 lk n P → P (n - 1) = t → bok N f0 t lk b → bok N f0 t lk (kb b n d P) := by
    intro n d P b h1 h6 hd' hp ht hb
    unfold kb
    split
    · refine ⟨by show d ≤ 54; omega, h6, fun _ => ⟨?_, hp, ht⟩⟩
      show 2 ≤ n
      by_cases e : n = 1
      · subst e
        have := hp.2.2.2
        exact absurd (this.symm.trans ht) hft
      · omega
    · exact hb
  intro r
  induction r with
  | zero =>
    intro n d P b h1 h2 h3 h4 h5
    by_cases e : P (n - 1) = t
    · rw [vs_t e]
      exact term h1 (by omega) h3 h4 e h5
    · rw [vs_0 e]
      exact h5
  | succ r ih =>
    intro n d P b h1 h2 h3 h4 h5
    by_cases e : P (n - 1) = t
    · rw [vs_t e]
      exact term h1 (by omega) h3 h4 e h5
    · rw [vs_S e]
      have : ∀ k x (b : Bst), x + k = N → bok N f0 t lk b → bok N f0 t lk (vlp lk op dl (vs N t lk op dl r) n P d x k b) := by
        intro k
        induction k with
        | zero => exact fun _ _ _ h => h
        | succ k ihk =>
          intro x b hx hb
          rw [vlp_S]
          refine ihk (x + 1) _ (by omega) ?_
          by_cases e : okn lk op n P x = true
          · rw [if_pos e]
            have ho : op (lk (P (n - 1)) x).toNat = true := by
              unfold okn at e
              rw [Bool.and_eq_true, Bool.and_eq_true] at e
              exact e.2.1
            have := hd _ ho
            exact ih (by omega) (by omega) (by omega) (pth_up h1 h4 (by omega) e) hb
          · rw [if_neg e]
            exact hb
      exact this N 0 b (by omega) h5
/-- how many turns a search takes at most -/
def cst : Nat → Nat → Nat
  | 0, _ => 1
  | r + 1, k => 1 + k * (1 + cst r 10)
theorem cst_1 {r k : Nat} : 1 ≤ cst r k := by
  cases r with
  | zero => exact Nat.le_refl _
  | succ r => unfold cst; omega
theorem cst_m {r k k' : Nat} (h : k ≤ k') : cst r k ≤ cst r k' := by
  cases r with
  | zero => exact Nat.le_refl _
  | succ r =>
    unfold cst
    have := Nat.mul_le_mul_right (1 + cst r 10) h
    omega
theorem cst_S {r k k' : Nat} (h : k' + 1 ≤ k) : cst (r + 1) k' + (1 + cst r 10) ≤ cst (r + 1) k := by
  show 1 + k' * (1 + cst r 10) + (1 + cst r 10) ≤ 1 + k * (1 + cst r 10)
  have := Nat.mul_le_mul_right (1 + cst r 10) h
  rw [Nat.add_mul, Nat.one_mul] at this
  omega
theorem cst_5 : cst 5 10 = 222221 := by decide
end
