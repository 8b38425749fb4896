/-! counting -/
theorem sn_c {f g : Nat → Nat} : ∀ {n a : Nat}, (∀ i, a ≤ i → i < a + n → f i = g i) → sn f a n = sn g a n
  | 0, _, _ => rfl
  | n + 1, a, h => by
    unfold sn
    rw [h a (by omega) (by omega), sn_c (fun i h1 h2 => h i (by omega) (by omega))]
theorem sn_z {f : Nat → Nat} {n a : Nat} (h : ∀ i, a ≤ i → i < a + n → f i = 0) : sn f a n = 0 := by
  rw [sn_c (g := fun _ => 0) h]
  clear h
  induction n generalizing a with
  | zero => rfl
  | succ n ih => unfold sn; rw [ih]
theorem sn_add {f g : Nat → Nat} : ∀ {n a : Nat}, sn (fun i => f i + g i) a n = sn f a n + sn g a n
  | 0, _ => rfl
  | n + 1, a => by
    unfold sn
    rw [sn_add (n := n) (a := a + 1)]
    omega
/-- sums may change their order -/
theorem sn_fb {f : Nat → Nat → Nat} {b m : Nat} : ∀ {n a : Nat}, sn (fun i => sn (fun j => f i j) b m) a n = sn (fun j => sn (fun i => f i j) a n) b m
  | 0, _ => by
    show 0 = sn (fun _ => 0) b m
    exact (sn_z (fun _ _ _ => rfl)).symm
  | n + 1, a => by
    show sn (fun j => f a j) b m + sn (fun i => sn (fun j => f i j) b m) (a + 1) n = sn (fun j => f a j + sn (fun i => f i j) (a + 1) n) b m
    rw [sn_add, sn_fb (n := n) (a := a + 1)]
/-- only one counts -/
theorem sn_1 {f : Nat → Nat} {j : Nat} : ∀ {n a : Nat}, a ≤ j → j < a + n → (∀ i, a ≤ i → i < a + n → i ≠ j → f i = 0) → sn f a n = f j
  | 0, _, h1, h2, _ => by omega
  | n + 1, a, h1, h2, h => by
    unfold sn
    by_cases e : a = j
    · subst e
      rw [sn_z (fun i a1 a2 => h i (by omega) (by omega) (by omega))]
      omega
    · rw [h a (by omega) (by omega) e, sn_1 (by omega) (by omega) (fun i a1 a2 a3 => h i (by omega) (by omega) a3)]
      omega
theorem nc_sn {p : Nat → Bool} : ∀ {n a : Nat}, nc p a n = sn (fun i => if p i = true then 1 else 0) a n
  | 0, _ => rfl
  | n + 1, a => by
    unfold nc sn
    rw [nc_sn]
    try omega
theorem sn_ap {f : Nat → Nat} : ∀ {n a k : Nat}, sn f a (n + k) = sn f a n + sn f (a + n) k
  | 0, a, k => by rw [Nat.zero_add, Nat.add_zero]; show _ = 0 + _; omega
  | n + 1, a, k => by
    rw [show n + 1 + k = n + k + 1 from by omega]
    show f a + sn f (a + 1) (n + k) = f a + sn f (a + 1) n + sn f (a + (n + 1)) k
    rw [sn_ap, show a + 1 + n = a + (n + 1) from by omega]
    omega
theorem sn_sh {f : Nat → Nat} {d : Nat} : ∀ {n a : Nat}, sn f (d + a) n = sn (fun i => f (d + i)) a n
  | 0, _ => rfl
  | n + 1, a => by
    show f (d + a) + sn f (d + a + 1) n = f (d + a) + sn (fun i => f (d + i)) (a + 1) n
    rw [show d + a + 1 = d + (a + 1) from by omega, sn_sh]
/-- spaces and labels for slots -/
theorem sn_12 {f : Nat → Nat} : ∀ {n a : Nat}, sn f (a * 12) (n * 12) = sn (fun s => sn (fun l => f (s * 12 + l)) 0 12) a n
  | 0, _ => by rw [Nat.zero_mul]; rfl
  | n + 1, a => by
    rw [show (n + 1) * 12 = 12 + n * 12 from by omega, sn_ap, show a * 12 + 12 = (a + 1) * 12 from by omega, sn_12]
    show _ = sn (fun l => f (a * 12 + l)) 0 12 + sn (fun s => sn (fun l => f (s * 12 + l)) 0 12) (a + 1) n
    rw [← sn_sh (d := a * 12) (a := 0)]
    rfl
theorem nc_z {p : Nat → Bool} {n a : Nat} (h : ∀ i, a ≤ i → i < a + n → p i = false) : nc p a n = 0 := by
  rw [nc_sn]
  exact sn_z (fun i h1 h2 => by rw [h i h1 h2]; rfl)
theorem nc_cut {p : Nat → Bool} {z n : Nat} (h0 : z ≤ n) (h : ∀ i, z ≤ i → i < n → p i = false) : nc p 0 n = nc p 0 z := by
  obtain ⟨d, rfl⟩ : ∃ d, n = z + d := ⟨n - z, by omega⟩
  rw [nc_sn, nc_sn, sn_ap, ← nc_sn (a := 0 + z), nc_z (fun i a1 a2 => h i (by omega) (by omega))]
  rfl
/-- sums over the places of ways -/
def pSm (K : Nat) (ln : Nat → Nat → Nat) (g : Nat → Nat → Nat → Nat) : Nat := sn (fun i => sn (fun c => sn (fun k => g i c k) 1 (ln i c - 1)) 0 2) 0 K
theorem pSm_c {K : Nat} {ln : Nat → Nat → Nat} {g h : Nat → Nat → Nat → Nat} (e : ∀ i c k, i < K → c < 2 → 1 ≤ k → k < ln i c → g i c k = h i c k) : pSm K ln g = pSm K ln h := by
  unfold pSm
  exact sn_c (fun i _ hi => sn_c (fun c _ hc => sn_c (fun k k1 k2 => e i c k (by omega) (by omega) k1 (by omega))))
theorem pSm_fb {K : Nat} {ln : Nat → Nat → Nat} {g : Nat → Nat → Nat → Nat → Nat} {n : Nat} : pSm K ln (fun i c k => sn (fun t => g i c k t) 0 n) = sn (fun t => pSm K ln (fun i c k => g i c k t)) 0 n := by
  unfold pSm
  refine Eq.trans (sn_c (fun i _ _ => ?_)) (sn_fb (f := fun i t => sn (fun c => sn (fun k => g i c k t) 1 (ln i c - 1)) 0 2))
  refine Eq.trans (sn_c (fun c _ _ => ?_)) (sn_fb (f := fun c t => sn (fun k => g i c k t) 1 (ln i c - 1)))
  exact sn_fb
/-- each label that is had has one place -/
theorem pSm_1 {E : VV} {K : Nat} {ln : Nat → Nat → Nat} (hT : iT E K ln) (hK : K ≤ 8) {t : Nat} (ht : t < 120) : pSm K ln (fun i c k => if E (13 + 4 * c) i k = nn t then 1 else 0) = if E 5 0 t = -1 then 0 else 1 := by
  by_cases e : E 5 0 t = -1
  · rw [if_pos e]
    refine sn_z (fun i _ hi => sn_z (fun c _ hc => sn_z (fun k k1 k2 => ?_)))
    dsimp only
    rw [if_neg]
    intro z
    exact (hT.1 i c k t (by omega) (by omega) k1 (by omega) ht z).2.2 e
  · rw [if_neg e]
    obtain ⟨i, c, k, a1, a2, a3, a4, a5⟩ := hT.2.1 t ht e
    have key : ∀ i' c' k', i' < K → c' < 2 → 1 ≤ k' → k' < ln i' c' → E (13 + 4 * c') i' k' = nn t → i' = i ∧ c' = c ∧ k' = k := fun i' c' k' b1 b2 b3 b4 b5 => iT_o hT hK a1 a2 a3 a4 ht a5 b1 b2 b3 b4 b5
    unfold pSm
    rw [sn_1 (j := i) (by omega) (by omega) (fun i' _ hi' hn => sn_z (fun c' _ hc' => sn_z (fun k' k1 k2 => if_neg (fun z => hn (key i' c' k' (by omega) (by omega) k1 (by omega) z).1)))),
      sn_1 (j := c) (by omega) (by omega) (fun c' _ hc' hn => sn_z (fun k' k1 k2 => if_neg (fun z => hn (key i c' k' a1 (by omega) k1 (by omega) z).2.1))),
      sn_1 (j := k) (by omega) (by omega) (fun k' k1 k2 hn => if_neg (fun z => hn (key i c k' a1 a2 k1 (by omega) z).2.2)), if_pos a5]
/-- places counted by their labels -/
theorem pSm_t {E : VV} {K : Nat} {ln : Nat → Nat → Nat} (hT : iT E K ln) (hK : K ≤ 8) (P : Nat → Bool) {g : Nat → Nat → Nat → Nat} (h0 : ∀ i c k, i < K → c < 2 → 1 ≤ k → k < ln i c → E (13 + 4 * c) i k = -1 → g i c k = 0) (h1 : ∀ i c k t, i < K → c < 2 → 1 ≤ k → k < ln i c → t < 120 → E (13 + 4 * c) i k = nn t → g i c k = if P t = true then 1 else 0) (hs : ∀ i c k, i < K → c < 2 → 1 ≤ k → k < ln i c → E (13 + 4 * c) i k = -1 ∨ ∃ t, t < 120 ∧ E (13 + 4 * c) i k = nn t) : pSm K ln g = nc (fun t => decide (E 5 0 t ≠ -1) && P t) 0 120 := by
  have e1 : pSm K ln g = pSm K ln (fun i c k => sn (fun t => if E (13 + 4 * c) i k = nn t then (if P t = true then 1 else 0) else 0) 0 120) := by
    refine pSm_c (fun i c k a1 a2 a3 a4 => ?_)
    rcases hs i c k a1 a2 a3 a4 with h | ⟨t, t1, t2⟩
    · rw [h0 i c k a1 a2 a3 a4 h, sn_z]
      intro t _ t2
      exact if_neg (fun z => nn_m1 (a := t) (by omega) (z.symm.trans h))
    · rw [h1 i c k t a1 a2 a3 a4 t1 t2, sn_1 (j := t) (by omega) (by omega) (fun t' _ h2 hn => if_neg (fun z => hn ((nn_eq (by omega) (by omega)).mp (z.symm.trans t2)))), if_pos t2]
  rw [e1, pSm_fb, nc_sn]
  refine sn_c (fun t _ ht => ?_)
  have e2 : pSm K ln (fun i c k => if E (13 + 4 * c) i k = nn t then (if P t = true then 1 else 0) else 0) = if P t = true then pSm K ln (fun i c k => if E (13 + 4 * c) i k = nn t then 1 else 0) else 0 := by
    by_cases p : P t = true
    · rw [if_pos p, if_pos p]
    · rw [if_neg p, if_neg p]
      refine sn_z (fun i _ hi => sn_z (fun c _ hc => sn_z (fun k k1 k2 => ?_)))
      dsimp only
      split <;> rfl
  rw [e2, pSm_1 hT hK (by omega)]
  by_cases e : E 5 0 t = -1
  · rw [if_pos e, if_neg (show ¬ ((decide (E 5 0 t ≠ -1) && P t) = true) by rw [decide_eq_false (fun z => z e), Bool.false_and]; decide)]
    split <;> rfl
  · rw [if_neg e, decide_eq_true e, Bool.true_and]
