/-! THE TEXTS -/
/-- class, place in its pool, place of its first word, bytes -/
def tXS : List (String × Nat × Nat × List Nat) := [("CircuitDesk$SetupReader", 36, 56, [110, 111, 100, 101]), ("CircuitDesk$SetupReader", 46, 64, [108, 105, 110, 107]), ("CircuitDesk$SetupReader", 51, 72, [99, 105, 114, 99, 117, 105, 116]), ("CircuitDesk$SetupReader", 56, 83, [115, 101, 116]), ("CircuitDesk", 67, 90, [116, 104, 101, 32, 116, 101, 120, 116, 32, 119, 111, 117, 108, 100, 32, 98, 101, 32, 116, 111, 111, 32, 108, 111, 110, 103]), ("CircuitDesk", 81, 120, [108, 101, 110, 103, 116, 104, 32, 105, 115, 32, 111, 117, 116, 32, 111, 102, 32, 114, 97, 110, 103, 101]), ("CircuitDesk", 100, 146, [115, 112, 97, 99, 101, 32, 105, 115, 32, 111, 117, 116, 32, 111, 102, 32, 114, 97, 110, 103, 101]), ("CircuitDesk", 111, 171, [116, 104, 101, 114, 101, 32, 97, 114, 101, 32, 49, 48, 32, 110, 111, 100, 101, 115]), ("CircuitDesk", 468, 193, [116, 104, 101, 114, 101, 32, 105, 115, 32, 110, 111, 32, 115, 117, 99, 104, 32, 110, 111, 100, 101]), ("CircuitDesk", 121, 218, [98, 111, 116, 104, 32, 110, 111, 100, 101, 115, 32, 97, 114, 101, 32, 116, 104, 101, 32, 115, 97, 109, 101]), ("CircuitDesk", 123, 245, [99, 97, 112, 97, 99, 105, 116, 121, 32, 111, 114, 32, 100, 101, 108, 97, 121, 32, 105, 115, 32, 111, 117, 116, 32, 111, 102, 32, 114, 97, 110, 103, 101]), ("CircuitDesk", 132, 282, [116, 104, 101, 114, 101, 32, 105, 115, 32, 115, 117, 99, 104, 32, 97, 32, 108, 105, 110, 107, 44, 32, 111, 114, 32, 116, 104, 101, 114, 101, 32, 97, 114, 101, 32, 49, 54, 32, 108, 105, 110, 107, 115]), ("CircuitDesk", 473, 329, [116, 104, 101, 114, 101, 32, 105, 115, 32, 110, 111, 32, 115, 117, 99, 104, 32, 108, 105, 110, 107]), ("CircuitDesk", 148, 354, [119, 104, 97, 116, 32, 105, 115, 32, 111, 117, 116, 32, 111, 102, 32, 114, 97, 110, 103, 101]), ("CircuitDesk", 150, 378, [118, 97, 108, 117, 101, 32, 105, 115, 32, 111, 117, 116, 32, 111, 102, 32, 116, 104, 101, 32, 114, 97, 110, 103, 101, 32, 111, 102, 32, 116, 104, 101, 32, 115, 101, 116, 116, 105, 110, 103]), ("CircuitDesk", 234, 422, [116, 104, 101, 114, 101, 32, 105, 115, 32, 110, 111, 32, 115, 117, 99, 104, 32, 108, 97, 98, 101, 108]), ("CircuitDesk", 283, 448, [116, 104, 101, 32, 100, 114, 97, 102, 116, 32, 104, 97, 115, 32, 54, 32, 110, 111, 100, 101, 115, 44, 32, 111, 114, 32, 116, 104, 101, 32, 110, 111, 100, 101, 32, 97, 108, 114, 101, 97, 100, 121]), ("CircuitDesk", 285, 494, [116, 104, 101, 32, 110, 111, 100, 101, 32, 104, 97, 115, 32, 110, 111, 32, 108, 105, 110, 107, 32, 116, 111, 32, 116, 104, 101, 32, 108, 97, 115, 116, 32, 111, 110, 101]), ("CircuitDesk", 290, 534, [98, 111, 116, 104, 32, 110, 111, 100, 101, 115, 32, 97, 114, 101, 32, 116, 104, 101, 32, 115, 97, 109, 101, 44, 32, 111, 114, 32, 98, 97, 110, 100, 32, 105, 115, 32, 111, 117, 116, 32, 111, 102, 32, 114, 97, 110, 103, 101]), ("CircuitDesk", 480, 586, [105, 110, 100, 101, 120, 32, 105, 115, 32, 110, 101, 103, 97, 116, 105, 118, 101]), ("CircuitDesk", 313, 607, [98, 97, 110, 100, 32, 111, 114, 32, 112, 101, 114, 105, 111, 100, 32, 105, 115, 32, 111, 117, 116, 32, 111, 102, 32, 114, 97, 110, 103, 101]), ("CircuitDesk", 478, 641, [116, 104, 101, 114, 101, 32, 105, 115, 32, 110, 111, 32, 115, 117, 99, 104, 32, 99, 105, 114, 99, 117, 105, 116]), ("CircuitDesk", 339, 669, [109, 97, 110, 121, 32, 105, 115, 32, 111, 117, 116, 32, 111, 102, 32, 114, 97, 110, 103, 101]), ("CircuitDesk", 482, 693, [116, 105, 99, 107, 115, 32, 105, 115, 32, 111, 117, 116, 32, 111, 102, 32, 114, 97, 110, 103, 101]), ("CircuitDesk", 407, 718, [116, 104, 101, 114, 101, 32, 105, 115, 32, 110, 111, 32, 115, 117, 99, 104, 32, 112, 97, 99, 107, 101, 116]), ("CircuitDesk", 484, 745, [115, 108, 111, 116, 32, 105, 115, 32, 111, 117, 116, 32, 111, 102, 32, 114, 97, 110, 103, 101]), ("CircuitDesk", 463, 769, [110, 111, 116, 104, 105, 110, 103, 32, 105, 115, 32, 115, 97, 118, 101, 100, 32, 116, 104, 101, 114, 101]), ("CircuitDeskModel", 173, 795, [110, 111, 100, 101]), ("CircuitDeskModel", 178, 804, [108, 105, 110, 107]), ("CircuitDeskModel", 183, 813, [99, 105, 114, 99, 117, 105, 116]), ("CircuitDeskModel", 167, 825, [115, 101, 116])]
abbrev tVa (tm : Term) : Term := .field tm "java/lang/String" "value" "[B"
def tWd (tm : Term) (u : List Nat) : List Cond := [.exactly tm "java/lang/String", .eq (.field tm "java/lang/String" "coder" "B") (.int 0), .arrayOf (tVa tm) .byte, .eq (.length (tVa tm)) (.int (Int32.ofNat u.length))] ++ (List.range u.length).map fun j => .eq (.elem (tVa tm) (.int (Int32.ofNat j))) (.int (Int32.ofNat (u.getD j 0)))
abbrev tGv : Cond := Jvm.Cond.and given_1 narrow_1
set_option maxRecDepth 100000 in
theorem tXS_ok : tXS.all (fun e => decide (((flatC tGv).drop e.2.2.1).take (4 + e.2.2.2.length) = tWd (.string e.1 e.2.1) e.2.2.2)) = true := by decide +kernel
def tHas (o : String) (i : Nat) : Bool := tXS.any fun e => decide (e.1 = o) && decide (e.2.1 = i)
def tIs (w : Cond) : Bool := match w with
  | .stringRef o i _ => tHas o i
  | _ => true
set_option maxRecDepth 100000 in
theorem tCov : lw_tbl.all tIs = true := by decide +kernel
theorem tCov_in {o tx : String} {i : Nat} (h : Cond.stringRef o i tx ∈ lw_tbl) : ∃ e ∈ tXS, e.1 = o ∧ e.2.1 = i := by
  have h1 := List.all_eq_true.mp tCov _ h
  have h3 : tHas o i = true := h1
  unfold tHas at h3
  obtain ⟨e, he, h2⟩ := List.any_eq_true.mp h3
  simp only [Bool.and_eq_true, decide_eq_true_eq] at h2
  exact ⟨e, he, h2⟩
section TXT
variable {s : State}
/-- a text at a with its bytes at v -/
def tqA (s : State) (a v N : Nat) (f : Nat → Int32) : Prop := ∃ cT cV : Cell, s.heap[a]? = some cT ∧ s.heap[v]? = some cV ∧ pm_aS s (fun k => if k = 0 then .ref v else .int 0) cT ∧ s.isArrayOf cV .byte ∧ cV.vm ≠ .unknown ∧ cV.slots.size = N ∧ N < 2 ^ 31 ∧ (∀ j, j < N → cV.slots[j]? = some (.int (f j))) ∧ s.fieldOf? a "java/lang/String" "value" "[B" = some (.ref v)
theorem tx_len {args : Array Value} {T : Term} {n : Int32} (h : (Term.length T).eval args s none [] s = some (.int n)) : ∃ t cell, T.eval args s none [] s = some (.ref t) ∧ s.arrayAt? t = some cell ∧ cell.slots.size < 2147483648 := by
  obtain ⟨t, cell, ht, hat, hv⟩ := Term.length_spec h
  refine ⟨t, cell, ht, hat, ?_⟩
  by_cases hge : cell.slots.size < 2147483648
  · exact hge
  · exfalso
    simp [Term.eval, ht, hat, hge] at h
theorem tx_of {args : Array Value} {tm : Term} {N : Nat} {f : Nat → Int32} (hN : N < 2 ^ 31) (hex : (Cond.exactly tm "java/lang/String").before args s = true) (hco : (Cond.eq (.field tm "java/lang/String" "coder" "B") (.int 0)).before args s = true) (har : (Cond.arrayOf (tVa tm) .byte).before args s = true) (hle : (Cond.eq (.length (tVa tm)) (.int (Int32.ofNat N))).before args s = true) (hel : ∀ j, j < N → (Cond.eq (.elem (tVa tm) (.int (Int32.ofNat j))) (.int (f j))).before args s = true) : ∃ a v, tm.eval args s none [] s = some (.ref a) ∧ tqA s a v N f := by
  obtain ⟨a, c, cA, kA, q1, q2, q3, q4, q5, q6, -⟩ := Cond.exactly_spec (args := args) (first := s) (o := none) (s := s) (idx := []) (t := tm) (cls := "java/lang/String") hex
  have hlen := va_eqt hle
  obtain ⟨t, ht, cV, t1, t2, t3, t4, t5, t6, -⟩ := va_Tof (f := fun j => .int (f j)) (A := fun _ => False) hN har hlen (fun j hj => va_eqt (hel j hj)) (fun _ _ h => h)
  obtain ⟨t', cell, e1, e2, e3⟩ := tx_len hlen
  cases ht.symm.trans e1
  cases t1.symm.trans (State.arrayAt?_spec e2).1
  have hsz : cV.slots.size = N := by
    have h1 : (Int32.ofNat cV.slots.size).toInt = (Int32.ofNat N).toInt := congrArg Int32.toInt t5
    rw [ii_ofNat, ii_ofNat, ii_toInt (by omega) (by omega), ii_toInt (by omega) (by omega)] at h1
    omega
  obtain ⟨cf1, k1, i1, f1, cl1, a1, a2, a3, a4, a5, -⟩ := vk_OFof (A := fun _ => False) q1 (va_eqt hco) (fun _ _ h => h)
  obtain ⟨cf2, k2, i2, f2, cl2, b1, b2, b3, b4, b5, -⟩ := vk_OFof (A := fun _ => False) q1 ht (fun _ _ h => h)
  cases q3.symm.trans a3
  cases q3.symm.trans b3
  have hf := ht
  rw [va_fe q1] at hf
  exact ⟨a, t, q1, cA, cV, q3, t1, ⟨q5, a4, by rw [q6]; exact q2, ⟨cf2, k2, i2, f2, b1, b2, b5⟩, ⟨cf1, k1, i1, f1, a1, a2, a5⟩⟩, t2, t3, hsz, hN, t6, hf⟩
theorem tx_ne {a v N a' v' N' : Nat} {f f' : Nat → Int32} (h : tqA s a v N f) (h' : tqA s a' v' N' f') : a ≠ v' := by
  intro e
  subst e
  obtain ⟨cT, cV, e1, e2, ⟨-, -, -, ⟨cf, k, i, g, x1, x2, x3⟩, -⟩, -⟩ := h
  obtain ⟨cT', cV', e1', e2', -, -, -, g3, -, g4, -⟩ := h'
  cases e1.symm.trans e2'
  have hl := (Array.getElem?_eq_some_iff.mp x3).1
  have h2 := g4 g.slot (by omega)
  rw [x3] at h2
  cases h2
theorem tx_all {b : Nat} (hgv : tGv.before #[.ref b] s = true) : ∀ e ∈ tXS, ∃ a v, (Term.string e.1 e.2.1).eval #[] s none [] s = some (.ref a) ∧ tqA s a v e.2.2.2.length (fun j => Int32.ofNat (e.2.2.2.getD j 0)) := by
  intro e he
  have hc := of_decide_eq_true (List.all_eq_true.mp tXS_ok e he)
  have hw : ∀ w ∈ tWd (.string e.1 e.2.1) e.2.2.2, w.before #[.ref b] s = true := fun w h => flat_of_before _ hgv w (by
    rw [← hc] at h
    exact List.mem_of_mem_drop (List.mem_of_mem_take h))
  have hl : e.2.2.2.length < 2 ^ 31 := by
    have : tXS.all (fun e => decide (e.2.2.2.length < 2 ^ 31)) = true := by decide +kernel
    exact of_decide_eq_true (List.all_eq_true.mp this e he)
  obtain ⟨a, v, h1, h2⟩ := tx_of (args := #[.ref b]) (tm := .string e.1 e.2.1) (f := fun j => Int32.ofNat (e.2.2.2.getD j 0)) hl
    (hw _ (List.mem_append_left _ List.mem_cons_self)) (hw _ (List.mem_append_left _ (List.mem_cons_of_mem _ List.mem_cons_self)))
    (hw _ (List.mem_append_left _ (List.mem_cons_of_mem _ (List.mem_cons_of_mem _ List.mem_cons_self)))) (hw _ (List.mem_append_left _ (List.mem_cons_of_mem _ (List.mem_cons_of_mem _ (List.mem_cons_of_mem _ List.mem_cons_self)))))
    (fun j hj => hw _ (List.mem_append_right _ (List.mem_map.mpr ⟨j, List.mem_range.mpr hj, rfl⟩)))
  exact ⟨a, v, h1, h2⟩
/-! what lies below -/
def tAd (s : State) (o : String) (i : Nat) : Nat := match (Term.string o i).eval #[] s none [] s with
  | some (.ref a) => a
  | _ => 0
def vOf (s : State) (a : Nat) : Nat := match s.fieldOf? a "java/lang/String" "value" "[B" with
  | some (.ref v) => v
  | _ => 0
def szO (s : State) (a : Nat) : Nat := match s.heap[a]? with
  | some c => c.slots.size
  | none => 0
def inO (s : State) (a k : Nat) : Int32 := match s.heap[a]? with
  | some c => match c.slots[k]? with
    | some (.int z) => z
    | _ => 0
  | none => 0
def isTd (s : State) (a : Nat) : Bool := tXS.any fun e => Nat.beq (tAd s e.1 e.2.1) a
def isVd (s : State) (a : Nat) : Bool := tXS.any fun e => Nat.beq (vOf s (tAd s e.1 e.2.1)) a
def loH (s : State) (a : Nat) : Option ((Nat ⊕ (FieldType × Bool)) × Nat) := bif isTd s a then some (.inl 13, 2) else bif isVd s a then some (.inr (.byte, false), szO s a) else none
def loI (s : State) (a k : Nat) : Int32 := bif isTd s a then 0 else inO s a k
def txs (s : State) : Prop := ∀ e ∈ tXS, (Term.string e.1 e.2.1).eval #[] s none [] s = some (.ref (tAd s e.1 e.2.1)) ∧ tqA s (tAd s e.1 e.2.1) (vOf s (tAd s e.1 e.2.1)) e.2.2.2.length (fun j => Int32.ofNat (e.2.2.2.getD j 0))
theorem txs_of {b : Nat} (hgv : tGv.before #[.ref b] s = true) : txs s := by
  intro e he
  obtain ⟨a, v, h1, h2⟩ := tx_all hgv e he
  have ea : tAd s e.1 e.2.1 = a := by
    unfold tAd
    rw [h1]
  have ev : vOf s a = v := by
    obtain ⟨-, -, -, -, -, -, -, -, -, -, h9⟩ := h2
    unfold vOf
    rw [h9]
  rw [ea, ev]
  exact ⟨h1, h2⟩
theorem isTd_t {a : Nat} (h : isTd s a = true) : ∃ e ∈ tXS, tAd s e.1 e.2.1 = a := by
  obtain ⟨e, he, h1⟩ := List.any_eq_true.mp h
  exact ⟨e, he, Nat.eq_of_beq_eq_true h1⟩
theorem isVd_t {a : Nat} (h : isVd s a = true) : ∃ e ∈ tXS, vOf s (tAd s e.1 e.2.1) = a := by
  obtain ⟨e, he, h1⟩ := List.any_eq_true.mp h
  exact ⟨e, he, Nat.eq_of_beq_eq_true h1⟩
theorem isTd_i {e : String × Nat × Nat × List Nat} (he : e ∈ tXS) : isTd s (tAd s e.1 e.2.1) = true := List.any_eq_true.mpr ⟨e, he, Nat.beq_refl _⟩
theorem isVd_i {e : String × Nat × Nat × List Nat} (he : e ∈ tXS) : isVd s (vOf s (tAd s e.1 e.2.1)) = true := List.any_eq_true.mpr ⟨e, he, Nat.beq_refl _⟩
theorem loH_t (h : txs s) {e : String × Nat × Nat × List Nat} (he : e ∈ tXS) : loH s (tAd s e.1 e.2.1) = some (.inl 13, 2) := by
  unfold loH
  rw [isTd_i he]
  rfl
theorem isTd_v (h : txs s) {e : String × Nat × Nat × List Nat} (he : e ∈ tXS) : isTd s (vOf s (tAd s e.1 e.2.1)) = false := by
  cases hb : isTd s (vOf s (tAd s e.1 e.2.1)) with
  | false => rfl
  | true =>
    obtain ⟨e', he', h1⟩ := isTd_t hb
    exact absurd h1 (tx_ne (h e' he').2 (h e he).2)
theorem szO_v (h : txs s) {e : String × Nat × Nat × List Nat} (he : e ∈ tXS) : szO s (vOf s (tAd s e.1 e.2.1)) = e.2.2.2.length := by
  obtain ⟨cT, cV, e1, e2, -, -, -, g3, -⟩ := (h e he).2
  unfold szO
  rw [e2]
  exact g3
theorem loH_v (h : txs s) {e : String × Nat × Nat × List Nat} (he : e ∈ tXS) : loH s (vOf s (tAd s e.1 e.2.1)) = some (.inr (.byte, false), e.2.2.2.length) := by
  unfold loH
  rw [isTd_v h he, isVd_i he, szO_v h he]
  rfl
theorem tx_lt (h : txs s) {e : String × Nat × Nat × List Nat} (he : e ∈ tXS) : tAd s e.1 e.2.1 < s.heap.size ∧ vOf s (tAd s e.1 e.2.1) < s.heap.size := by
  obtain ⟨cT, cV, e1, e2, -⟩ := (h e he).2
  exact ⟨(Array.getElem?_eq_some_iff.mp e1).1, (Array.getElem?_eq_some_iff.mp e2).1⟩
theorem loI_v (h : txs s) {e : String × Nat × Nat × List Nat} (he : e ∈ tXS) {k : Nat} (hk : k < e.2.2.2.length) : loI s (vOf s (tAd s e.1 e.2.1)) k = Int32.ofNat (e.2.2.2.getD k 0) := by
  obtain ⟨cT, cV, e1, e2, -, -, -, g3, -, g4, -⟩ := (h e he).2
  unfold loI
  rw [isTd_v h he]
  show inO s _ k = _
  unfold inO
  rw [e2]
  dsimp only
  rw [g4 k hk]
end TXT
