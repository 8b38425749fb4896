/-! what an instruction does to a frame, where it touches neither memory nor another frame -/
/-- places that a store at i makes unknown: a wide value just below -/
def pm_cut (ls : List (Option Value)) (i : Nat) : List (Option Value) := match i with
  | 0 => ls
  | j + 1 => match ls[j]? with
    | some (some v) => match v with
      | .long _ => ls.set j none
      | .double _ => ls.set j none
      | _ => ls
    | _ => ls
def pm_st1 (ls : List (Option Value)) (i : Nat) (v : Value) : List (Option Value) := (pm_cut ls i).set i (some v)
def pm_st2 (ls : List (Option Value)) (i : Nat) (v : Value) : List (Option Value) := ((pm_cut ls i).set i (some v)).set (i + 1) none
def pm_ldI (ls : List (Option Value)) (i : Nat) : Option Value := match ls[i]? with
  | some (some (.int x)) => some (.int x)
  | _ => none
def pm_ldA (ls : List (Option Value)) (i : Nat) : Option Value := match ls[i]? with
  | some (some (.ref x)) => some (.ref x)
  | _ => none
def pm_ldL (ls : List (Option Value)) (i : Nat) : Option Value := match ls[i]? with
  | some (some (.long x)) => some (.long x)
  | _ => none
def pm_ldD (ls : List (Option Value)) (i : Nat) : Option Value := match ls[i]? with
  | some (some (.double x)) => some (.double x)
  | _ => none
abbrev pm_F : Type := Nat × List (Option Value) × List Value
def pm_psh (o : Option Value) (pc : Nat) (ls : List (Option Value)) (st : List Value) : Option pm_F := match o with
  | some v => some (pc, ls, v :: st)
  | none => none
def pm_sto (pc : Nat) (ls : List (Option Value)) (i : Nat) (v : Value) (st : List Value) : Option pm_F := if i < ls.length then some (pc, pm_st1 ls i v, st) else none
def pm_sto2 (pc : Nat) (ls : List (Option Value)) (i : Nat) (v : Value) (st : List Value) : Option pm_F := if i + 1 < ls.length then some (pc, pm_st2 ls i v, st) else none
def pm_inc (ls : List (Option Value)) (pc i : Nat) (n : Int) (st : List Value) : Option pm_F := match ls[i]? with
  | some (some (.int x)) => some (pc, pm_st1 ls i (.int (x + Int32.ofInt n)), st)
  | _ => none
def pm_dp (v : Value) : Bool := match v with
  | .long _ => false
  | .double _ => false
  | _ => true
def pm_fn (ins : Instr) (pc : Nat) (ls : List (Option Value)) (st : List Value) : Option pm_F := match ins with
  | .iconst n => some (pc + 1, ls, .int (Int32.ofInt n) :: st)
  | .bipush n => some (pc + 2, ls, .int (Int8.ofInt n).toInt32 :: st)
  | .sipush n => some (pc + 3, ls, .int (Int16.ofInt n).toInt32 :: st)
  | .lconst n => some (pc + 1, ls, .long (Int64.ofNat (n : Nat)) :: st)
  | .fconst n => if n = 0 then some (pc + 1, ls, .float FP.fconst0 :: st) else none
  | .dconst n => if n = 0 then some (pc + 1, ls, .double FP.dconst0 :: st) else none
  | .iload_n k => pm_psh (pm_ldI ls k) (pc + 1) ls st
  | .iload i => pm_psh (pm_ldI ls i) (pc + 2) ls st
  | .aload_n k => pm_psh (pm_ldA ls k) (pc + 1) ls st
  | .aload i => pm_psh (pm_ldA ls i) (pc + 2) ls st
  | .lload_n k => pm_psh (pm_ldL ls k) (pc + 1) ls st
  | .dload i => pm_psh (pm_ldD ls i) (pc + 2) ls st
  | .istore_n k => match st with
    | .int x :: r => pm_sto (pc + 1) ls k (.int x) r
    | _ => none
  | .istore i => match st with
    | .int x :: r => pm_sto (pc + 2) ls i (.int x) r
    | _ => none
  | .astore_n k => match st with
    | .ref x :: r => pm_sto (pc + 1) ls k (.ref x) r
    | _ => none
  | .astore i => match st with
    | .ref x :: r => pm_sto (pc + 2) ls i (.ref x) r
    | _ => none
  | .lstore_n k => match st with
    | .long x :: r => pm_sto2 (pc + 1) ls k (.long x) r
    | _ => none
  | .dstore i => match st with
    | .double x :: r => pm_sto2 (pc + 2) ls i (.double x) r
    | _ => none
  | .iinc i n => pm_inc ls (pc + 3) i n st
  | .iadd => match st with
    | .int y :: .int x :: r => some (pc + 1, ls, .int (x + y) :: r)
    | _ => none
  | .isub => match st with
    | .int y :: .int x :: r => some (pc + 1, ls, .int (x - y) :: r)
    | _ => none
  | .imul => match st with
    | .int y :: .int x :: r => some (pc + 1, ls, .int (x * y) :: r)
    | _ => none
  | .iand => match st with
    | .int y :: .int x :: r => some (pc + 1, ls, .int (x &&& y) :: r)
    | _ => none
  | .ior => match st with
    | .int y :: .int x :: r => some (pc + 1, ls, .int (x ||| y) :: r)
    | _ => none
  | .ixor => match st with
    | .int y :: .int x :: r => some (pc + 1, ls, .int (x ^^^ y) :: r)
    | _ => none
  | .ishl => match st with
    | .int y :: .int x :: r => some (pc + 1, ls, .int (x <<< (y &&& 31)) :: r)
    | _ => none
  | .ishr => match st with
    | .int y :: .int x :: r => some (pc + 1, ls, .int (x >>> (y &&& 31)) :: r)
    | _ => none
  | .iushr => match st with
    | .int y :: .int x :: r => some (pc + 1, ls, .int (x.toUInt32 >>> (y.toUInt32 &&& Int32.toUInt32 31)).toInt32 :: r)
    | _ => none
  | .i2b => match st with
    | .int x :: r => some (pc + 1, ls, .int x.toInt8.toInt32 :: r)
    | _ => none
  | .i2c => match st with
    | .int x :: r => some (pc + 1, ls, .int (x.toUInt32 % 65536).toInt32 :: r)
    | _ => none
  | .i2l => match st with
    | .int x :: r => some (pc + 1, ls, .long x.toInt64 :: r)
    | _ => none
  | .i2f => match st with
    | .int x :: r => some (pc + 1, ls, .float (FP.i2f x) :: r)
    | _ => none
  | .i2d => match st with
    | .int x :: r => some (pc + 1, ls, .double (FP.i2d x) :: r)
    | _ => none
  | .ladd => match st with
    | .long y :: .long x :: r => some (pc + 1, ls, .long (x + y) :: r)
    | _ => none
  | .lsub => match st with
    | .long y :: .long x :: r => some (pc + 1, ls, .long (x - y) :: r)
    | _ => none
  | .lmul => match st with
    | .long y :: .long x :: r => some (pc + 1, ls, .long (x * y) :: r)
    | _ => none
  | .lcmp => match st with
    | .long y :: .long x :: r => some (pc + 1, ls, .int (lg_cmp x y) :: r)
    | _ => none
  | .fcmp op => match st with
    | .float y :: .float x :: r => some (pc + 1, ls, .int (Op.cmpValue (FP.fcmp x y) op) :: r)
    | _ => none
  | .dcmp op => match st with
    | .double y :: .double x :: r => some (pc + 1, ls, .int (Op.cmpValue (FP.dcmp x y) op) :: r)
    | _ => none
  | .dup => match st with
    | v :: r => if pm_dp v = true then some (pc + 1, ls, v :: v :: r) else none
    | _ => none
  | .dup2 => match st with
    | v :: w :: r => if pm_dp v = true ∧ pm_dp w = true then some (pc + 1, ls, v :: w :: v :: w :: r) else none
    | _ => none
  | .pop => match st with
    | v :: r => if pm_dp v = true then some (pc + 1, ls, r) else none
    | _ => none
  | _ => none
def pm_len (ins : Instr) : Nat := match ins with
  | .bipush _ => 2
  | .sipush _ => 3
  | .iload _ => 2
  | .aload _ => 2
  | .dload _ => 2
  | .istore _ => 2
  | .astore _ => 2
  | .dstore _ => 2
  | .iinc .. => 3
  | _ => 1
/-- the known locals are there -/
def pm_L (LS : Array Slot) (nL : Nat) (ls : List (Option Value)) : Prop := LS.size = nL ∧ ls.length = nL ∧ lv_wf LS ∧ ∀ (i : Nat) (v : Value), ls[i]? = some (some v) → LS[i]? = some (.val v)
def pm_prs (ls : List (Option Value)) : List (Nat × Value) := (List.range ls.length).filterMap fun i => match ls[i]? with
  | some (some v) => some (i, v)
  | _ => none
theorem pm_prs_in {ls : List (Option Value)} {q : Nat × Value} : q ∈ pm_prs ls ↔ ls[q.1]? = some (some q.2) := by
  unfold pm_prs
  rw [List.mem_filterMap]
  constructor
  · rintro ⟨i, hi, h⟩
    split at h
    · rename_i v hv
      cases h
      exact hv
    · cases h
  · intro h
    have hl : q.1 < ls.length := (List.getElem?_eq_some_iff.mp h).1
    exact ⟨q.1, List.mem_range.mpr hl, by rw [h]⟩
theorem pm_L_has {LS : Array Slot} {nL : Nat} {ls : List (Option Value)} (h : pm_L LS nL ls) : lv_has LS nL (pm_prs ls) := ⟨h.1, h.2.2.1, fun q hq => h.2.2.2 q.1 q.2 (pm_prs_in.mp hq)⟩
theorem pm_cut_len (ls : List (Option Value)) (i : Nat) : (pm_cut ls i).length = ls.length := by
  unfold pm_cut
  split
  · rfl
  · split
    · split <;> simp
    · rfl
theorem pm_cut_at {ls : List (Option Value)} {i k : Nat} {v : Value} (h : (pm_cut ls i)[k]? = some (some v)) : ls[k]? = some (some v) ∧ ¬ (k + 1 = i ∧ v.category = 2) := by
  unfold pm_cut at h
  split at h
  · exact ⟨h, by omega⟩
  · rename_i j
    have key : ls[k]? = some (some v) → k ≠ j → ls[k]? = some (some v) ∧ ¬ (k + 1 = j + 1 ∧ v.category = 2) := fun h1 h2 => ⟨h1, by omega⟩
    have cutk : (ls.set j none)[k]? = some (some v) → ls[k]? = some (some v) ∧ ¬ (k + 1 = j + 1 ∧ v.category = 2) := by
      intro h1
      by_cases hk : j = k
      · subst hk
        simp [List.getElem?_set] at h1
      · rw [List.getElem?_set_ne hk] at h1
        exact key h1 (Ne.symm hk)
    split at h
    · rename_i w hw
      split at h
      · exact cutk h
      · exact cutk h
      · rename_i n1 n2
        refine ⟨h, fun q => ?_⟩
        have e : k = j := by omega
        subst e
        rw [h] at hw
        cases hw
        cases v <;> simp [Value.category] at q <;> simp_all
    · rename_i hn
      refine ⟨h, fun q => ?_⟩
      have e : k = j := by omega
      subst e
      exact hn v h
theorem pm_L_st1 {LS LS' : Array Slot} {nL i : Nat} {ls : List (Option Value)} {v : Value} (h : pm_L LS nL ls) (h' : lv_has LS' nL ((i, v) :: (pm_prs ls).filter (fun q => !(q.1 == i) && !(q.1 + 1 == i && q.2.category == 2)))) : pm_L LS' nL (pm_st1 ls i v) := by
  refine ⟨h'.1, by simp [pm_st1, pm_cut_len, h.2.1], h'.2.1, fun k w hk => ?_⟩
  unfold pm_st1 at hk
  by_cases e : i = k
  · subst e
    rw [List.getElem?_set] at hk
    split at hk
    · split at hk
      · cases hk
        exact h'.2.2 (i, v) List.mem_cons_self
      · cases hk
    · omega
  · rw [List.getElem?_set_ne e] at hk
    obtain ⟨h1, h2⟩ := pm_cut_at hk
    refine h'.2.2 (k, w) (List.mem_cons_of_mem _ (List.mem_filter.mpr ⟨pm_prs_in.mpr h1, ?_⟩))
    simp only [Bool.and_eq_true, Bool.not_eq_true', beq_eq_false_iff_ne, ne_eq, Bool.and_eq_false_iff]
    refine ⟨fun z => e z.symm, ?_⟩
    by_cases q : k + 1 = i
    · exact Or.inr (fun z => h2 ⟨q, z⟩)
    · exact Or.inl q
theorem pm_L_st2 {LS LS' : Array Slot} {nL i : Nat} {ls : List (Option Value)} {v : Value} (h : pm_L LS nL ls) (h' : lv_has LS' nL ((i, v) :: (pm_prs ls).filter (fun q => !(q.1 == i) && (!(q.1 == i + 1) && !(q.1 + 1 == i && q.2.category == 2))))) : pm_L LS' nL (pm_st2 ls i v) := by
  refine ⟨h'.1, by simp [pm_st2, pm_cut_len, h.2.1], h'.2.1, fun k w hk => ?_⟩
  unfold pm_st2 at hk
  by_cases e2 : i + 1 = k
  · subst e2
    simp [List.getElem?_set] at hk
  · rw [List.getElem?_set_ne e2] at hk
    by_cases e : i = k
    · subst e
      rw [List.getElem?_set] at hk
      split at hk
      · split at hk
        · cases hk
          exact h'.2.2 (i, v) List.mem_cons_self
        · cases hk
      · omega
    · rw [List.getElem?_set_ne e] at hk
      obtain ⟨h1, h2⟩ := pm_cut_at hk
      refine h'.2.2 (k, w) (List.mem_cons_of_mem _ (List.mem_filter.mpr ⟨pm_prs_in.mpr h1, ?_⟩))
      simp only [Bool.and_eq_true, Bool.not_eq_true', beq_eq_false_iff_ne, ne_eq, Bool.and_eq_false_iff]
      refine ⟨fun z => e z.symm, fun z => e2 z.symm, ?_⟩
      by_cases q : k + 1 = i
      · exact Or.inr (fun z => h2 ⟨q, z⟩)
      · exact Or.inl q
