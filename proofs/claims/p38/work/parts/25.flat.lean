/-! THE FLAT MEMORY: numbers, references, longs by address and place; shapes and final references stand apart and never change. Each step of the pure machine over it. -/
abbrev fm_M : Type := (Nat → Nat → Int32) × (Nat → Nat → Nat) × (Nat → Nat → Int64)
/-- tag and size of a cell; final references; addresses of text constants -/
abbrev fm_H : Type := (Nat → Option ((Nat ⊕ (FieldType × Bool)) × Nat)) × (Nat → Nat → Nat) × (String → Nat → Nat)
def fm_up {α : Type} (f : Nat → Nat → α) (a k : Nat) (x : α) : Nat → Nat → α := fun b j => if b = a ∧ j = k then x else f b j
def fm_si (m : fm_M) (a k : Nat) (x : Int32) : fm_M := (fm_up m.1 a k x, m.2)
def fm_sr (m : fm_M) (a k : Nat) (x : Nat) : fm_M := (m.1, fm_up m.2.1 a k x, m.2.2)
def fm_sl (m : fm_M) (a k : Nat) (x : Int64) : fm_M := (m.1, m.2.1, fm_up m.2.2 a k x)
def fm_nth : List Nat → Nat → Nat
  | [], _ => 0
  | x :: _, 0 => x
  | _ :: r, k + 1 => fm_nth r k
/-- what stands at place k of an object of class ci: 0 a number, 1 a reference, 2 a final one, 3 a long -/
def fm_kc (ci k : Nat) : Nat := match ci with
  | 0 => fm_nth [0, 0, 0, 0, 0, 0, 0, 0, 0, 0, 0, 0, 0, 1, 1] k
  | 1 => fm_nth [2, 2, 2, 2, 0, 0] k
  | 2 => fm_nth [2, 2, 2, 2] k
  | 3 => fm_nth [0, 0, 0, 0, 0] k
  | 4 => fm_nth [0, 0, 2, 2] k
  | 5 => fm_nth [0, 0, 0, 0, 0, 0, 0] k
  | 6 => fm_nth [2, 0, 0] k
  | 7 => fm_nth [2, 2, 2, 2, 2, 0, 0, 0, 0, 0] k
  | 8 => fm_nth [2, 0, 0, 0, 0, 0] k
  | 9 => fm_nth [0, 0, 0, 0, 0, 0, 0] k
  | 10 => fm_nth [0, 2, 2, 2] k
  | 11 => fm_nth [2, 2, 2, 2, 2, 1, 1, 0, 0] k
  | 12 => fm_nth [2, 1, 0, 0] k
  | 13 => fm_nth [2, 0] k
  | _ => 0
/-- to what the final references are -/
def fm_ft (ci k : Nat) : Option (Nat ⊕ (FieldType × Bool)) := match ci, k with
  | 1, 0 => some (.inl 10)
  | 1, 1 => some (.inl 10)
  | 1, 2 => some (.inr (.boolean, true))
  | 1, 3 => some (.inr (.int, true))
  | 2, 0 => some (.inr (.int, true))
  | 2, 1 => some (.inr (.int, true))
  | 2, 2 => some (.inr (.int, true))
  | 2, 3 => some (.inr (.int, true))
  | 4, 2 => some (.inr ((.object RX3), true))
  | 4, 3 => some (.inr (.int, true))
  | 6, 0 => some (.inl 8)
  | 7, 0 => some (.inl 4)
  | 7, 1 => some (.inl 2)
  | 7, 2 => some (.inl 9)
  | 7, 3 => some (.inr ((.object RX0), true))
  | 7, 4 => some (.inr ((.object RX5), true))
  | 8, 0 => some (.inr (.byte, true))
  | 10, 1 => some (.inr (.int, true))
  | 10, 2 => some (.inr (.int, true))
  | 10, 3 => some (.inr (.int, true))
  | 11, 0 => some (.inl 6)
  | 11, 1 => some (.inl 1)
  | 11, 2 => some (.inl 10)
  | 11, 3 => some (.inr ((.object RX7), true))
  | 11, 4 => some (.inr (.boolean, true))
  | 12, 0 => some (.inl 11)
  | 13, 0 => some (.inr (.byte, false))
  | _, _ => none
def fm_kd (tg : Nat ⊕ (FieldType × Bool)) (k : Nat) : Nat := match tg with
  | .inl ci => fm_kc ci k
  | .inr (ty, _) => match ty with
    | .object _ => 1
    | .long => 3
    | .double => 4
    | _ => 0
def fm_v (H : fm_H) (m : fm_M) (tg : Nat ⊕ (FieldType × Bool)) (a k : Nat) : Value := match fm_kd tg k with
  | 0 => .int (m.1 a k)
  | 1 => .ref (m.2.1 a k)
  | 2 => .ref (H.2.1 a k)
  | 3 => .long (m.2.2 a k)
  | _ => .double (m.2.2 a k).toUInt64
def fm_c (H : fm_H) (m : fm_M) : pm_M := fun a => match H.1 a with
  | some q => some (q.1, q.2, fun k => fm_v H m q.1 a k)
  | none => none
theorem fm_c_at {H : fm_H} {m : fm_M} {a : Nat} {q : (Nat ⊕ (FieldType × Bool)) × Nat} (h : H.1 a = some q) : fm_c H m a = some (q.1, q.2, fun k => fm_v H m q.1 a k) := by
  unfold fm_c
  rw [h]
theorem fm_c_up {H : fm_H} {m m' : fm_M} {a k : Nat} {v : Value} {q : (Nat ⊕ (FieldType × Bool)) × Nat} (h : H.1 a = some q) (h1 : ∀ tg b j, ¬ (b = a ∧ j = k) → fm_v H m' tg b j = fm_v H m tg b j) (h2 : fm_v H m' q.1 a k = v) : pm_up (fm_c H m) a (some (q.1, q.2, pm_up (fun k => fm_v H m q.1 a k) k v)) = fm_c H m' := by
  funext b
  by_cases e : b = a
  · subst e
    rw [pm_up_s, fm_c_at h]
    congr 3
    funext j
    by_cases f : j = k
    · subst f
      rw [pm_up_s, h2]
    · rw [pm_up_n _ _ f, h1 _ _ _ (fun z => f z.2)]
  · rw [pm_up_n _ _ e]
    unfold fm_c
    cases H.1 b with
    | none => rfl
    | some q9 =>
      dsimp only
      congr 3
      funext j
      rw [h1 _ _ _ (fun z => e z.1)]
theorem fm_up_o {α : Type} {f : Nat → Nat → α} {a k : Nat} {x : α} {b j : Nat} (h : ¬ (b = a ∧ j = k)) : fm_up f a k x b j = f b j := if_neg h
theorem fm_up_s {α : Type} {f : Nat → Nat → α} {a k : Nat} {x : α} : fm_up f a k x a k = x := if_pos ⟨rfl, rfl⟩
theorem fm_v_si {H : fm_H} {m : fm_M} {a k : Nat} {x : Int32} : ∀ tg b j, ¬ (b = a ∧ j = k) → fm_v H (fm_si m a k x) tg b j = fm_v H m tg b j := by
  intro tg b j h
  unfold fm_v fm_si
  dsimp only
  rw [fm_up_o h]
theorem fm_v_sr {H : fm_H} {m : fm_M} {a k : Nat} {x : Nat} : ∀ tg b j, ¬ (b = a ∧ j = k) → fm_v H (fm_sr m a k x) tg b j = fm_v H m tg b j := by
  intro tg b j h
  unfold fm_v fm_sr
  dsimp only
  rw [fm_up_o h]
theorem fm_v_sl {H : fm_H} {m : fm_M} {a k : Nat} {x : Int64} : ∀ tg b j, ¬ (b = a ∧ j = k) → fm_v H (fm_sl m a k x) tg b j = fm_v H m tg b j := by
  intro tg b j h
  unfold fm_v fm_sl
  dsimp only
  rw [fm_up_o h]
theorem fm_v0 {H : fm_H} {m : fm_M} {tg : Nat ⊕ (FieldType × Bool)} {a k : Nat} (h : fm_kd tg k = 0) : fm_v H m tg a k = .int (m.1 a k) := by
  unfold fm_v
  rw [h]
  rfl
theorem fm_v1 {H : fm_H} {m : fm_M} {tg : Nat ⊕ (FieldType × Bool)} {a k : Nat} (h : fm_kd tg k = 1) : fm_v H m tg a k = .ref (m.2.1 a k) := by
  unfold fm_v
  rw [h]
  rfl
theorem fm_v2 {H : fm_H} {m : fm_M} {tg : Nat ⊕ (FieldType × Bool)} {a k : Nat} (h : fm_kd tg k = 2) : fm_v H m tg a k = .ref (H.2.1 a k) := by
  unfold fm_v
  rw [h]
  rfl
theorem fm_v3 {H : fm_H} {m : fm_M} {tg : Nat ⊕ (FieldType × Bool)} {a k : Nat} (h : fm_kd tg k = 3) : fm_v H m tg a k = .long (m.2.2 a k) := by
  unfold fm_v
  rw [h]
  rfl
theorem fm_c_si {H : fm_H} {m : fm_M} {a k : Nat} {x : Int32} {q : (Nat ⊕ (FieldType × Bool)) × Nat} (h : H.1 a = some q) (hk : fm_kd q.1 k = 0) : pm_up (fm_c H m) a (some (q.1, q.2, pm_up (fun k => fm_v H m q.1 a k) k (.int x))) = fm_c H (fm_si m a k x) :=
  fm_c_up h fm_v_si (by rw [fm_v0 hk]; exact congrArg Value.int fm_up_s)
theorem fm_c_sr {H : fm_H} {m : fm_M} {a k : Nat} {x : Nat} {q : (Nat ⊕ (FieldType × Bool)) × Nat} (h : H.1 a = some q) (hk : fm_kd q.1 k = 1) : pm_up (fm_c H m) a (some (q.1, q.2, pm_up (fun k => fm_v H m q.1 a k) k (.ref x))) = fm_c H (fm_sr m a k x) :=
  fm_c_up h fm_v_sr (by rw [fm_v1 hk]; exact congrArg Value.ref fm_up_s)
theorem fm_c_sl {H : fm_H} {m : fm_M} {a k : Nat} {x : Int64} {q : (Nat ⊕ (FieldType × Bool)) × Nat} (h : H.1 a = some q) (hk : fm_kd q.1 k = 3) : pm_up (fm_c H m) a (some (q.1, q.2, pm_up (fun k => fm_v H m q.1 a k) k (.long x))) = fm_c H (fm_sl m a k x) :=
  fm_c_up h fm_v_sl (by rw [fm_v3 hk]; exact congrArg Value.long fm_up_s)
/-! types -/
def fm_is (H : fm_H) (a ci : Nat) : Prop := ∃ n, H.1 a = some (.inl ci, n)
def fm_sz (H : fm_H) (a : Nat) : Nat := match H.1 a with
  | some q => q.2
  | none => 0
def fm_ia (H : fm_H) (a : Nat) (ty : FieldType) (w : Bool) : Prop := H.1 a = some (.inr (ty, w), fm_sz H a)
def fm_isb (H : fm_H) (a ci : Nat) : Bool := match H.1 a with
  | some (.inl c, _) => Nat.beq c ci
  | _ => false
theorem fm_isb_is {H : fm_H} {a ci : Nat} (h : fm_isb H a ci = true) : fm_is H a ci := by
  unfold fm_isb at h
  split at h
  · rename_i c n hc
    have e := Nat.eq_of_beq_eq_true h
    subst e
    exact ⟨n, hc⟩
  · cases h
theorem fm_is_n {H : fm_H} {a ci : Nat} (h : fm_is H a ci) : H.1 a ≠ none := by
  obtain ⟨n, h⟩ := h
  rw [h]
  simp
theorem fm_is_b {H : fm_H} {a ci : Nat} (h : fm_is H a ci) : fm_isb H a ci = true := by
  obtain ⟨n, h⟩ := h
  unfold fm_isb
  rw [h]
  exact Nat.beq_refl ci
def fm_ok (H : fm_H) : Prop := ∀ a ci k, fm_is H a ci → match fm_ft ci k with
  | some (.inl cj) => fm_is H (H.2.1 a k) cj
  | some (.inr q) => fm_ia H (H.2.1 a k) q.1 q.2
  | none => True
def fm_iab (H : fm_H) (a : Nat) (ty : FieldType) (w : Bool) : Bool := decide (H.1 a = some (.inr (ty, w), fm_sz H a))
/-- where the law's exceptions are counted: no cell lies there -/
def fm_g (H : fm_H) : Nat := H.2.2 "" 0
/-- the environment -/
def fm_E (G : pm_G) (H : fm_H) : Prop := fm_ok H ∧ H.1 (fm_g H) = none
/-- the room, told by the memory: no store at a cell changes it -/
def fm_Z (H : fm_H) : Type := { f : fm_M → Option Nat × Nat × Nat // (∀ m a k x, H.1 a ≠ none → f (fm_si m a k x) = f m) ∧ (∀ m a k x, f (fm_sr m a k x) = f m) ∧ ∀ m a k x, f (fm_sl m a k x) = f m }
/-- the same for all memories -/
def fm_zc (H : fm_H) (z : Option Nat × Nat × Nat) : fm_Z H := ⟨fun _ => z, fun _ _ _ _ _ => rfl, fun _ _ _ _ => rfl, fun _ _ _ _ => rfl⟩
/-- exceptions counted so far -/
def fl_n (H : fm_H) (m : fm_M) : Nat := if H.1 (fm_g H) = none then (m.1 (fm_g H) 0).toInt.toNat else 0
def fl_f (H : fm_H) (z0 : Nat × Nat × Nat) (m : fm_M) : Option Nat × Nat × Nat := (if fl_n H m = 0 then some z0.1 else none, z0.2.1 + fl_n H m, z0.2.2 + 6 * fl_n H m)
theorem fl_n_si {H : fm_H} {m : fm_M} {a k : Nat} {x : Int32} (h : H.1 a ≠ none) : fl_n H (fm_si m a k x) = fl_n H m := by
  unfold fl_n
  split
  · rename_i hg
    have e : (fm_si m a k x).1 (fm_g H) 0 = m.1 (fm_g H) 0 := if_neg (fun q => h (by rw [← q.1]; exact hg))
    rw [e]
  · rfl
def fl_z (H : fm_H) (z0 : Nat × Nat × Nat) : fm_Z H := ⟨fl_f H z0, fun m a k x h => by unfold fl_f; rw [fl_n_si h], fun _ _ _ _ => rfl, fun _ _ _ _ => rfl⟩
/-- one more -/
def fl_e (H : fm_H) (m : fm_M) : fm_M := fm_si m (fm_g H) 0 (m.1 (fm_g H) 0 + 1)
theorem fl_c_e {G : pm_G} {H : fm_H} (hE : fm_E G H) (m : fm_M) : fm_c H (fl_e H m) = fm_c H m := by
  funext a
  unfold fm_c
  cases h : H.1 a with
  | none => rfl
  | some q =>
    dsimp only
    congr 3
    funext k
    exact fm_v_si _ _ _ (fun z => by rw [z.1, hE.2] at h; cases h)
theorem fl_n_e {G : pm_G} {H : fm_H} (hE : fm_E G H) {m : fm_M} (h : fl_n H m < 1000000) (h0 : 0 ≤ (m.1 (fm_g H) 0).toInt) : fl_n H (fl_e H m) = fl_n H m + 1 := by
  unfold fl_n at h ⊢
  rw [if_pos hE.2] at h
  rw [if_pos hE.2, if_pos hE.2]
  have e : (fl_e H m).1 (fm_g H) 0 = m.1 (fm_g H) 0 + 1 := if_pos ⟨rfl, rfl⟩
  rw [e, Int32.toInt_add]
  show (((m.1 (fm_g H) 0).toInt + 1).bmod (2 ^ 32)).toNat = _
  rw [Int.bmod_eq_of_le (by omega) (by omega)]
  omega
/-! results -/
def fm_zz (r : pm_R) (z : Option Nat × Nat × Nat) : Option Nat × Nat × Nat := match r with
  | .inl _ => z
  | .inr _ => (none, z.2.1 + 1, z.2.2 + 6)
def fm_KR (H : fm_H) (z : fm_Z H) (K : pm_R → fm_M → Prop) : pm_E := fun r S1 => ∃ m1, S1 = (fm_c H m1, fm_zz r (z.1 m1)) ∧ K r m1
def fm_V (G : pm_G) (H : fm_H) (d : Nat) (own : String) (cc : ByteArray) (ret : Option FieldType) (z : fm_Z H) (K : pm_R → fm_M → Prop) (pc : Nat) (ls : List (Option Value)) (st : List Value) (m : fm_M) : Prop := px_W G (pm_run G d) own false cc ret (fm_KR H z K) pc ls st (fm_c H m, z.1 m)
def fm_o {α : Type} (r : α → pm_R) (o : Option (α × fm_M)) (K : pm_R → fm_M → Prop) : Prop := ∃ x m, o = some (x, m) ∧ K (r x) m
def fm_rV : Unit → pm_R := fun _ => .inl none
def fm_rI : Int32 → pm_R := fun x => .inl (some (.int x))
def fm_rA : Nat → pm_R := fun x => .inl (some (.ref x))
def fm_rF : UInt32 → pm_R := fun x => .inl (some (.float x))
def fm_rD : UInt64 → pm_R := fun x => .inl (some (.double x))
def fm_rX {α : Type} (r : α → pm_R) : α ⊕ String → pm_R := fun y => match y with
  | .inl x => r x
  | .inr E => .inr E
/-- binds -/
def fm_bd {α β : Type} (v : α) (F : α → β) : β := F v
def fm_bn {α β : Type} (o : Option (α × fm_M)) (F : α → fm_M → Option β) : Option β := match o with
  | some (x, m) => F x m
  | none => none
def fm_bx {α β : Type} (o : Option ((α ⊕ String) × fm_M)) (F : α → fm_M → Option ((β ⊕ String) × fm_M)) : Option ((β ⊕ String) × fm_M) := match o with
  | some (.inl x, m) => F x m
  | some (.inr E, m) => some (.inr E, m)
  | none => none
def fm_b01 (x : Int32) : Bool := decide (x = 0) || decide (x = 1)
theorem fm_b01n {x : Int32} (h : fm_b01 x = true) : narrow .boolean (.int x) = .int x ∧ fits .boolean (.int x) = true := by
  simp only [fm_b01, Bool.or_eq_true, decide_eq_true_eq] at h
  rcases h with h | h
  · subst h
    exact ⟨by decide, by decide⟩
  · subst h
    exact ⟨by decide, by decide⟩
/-- what an array of this type keeps of a number -/
def fm_nw (ty : FieldType) (x : Int32) : Int32 := match ty with
  | .boolean => x &&& 1
  | .byte => x.toInt8.toInt32
  | _ => x
/-- an answer of this type stays as it is -/
def fm_nr (ty : FieldType) (x : Int32) : Bool := decide (narrow ty (.int x) = .int x)
/-- a switch over lo, lo + 1, .. -/
def fm_sw {α : Type} (x : Int32) (lo : Int) (as : List (Option α)) (D : Option α) : Option α := match as with
  | [] => D
  | A :: r => if x.toInt = lo then A else fm_sw x (lo + 1) r D
/-- fuel of the loops -/
def fm_N : Nat := 1000000
def fm_n32 (x : UInt32) : Bool := decide (x &&& 0x7fffffff ≤ 0x7f800000)
def fm_n64 (x : UInt64) : Bool := decide (x &&& 0x7fffffffffffffff ≤ 0x7ff0000000000000)
theorem fm_n32s {x : UInt32} (h : fm_n32 x = true) : vf_n32 x := by
  unfold fm_n32 at h
  unfold vf_n32
  exact of_decide_eq_true h
theorem fm_n64s {x : UInt64} (h : fm_n64 x = true) : vf_n64 x := by
  unfold fm_n64 at h
  unfold vf_n64
  exact of_decide_eq_true h
/-! steps -/
def fm_T (own : String) (cc : ByteArray) (tc : px_TC) (fr : px_FR) (mr : px_MR) (cr : px_CR) (lr : px_LR) : Prop := px_tok own fr mr cr lr ∧ px_dc cc tc = true
def fm_ru (tc : px_TC) : Nat → Nat → List (Option Value) → List Value → Option pm_F
  | 0, pc, ls, st => some (pc, ls, st)
  | n + 1, pc, ls, st => match px_lk tc pc with
    | none => none
    | some (ins, len) => match ins with
      | .goto off => bif Nat.beq len 3 then (match px_tg pc off with
        | some t => fm_ru tc n t ls st
        | none => none) else none
      | ins => bif Nat.beq len (pm_len ins) then (match pm_fn ins pc ls st with
        | some q => fm_ru tc n q.1 q.2.1 q.2.2
        | none => none) else none
section FMV
variable {G : pm_G} {H : fm_H} {d : Nat} {own : String} {cc : ByteArray} {ret : Option FieldType} {z : fm_Z H} {K : pm_R → fm_M → Prop} {tc : px_TC} {fr : px_FR} {mr : px_MR} {cr : px_CR} {lr : px_LR} {P : Prop}
variable {pc : Nat} {ls : List (Option Value)} {st : List Value} {m : fm_M} {α β : Type} {r : α → pm_R}
theorem fs_step {ins : Instr} {len : Nat} (hd : decode cc pc = .ok (ins, len)) (h : pm_step G (pm_run G d) own false cc ret [] (fun pc ls st S => px_W G (pm_run G d) own false cc ret (fm_KR H z K) pc ls st S) (fm_KR H z K) pc ls st (fm_c H m, z.1 m) ins len) : fm_V G H d own cc ret z K pc ls st m := px_step hd (fun _ _ _ _ h => h) h
theorem fs_none (h : fm_o r none K) : P := by
  obtain ⟨x, m, h, -⟩ := h
  cases h
theorem fs_fn (T : fm_T own cc tc fr mr cr lr) : ∀ (n : Nat) {pc pc1 : Nat} {ls ls1 : List (Option Value)} {st st1 : List Value}, fm_ru tc n pc ls st = some (pc1, ls1, st1) → fm_V G H d own cc ret z K pc1 ls1 st1 m → fm_V G H d own cc ret z K pc ls st m := by
  intro n
  induction n with
  | zero =>
    intro pc pc1 ls ls1 st st1 h g
    cases h
    exact g
  | succ n ih =>
    intro pc pc1 ls ls1 st st1 h g
    unfold fm_ru at h
    split at h
    · cases h
    · rename_i ins len hq
      have hd := px_dc_at T.2 hq
      split at h
      · rename_i off
        cases hb : Nat.beq len 3 with
        | false => rw [hb] at h; cases h
        | true =>
          rw [hb] at h
          simp only [cond_true] at h
          split at h
          · rename_i t ht
            exact fs_step hd ⟨Nat.eq_of_beq_eq_true hb, t, px_tg_eq ht, ih h g⟩
          · cases h
      · rename_i x9 hng
        cases hb : Nat.beq len (pm_len ins) with
        | false => rw [hb] at h; cases h
        | true =>
          rw [hb] at h
          simp only [cond_true] at h
          split at h
          · rename_i q9 hq9
            have hk := ih h g
            refine fs_step hd ?_
            unfold pm_step
            split <;> first | exact ⟨Nat.eq_of_beq_eq_true hb, q9, hq9, hk⟩ | (exact absurd rfl (hng _)) | (simp [pm_fn] at hq9)
          · cases h
theorem fs_r (T : fm_T own cc tc fr mr cr lr) (n pc1 : Nat) (ls1 : List (Option Value)) (st1 : List Value) (h : fm_ru tc n pc ls st = some (pc1, ls1, st1)) (g : P → fm_V G H d own cc ret z K pc1 ls1 st1 m) : P → fm_V G H d own cc ret z K pc ls st m := fun p => fs_fn T n h (g p)
/-- getfield: a number, a reference, a final one, a long -/
theorem fs_gf (T : fm_T own cc tc fr mr cr lr) {pc1 idx ci k w a : Nat} {ty : FieldType} (h : px_lk tc pc = some (.getfield idx, 3)) (hf : px_lk fr idx = some (ci, k, ty, w)) (hp : pc + 3 = pc1) (ha : fm_is H a ci) (g : fm_V G H d own cc ret z K pc1 ls (fm_v H m (.inl ci) a k :: st) m) : fm_V G H d own cc ret z K pc ls (.ref a :: st) m := by
  subst hp
  obtain ⟨n, ha⟩ := ha
  exact fs_step (px_dc_at T.2 h) ⟨rfl, ci, k, ty, a, n, st, _, rfl, (T.1.1 _ (px_lk_in hf)).1, fm_c_at ha, g⟩
theorem fs_gi (T : fm_T own cc tc fr mr cr lr) (pc1 ci k a : Nat) {idx w : Nat} {ty : FieldType} (h : px_lk tc pc = some (.getfield idx, 3)) (hf : px_lk fr idx = some (ci, k, ty, w)) (hk : fm_kc ci k = 0) (hp : pc + 3 = pc1) (ha : fm_is H a ci) (g : P → fm_V G H d own cc ret z K pc1 ls (.int (m.1 a k) :: st) m) : P → fm_V G H d own cc ret z K pc ls (.ref a :: st) m := fun p => fs_gf T h hf hp ha (by rw [fm_v0 (tg := .inl ci) hk]; exact g p)
theorem fs_gs (T : fm_T own cc tc fr mr cr lr) (pc1 ci k a : Nat) {idx w : Nat} {ty : FieldType} (h : px_lk tc pc = some (.getfield idx, 3)) (hf : px_lk fr idx = some (ci, k, ty, w)) (hk : fm_kc ci k = 2) (hp : pc + 3 = pc1) (ha : fm_is H a ci) (g : P → fm_V G H d own cc ret z K pc1 ls (.ref (H.2.1 a k) :: st) m) : P → fm_V G H d own cc ret z K pc ls (.ref a :: st) m := fun p => fs_gf T h hf hp ha (by rw [fm_v2 (tg := .inl ci) hk]; exact g p)
theorem fs_gl (T : fm_T own cc tc fr mr cr lr) (pc1 ci k a : Nat) {idx w : Nat} {ty : FieldType} (h : px_lk tc pc = some (.getfield idx, 3)) (hf : px_lk fr idx = some (ci, k, ty, w)) (hk : fm_kc ci k = 3) (hp : pc + 3 = pc1) (ha : fm_is H a ci) (g : P → fm_V G H d own cc ret z K pc1 ls (.long (m.2.2 a k) :: st) m) : P → fm_V G H d own cc ret z K pc ls (.ref a :: st) m := fun p => fs_gf T h hf hp ha (by rw [fm_v3 (tg := .inl ci) hk]; exact g p)
theorem fs_ck {c : Bool} {X : Option (α × fm_M)} (g : c = true → fm_o r X K → P) : fm_o r (if c = true then X else none) K → P := fun p => by
  by_cases e : c = true
  · rw [if_pos e] at p
    exact g e p
  · rw [if_neg e] at p
    exact fs_none p
theorem fs_gp (T : fm_T own cc tc fr mr cr lr) (pc1 ci k a cj : Nat) {idx w : Nat} {ty : FieldType} (h : px_lk tc pc = some (.getfield idx, 3)) (hf : px_lk fr idx = some (ci, k, ty, w)) (hk : fm_kc ci k = 1) (hp : pc + 3 = pc1) (ha : fm_is H a ci) {X : Option (α × fm_M)} (g : fm_is H (m.2.1 a k) cj → fm_o r X K → fm_V G H d own cc ret z K pc1 ls (.ref (m.2.1 a k) :: st) m) : fm_o r (if fm_isb H (m.2.1 a k) cj = true then X else none) K → fm_V G H d own cc ret z K pc ls (.ref a :: st) m := fs_ck fun e p => fs_gf T h hf hp ha (by rw [fm_v1 (tg := .inl ci) hk]; exact g (fm_isb_is e) p)
/-- putfield -/
theorem fs_pf (T : fm_T own cc tc fr mr cr lr) {pc1 idx ci k kd a : Nat} {ty : FieldType} {v : Value} {m1 : fm_M} (h : px_lk tc pc = some (.putfield idx, 3)) (hfr : px_lk fr idx = some (ci, k, ty, 0)) (hk : fm_kc ci k = kd) (hp : pc + 3 = pc1) (ha : fm_is H a ci) (hn : narrow ty v = v) (hf : fits ty v = true) (hm : fm_kd (.inl ci) k = kd → ∀ n, H.1 a = some (.inl ci, n) → pm_up (fm_c H m) a (some (.inl ci, n, pm_up (fun k => fm_v H m (.inl ci) a k) k v)) = fm_c H m1) (hz : z.1 m1 = z.1 m) (g : fm_V G H d own cc ret z K pc1 ls st m1) : fm_V G H d own cc ret z K pc ls (v :: .ref a :: st) m := by
  subst hp
  obtain ⟨n, ha⟩ := ha
  have f := T.1.1 _ (px_lk_in hfr)
  refine fs_step (px_dc_at T.2 h) ⟨rfl, ci, k, ty, a, n, v, st, _, rfl, f.1, f.2.1 rfl false, fm_c_at ha, hn, hf, ?_⟩
  rw [hm hk n ha, ← hz]
  exact g
theorem fs_pi (T : fm_T own cc tc fr mr cr lr) (pc1 ci k a : Nat) {x : Int32} {idx : Nat} (h : px_lk tc pc = some (.putfield idx, 3)) (hf : px_lk fr idx = some (ci, k, .int, 0)) (hk : fm_kc ci k = 0) (hp : pc + 3 = pc1) (ha : fm_is H a ci) {F : fm_M → Option (α × fm_M)} (g : ∀ m1, fm_o r (F m1) K → fm_V G H d own cc ret z K pc1 ls st m1) : fm_o r (fm_bd (fm_si m a k x) F) K → fm_V G H d own cc ret z K pc ls (.int x :: .ref a :: st) m := fun p =>
  fs_pf T h hf hk hp ha rfl rfl (fun hk n hn => fm_c_si (q := (.inl ci, n)) hn hk) (z.2.1 _ _ _ _ (fm_is_n ha)) (g _ p)
theorem fs_pz (T : fm_T own cc tc fr mr cr lr) (pc1 ci k a : Nat) {x : Int32} {idx : Nat} (h : px_lk tc pc = some (.putfield idx, 3)) (hf : px_lk fr idx = some (ci, k, .boolean, 0)) (hk : fm_kc ci k = 0) (hp : pc + 3 = pc1) (ha : fm_is H a ci) {F : fm_M → Option (α × fm_M)} (g : ∀ m1, fm_o r (F m1) K → fm_V G H d own cc ret z K pc1 ls st m1) : fm_o r (if fm_b01 x = true then fm_bd (fm_si m a k x) F else none) K → fm_V G H d own cc ret z K pc ls (.int x :: .ref a :: st) m := fs_ck fun hx p =>
  fs_pf T h hf hk hp ha (fm_b01n hx).1 (fm_b01n hx).2 (fun hk n hn => fm_c_si (q := (.inl ci, n)) hn hk) (z.2.1 _ _ _ _ (fm_is_n ha)) (g _ p)
theorem fs_pl (T : fm_T own cc tc fr mr cr lr) (pc1 ci k a : Nat) {x : Int64} {idx : Nat} (h : px_lk tc pc = some (.putfield idx, 3)) (hf : px_lk fr idx = some (ci, k, .long, 0)) (hk : fm_kc ci k = 3) (hp : pc + 3 = pc1) (ha : fm_is H a ci) {F : fm_M → Option (α × fm_M)} (g : ∀ m1, fm_o r (F m1) K → fm_V G H d own cc ret z K pc1 ls st m1) : fm_o r (fm_bd (fm_sl m a k x) F) K → fm_V G H d own cc ret z K pc ls (.long x :: .ref a :: st) m := fun p =>
  fs_pf T h hf hk hp ha rfl rfl (fun hk n hn => fm_c_sl (q := (.inl ci, n)) hn hk) (z.2.2.2 _ _ _ _) (g _ p)
theorem fs_pr (T : fm_T own cc tc fr mr cr lr) (pc1 ci k a : Nat) {x : Nat} {C : String} {idx : Nat} (h : px_lk tc pc = some (.putfield idx, 3)) (hf : px_lk fr idx = some (ci, k, .object C, 0)) (hk : fm_kc ci k = 1) (hp : pc + 3 = pc1) (ha : fm_is H a ci) {F : fm_M → Option (α × fm_M)} (g : ∀ m1, fm_o r (F m1) K → fm_V G H d own cc ret z K pc1 ls st m1) : fm_o r (fm_bd (fm_sr m a k x) F) K → fm_V G H d own cc ret z K pc ls (.ref x :: .ref a :: st) m := fun p =>
  fs_pf T h hf hk hp ha rfl rfl (fun hk n hn => fm_c_sr (q := (.inl ci, n)) hn hk) (z.2.2.1 _ _ _ _) (g _ p)
/-- arrays -/
theorem fs_ai (T : fm_T own cc tc fr mr cr lr) (pc1 a : Nat) {i : Int32} {w : Bool} (h : px_lk tc pc = some (.iaload, 1)) (hp : pc + 1 = pc1) (ha : fm_ia H a .int w) {X : Option (α × fm_M)} (g : fm_o r X K → fm_V G H d own cc ret z K pc1 ls (.int (m.1 a i.toNatClampNeg) :: st) m) : fm_o r (if px_inb i (fm_sz H a) = true then X else none) K → fm_V G H d own cc ret z K pc ls (.int i :: .ref a :: st) m := fs_ck fun hb p => by
  subst hp
  exact fs_step (px_dc_at T.2 h) ⟨rfl, i, a, fm_sz H a, st, .int, w, _, rfl, fm_c_at ha, rfl, px_inb_in hb, by dsimp only; rw [fm_v0 rfl]; exact g p⟩
theorem fs_ab (T : fm_T own cc tc fr mr cr lr) (pc1 a : Nat) {i : Int32} {w : Bool} {ty : FieldType} (h : px_lk tc pc = some (.baload, 1)) (hp : pc + 1 = pc1) (ht : ty = .byte ∨ ty = .boolean) (ha : fm_ia H a ty w) {X : Option (α × fm_M)} (g : fm_o r X K → fm_V G H d own cc ret z K pc1 ls (.int (m.1 a i.toNatClampNeg) :: st) m) : fm_o r (if px_inb i (fm_sz H a) = true then X else none) K → fm_V G H d own cc ret z K pc ls (.int i :: .ref a :: st) m := fs_ck fun hb p => by
  subst hp
  have hk : fm_kd (.inr (ty, w)) i.toNatClampNeg = 0 := by rcases ht with rfl | rfl <;> rfl
  exact fs_step (px_dc_at T.2 h) ⟨rfl, i, a, fm_sz H a, st, ty, w, _, rfl, fm_c_at ha, ht, px_inb_in hb, by dsimp only; rw [fm_v0 hk]; exact g p⟩
theorem fs_aa (T : fm_T own cc tc fr mr cr lr) (pc1 a cj : Nat) {i : Int32} {w : Bool} {C : String} (h : px_lk tc pc = some (.aaload, 1)) (hp : pc + 1 = pc1) (ha : fm_ia H a (.object C) w) {X : Option (α × fm_M)} (g : fm_is H (m.2.1 a i.toNatClampNeg) cj → fm_o r X K → fm_V G H d own cc ret z K pc1 ls (.ref (m.2.1 a i.toNatClampNeg) :: st) m) : fm_o r (if px_inb i (fm_sz H a) = true then (if fm_isb H (m.2.1 a i.toNatClampNeg) cj = true then X else none) else none) K → fm_V G H d own cc ret z K pc ls (.int i :: .ref a :: st) m := fs_ck fun hb => fs_ck fun hc p => by
  subst hp
  exact fs_step (px_dc_at T.2 h) ⟨rfl, i, a, fm_sz H a, st, _, w, _, rfl, fm_c_at ha, ⟨C, rfl⟩, px_inb_in hb, by dsimp only; rw [fm_v1 rfl]; exact g (fm_isb_is hc) p⟩
theorem fs_si (T : fm_T own cc tc fr mr cr lr) (pc1 a : Nat) {i x : Int32} (h : px_lk tc pc = some (.iastore, 1)) (hp : pc + 1 = pc1) (ha : fm_ia H a .int true) {F : fm_M → Option (α × fm_M)} (g : ∀ m1, fm_o r (F m1) K → fm_V G H d own cc ret z K pc1 ls st m1) : fm_o r (if px_inb i (fm_sz H a) = true then fm_bd (fm_si m a i.toNatClampNeg x) F else none) K → fm_V G H d own cc ret z K pc ls (.int x :: .int i :: .ref a :: st) m := fs_ck fun hb p => by
  subst hp
  refine fs_step (px_dc_at T.2 h) ⟨rfl, .int x, .int x, i, a, fm_sz H a, st, .int, _, rfl, fm_c_at ha, ⟨rfl, ⟨x, rfl⟩, rfl⟩, px_inb_in hb, ?_⟩
  dsimp only
  rw [fm_c_si (q := (.inr (.int, true), fm_sz H a)) ha rfl, ← z.2.1 m a i.toNatClampNeg x (by rw [ha]; simp)]
  exact g _ p
theorem fs_sb (T : fm_T own cc tc fr mr cr lr) (pc1 a : Nat) {i x : Int32} {ty : FieldType} (h : px_lk tc pc = some (.bastore, 1)) (hp : pc + 1 = pc1) (ht : ty = .byte ∨ ty = .boolean) (ha : fm_ia H a ty true) {F : fm_M → Option (α × fm_M)} (g : ∀ m1, fm_o r (F m1) K → fm_V G H d own cc ret z K pc1 ls st m1) : fm_o r (if px_inb i (fm_sz H a) = true then fm_bd (fm_si m a i.toNatClampNeg (fm_nw ty x)) F else none) K → fm_V G H d own cc ret z K pc ls (.int x :: .int i :: .ref a :: st) m := fs_ck fun hb p => by
  subst hp
  have hn : narrow ty (.int x) = .int (fm_nw ty x) := by rcases ht with rfl | rfl <;> rfl
  have hk : fm_kd (.inr (ty, true)) i.toNatClampNeg = 0 := by rcases ht with rfl | rfl <;> rfl
  refine fs_step (px_dc_at T.2 h) ⟨rfl, .int x, .int (fm_nw ty x), i, a, fm_sz H a, st, ty, _, rfl, fm_c_at ha, ⟨ht, ⟨x, rfl⟩, hn.symm⟩, px_inb_in hb, ?_⟩
  dsimp only
  rw [fm_c_si (q := (.inr (ty, true), fm_sz H a)) ha hk, ← z.2.1 m a i.toNatClampNeg (fm_nw ty x) (by rw [ha]; simp)]
  exact g _ p
theorem fs_sa (T : fm_T own cc tc fr mr cr lr) (pc1 a ci : Nat) {i : Int32} {x : Nat} {C : String} (h : px_lk tc pc = some (.aastore, 1)) (hp : pc + 1 = pc1) (ha : fm_ia H a (.object C) true) (hx : fm_is H x ci) (hC : (pm_cl[ci]?).map Prod.fst = some C) {F : fm_M → Option (α × fm_M)} (g : ∀ m1, fm_o r (F m1) K → fm_V G H d own cc ret z K pc1 ls st m1) : fm_o r (if px_inb i (fm_sz H a) = true then fm_bd (fm_sr m a i.toNatClampNeg x) F else none) K → fm_V G H d own cc ret z K pc ls (.ref x :: .int i :: .ref a :: st) m := fs_ck fun hb p => by
  subst hp
  obtain ⟨n, hx⟩ := hx
  obtain ⟨q, hq, hC⟩ := Option.map_eq_some_iff.mp hC
  subst hC
  refine fs_step (px_dc_at T.2 h) ⟨rfl, .ref x, .ref x, i, a, fm_sz H a, st, .object q.1, _, rfl, fm_c_at ha, ⟨⟨x, ci, n, _, q, rfl, fm_c_at hx, hq, rfl⟩, rfl⟩, px_inb_in hb, ?_⟩
  dsimp only
  rw [fm_c_sr (q := (.inr (.object q.1, true), fm_sz H a)) ha rfl, ← z.2.2.1 m a i.toNatClampNeg x]
  exact g _ p
theorem fs_al (T : fm_T own cc tc fr mr cr lr) (pc1 a : Nat) {ty : FieldType} {w : Bool} (h : px_lk tc pc = some (.arraylength, 1)) (hp : pc + 1 = pc1) (ha : fm_ia H a ty w) (g : P → fm_V G H d own cc ret z K pc1 ls (.int (Int32.ofNat (fm_sz H a)) :: st) m) : P → fm_V G H d own cc ret z K pc ls (.ref a :: st) m := fun p => by
  subst hp
  exact fs_step (px_dc_at T.2 h) ⟨rfl, a, fm_sz H a, st, _, _, rfl, fm_c_at ha, g p⟩
/-- quotients and rests -/
theorem fs_rem (T : fm_T own cc tc fr mr cr lr) (pc1 : Nat) {x y : Int32} (h : px_lk tc pc = some (.irem, 1)) (hp : pc + 1 = pc1) {X : Option (α × fm_M)} (g : fm_o r X K → fm_V G H d own cc ret z K pc1 ls (.int (x - x / y * y) :: st) m) : fm_o r (if y = 0 then none else X) K → fm_V G H d own cc ret z K pc ls (.int y :: .int x :: st) m := fun p => by
  subst hp
  by_cases e : y = 0
  · rw [if_pos e] at p
    exact fs_none p
  · rw [if_neg e] at p
    exact fs_step (px_dc_at T.2 h) ⟨rfl, x, y, st, rfl, e, g p⟩
theorem fs_div (T : fm_T own cc tc fr mr cr lr) (pc1 : Nat) {x y : Int32} (h : px_lk tc pc = some (.idiv, 1)) (hp : pc + 1 = pc1) {X : Option (α × fm_M)} (g : fm_o r X K → fm_V G H d own cc ret z K pc1 ls (.int (x / y) :: st) m) : fm_o r (if y = 0 then none else X) K → fm_V G H d own cc ret z K pc ls (.int y :: .int x :: st) m := fun p => by
  subst hp
  by_cases e : y = 0
  · rw [if_pos e] at p
    exact fs_none p
  · rw [if_neg e] at p
    exact fs_step (px_dc_at T.2 h) ⟨rfl, x, y, st, rfl, e, g p⟩
theorem fs_fdiv (T : fm_T own cc tc fr mr cr lr) (pc1 : Nat) {x y : UInt32} (h : px_lk tc pc = some (.fdiv, 1)) (hp : pc + 1 = pc1) {X : Option (α × fm_M)} (g : fm_o r X K → fm_V G H d own cc ret z K pc1 ls (.float (FP.fdiv x y) :: st) m) : fm_o r (if fm_n32 (FP.fdiv x y) = true then X else none) K → fm_V G H d own cc ret z K pc ls (.float y :: .float x :: st) m := fs_ck fun hb p => by
  subst hp
  exact fs_step (px_dc_at T.2 h) ⟨rfl, x, y, st, rfl, fm_n32s hb, g p⟩
theorem fs_ddiv (T : fm_T own cc tc fr mr cr lr) (pc1 : Nat) {x y : UInt64} (h : px_lk tc pc = some (.ddiv, 1)) (hp : pc + 1 = pc1) {X : Option (α × fm_M)} (g : fm_o r X K → fm_V G H d own cc ret z K pc1 ls (.double (FP.ddiv x y) :: st) m) : fm_o r (if fm_n64 (FP.ddiv x y) = true then X else none) K → fm_V G H d own cc ret z K pc ls (.double y :: .double x :: st) m := fs_ck fun hb p => by
  subst hp
  exact fs_step (px_dc_at T.2 h) ⟨rfl, x, y, st, rfl, fm_n64s hb, g p⟩
theorem fs_if_eq (T : fm_T own cc tc fr mr cr lr) (t pc1 : Nat) {off : Int} {x : Int32} (h : px_lk tc pc = some (.ifCond .eq off, 3)) (ht : px_tg pc off = some t) (hp : pc + 3 = pc1) {A B : Option (α × fm_M)} (g1 : x = 0 → fm_o r A K → fm_V G H d own cc ret z K t ls st m) (g2 : ¬ x = 0 → fm_o r B K → fm_V G H d own cc ret z K pc1 ls st m) : fm_o r (if x = 0 then A else B) K → fm_V G H d own cc ret z K pc ls (.int x :: st) m := fun p => by
  subst hp
  exact fs_step (px_dc_at T.2 h) ⟨rfl, x, st, t, rfl, px_tg_eq ht, ⟨fun z => g1 z (by rw [if_pos z] at p; exact p), fun z => g2 z (by rw [if_neg z] at p; exact p)⟩⟩
theorem fs_if_ne (T : fm_T own cc tc fr mr cr lr) (t pc1 : Nat) {off : Int} {x : Int32} (h : px_lk tc pc = some (.ifCond .ne off, 3)) (ht : px_tg pc off = some t) (hp : pc + 3 = pc1) {A B : Option (α × fm_M)} (g1 : x = 0 → fm_o r A K → fm_V G H d own cc ret z K pc1 ls st m) (g2 : ¬ x = 0 → fm_o r B K → fm_V G H d own cc ret z K t ls st m) : fm_o r (if x = 0 then A else B) K → fm_V G H d own cc ret z K pc ls (.int x :: st) m := fun p => by
  subst hp
  exact fs_step (px_dc_at T.2 h) ⟨rfl, x, st, t, rfl, px_tg_eq ht, ⟨fun z => g2 z (by rw [if_neg z] at p; exact p), fun z => g1 (Decidable.not_not.mp z) (by rw [if_pos (Decidable.not_not.mp z)] at p; exact p)⟩⟩
theorem fs_if_lt (T : fm_T own cc tc fr mr cr lr) (t pc1 : Nat) {off : Int} {x : Int32} (h : px_lk tc pc = some (.ifCond .lt off, 3)) (ht : px_tg pc off = some t) (hp : pc + 3 = pc1) {A B : Option (α × fm_M)} (g1 : x < 0 → fm_o r A K → fm_V G H d own cc ret z K t ls st m) (g2 : ¬ x < 0 → fm_o r B K → fm_V G H d own cc ret z K pc1 ls st m) : fm_o r (if x < 0 then A else B) K → fm_V G H d own cc ret z K pc ls (.int x :: st) m := fun p => by
  subst hp
  exact fs_step (px_dc_at T.2 h) ⟨rfl, x, st, t, rfl, px_tg_eq ht, ⟨fun z => g1 z (by rw [if_pos z] at p; exact p), fun z => g2 z (by rw [if_neg z] at p; exact p)⟩⟩
theorem fs_if_ge (T : fm_T own cc tc fr mr cr lr) (t pc1 : Nat) {off : Int} {x : Int32} (h : px_lk tc pc = some (.ifCond .ge off, 3)) (ht : px_tg pc off = some t) (hp : pc + 3 = pc1) {A B : Option (α × fm_M)} (g1 : 0 ≤ x → fm_o r A K → fm_V G H d own cc ret z K t ls st m) (g2 : ¬ 0 ≤ x → fm_o r B K → fm_V G H d own cc ret z K pc1 ls st m) : fm_o r (if 0 ≤ x then A else B) K → fm_V G H d own cc ret z K pc ls (.int x :: st) m := fun p => by
  subst hp
  exact fs_step (px_dc_at T.2 h) ⟨rfl, x, st, t, rfl, px_tg_eq ht, ⟨fun z => g1 z (by rw [if_pos z] at p; exact p), fun z => g2 z (by rw [if_neg z] at p; exact p)⟩⟩
theorem fs_if_gt (T : fm_T own cc tc fr mr cr lr) (t pc1 : Nat) {off : Int} {x : Int32} (h : px_lk tc pc = some (.ifCond .gt off, 3)) (ht : px_tg pc off = some t) (hp : pc + 3 = pc1) {A B : Option (α × fm_M)} (g1 : 0 < x → fm_o r A K → fm_V G H d own cc ret z K t ls st m) (g2 : ¬ 0 < x → fm_o r B K → fm_V G H d own cc ret z K pc1 ls st m) : fm_o r (if 0 < x then A else B) K → fm_V G H d own cc ret z K pc ls (.int x :: st) m := fun p => by
  subst hp
  exact fs_step (px_dc_at T.2 h) ⟨rfl, x, st, t, rfl, px_tg_eq ht, ⟨fun z => g1 z (by rw [if_pos z] at p; exact p), fun z => g2 z (by rw [if_neg z] at p; exact p)⟩⟩
theorem fs_if_le (T : fm_T own cc tc fr mr cr lr) (t pc1 : Nat) {off : Int} {x : Int32} (h : px_lk tc pc = some (.ifCond .le off, 3)) (ht : px_tg pc off = some t) (hp : pc + 3 = pc1) {A B : Option (α × fm_M)} (g1 : x ≤ 0 → fm_o r A K → fm_V G H d own cc ret z K t ls st m) (g2 : ¬ x ≤ 0 → fm_o r B K → fm_V G H d own cc ret z K pc1 ls st m) : fm_o r (if x ≤ 0 then A else B) K → fm_V G H d own cc ret z K pc ls (.int x :: st) m := fun p => by
  subst hp
  exact fs_step (px_dc_at T.2 h) ⟨rfl, x, st, t, rfl, px_tg_eq ht, ⟨fun z => g1 z (by rw [if_pos z] at p; exact p), fun z => g2 z (by rw [if_neg z] at p; exact p)⟩⟩
theorem fs_ic_eq (T : fm_T own cc tc fr mr cr lr) (t pc1 : Nat) {off : Int} {x y : Int32} (h : px_lk tc pc = some (.if_icmp .eq off, 3)) (ht : px_tg pc off = some t) (hp : pc + 3 = pc1) {A B : Option (α × fm_M)} (g1 : x = y → fm_o r A K → fm_V G H d own cc ret z K t ls st m) (g2 : ¬ x = y → fm_o r B K → fm_V G H d own cc ret z K pc1 ls st m) : fm_o r (if x = y then A else B) K → fm_V G H d own cc ret z K pc ls (.int y :: .int x :: st) m := fun p => by
  subst hp
  exact fs_step (px_dc_at T.2 h) ⟨rfl, x, y, st, t, rfl, px_tg_eq ht, ⟨fun z => g1 z (by rw [if_pos z] at p; exact p), fun z => g2 z (by rw [if_neg z] at p; exact p)⟩⟩
theorem fs_ic_ne (T : fm_T own cc tc fr mr cr lr) (t pc1 : Nat) {off : Int} {x y : Int32} (h : px_lk tc pc = some (.if_icmp .ne off, 3)) (ht : px_tg pc off = some t) (hp : pc + 3 = pc1) {A B : Option (α × fm_M)} (g1 : x = y → fm_o r A K → fm_V G H d own cc ret z K pc1 ls st m) (g2 : ¬ x = y → fm_o r B K → fm_V G H d own cc ret z K t ls st m) : fm_o r (if x = y then A else B) K → fm_V G H d own cc ret z K pc ls (.int y :: .int x :: st) m := fun p => by
  subst hp
  exact fs_step (px_dc_at T.2 h) ⟨rfl, x, y, st, t, rfl, px_tg_eq ht, ⟨fun z => g2 z (by rw [if_neg z] at p; exact p), fun z => g1 (Decidable.not_not.mp z) (by rw [if_pos (Decidable.not_not.mp z)] at p; exact p)⟩⟩
theorem fs_ic_lt (T : fm_T own cc tc fr mr cr lr) (t pc1 : Nat) {off : Int} {x y : Int32} (h : px_lk tc pc = some (.if_icmp .lt off, 3)) (ht : px_tg pc off = some t) (hp : pc + 3 = pc1) {A B : Option (α × fm_M)} (g1 : x < y → fm_o r A K → fm_V G H d own cc ret z K t ls st m) (g2 : ¬ x < y → fm_o r B K → fm_V G H d own cc ret z K pc1 ls st m) : fm_o r (if x < y then A else B) K → fm_V G H d own cc ret z K pc ls (.int y :: .int x :: st) m := fun p => by
  subst hp
  exact fs_step (px_dc_at T.2 h) ⟨rfl, x, y, st, t, rfl, px_tg_eq ht, ⟨fun z => g1 z (by rw [if_pos z] at p; exact p), fun z => g2 z (by rw [if_neg z] at p; exact p)⟩⟩
theorem fs_ic_ge (T : fm_T own cc tc fr mr cr lr) (t pc1 : Nat) {off : Int} {x y : Int32} (h : px_lk tc pc = some (.if_icmp .ge off, 3)) (ht : px_tg pc off = some t) (hp : pc + 3 = pc1) {A B : Option (α × fm_M)} (g1 : y ≤ x → fm_o r A K → fm_V G H d own cc ret z K t ls st m) (g2 : ¬ y ≤ x → fm_o r B K → fm_V G H d own cc ret z K pc1 ls st m) : fm_o r (if y ≤ x then A else B) K → fm_V G H d own cc ret z K pc ls (.int y :: .int x :: st) m := fun p => by
  subst hp
  exact fs_step (px_dc_at T.2 h) ⟨rfl, x, y, st, t, rfl, px_tg_eq ht, ⟨fun z => g1 z (by rw [if_pos z] at p; exact p), fun z => g2 z (by rw [if_neg z] at p; exact p)⟩⟩
theorem fs_ic_gt (T : fm_T own cc tc fr mr cr lr) (t pc1 : Nat) {off : Int} {x y : Int32} (h : px_lk tc pc = some (.if_icmp .gt off, 3)) (ht : px_tg pc off = some t) (hp : pc + 3 = pc1) {A B : Option (α × fm_M)} (g1 : y < x → fm_o r A K → fm_V G H d own cc ret z K t ls st m) (g2 : ¬ y < x → fm_o r B K → fm_V G H d own cc ret z K pc1 ls st m) : fm_o r (if y < x then A else B) K → fm_V G H d own cc ret z K pc ls (.int y :: .int x :: st) m := fun p => by
  subst hp
  exact fs_step (px_dc_at T.2 h) ⟨rfl, x, y, st, t, rfl, px_tg_eq ht, ⟨fun z => g1 z (by rw [if_pos z] at p; exact p), fun z => g2 z (by rw [if_neg z] at p; exact p)⟩⟩
theorem fs_ic_le (T : fm_T own cc tc fr mr cr lr) (t pc1 : Nat) {off : Int} {x y : Int32} (h : px_lk tc pc = some (.if_icmp .le off, 3)) (ht : px_tg pc off = some t) (hp : pc + 3 = pc1) {A B : Option (α × fm_M)} (g1 : x ≤ y → fm_o r A K → fm_V G H d own cc ret z K t ls st m) (g2 : ¬ x ≤ y → fm_o r B K → fm_V G H d own cc ret z K pc1 ls st m) : fm_o r (if x ≤ y then A else B) K → fm_V G H d own cc ret z K pc ls (.int y :: .int x :: st) m := fun p => by
  subst hp
  exact fs_step (px_dc_at T.2 h) ⟨rfl, x, y, st, t, rfl, px_tg_eq ht, ⟨fun z => g1 z (by rw [if_pos z] at p; exact p), fun z => g2 z (by rw [if_neg z] at p; exact p)⟩⟩
/-- a switch -/
def fm_sg (r : α → pm_R) (K : pm_R → fm_M → Prop) (Q : Nat → Prop) (pc : Nat) : List (Option (α × fm_M)) → List Int → Prop
  | A :: as, off :: os => (∃ t, px_tg pc off = some t ∧ (fm_o r A K → Q t)) ∧ fm_sg r K Q pc as os
  | [], [] => True
  | _, _ => False
theorem fm_sg_at {Q : Nat → Prop} {x : Int32} {D : Option (α × fm_M)} : ∀ {as : List (Option (α × fm_M))} {os : List Int} {lo : Int}, fm_sg r K Q pc as os → fm_o r (fm_sw x lo as D) K → ¬ x.toInt < lo → x.toInt < lo + os.length → ∃ off t, os[(x.toInt - lo).toNat]? = some off ∧ px_tg pc off = some t ∧ Q t
  | A :: as, off :: os, lo, ⟨⟨t, ht, hk⟩, h⟩, p, h1, h2 => by
    by_cases e : x.toInt = lo
    · unfold fm_sw at p
      rw [if_pos e] at p
      exact ⟨off, t, by rw [e]; simp, ht, hk p⟩
    · unfold fm_sw at p
      rw [if_neg e] at p
      obtain ⟨off, t, q1, q2, q3⟩ := fm_sg_at h p (by omega) (by rw [List.length_cons] at h2; omega)
      refine ⟨off, t, ?_, q2, q3⟩
      have e2 : (x.toInt - lo).toNat = (x.toInt - (lo + 1)).toNat + 1 := by omega
      rw [e2, List.getElem?_cons_succ]
      exact q1
  | [], [], lo, _, _, h1, h2 => by simp at h2; omega
theorem fm_sw_out {x : Int32} {D : Option α} : ∀ {as : List (Option α)} {lo : Int}, (x.toInt < lo ∨ lo + as.length ≤ x.toInt) → fm_sw x lo as D = D
  | [], _, _ => rfl
  | A :: as, lo, h => by
    unfold fm_sw
    rw [List.length_cons] at h
    rw [if_neg (by omega)]
    exact fm_sw_out (by omega)
theorem fs_tsw (T : fm_T own cc tc fr mr cr lr) {len : Nat} {dflt lo hi : Int} {offs : Array Int} {t : Nat} {x : Int32} (h : px_lk tc pc = some (.tableswitch dflt lo hi offs, len)) (hl : hi + 1 = lo + offs.toList.length) (ht : px_tg pc dflt = some t) {as : List (Option (α × fm_M))} {D : Option (α × fm_M)} (ha : as.length = offs.toList.length) (g : fm_sg r K (fun t => fm_V G H d own cc ret z K t ls st m) pc as offs.toList) (gd : fm_o r D K → fm_V G H d own cc ret z K t ls st m) : fm_o r (fm_sw x lo as D) K → fm_V G H d own cc ret z K pc ls (.int x :: st) m := fun p => by
  refine fs_step (px_dc_at T.2 h) ⟨x, st, rfl, fun z => ⟨t, px_tg_eq ht, gd ?_⟩, fun z1 z2 => ?_⟩
  · rw [fm_sw_out (by omega)] at p
    exact p
  · obtain ⟨off, t, q1, q2, q3⟩ := fm_sg_at g p z1 (by omega)
    exact ⟨off, t, by rw [← Array.getElem?_toList]; exact q1, px_tg_eq q2, q3⟩
theorem fs_lsw (T : fm_T own cc tc fr mr cr lr) {len : Nat} {dflt k1 k2 o1 o2 : Int} {t t1 t2 : Nat} {x : Int32} (h : px_lk tc pc = some (.lookupswitch dflt #[(k1, o1), (k2, o2)], len)) (hk : k1 < k2) (ht : px_tg pc dflt = some t) (ht1 : px_tg pc o1 = some t1) (ht2 : px_tg pc o2 = some t2) {A1 A2 D : Option (α × fm_M)} (g1 : fm_o r A1 K → fm_V G H d own cc ret z K t1 ls st m) (g2 : fm_o r A2 K → fm_V G H d own cc ret z K t2 ls st m) (gd : fm_o r D K → fm_V G H d own cc ret z K t ls st m) : fm_o r (if x.toInt = k1 then A1 else if x.toInt = k2 then A2 else D) K → fm_V G H d own cc ret z K pc ls (.int x :: st) m := fun p => by
  have hall : ((#[(k1, o1), (k2, o2)] : Array (Int × Int)).toList.zip ((#[(k1, o1), (k2, o2)] : Array (Int × Int)).toList.drop 1)).all (fun (a, next) => a.1 < next.1) = true := by simp [hk]
  by_cases e1 : x.toInt = k1
  · rw [if_pos e1] at p
    exact fs_step (px_dc_at T.2 h) ⟨x, st, t1, rfl, hall, (by show (pc : Int) + Op.lookupswitch.offset ((k1, o1) :: [(k2, o2)]) dflt x.toInt = _; rw [Op.lookupswitch.offset_cons, if_pos e1.symm]; exact px_tg_eq ht1), g1 p⟩
  · rw [if_neg e1] at p
    by_cases e2 : x.toInt = k2
    · rw [if_pos e2] at p
      exact fs_step (px_dc_at T.2 h) ⟨x, st, t2, rfl, hall, (by have e3 : ¬ k1 = x.toInt := fun z => e1 z.symm; show (pc : Int) + Op.lookupswitch.offset ((k1, o1) :: [(k2, o2)]) dflt x.toInt = _; rw [Op.lookupswitch.offset_cons, if_neg e3, Op.lookupswitch.offset_cons, if_pos e2.symm]; exact px_tg_eq ht2), g2 p⟩
    · rw [if_neg e2] at p
      exact fs_step (px_dc_at T.2 h) ⟨x, st, t, rfl, hall, (by have e3 : ¬ k1 = x.toInt := fun z => e1 z.symm; have e4 : ¬ k2 = x.toInt := fun z => e2 z.symm; show (pc : Int) + Op.lookupswitch.offset ((k1, o1) :: [(k2, o2)]) dflt x.toInt = _; rw [Op.lookupswitch.offset_cons, if_neg e3, Op.lookupswitch.offset_cons, if_neg e4]; exact px_tg_eq ht), gd p⟩
/-- constants -/
theorem fs_ldc (T : fm_T own cc tc fr mr cr lr) (pc1 : Nat) {idx : Nat} {v : Int32} (h : px_lk tc pc = some (.ldc idx, 2)) (hl : px_lk lr idx = some (.inl (some v))) (hp : pc + 2 = pc1) (g : P → fm_V G H d own cc ret z K pc1 ls (.int v :: st) m) : P → fm_V G H d own cc ret z K pc ls st m := fun p => by
  subst hp
  exact fs_step (px_dc_at T.2 h) ⟨rfl, Or.inl ⟨v, (T.1.2.2.2 _ (px_lk_in hl)).1 _ rfl, g p⟩⟩
theorem fs_ldcL (T : fm_T own cc tc fr mr cr lr) (pc1 : Nat) {idx : Nat} {v : Int64} (h : px_lk tc pc = some (.ldc2_w idx, 3)) (hl : px_lk lr idx = some (.inr v)) (hp : pc + 3 = pc1) (g : P → fm_V G H d own cc ret z K pc1 ls (.long v :: st) m) : P → fm_V G H d own cc ret z K pc ls st m := fun p => by
  subst hp
  exact fs_step (px_dc_at T.2 h) ⟨rfl, Or.inl ⟨v, (T.1.2.2.2 _ (px_lk_in hl)).2.2 _ rfl, g p⟩⟩
theorem fs_ldcD (T : fm_T own cc tc fr mr cr lr) (pc1 : Nat) {idx : Nat} {v : UInt64} (h : px_lk tc pc = some (.ldc2_w idx, 3)) (hl : Cond.constantDouble own idx v ∈ pm_W) (hp : pc + 3 = pc1) (g : P → fm_V G H d own cc ret z K pc1 ls (.double v :: st) m) : P → fm_V G H d own cc ret z K pc ls st m := fun p => by
  subst hp
  exact fs_step (px_dc_at T.2 h) ⟨rfl, Or.inr ⟨v, hl, g p⟩⟩
/-- Math.max, Math.min -/
theorem fs_mm (T : fm_T own cc tc fr mr cr lr) (pc1 : Nat) {idx : Nat} {mx : Bool} {x y : Int32} (h : px_lk tc pc = some (.invokestatic idx, 3)) (hl : pm_ma own idx mx) (hs : Nat.ble ((st.map fun v => v.category).sum) 8 = true) (hp : pc + 3 = pc1) (g : P → fm_V G H d own cc ret z K pc1 ls (.int (pm_mm mx x y) :: st) m) : P → fm_V G H d own cc ret z K pc ls (.int y :: .int x :: st) m := fun p => by
  subst hp
  exact fs_step (px_dc_at T.2 h) ⟨rfl, Or.inl ⟨mx, x, y, st, hl, rfl, Nat.le_of_ble_eq_true hs, g p⟩⟩
/-- calls: what comes of them -/
def fm_cal (G : pm_G) (H : fm_H) (d : Nat) (y : MethodName) (as : List Value) (z : fm_Z H) (m : fm_M) (R : β → pm_R) (o : Option (β × fm_M)) : Prop := ∀ x m1, o = some (x, m1) → pm_run G d false y as (fm_c H m, z.1 m) (R x) (fm_c H m1, fm_zz (R x) (z.1 m1))
/-- what a call is: by its table's row -/
theorem fs_cv (T : fm_T own cc tc fr mr cr lr) {idx ci n rc b : Nat} {thr : Bool} {y : MethodName} {As rest : List Value} {r1 : pm_R} {m1 : fm_M} (h : px_lk tc pc = some (.invokevirtual idx, 3)) (hm : px_lk mr idx = some (0, ci, y, n, rc, thr)) (h1 : st.drop n = .ref b :: rest) (h2 : (st.take n).reverse = As) (hs : Nat.ble ((rest.map fun v => v.category).sum) 8 = true) (hb : fm_is H b ci) (hc : pm_run G d false y (.ref b :: As) (fm_c H m, z.1 m) r1 (fm_c H m1, fm_zz r1 (z.1 m1))) (g : pm_cb own cc ret [] (fun pc ls st S => px_W G (pm_run G d) own false cc ret (fm_KR H z K) pc ls st S) (fm_KR H z K) pc ls rest r1 (fm_c H m1, fm_zz r1 (z.1 m1))) : fm_V G H d own cc ret z K pc ls st m := by
  subst h2
  obtain ⟨n9, hb⟩ := hb
  obtain ⟨m1', q9, m2, m3⟩ := (T.1.2.1 _ (px_lk_in hm)).1 rfl
  obtain ⟨t1, t2⟩ := px_take h1
  exact fs_step (px_dc_at T.2 h) ⟨rfl, y, _, rest, b, ci, n9, _, q9, r1, _, by rw [t2]; exact m1', t1, Nat.le_of_ble_eq_true hs, fm_c_at hb, m2, m3, hc, g⟩
theorem fs_cs (T : fm_T own cc tc fr mr cr lr) {idx ci n rc : Nat} {thr : Bool} {y : MethodName} {As rest : List Value} {r1 : pm_R} {m1 : fm_M} (h : px_lk tc pc = some (.invokestatic idx, 3)) (hm : px_lk mr idx = some (1, ci, y, n, rc, thr)) (h1 : st.drop n = rest) (h2 : (st.take n).reverse = As) (h3 : Nat.ble n st.length = true) (hs : Nat.ble ((rest.map fun v => v.category).sum) 8 = true) (hc : pm_run G d false y As (fm_c H m, z.1 m) r1 (fm_c H m1, fm_zz r1 (z.1 m1))) (g : pm_cb own cc ret [] (fun pc ls st S => px_W G (pm_run G d) own false cc ret (fm_KR H z K) pc ls st S) (fm_KR H z K) pc ls rest r1 (fm_c H m1, fm_zz r1 (z.1 m1))) : fm_V G H d own cc ret z K pc ls st m := by
  subst h2
  subst h1
  have m1' := (T.1.2.1 _ (px_lk_in hm)).2.1 rfl
  exact fs_step (px_dc_at T.2 h) ⟨rfl, Or.inr ⟨false, y, _, st.drop n, r1, _, by rw [List.length_reverse, List.length_take, Nat.min_eq_left (Nat.le_of_ble_eq_true h3)]; exact m1', fun z => (by cases z), by rw [List.reverse_reverse, List.take_append_drop], Nat.le_of_ble_eq_true hs, hc, g⟩⟩
theorem fs_vV (T : fm_T own cc tc fr mr cr lr) (pc1 : Nat) {idx ci n rc b : Nat} {thr : Bool} {y : MethodName} {As st9 : List Value} (h : px_lk tc pc = some (.invokevirtual idx, 3)) (hm : px_lk mr idx = some (0, ci, y, n, rc, thr)) (h1 : st.drop n = .ref b :: st9) (h2 : (st.take n).reverse = As) (hs : Nat.ble ((st9.map fun v => v.category).sum) 8 = true) (hp : pc + 3 = pc1) (hb : fm_is H b ci) {o : Option (Unit × fm_M)} (hq : fm_cal G H d y (.ref b :: As) z m fm_rV o) {F : Unit → fm_M → Option (α × fm_M)} (g : ∀ (x : Unit) m1, fm_o r (F x m1) K → fm_V G H d own cc ret z K pc1 ls (st9) m1) : fm_o r (fm_bn o F) K → fm_V G H d own cc ret z K pc ls st m := fun p => by
  subst hp
  match o, hq, p with
  | some (x, m1), hq, p => exact fs_cv T h hm h1 h2 hs hb (hq _ _ rfl) (g x m1 p)
  | none, hq, p => exact fs_none p
theorem fs_vVx (T : fm_T own cc tc fr mr cr lr) (pc1 : Nat) {idx ci n rc b : Nat} {thr : Bool} {y : MethodName} {As st9 : List Value} {r : β → pm_R} (h : px_lk tc pc = some (.invokevirtual idx, 3)) (hm : px_lk mr idx = some (0, ci, y, n, rc, thr)) (h1 : st.drop n = .ref b :: st9) (h2 : (st.take n).reverse = As) (hs : Nat.ble ((st9.map fun v => v.category).sum) 8 = true) (hp : pc + 3 = pc1) (hb : fm_is H b ci) {o : Option ((Unit ⊕ String) × fm_M)} (hq : fm_cal G H d y (.ref b :: As) z m (fm_rX fm_rV) o) {F : Unit → fm_M → Option ((β ⊕ String) × fm_M)} (g : ∀ (x : Unit) m1, fm_o (fm_rX r) (F x m1) K → fm_V G H d own cc ret z K pc1 ls (st9) m1) : fm_o (fm_rX r) (fm_bx o F) K → fm_V G H d own cc ret z K pc ls st m := fun p => by
  subst hp
  match o, hq, p with
  | some (.inl x, m1), hq, p => exact fs_cv T h hm h1 h2 hs hb (hq _ _ rfl) (g x m1 p)
  | some (.inr E, m1), hq, p => exact fs_cv T h hm h1 h2 hs hb (hq _ _ rfl) (Or.inl ⟨rfl, m1, rfl, by obtain ⟨y, m2, e, hk⟩ := p; cases e; exact hk⟩)
  | none, hq, p => exact fs_none p
theorem fs_vI (T : fm_T own cc tc fr mr cr lr) (pc1 : Nat) {idx ci n rc b : Nat} {thr : Bool} {y : MethodName} {As st9 : List Value} (h : px_lk tc pc = some (.invokevirtual idx, 3)) (hm : px_lk mr idx = some (0, ci, y, n, rc, thr)) (h1 : st.drop n = .ref b :: st9) (h2 : (st.take n).reverse = As) (hs : Nat.ble ((st9.map fun v => v.category).sum) 8 = true) (hp : pc + 3 = pc1) (hb : fm_is H b ci) {o : Option (Int32 × fm_M)} (hq : fm_cal G H d y (.ref b :: As) z m fm_rI o) {F : Int32 → fm_M → Option (α × fm_M)} (g : ∀ (x : Int32) m1, fm_o r (F x m1) K → fm_V G H d own cc ret z K pc1 ls (.int x :: st9) m1) : fm_o r (fm_bn o F) K → fm_V G H d own cc ret z K pc ls st m := fun p => by
  subst hp
  match o, hq, p with
  | some (x, m1), hq, p => exact fs_cv T h hm h1 h2 hs hb (hq _ _ rfl) (g x m1 p)
  | none, hq, p => exact fs_none p
theorem fs_vIx (T : fm_T own cc tc fr mr cr lr) (pc1 : Nat) {idx ci n rc b : Nat} {thr : Bool} {y : MethodName} {As st9 : List Value} {r : β → pm_R} (h : px_lk tc pc = some (.invokevirtual idx, 3)) (hm : px_lk mr idx = some (0, ci, y, n, rc, thr)) (h1 : st.drop n = .ref b :: st9) (h2 : (st.take n).reverse = As) (hs : Nat.ble ((st9.map fun v => v.category).sum) 8 = true) (hp : pc + 3 = pc1) (hb : fm_is H b ci) {o : Option ((Int32 ⊕ String) × fm_M)} (hq : fm_cal G H d y (.ref b :: As) z m (fm_rX fm_rI) o) {F : Int32 → fm_M → Option ((β ⊕ String) × fm_M)} (g : ∀ (x : Int32) m1, fm_o (fm_rX r) (F x m1) K → fm_V G H d own cc ret z K pc1 ls (.int x :: st9) m1) : fm_o (fm_rX r) (fm_bx o F) K → fm_V G H d own cc ret z K pc ls st m := fun p => by
  subst hp
  match o, hq, p with
  | some (.inl x, m1), hq, p => exact fs_cv T h hm h1 h2 hs hb (hq _ _ rfl) (g x m1 p)
  | some (.inr E, m1), hq, p => exact fs_cv T h hm h1 h2 hs hb (hq _ _ rfl) (Or.inl ⟨rfl, m1, rfl, by obtain ⟨y, m2, e, hk⟩ := p; cases e; exact hk⟩)
  | none, hq, p => exact fs_none p
theorem fs_sV (T : fm_T own cc tc fr mr cr lr) (pc1 : Nat) {idx ci n rc : Nat} {thr : Bool} {y : MethodName} {As st9 : List Value} (h : px_lk tc pc = some (.invokestatic idx, 3)) (hm : px_lk mr idx = some (1, ci, y, n, rc, thr)) (h1 : st.drop n = st9) (h2 : (st.take n).reverse = As) (h3 : Nat.ble n st.length = true) (hs : Nat.ble ((st9.map fun v => v.category).sum) 8 = true) (hp : pc + 3 = pc1) {o : Option (Unit × fm_M)} (hq : fm_cal G H d y As z m fm_rV o) {F : Unit → fm_M → Option (α × fm_M)} (g : ∀ (x : Unit) m1, fm_o r (F x m1) K → fm_V G H d own cc ret z K pc1 ls (st9) m1) : fm_o r (fm_bn o F) K → fm_V G H d own cc ret z K pc ls st m := fun p => by
  subst hp
  match o, hq, p with
  | some (x, m1), hq, p => exact fs_cs T h hm h1 h2 h3 hs (hq _ _ rfl) (g x m1 p)
  | none, hq, p => exact fs_none p
theorem fs_sVx (T : fm_T own cc tc fr mr cr lr) (pc1 : Nat) {idx ci n rc : Nat} {thr : Bool} {y : MethodName} {As st9 : List Value} {r : β → pm_R} (h : px_lk tc pc = some (.invokestatic idx, 3)) (hm : px_lk mr idx = some (1, ci, y, n, rc, thr)) (h1 : st.drop n = st9) (h2 : (st.take n).reverse = As) (h3 : Nat.ble n st.length = true) (hs : Nat.ble ((st9.map fun v => v.category).sum) 8 = true) (hp : pc + 3 = pc1) {o : Option ((Unit ⊕ String) × fm_M)} (hq : fm_cal G H d y As z m (fm_rX fm_rV) o) {F : Unit → fm_M → Option ((β ⊕ String) × fm_M)} (g : ∀ (x : Unit) m1, fm_o (fm_rX r) (F x m1) K → fm_V G H d own cc ret z K pc1 ls (st9) m1) : fm_o (fm_rX r) (fm_bx o F) K → fm_V G H d own cc ret z K pc ls st m := fun p => by
  subst hp
  match o, hq, p with
  | some (.inl x, m1), hq, p => exact fs_cs T h hm h1 h2 h3 hs (hq _ _ rfl) (g x m1 p)
  | some (.inr E, m1), hq, p => exact fs_cs T h hm h1 h2 h3 hs (hq _ _ rfl) (Or.inl ⟨rfl, m1, rfl, by obtain ⟨y, m2, e, hk⟩ := p; cases e; exact hk⟩)
  | none, hq, p => exact fs_none p
theorem fs_sI (T : fm_T own cc tc fr mr cr lr) (pc1 : Nat) {idx ci n rc : Nat} {thr : Bool} {y : MethodName} {As st9 : List Value} (h : px_lk tc pc = some (.invokestatic idx, 3)) (hm : px_lk mr idx = some (1, ci, y, n, rc, thr)) (h1 : st.drop n = st9) (h2 : (st.take n).reverse = As) (h3 : Nat.ble n st.length = true) (hs : Nat.ble ((st9.map fun v => v.category).sum) 8 = true) (hp : pc + 3 = pc1) {o : Option (Int32 × fm_M)} (hq : fm_cal G H d y As z m fm_rI o) {F : Int32 → fm_M → Option (α × fm_M)} (g : ∀ (x : Int32) m1, fm_o r (F x m1) K → fm_V G H d own cc ret z K pc1 ls (.int x :: st9) m1) : fm_o r (fm_bn o F) K → fm_V G H d own cc ret z K pc ls st m := fun p => by
  subst hp
  match o, hq, p with
  | some (x, m1), hq, p => exact fs_cs T h hm h1 h2 h3 hs (hq _ _ rfl) (g x m1 p)
  | none, hq, p => exact fs_none p
theorem fs_sIx (T : fm_T own cc tc fr mr cr lr) (pc1 : Nat) {idx ci n rc : Nat} {thr : Bool} {y : MethodName} {As st9 : List Value} {r : β → pm_R} (h : px_lk tc pc = some (.invokestatic idx, 3)) (hm : px_lk mr idx = some (1, ci, y, n, rc, thr)) (h1 : st.drop n = st9) (h2 : (st.take n).reverse = As) (h3 : Nat.ble n st.length = true) (hs : Nat.ble ((st9.map fun v => v.category).sum) 8 = true) (hp : pc + 3 = pc1) {o : Option ((Int32 ⊕ String) × fm_M)} (hq : fm_cal G H d y As z m (fm_rX fm_rI) o) {F : Int32 → fm_M → Option ((β ⊕ String) × fm_M)} (g : ∀ (x : Int32) m1, fm_o (fm_rX r) (F x m1) K → fm_V G H d own cc ret z K pc1 ls (.int x :: st9) m1) : fm_o (fm_rX r) (fm_bx o F) K → fm_V G H d own cc ret z K pc ls st m := fun p => by
  subst hp
  match o, hq, p with
  | some (.inl x, m1), hq, p => exact fs_cs T h hm h1 h2 h3 hs (hq _ _ rfl) (g x m1 p)
  | some (.inr E, m1), hq, p => exact fs_cs T h hm h1 h2 h3 hs (hq _ _ rfl) (Or.inl ⟨rfl, m1, rfl, by obtain ⟨y, m2, e, hk⟩ := p; cases e; exact hk⟩)
  | none, hq, p => exact fs_none p
theorem fs_vA (T : fm_T own cc tc fr mr cr lr) (pc1 : Nat) {idx ci n rc b : Nat} {thr : Bool} {y : MethodName} {As st9 : List Value} (h : px_lk tc pc = some (.invokevirtual idx, 3)) (hm : px_lk mr idx = some (0, ci, y, n, rc, thr)) (h1 : st.drop n = .ref b :: st9) (h2 : (st.take n).reverse = As) (hs : Nat.ble ((st9.map fun v => v.category).sum) 8 = true) (hp : pc + 3 = pc1) (hb : fm_is H b ci) {o : Option (Nat × fm_M)} (hq : fm_cal G H d y (.ref b :: As) z m fm_rA o) {F : Nat → fm_M → Option (α × fm_M)} (cj : Nat) (g : ∀ (x : Nat) m1, fm_is H x cj → fm_o r (F x m1) K → fm_V G H d own cc ret z K pc1 ls (.ref x :: st9) m1) : fm_o r (fm_bn o fun x m1 => if fm_isb H x cj = true then F x m1 else none) K → fm_V G H d own cc ret z K pc ls st m := fun p => by
  subst hp
  match o, hq, p with
  | some (x, m1), hq, p => exact fs_ck (fun e p => fs_cv T h hm h1 h2 hs hb (hq _ _ rfl) (g x m1 (fm_isb_is e) p)) p
  | none, hq, p => exact fs_none p
/-- ends -/
theorem fs_end {r1 : pm_R} {ins : Instr} {len : Nat} {x : α} (hd : decode cc pc = .ok (ins, len)) (hr : r x = r1) (hs : ∀ KR : pm_E, KR r1 (fm_c H m, fm_zz r1 (z.1 m)) → pm_step G (pm_run G d) own false cc ret [] (fun pc ls st S => px_W G (pm_run G d) own false cc ret (fm_KR H z K) pc ls st S) KR pc ls st (fm_c H m, z.1 m) ins len) : fm_o r (some (x, m)) K → fm_V G H d own cc ret z K pc ls st m := fun p => by
  obtain ⟨x9, m9, e, hk⟩ := p
  cases e
  subst hr
  exact fs_step hd (hs _ ⟨m, rfl, hk⟩)
theorem fs_reti (T : fm_T own cc tc fr mr cr lr) {x : Int32} {y : α} (h : px_lk tc pc = some (.ireturn, 1)) (hret : ret = some .int) (hr : r y = .inl (some (.int x))) : fm_o r (some (y, m)) K → fm_V G H d own cc ret z K pc ls [.int x] m :=
  fs_end (px_dc_at T.2 h) hr (fun KR hk => ⟨rfl, x, .int, rfl, hret, rfl, hk⟩)
theorem fs_retc (T : fm_T own cc tc fr mr cr lr) {x : Int32} {y : α} {ty : FieldType} (h : px_lk tc pc = some (.ireturn, 1)) (hret : ret = some ty) (hn : narrow ty (.int x) = .int x) (hr : r y = .inl (some (.int x))) : fm_o r (some (y, m)) K → fm_V G H d own cc ret z K pc ls [.int x] m :=
  fs_end (px_dc_at T.2 h) hr (fun KR hk => ⟨rfl, x, ty, rfl, hret, hn, hk⟩)
theorem fs_retz (T : fm_T own cc tc fr mr cr lr) {x : Int32} {y : α} (h : px_lk tc pc = some (.ireturn, 1)) (hret : ret = some .boolean) (hr : r y = .inl (some (.int x))) : fm_o r (if fm_b01 x = true then some (y, m) else none) K → fm_V G H d own cc ret z K pc ls [.int x] m := fs_ck fun hx p =>
  fs_end (px_dc_at T.2 h) hr (fun KR hk => ⟨rfl, x, .boolean, rfl, hret, (fm_b01n hx).1, hk⟩) p
theorem fs_retn (T : fm_T own cc tc fr mr cr lr) {x : Int32} {y : α} {ty : FieldType} (h : px_lk tc pc = some (.ireturn, 1)) (hret : ret = some ty) (hr : r y = .inl (some (.int x))) : fm_o r (if fm_nr ty x = true then some (y, m) else none) K → fm_V G H d own cc ret z K pc ls [.int x] m := fs_ck fun hx p =>
  fs_end (px_dc_at T.2 h) hr (fun KR hk => ⟨rfl, x, ty, rfl, hret, of_decide_eq_true hx, hk⟩) p
theorem fs_retv (T : fm_T own cc tc fr mr cr lr) {y : α} (h : px_lk tc pc = some (.return_, 1)) (hret : ret = none) (hr : r y = .inl none) : fm_o r (some (y, m)) K → fm_V G H d own cc ret z K pc ls [] m :=
  fs_end (px_dc_at T.2 h) hr (fun KR hk => ⟨rfl, rfl, hret, hk⟩)
theorem fs_reta (T : fm_T own cc tc fr mr cr lr) {x : Nat} {y : α} {C : String} (h : px_lk tc pc = some (.areturn, 1)) (hret : ret = some (.object C)) (hr : r y = .inl (some (.ref x))) : fm_o r (some (y, m)) K → fm_V G H d own cc ret z K pc ls [.ref x] m :=
  fs_end (px_dc_at T.2 h) hr (fun KR hk => ⟨rfl, x, _, rfl, hret, Or.inl ⟨C, rfl⟩, hk⟩)
theorem fs_retf (T : fm_T own cc tc fr mr cr lr) {x : UInt32} {y : α} (h : px_lk tc pc = some (.freturn, 1)) (hret : ret = some .float) (hr : r y = .inl (some (.float x))) : fm_o r (some (y, m)) K → fm_V G H d own cc ret z K pc ls [.float x] m :=
  fs_end (px_dc_at T.2 h) hr (fun KR hk => ⟨rfl, x, rfl, hret, hk⟩)
theorem fs_retd (T : fm_T own cc tc fr mr cr lr) {x : UInt64} {y : α} (h : px_lk tc pc = some (.dreturn, 1)) (hret : ret = some .double) (hr : r y = .inl (some (.double x))) : fm_o r (some (y, m)) K → fm_V G H d own cc ret z K pc ls [.double x] m :=
  fs_end (px_dc_at T.2 h) hr (fun KR hk => ⟨rfl, x, rfl, hret, hk⟩)
/-- a throw: new E(text) -/
theorem fs_thr (T : fm_T own cc tc fr mr cr lr) {idx ic : Nat} {E : String} {y : α} (h : px_lk tc pc = some (.new idx, 3)) (hc : px_lk cr idx = some (.inr (ic, E))) (hnt : px_nt tc lr ic pc = true) (hs : Nat.ble ((st.map fun v => v.category).sum) 8 = true) (hr : r y = .inr E) : fm_o r (some (y, m)) K → fm_V G H d own cc ret z K pc ls st m :=
  fs_end (px_dc_at T.2 h) hr (fun KR hk => by
    obtain ⟨d3, ia, htx, dd⟩ := px_nt_spec (own := own) (fun pc q hq => px_dc_at T.2 hq) (fun e he => (T.1.2.2.2 e he).2.1) hnt
    obtain ⟨g2, g3, g4, g5, g6, g7⟩ := (T.1.2.2.1 _ (px_lk_in hc)).2 ic E rfl
    exact ⟨rfl, Or.inr ⟨ia, ic, E, ⟨htx, g2, g3, g4, g5, g6, g7⟩, rfl, Nat.le_of_ble_eq_true hs, d3, dd, hk⟩⟩)
/-- fewer known locals -/
theorem fs_wk {ls' : List (Option Value)} (hl : px_leb ls ls') (g : P → fm_V G H d own cc ret z K pc ls' st m) : P → fm_V G H d own cc ret z K pc ls st m := fun p => px_weak (g p) (px_leb_le hl)
end FMV
/-- a method's run -/
theorem fm_mth {α : Type} {r : α → pm_R} {G : pm_G} {H : fm_H} {d : Nat} {fl : Bool} {y : MethodName} {b : ByteArray} {maxL : Nat} {ret : Option FieldType} {as : List Value} {z : fm_Z H} {m : fm_M} {o : Option (α × fm_M)} (hm : pm_mt y b maxL ret) (hl : Nat.ble as.length maxL = true) (hd : as.all pm_dp = true) (hy : decide (y.name = "<init>") = false)
    (h : ∀ K, fm_o r o K → fm_V G H d y.cls b ret z K 0 (pm_ent as maxL) [] m) : ∀ x m1, o = some (x, m1) → pm_run G (d + 1) fl y as (fm_c H m, z.1 m) (r x) (fm_c H m1, fm_zz (r x) (z.1 m1)) := by
  intro x m1 ho
  refine px_run hm (Nat.le_of_ble_eq_true hl) hd ?_
  rw [hy]
  obtain ⟨n, r1, S1, hg, m2, e1, e2, e3⟩ := h (fun r1 m2 => r1 = r x ∧ m2 = m1) ⟨x, m1, ho, rfl, rfl⟩
  exact ⟨n, r1, S1, hg, e2, by rw [e1, e2, e3]⟩
