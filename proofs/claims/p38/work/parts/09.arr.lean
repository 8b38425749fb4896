/-! rows of the pure machine over the heap: arrays, new cells -/
section PMA
variable {p : Program} {l : Launch} {e : Env} {R : Room} {s : State} {m : MethodId} {args : Array Value} {below : List Frame} {meth : Method} {c : Code} {Q : State → Prop} {cc : ByteArray} {G : pm_G} {nL c0 s0 : Nat} {pc : Nat} {ls : List (Option Value)} {r st : List Value} {S : pm_S}
theorem pm_in {i : Int32} {n : Nat} {cell : Cell} (h : vp_in i n) (hz : n ≤ cell.slots.size ∧ cell.slots.size.toInt32 = Int32.ofNat n) : ¬ (i < 0 ∨ cell.slots.size ≤ i.toNatClampNeg) := fun q => h (q.elim Or.inl (fun z => Or.inr (Nat.le_trans hz.1 z)))
theorem pm_in_lt {i : Int32} {n : Nat} (h : vp_in i n) : i.toNatClampNeg < n := Nat.not_le.mp fun q => h (Or.inr q)
theorem pw_rd (hexec : p.tables.exec = Jvm.exec) (hb : c.code = cc) {ok : FieldType → Prop} {ins : Instr} (hdg : decode cc pc = .ok (ins, 1))
    (hrow : ∀ (a : Addr) (cell : Cell) (j : Int32) (v : Value) (ty : FieldType) (H : Heap) (locs : List Loc) (LS : Array Slot) (k n : Nat) (r : List Value), ok ty → H[a]? = some cell → s.isArrayOf cell ty → cell.vm ≠ .unknown → ¬ (j < 0 ∨ cell.slots.size ≤ j.toNatClampNeg) → cell.slots[j.toNatClampNeg]? = some v → W p l e R s m args below meth c H locs k n Q (F0 m (pc + 1) LS (v :: r)) → W p l e R s m args below meth c H locs k n Q (F0 m pc LS (.int j :: .ref a :: r)))
    (h : pm_rd ok (fun pc ls st S => pm_V p l e R s m args below meth c Q G nL c0 s0 pc ls st S) pc ls st S) : pm_V p l e R s m args below meth c Q G nL c0 s0 pc ls st S := by
  obtain ⟨i, a, n, r, ty, w, f, rfl, hm, hok, hin, kk⟩ := h
  intro H locs LS kn nn h1 h2 h3 h4 h5 h6
  obtain ⟨⟨cell, hc, q1, q2, q3, q4, q5⟩, -⟩ := h1 a _ hm
  exact hrow a cell i _ ty H locs LS kn nn r hok hc q1 q2 (pm_in hin q4) (q5 _ (pm_in_lt hin)) (kk H locs LS kn nn h1 h2 h3 h4 h5 h6)
theorem pw_wt (hexec : p.tables.exec = Jvm.exec) (hb : c.code = cc) {ok : FieldType → Value → Value → Prop} {ins : Instr} (hdg : decode cc pc = .ok (ins, 1))
    (hrow : ∀ (v v' : Value) (a : Addr) (cell : Cell) (j : Int32) (ty : FieldType) (H : Heap) (locs : List Loc) (LS : Array Slot) (k n : Nat) (r : List Value), ok ty v v' → pm_ok G s S.1 H → H[a]? = some cell → s.isArrayOf cell ty → cell.vm = .none → va_RA s cell.cls ty → ¬ (j < 0 ∨ cell.slots.size ≤ j.toNatClampNeg) →
      (∀ H' : Heap, H'[a]? = some (cell.setSlot j.toNatClampNeg v') → H'.size = H.size → (∀ q, q ≠ a → H'[q]? = H[q]?) → W p l e R s m args below meth c H' (locs ++ [⟨a, j.toNatClampNeg⟩]) k n Q (F0 m (pc + 1) LS r)) → W p l e R s m args below meth c H locs k n Q (F0 m pc LS (v :: .int j :: .ref a :: r)))
    (h : pm_wt ok (fun pc ls st S => pm_V p l e R s m args below meth c Q G nL c0 s0 pc ls st S) pc ls st S) : pm_V p l e R s m args below meth c Q G nL c0 s0 pc ls st S := by
  obtain ⟨v, v', i, a, n, r, ty, f, rfl, hm, hok, hin, kk⟩ := h
  intro H locs LS kn nn h1 h2 h3 h4 h5 h6
  obtain ⟨⟨cell, hc, q1, q2, q3, q4, q5⟩, hwr⟩ := h1 a _ hm
  have hA : pm_A G a := hwr rfl
  refine hrow v v' a cell i ty H locs LS kn nn r hok h1 hc q1 (q3 rfl).1 (q3 rfl).2.1 (pm_in hin q4) (fun H' e1 e2 e3 => kk H' _ LS kn nn (pm_ok_set h1 e1 e3 ⟨q1, q2, fun _ => ⟨(q3 rfl).1, (q3 rfl).2.1, ?_⟩, ?_, fun k hk => ?_⟩ (fun _ => hA)) (pm_nx_set h2 e2 rfl) (h3.put e2 e3 hA) h4 h5 h6)
  · rw [← (q3 rfl).2.2]
    simp [Cell.setSlot]
  · have e9 : (cell.setSlot i.toNatClampNeg v').slots.size = cell.slots.size := by simp [Cell.setSlot]
    rw [e9]
    exact q4
  · by_cases hki : k = i.toNatClampNeg
    · subst hki
      rw [pm_up_s, Cell.slots_setSlot_self _ (Nat.lt_of_lt_of_le hk q4.1)]
    · rw [pm_up_n _ _ hki, Cell.slots_setSlot_ne _ (Ne.symm hki)]
      exact q5 k hk
theorem pw_new (hexec : p.tables.exec = Jvm.exec) (hb : c.code = cc) {own C : String} {T : u_T} {N ci idx h0 : Nat} {ty : Nat → FieldType} (hts : ∀ w ∈ pm_W, w.before args s = true) (hown : s.vm.findClass own = some m.cls) (hT : pm_T G s s.heap) (hkc : pm_kc ci C T N) (hty : ∀ k, k < N → parseFieldDescriptor (T k).2.2.1 = some (ty k)) (h7 : Cond.classLink own idx C ∈ pm_W) (h8 : Cond.instantiable C N ∈ pm_W) (h9 : Cond.initialized C ∈ pm_W) (hnx : S.2.1 = some h0)
    (hRc : S.2.2.1 + 1 ≤ c0 + R.cells) (hRs : S.2.2.2 + N ≤ s0 + R.slots) (hdg : decode cc pc = .ok (.new idx, 3)) (kk : pm_V p l e R s m args below meth c Q G nL c0 s0 (pc + 3) ls (.ref h0 :: st) (pm_new S h0 (.inl ci, N, fun k => defaultValue (ty k)))) : pm_V p l e R s m args below meth c Q G nL c0 s0 pc ls st S := by
  intro H locs LS kn nn h1 h2 h3 h4 h5 h6
  obtain ⟨hcl, hin, -, -⟩ := hkc
  have hKn := hT.1.1 ci _ hcl
  have hz := h2 h0 hnx
  subst hz
  have hA : pm_A G H.size := Nat.le_trans hT.2.1 h3.1
  refine W.newcK hexec hb hown (hts _ h7) (hts _ h8) (hts _ h9) rfl hdg (by omega) (by omega) hKn.2.1 rfl fun H1 kC hkC e1 z1 o1 => ?_
  refine kk H1 locs LS (kn + 1) (nn + N) (pm_ok_push h1 e1 o1 ?_ (fun _ => hA)) (pm_nx_push z1 rfl) ⟨Nat.le_trans h3.1 (by omega), fun x h1 h2 => (o1 x (Nat.lt_of_lt_of_le h1 h3.1)).trans (h3.2.1 x h1 h2), h3.2.2⟩ h4 (by simp only [pm_new]; omega) (by simp only [pm_new]; omega)
  obtain ⟨cell, b1, b2, b3, b4⟩ := u_born (o := H.size) ty hts hin hKn hkC e1 hty
  cases Option.some.inj (e1.symm.trans b1)
  exact Or.inl ⟨_, hcl, rfl, b2, b3, b4⟩
theorem pw_newarray (hexec : p.tables.exec = Jvm.exec) (hb : c.code = cc) {at9 : ArrayType} {n : Int32} {h0 : Nat} (hts : ∀ w ∈ pm_W, w.before args s = true) (hT : pm_T G s s.heap) (hn : ¬ n < 0) (hbytes : n.toNatClampNeg * componentBytes (newarray.typeOf at9) ≤ 536870912) (harr : Cond.arrayClass (newarray.typeOf at9) ∈ pm_W) (hnx : S.2.1 = some h0)
    (hRc : S.2.2.1 + 1 ≤ c0 + R.cells) (hRs : S.2.2.2 + n.toNatClampNeg ≤ s0 + R.slots) (hdg : decode cc pc = .ok (.newarray at9, 2)) (kk : pm_V p l e R s m args below meth c Q G nL c0 s0 (pc + 2) ls (.ref h0 :: r) (pm_new S h0 (.inr (newarray.typeOf at9, true), n.toNatClampNeg, fun _ => defaultValue (newarray.typeOf at9)))) : pm_V p l e R s m args below meth c Q G nL c0 s0 pc ls (.int n :: r) S := by
  intro H locs LS kn nn h1 h2 h3 h4 h5 h6
  have hz := h2 h0 hnx
  subst hz
  have hA : pm_A G H.size := Nat.le_trans hT.2.1 h3.1
  refine va_newaK hexec hb (hts _ harr) rfl hdg rfl hn rfl hbytes (by omega) (by omega) rfl fun H1 cA e1 z1 o1 hAr hNm => ?_
  refine kk H1 locs LS (kn + 1) (nn + n.toNatClampNeg) (pm_ok_push h1 e1 o1 ⟨hAr _ _, (fun q => by cases q), fun _ => ⟨rfl, ?_, arrV_size _ _ _⟩, ⟨Nat.le_of_eq (arrV_size _ _ _).symm, by rw [arrV_size] <;> rfl⟩, fun k hk => arrV_read _ _ hk⟩ (fun _ => hA)) (pm_nx_push z1 rfl) ⟨Nat.le_trans h3.1 (by omega), fun x h1 h2 => (o1 x (Nat.lt_of_lt_of_le h1 h3.1)).trans (h3.2.1 x h1 h2), h3.2.2⟩ h4 (by simp only [pm_new]; omega) (by simp only [pm_new]; omega)
  cases at9 <;> exact hNm
theorem pw_anewarray (hexec : p.tables.exec = Jvm.exec) (hb : c.code = cc) {own C : String} {idx : Nat} {n : Int32} {h0 : Nat} (hts : ∀ w ∈ pm_W, w.before args s = true) (hown : s.vm.findClass own = some m.cls) (hT : pm_T G s s.heap) (hn : ¬ n < 0) (hbytes : n.toNatClampNeg * 4 ≤ 536870912) (hcl : Cond.classLink own idx C ∈ pm_W) (hover : Cond.arrayOver (.object C) ∈ lw_tbl) (hnx : S.2.1 = some h0)
    (hRc : S.2.2.1 + 1 ≤ c0 + R.cells) (hRs : S.2.2.2 + n.toNatClampNeg ≤ s0 + R.slots) (hdg : decode cc pc = .ok (.anewarray idx, 3)) (kk : pm_V p l e R s m args below meth c Q G nL c0 s0 (pc + 3) ls (.ref h0 :: r) (pm_new S h0 (.inr (.object C, true), n.toNatClampNeg, fun _ => .null))) : pm_V p l e R s m args below meth c Q G nL c0 s0 pc ls (.int n :: r) S := by
  intro H locs LS kn nn h1 h2 h3 h4 h5 h6
  have hz := h2 h0 hnx
  subst hz
  have hA : pm_A G H.size := Nat.le_trans hT.2.1 h3.1
  obtain ⟨-, -, -, -, -, -, hAO, -⟩ := hT
  refine W.anew hexec hb hown (hts _ hcl) (va_AO.use (hAO C hover)) rfl hdg rfl hn hbytes (by omega) (by omega) fun cA kA comp f1 f2 f3 f4 => ?_
  generalize hH1 : H.push ({ cls := cA, slots := Array.replicate n.toNatClampNeg .null, vm := .none } : Cell) = H1
  have z1 : H1.size = H.size + 1 := by rw [← hH1, Array.size_push]
  have e1 : H1[H.size]? = some (arrV cA n.toNatClampNeg (fun _ => .null)) := by rw [← hH1, Array.getElem?_push_size, ← arrV_new]
  have o1 : ∀ q : Nat, q < H.size → H1[q]? = H[q]? := fun q hq => by rw [← hH1, Array.getElem?_push, if_neg (Nat.ne_of_lt hq)]
  have hAr : ArrOfT s cA (.object C) := fun N z => ⟨(fun k h => by cases h), kA, f2, comp, f3⟩
  exact kk H1 locs LS (kn + 1) (nn + n.toNatClampNeg) (pm_ok_push h1 e1 o1 ⟨hAr _ _, (fun q => by cases q), fun _ => ⟨rfl, ⟨kA, comp, f2, f3, f4, f1⟩, arrV_size _ _ _⟩, ⟨Nat.le_of_eq (arrV_size _ _ _).symm, by rw [arrV_size] <;> rfl⟩, fun k hk => arrV_read _ _ hk⟩ (fun _ => hA)) (pm_nx_push z1 rfl) ⟨Nat.le_trans h3.1 (by omega), fun x h1 h2 => (o1 x (Nat.lt_of_lt_of_le h1 h3.1)).trans (h3.2.1 x h1 h2), h3.2.2⟩ h4 (by simp only [pm_new]; omega) (by simp only [pm_new]; omega)
end PMA
