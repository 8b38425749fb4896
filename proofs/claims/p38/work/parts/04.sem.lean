/-! THE PURE MACHINE. A memory is a partial map from addresses to cells; pm_ok ties it to the heap. pm_go runs a frame over such memories, instruction by instruction, and says what comes of it; part 05 shows that the machine does the same. -/
/-- tag (.inl class number; .inr element type, own or only read), size, contents -/
abbrev pm_C : Type := (Nat ⊕ (FieldType × Bool)) × Nat × (Nat → Value)
abbrev pm_M : Type := Nat → Option pm_C
/-- memory; heap size where it is known; cells and slots made so far -/
abbrev pm_S : Type := pm_M × Option Nat × Nat × Nat
/-- returned, or threw an object of this class -/
abbrev pm_R : Type := Option Value ⊕ String
def pm_up {α : Type} (f : Nat → α) (k : Nat) (v : α) : Nat → α := fun j => if j = k then v else f j
theorem pm_up_s {α : Type} (f : Nat → α) (k : Nat) (v : α) : pm_up f k v k = v := if_pos rfl
theorem pm_up_n {α : Type} (f : Nat → α) {k j : Nat} (v : α) (h : j ≠ k) : pm_up f k v j = f j := if_neg h
/-- class numbers and slots; first own address; statics; addresses of text constants -/
abbrev pm_G : Type := va_G × Nat × (String → String → Value) × (String → Nat → Nat)
/-- the classes of own objects; the texts' own is number 13 -/
abbrev pm_cl : List vw_C := vwCl
def pm_cnm (ci : Nat) : Option String := if ci = 13 then some "java/lang/String" else (pm_cl[ci]?).map Prod.fst
/-- an own address -/
def pm_A (G : pm_G) : Nat → Prop := fun q => G.2.1 ≤ q
/-- a text: its bytes, its coder -/
def pm_aS (U : State) (f : Nat → Value) (cell : Cell) : Prop := cell.vm.isStatics = false ∧ cell.vm ≠ .unknown ∧ U.vm.findClass "java/lang/String" = some cell.cls ∧
  (∃ (cf : ClassId) (k : Class) (i : Nat) (g : Field), U.fieldFound? "java/lang/String" "value" "[B" = some (cf, k, i, g) ∧ g.isStatic = false ∧ cell.slots[g.slot]? = some (f 0)) ∧
  (∃ (cf : ClassId) (k : Class) (i : Nat) (g : Field), U.fieldFound? "java/lang/String" "coder" "B" = some (cf, k, i, g) ∧ g.isStatic = false ∧ cell.slots[g.slot]? = some (f 1))
def pm_aO (G : pm_G) (ci n : Nat) (f : Nat → Value) (cell : Cell) : Prop := ∃ r : vw_C, pm_cl[ci]? = some r ∧ r.2.2 = n ∧ cell.cls = G.1.1 ci ∧ cell.vm = .none ∧ ∀ k, k < n → cell.slots[G.1.2 ci k]? = some (f k)
def pm_at (G : pm_G) (U : State) (ce : pm_C) (cell : Cell) : Prop := match ce with
  | (.inl ci, n, f) => pm_aO G ci n f cell ∨ (ci = 13 ∧ pm_aS U f cell)
  | (.inr (ty, w), n, f) => U.isArrayOf cell ty ∧ cell.vm ≠ .unknown ∧ (w = true → cell.vm = .none ∧ va_RA U cell.cls ty ∧ cell.slots.size = n) ∧ (n ≤ cell.slots.size ∧ cell.slots.size.toInt32 = Int32.ofNat n) ∧ ∀ k, k < n → cell.slots[k]? = some (f k)
theorem pm_cl13 {ci : Nat} {r : vw_C} (h : pm_cl[ci]? = some r) : ci < 13 := (List.getElem?_eq_some_iff.mp h).1
theorem pm_aO_of {G : pm_G} {U : State} {ci n : Nat} {f : Nat → Value} {cell : Cell} (h : pm_at G U (.inl ci, n, f) cell) (hc : ci < 13) : pm_aO G ci n f cell := by
  rcases h with h | ⟨h, -⟩
  · exact h
  · omega
/-- own cells may be written -/
def pm_wr (ce : pm_C) : Bool := match ce.1 with
  | .inl ci => decide (ci < 13)
  | .inr q => q.2
def pm_ok (G : pm_G) (U : State) (M : pm_M) (H : Heap) : Prop := ∀ (a : Nat) (ce : pm_C), M a = some ce → (∃ cell : Cell, H[a]? = some cell ∧ pm_at G U ce cell) ∧ (pm_wr ce = true → pm_A G a)
def pm_nx (S : pm_S) (H : Heap) : Prop := ∀ n, S.2.1 = some n → H.size = n
/-- the words that a method is given -/
def pm_W : List Cond := lw_tbl.filter goodWord
def pm_mv (w : Cond) : Bool := match w with
  | .castable .. => true
  | .methodLinkNest .. => true
  | .declares .. => true
  | _ => false
abbrev pm_xI : String := "java/lang/IllegalStateException"
abbrev pm_xA : String := "java/lang/IllegalArgumentException"
abbrev pm_xB : String := "java/lang/IndexOutOfBoundsException"
/-- the tables and what lies below the own addresses -/
def pm_T (G : pm_G) (U : State) (H : Heap) : Prop :=
  va_K G.1 pm_cl [] U ∧ G.2.1 ≤ H.size ∧
  (True ∧ True) ∧
  (vx_Zq Bundle.tN "UNASSIGNED_STACK" Bundle.steD (pm_A G) U H ∧ vx_Zq Bundle.tN "SUPPRESSED_SENTINEL" Bundle.listD (pm_A G) U H) ∧
  (∀ (own tx : String) (idx : Nat), Cond.stringRef own idx tx ∈ lw_tbl → vk_R own idx tx (G.2.2.2 own idx) U) ∧
  (∀ w ∈ lw_tbl, pm_mv w = true → va_Nw w U) ∧
  (∀ C : String, Cond.arrayOver (.object C) ∈ lw_tbl → va_AO C U) ∧
  (∀ E ∈ [pm_xI, pm_xA, pm_xB], ∀ F ∈ [pm_xI, pm_xA, pm_xB], E ≠ F → va_Nc E F U)
theorem pm_ok_moved {G : pm_G} {u U : State} {M : pm_M} {H : Heap} (hvm : u.vm.Alike U.vm) (h : pm_ok G u M H) : pm_ok G U M H := by
  intro a ce hce
  obtain ⟨⟨cell, h1, h2⟩, h3⟩ := h a ce hce
  refine ⟨⟨cell, h1, ?_⟩, h3⟩
  obtain ⟨tg, n, f⟩ := ce
  rcases tg with ci | ⟨ty, w⟩
  · rcases h2 with h2 | ⟨h2, q1, q2, q3, ⟨cf, k, i, g, a1, a2, a3⟩, ⟨cf', k', i', g', b1, b2, b3⟩⟩
    · exact Or.inl h2
    · obtain ⟨k9, hi9, -⟩ := State.fieldFound?_setVm hvm a1
      obtain ⟨k8, hi8, -⟩ := State.fieldFound?_setVm hvm b1
      exact Or.inr ⟨h2, q1, q2, by rw [hvm.findClass]; exact q3, ⟨cf, k9, i, g, hi9, a2, a3⟩, ⟨cf', k8, i', g', hi8, b2, b3⟩⟩
  · obtain ⟨q1, q2, q3, q4⟩ := h2
    exact ⟨State.isArrayOf_alike hvm q1, q2, fun hw => ⟨(q3 hw).1, (q3 hw).2.1.moved hvm, (q3 hw).2.2⟩, q4⟩
theorem pm_T_moved {G : pm_G} {u U : State} {H H1 : Heap} (hW : u.WarmedH U.vm) (h : pm_T G u H) (hs : H.size ≤ H1.size) (hq : ∀ a : Nat, a < H.size → ¬ pm_A G a → H1[a]? = H[a]?) : pm_T G U H1 := by
  obtain ⟨h1, h2, ⟨h3, h4⟩, ⟨h5, h6⟩, h7, h8, h9, h10⟩ := h
  have hvm := hW.alike
  refine ⟨va_K.moved hvm h1, Nat.le_trans h2 hs, ⟨h3, h4⟩, ⟨(vx_Zq.moved hvm h5).kept hq, (vx_Zq.moved hvm h6).kept hq⟩, fun own tx idx hw => vk_R.warm hW (h7 own tx idx hw), fun w hw hm => ?_, fun C hC => va_AO.moved hvm (h9 C hC), fun E hE F hF hne => va_Nc.moved hvm (h10 E hE F hF hne)⟩
  have h := h8 w hw hm
  cases w <;> first | (simp [pm_mv] at hm; done) | exact va_Nw.warmC hW h | exact va_Nw.warmM hW h | exact va_Nw.warmD hW h
theorem pm_T_calling {G : pm_G} {U : State} {H : Heap} (h : pm_T G U H) (g : JFrame) (mk : MethodId) (a : Array Value) : pm_T G (U.calling g mk a) H :=
  pm_T_moved (u := U) (U := U.calling g mk a) (State.WarmedH.refl U) h (Nat.le_refl _) (fun _ _ _ => rfl)
theorem pm_atS_ok1 : ∀ ic ∈ [69, 83, 267], ∀ X ∈ [pm_xI, pm_xA, pm_xB], (vx_atS RX11 ic X ["java/lang/RuntimeException", "java/lang/Exception"]).all (fun w => goodWord w || pm_mv w) = true := by decide +kernel
