/-! contracts out of the pure machine's runs, and calls by them -/
theorem pm_W_good {ws : List Cond} (h : ∀ w ∈ ws, w ∈ pm_W) : GoodIn pm_W ws := fun w hw => ⟨h w hw, good_of_word (List.mem_filter.mp (h w hw)).2⟩
def pm_B (G : pm_G) (S' : pm_S) (st t : State) : Prop := pm_ok G t S'.1 t.heap ∧ pm_nx S' t.heap ∧ st.heap.size ≤ t.heap.size ∧ ∀ q : Nat, q < st.heap.size → ¬ pm_A G q → t.heap[q]? = st.heap[q]?
def pm_Pc (G : pm_G) (as : List Value) (S : pm_S) : Array Value → State → Prop := fun v U => v = as.toArray ∧ pm_T G U U.heap ∧ pm_ok G U S.1 U.heap ∧ pm_nx S U.heap
def pm_Qc (G : pm_G) (r : pm_R) (S' : pm_S) : Array Value → State → Outcome → State → Prop := fun _ st o t => ∃ v, r = .inl v ∧ o = .returned v ∧ pm_B G S' st t
def pm_Xc (G : pm_G) (r : pm_R) (S' : pm_S) : String → State → State → Prop := fun E st t => r = .inr E ∧ pm_B G S' st t
def pm_rm (d mc ms : Nat) : Room := { frames := d + 12, cells := mc, slots := ms, locals := 64 * d + 400 }
/-- the method may be called d deep: its contract -/
def pm_cd (l : Launch) (G : pm_G) (d : Nat) (y : MethodName) (as : List Value) (S : pm_S) (r : pm_R) (S' : pm_S) : Prop := ∃ (b : ByteArray) (maxL : Nat) (ret : Option FieldType), pm_mt y b maxL ret ∧
  vx_Met l y (Cond.code y b maxL ret :: pm_W) (pm_rm d (S'.2.2.1 - S.2.2.1) (S'.2.2.2 - S.2.2.2)) (pm_Pc G as S) (pm_Qc G r S') (pm_Xc G r S') (S'.2.2.1 - S.2.2.1) (S'.2.2.2 - S.2.2.2) (pm_A G)
def pm_cdh (l : Launch) (G : pm_G) (d : Nat) (y : MethodName) (as : List Value) (S : pm_S) (v : Option Value) (S' : pm_S) : Prop := ∃ (b : ByteArray) (maxL : Nat) (ret : Option FieldType) (xt : List (Nat × Nat × Nat × Nat)), pm_mh y b maxL ret xt ∧
  Met l y (Cond.codeWith y b maxL ret xt :: pm_W) (pm_rm d (S'.2.2.1 - S.2.2.1) (S'.2.2.2 - S.2.2.2)) (pm_Pc G as S) (pm_Qc G (.inl v) S') (S'.2.2.1 - S.2.2.1) (S'.2.2.2 - S.2.2.2) (pm_A G)
theorem pm_Pc_blind (G : pm_G) (as : List Value) (S : pm_S) : FrameBlind (pm_Pc G as S) := fun a U g mk h =>
  ⟨h.1, pm_T_calling h.2.1 g mk a, pm_ok_moved (u := U) (U := U.calling g mk a) (Vm.Alike.refl U.vm) h.2.2.1, h.2.2.2⟩
section PMC
variable {p : Program} {l : Launch} {e : Env} {R : Room} {s : State} {m : MethodId} {args : Array Value} {below : List Frame} {meth : Method} {c : Code} {Q : State → Prop} {cc : ByteArray} {G : pm_G} {nL c0 s0 : Nat} {pc : Nat} {ls : List (Option Value)} {S : pm_S}
/-- an exception of class E, thrown by a callee, stands over the frame -/
def pm_VX (p : Program) (l : Launch) (e : Env) (R : Room) (s : State) (m : MethodId) (args : Array Value) (below : List Frame) (meth : Method) (c : Code) (Q : State → Prop) (G : pm_G) (nL c0 s0 pc : Nat) (ls : List (Option Value)) (rest : List Value) (E : String) (S : pm_S) : Prop :=
  ∀ (H : Heap) (locs : List Loc) (LS : Array Slot) (k n : Nat) (q : Addr) (ce : Cell), pm_ok G s S.1 H → pm_nx S H → va_S (pm_A G) s.heap H locs → pm_L LS nL ls → c0 + k = S.2.2.1 → s0 + n = S.2.2.2 → H[q]? = some ce → ce.vm = .none → s.vm.findClass E = some ce.cls → vx_W p l e R s m args below meth c H locs k n Q (F0 m pc LS rest) q
theorem pm_pre {as : List Value} {H : Heap} {locs : List Loc} (hT : pm_T G s s.heap) (h1 : pm_ok G s S.1 H) (h2 : pm_nx S H) (h3 : va_S (pm_A G) s.heap H locs) (U : State) (hU : U.heap = H) (hW : s.WarmedH U.vm) : pm_Pc G as S as.toArray U :=
  ⟨rfl, by rw [hU]; exact pm_T_moved hW hT h3.1 h3.2.1, by rw [hU]; exact pm_ok_moved hW.alike h1, by rw [hU]; exact h2⟩
theorem pw_run {rest st : List Value} {H : Heap} {locs : List Loc} {LS : Array Slot} {k n mc ms : Nat} {r : pm_R} {S1 : pm_S} {a : Array Value} (hr : vx_Run p l e R s m args below meth c H locs k n mc ms (F0 m pc LS st) rest (pm_Qc G r S1 a) (pm_Xc G r S1) (pm_A G))
    (hS : va_S (pm_A G) s.heap H locs) (hL : pm_L LS nL ls) (hc : c0 + (k + mc) = S1.2.2.1) (hs : s0 + (n + ms) = S1.2.2.2)
    (kv : ∀ v, r = .inl v → pm_V p l e R s m args below meth c Q G nL c0 s0 (pc + 3) ls (v.toList ++ rest) S1) (kx : ∀ E, r = .inr E → pm_VX p l e R s m args below meth c Q G nL c0 s0 pc ls rest E S1) : W p l e R s m args below meth c H locs k n Q (F0 m pc LS st) := by
  intro T hT X
  have hS' : ∀ (st₀ t T' : State) (L : List Loc), st₀.heap = H → T'.heap = t.heap → (∀ q ∈ L, pm_A G q.base) → pm_B G S1 st₀ t → va_S (pm_A G) s.heap T'.heap (locs ++ L) := by
    intro st₀ t T' L h0 e1 hL hB
    obtain ⟨-, -, b3, b4⟩ := hB
    rw [h0] at b3 b4
    refine ⟨Nat.le_trans hS.1 (by rw [e1]; exact b3), fun q h1 h2 => ?_, fun q hq => ?_⟩
    · rw [e1, b4 q (Nat.lt_of_lt_of_le h1 hS.1) h2]
      exact hS.2.1 q h1 h2
    · rcases List.mem_append.mp hq with h | h
      · exact hS.2.2 q h
      · exact hL q h
  rcases hr T hT X with ⟨v, st₀, t, T', L, h0, X', hLc, e1, e2, ⟨v', hr', hv, hB⟩, st⟩ | ⟨q, st₀, t, T', L, E, ce, h0, X', hLc, e1, e2, ⟨hr', hB⟩, hce, hcv, hcl, st⟩
  · cases hv
    obtain ⟨t2, a1, b1⟩ := kv v hr' T'.heap (locs ++ L) LS (k + mc) (n + ms) (by rw [e1]; exact pm_ok_moved (by rw [← e2]; exact X'.warmed.alike.symm) hB.1) (by rw [e1]; exact hB.2.1) (hS' st₀ t T' L h0 e1 hLc hB) hL hc hs T' rfl X'
    exact ⟨t2, st t2 a1, b1⟩
  · obtain ⟨t2, a1, b1⟩ := kx E hr' T'.heap (locs ++ L) LS (k + mc) (n + ms) q ce (by rw [e1]; exact pm_ok_moved (by rw [← e2]; exact X'.warmed.alike.symm) hB.1) (by rw [e1]; exact hB.2.1) (hS' st₀ t T' L h0 e1 hLc hB) hL hc hs (by rw [e1]; exact hce) hcv hcl T' rfl X'
    exact ⟨t2, st.trans a1, b1⟩
end PMC
