/-! THE PURE MACHINE'S STEPS, and that the machine does the same where neither memory nor another frame is touched -/
section PMV
variable {p : Program} {l : Launch} {e : Env} {R : Room} {s : State} {m : MethodId} {args : Array Value} {below : List Frame} {meth : Method} {c : Code} {Q : State → Prop} {cc : ByteArray} {G : pm_G} {nL c0 s0 : Nat}
/-- the frame at pc with the known locals ls and the stack st, over each heap that holds S, comes to Q -/
def pm_V (p : Program) (l : Launch) (e : Env) (R : Room) (s : State) (m : MethodId) (args : Array Value) (below : List Frame) (meth : Method) (c : Code) (Q : State → Prop) (G : pm_G) (nL c0 s0 pc : Nat) (ls : List (Option Value)) (st : List Value) (S : pm_S) : Prop :=
  ∀ (H : Heap) (locs : List Loc) (LS : Array Slot) (k n : Nat), pm_ok G s S.1 H → pm_nx S H → va_S (pm_A G) s.heap H locs → pm_L LS nL ls → c0 + k = S.2.2.1 → s0 + n = S.2.2.2 → W p l e R s m args below meth c H locs k n Q (F0 m pc LS st)
theorem pm_ldI_spec {ls : List (Option Value)} {i : Nat} {v : Value} (h : pm_ldI ls i = some v) : ∃ x, v = .int x ∧ ls[i]? = some (some (.int x)) := by
  unfold pm_ldI at h
  split at h
  · rename_i x hx
    cases h
    exact ⟨x, rfl, hx⟩
  · cases h
theorem pm_ldA_spec {ls : List (Option Value)} {i : Nat} {v : Value} (h : pm_ldA ls i = some v) : ∃ x, v = .ref x ∧ ls[i]? = some (some (.ref x)) := by
  unfold pm_ldA at h
  split at h
  · rename_i x hx
    cases h
    exact ⟨x, rfl, hx⟩
  · cases h
theorem pm_ldL_spec {ls : List (Option Value)} {i : Nat} {v : Value} (h : pm_ldL ls i = some v) : ∃ x, v = .long x ∧ ls[i]? = some (some (.long x)) := by
  unfold pm_ldL at h
  split at h
  · rename_i x hx
    cases h
    exact ⟨x, rfl, hx⟩
  · cases h
theorem pm_ldD_spec {ls : List (Option Value)} {i : Nat} {v : Value} (h : pm_ldD ls i = some v) : ∃ x, v = .double x ∧ ls[i]? = some (some (.double x)) := by
  unfold pm_ldD at h
  split at h
  · rename_i x hx
    cases h
    exact ⟨x, rfl, hx⟩
  · cases h
theorem pm_psh_spec {o : Option Value} {pc : Nat} {ls : List (Option Value)} {st : List Value} {q : pm_F} (h : pm_psh o pc ls st = some q) : ∃ v, o = some v ∧ q = (pc, ls, v :: st) := by
  unfold pm_psh at h
  split at h
  · rename_i v
    cases h
    exact ⟨v, rfl, rfl⟩
  · cases h
theorem pm_sto_spec {pc i : Nat} {ls : List (Option Value)} {v : Value} {st : List Value} {q : pm_F} (h : pm_sto pc ls i v st = some q) : i < ls.length ∧ q = (pc, pm_st1 ls i v, st) := by
  unfold pm_sto at h
  split at h
  · rename_i hi
    cases h
    exact ⟨hi, rfl⟩
  · cases h
theorem pm_sto2_spec {pc i : Nat} {ls : List (Option Value)} {v : Value} {st : List Value} {q : pm_F} (h : pm_sto2 pc ls i v st = some q) : i + 1 < ls.length ∧ q = (pc, pm_st2 ls i v, st) := by
  unfold pm_sto2 at h
  split at h
  · rename_i hi
    cases h
    exact ⟨hi, rfl⟩
  · cases h
theorem pm_inc_spec {pc i : Nat} {n : Int} {ls : List (Option Value)} {st : List Value} {q : pm_F} (h : pm_inc ls pc i n st = some q) : ∃ x, ls[i]? = some (some (.int x)) ∧ q = (pc, pm_st1 ls i (.int (x + Int32.ofInt n)), st) := by
  unfold pm_inc at h
  split at h
  · rename_i x hx
    cases h
    exact ⟨x, hx, rfl⟩
  · cases h
theorem pm_dp_cat {v : Value} (h : pm_dp v = true) : v.category = 1 := by
  cases v <;> first | rfl | (simp [pm_dp] at h)

set_option maxHeartbeats 4000000 in
theorem pw_fn (hexec : p.tables.exec = Jvm.exec) (hb : c.code = cc) {ins : Instr} {pc : Nat} {ls : List (Option Value)} {st : List Value} {S : pm_S} {q : pm_F} (hdg : decode cc pc = .ok (ins, pm_len ins)) (hf : pm_fn ins pc ls st = some q) (k : pm_V p l e R s m args below meth c Q G nL c0 s0 q.1 q.2.1 q.2.2 S) : pm_V p l e R s m args below meth c Q G nL c0 s0 pc ls st S := by
  intro H locs LS kk nn h1 h2 h3 h4 h5 h6
  unfold pm_fn at hf
  split at hf
  · cases hf
    exact lv_iconst hexec hb hdg rfl (k H locs LS kk nn h1 h2 h3 h4 h5 h6)
  · cases hf
    exact lv_bipush hexec hb hdg rfl (k H locs LS kk nn h1 h2 h3 h4 h5 h6)
  · cases hf
    exact lv_sipush hexec hb hdg rfl (k H locs LS kk nn h1 h2 h3 h4 h5 h6)
  · cases hf
    exact lv_lconst hexec hb hdg rfl (k H locs LS kk nn h1 h2 h3 h4 h5 h6)
  · split at hf
    · rename_i hz
      subst hz
      cases hf
      exact lv_fconst0 hexec hb hdg (k H locs LS kk nn h1 h2 h3 h4 h5 h6)
    · cases hf
  · split at hf
    · rename_i hz
      subst hz
      cases hf
      exact lv_dconst0 hexec hb hdg (k H locs LS kk nn h1 h2 h3 h4 h5 h6)
    · cases hf
  · obtain ⟨v, hv, hq⟩ := pm_psh_spec hf
    cases hq
    obtain ⟨x, rfl, hx⟩ := pm_ldI_spec hv
    exact lv_iload_n hexec hb hdg rfl (h4.2.2.2 _ _ hx) (k H locs LS kk nn h1 h2 h3 h4 h5 h6)
  · obtain ⟨v, hv, hq⟩ := pm_psh_spec hf
    cases hq
    obtain ⟨x, rfl, hx⟩ := pm_ldI_spec hv
    exact lv_iload hexec hb hdg (h4.2.2.2 _ _ hx) (k H locs LS kk nn h1 h2 h3 h4 h5 h6)
  · obtain ⟨v, hv, hq⟩ := pm_psh_spec hf
    cases hq
    obtain ⟨x, rfl, hx⟩ := pm_ldA_spec hv
    exact lv_aload_n hexec hb hdg rfl (h4.2.2.2 _ _ hx) (k H locs LS kk nn h1 h2 h3 h4 h5 h6)
  · obtain ⟨v, hv, hq⟩ := pm_psh_spec hf
    cases hq
    obtain ⟨x, rfl, hx⟩ := pm_ldA_spec hv
    exact lv_aload hexec hb hdg (h4.2.2.2 _ _ hx) (k H locs LS kk nn h1 h2 h3 h4 h5 h6)
  · obtain ⟨v, hv, hq⟩ := pm_psh_spec hf
    cases hq
    obtain ⟨x, rfl, hx⟩ := pm_ldL_spec hv
    exact lv_lload_n hexec hb hdg rfl (h4.2.2.2 _ _ hx) (k H locs LS kk nn h1 h2 h3 h4 h5 h6)
  · obtain ⟨v, hv, hq⟩ := pm_psh_spec hf
    cases hq
    obtain ⟨x, rfl, hx⟩ := pm_ldD_spec hv
    exact lv_dload hexec hb hdg (h4.2.2.2 _ _ hx) (k H locs LS kk nn h1 h2 h3 h4 h5 h6)
  · split at hf
    · obtain ⟨hi, hq⟩ := pm_sto_spec hf
      cases hq
      exact lv_istore_n hexec hb hdg rfl (pm_L_has h4) (by rw [← h4.2.1]; exact hi) rfl (fun LS' h' => k H locs LS' kk nn h1 h2 h3 (pm_L_st1 h4 h') h5 h6)
    · cases hf
  · split at hf
    · obtain ⟨hi, hq⟩ := pm_sto_spec hf
      cases hq
      exact lv_istore hexec hb hdg (pm_L_has h4) (by rw [← h4.2.1]; exact hi) rfl (fun LS' h' => k H locs LS' kk nn h1 h2 h3 (pm_L_st1 h4 h') h5 h6)
    · cases hf
  · split at hf
    · obtain ⟨hi, hq⟩ := pm_sto_spec hf
      cases hq
      exact lv_astore_n hexec hb hdg rfl (pm_L_has h4) (by rw [← h4.2.1]; exact hi) rfl (fun LS' h' => k H locs LS' kk nn h1 h2 h3 (pm_L_st1 h4 h') h5 h6)
    · cases hf
  · split at hf
    · obtain ⟨hi, hq⟩ := pm_sto_spec hf
      cases hq
      exact lv_astore hexec hb hdg (pm_L_has h4) (by rw [← h4.2.1]; exact hi) rfl (fun LS' h' => k H locs LS' kk nn h1 h2 h3 (pm_L_st1 h4 h') h5 h6)
    · cases hf
  · split at hf
    · obtain ⟨hi, hq⟩ := pm_sto2_spec hf
      cases hq
      exact lv_lstore_n hexec hb hdg rfl (pm_L_has h4) (by rw [← h4.2.1]; exact hi) rfl (fun LS' h' => k H locs LS' kk nn h1 h2 h3 (pm_L_st2 h4 h') h5 h6)
    · cases hf
  · split at hf
    · obtain ⟨hi, hq⟩ := pm_sto2_spec hf
      cases hq
      exact lv_dstore hexec hb hdg (pm_L_has h4) (by rw [← h4.2.1]; exact hi) rfl (fun LS' h' => k H locs LS' kk nn h1 h2 h3 (pm_L_st2 h4 h') h5 h6)
    · cases hf
  · obtain ⟨x, hx, hq⟩ := pm_inc_spec hf
    cases hq
    rename_i i n
    obtain ⟨k0, hk0⟩ := List.getElem?_of_mem (pm_prs_in (q := (i, .int x)).mpr hx)
    exact lv_iinc hexec hb hdg (pm_L_has h4) hk0 rfl (by rw [← h4.2.1]; exact (List.getElem?_eq_some_iff.mp hx).1) rfl (fun LS' h' => k H locs LS' kk nn h1 h2 h3 (pm_L_st1 h4 h') h5 h6)
  · split at hf
    · cases hf
      exact lv_iadd hexec hb hdg (k H locs LS kk nn h1 h2 h3 h4 h5 h6)
    · cases hf
  · split at hf
    · cases hf
      exact lv_isub hexec hb hdg (k H locs LS kk nn h1 h2 h3 h4 h5 h6)
    · cases hf
  · split at hf
    · cases hf
      exact lv_imul hexec hb hdg (k H locs LS kk nn h1 h2 h3 h4 h5 h6)
    · cases hf
  · split at hf
    · cases hf
      exact lv_iand hexec hb hdg (k H locs LS kk nn h1 h2 h3 h4 h5 h6)
    · cases hf
  · split at hf
    · cases hf
      exact lv_ior hexec hb hdg (k H locs LS kk nn h1 h2 h3 h4 h5 h6)
    · cases hf
  · split at hf
    · cases hf
      exact lv_ixor hexec hb hdg (k H locs LS kk nn h1 h2 h3 h4 h5 h6)
    · cases hf
  · split at hf
    · cases hf
      exact lv_ishl hexec hb hdg (k H locs LS kk nn h1 h2 h3 h4 h5 h6)
    · cases hf
  · split at hf
    · cases hf
      exact lv_ishr hexec hb hdg (k H locs LS kk nn h1 h2 h3 h4 h5 h6)
    · cases hf
  · split at hf
    · cases hf
      exact lv_iushr hexec hb hdg rfl (k H locs LS kk nn h1 h2 h3 h4 h5 h6)
    · cases hf
  · split at hf
    · cases hf
      exact lv_i2b hexec hb hdg rfl (k H locs LS kk nn h1 h2 h3 h4 h5 h6)
    · cases hf
  · split at hf
    · cases hf
      exact lv_i2c hexec hb hdg rfl (k H locs LS kk nn h1 h2 h3 h4 h5 h6)
    · cases hf
  · split at hf
    · cases hf
      exact lv_i2l hexec hb hdg rfl (k H locs LS kk nn h1 h2 h3 h4 h5 h6)
    · cases hf
  · split at hf
    · cases hf
      exact lv_i2f hexec hb hdg (k H locs LS kk nn h1 h2 h3 h4 h5 h6)
    · cases hf
  · split at hf
    · cases hf
      exact lv_i2d hexec hb hdg (k H locs LS kk nn h1 h2 h3 h4 h5 h6)
    · cases hf
  · split at hf
    · cases hf
      exact lv_ladd hexec hb hdg (k H locs LS kk nn h1 h2 h3 h4 h5 h6)
    · cases hf
  · split at hf
    · cases hf
      exact lv_lsub hexec hb hdg (k H locs LS kk nn h1 h2 h3 h4 h5 h6)
    · cases hf
  · split at hf
    · cases hf
      exact lv_lmul hexec hb hdg (k H locs LS kk nn h1 h2 h3 h4 h5 h6)
    · cases hf
  · split at hf
    · cases hf
      exact W.lcmp hexec hb hdg (k H locs LS kk nn h1 h2 h3 h4 h5 h6)
    · cases hf
  · split at hf
    · cases hf
      exact lv_fcmp hexec hb hdg (k H locs LS kk nn h1 h2 h3 h4 h5 h6)
    · cases hf
  · split at hf
    · cases hf
      exact lv_dcmp hexec hb hdg (k H locs LS kk nn h1 h2 h3 h4 h5 h6)
    · cases hf
  · split at hf
    · split at hf
      · rename_i hd
        cases hf
        exact lv_dup hexec hb hdg (pm_dp_cat hd) (k H locs LS kk nn h1 h2 h3 h4 h5 h6)
      · cases hf
    · cases hf
  · split at hf
    · split at hf
      · rename_i hd
        cases hf
        exact lv_dup2_11 hexec hb hdg (pm_dp_cat hd.1) (pm_dp_cat hd.2) (k H locs LS kk nn h1 h2 h3 h4 h5 h6)
      · cases hf
    · cases hf
  · split at hf
    · split at hf
      · rename_i hd
        cases hf
        exact lv_pop hexec hb hdg (pm_dp_cat hd) (k H locs LS kk nn h1 h2 h3 h4 h5 h6)
      · cases hf
    · cases hf
  · cases hf
end PMV
