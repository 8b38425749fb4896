/-! more known locals do no harm -/
section PXV
variable {G : pm_G} {cal : pm_Cal} {own : String} {ini : Bool} {cc : ByteArray} {ret : Option FieldType} {KR : pm_E} {K K' : pm_K}
theorem px_le_cut {ls ls' : List (Option Value)} (h : px_le ls ls') (i : Nat) : px_le (pm_cut ls i) (pm_cut ls' i) := by
  refine ⟨by rw [pm_cut_len, pm_cut_len]; exact h.1, fun k v hk => ?_⟩
  obtain ⟨h1, h2⟩ := pm_cut_at hk
  have h3 := h.2 k v h1
  unfold pm_cut
  split
  · exact h3
  · rename_i j
    have key : k ≠ j ∨ v.category = 1 := by
      by_cases q : k = j
      · rcases lv_cat v with c | c
        · exact Or.inr c
        · exact absurd ⟨by omega, c⟩ h2
      · exact Or.inl q
    split
    · rename_i w hw
      by_cases q : k = j
      · subst q
        rw [h3] at hw
        cases hw
        rcases key with c | c
        · exact absurd rfl c
        · cases v <;> first | exact h3 | (simp [Value.category] at c)
      · split
        · rw [List.getElem?_set_ne (Ne.symm q)]; exact h3
        · rw [List.getElem?_set_ne (Ne.symm q)]; exact h3
        · exact h3
    · exact h3
theorem px_le_set {ls ls' : List (Option Value)} (h : px_le ls ls') (i : Nat) (x : Option Value) : px_le (ls.set i x) (ls'.set i x) := by
  refine ⟨by simp [h.1], fun k v hk => ?_⟩
  by_cases e : i = k
  · subst e
    rw [List.getElem?_set, if_pos rfl] at hk ⊢
    rw [h.1]
    exact hk
  · rw [List.getElem?_set_ne e] at hk ⊢
    exact h.2 k v hk
theorem px_le_st1 {ls ls' : List (Option Value)} (h : px_le ls ls') (i : Nat) (v : Value) : px_le (pm_st1 ls i v) (pm_st1 ls' i v) := px_le_set (px_le_cut h i) i _
theorem px_le_st2 {ls ls' : List (Option Value)} (h : px_le ls ls') (i : Nat) (v : Value) : px_le (pm_st2 ls i v) (pm_st2 ls' i v) := px_le_set (px_le_set (px_le_cut h i) i _) _ _
theorem px_ldI_le {ls ls' : List (Option Value)} (h : px_le ls ls') {i : Nat} {v : Value} (hv : pm_ldI ls' i = some v) : pm_ldI ls i = some v := by
  obtain ⟨x, rfl, hx⟩ := pm_ldI_spec hv
  unfold pm_ldI
  rw [h.2 i _ hx]
theorem px_ldA_le {ls ls' : List (Option Value)} (h : px_le ls ls') {i : Nat} {v : Value} (hv : pm_ldA ls' i = some v) : pm_ldA ls i = some v := by
  obtain ⟨x, rfl, hx⟩ := pm_ldA_spec hv
  unfold pm_ldA
  rw [h.2 i _ hx]
theorem px_ldL_le {ls ls' : List (Option Value)} (h : px_le ls ls') {i : Nat} {v : Value} (hv : pm_ldL ls' i = some v) : pm_ldL ls i = some v := by
  obtain ⟨x, rfl, hx⟩ := pm_ldL_spec hv
  unfold pm_ldL
  rw [h.2 i _ hx]
theorem px_ldD_le {ls ls' : List (Option Value)} (h : px_le ls ls') {i : Nat} {v : Value} (hv : pm_ldD ls' i = some v) : pm_ldD ls i = some v := by
  obtain ⟨x, rfl, hx⟩ := pm_ldD_spec hv
  unfold pm_ldD
  rw [h.2 i _ hx]
set_option maxHeartbeats 2000000 in
theorem px_fn_le {ls ls' : List (Option Value)} (h : px_le ls ls') {ins : Instr} {pc : Nat} {st : List Value} {q : pm_F} (hq : pm_fn ins pc ls' st = some q) : ∃ ls1, pm_fn ins pc ls st = some (q.1, ls1, q.2.2) ∧ px_le ls1 q.2.1 := by
  unfold pm_fn at hq ⊢
  split at hq
  · cases hq
    exact ⟨ls, rfl, h⟩
  · cases hq
    exact ⟨ls, rfl, h⟩
  · cases hq
    exact ⟨ls, rfl, h⟩
  · cases hq
    exact ⟨ls, rfl, h⟩
  · split at hq
    · rename_i hz
      cases hq
      exact ⟨ls, by simp only [hz, if_true], h⟩
    · cases hq
  · split at hq
    · rename_i hz
      cases hq
      exact ⟨ls, by simp only [hz, if_true], h⟩
    · cases hq
  · obtain ⟨v, hv, e⟩ := pm_psh_spec hq
    cases e
    exact ⟨ls, by simp only [px_ldI_le h hv]; rfl, h⟩
  · obtain ⟨v, hv, e⟩ := pm_psh_spec hq
    cases e
    exact ⟨ls, by simp only [px_ldI_le h hv]; rfl, h⟩
  · obtain ⟨v, hv, e⟩ := pm_psh_spec hq
    cases e
    exact ⟨ls, by simp only [px_ldA_le h hv]; rfl, h⟩
  · obtain ⟨v, hv, e⟩ := pm_psh_spec hq
    cases e
    exact ⟨ls, by simp only [px_ldA_le h hv]; rfl, h⟩
  · obtain ⟨v, hv, e⟩ := pm_psh_spec hq
    cases e
    exact ⟨ls, by simp only [px_ldL_le h hv]; rfl, h⟩
  · obtain ⟨v, hv, e⟩ := pm_psh_spec hq
    cases e
    exact ⟨ls, by simp only [px_ldD_le h hv]; rfl, h⟩
  · split at hq
    · obtain ⟨hi, e⟩ := pm_sto_spec hq
      cases e
      exact ⟨_, by simp only [pm_sto, h.1, hi, if_true], px_le_st1 h _ _⟩
    · cases hq
  · split at hq
    · obtain ⟨hi, e⟩ := pm_sto_spec hq
      cases e
      exact ⟨_, by simp only [pm_sto, h.1, hi, if_true], px_le_st1 h _ _⟩
    · cases hq
  · split at hq
    · obtain ⟨hi, e⟩ := pm_sto_spec hq
      cases e
      exact ⟨_, by simp only [pm_sto, h.1, hi, if_true], px_le_st1 h _ _⟩
    · cases hq
  · split at hq
    · obtain ⟨hi, e⟩ := pm_sto_spec hq
      cases e
      exact ⟨_, by simp only [pm_sto, h.1, hi, if_true], px_le_st1 h _ _⟩
    · cases hq
  · split at hq
    · obtain ⟨hi, e⟩ := pm_sto2_spec hq
      cases e
      exact ⟨_, by simp only [pm_sto2, h.1, hi, if_true], px_le_st2 h _ _⟩
    · cases hq
  · split at hq
    · obtain ⟨hi, e⟩ := pm_sto2_spec hq
      cases e
      exact ⟨_, by simp only [pm_sto2, h.1, hi, if_true], px_le_st2 h _ _⟩
    · cases hq
  · obtain ⟨x, hx, e⟩ := pm_inc_spec hq
    cases e
    exact ⟨_, by simp only [pm_inc, h.2 _ _ hx], px_le_st1 h _ _⟩
  · split at hq
    · cases hq
      exact ⟨ls, rfl, h⟩
    · cases hq
  · split at hq
    · cases hq
      exact ⟨ls, rfl, h⟩
    · cases hq
  · split at hq
    · cases hq
      exact ⟨ls, rfl, h⟩
    · cases hq
  · split at hq
    · cases hq
      exact ⟨ls, rfl, h⟩
    · cases hq
  · split at hq
    · cases hq
      exact ⟨ls, rfl, h⟩
    · cases hq
  · split at hq
    · cases hq
      exact ⟨ls, rfl, h⟩
    · cases hq
  · split at hq
    · cases hq
      exact ⟨ls, rfl, h⟩
    · cases hq
  · split at hq
    · cases hq
      exact ⟨ls, rfl, h⟩
    · cases hq
  · split at hq
    · cases hq
      exact ⟨ls, rfl, h⟩
    · cases hq
  · split at hq
    · cases hq
      exact ⟨ls, rfl, h⟩
    · cases hq
  · split at hq
    · cases hq
      exact ⟨ls, rfl, h⟩
    · cases hq
  · split at hq
    · cases hq
      exact ⟨ls, rfl, h⟩
    · cases hq
  · split at hq
    · cases hq
      exact ⟨ls, rfl, h⟩
    · cases hq
  · split at hq
    · cases hq
      exact ⟨ls, rfl, h⟩
    · cases hq
  · split at hq
    · cases hq
      exact ⟨ls, rfl, h⟩
    · cases hq
  · split at hq
    · cases hq
      exact ⟨ls, rfl, h⟩
    · cases hq
  · split at hq
    · cases hq
      exact ⟨ls, rfl, h⟩
    · cases hq
  · split at hq
    · cases hq
      exact ⟨ls, rfl, h⟩
    · cases hq
  · split at hq
    · cases hq
      exact ⟨ls, rfl, h⟩
    · cases hq
  · split at hq
    · cases hq
      exact ⟨ls, rfl, h⟩
    · cases hq
  · split at hq
    · split at hq
      · rename_i hd
        cases hq
        exact ⟨ls, by simp only [hd, and_self, if_true], h⟩
      · cases hq
    · cases hq
  · split at hq
    · split at hq
      · rename_i hd
        cases hq
        exact ⟨ls, by simp only [hd, and_self, if_true], h⟩
      · cases hq
    · cases hq
  · split at hq
    · split at hq
      · rename_i hd
        cases hq
        exact ⟨ls, by simp only [hd, and_self, if_true], h⟩
      · cases hq
    · cases hq
  · cases hq
set_option maxHeartbeats 2000000 in
theorem px_step_le (hK : ∀ (pc : Nat) (ls ls' : List (Option Value)) (st : List Value) (S : pm_S), px_le ls ls' → K' pc ls' st S → K pc ls st S) {pc : Nat} {ls ls' : List (Option Value)} {st : List Value} {S : pm_S} {ins : Instr} {len : Nat} (hl : px_le ls ls') (h : pm_step G cal own ini cc ret [] K' KR pc ls' st S ins len) : pm_step G cal own ini cc ret [] K KR pc ls st S ins len := by
  have cbk : ∀ {rest : List Value} {r1 : pm_R} {S1 : pm_S}, pm_cb own cc ret [] K' KR pc ls' rest r1 S1 → pm_cb own cc ret [] K KR pc ls rest r1 S1 := by
    intro rest r1 S1 h
    cases r1 with
    | inl v => exact hK _ _ _ _ _ hl h
    | inr E =>
      unfold pm_cb at h ⊢
      dsimp only at h ⊢
      rw [hl.1]
      exact h
  have brk : ∀ {P : Prop} {t : Nat} {r9 : List Value}, pm_br P K' pc t ls' r9 S → pm_br P K pc t ls r9 S := fun h => ⟨fun q => hK _ _ _ _ _ hl (h.1 q), fun q => hK _ _ _ _ _ hl (h.2 q)⟩
  have kk : ∀ {pc : Nat} {st : List Value} {S : pm_S}, K' pc ls' st S → K pc ls st S := fun h => hK _ _ _ _ _ hl h
  unfold pm_step at h
  split at h
  · obtain ⟨e1, t, e2, hk⟩ := h
    exact ⟨e1, t, e2, kk hk⟩
  · obtain ⟨e1, x, r, t, e2, e3, h⟩ := h
    split at h
    · exact ⟨e1, x, r, t, e2, e3, brk h⟩
    · exact ⟨e1, x, r, t, e2, e3, brk h⟩
    · exact ⟨e1, x, r, t, e2, e3, brk h⟩
    · exact ⟨e1, x, r, t, e2, e3, brk h⟩
    · exact ⟨e1, x, r, t, e2, e3, brk h⟩
    · exact ⟨e1, x, r, t, e2, e3, brk h⟩
  · obtain ⟨e1, x, y, r, t, e2, e3, h⟩ := h
    split at h
    · exact ⟨e1, x, y, r, t, e2, e3, brk h⟩
    · exact ⟨e1, x, y, r, t, e2, e3, brk h⟩
    · exact ⟨e1, x, y, r, t, e2, e3, brk h⟩
    · exact ⟨e1, x, y, r, t, e2, e3, brk h⟩
    · exact ⟨e1, x, y, r, t, e2, e3, brk h⟩
    · exact ⟨e1, x, y, r, t, e2, e3, brk h⟩
  · obtain ⟨x, r, e1, ho, hi9⟩ := h
    exact ⟨x, r, e1, fun z => by obtain ⟨t, e2, hk⟩ := ho z; exact ⟨t, e2, kk hk⟩, fun z1 z2 => by obtain ⟨off, t, e2, e3, hk⟩ := hi9 z1 z2; exact ⟨off, t, e2, e3, kk hk⟩⟩
  · obtain ⟨x, r, t, e1, e2, e3, hk⟩ := h
    exact ⟨x, r, t, e1, e2, e3, kk hk⟩
  · obtain ⟨e1, ⟨v, e2, hk⟩ | ⟨tx, e2, hk⟩⟩ := h
    · exact ⟨e1, Or.inl ⟨v, e2, kk hk⟩⟩
    · exact ⟨e1, Or.inr ⟨tx, e2, kk hk⟩⟩
  · obtain ⟨e1, ⟨v, e2, hk⟩ | ⟨tx, e2, hk⟩⟩ := h
    · exact ⟨e1, Or.inl ⟨v, e2, kk hk⟩⟩
    · exact ⟨e1, Or.inr ⟨tx, e2, kk hk⟩⟩
  · obtain ⟨e1, C9, n9, d9, e2, e3, hk⟩ := h
    exact ⟨e1, C9, n9, d9, e2, e3, kk hk⟩
  · obtain ⟨e1, x, y, r, e2, e3, hk⟩ := h
    exact ⟨e1, x, y, r, e2, e3, kk hk⟩
  · obtain ⟨e1, x, y, r, e2, e3, hk⟩ := h
    exact ⟨e1, x, y, r, e2, e3, kk hk⟩
  · obtain ⟨e1, x, y, r, e2, e3, hk⟩ := h
    exact ⟨e1, x, y, r, e2, e3, kk hk⟩
  · obtain ⟨e1, x, y, r, e2, e3, hk⟩ := h
    exact ⟨e1, x, y, r, e2, e3, kk hk⟩
  · obtain ⟨e1, x, r, e2, e3, hk⟩ := h
    exact ⟨e1, x, r, e2, e3, kk hk⟩
  · obtain ⟨e1, i, a, n, r, ty, w, f, e2, e3, e4, e5, hk⟩ := h
    exact ⟨e1, i, a, n, r, ty, w, f, e2, e3, e4, e5, kk hk⟩
  · obtain ⟨e1, i, a, n, r, ty, w, f, e2, e3, e4, e5, hk⟩ := h
    exact ⟨e1, i, a, n, r, ty, w, f, e2, e3, e4, e5, kk hk⟩
  · obtain ⟨e1, i, a, n, r, ty, w, f, e2, e3, e4, e5, hk⟩ := h
    exact ⟨e1, i, a, n, r, ty, w, f, e2, e3, e4, e5, kk hk⟩
  · obtain ⟨e1, i, a, n, r, ty, w, f, e2, e3, e4, e5, hk⟩ := h
    exact ⟨e1, i, a, n, r, ty, w, f, e2, e3, e4, e5, kk hk⟩
  · obtain ⟨e1, i, a, n, r, ty, w, f, e2, e3, e4, e5, hk⟩ := h
    exact ⟨e1, i, a, n, r, ty, w, f, e2, e3, e4, e5, kk hk⟩
  · obtain ⟨e1, v, v', i, a, n, r, ty, f, e2, e3, e4, e5, hk⟩ := h
    exact ⟨e1, v, v', i, a, n, r, ty, f, e2, e3, e4, e5, kk hk⟩
  · obtain ⟨e1, v, v', i, a, n, r, ty, f, e2, e3, e4, e5, hk⟩ := h
    exact ⟨e1, v, v', i, a, n, r, ty, f, e2, e3, e4, e5, kk hk⟩
  · obtain ⟨e1, v, v', i, a, n, r, ty, f, e2, e3, e4, e5, hk⟩ := h
    exact ⟨e1, v, v', i, a, n, r, ty, f, e2, e3, e4, e5, kk hk⟩
  · obtain ⟨e1, v, v', i, a, n, r, ty, f, e2, e3, e4, e5, hk⟩ := h
    exact ⟨e1, v, v', i, a, n, r, ty, f, e2, e3, e4, e5, kk hk⟩
  · obtain ⟨e1, v, v', i, a, n, r, ty, f, e2, e3, e4, e5, hk⟩ := h
    exact ⟨e1, v, v', i, a, n, r, ty, f, e2, e3, e4, e5, kk hk⟩
  · obtain ⟨e1, a, n9, r, q, f, e2, e3, hk⟩ := h
    exact ⟨e1, a, n9, r, q, f, e2, e3, kk hk⟩
  · obtain ⟨e1, n9, r, h0, e2, e3, e4, e5, e6, hk⟩ := h
    exact ⟨e1, n9, r, h0, e2, e3, e4, e5, e6, kk hk⟩
  · obtain ⟨e1, C9, n9, r, h0, e2, e3, e4, e5, e6, e7, hk⟩ := h
    exact ⟨e1, C9, n9, r, h0, e2, e3, e4, e5, e6, e7, kk hk⟩
  · obtain ⟨e1, ⟨ci, C9, T, N9, h0, ty, e2, e3, e4, e5, e6, e7, e8, hk⟩ | h⟩ := h
    · exact ⟨e1, Or.inl ⟨ci, C9, T, N9, h0, ty, e2, e3, e4, e5, e6, e7, e8, kk hk⟩⟩
    · exact ⟨e1, Or.inr h⟩
  · obtain ⟨e1, ci, k, ty, a, n, r, f, e2, e3, e4, hk⟩ := h
    exact ⟨e1, ci, k, ty, a, n, r, f, e2, e3, e4, kk hk⟩
  · obtain ⟨e1, ci, k, ty, a, n, v, r, f, e2, e3, e4, e5, e6, e7, hk⟩ := h
    exact ⟨e1, ci, k, ty, a, n, v, r, f, e2, e3, e4, e5, e6, e7, kk hk⟩
  · obtain ⟨e1, y, As, rest, b, ci, n, f, q, r1, S1, e2, e3, e4, e5, e6, e7, hc, hcb⟩ := h
    exact ⟨e1, y, As, rest, b, ci, n, f, q, r1, S1, e2, e3, e4, e5, e6, e7, hc, cbk hcb⟩
  · obtain ⟨e1, ⟨mx, x, y, r, e2, e3, e4, hk⟩ | ⟨fl, y, As, rest, r1, S1, e2, e3, e4, e5, hc, hcb⟩⟩ := h
    · exact ⟨e1, Or.inl ⟨mx, x, y, r, e2, e3, e4, kk hk⟩⟩
    · exact ⟨e1, Or.inr ⟨fl, y, As, rest, r1, S1, e2, e3, e4, e5, hc, cbk hcb⟩⟩
  · obtain ⟨e1, ⟨a, r, e2, e3, e4, hk⟩ | ⟨y, As, rest, b, r1, S1, e2, e3, e4, hc, hcb⟩⟩ := h
    · exact ⟨e1, Or.inl ⟨a, r, e2, e3, e4, kk hk⟩⟩
    · exact ⟨e1, Or.inr ⟨y, As, rest, b, r1, S1, e2, e3, e4, hc, cbk hcb⟩⟩
  · exact h
  · exact h
  · exact h
  · exact h
  · exact h
  · obtain ⟨e1, q, e2, hk⟩ := h
    obtain ⟨ls1, g1, g2⟩ := px_fn_le hl e2
    unfold pm_step
    split <;> first | exact ⟨e1, _, g1, hK _ _ _ _ _ g2 hk⟩ | contradiction | (simp [pm_fn] at e2)
theorem px_go_le {r : pm_R} {S' : pm_S} : ∀ (n pc : Nat) (ls ls' : List (Option Value)) (st : List Value) (S : pm_S), px_le ls ls' → pm_go G cal own ini cc ret [] r S' n pc ls' st S → pm_go G cal own ini cc ret [] r S' n pc ls st S := by
  intro n
  induction n with
  | zero => exact fun _ _ _ _ _ _ h => h.elim
  | succ n ih =>
    intro pc ls ls' st S hl h
    obtain ⟨ins, len, hdg, h⟩ := h
    exact ⟨ins, len, hdg, px_step_le ih hl h⟩
theorem px_weak {pc : Nat} {ls ls' : List (Option Value)} {st : List Value} {S : pm_S} (h : px_W G cal own ini cc ret KR pc ls' st S) (hl : px_le ls ls') : px_W G cal own ini cc ret KR pc ls st S := by
  obtain ⟨n, r, S', h1, h2⟩ := h
  exact ⟨n, r, S', px_go_le n _ _ _ _ _ hl h1, h2⟩
/-- the same, place by place -/
def px_leb : List (Option Value) → List (Option Value) → Prop
  | [], [] => True
  | _ :: r, none :: r' => px_leb r r'
  | x :: r, some v :: r' => x = some v ∧ px_leb r r'
  | _, _ => False
theorem px_leb_le : ∀ {ls ls' : List (Option Value)}, px_leb ls ls' → px_le ls ls'
  | [], [], _ => ⟨rfl, fun i v h => by simp at h⟩
  | x :: r, none :: r', h => by
    obtain ⟨h1, h2⟩ := px_leb_le (ls := r) (ls' := r') h
    refine ⟨by simp [h1], fun i v hi => ?_⟩
    cases i with
    | zero => simp at hi
    | succ i => rw [List.getElem?_cons_succ] at hi ⊢; exact h2 i v hi
  | x :: r, some w :: r', h => by
    obtain ⟨h0, h1, h2⟩ := (⟨h.1, px_leb_le (ls := r) (ls' := r') h.2⟩ : x = some w ∧ px_le r r')
    refine ⟨by simp [h1], fun i v hi => ?_⟩
    cases i with
    | zero => rw [List.getElem?_cons_zero] at hi ⊢; rw [h0]; exact hi
    | succ i => rw [List.getElem?_cons_succ] at hi ⊢; exact h2 i v hi
  | [], _ :: _, h => by simp [px_leb] at h
  | _ :: _, [], h => by simp [px_leb] at h
end PXV
