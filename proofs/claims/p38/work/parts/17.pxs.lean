/-! a step of px_s is a step of the pure machine -/
section PXS
variable {G : pm_G} {cal : pm_Cal} {own : String} {ini : Bool} {cc : ByteArray} {ret : Option FieldType} {KR : pm_E}
set_option maxHeartbeats 2000000 in
theorem px_step {pc : Nat} {ls : List (Option Value)} {st : List Value} {S : pm_S} {ins : Instr} {len : Nat} (hdg : decode cc pc = .ok (ins, len)) {K : pm_K} (hK : ∀ pc ls st S, K pc ls st S → px_W G cal own ini cc ret KR pc ls st S) (h : pm_step G cal own ini cc ret [] K KR pc ls st S ins len) : px_W G cal own ini cc ret KR pc ls st S := by
  have go : ∀ (n : Nat) (r : pm_R) (S' : pm_S), KR r S' → pm_step G cal own ini cc ret [] (pm_go G cal own ini cc ret [] r S' n) (fun r1 S1 => r1 = r ∧ S1 = S') pc ls st S ins len → px_W G cal own ini cc ret KR pc ls st S := fun n r S' hk hs => ⟨n + 1, r, S', ⟨ins, len, hdg, hs⟩, hk⟩
  have cbk : ∀ {pc : Nat} {ls : List (Option Value)} {rest : List Value} {r1 : pm_R} {S1 : pm_S}, pm_cb own cc ret [] K KR pc ls rest r1 S1 → ∃ (n : Nat) (r : pm_R) (S' : pm_S), KR r S' ∧ pm_cb own cc ret [] (pm_go G cal own ini cc ret [] r S' n) (fun r1 S1 => r1 = r ∧ S1 = S') pc ls rest r1 S1 := by
    intro pc ls rest r1 S1 h
    cases r1 with
    | inl v =>
      obtain ⟨n, r, S', hg, hk⟩ := hK _ _ _ _ h
      exact ⟨n, r, S', hk, hg⟩
    | inr E =>
      rcases h with ⟨h1, h2⟩ | ⟨pre, suf, z, nm, v, hsp, -⟩
      · exact ⟨0, .inr E, S1, h2, Or.inl ⟨h1, rfl, rfl⟩⟩
      · simp at hsp
  have brk : ∀ {P : Prop} {t : Nat} {r9 : List Value}, pm_br P K pc t ls r9 S → ∃ (n : Nat) (r : pm_R) (S' : pm_S), KR r S' ∧ pm_br P (pm_go G cal own ini cc ret [] r S' n) pc t ls r9 S := by
    intro P t r9 h
    by_cases q : P
    · obtain ⟨n, r, S', hg, hk⟩ := hK _ _ _ _ (h.1 q)
      exact ⟨n, r, S', hk, fun _ => hg, fun z => absurd q z⟩
    · obtain ⟨n, r, S', hg, hk⟩ := hK _ _ _ _ (h.2 q)
      exact ⟨n, r, S', hk, fun z => absurd z q, fun _ => hg⟩
  unfold pm_step at h
  split at h
  · obtain ⟨e1, t, e2, hk9⟩ := h
    obtain ⟨n0, r0, S0, hg, hk⟩ := hK _ _ _ _ hk9
    exact go n0 r0 S0 hk ⟨e1, t, e2, hg⟩
  · obtain ⟨e1, x, r, t, e2, e3, h⟩ := h
    split at h
    · obtain ⟨n0, r0, S0, hk, hb⟩ := brk h
      exact go n0 r0 S0 hk ⟨e1, x, r, t, e2, e3, hb⟩
    · obtain ⟨n0, r0, S0, hk, hb⟩ := brk h
      exact go n0 r0 S0 hk ⟨e1, x, r, t, e2, e3, hb⟩
    · obtain ⟨n0, r0, S0, hk, hb⟩ := brk h
      exact go n0 r0 S0 hk ⟨e1, x, r, t, e2, e3, hb⟩
    · obtain ⟨n0, r0, S0, hk, hb⟩ := brk h
      exact go n0 r0 S0 hk ⟨e1, x, r, t, e2, e3, hb⟩
    · obtain ⟨n0, r0, S0, hk, hb⟩ := brk h
      exact go n0 r0 S0 hk ⟨e1, x, r, t, e2, e3, hb⟩
    · obtain ⟨n0, r0, S0, hk, hb⟩ := brk h
      exact go n0 r0 S0 hk ⟨e1, x, r, t, e2, e3, hb⟩
  · obtain ⟨e1, x, y, r, t, e2, e3, h⟩ := h
    split at h
    · obtain ⟨n0, r0, S0, hk, hb⟩ := brk h
      exact go n0 r0 S0 hk ⟨e1, x, y, r, t, e2, e3, hb⟩
    · obtain ⟨n0, r0, S0, hk, hb⟩ := brk h
      exact go n0 r0 S0 hk ⟨e1, x, y, r, t, e2, e3, hb⟩
    · obtain ⟨n0, r0, S0, hk, hb⟩ := brk h
      exact go n0 r0 S0 hk ⟨e1, x, y, r, t, e2, e3, hb⟩
    · obtain ⟨n0, r0, S0, hk, hb⟩ := brk h
      exact go n0 r0 S0 hk ⟨e1, x, y, r, t, e2, e3, hb⟩
    · obtain ⟨n0, r0, S0, hk, hb⟩ := brk h
      exact go n0 r0 S0 hk ⟨e1, x, y, r, t, e2, e3, hb⟩
    · obtain ⟨n0, r0, S0, hk, hb⟩ := brk h
      exact go n0 r0 S0 hk ⟨e1, x, y, r, t, e2, e3, hb⟩
  · rename_i d1 lo hi offs
    obtain ⟨x, r, e1, ho, hi9⟩ := h
    by_cases q1 : x.toInt < lo ∨ hi < x.toInt
    · obtain ⟨t, e2, hk9⟩ := ho q1
      obtain ⟨n0, r0, S0, hg, hk⟩ := hK _ _ _ _ hk9
      exact go n0 r0 S0 hk ⟨x, r, e1, fun _ => ⟨t, e2, hg⟩, fun z1 z2 => absurd q1 (by rintro (z | z); exact z1 z; exact z2 z)⟩
    · obtain ⟨off, t, e2, e3, hk9⟩ := hi9 (fun z => q1 (Or.inl z)) (fun z => q1 (Or.inr z))
      obtain ⟨n0, r0, S0, hg, hk⟩ := hK _ _ _ _ hk9
      exact go n0 r0 S0 hk ⟨x, r, e1, fun z => absurd z q1, fun _ _ => ⟨off, t, e2, e3, hg⟩⟩
  · obtain ⟨x, r, t, e1, e2, e3, hk9⟩ := h
    obtain ⟨n0, r0, S0, hg, hk⟩ := hK _ _ _ _ hk9
    exact go n0 r0 S0 hk ⟨x, r, t, e1, e2, e3, hg⟩
  · obtain ⟨e1, ⟨v, e2, hk9⟩ | ⟨tx, e2, hk9⟩⟩ := h
    · obtain ⟨n0, r0, S0, hg, hk⟩ := hK _ _ _ _ hk9
      exact go n0 r0 S0 hk ⟨e1, Or.inl ⟨v, e2, hg⟩⟩
    · obtain ⟨n0, r0, S0, hg, hk⟩ := hK _ _ _ _ hk9
      exact go n0 r0 S0 hk ⟨e1, Or.inr ⟨tx, e2, hg⟩⟩
  · obtain ⟨e1, ⟨v, e2, hk9⟩ | ⟨tx, e2, hk9⟩⟩ := h
    · obtain ⟨n0, r0, S0, hg, hk⟩ := hK _ _ _ _ hk9
      exact go n0 r0 S0 hk ⟨e1, Or.inl ⟨v, e2, hg⟩⟩
    · obtain ⟨n0, r0, S0, hg, hk⟩ := hK _ _ _ _ hk9
      exact go n0 r0 S0 hk ⟨e1, Or.inr ⟨tx, e2, hg⟩⟩
  · obtain ⟨e1, C9, n9, d9, e2, e3, hk9⟩ := h
    obtain ⟨n0, r0, S0, hg, hk⟩ := hK _ _ _ _ hk9
    exact go n0 r0 S0 hk ⟨e1, C9, n9, d9, e2, e3, hg⟩
  · obtain ⟨e1, x, y, r, e2, e3, hk9⟩ := h
    obtain ⟨n0, r0, S0, hg, hk⟩ := hK _ _ _ _ hk9
    exact go n0 r0 S0 hk ⟨e1, x, y, r, e2, e3, hg⟩
  · obtain ⟨e1, x, y, r, e2, e3, hk9⟩ := h
    obtain ⟨n0, r0, S0, hg, hk⟩ := hK _ _ _ _ hk9
    exact go n0 r0 S0 hk ⟨e1, x, y, r, e2, e3, hg⟩
  · obtain ⟨e1, x, y, r, e2, e3, hk9⟩ := h
    obtain ⟨n0, r0, S0, hg, hk⟩ := hK _ _ _ _ hk9
    exact go n0 r0 S0 hk ⟨e1, x, y, r, e2, e3, hg⟩
  · obtain ⟨e1, x, y, r, e2, e3, hk9⟩ := h
    obtain ⟨n0, r0, S0, hg, hk⟩ := hK _ _ _ _ hk9
    exact go n0 r0 S0 hk ⟨e1, x, y, r, e2, e3, hg⟩
  · obtain ⟨e1, x, r, e2, e3, hk9⟩ := h
    obtain ⟨n0, r0, S0, hg, hk⟩ := hK _ _ _ _ hk9
    exact go n0 r0 S0 hk ⟨e1, x, r, e2, e3, hg⟩
  · obtain ⟨e1, i, a, n, r, ty, w, f, e2, e3, e4, e5, hk9⟩ := h
    obtain ⟨n0, r0, S0, hg, hk⟩ := hK _ _ _ _ hk9
    exact go n0 r0 S0 hk ⟨e1, i, a, n, r, ty, w, f, e2, e3, e4, e5, hg⟩
  · obtain ⟨e1, i, a, n, r, ty, w, f, e2, e3, e4, e5, hk9⟩ := h
    obtain ⟨n0, r0, S0, hg, hk⟩ := hK _ _ _ _ hk9
    exact go n0 r0 S0 hk ⟨e1, i, a, n, r, ty, w, f, e2, e3, e4, e5, hg⟩
  · obtain ⟨e1, i, a, n, r, ty, w, f, e2, e3, e4, e5, hk9⟩ := h
    obtain ⟨n0, r0, S0, hg, hk⟩ := hK _ _ _ _ hk9
    exact go n0 r0 S0 hk ⟨e1, i, a, n, r, ty, w, f, e2, e3, e4, e5, hg⟩
  · obtain ⟨e1, i, a, n, r, ty, w, f, e2, e3, e4, e5, hk9⟩ := h
    obtain ⟨n0, r0, S0, hg, hk⟩ := hK _ _ _ _ hk9
    exact go n0 r0 S0 hk ⟨e1, i, a, n, r, ty, w, f, e2, e3, e4, e5, hg⟩
  · obtain ⟨e1, i, a, n, r, ty, w, f, e2, e3, e4, e5, hk9⟩ := h
    obtain ⟨n0, r0, S0, hg, hk⟩ := hK _ _ _ _ hk9
    exact go n0 r0 S0 hk ⟨e1, i, a, n, r, ty, w, f, e2, e3, e4, e5, hg⟩
  · obtain ⟨e1, v, v', i, a, n, r, ty, f, e2, e3, e4, e5, hk9⟩ := h
    obtain ⟨n0, r0, S0, hg, hk⟩ := hK _ _ _ _ hk9
    exact go n0 r0 S0 hk ⟨e1, v, v', i, a, n, r, ty, f, e2, e3, e4, e5, hg⟩
  · obtain ⟨e1, v, v', i, a, n, r, ty, f, e2, e3, e4, e5, hk9⟩ := h
    obtain ⟨n0, r0, S0, hg, hk⟩ := hK _ _ _ _ hk9
    exact go n0 r0 S0 hk ⟨e1, v, v', i, a, n, r, ty, f, e2, e3, e4, e5, hg⟩
  · obtain ⟨e1, v, v', i, a, n, r, ty, f, e2, e3, e4, e5, hk9⟩ := h
    obtain ⟨n0, r0, S0, hg, hk⟩ := hK _ _ _ _ hk9
    exact go n0 r0 S0 hk ⟨e1, v, v', i, a, n, r, ty, f, e2, e3, e4, e5, hg⟩
  · obtain ⟨e1, v, v', i, a, n, r, ty, f, e2, e3, e4, e5, hk9⟩ := h
    obtain ⟨n0, r0, S0, hg, hk⟩ := hK _ _ _ _ hk9
    exact go n0 r0 S0 hk ⟨e1, v, v', i, a, n, r, ty, f, e2, e3, e4, e5, hg⟩
  · obtain ⟨e1, v, v', i, a, n, r, ty, f, e2, e3, e4, e5, hk9⟩ := h
    obtain ⟨n0, r0, S0, hg, hk⟩ := hK _ _ _ _ hk9
    exact go n0 r0 S0 hk ⟨e1, v, v', i, a, n, r, ty, f, e2, e3, e4, e5, hg⟩
  · obtain ⟨e1, a, n9, r, q, f, e2, e3, hk9⟩ := h
    obtain ⟨n0, r0, S0, hg, hk⟩ := hK _ _ _ _ hk9
    exact go n0 r0 S0 hk ⟨e1, a, n9, r, q, f, e2, e3, hg⟩
  · obtain ⟨e1, n9, r, h0, e2, e3, e4, e5, e6, hk9⟩ := h
    obtain ⟨n0, r0, S0, hg, hk⟩ := hK _ _ _ _ hk9
    exact go n0 r0 S0 hk ⟨e1, n9, r, h0, e2, e3, e4, e5, e6, hg⟩
  · obtain ⟨e1, C9, n9, r, h0, e2, e3, e4, e5, e6, e7, hk9⟩ := h
    obtain ⟨n0, r0, S0, hg, hk⟩ := hK _ _ _ _ hk9
    exact go n0 r0 S0 hk ⟨e1, C9, n9, r, h0, e2, e3, e4, e5, e6, e7, hg⟩
  · obtain ⟨e1, ⟨ci, C9, T, N9, h0, ty, e2, e3, e4, e5, e6, e7, e8, hk9⟩ | ⟨ia, ic, E, e2, e3, e4, e5, e6, hkr⟩⟩ := h
    · obtain ⟨n0, r0, S0, hg, hk⟩ := hK _ _ _ _ hk9
      exact go n0 r0 S0 hk ⟨e1, Or.inl ⟨ci, C9, T, N9, h0, ty, e2, e3, e4, e5, e6, e7, e8, hg⟩⟩
    · exact go 0 _ _ hkr ⟨e1, Or.inr ⟨ia, ic, E, e2, e3, e4, e5, e6, rfl, rfl⟩⟩
  · obtain ⟨e1, ci, k, ty, a, n, r, f, e2, e3, e4, hk9⟩ := h
    obtain ⟨n0, r0, S0, hg, hk⟩ := hK _ _ _ _ hk9
    exact go n0 r0 S0 hk ⟨e1, ci, k, ty, a, n, r, f, e2, e3, e4, hg⟩
  · obtain ⟨e1, ci, k, ty, a, n, v, r, f, e2, e3, e4, e5, e6, e7, hk9⟩ := h
    obtain ⟨n0, r0, S0, hg, hk⟩ := hK _ _ _ _ hk9
    exact go n0 r0 S0 hk ⟨e1, ci, k, ty, a, n, v, r, f, e2, e3, e4, e5, e6, e7, hg⟩
  · obtain ⟨e1, y, As, rest, b, ci, n, f, q, r1, S1, e2, e3, e4, e5, e6, e7, hc, hcb⟩ := h
    obtain ⟨n0, r0, S0, hk, hb⟩ := cbk hcb
    exact go n0 r0 S0 hk ⟨e1, y, As, rest, b, ci, n, f, q, r1, S1, e2, e3, e4, e5, e6, e7, hc, hb⟩
  · obtain ⟨e1, ⟨mx, x, y, r, e2, e3, e4, hk9⟩ | ⟨fl, y, As, rest, r1, S1, e2, e3, e4, e5, hc, hcb⟩⟩ := h
    · obtain ⟨n0, r0, S0, hg, hk⟩ := hK _ _ _ _ hk9
      exact go n0 r0 S0 hk ⟨e1, Or.inl ⟨mx, x, y, r, e2, e3, e4, hg⟩⟩
    obtain ⟨n0, r0, S0, hk, hb⟩ := cbk hcb
    exact go n0 r0 S0 hk ⟨e1, Or.inr ⟨fl, y, As, rest, r1, S1, e2, e3, e4, e5, hc, hb⟩⟩
  · obtain ⟨e1, ⟨a, r, e2, e3, e4, hk9⟩ | ⟨y, As, rest, b, r1, S1, e2, e3, e4, hc, hcb⟩⟩ := h
    · obtain ⟨n0, r0, S0, hg, hk⟩ := hK _ _ _ _ hk9
      exact go n0 r0 S0 hk ⟨e1, Or.inl ⟨a, r, e2, e3, e4, hg⟩⟩
    · obtain ⟨n0, r0, S0, hk, hb⟩ := cbk hcb
      exact go n0 r0 S0 hk ⟨e1, Or.inr ⟨y, As, rest, b, r1, S1, e2, e3, e4, hc, hb⟩⟩
  · obtain ⟨e1, v, ty, e2, e3, e4, hk⟩ := h
    exact go 0 _ _ hk ⟨e1, v, ty, e2, e3, e4, rfl, rfl⟩
  · obtain ⟨e1, e2, e3, hk⟩ := h
    exact go 0 _ _ hk ⟨e1, e2, e3, rfl, rfl⟩
  · obtain ⟨e1, v, ty, e2, e3, e4, hk⟩ := h
    exact go 0 _ _ hk ⟨e1, v, ty, e2, e3, e4, rfl, rfl⟩
  · obtain ⟨e1, v, e2, e3, hk⟩ := h
    exact go 0 _ _ hk ⟨e1, v, e2, e3, rfl, rfl⟩
  · obtain ⟨e1, v, e2, e3, hk⟩ := h
    exact go 0 _ _ hk ⟨e1, v, e2, e3, rfl, rfl⟩
  · obtain ⟨e1, q, e2, hk9⟩ := h
    obtain ⟨n0, r0, S0, hg, hk⟩ := hK _ _ _ _ hk9
    refine go n0 r0 S0 hk ?_
    unfold pm_step
    split <;> first | exact ⟨e1, q, e2, hg⟩ | contradiction | (simp [pm_fn] at e2)
end PXS
