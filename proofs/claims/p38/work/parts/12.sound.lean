/-! each step of the pure machine is the machine's -/
section PMS
variable {p : Program} {l : Launch} {e : Env} {R : Room} {s : State} {m : MethodId} {args : Array Value} {below : List Frame} {meth : Method} {c : Code} {Q : State → Prop} {cc : ByteArray} {G : pm_G} {nL c0 s0 : Nat}
variable {cal : pm_Cal} {own : String} {ini : Bool} {ret : Option FieldType} {xt : List (Nat × Nat × Nat × Nat)} {K : pm_K} {KR : pm_E} {d : Nat}
theorem pw_ex (X : CallFix p m c cc nL s args pm_W own) (hT : pm_T G s s.heap) (hxt : xt ≠ [] → c.exceptionTable.toList.map (fun h => (h.startPc, h.endPc, h.handlerPc, h.catchType)) = xt)
    (hKR : ∀ (pc : Nat) (ls : List (Option Value)) (st : List Value) (S : pm_S) (ins : Instr), decode cc pc = .ok (ins, 1) → pm_rt ret KR st S ins → pm_V p l e R s m args below meth c Q G nL c0 s0 pc ls st S)
    (hKX : ∀ (E : String) (S : pm_S) (pc : Nat) (ls : List (Option Value)) (rest : List Value), xt = [] → KR (.inr E) S → pm_VX p l e R s m args below meth c Q G nL c0 s0 pc ls rest E S)
    {pc : Nat} {ls : List (Option Value)} {rest : List Value} {E : String} {S : pm_S} (h : pm_ex own cc ret xt KR pc ls.length E S) : pm_VX p l e R s m args below meth c Q G nL c0 s0 pc ls rest E S := by
  rcases h with ⟨h1, h2⟩ | ⟨pre, suf, z, nm, v, hsp, hpre, hct, h0, hlink, hcast, hE, hcode, hrt⟩
  · exact hKX E S pc ls rest h1 h2
  · intro H locs LS k n q ce h1 h2 h3 h4 h5 h6 hq hvm hcl
    obtain ⟨hx, hb, hml, hown, hts⟩ := X
    replace hxt := hxt (by rw [hsp]; simp)
    rw [hsp] at hxt
    obtain ⟨L1, L2, hL, hL1, hL2⟩ := List.map_eq_append_iff.mp hxt
    obtain ⟨x, L3, hL3, hxz, -⟩ := List.map_eq_cons_iff.mp hL2
    subst hL3
    subst hxz
    obtain ⟨-, -, -, -, -, hTm, -, hTn⟩ := hT
    refine vx_catch hown L1 x L3 hL (fun y hy => ?_) hct h0 (hts _ hlink) (va_Nw.use rfl (hTm _ hcast rfl)) hq hvm hcl ?_
    · have hy' : (y.startPc, y.endPc, y.handlerPc, y.catchType) ∈ pre := by rw [← hL1]; exact List.mem_map.mpr ⟨y, hy, rfl⟩
      rcases hpre _ hy' with g | ⟨g1, n9, g2, g3, g4⟩
      · exact Or.inl g
      · exact Or.inr ⟨g1, n9, hts _ g2, hTn E hE n9 g4 g3⟩
    · rcases hcode with ⟨kf, k1, d1, d2, d3⟩ | ⟨kf, k1, d1, d2, d3⟩
      · refine lv_astore_n hx hb d1 rfl (pm_L_has h4) (by rw [← h4.2.1]; exact k1) rfl (fun LS' h' => ?_)
        exact lv_bipush hx hb d2 rfl (hKR (x.handlerPc + 3) _ _ S _ d3 hrt H locs LS' k n h1 h2 h3 (pm_L_st1 h4 h') h5 h6)
      · refine lv_astore hx hb d1 (pm_L_has h4) (by rw [← h4.2.1]; exact k1) rfl (fun LS' h' => ?_)
        exact lv_bipush hx hb d2 rfl (hKR (x.handlerPc + 4) _ _ S _ d3 hrt H locs LS' k n h1 h2 h3 (pm_L_st1 h4 h') h5 h6)
theorem pw_br {P : Prop} {pc t : Nat} {ls : List (Option Value)} {r st : List Value} {S : pm_S} (hK : ∀ (pc : Nat) (ls : List (Option Value)) (st : List Value) (S : pm_S), K pc ls st S → S.2.2.1 ≤ c0 + R.cells ∧ S.2.2.2 ≤ s0 + R.slots ∧ pm_V p l e R s m args below meth c Q G nL c0 s0 pc ls st S)
    (h : pm_br P K pc t ls r S) (row : ∀ (H : Heap) (locs : List Loc) (LS : Array Slot) (k n : Nat), (P → W p l e R s m args below meth c H locs k n Q (F0 m t LS r)) → (¬ P → W p l e R s m args below meth c H locs k n Q (F0 m (pc + 3) LS r)) → W p l e R s m args below meth c H locs k n Q (F0 m pc LS st)) : pm_V p l e R s m args below meth c Q G nL c0 s0 pc ls st S := by
  intro H locs LS k n h1 h2 h3 h4 h5 h6
  exact row H locs LS k n (fun hp => (hK _ _ _ _ (h.1 hp)).2.2 H locs LS k n h1 h2 h3 h4 h5 h6) (fun hp => (hK _ _ _ _ (h.2 hp)).2.2 H locs LS k n h1 h2 h3 h4 h5 h6)
theorem pm_cb_le (hK : ∀ (pc : Nat) (ls : List (Option Value)) (st : List Value) (S : pm_S), K pc ls st S → S.2.2.1 ≤ c0 + R.cells ∧ S.2.2.2 ≤ s0 + R.slots ∧ pm_V p l e R s m args below meth c Q G nL c0 s0 pc ls st S)
    (hB : ∀ (r : pm_R) (S : pm_S), KR r S → S.2.2.1 ≤ c0 + R.cells ∧ S.2.2.2 ≤ s0 + R.slots) {pc : Nat} {ls : List (Option Value)} {rest : List Value} {r : pm_R} {S : pm_S} (h : pm_cb own cc ret xt K KR pc ls rest r S) : S.2.2.1 ≤ c0 + R.cells ∧ S.2.2.2 ≤ s0 + R.slots := by
  cases r with
  | inl v => exact ⟨(hK _ _ _ _ h).1, (hK _ _ _ _ h).2.1⟩
  | inr E =>
    rcases h with ⟨-, h2⟩ | ⟨pre, suf, z, nm, v, -, -, -, -, -, -, -, -, hrt⟩
    · exact hB _ _ h2
    · obtain ⟨v, ty, -, -, -, h2⟩ := hrt
      exact hB _ _ h2
set_option maxHeartbeats 4000000 in
theorem pw_step (X : CallFix p m c cc nL s args pm_W own) (hT : pm_T G s s.heap) (hini : ini = true → meth.name = "<init>") (hxt : xt ≠ [] → c.exceptionTable.toList.map (fun h => (h.startPc, h.endPc, h.handlerPc, h.catchType)) = xt)
    (hR : d + 13 ≤ R.frames ∧ 64 * d + 464 ≤ R.locals)
    (hcal : ∀ (fl : Bool) (y : MethodName) (as : List Value) (S : pm_S) (r : pm_R) (S1 : pm_S), cal fl y as S r S1 → S.2.2.1 ≤ S1.2.2.1 ∧ S.2.2.2 ≤ S1.2.2.2 ∧ (pm_cd l G d y as S r S1 ∨ (fl = true ∧ ∃ v, r = .inl v ∧ pm_cdh l G d y as S v S1)))
    (hK : ∀ (pc : Nat) (ls : List (Option Value)) (st : List Value) (S : pm_S), K pc ls st S → S.2.2.1 ≤ c0 + R.cells ∧ S.2.2.2 ≤ s0 + R.slots ∧ pm_V p l e R s m args below meth c Q G nL c0 s0 pc ls st S)
    (hB : ∀ (r : pm_R) (S : pm_S), KR r S → S.2.2.1 ≤ c0 + R.cells ∧ S.2.2.2 ≤ s0 + R.slots)
    (hKR : ∀ (pc : Nat) (ls : List (Option Value)) (st : List Value) (S : pm_S) (ins : Instr), decode cc pc = .ok (ins, 1) → pm_rt ret KR st S ins → pm_V p l e R s m args below meth c Q G nL c0 s0 pc ls st S)
    (hKX : ∀ (E : String) (S : pm_S) (pc : Nat) (ls : List (Option Value)) (rest : List Value), xt = [] → KR (.inr E) S → pm_VX p l e R s m args below meth c Q G nL c0 s0 pc ls rest E S)
    (hKN : ∀ (pc : Nat) (ls : List (Option Value)) (st : List Value) (S : pm_S) (idx ia ic : Nat) (E : String), decode cc pc = .ok (.new idx, 3) → pm_tr own idx ia ic E → xt = [] → pm_w8 st → decode cc (pc + 3) = .ok (.dup, 1) →
       ((decode cc (pc + 4) = .ok (.ldc ia, 2) ∧ decode cc (pc + 6) = .ok (.invokespecial ic, 3) ∧ decode cc (pc + 9) = .ok (.athrow, 1)) ∨ (decode cc (pc + 4) = .ok (.ldc_w ia, 3) ∧ decode cc (pc + 7) = .ok (.invokespecial ic, 3) ∧ decode cc (pc + 10) = .ok (.athrow, 1))) → KR (.inr E) (S.1, none, S.2.2.1 + 1, S.2.2.2 + 6) → pm_V p l e R s m args below meth c Q G nL c0 s0 pc ls st S)
    {pc : Nat} {ls : List (Option Value)} {st : List Value} {S : pm_S} {ins : Instr} {len : Nat} (hdg : decode cc pc = .ok (ins, len)) (h : pm_step G cal own ini cc ret xt K KR pc ls st S ins len) : pm_V p l e R s m args below meth c Q G nL c0 s0 pc ls st S := by
  obtain ⟨hx, hb, hml, hown, hts⟩ := id X
  have hV : ∀ {pc : Nat} {ls : List (Option Value)} {st : List Value} {S : pm_S}, K pc ls st S → pm_V p l e R s m args below meth c Q G nL c0 s0 pc ls st S := fun h => (hK _ _ _ _ h).2.2
  unfold pm_step at h
  split at h
  · obtain ⟨rfl, t, ht, hk⟩ := h
    intro H locs LS k n h1 h2 h3 h4 h5 h6
    exact lv_goto hx hb hdg ht (hV hk H locs LS k n h1 h2 h3 h4 h5 h6)
  · obtain ⟨rfl, x, r, t, rfl, ht, h⟩ := h
    split at h
    · exact pw_br hK h (fun H locs LS k n a b => lv_if_eq hx hb hdg ht a b)
    · exact pw_br hK h (fun H locs LS k n a b => lv_if_ne hx hb hdg ht a (fun q => b (fun z => z q)))
    · exact pw_br hK h (fun H locs LS k n a b => lv_if_lt hx hb hdg ht a b)
    · exact pw_br hK h (fun H locs LS k n a b => lv_if_ge hx hb hdg ht a b)
    · exact pw_br hK h (fun H locs LS k n a b => lv_if_gt hx hb hdg ht a b)
    · exact pw_br hK h (fun H locs LS k n a b => lv_if_le hx hb hdg ht a b)
  · obtain ⟨rfl, x, y, r, t, rfl, ht, h⟩ := h
    split at h
    · exact pw_br hK h (fun H locs LS k n a b => lv_icmp_eq hx hb hdg ht a b)
    · exact pw_br hK h (fun H locs LS k n a b => lv_icmp_ne hx hb hdg ht a (fun q => b (fun z => z q)))
    · exact pw_br hK h (fun H locs LS k n a b => lv_icmp_lt hx hb hdg ht a b)
    · exact pw_br hK h (fun H locs LS k n a b => lv_icmp_ge hx hb hdg ht a b)
    · exact pw_br hK h (fun H locs LS k n a b => lv_icmp_gt hx hb hdg ht a b)
    · exact pw_br hK h (fun H locs LS k n a b => lv_icmp_le hx hb hdg ht a b)
  · rename_i d1 lo hi offs
    obtain ⟨x, r, rfl, ho, hi9⟩ := h
    intro H locs LS k n h1 h2 h3 h4 h5 h6
    by_cases q1 : x.toInt < lo ∨ hi < x.toInt
    · obtain ⟨t, ht, hk⟩ := ho q1
      exact lv_tableOut hx hb hdg q1 ht (hV hk H locs LS k n h1 h2 h3 h4 h5 h6)
    · obtain ⟨off, t, hof, ht, hk⟩ := hi9 (fun z => q1 (Or.inl z)) (fun z => q1 (Or.inr z))
      exact lv_tableIn hx hb hdg (fun z => q1 (Or.inl z)) (fun z => q1 (Or.inr z)) hof ht (hV hk H locs LS k n h1 h2 h3 h4 h5 h6)
  · obtain ⟨x, r, t, rfl, hp, ht, hk⟩ := h
    intro H locs LS k n h1 h2 h3 h4 h5 h6
    exact lv_lookup hx hb hdg hp rfl ht (hV hk H locs LS k n h1 h2 h3 h4 h5 h6)
  · obtain ⟨rfl, ⟨v, hw, hk⟩ | ⟨tx, hw, hk⟩⟩ := h
    · intro H locs LS k n h1 h2 h3 h4 h5 h6
      exact lv_ldc hx hb hown (hts _ hw) hdg (hV hk H locs LS k n h1 h2 h3 h4 h5 h6)
    · intro H locs LS k n h1 h2 h3 h4 h5 h6
      obtain ⟨-, -, -, -, hTs, -⟩ := hT
      exact va_ldcS hx hb hown (hTs own tx _ hw) hdg (hV hk H locs LS k n h1 h2 h3 h4 h5 h6)
  · obtain ⟨rfl, ⟨v, hw, hk⟩ | ⟨v, hw, hk⟩⟩ := h
    · intro H locs LS k n h1 h2 h3 h4 h5 h6
      exact lv_ldc2 hx hb hown (hts _ hw) hdg (hV hk H locs LS k n h1 h2 h3 h4 h5 h6)
    · intro H locs LS k n h1 h2 h3 h4 h5 h6
      exact lv_ldc2d hx hb hown (hts _ hw) hdg (hV hk H locs LS k n h1 h2 h3 h4 h5 h6)
  · obtain ⟨rfl, C, n9, d9, hw, hf, hk⟩ := h
    exact hf.elim
  · obtain ⟨rfl, x, y, r, rfl, hy, hk⟩ := h
    intro H locs LS k n h1 h2 h3 h4 h5 h6
    exact lv_irem hx hb hdg hy (hV hk H locs LS k n h1 h2 h3 h4 h5 h6)
  · obtain ⟨rfl, x, y, r, rfl, hy, hk⟩ := h
    intro H locs LS k n h1 h2 h3 h4 h5 h6
    exact lv_idiv hx hb hdg hy (hV hk H locs LS k n h1 h2 h3 h4 h5 h6)
  · obtain ⟨rfl, x, y, r, rfl, hy, hk⟩ := h
    intro H locs LS k n h1 h2 h3 h4 h5 h6
    exact lv_fdiv hx hb hdg hy (hV hk H locs LS k n h1 h2 h3 h4 h5 h6)
  · obtain ⟨rfl, x, y, r, rfl, hy, hk⟩ := h
    intro H locs LS k n h1 h2 h3 h4 h5 h6
    exact lv_ddiv hx hb hdg hy (hV hk H locs LS k n h1 h2 h3 h4 h5 h6)
  · obtain ⟨rfl, x, r, rfl, hy, hk⟩ := h
    intro H locs LS k n h1 h2 h3 h4 h5 h6
    exact lv_f2d hx hb hdg hy (hV hk H locs LS k n h1 h2 h3 h4 h5 h6)
  · obtain ⟨rfl, i, a, n, r, ty, w, f, hst, hm, hok, hin, hk⟩ := h
    exact pw_rd (ok := fun ty => ty = .int) hx hb hdg (fun a cell j v ty H locs LS k n r ok9 g1 g2 g3 g4 g5 kk => by
      have ok := ok9
      try dsimp only at ok
      subst ok
      exact W.iald hx hb g1 g2 g3 g4 g5 rfl rfl hdg kk) ⟨i, a, n, r, ty, w, f, hst, hm, hok, hin, hV hk⟩
  · obtain ⟨rfl, i, a, n, r, ty, w, f, hst, hm, hok, hin, hk⟩ := h
    exact pw_rd (ok := fun ty => ty = .byte ∨ ty = .boolean) hx hb hdg (fun a cell j v ty H locs LS k n r ok9 g1 g2 g3 g4 g5 kk => by
      have ok := ok9
      try dsimp only at ok
      rcases ok with ok | ok
      · subst ok
        exact W.bald hx hb g1 g2 g3 g4 g5 rfl rfl hdg kk
      · subst ok
        exact W.zald hx hb g1 g2 g3 g4 g5 rfl rfl hdg kk) ⟨i, a, n, r, ty, w, f, hst, hm, hok, hin, hV hk⟩
  · obtain ⟨rfl, i, a, n, r, ty, w, f, hst, hm, hok, hin, hk⟩ := h
    exact pw_rd (ok := fun ty => ty = .long) hx hb hdg (fun a cell j v ty H locs LS k n r ok9 g1 g2 g3 g4 g5 kk => by
      have ok := ok9
      try dsimp only at ok
      subst ok
      exact W.lald hx hb g1 g2 g3 g4 g5 rfl rfl hdg kk) ⟨i, a, n, r, ty, w, f, hst, hm, hok, hin, hV hk⟩
  · obtain ⟨rfl, i, a, n, r, ty, w, f, hst, hm, hok, hin, hk⟩ := h
    exact pw_rd (ok := fun ty => ty = .double) hx hb hdg (fun a cell j v ty H locs LS k n r ok9 g1 g2 g3 g4 g5 kk => by
      have ok := ok9
      try dsimp only at ok
      subst ok
      exact W.dald hx hb g1 g2 g3 g4 g5 rfl rfl hdg kk) ⟨i, a, n, r, ty, w, f, hst, hm, hok, hin, hV hk⟩
  · obtain ⟨rfl, i, a, n, r, ty, w, f, hst, hm, hok, hin, hk⟩ := h
    exact pw_rd (ok := fun ty => ∃ C, ty = .object C) hx hb hdg (fun a cell j v ty H locs LS k n r ok9 g1 g2 g3 g4 g5 kk => by
      have ok := ok9
      try dsimp only at ok
      obtain ⟨C, ok⟩ := ok
      subst ok
      exact W.aald hx hb g1 g2 rfl g3 g4 g5 rfl rfl hdg kk) ⟨i, a, n, r, ty, w, f, hst, hm, hok, hin, hV hk⟩
  · obtain ⟨rfl, v, v', i, a, n, r, ty, f, hst, hm, hok, hin, hk⟩ := h
    exact pw_wt (ok := fun ty v v' => ty = .int ∧ (∃ x : Int32, v = .int x) ∧ v' = v) hx hb hdg (fun v v' a cell j ty H locs LS k n r ok9 g0 g1 g2 g3 g4 g5 kk => by
      have ok := ok9
      try dsimp only at ok
      obtain ⟨rfl, ⟨x, rfl⟩, rfl⟩ := ok
      exact W.iast hx hb g1 g2 (by rw [g3]; exact fun z => by cases z) g5 rfl rfl hdg kk) ⟨v, v', i, a, n, r, ty, f, hst, hm, hok, hin, hV hk⟩
  · obtain ⟨rfl, v, v', i, a, n, r, ty, f, hst, hm, hok, hin, hk⟩ := h
    exact pw_wt (ok := fun ty v v' => (ty = .byte ∨ ty = .boolean) ∧ (∃ x : Int32, v = .int x) ∧ v' = narrow ty v) hx hb hdg (fun v v' a cell j ty H locs LS k n r ok9 g0 g1 g2 g3 g4 g5 kk => by
      have ok := ok9
      try dsimp only at ok
      obtain ⟨rfl | rfl, ⟨x, rfl⟩, rfl⟩ := ok
      · exact W.bast hx hb g1 g2 (by rw [g3]; exact fun z => by cases z) g5 rfl rfl hdg kk
      · exact W.zast hx hb g1 g2 (by rw [g3]; exact fun z => by cases z) g5 rfl rfl hdg kk) ⟨v, v', i, a, n, r, ty, f, hst, hm, hok, hin, hV hk⟩
  · obtain ⟨rfl, v, v', i, a, n, r, ty, f, hst, hm, hok, hin, hk⟩ := h
    exact pw_wt (ok := fun ty v v' => ty = .long ∧ (∃ x : Int64, v = .long x) ∧ v' = v) hx hb hdg (fun v v' a cell j ty H locs LS k n r ok9 g0 g1 g2 g3 g4 g5 kk => by
      have ok := ok9
      try dsimp only at ok
      obtain ⟨rfl, ⟨x, rfl⟩, rfl⟩ := ok
      exact W.last hx hb g1 g2 (by rw [g3]; exact fun z => by cases z) g5 rfl rfl hdg kk) ⟨v, v', i, a, n, r, ty, f, hst, hm, hok, hin, hV hk⟩
  · obtain ⟨rfl, v, v', i, a, n, r, ty, f, hst, hm, hok, hin, hk⟩ := h
    exact pw_wt (ok := fun ty v v' => ty = .double ∧ (∃ x : UInt64, v = .double x) ∧ v' = v) hx hb hdg (fun v v' a cell j ty H locs LS k n r ok9 g0 g1 g2 g3 g4 g5 kk => by
      have ok := ok9
      try dsimp only at ok
      obtain ⟨rfl, ⟨x, rfl⟩, rfl⟩ := ok
      exact W.dast hx hb g1 g2 (by rw [g3]; exact fun z => by cases z) g5 rfl rfl hdg kk) ⟨v, v', i, a, n, r, ty, f, hst, hm, hok, hin, hV hk⟩
  · obtain ⟨rfl, v, v', i, a, n, r, ty, f, hst, hm, ⟨⟨b, ci, nb, fb, q, rfl, hb1, hb2, rfl⟩, rfl⟩, hin, hk⟩ := h
    refine pw_wt (ok := fun ty v v' => ty = .object q.1 ∧ v = .ref b ∧ v' = v) hx hb hdg (fun v v' a cell j ty H locs LS k n r ok9 g0 g1 g2 g3 g4 g5 kk => ?_) ⟨_, _, i, a, n, r, _, f, hst, hm, ⟨rfl, rfl, rfl⟩, hin, hV hk⟩
    obtain ⟨rfl, rfl, rfl⟩ := ok9
    obtain ⟨⟨cellV, v1, hatV⟩, -⟩ := g0 b _ hb1
    obtain ⟨r0, v2, v3, v4, v5, -⟩ := pm_aO_of hatV (pm_cl13 hb2)
    cases Option.some.inj (hb2.symm.trans v2)
    have hcls := (hT.1.1 ci q hb2).2
    obtain ⟨kA, comp, k1, k2, k3, -⟩ := g4
    have hcomp : comp = G.1.1 ci := Option.some.inj (k3.symm.trans hcls.1)
    subst hcomp
    obtain ⟨kC, hkC, -⟩ := hcls.2
    exact W.aast hx hb g1 (fun q h => by rw [g3] at h; cases h) (fun h => by rw [g3] at h; cases h) k1 k2 rfl hkC ⟨fun z => g5 (Or.inl z), Nat.not_le.mp fun z => g5 (Or.inr z)⟩ v1 (fun q h => by rw [v5] at h; cases h) (by rw [v4]; exact hkC) (by rw [v4]; exact va_assign hcls) rfl rfl hdg kk
  · obtain ⟨rfl, a, n9, r, q, f, rfl, hm, hk⟩ := h
    intro H locs LS k n h1 h2 h3 h4 h5 h6
    obtain ⟨⟨cell, hc, q1, q2, q3, q4, q5⟩, -⟩ := h1 a _ hm
    exact W.alen hx hb hc q1 q4.2 rfl rfl hdg (hV hk H locs LS k n h1 h2 h3 h4 h5 h6)
  · obtain ⟨rfl, n9, r, h0, rfl, hn, hby, hw, hnx, hk⟩ := h
    have hbd := hK _ _ _ _ hk
    exact pw_newarray hx hb hts hT hn hby hw hnx hbd.1 hbd.2.1 hdg hbd.2.2
  · obtain ⟨rfl, C, n9, r, h0, rfl, hn, hby, hw, hw2, hnx, hk⟩ := h
    have hbd := hK _ _ _ _ hk
    exact pw_anewarray hx hb hts hown hT hn hby hw hw2 hnx hbd.1 hbd.2.1 hdg hbd.2.2
  · obtain ⟨rfl, ⟨ci, C, T, N, h0, ty, hkc, hci, hty, w1, w2, w3, hnx, hk⟩ | ⟨ia, ic, E, htr, hx0, hw, d3, hd, hkr⟩⟩ := h
    · have hbd := hK _ _ _ _ hk
      exact pw_new hx hb hts hown hT hkc hty w1 w2 w3 hnx hbd.1 hbd.2.1 hdg hbd.2.2
    · exact hKN pc ls st S _ ia ic E hdg htr hx0 hw d3 hd hkr
  · obtain ⟨rfl, ci, k, ty, a, n, r, f, rfl, hfr, hm, hk⟩ := h
    exact pw_getfield hx hb hts hown hT.1 hfr hm hdg (hV hk)
  · obtain ⟨rfl, ci, k, ty, a, n, v, r, f, rfl, hfr, hfi, hm, hn, hfit, hk⟩ := h
    exact pw_putfield hx hb hts hown hT.1 hini hfr hfi hm hn hfit hdg (hV hk)
  · obtain ⟨rfl, y, As, rest, b, ci, n, f, q, r1, S1, hiv, rfl, hw, hm, hq, hqy, hc, hcb⟩ := h
    obtain ⟨m1, m2, hcd | ⟨hf, -⟩⟩ := hcal _ _ _ _ _ _ hc
    · have hbd := pm_cb_le hK hB hcb
      exact pw_virtual X hT hcd hiv hm hq hqy hw hR m1 m2 hbd.1 hbd.2 hdg (fun v e => by subst e; exact hV hcb) (fun E e => by subst e; exact pw_ex X hT hxt hKR hKX hcb)
    · cases hf
  · obtain ⟨rfl, ⟨mx, x, y, r, ⟨w1, w2, w3, w4⟩, rfl, hw, hk⟩ | ⟨fl, y, As, rest, r1, S1, his, hfl, rfl, hw, hc, hcb⟩⟩ := h
    · intro H locs LS k n h1 h2 h3 h4 h5 h6
      have hw' : (r.map fun v => v.category).sum ≤ 8 := hw
      have hkk := hK _ _ _ _ hk
      cases mx with
      | true => exact va_mmax hx hb (by rw [hml]; exact h4.1.symm) hown (hts _ w1) (hts _ w2) (hts _ w3) (hts _ w4) (by omega) (by omega) (by omega) (by omega) hdg (hV hk H locs LS k n h1 h2 h3 h4 h5 h6)
      | false => exact va_mmin hx hb (by rw [hml]; exact h4.1.symm) hown (hts _ w1) (hts _ w2) (hts _ w3) (hts _ w4) (by omega) (by omega) (by omega) (by omega) hdg (hV hk H locs LS k n h1 h2 h3 h4 h5 h6)
    have hbd := pm_cb_le hK hB hcb
    obtain ⟨m1, m2, hcd | ⟨hf, v, rfl, hcd⟩⟩ := hcal _ _ _ _ _ _ hc
    · exact pw_static X hT hcd his hw hR m1 m2 hbd.1 hbd.2 hdg (fun v e => by subst e; exact hV hcb) (fun E e => by subst e; exact pw_ex X hT hxt hKR hKX hcb)
    · exact pw_statich X hT hcd his (hfl hf) hw hR m1 m2 hbd.1 hbd.2 hdg (hV hcb)
  · obtain ⟨rfl, ⟨a, r, rfl, hw, ⟨w1, w2, w3⟩, hk⟩ | ⟨y, As, rest, b, r1, S1, hii, rfl, hw, hc, hcb⟩⟩ := h
    · intro H locs LS k n h1 h2 h3 h4 h5 h6
      exact W.objInit hx hb hown (hts _ w1) (hts _ w2) (hts _ w3) rfl (by rw [hml]; exact h4.1) rfl hdg (by omega) (by have : (r.map fun v => v.category).sum ≤ 8 := hw; show 2 * (F0 m pc LS (.ref a :: r)).monitorRoom + _ + 12 ≤ _; have h9 := lv_room (m := m) (pc := pc) (ls := LS) (rest := .ref a :: r) hw; omega) (hV hk H locs LS k n h1 h2 h3 h4 h5 h6)
    · obtain ⟨m1, m2, hcd | ⟨hf, -⟩⟩ := hcal _ _ _ _ _ _ hc
      · have hbd := pm_cb_le hK hB hcb
        exact pw_special X hT hcd hii hw hR m1 m2 hbd.1 hbd.2 hdg (fun v e => by subst e; exact hV hcb) (fun E e => by subst e; exact pw_ex X hT hxt hKR hKX hcb)
      · cases hf
  · obtain ⟨rfl, h⟩ := h
    exact hKR pc ls st S _ hdg h
  · obtain ⟨rfl, h⟩ := h
    exact hKR pc ls st S _ hdg h
  · obtain ⟨rfl, h⟩ := h
    exact hKR pc ls st S _ hdg h
  · obtain ⟨rfl, h⟩ := h
    exact hKR pc ls st S _ hdg h
  · obtain ⟨rfl, h⟩ := h
    exact hKR pc ls st S _ hdg h
  · obtain ⟨rfl, q, hq, hk⟩ := h
    exact pw_fn hx hb hdg hq (hV hk)
end PMS
