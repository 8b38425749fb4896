/-! the call rows -/
section PMD
variable {p : Program} {l : Launch} {e : Env} {R : Room} {s : State} {m : MethodId} {args : Array Value} {below : List Frame} {meth : Method} {c : Code} {Q : State → Prop} {cc : ByteArray} {G : pm_G} {nL c0 s0 : Nat} {pc d idx : Nat} {ls : List (Option Value)} {S S1 : pm_S} {own : String} {y : MethodName} {As rest : List Value} {r : pm_R} {b : Nat}
theorem pm_iniN : pm_W.all (fun w => match w with
    | .code y _ _ ret => decide (y.name ≠ "<init>") || ret.isNone
    | _ => true) = true := by decide +kernel
theorem pm_iniNone {y : MethodName} {b9 : ByteArray} {maxL : Nat} {ret : Option FieldType} (h : Cond.code y b9 maxL ret ∈ pm_W) (h2 : y.name = "<init>") : ret = none := by
  have h1 := List.all_eq_true.mp pm_iniN _ h
  simp only [h2, ne_eq, not_true_eq_false, decide_false, Bool.false_or] at h1
  cases ret with
  | none => rfl
  | some x => cases h1
theorem pw_virtual (X : CallFix p m c cc nL s args pm_W own) (hT : pm_T G s s.heap) (hcd : pm_cd l G d y (.ref b :: As) S r S1) (hiv : pm_iv own idx y As.length) {ci n : Nat} {f : Nat → Value} {q : String} (hb : S.1 b = some (.inl ci, n, f)) (hq : pm_cnm ci = some q) (hqy : q = y.cls) (hw : pm_w8 rest)
    (hR : d + 13 ≤ R.frames ∧ 64 * d + 464 ≤ R.locals) (hm1 : S.2.2.1 ≤ S1.2.2.1) (hm2 : S.2.2.2 ≤ S1.2.2.2) (hc1 : S1.2.2.1 ≤ c0 + R.cells) (hc2 : S1.2.2.2 ≤ s0 + R.slots) (hdg : decode cc pc = .ok (.invokevirtual idx, 3))
    (kv : ∀ v, r = .inl v → pm_V p l e R s m args below meth c Q G nL c0 s0 (pc + 3) ls (v.toList ++ rest) S1) (kx : ∀ E, r = .inr E → pm_VX p l e R s m args below meth c Q G nL c0 s0 pc ls rest E S1) : pm_V p l e R s m args below meth c Q G nL c0 s0 pc ls (As.reverse ++ .ref b :: rest) S := by
  intro H locs LS k n h1 h2 h3 h4 h5 h6
  obtain ⟨bc, maxL, ret, ⟨hcode, hpl, hini, hml⟩, hM⟩ := hcd
  obtain ⟨i1, i2, i3, i4, i5, i6⟩ := hiv
  have hts : ∀ w ∈ pm_W, w.before args s = true := X.2.2.2.2
  have cw := cwV (R := R) (own := own) (index := idx) (C := y.cls) (y := y) (bytes := bc) (maxL := maxL) (ret := ret) (ws := Cond.code y bc maxL ret :: pm_W) (ws' := pm_W) (rm := pm_rm d (S1.2.2.1 - S.2.2.1) (S1.2.2.2 - S.2.2.2)) (mc := S1.2.2.1 - S.2.2.1) (ms := S1.2.2.2 - S.2.2.2) As.length hts
    (pm_W_good (fun w hw => by
      simp only [wsV, List.mem_append, List.mem_cons, List.not_mem_nil, or_false] at hw
      rcases hw with (rfl | rfl | rfl | rfl) | rfl | hw
      · exact i1
      · exact i2
      · exact i3
      · exact hini
      · exact hcode
      · exact hw)) rfl rfl rfl ⟨rfl, i4, i5, i6⟩ ⟨by show d + 12 + 1 ≤ _; omega, by show 8 + (maxL + 11) + (64 * d + 400) ≤ _; omega⟩
  have hrecv : ∃ cell : Cell, H[b]? = some cell ∧ cell.vm.isStatics = false ∧ s.vm.findClass y.cls = some cell.cls := by
    subst hqy
    obtain ⟨⟨cell, g1, ⟨r0, g2, g3, g4, g5, -⟩ | ⟨g2, g3, g4, g5, -⟩⟩, -⟩ := h1 b _ hb
    · have hci := pm_cl13 g2
      unfold pm_cnm at hq
      rw [if_neg (by omega), g2] at hq
      have e9 : r0.1 = y.cls := Option.some.inj hq
      exact ⟨cell, g1, by rw [g5]; rfl, by rw [g4, ← e9]; exact (hT.1.1 ci r0 g2).2.1⟩
    · subst g2
      unfold pm_cnm at hq
      rw [if_pos rfl] at hq
      have e9 : "java/lang/String" = y.cls := Option.some.inj hq
      exact ⟨cell, g1, g3, by rw [← e9]; exact g5⟩
  have hr := vx_runV (locs := locs) (l := l) (e := e) (below := below) (meth := meth) (cells := k) (slots := n) (g := F0 m pc LS (As.reverse ++ .ref b :: rest)) (rest := rest) X hM cw ⟨pm_Pc_blind G _ S, hrecv, fun U hU hW => pm_pre hT h1 h2 h3 U hU hW⟩ rfl rfl h4.1 rfl (lv_room hw) hdg ⟨by omega, by omega⟩
  exact pw_run hr h3 h4 (by omega) (by omega) kv kx
theorem pw_static (X : CallFix p m c cc nL s args pm_W own) (hT : pm_T G s s.heap) (hcd : pm_cd l G d y As S r S1) (his : pm_is own idx y As.length) (hw : pm_w8 rest)
    (hR : d + 13 ≤ R.frames ∧ 64 * d + 464 ≤ R.locals) (hm1 : S.2.2.1 ≤ S1.2.2.1) (hm2 : S.2.2.2 ≤ S1.2.2.2) (hc1 : S1.2.2.1 ≤ c0 + R.cells) (hc2 : S1.2.2.2 ≤ s0 + R.slots) (hdg : decode cc pc = .ok (.invokestatic idx, 3))
    (kv : ∀ v, r = .inl v → pm_V p l e R s m args below meth c Q G nL c0 s0 (pc + 3) ls (v.toList ++ rest) S1) (kx : ∀ E, r = .inr E → pm_VX p l e R s m args below meth c Q G nL c0 s0 pc ls rest E S1) : pm_V p l e R s m args below meth c Q G nL c0 s0 pc ls (As.reverse ++ rest) S := by
  intro H locs LS k n h1 h2 h3 h4 h5 h6
  obtain ⟨bc, maxL, ret, ⟨hcode, hpl, hini, hml⟩, hM⟩ := hcd
  obtain ⟨i1, i2, i4, i5, i6⟩ := his
  have hts : ∀ w ∈ pm_W, w.before args s = true := X.2.2.2.2
  have hgood : GoodIn pm_W (Cond.code y bc maxL ret :: pm_W) := pm_W_good (fun w hw => by
      rcases List.mem_cons.mp hw with rfl | hw
      · exact hcode
      · exact hw)
  rcases i1 with i1 | ⟨host, i1⟩
  rotate_left
  · have cn := va_cnB (R := R) (own := own) (host := host) (index := idx) (y := y) (bytes := bc) (maxL := maxL) (ret := ret) (ws := Cond.code y bc maxL ret :: pm_W) (ws' := pm_W) (rm := pm_rm d (S1.2.2.1 - S.2.2.1) (S1.2.2.2 - S.2.2.2)) (mc := S1.2.2.1 - S.2.2.1) (ms := S1.2.2.2 - S.2.2.2) As.length hts hgood rfl rfl rfl (hT.2.2.2.2.2.1 _ i1 rfl) (hts _ hini) ⟨i4, i5, i6⟩ ⟨by show d + 12 + 1 ≤ _; omega, by show 8 + (maxL + 11) + (64 * d + 400) ≤ _; omega⟩
    have hr := vx_runSN (locs := locs) (l := l) (e := e) (below := below) (meth := meth) (cells := k) (slots := n) (g := F0 m pc LS (As.reverse ++ rest)) (rest := rest) X hM ⟨cn, hts _ i2, trivial⟩ ⟨pm_Pc_blind G _ S, fun U hU hW => pm_pre hT h1 h2 h3 U hU hW⟩ rfl rfl h4.1 rfl (lv_room hw) hdg ⟨by omega, by omega⟩
    exact pw_run hr h3 h4 (by omega) (by omega) kv kx
  have cb := callB_of (R := R) (own := own) (index := idx) (y := y) (bytes := bc) (maxL := maxL) (ret := ret) (ws := Cond.code y bc maxL ret :: pm_W) (ws' := pm_W) (rm := pm_rm d (S1.2.2.1 - S.2.2.1) (S1.2.2.2 - S.2.2.2)) (mc := S1.2.2.1 - S.2.2.1) (ms := S1.2.2.2 - S.2.2.2) As.length hts hgood rfl rfl rfl (hts _ hini) (hts _ i1) ⟨i4, i5, i6⟩ ⟨by show d + 12 + 1 ≤ _; omega, by show 8 + (maxL + 11) + (64 * d + 400) ≤ _; omega⟩
  have hr := vx_runS (locs := locs) (l := l) (e := e) (below := below) (meth := meth) (cells := k) (slots := n) (g := F0 m pc LS (As.reverse ++ rest)) (rest := rest) X hM ⟨cb, hts _ i2⟩ ⟨pm_Pc_blind G _ S, fun U hU hW => pm_pre hT h1 h2 h3 U hU hW⟩ rfl rfl h4.1 rfl (lv_room hw) hdg ⟨by omega, by omega⟩
  exact pw_run hr h3 h4 (by omega) (by omega) kv kx
theorem pw_special (X : CallFix p m c cc nL s args pm_W own) (hT : pm_T G s s.heap) (hcd : pm_cd l G d y (.ref b :: As) S r S1) (hii : pm_ii own idx y As.length) (hw : pm_w8 rest)
    (hR : d + 13 ≤ R.frames ∧ 64 * d + 464 ≤ R.locals) (hm1 : S.2.2.1 ≤ S1.2.2.1) (hm2 : S.2.2.2 ≤ S1.2.2.2) (hc1 : S1.2.2.1 ≤ c0 + R.cells) (hc2 : S1.2.2.2 ≤ s0 + R.slots) (hdg : decode cc pc = .ok (.invokespecial idx, 3))
    (kv : ∀ v, r = .inl v → pm_V p l e R s m args below meth c Q G nL c0 s0 (pc + 3) ls (v.toList ++ rest) S1) (kx : ∀ E, r = .inr E → pm_VX p l e R s m args below meth c Q G nL c0 s0 pc ls rest E S1) : pm_V p l e R s m args below meth c Q G nL c0 s0 pc ls (As.reverse ++ .ref b :: rest) S := by
  intro H locs LS k n h1 h2 h3 h4 h5 h6
  obtain ⟨bc, maxL, ret, ⟨hcode, hpl, hini, hml⟩, hM⟩ := hcd
  obtain ⟨i1, i2, i3, i4, i5, i6⟩ := hii
  have hts : ∀ w ∈ pm_W, w.before args s = true := X.2.2.2.2
  have hgood : GoodIn pm_W (Cond.code y bc maxL ret :: pm_W) := pm_W_good (fun w hw => by
      rcases List.mem_cons.mp hw with rfl | hw
      · exact hcode
      · exact hw)
  cases pm_iniNone hcode i3
  have hf : k + (S1.2.2.1 - S.2.2.1) ≤ R.cells ∧ n + (S1.2.2.2 - S.2.2.2) ≤ R.slots := ⟨by omega, by omega⟩
  rcases i1 with i1 | ⟨host, i1⟩
  · have cw := cwI (R := R) (own := own) (index := idx) (y := y) (bytes := bc) (maxL := maxL) (ws := Cond.code y bc maxL none :: pm_W) (ws' := pm_W) (rm := pm_rm d (S1.2.2.1 - S.2.2.1) (S1.2.2.2 - S.2.2.2)) (mc := S1.2.2.1 - S.2.2.1) (ms := S1.2.2.2 - S.2.2.2) As.length hts hgood rfl rfl rfl (hts _ hini) (hts _ i1) (hts _ i2) i3 ⟨i4, i5, i6⟩ ⟨by show d + 12 + 1 ≤ _; omega, by show 8 + (maxL + 11) + (64 * d + 400) ≤ _; omega⟩
    have hr := vx_runI (locs := locs) (l := l) (e := e) (below := below) (meth := meth) (cells := k) (slots := n) (g := F0 m pc LS (As.reverse ++ .ref b :: rest)) (rest := rest) X hM cw ⟨pm_Pc_blind G _ S, fun U hU hW => pm_pre hT h1 h2 h3 U hU hW⟩ rfl rfl h4.1 rfl (lv_room hw) hdg hf
    exact pw_run hr h3 h4 (by omega) (by omega) kv kx
  · have cn := va_cnB (R := R) (own := own) (host := host) (index := idx) (y := y) (bytes := bc) (maxL := maxL) (ret := none) (ws := Cond.code y bc maxL none :: pm_W) (ws' := pm_W) (rm := pm_rm d (S1.2.2.1 - S.2.2.1) (S1.2.2.2 - S.2.2.2)) (mc := S1.2.2.1 - S.2.2.1) (ms := S1.2.2.2 - S.2.2.2) As.length hts hgood rfl rfl rfl (hT.2.2.2.2.2.1 _ i1 rfl) (hts _ hini) ⟨i4, i5, i6⟩ ⟨by show d + 12 + 1 ≤ _; omega, by show 8 + (maxL + 11) + (64 * d + 400) ≤ _; omega⟩
    have hr := vx_runIN (locs := locs) (l := l) (e := e) (below := below) (meth := meth) (cells := k) (slots := n) (g := F0 m pc LS (As.reverse ++ .ref b :: rest)) (rest := rest) X hM ⟨cn, i3, hts _ i2⟩ ⟨pm_Pc_blind G _ S, fun U hU hW => pm_pre hT h1 h2 h3 U hU hW⟩ rfl rfl h4.1 rfl (lv_room hw) hdg hf
    exact pw_run hr h3 h4 (by omega) (by omega) kv kx
theorem pw_statich (X : CallFix p m c cc nL s args pm_W own) (hT : pm_T G s s.heap) {v : Option Value} (hcd : pm_cdh l G d y As S v S1) (his : pm_is own idx y As.length) (hlk : Cond.methodLink own idx y ∈ pm_W) (hw : pm_w8 rest)
    (hR : d + 13 ≤ R.frames ∧ 64 * d + 464 ≤ R.locals) (hm1 : S.2.2.1 ≤ S1.2.2.1) (hm2 : S.2.2.2 ≤ S1.2.2.2) (hc1 : S1.2.2.1 ≤ c0 + R.cells) (hc2 : S1.2.2.2 ≤ s0 + R.slots) (hdg : decode cc pc = .ok (.invokestatic idx, 3))
    (kv : pm_V p l e R s m args below meth c Q G nL c0 s0 (pc + 3) ls (v.toList ++ rest) S1) : pm_V p l e R s m args below meth c Q G nL c0 s0 pc ls (As.reverse ++ rest) S := by
  intro H locs LS k n h1 h2 h3 h4 h5 h6
  obtain ⟨bc, maxL, ret, xt, ⟨hcode, hpl, hini, hml⟩, hM⟩ := hcd
  obtain ⟨-, i2, i4, i5, i6⟩ := his
  have i1 := hlk
  have hts : ∀ w ∈ pm_W, w.before args s = true := X.2.2.2.2
  have cw := vx_cwSW (R := R) (own := own) (index := idx) (y := y) (bytes := bc) (maxL := maxL) (ret := ret) (hh := xt) (ws := Cond.codeWith y bc maxL ret xt :: pm_W) (ws' := pm_W) (rm := pm_rm d (S1.2.2.1 - S.2.2.1) (S1.2.2.2 - S.2.2.2)) (mc := S1.2.2.1 - S.2.2.1) (ms := S1.2.2.2 - S.2.2.2) As.length hts
    (pm_W_good (fun w hw => by
      simp only [va_wsS, List.mem_append, List.mem_cons, List.not_mem_nil, or_false] at hw
      rcases hw with (rfl | rfl | rfl) | rfl | hw
      · exact i1
      · exact i2
      · exact hini
      · exact hcode
      · exact hw)) rfl rfl rfl ⟨i4, i5, i6⟩ ⟨by show d + 12 + 1 ≤ _; omega, by show 8 + (maxL + 11) + (64 * d + 400) ≤ _; omega⟩
  have hr := vx_runSW (locs := locs) (l := l) (e := e) (below := below) (meth := meth) (cells := k) (slots := n) (g := F0 m pc LS (As.reverse ++ rest)) (rest := rest) X hM cw ⟨pm_Pc_blind G _ S, fun U hU hW => pm_pre hT h1 h2 h3 U hU hW⟩ rfl rfl h4.1 rfl (lv_room hw) hdg ⟨by omega, by omega⟩
  have hr' : vx_Run p l e R s m args below meth c H locs k n (S1.2.2.1 - S.2.2.1) (S1.2.2.2 - S.2.2.2) (F0 m pc LS (As.reverse ++ rest)) rest (pm_Qc G (.inl v) S1 As.toArray) (pm_Xc G (.inl v) S1) (pm_A G) := fun T hT X => Or.inl (hr T hT X)
  exact pw_run (c0 := c0) (s0 := s0) hr' h3 h4 (by omega) (by omega) (fun v' e => by cases e; exact kv) (fun E e => by cases e)
end PMD
