/-! a method's run is its contract -/
section PMV2
variable {p : Program} {l : Launch} {e : Env} {R : Room} {s : State} {m : MethodId} {args : Array Value} {below : List Frame} {meth : Method} {c : Code} {cc : ByteArray} {G : pm_G} {nL c0 s0 mc ms : Nat} {ret : Option FieldType} {r : pm_R} {S' : pm_S} {XC : String → State → State → Prop}
theorem pm_retV (hx : p.tables.exec = Jvm.exec) (hb : c.code = cc) (hr : meth.sig.returnType = ret) (hlocks : meth.locks = false) {Q : State → Prop} (hQ : Q = vx_MQ below (pm_Qc G r S') XC args s mc ms (pm_A G)) {pc : Nat} {ls : List (Option Value)} {st : List Value} {S : pm_S} {ins : Instr} (hdg : decode cc pc = .ok (ins, 1)) (h : pm_rt ret (fun r1 S1 => r1 = r ∧ S1 = S') st S ins)
    (hmc : c0 + mc = S'.2.2.1) (hms : s0 + ms = S'.2.2.2) : pm_V p l e R s m args below meth c Q G nL c0 s0 pc ls st S := by
  subst hQ
  intro H locs LS k n h1 h2 h3 h4 h5 h6
  unfold pm_rt at h
  split at h
  · obtain ⟨v, ty, rfl, rfl, hn, e1, e2⟩ := h
    subst e2
    have hk : k = mc := by omega
    have hk2 : n = ms := by omega
    subst hk; subst hk2
    exact vx_ret (W.zret hx hb hr hn (fun t ht hW => ⟨_, e1.symm, rfl, pm_B_of h1 h2 h3 t ht hW.alike⟩) h3.2.2 hdg hlocks)
  · obtain ⟨rfl, rfl, e1, e2⟩ := h
    subst e2
    have hk : k = mc := by omega
    have hk2 : n = ms := by omega
    subst hk; subst hk2
    exact vx_ret (W.vret hx hb hr (fun t ht hW => ⟨_, e1.symm, rfl, pm_B_of h1 h2 h3 t ht hW.alike⟩) h3.2.2 hdg hlocks)
  · obtain ⟨a, ty, rfl, rfl, hty, e1, e2⟩ := h
    subst e2
    have hk : k = mc := by omega
    have hk2 : n = ms := by omega
    subst hk; subst hk2
    exact vx_ret (W.aret hx hb hr hty (Or.inr ⟨a, rfl⟩) (fun t ht hW => ⟨_, e1.symm, rfl, pm_B_of h1 h2 h3 t ht hW.alike⟩) h3.2.2 hdg hlocks)
  · obtain ⟨v, rfl, rfl, e1, e2⟩ := h
    subst e2
    have hk : k = mc := by omega
    have hk2 : n = ms := by omega
    subst hk; subst hk2
    exact vx_ret (W.fret hx hb hr (fun t ht hW => ⟨_, e1.symm, rfl, pm_B_of h1 h2 h3 t ht hW.alike⟩) h3.2.2 hdg hlocks)
  · obtain ⟨v, rfl, rfl, e1, e2⟩ := h
    subst e2
    have hk : k = mc := by omega
    have hk2 : n = ms := by omega
    subst hk; subst hk2
    exact vx_ret (W.dret hx hb hr (fun t ht hW => ⟨_, e1.symm, rfl, pm_B_of h1 h2 h3 t ht hW.alike⟩) h3.2.2 hdg hlocks)
  · exact h.elim
end PMV2
section PMW
variable {G : pm_G}
set_option maxHeartbeats 2000000 in
theorem pm_sound1 (l : Launch) (hl : l.stackTraces = false) (d : Nat) (ih : ∀ (fl : Bool) (y : MethodName) (as : List Value) (S : pm_S) (r : pm_R) (S1 : pm_S), pm_run G d fl y as S r S1 → pm_cd l G d y as S r S1 ∨ (fl = true ∧ ∃ v, r = .inl v ∧ pm_cdh l G d y as S v S1)) (y : MethodName) (as : List Value) (S : pm_S) (r : pm_R) (S' : pm_S) {b : ByteArray} {maxL : Nat} {ret : Option FieldType} {n : Nat} (hmt : pm_mt y b maxL ret) (hlen : as.length ≤ maxL) (hcat : ∀ v ∈ as, pm_dp v = true) (hgo : pm_go G (pm_run G d) y.cls (decide (y.name = "<init>")) b ret [] r S' n 0 (pm_ent as maxL) [] S) : pm_cd l G (d + 1) y as S r S' := by
  have hle := pm_go_le (pm_run_le d) n _ _ _ _ hgo
  obtain ⟨hcode, hpl, hiniw, hml⟩ := id hmt
  refine ⟨b, maxL, ret, hmt, vx_ofW hpl rfl ?_⟩
  intro p e s m args below meth c s₁ B hml hxt hP
  obtain ⟨rfl, hT, hok, hnx⟩ := hP
  have hts0 := atoms_spec (ws := Cond.code y b maxL ret :: pm_W) B.pre
  have hts : ∀ w ∈ pm_W, w.before as.toArray s = true := fun w hw => hts0 w (List.mem_cons_of_mem _ hw)
  have hown : s.vm.findClass y.cls = some m.cls := findClass_of_methodNamed B.named
  have hlocks := B.notSynchronized
  have hr := B.returns
  have hname : meth.name = y.name := (name_of_methodNamed B.named B.method).1
  have hxt0 : c.exceptionTable.toList = [] := by
    cases hq : c.exceptionTable.toList with
    | nil => rfl
    | cons a t => exact (hxt a (by rw [hq]; exact List.mem_cons_self)).elim
  obtain ⟨mc, hmc⟩ : ∃ z, z = S'.2.2.1 - S.2.2.1 := ⟨_, rfl⟩
  obtain ⟨ms, hms⟩ : ∃ z, z = S'.2.2.2 - S.2.2.2 := ⟨_, rfl⟩
  rw [← hmc, ← hms]
  rw [lg_entry_eq]
  have key := pw_go (p := p) (l := l) (e := e) (R := (headSpec (Cond.code y b maxL ret :: pm_W) (pm_rm (d + 1) mc ms)).room) (s := s) (m := m) (args := as.toArray) (below := below) (meth := meth) (c := c)
    (Q := vx_MQ below (pm_Qc G r S') (pm_Xc G r S') as.toArray s mc ms (pm_A G)) (cc := b) (G := G) (nL := maxL) (c0 := S.2.2.1) (s0 := S.2.2.2) (cal := pm_run G d) (own := y.cls) (ini := decide (y.name = "<init>")) (ret := ret) (xt := []) (d := d) (r := r) (S' := S')
    ⟨B.exec, B.bytes, hml, hown, hts⟩ hT (fun h => by rw [hname]; exact of_decide_eq_true h) (fun h => absurd rfl h) ⟨by show d + 13 ≤ d + 1 + 12; omega, by show 64 * d + 464 ≤ 64 * (d + 1) + 400; omega⟩
    (fun fl y as S r S1 h => ⟨(pm_run_le d fl y as S r S1 h).1, (pm_run_le d fl y as S r S1 h).2, ih fl y as S r S1 h⟩) ⟨by show _ ≤ _ + mc; omega, by show _ ≤ _ + ms; omega⟩
    (fun pc ls st S2 ins hdg hrt => pm_retV B.exec B.bytes hr hlocks rfl hdg hrt (by omega) (by omega))
    (fun E S2 pc ls rest _ ⟨e1, e2⟩ => by
      subst e2
      intro H locs LS k n q ce h1 h2 h3 h4 h5 h6 hq hvm hcl
      exact vx_out (by rw [hxt0]; exact fun x hx => by cases hx) hlocks hq hvm hcl (fun t ht hal => ⟨e1.symm, pm_B_of h1 h2 h3 t ht hal⟩) h3.2.2 (by omega) (by omega))
    (fun pc ls st S2 idx ia ic E hdg htr _ hw d3 hd ⟨e1, e2⟩ => by
      subst e2
      intro H locs LS k n h1 h2 h3 h4 h5 h6
      obtain ⟨⟨tx, g1⟩, g2, g3, g4, g5, g6, -⟩ := id htr
      obtain ⟨q1, q2⟩ := pm_hat hts hT htr
      have hw' : (st.map fun v => v.category).sum ≤ 8 := hw
      simp only at hmc hms
      have hXC : ∀ t : State, s.vm.Alike t.vm → H.size ≤ t.heap.size → (∀ q : Nat, q < H.size → t.heap[q]? = H[q]?) → pm_Xc G r (S2.1, none, S2.2.2.1 + 1, S2.2.2.2 + 6) E s t := fun t hal hsz hq => ⟨e1.symm, pm_ok_moved hal (pm_ok_kept h1 hq), (fun n hn => by cases hn), Nat.le_trans h3.1 hsz, fun q a1 a2 => (hq q (Nat.lt_of_lt_of_le a1 h3.1)).trans (h3.2.1 q a1 a2)⟩
      rcases hd with ⟨d4, d6, d9⟩ | ⟨d4, d6, d9⟩
      · exact vx_throwS B.exec B.bytes hl hown g6 pm_names_fit (hts _ g2) (hts _ g3) (hT.2.2.2.2.1 _ _ _ g1) q1 q2 hT.2.2.2.1.1 hT.2.2.2.1.2 h3 (by rw [hml]; exact h4.1) hdg d3 d4 d6 d9 (by rw [hxt0]; exact fun x hx => by cases hx)
          (by show 2 + 3 < d + 1 + 12; omega) (by show _ + (13 * (2 + 1) + 43) ≤ 64 * (d + 1) + 400; omega) (by show _ ≤ mc; omega) (by show _ ≤ ms; omega) hlocks hXC h3.2.2 (by omega) (by omega)
      · exact vx_throwSW B.exec B.bytes hl hown g6 pm_names_fit (hts _ g2) (hts _ g3) (hT.2.2.2.2.1 _ _ _ g1) q1 q2 hT.2.2.2.1.1 hT.2.2.2.1.2 h3 (by rw [hml]; exact h4.1) hdg d3 d4 d6 d9 (by rw [hxt0]; exact fun x hx => by cases hx)
          (by show 2 + 3 < d + 1 + 12; omega) (by show _ + (13 * (2 + 1) + 43) ≤ 64 * (d + 1) + 400; omega) (by show _ ≤ mc; omega) (by show _ ≤ ms; omega) hlocks hXC h3.2.2 (by omega) (by omega))
    n 0 (pm_ent as maxL) [] S hgo
  exact key s.heap [] _ 0 0 hok hnx va_S.rf (pm_entry hlen hcat) rfl rfl
theorem pm_met_of {l : Launch} {y : MethodName} {ws : List Cond} {rm : Room} {Pc : Array Value → State → Prop} {Qc : Array Value → State → Outcome → State → Prop} {XC : String → State → State → Prop} {mc ms : Nat} {free : Addr → Prop} (h : vx_Met l y ws rm Pc Qc XC mc ms free) (hn : ∀ E s t, ¬ XC E s t) : Met l y ws rm Pc Qc mc ms free := by
  intro p e ha hc hk s m args below hf happ hP hK
  obtain ⟨n, o, h1, h2, h3, hq⟩ := h p e ha hc hk s m args below hf happ hP hK
  rcases hq with hq | ⟨q, -, E, ce, L, hX, -⟩
  · exact ⟨n, o, h1, h2, h3, hq⟩
  · exact (hn _ _ _ hX).elim
set_option maxHeartbeats 2000000 in
theorem pm_sound2 (l : Launch) (hl : l.stackTraces = false) (d : Nat) (ih : ∀ (fl : Bool) (y : MethodName) (as : List Value) (S : pm_S) (r : pm_R) (S1 : pm_S), pm_run G d fl y as S r S1 → pm_cd l G d y as S r S1 ∨ (fl = true ∧ ∃ v, r = .inl v ∧ pm_cdh l G d y as S v S1)) (y : MethodName) (as : List Value) (S : pm_S) (v : Option Value) (S' : pm_S) {b : ByteArray} {maxL : Nat} {ret : Option FieldType} {xt : List (Nat × Nat × Nat × Nat)} {n : Nat} (hmt : pm_mh y b maxL ret xt) (hlen : as.length ≤ maxL) (hcat : ∀ v ∈ as, pm_dp v = true) (hgo : pm_go G (pm_run G d) y.cls (decide (y.name = "<init>")) b ret xt (.inl v) S' n 0 (pm_ent as maxL) [] S) : pm_cdh l G (d + 1) y as S v S' := by
  have hle := pm_go_le (pm_run_le d) n _ _ _ _ hgo
  obtain ⟨hcode, hpl, hiniw, hml⟩ := id hmt
  refine ⟨b, maxL, ret, xt, hmt, pm_met_of (XC := pm_Xc G (.inl v) S') (vx_ofWH hpl rfl ?_) (fun E s t h => by cases h.1)⟩
  intro p e s m args below meth c s₁ B hml hP
  obtain ⟨rfl, hT, hok, hnx⟩ := hP
  have hts0 := atoms_spec (ws := Cond.codeWith y b maxL ret xt :: pm_W) B.pre
  have hts : ∀ w ∈ pm_W, w.before as.toArray s = true := fun w hw => hts0 w (List.mem_cons_of_mem _ hw)
  have hown : s.vm.findClass y.cls = some m.cls := findClass_of_methodNamed B.named
  have hlocks := B.notSynchronized
  have hr := B.returns
  have hname : meth.name = y.name := (name_of_methodNamed B.named B.method).1
  have hxt0 : c.exceptionTable.toList.map (fun h => (h.startPc, h.endPc, h.handlerPc, h.catchType)) = xt := by
    obtain ⟨m9, meth9, c9, hn9, h1, h2, -, -, h5, -⟩ := Cond.codeWith_spec (hts0 _ List.mem_cons_self)
    have X₀ := Stand.of_body B
    cases Option.some.inj (hn9.symm.trans B.named)
    cases Option.some.inj (h1.symm.trans B.method)
    cases Option.some.inj (h2.symm.trans X₀.code)
    exact h5
  obtain ⟨mc, hmc⟩ : ∃ z, z = S'.2.2.1 - S.2.2.1 := ⟨_, rfl⟩
  obtain ⟨ms, hms⟩ : ∃ z, z = S'.2.2.2 - S.2.2.2 := ⟨_, rfl⟩
  rw [← hmc, ← hms]
  rw [lg_entry_eq]
  have key := pw_go (p := p) (l := l) (e := e) (R := (headSpec (Cond.codeWith y b maxL ret xt :: pm_W) (pm_rm (d + 1) mc ms)).room) (s := s) (m := m) (args := as.toArray) (below := below) (meth := meth) (c := c)
    (Q := vx_MQ below (pm_Qc G (.inl v) S') (pm_Xc G (.inl v) S') as.toArray s mc ms (pm_A G)) (cc := b) (G := G) (nL := maxL) (c0 := S.2.2.1) (s0 := S.2.2.2) (cal := pm_run G d) (own := y.cls) (ini := decide (y.name = "<init>")) (ret := ret) (xt := xt) (d := d) (r := .inl v) (S' := S')
    ⟨B.exec, B.bytes, hml, hown, hts⟩ hT (fun h => by rw [hname]; exact of_decide_eq_true h) (fun _ => hxt0) ⟨by show d + 13 ≤ d + 1 + 12; omega, by show 64 * d + 464 ≤ 64 * (d + 1) + 400; omega⟩
    (fun fl y as S r S1 h => ⟨(pm_run_le d fl y as S r S1 h).1, (pm_run_le d fl y as S r S1 h).2, ih fl y as S r S1 h⟩) ⟨by show _ ≤ _ + mc; omega, by show _ ≤ _ + ms; omega⟩
    (fun pc ls st S2 ins hdg hrt => pm_retV B.exec B.bytes hr hlocks rfl hdg hrt (by omega) (by omega))
    (fun E S2 pc ls rest _ ⟨e1, e2⟩ => by cases e1)
    (fun pc ls st S2 idx ia ic E hdg htr _ hw d3 hd ⟨e1, e2⟩ => by cases e1)
    n 0 (pm_ent as maxL) [] S hgo
  exact key s.heap [] _ 0 0 hok hnx va_S.rf (pm_entry hlen hcat) rfl rfl
theorem pm_sound (l : Launch) (hl : l.stackTraces = false) : ∀ (d : Nat) (fl : Bool) (y : MethodName) (as : List Value) (S : pm_S) (r : pm_R) (S' : pm_S), pm_run G d fl y as S r S' → pm_cd l G d y as S r S' ∨ (fl = true ∧ ∃ v, r = .inl v ∧ pm_cdh l G d y as S v S') := by
  intro d
  induction d with
  | zero => exact fun _ _ _ _ _ _ h => h.elim
  | succ d ih =>
    intro fl y as S r S' hrun
    rcases hrun with ⟨b, maxL, ret, hmt, hlen, hcat, n, hgo⟩ | ⟨hf, v, rfl, b, maxL, ret, xt, hmt, hlen, hcat, n, hgo⟩
    · exact Or.inl (pm_sound1 l hl d ih y as S r S' hmt hlen hcat hgo)
    · exact Or.inr ⟨hf, v, rfl, pm_sound2 l hl d ih y as S v S' hmt hlen hcat hgo⟩
theorem pm_run_ok (l : Launch) (hl : l.stackTraces = false) (d : Nat) (fl : Bool) (y : MethodName) (as : List Value) (S : pm_S) (r : pm_R) (S1 : pm_S) (h : pm_run G d fl y as S r S1) : S.2.2.1 ≤ S1.2.2.1 ∧ S.2.2.2 ≤ S1.2.2.2 ∧ (pm_cd l G d y as S r S1 ∨ (fl = true ∧ ∃ v, r = .inl v ∧ pm_cdh l G d y as S v S1)) :=
  ⟨(pm_run_le d fl y as S r S1 h).1, (pm_run_le d fl y as S r S1 h).2, pm_sound l hl d fl y as S r S1 h⟩
end PMW
