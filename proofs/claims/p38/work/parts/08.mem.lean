/-! rows of the pure machine over the heap: fields, arrays, new cells -/
section PMM
variable {p : Program} {l : Launch} {e : Env} {R : Room} {s : State} {m : MethodId} {args : Array Value} {below : List Frame} {meth : Method} {c : Code} {Q : State → Prop} {cc : ByteArray} {G : pm_G} {nL c0 s0 : Nat}
theorem pm_ok_set {U : State} {M : pm_M} {H H' : Heap} {a : Nat} {ce : pm_C} {cell : Cell} (h : pm_ok G U M H) (h1 : H'[a]? = some cell) (h2 : ∀ q : Nat, q ≠ a → H'[q]? = H[q]?) (h3 : pm_at G U ce cell) (h4 : pm_wr ce = true → pm_A G a) : pm_ok G U (pm_up M a (some ce)) H' := by
  intro b cb hb
  by_cases e : b = a
  · subst e
    rw [pm_up_s] at hb
    cases hb
    exact ⟨⟨cell, h1, h3⟩, h4⟩
  · rw [pm_up_n _ _ e] at hb
    obtain ⟨⟨x, q1, q2⟩, q3⟩ := h b cb hb
    exact ⟨⟨x, (h2 b e).trans q1, q2⟩, q3⟩
theorem pm_ok_push {U : State} {M : pm_M} {H H' : Heap} {ce : pm_C} {cell : Cell} (h : pm_ok G U M H) (h1 : H'[H.size]? = some cell) (h2 : ∀ q : Nat, q < H.size → H'[q]? = H[q]?) (h3 : pm_at G U ce cell) (h4 : pm_wr ce = true → pm_A G H.size) : pm_ok G U (pm_up M H.size (some ce)) H' := by
  intro b cb hb
  by_cases e : b = H.size
  · subst e
    rw [pm_up_s] at hb
    cases hb
    exact ⟨⟨cell, h1, h3⟩, h4⟩
  · rw [pm_up_n _ _ e] at hb
    obtain ⟨⟨x, q1, q2⟩, q3⟩ := h b cb hb
    exact ⟨⟨x, (h2 b (Array.getElem?_eq_some_iff.mp q1).1).trans q1, q2⟩, q3⟩
theorem pm_nx_set {S S' : pm_S} {H H' : Heap} (h : pm_nx S H) (h1 : H'.size = H.size) (h2 : S'.2.1 = S.2.1) : pm_nx S' H' := fun n hn => h1.trans (h n (h2 ▸ hn))
theorem pm_nx_push {S' : pm_S} {H' : Heap} {h0 : Nat} (h1 : H'.size = h0 + 1) (h2 : S'.2.1 = some (h0 + 1)) : pm_nx S' H' := fun n hn => by
  rw [h2] at hn
  cases hn
  exact h1
theorem pw_getfield (hexec : p.tables.exec = Jvm.exec) (hb : c.code = cc) {own : String} {idx ci k pc a n : Nat} {ty : FieldType} {ls : List (Option Value)} {r : List Value} {S : pm_S} {f : Nat → Value} (hts : ∀ w ∈ pm_W, w.before args s = true) (hown : s.vm.findClass own = some m.cls) (hK : va_K G.1 pm_cl [] s)
    (hfr : pm_fr own idx ci k ty) (hm : S.1 a = some (.inl ci, n, f)) (hdg : decode cc pc = .ok (.getfield idx, 3)) (kk : pm_V p l e R s m args below meth c Q G nL c0 s0 (pc + 3) ls (f k :: r) S) : pm_V p l e R s m args below meth c Q G nL c0 s0 pc ls (.ref a :: r) S := by
  intro H locs LS kn nn h1 h2 h3 h4 h5 h6
  obtain ⟨⟨cell, hc, hat⟩, -⟩ := h1 a _ hm
  rcases hfr with hfr | ⟨rfl, hfr⟩
  · obtain ⟨C, T, N, ⟨hcl, hin, -, -⟩, hk, hd, hlink⟩ := hfr
    obtain ⟨r0, e1, e2, e3, e4, e5⟩ := pm_aO_of hat (pm_cl13 hcl)
    cases Option.some.inj (e1.symm.trans hcl)
    obtain ⟨hS, hfc, kC, hkC, hkind⟩ := hK.1 ci _ hcl
    obtain ⟨cf, kf, fi, f9, hi, hsl⟩ := hS k hk
    refine W.getf hexec hb hown (hts _ hlink) hi (u_facts hfc hkC (u_lays hts hin hk) hi).1 hc (by rw [e4]; exact fun h => by cases h) (v := f k) ?_ rfl rfl hdg (kk H locs LS kn nn h1 h2 h3 h4 h5 h6)
    rw [hsl]
    exact e5 k (by rw [← e2]; exact hk)
  · rcases hat with ⟨r0, e1, -⟩ | ⟨-, q1, q2, q3, ⟨cf, k9, i, g, a1, a2, a3⟩, ⟨cf', k', i', g', b1, b2, b3⟩⟩
    · exact absurd (pm_cl13 e1) (by omega)
    · rcases hfr with ⟨rfl, hlink⟩ | ⟨rfl, hlink⟩
      · exact W.getf hexec hb hown (hts _ hlink) a1 a2 hc q2 (v := f 0) a3 rfl rfl hdg (kk H locs LS kn nn h1 h2 h3 h4 h5 h6)
      · exact W.getf hexec hb hown (hts _ hlink) b1 b2 hc q2 (v := f 1) b3 rfl rfl hdg (kk H locs LS kn nn h1 h2 h3 h4 h5 h6)
theorem pw_putfield (hexec : p.tables.exec = Jvm.exec) (hb : c.code = cc) {own : String} {idx ci k pc a n : Nat} {ty : FieldType} {ls : List (Option Value)} {r : List Value} {S : pm_S} {f : Nat → Value} {v : Value} {ini : Bool} (hts : ∀ w ∈ pm_W, w.before args s = true) (hown : s.vm.findClass own = some m.cls) (hK : va_K G.1 pm_cl [] s) (hini : ini = true → meth.name = "<init>")
    (hfr : pm_fr own idx ci k ty) (hfi : pm_fi own ci k ini) (hm : S.1 a = some (.inl ci, n, f)) (hn : narrow ty v = v) (hfit : fits ty v = true) (hdg : decode cc pc = .ok (.putfield idx, 3)) (kk : pm_V p l e R s m args below meth c Q G nL c0 s0 (pc + 3) ls r (pm_up S.1 a (some (.inl ci, n, pm_up f k v)), S.2)) : pm_V p l e R s m args below meth c Q G nL c0 s0 pc ls (v :: .ref a :: r) S := by
  intro H locs LS kn nn h1 h2 h3 h4 h5 h6
  obtain ⟨⟨cell, hc, hat⟩, hwr⟩ := h1 a _ hm
  obtain ⟨r0, e1, e2, e3, e4, e5⟩ := pm_aO_of hat hfi.1
  obtain ⟨C, T, N, ⟨hcl, hin, ⟨ty0, hty⟩, hnm⟩, hk, hd, hlink⟩ : pm_frO own idx ci k ty := by
    rcases hfr with h | ⟨h, -⟩
    · exact h
    · have := hfi.1
      omega
  cases Option.some.inj (e1.symm.trans hcl)
  obtain ⟨hci, C', T', N', hcl', hfin⟩ := hfi
  cases Option.some.inj (hcl'.symm.trans hcl)
  have hA : pm_A G a := hwr (by simp [pm_wr, hci])
  have hap := va_apart (own := own) hts hin ty0 hty hnm hK hcl
  obtain ⟨hS, hfc, kC, hkC, hkind⟩ := hK.1 ci _ hcl
  obtain ⟨cf, kf, fi, f9, hi, hsl⟩ := hS k hk
  have hst := (u_facts hfc hkC (u_lays hts hin hk) hi).1
  have hkn : k < n := by rw [← e2]; exact hk
  have fin : ∀ H' : Heap, H'[a]? = some (cell.setSlot f9.slot v) → H'.size = H.size → (∀ q, q ≠ a → H'[q]? = H[q]?) → W p l e R s m args below meth c H' (locs ++ [⟨a, f9.slot⟩]) kn nn Q (F0 m (pc + 3) LS r) := by
    intro H' q1 q2 q3
    refine kk H' _ LS kn nn (pm_ok_set h1 q1 q3 (Or.inl ⟨_, hcl, e2, e3, e4, fun j hj => ?_⟩) (fun _ => hA)) (pm_nx_set h2 q2 rfl) (h3.put q2 q3 hA) h4 h5 h6
    have hj' : j < N := by have := e2; simp only at this; omega
    have h9 := t_set (V := f) (fun k hk => e5 k (by have := e2; simp only at this; omega)) hap hk v j hj'
    rw [hsl]
    exact h9.trans (by unfold pm_up updV; rfl)
  have hlay := hts _ (hin _ (u_in_lay hk))
  unfold u_lay at hlay
  rcases hfin with hfin | ⟨hin1, hfin, hdecl⟩
  · rw [if_neg (by rw [hfin]; decide)] at hlay
    have h6' := u_store hfc hkC hkind hlay hi hd hn hfit
    exact W.putK hexec hb (f := f9) ⟨hown, hts _ hlink, ⟨_, _, _, hi⟩, hst⟩ (by rw [e3]; exact h6') hc e4 (by rw [hsl]; exact k2_hasslot (e5 k hkn)) rfl rfl hdg fin
  · rw [if_pos hfin] at hlay
    have hcf : m.cls = cf := by
      obtain ⟨_, _, c', _, _, _, -, -, hf', -, -, -, hown2, -⟩ := Cond.laysFinal_spec hlay
      have e1 : c' = cf := by have := hi.symm.trans hf'; simp at this; exact this.1.symm
      rw [hdecl] at hown2
      rw [← e1]; exact Option.some.inj (hown.symm.trans hown2)
    have h6' := u_fits hfc hkC hkind (Or.inr hlay) hi hd hn hfit
    exact W.putFinK hexec hb hown (hts _ hlink) hi hst hcf (hini hin1) (by rw [e3]; exact h6') hc e4 (by rw [hsl]; exact k2_hasslot (e5 k hkn)) rfl rfl hdg fin
end PMM
