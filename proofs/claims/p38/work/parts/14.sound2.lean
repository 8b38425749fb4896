/-! frames and methods run as the machine does -/
section PMU
variable {p : Program} {l : Launch} {e : Env} {R : Room} {s : State} {m : MethodId} {args : Array Value} {below : List Frame} {meth : Method} {c : Code} {Q : State → Prop} {cc : ByteArray} {G : pm_G} {nL c0 s0 : Nat}
variable {cal : pm_Cal} {own : String} {ini : Bool} {ret : Option FieldType} {xt : List (Nat × Nat × Nat × Nat)} {d : Nat} {r : pm_R} {S' : pm_S}
theorem pw_go (X : CallFix p m c cc nL s args pm_W own) (hT : pm_T G s s.heap) (hini : ini = true → meth.name = "<init>") (hxt : xt ≠ [] → c.exceptionTable.toList.map (fun h => (h.startPc, h.endPc, h.handlerPc, h.catchType)) = xt)
    (hR : d + 13 ≤ R.frames ∧ 64 * d + 464 ≤ R.locals)
    (hcal : ∀ (fl : Bool) (y : MethodName) (as : List Value) (S : pm_S) (r : pm_R) (S1 : pm_S), cal fl y as S r S1 → S.2.2.1 ≤ S1.2.2.1 ∧ S.2.2.2 ≤ S1.2.2.2 ∧ (pm_cd l G d y as S r S1 ∨ (fl = true ∧ ∃ v, r = .inl v ∧ pm_cdh l G d y as S v S1)))
    (hB : S'.2.2.1 ≤ c0 + R.cells ∧ S'.2.2.2 ≤ s0 + R.slots)
    (hKR : ∀ (pc : Nat) (ls : List (Option Value)) (st : List Value) (S : pm_S) (ins : Instr), decode cc pc = .ok (ins, 1) → pm_rt ret (fun r1 S1 => r1 = r ∧ S1 = S') st S ins → pm_V p l e R s m args below meth c Q G nL c0 s0 pc ls st S)
    (hKX : ∀ (E : String) (S : pm_S) (pc : Nat) (ls : List (Option Value)) (rest : List Value), xt = [] → (.inr E = r ∧ S = S') → pm_VX p l e R s m args below meth c Q G nL c0 s0 pc ls rest E S)
    (hKN : ∀ (pc : Nat) (ls : List (Option Value)) (st : List Value) (S : pm_S) (idx ia ic : Nat) (E : String), decode cc pc = .ok (.new idx, 3) → pm_tr own idx ia ic E → xt = [] → pm_w8 st → decode cc (pc + 3) = .ok (.dup, 1) →
       ((decode cc (pc + 4) = .ok (.ldc ia, 2) ∧ decode cc (pc + 6) = .ok (.invokespecial ic, 3) ∧ decode cc (pc + 9) = .ok (.athrow, 1)) ∨ (decode cc (pc + 4) = .ok (.ldc_w ia, 3) ∧ decode cc (pc + 7) = .ok (.invokespecial ic, 3) ∧ decode cc (pc + 10) = .ok (.athrow, 1))) → (.inr E = r ∧ (S.1, none, S.2.2.1 + 1, S.2.2.2 + 6) = S') → pm_V p l e R s m args below meth c Q G nL c0 s0 pc ls st S) :
    ∀ (n pc : Nat) (ls : List (Option Value)) (st : List Value) (S : pm_S), pm_go G cal own ini cc ret xt r S' n pc ls st S → pm_V p l e R s m args below meth c Q G nL c0 s0 pc ls st S := by
  have hle := fun fl y as S r S1 h => (⟨(hcal fl y as S r S1 h).1, (hcal fl y as S r S1 h).2.1⟩ : S.2.2.1 ≤ S1.2.2.1 ∧ S.2.2.2 ≤ S1.2.2.2)
  intro n
  induction n with
  | zero => exact fun _ _ _ _ h => h.elim
  | succ n ih =>
    intro pc ls st S h
    obtain ⟨ins, len, hdg, h⟩ := h
    refine pw_step X hT hini hxt hR hcal (fun pc ls st S hk => ?_) (fun r1 S1 e => by rw [e.2]; exact hB) hKR hKX hKN hdg h
    have h9 := pm_go_le hle n _ _ _ _ hk
    exact ⟨Nat.le_trans h9.1 hB.1, Nat.le_trans h9.2 hB.2, ih _ _ _ _ hk⟩
theorem pm_sl_one {as : List Value} (h : ∀ v ∈ as, pm_dp v = true) : lg_sl as = as.map Slot.val := by
  induction as with
  | nil => rfl
  | cons v t ih =>
    have h1 := pm_dp_cat (h v List.mem_cons_self)
    have h2 := ih (fun w hw => h w (List.mem_cons_of_mem _ hw))
    unfold lg_sl at h2 ⊢
    rw [List.flatMap_cons, h2, if_neg (by omega)]
    rfl
theorem pm_args_one : ∀ {as : List Value} (i : Nat), (∀ v ∈ as, pm_dp v = true) → ∀ {k : Nat} {v : Value}, as[k]? = some v → (i + k, v) ∈ lv_args i as
  | [], _, _, _, _, h => by simp at h
  | w :: t, i, hd, k, v, h => by
    have h1 := pm_dp_cat (hd w List.mem_cons_self)
    unfold lv_args
    cases k with
    | zero =>
      simp at h
      rw [h]
      exact List.mem_cons_self
    | succ k =>
      rw [List.getElem?_cons_succ] at h
      rw [if_neg (by omega)]
      have h2 := pm_args_one (i + 1) (fun x hx => hd x (List.mem_cons_of_mem _ hx)) h
      rw [show i + (k + 1) = i + 1 + k by omega]
      exact List.mem_cons_of_mem _ h2
theorem pm_entry {as : List Value} {maxL : Nat} (hlen : as.length ≤ maxL) (hd : ∀ v ∈ as, pm_dp v = true) : pm_L ((lg_sl as ++ List.replicate (maxL - (lg_sl as).length) Slot.unset).toArray) maxL (pm_ent as maxL) := by
  have hl : (lg_sl as).length = as.length := by rw [pm_sl_one hd, List.length_map]
  have h := lv_entry as (n := maxL) (by rw [hl]; exact hlen)
  refine ⟨h.1, by simp [pm_ent]; omega, h.2.1, fun i v hi => ?_⟩
  have hi2 : as[i]? = some v := by
    unfold pm_ent at hi
    rw [List.getElem?_append] at hi
    split at hi
    · rw [List.getElem?_map] at hi
      cases hx : as[i]? with
      | none => rw [hx] at hi; cases hi
      | some w => rw [hx] at hi; cases hi; rfl
    · rw [List.getElem?_replicate] at hi
      split at hi <;> cases hi
  have h2 := pm_args_one 0 hd hi2
  rw [Nat.zero_add] at h2
  exact h.2.2 (i, v) h2
theorem pm_ok_kept {U : State} {M : pm_M} {H H1 : Heap} (h : pm_ok G U M H) (hq : ∀ q : Nat, q < H.size → H1[q]? = H[q]?) : pm_ok G U M H1 := by
  intro a ce hce
  obtain ⟨⟨cell, h1, h2⟩, h3⟩ := h a ce hce
  exact ⟨⟨cell, (hq a (Array.getElem?_eq_some_iff.mp h1).1).trans h1, h2⟩, h3⟩
theorem pm_B_of {S : pm_S} {H : Heap} {locs : List Loc} (h1 : pm_ok G s S.1 H) (h2 : pm_nx S H) (h3 : va_S (pm_A G) s.heap H locs) (t : State) (ht : t.heap = H) (hvm : s.vm.Alike t.vm) : pm_B G S s t :=
  ⟨by rw [ht]; exact pm_ok_moved hvm h1, by rw [ht]; exact h2, by rw [ht]; exact h3.1, by rw [ht]; exact h3.2.1⟩
theorem pm_names_fit : ∀ n ∈ pm_ns, Bundle.fit n = true := by decide +kernel
theorem pm_hat {ik ia ic : Nat} {E : String} (hts : ∀ w ∈ pm_W, w.before args s = true) (hT : pm_T G s s.heap) (h : pm_tr own ik ia ic E) : (∀ w ∈ vx_atS own ic E pm_ns, w.before args s = true) ∧ ∀ w ∈ Cond.classLink own ik E :: Cond.initialized E :: vx_atS own ic E pm_ns, vx_ot w = true := by
  obtain ⟨-, -, -, h1, h2, -⟩ := h
  have hon : ∀ w, pm_mv w = true → w.onTables = true := by
    intro w hw
    cases w <;> first | rfl | (simp [pm_mv] at hw)
  refine ⟨fun w hw => ?_, fun w hw => ?_⟩
  · have g := h2 w hw
    by_cases q : goodWord w = true
    · exact hts w (List.mem_filter.mpr ⟨h1 w hw, q⟩)
    · have q2 : pm_mv w = true := by
        cases hg : goodWord w
        · rw [hg] at g
          simpa using g
        · exact absurd hg q
      exact va_Nw.use (hon w q2) (hT.2.2.2.2.2.1 w (h1 w hw) q2)
  · rcases List.mem_cons.mp hw with rfl | hw
    · rfl
    · rcases List.mem_cons.mp hw with rfl | hw
      · rfl
      · have g := h2 w hw
        unfold vx_ot
        rw [Bool.or_eq_true] at g ⊢
        rcases g with g | g
        · exact Or.inr g
        · exact Or.inl (hon w g)
end PMU
