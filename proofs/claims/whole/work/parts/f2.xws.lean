/-! A FRAME STEP BY STEP, with or without handlers -/
def xw (G : pm_G) (cal : pm_Cal) (own : String) (ini : Bool) (b : ByteArray) (ret : Option FieldType) (xt : List (Nat × Nat × Nat × Nat)) (KR : pm_E) (pc : Nat) (ls : List (Option Value)) (st : List Value) (S : pm_S) : Prop := ∃ (n : Nat) (r : pm_R) (S' : pm_S), pm_go G cal own ini b ret xt r S' n pc ls st S ∧ KR r S'
section XWS
variable {G : pm_G} {cal : pm_Cal} {own : String} {ini : Bool} {b : ByteArray} {ret : Option FieldType} {xt : List (Nat × Nat × Nat × Nat)} {KR : pm_E} {pc : Nat} {ls ls' : List (Option Value)} {st st' : List Value} {S S1 : pm_S} {ins : Instr} {len : Nat}
theorem xw_one (p' : Nat) (hd : decode b pc = .ok (ins, len)) (hs : ∀ (K : pm_K) (KR' : pm_E), K p' ls' st' S1 → pm_step G cal own ini b ret xt K KR' pc ls st S ins len) (k : xw G cal own ini b ret xt KR p' ls' st' S1) : xw G cal own ini b ret xt KR pc ls st S := by
  obtain ⟨n, r, S', h, hk⟩ := k
  exact ⟨n + 1, r, S', ⟨ins, len, hd, hs _ _ h⟩, hk⟩
theorem xw_end {r : pm_R} (hd : decode b pc = .ok (ins, len)) (hs : ∀ (K : pm_K) (KR' : pm_E), KR' r S1 → pm_step G cal own ini b ret xt K KR' pc ls st S ins len) (k : KR r S1) : xw G cal own ini b ret xt KR pc ls st S :=
  ⟨1, r, S1, ⟨ins, len, hd, hs _ _ ⟨rfl, rfl⟩⟩, k⟩
theorem xw_fn (p' : Nat) (hd : decode b pc = .ok (ins, len)) (hl : len = pm_len ins) (hq : pm_fn ins pc ls st = some (p', ls', st')) (k : xw G cal own ini b ret xt KR p' ls' st' S) : xw G cal own ini b ret xt KR pc ls st S :=
  xw_one p' hd (fun K KR' hk => by
    unfold pm_step
    split <;> first | exact ⟨hl, _, hq, hk⟩ | (simp [pm_fn] at hq)) k
theorem xw_goto (p' : Nat) {off : Int} (hd : decode b pc = .ok (.goto off, 3)) (ht : (pc : Int) + off = (p' : Int)) (k : xw G cal own ini b ret xt KR p' ls st S) : xw G cal own ini b ret xt KR pc ls st S :=
  xw_one p' hd (fun K KR' hk => ⟨rfl, p', ht, hk⟩) k
theorem xw_eq_t (p' : Nat) {off : Int} {x : Int32} {r : List Value} (hd : decode b pc = .ok (.ifCond .eq off, 3)) (ht : (pc : Int) + off = (p' : Int)) (hx : x = 0) (k : xw G cal own ini b ret xt KR p' ls r S) : xw G cal own ini b ret xt KR pc ls (.int x :: r) S :=
  xw_one p' hd (fun K KR' hk => ⟨rfl, x, r, p', rfl, ht, fun _ => hk, fun h => (h hx).elim⟩) k
theorem xw_eq_f (p' t : Nat) {off : Int} {x : Int32} {r : List Value} (hd : decode b pc = .ok (.ifCond .eq off, 3)) (ht : (pc : Int) + off = (t : Int)) (hp : pc + 3 = p') (hx : ¬ x = 0) (k : xw G cal own ini b ret xt KR p' ls r S) : xw G cal own ini b ret xt KR pc ls (.int x :: r) S := by
  subst hp
  exact xw_one _ hd (fun K KR' hk => ⟨rfl, x, r, t, rfl, ht, fun h => (hx h).elim, fun _ => hk⟩) k
theorem xw_ne_t (p' : Nat) {off : Int} {x : Int32} {r : List Value} (hd : decode b pc = .ok (.ifCond .ne off, 3)) (ht : (pc : Int) + off = (p' : Int)) (hx : ¬ x = 0) (k : xw G cal own ini b ret xt KR p' ls r S) : xw G cal own ini b ret xt KR pc ls (.int x :: r) S :=
  xw_one p' hd (fun K KR' hk => ⟨rfl, x, r, p', rfl, ht, fun _ => hk, fun h => (h hx).elim⟩) k
theorem xw_ne_f (p' t : Nat) {off : Int} {x : Int32} {r : List Value} (hd : decode b pc = .ok (.ifCond .ne off, 3)) (ht : (pc : Int) + off = (t : Int)) (hp : pc + 3 = p') (hx : x = 0) (k : xw G cal own ini b ret xt KR p' ls r S) : xw G cal own ini b ret xt KR pc ls (.int x :: r) S := by
  subst hp
  exact xw_one _ hd (fun K KR' hk => ⟨rfl, x, r, t, rfl, ht, fun h => (h hx).elim, fun _ => hk⟩) k
theorem xw_ceq_t (p' : Nat) {off : Int} {x y : Int32} {r : List Value} (hd : decode b pc = .ok (.if_icmp .eq off, 3)) (ht : (pc : Int) + off = (p' : Int)) (hx : x = y) (k : xw G cal own ini b ret xt KR p' ls r S) : xw G cal own ini b ret xt KR pc ls (.int y :: .int x :: r) S :=
  xw_one p' hd (fun K KR' hk => ⟨rfl, x, y, r, p', rfl, ht, fun _ => hk, fun h => (h hx).elim⟩) k
theorem xw_cgt_t (p' : Nat) {off : Int} {x y : Int32} {r : List Value} (hd : decode b pc = .ok (.if_icmp .gt off, 3)) (ht : (pc : Int) + off = (p' : Int)) (hx : y < x) (k : xw G cal own ini b ret xt KR p' ls r S) : xw G cal own ini b ret xt KR pc ls (.int y :: .int x :: r) S :=
  xw_one p' hd (fun K KR' hk => ⟨rfl, x, y, r, p', rfl, ht, fun _ => hk, fun h => (h hx).elim⟩) k
theorem xw_cgt_f (p' t : Nat) {off : Int} {x y : Int32} {r : List Value} (hd : decode b pc = .ok (.if_icmp .gt off, 3)) (ht : (pc : Int) + off = (t : Int)) (hp : pc + 3 = p') (hx : ¬ y < x) (k : xw G cal own ini b ret xt KR p' ls r S) : xw G cal own ini b ret xt KR pc ls (.int y :: .int x :: r) S := by
  subst hp
  exact xw_one _ hd (fun K KR' hk => ⟨rfl, x, y, r, t, rfl, ht, fun h => (hx h).elim, fun _ => hk⟩) k
theorem xw_ts (p' : Nat) {d lo hi off : Int} {offs : Array Int} {x : Int32} {r : List Value} (hd : decode b pc = .ok (.tableswitch d lo hi offs, len)) (h1 : lo ≤ x.toInt) (h2 : x.toInt ≤ hi) (ho : offs[(x.toInt - lo).toNat]? = some off) (ht : (pc : Int) + off = (p' : Int)) (k : xw G cal own ini b ret xt KR p' ls r S) : xw G cal own ini b ret xt KR pc ls (.int x :: r) S :=
  xw_one p' hd (fun K KR' hk => ⟨x, r, rfl, fun h => by omega, fun _ _ => ⟨off, p', ho, ht, hk⟩⟩) k
theorem xw_td (p' : Nat) {d lo hi : Int} {offs : Array Int} {x : Int32} {r : List Value} (hd : decode b pc = .ok (.tableswitch d lo hi offs, len)) (h1 : x.toInt < lo ∨ hi < x.toInt) (ht : (pc : Int) + d = (p' : Int)) (k : xw G cal own ini b ret xt KR p' ls r S) : xw G cal own ini b ret xt KR pc ls (.int x :: r) S :=
  xw_one p' hd (fun K KR' hk => ⟨x, r, rfl, fun _ => ⟨p', ht, hk⟩, fun h2 h3 => by omega⟩) k
theorem xw_iald (p' : Nat) {i : Int32} {a n : Nat} {w : Bool} {f : Nat → Value} {r : List Value} (hd : decode b pc = .ok (.iaload, 1)) (hp : pc + 1 = p') (hS : S.1 a = some (.inr (.int, w), n, f)) (hi : vp_in i n) (k : xw G cal own ini b ret xt KR p' ls (f i.toNatClampNeg :: r) S) : xw G cal own ini b ret xt KR pc ls (.int i :: .ref a :: r) S := by
  subst hp
  exact xw_one _ hd (fun K KR' hk => ⟨rfl, i, a, n, r, .int, w, f, rfl, hS, rfl, hi, hk⟩) k
theorem xw_lald (p' : Nat) {i : Int32} {a n : Nat} {w : Bool} {f : Nat → Value} {r : List Value} (hd : decode b pc = .ok (.laload, 1)) (hp : pc + 1 = p') (hS : S.1 a = some (.inr (.long, w), n, f)) (hi : vp_in i n) (k : xw G cal own ini b ret xt KR p' ls (f i.toNatClampNeg :: r) S) : xw G cal own ini b ret xt KR pc ls (.int i :: .ref a :: r) S := by
  subst hp
  exact xw_one _ hd (fun K KR' hk => ⟨rfl, i, a, n, r, .long, w, f, rfl, hS, rfl, hi, hk⟩) k
theorem xw_dald (p' : Nat) {i : Int32} {a n : Nat} {w : Bool} {f : Nat → Value} {r : List Value} (hd : decode b pc = .ok (.daload, 1)) (hp : pc + 1 = p') (hS : S.1 a = some (.inr (.double, w), n, f)) (hi : vp_in i n) (k : xw G cal own ini b ret xt KR p' ls (f i.toNatClampNeg :: r) S) : xw G cal own ini b ret xt KR pc ls (.int i :: .ref a :: r) S := by
  subst hp
  exact xw_one _ hd (fun K KR' hk => ⟨rfl, i, a, n, r, .double, w, f, rfl, hS, rfl, hi, hk⟩) k
theorem xw_last (p' : Nat) {v : Int64} {i : Int32} {a n : Nat} {f : Nat → Value} {r : List Value} (hd : decode b pc = .ok (.lastore, 1)) (hp : pc + 1 = p') (hS : S.1 a = some (.inr (.long, true), n, f)) (hi : vp_in i n) (k : xw G cal own ini b ret xt KR p' ls r (pm_up S.1 a (some (.inr (.long, true), n, pm_up f i.toNatClampNeg (.long v))), S.2)) : xw G cal own ini b ret xt KR pc ls (.long v :: .int i :: .ref a :: r) S := by
  subst hp
  exact xw_one _ hd (fun K KR' hk => ⟨rfl, .long v, .long v, i, a, n, r, .long, f, rfl, hS, ⟨rfl, ⟨v, rfl⟩, rfl⟩, hi, hk⟩) k
theorem xw_dast (p' : Nat) {v : UInt64} {i : Int32} {a n : Nat} {f : Nat → Value} {r : List Value} (hd : decode b pc = .ok (.dastore, 1)) (hp : pc + 1 = p') (hS : S.1 a = some (.inr (.double, true), n, f)) (hi : vp_in i n) (k : xw G cal own ini b ret xt KR p' ls r (pm_up S.1 a (some (.inr (.double, true), n, pm_up f i.toNatClampNeg (.double v))), S.2)) : xw G cal own ini b ret xt KR pc ls (.double v :: .int i :: .ref a :: r) S := by
  subst hp
  exact xw_one _ hd (fun K KR' hk => ⟨rfl, .double v, .double v, i, a, n, r, .double, f, rfl, hS, ⟨rfl, ⟨v, rfl⟩, rfl⟩, hi, hk⟩) k
theorem xw_alen (p' : Nat) {a n : Nat} {q : FieldType × Bool} {f : Nat → Value} {r : List Value} (hd : decode b pc = .ok (.arraylength, 1)) (hp : pc + 1 = p') (hS : S.1 a = some (.inr q, n, f)) (k : xw G cal own ini b ret xt KR p' ls (.int (Int32.ofNat n) :: r) S) : xw G cal own ini b ret xt KR pc ls (.ref a :: r) S := by
  subst hp
  exact xw_one _ hd (fun K KR' hk => ⟨rfl, a, n, r, q, f, rfl, hS, hk⟩) k
theorem xw_f2d (p' : Nat) {x : UInt32} {r : List Value} (hd : decode b pc = .ok (.f2d, 1)) (hp : pc + 1 = p') (hn : vf_n64 (FP.f2d x)) (k : xw G cal own ini b ret xt KR p' ls (.double (FP.f2d x) :: r) S) : xw G cal own ini b ret xt KR pc ls (.float x :: r) S := by
  subst hp
  exact xw_one _ hd (fun K KR' hk => ⟨rfl, x, r, rfl, hn, hk⟩) k
theorem xw_cv (p' : Nat) {idx : Nat} {y : MethodName} {As rest : List Value} {a ci n : Nat} {f : Nat → Value} {v : Option Value} (hd : decode b pc = .ok (.invokevirtual idx, 3)) (hp : pc + 3 = p') (hiv : pm_iv own idx y As.length) (hst : st = As.reverse ++ .ref a :: rest) (hw : pm_w8 rest) (hS : S.1 a = some (.inl ci, n, f)) (hc : pm_cnm ci = some y.cls) (hcal : cal false y (.ref a :: As) S (.inl v) S1) (k : xw G cal own ini b ret xt KR p' ls (v.toList ++ rest) S1) : xw G cal own ini b ret xt KR pc ls st S := by
  subst hp
  exact xw_one _ hd (fun K KR' hk => ⟨rfl, y, As, rest, a, ci, n, f, _, _, _, hiv, hst, hw, hS, hc, rfl, hcal, hk⟩) k
theorem xw_cx {r9 : pm_R} {idx : Nat} {y : MethodName} {As rest : List Value} {a ci n : Nat} {f : Nat → Value} {E : String} (hd : decode b pc = .ok (.invokevirtual idx, 3)) (hiv : pm_iv own idx y As.length) (hst : st = As.reverse ++ .ref a :: rest) (hw : pm_w8 rest) (hS : S.1 a = some (.inl ci, n, f)) (hc : pm_cnm ci = some y.cls) (hcal : cal false y (.ref a :: As) S (.inr E) S1) (hx : ∀ KR' : pm_E, KR' r9 S1 → pm_ex own b ret xt KR' pc ls.length E S1) (k : KR r9 S1) : xw G cal own ini b ret xt KR pc ls st S :=
  xw_end hd (fun K KR' hk => ⟨rfl, y, As, rest, a, ci, n, f, _, _, _, hiv, hst, hw, hS, hc, rfl, hcal, hx KR' hk⟩) k
theorem xw_cs (p' : Nat) {fl : Bool} {idx : Nat} {y : MethodName} {As rest : List Value} {v : Option Value} (hd : decode b pc = .ok (.invokestatic idx, 3)) (hp : pc + 3 = p') (his : pm_is own idx y As.length) (hfl : Cond.methodLink own idx y ∈ pm_W) (hst : st = As.reverse ++ rest) (hw : pm_w8 rest) (hcal : cal fl y As S (.inl v) S1) (k : xw G cal own ini b ret xt KR p' ls (v.toList ++ rest) S1) : xw G cal own ini b ret xt KR pc ls st S := by
  subst hp
  exact xw_one _ hd (fun K KR' hk => ⟨rfl, Or.inr ⟨fl, y, As, rest, _, _, his, fun _ => hfl, hst, hw, hcal, hk⟩⟩) k
theorem xw_iret {v : Int32} {ty : FieldType} (hd : decode b pc = .ok (.ireturn, 1)) (hr : ret = some ty) (hn : narrow ty (.int v) = .int v) (k : KR (.inl (some (.int v))) S) : xw G cal own ini b ret xt KR pc ls [.int v] S :=
  xw_end hd (fun K KR' hk => ⟨rfl, v, ty, rfl, hr, hn, hk⟩) k
/-- fewer known locals -/
theorem xw_weak (hl : px_le ls ls') (k : xw G cal own ini b ret [] KR pc ls' st S) : xw G cal own ini b ret [] KR pc ls st S := px_weak k hl
end XWS
/-! methods with handlers -/
def pt_h (y : MethodName) (b : ByteArray) (maxL : Nat) (ret : Option FieldType) (xt : List (Nat × Nat × Nat × Nat)) (i j : Nat) : Bool := pt_w i (.codeWith y b maxL ret xt) && plainName y.cls && pt_w j (.initialized y.cls) && decide (maxL ≤ 40)
theorem pt_h_ok {y : MethodName} {b : ByteArray} {maxL : Nat} {ret : Option FieldType} {xt : List (Nat × Nat × Nat × Nat)} (i j : Nat) (h : pt_h y b maxL ret xt i j = true) : pm_mh y b maxL ret xt := by
  simp only [pt_h, Bool.and_eq_true, decide_eq_true_eq] at h
  exact ⟨pt_w_in h.1.1.1, h.1.1.2, pt_w_in h.1.2, h.2⟩
def pt_iv (own : String) (idx : Nat) (y : MethodName) (n i j k : Nat) : Bool := pt_w i (.methodLink own idx y) && pt_w j (.instanceMethod y) && pt_w k (.selects y.cls y y) && pt_na y n
theorem pt_iv_ok {own : String} {idx : Nat} {y : MethodName} {n : Nat} (i j k : Nat) (h : pt_iv own idx y n i j k = true) : pm_iv own idx y n := by
  simp only [pt_iv, Bool.and_eq_true] at h
  exact ⟨pt_w_in h.1.1.1, pt_w_in h.1.1.2, pt_w_in h.1.2, pt_na_ok h.2⟩
def pt_is (own : String) (idx : Nat) (y : MethodName) (n i j : Nat) : Bool := pt_w i (.methodLink own idx y) && pt_w j (.static y) && pt_na y n
theorem pt_is_ok {own : String} {idx : Nat} {y : MethodName} {n : Nat} (i j : Nat) (h : pt_is own idx y n i j = true) : pm_is own idx y n ∧ Cond.methodLink own idx y ∈ pm_W := by
  simp only [pt_is, Bool.and_eq_true] at h
  exact ⟨⟨Or.inl (pt_w_in h.1.1), pt_w_in h.1.2, pt_na_ok h.2⟩, pt_w_in h.1.1⟩
theorem lk_27 : Cond.classLink RL 27 pm_xB ∈ pm_W := pt_w_in (i := 1064) (by decide +kernel)
theorem lk_18 : Cond.classLink RL 18 pm_xA ∈ pm_W := pt_w_in (i := 1029) (by decide +kernel)
theorem lk_13 : Cond.classLink RL 13 pm_xI ∈ pm_W := pt_w_in (i := 950) (by decide +kernel)
theorem cb_27 : Cond.castable pm_xB pm_xB ∈ lw_tbl := pt_in (i := 1076) (by decide +kernel)
theorem cb_18 : Cond.castable pm_xA pm_xA ∈ lw_tbl := pt_in (i := 1037) (by decide +kernel)
theorem cb_13 : Cond.castable pm_xI pm_xI ∈ lw_tbl := pt_in (i := 961) (by decide +kernel)
theorem in_0 : vp_in (Int32.ofInt 0) 1 := px_inb_in (by decide)
theorem in_0n : (Int32.ofInt 0).toNatClampNeg = 0 := by decide
/-- a wrapper's run -/
theorem xw_ruh {G : pm_G} {d : Nat} {y : MethodName} {b : ByteArray} {maxL : Nat} {ret : Option FieldType} {xt : List (Nat × Nat × Nat × Nat)} {as : List Value} {S S' : pm_S} {v : Option Value} (hm : pm_mh y b maxL ret xt) (hl : Nat.ble as.length maxL = true) (hd : as.all pm_dp = true)
    (h : xw G (pm_run G d) y.cls (decide (y.name = "<init>")) b ret xt (fun r1 S1 => r1 = .inl v ∧ S1 = S') 0 (pm_ent as maxL) [] S) : pm_ruh G d y as S v S' := by
  obtain ⟨n, r1, S1, hg, rfl, rfl⟩ := h
  exact ⟨b, maxL, ret, xt, hm, Nat.le_of_ble_eq_true hl, fun v hv => List.all_eq_true.mp hd v hv, n, hg⟩
theorem ex_put {X M : pm_M} {z : Option Nat × Nat × Nat} {o : Nat} {c : pm_C} (h : M o = none) : (pm_up (exS X (M, z)).1 o (some c), (exS X (M, z)).2) = exS (pm_up X o (some c)) (M, z) := by
  unfold exS
  dsimp only
  congr 1
  funext j
  unfold exM pm_up
  by_cases e : j = o
  · subst e
    rw [if_pos rfl, h, if_pos rfl]
  · rw [if_neg e]
    dsimp only
    cases M j with
    | none => exact (if_neg e).symm
    | some c => rfl
