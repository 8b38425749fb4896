/-! the pure machine: all steps, a frame's run, a method's run -/
def pm_kc (ci : Nat) (C : String) (T : u_T) (N : Nat) : Prop := pm_cl[ci]? = some (C, T, N) ∧ (∀ w ∈ u_ws C T N, w ∈ pm_W) ∧ (∃ ty : Nat → FieldType, ∀ k, k < N → parseFieldDescriptor (T k).2.2.1 = some (ty k)) ∧ ∀ a, a < N → ∀ b, b < N → a ≠ b → (T a).2.1 ≠ (T b).2.1
/-- the reference idx in own is to field k, of type ty, of class ci -/
def pm_frO (own : String) (idx ci k : Nat) (ty : FieldType) : Prop := ∃ (C : String) (T : u_T) (N : Nat), pm_kc ci C T N ∧ k < N ∧ parseFieldDescriptor (T k).2.2.1 = some ty ∧ Cond.fieldLink own idx (T k).1 (T k).2.1 (T k).2.2.1 ∈ pm_W
def pm_fr (own : String) (idx ci k : Nat) (ty : FieldType) : Prop := pm_frO own idx ci k ty ∨ (ci = 13 ∧ ((k = 0 ∧ Cond.fieldLink own idx "java/lang/String" "value" "[B" ∈ pm_W) ∨ (k = 1 ∧ Cond.fieldLink own idx "java/lang/String" "coder" "B" ∈ pm_W)))
/-- the field may be written: not final, or by the constructor of its class -/
def pm_fi (own : String) (ci k : Nat) (ini : Bool) : Prop := ci < 13 ∧ ∃ (C : String) (T : u_T) (N : Nat), pm_cl[ci]? = some (C, T, N) ∧ ((T k).2.2.2 = false ∨ (ini = true ∧ (T k).2.2.2 = true ∧ (T k).1 = own))
def pm_na (y : MethodName) (n : Nat) : Prop := y.cls ≠ "java/lang/invoke/MethodHandle" ∧ y.cls ≠ "java/lang/invoke/VarHandle" ∧ (parseMethodDescriptor y.desc).map (fun d => d.parameters.length) = some n
def pm_iv (own : String) (idx : Nat) (y : MethodName) (n : Nat) : Prop := Cond.methodLink own idx y ∈ pm_W ∧ Cond.instanceMethod y ∈ pm_W ∧ Cond.selects y.cls y y ∈ pm_W ∧ pm_na y n
def pm_is (own : String) (idx : Nat) (y : MethodName) (n : Nat) : Prop := (Cond.methodLink own idx y ∈ pm_W ∨ ∃ host, Cond.methodLinkNest own idx y host ∈ lw_tbl) ∧ Cond.static y ∈ pm_W ∧ pm_na y n
def pm_ii (own : String) (idx : Nat) (y : MethodName) (n : Nat) : Prop := (Cond.methodLink own idx y ∈ pm_W ∨ ∃ host, Cond.methodLinkNest own idx y host ∈ lw_tbl) ∧ Cond.instanceMethod y ∈ pm_W ∧ y.name = "<init>" ∧ pm_na y n
def pm_io (own : String) (idx : Nat) : Prop := Cond.methodLink own idx objectInit ∈ pm_W ∧ Cond.instanceMethod objectInit ∈ pm_W ∧ Cond.code objectInit ⟨#[0xb1]⟩ 1 none ∈ pm_W
/-- Math.max (true), Math.min -/
def pm_mn (mx : Bool) : MethodName := bif mx then Lib.Math.max.name else Lib.Math.min.name
def pm_ma (own : String) (idx : Nat) (mx : Bool) : Prop := Cond.methodLink own idx (pm_mn mx) ∈ pm_W ∧ Cond.static (pm_mn mx) ∈ pm_W ∧ Cond.initialized "java/lang/Math" ∈ pm_W ∧ Cond.code (pm_mn mx) (bif mx then Lib.Math.max.code else Lib.Math.min.code) 2 (some .int) ∈ pm_W
def pm_mm (mx : Bool) (x y : Int32) : Int32 := bif mx then (if x < y then y else x) else (if y < x then y else x)
/-- a method: its code, its locals, what it answers -/
def pm_mt (y : MethodName) (b : ByteArray) (maxL : Nat) (ret : Option FieldType) : Prop := Cond.code y b maxL ret ∈ pm_W ∧ plainName y.cls = true ∧ Cond.initialized y.cls ∈ pm_W ∧ maxL ≤ 40
/-- a method with a table of handlers -/
def pm_mh (y : MethodName) (b : ByteArray) (maxL : Nat) (ret : Option FieldType) (xt : List (Nat × Nat × Nat × Nat)) : Prop := Cond.codeWith y b maxL ret xt ∈ pm_W ∧ plainName y.cls = true ∧ Cond.initialized y.cls ∈ pm_W ∧ maxL ≤ 40
def pm_ns : List String := ["java/lang/RuntimeException", "java/lang/Exception"]
/-- new E(text), thrown: the references -/
def pm_tr (own : String) (ik ia ic : Nat) (E : String) : Prop := (∃ tx, Cond.stringRef own ia tx ∈ lw_tbl) ∧ Cond.classLink own ik E ∈ pm_W ∧ Cond.initialized E ∈ pm_W ∧ (∀ w ∈ vx_atS own ic E pm_ns, w ∈ lw_tbl) ∧ (∀ w ∈ vx_atS own ic E pm_ns, (goodWord w || pm_mv w) = true) ∧ Bundle.fit E = true ∧ E ∈ [pm_xI, pm_xA, pm_xB]
def pm_ct (z : Nat × Nat × Nat × Nat) (pc : Nat) : Bool := decide (z.1 ≤ pc) && decide (pc < z.2.1)
abbrev pm_K : Type := Nat → List (Option Value) → List Value → pm_S → Prop
abbrev pm_E : Type := pm_R → pm_S → Prop
def pm_rf (ty : FieldType) : Prop := (∃ n, ty = .object n) ∨ ∃ t, ty = .array t
/-- a frame's end by a return -/
def pm_rt (ret : Option FieldType) (KR : pm_E) (st : List Value) (S : pm_S) (ins : Instr) : Prop := match ins with
  | .ireturn => ∃ (v : Int32) (ty : FieldType), st = [.int v] ∧ ret = some ty ∧ narrow ty (.int v) = .int v ∧ KR (.inl (some (.int v))) S
  | .return_ => st = [] ∧ ret = none ∧ KR (.inl none) S
  | .areturn => ∃ (a : Nat) (ty : FieldType), st = [.ref a] ∧ ret = some ty ∧ pm_rf ty ∧ KR (.inl (some (.ref a))) S
  | .freturn => ∃ v : UInt32, st = [.float v] ∧ ret = some .float ∧ KR (.inl (some (.float v))) S
  | .dreturn => ∃ v : UInt64, st = [.double v] ∧ ret = some .double ∧ KR (.inl (some (.double v))) S
  | _ => False
/-- an exception of class E is under way at pc -/
def pm_ex (own : String) (cc : ByteArray) (ret : Option FieldType) (xt : List (Nat × Nat × Nat × Nat)) (KR : pm_E) (pc nL : Nat) (E : String) (S : pm_S) : Prop :=
  (xt = [] ∧ KR (.inr E) S) ∨
  ∃ (pre suf : List (Nat × Nat × Nat × Nat)) (z : Nat × Nat × Nat × Nat) (nm : String) (v : Int), xt = pre ++ z :: suf ∧
    (∀ q ∈ pre, pm_ct q pc = false ∨ (q.2.2.2 ≠ 0 ∧ ∃ n9, Cond.classLink own q.2.2.2 n9 ∈ pm_W ∧ E ≠ n9 ∧ n9 ∈ [pm_xI, pm_xA, pm_xB])) ∧ pm_ct z pc = true ∧ z.2.2.2 ≠ 0 ∧ Cond.classLink own z.2.2.2 nm ∈ pm_W ∧ Cond.castable E nm ∈ lw_tbl ∧ E ∈ [pm_xI, pm_xA, pm_xB] ∧
    ((∃ k : Fin 4, (k : Nat) < nL ∧ decode cc z.2.2.1 = .ok (.astore_n k, 1) ∧ decode cc (z.2.2.1 + 1) = .ok (.bipush v, 2) ∧ decode cc (z.2.2.1 + 3) = .ok (.ireturn, 1)) ∨
     (∃ k : Nat, k < nL ∧ decode cc z.2.2.1 = .ok (.astore k, 2) ∧ decode cc (z.2.2.1 + 2) = .ok (.bipush v, 2) ∧ decode cc (z.2.2.1 + 4) = .ok (.ireturn, 1))) ∧
    pm_rt ret KR [.int (Int8.ofInt v).toInt32] S .ireturn
/-- the callee may (true) or may not (false) have a table of handlers -/
abbrev pm_Cal : Type := Bool → MethodName → List Value → pm_S → pm_R → pm_S → Prop
/-- a call's end -/
def pm_cb (own : String) (cc : ByteArray) (ret : Option FieldType) (xt : List (Nat × Nat × Nat × Nat)) (K : pm_K) (KR : pm_E) (pc : Nat) (ls : List (Option Value)) (rest : List Value) (r : pm_R) (S : pm_S) : Prop := match r with
  | .inl v => K (pc + 3) ls (v.toList ++ rest) S
  | .inr E => pm_ex own cc ret xt KR pc ls.length E S
def pm_w8 (rest : List Value) : Prop := (rest.map fun v => v.category).sum ≤ 8
/-- a branch -/
def pm_br (P : Prop) (K : pm_K) (pc t : Nat) (ls : List (Option Value)) (r : List Value) (S : pm_S) : Prop := (P → K t ls r S) ∧ (¬ P → K (pc + 3) ls r S)
/-- an array's element is read -/
def pm_rd (ok : FieldType → Prop) (K : pm_K) (pc : Nat) (ls : List (Option Value)) (st : List Value) (S : pm_S) : Prop :=
  ∃ (i : Int32) (a n : Nat) (r : List Value) (ty : FieldType) (w : Bool) (f : Nat → Value), st = .int i :: .ref a :: r ∧ S.1 a = some (.inr (ty, w), n, f) ∧ ok ty ∧ vp_in i n ∧ K (pc + 1) ls (f i.toNatClampNeg :: r) S
/-- .. is written -/
def pm_wt (ok : FieldType → Value → Value → Prop) (K : pm_K) (pc : Nat) (ls : List (Option Value)) (st : List Value) (S : pm_S) : Prop :=
  ∃ (v v' : Value) (i : Int32) (a n : Nat) (r : List Value) (ty : FieldType) (f : Nat → Value), st = v :: .int i :: .ref a :: r ∧ S.1 a = some (.inr (ty, true), n, f) ∧ ok ty v v' ∧ vp_in i n ∧ K (pc + 1) ls r (pm_up S.1 a (some (.inr (ty, true), n, pm_up f i.toNatClampNeg v')), S.2)
/-- a new cell -/
def pm_new (S : pm_S) (h : Nat) (ce : pm_C) : pm_S := (pm_up S.1 h (some ce), some (h + 1), S.2.2.1 + 1, S.2.2.2 + ce.2.1)
def pm_step (G : pm_G) (cal : pm_Cal) (own : String) (ini : Bool) (cc : ByteArray) (ret : Option FieldType) (xt : List (Nat × Nat × Nat × Nat)) (K : pm_K) (KR : pm_E) (pc : Nat) (ls : List (Option Value)) (st : List Value) (S : pm_S) (ins : Instr) (len : Nat) : Prop := match ins with
  | .goto off => len = 3 ∧ ∃ t : Nat, (pc : Int) + off = (t : Int) ∧ K t ls st S
  | .ifCond op off => len = 3 ∧ ∃ (x : Int32) (r : List Value) (t : Nat), st = .int x :: r ∧ (pc : Int) + off = (t : Int) ∧ match op with
    | .eq => pm_br (x = 0) K pc t ls r S
    | .ne => pm_br (¬ x = 0) K pc t ls r S
    | .lt => pm_br (x < 0) K pc t ls r S
    | .ge => pm_br (0 ≤ x) K pc t ls r S
    | .gt => pm_br (0 < x) K pc t ls r S
    | .le => pm_br (x ≤ 0) K pc t ls r S
  | .if_icmp op off => len = 3 ∧ ∃ (x y : Int32) (r : List Value) (t : Nat), st = .int y :: .int x :: r ∧ (pc : Int) + off = (t : Int) ∧ match op with
    | .eq => pm_br (x = y) K pc t ls r S
    | .ne => pm_br (¬ x = y) K pc t ls r S
    | .lt => pm_br (x < y) K pc t ls r S
    | .ge => pm_br (y ≤ x) K pc t ls r S
    | .gt => pm_br (y < x) K pc t ls r S
    | .le => pm_br (x ≤ y) K pc t ls r S
  | .tableswitch d lo hi offs => ∃ (x : Int32) (r : List Value), st = .int x :: r ∧ (((x.toInt < lo ∨ hi < x.toInt) → ∃ t : Nat, (pc : Int) + d = (t : Int) ∧ K t ls r S) ∧ (¬ x.toInt < lo → ¬ hi < x.toInt → ∃ (off : Int) (t : Nat), offs[(x.toInt - lo).toNat]? = some off ∧ (pc : Int) + off = (t : Int) ∧ K t ls r S))
  | .lookupswitch d ps => ∃ (x : Int32) (r : List Value) (t : Nat), st = .int x :: r ∧ (ps.toList.zip (ps.toList.drop 1)).all (fun (a, next) => a.1 < next.1) = true ∧ (pc : Int) + Op.lookupswitch.offset ps.toList d x.toInt = (t : Int) ∧ K t ls r S
  | .ldc idx => len = 2 ∧ ((∃ v : Int32, Cond.constant own idx v ∈ pm_W ∧ K (pc + 2) ls (.int v :: st) S) ∨ (∃ tx, Cond.stringRef own idx tx ∈ lw_tbl ∧ K (pc + 2) ls (.ref (G.2.2.2 own idx) :: st) S))
  | .ldc2_w idx => len = 3 ∧ ((∃ v : Int64, Cond.constantLong own idx v ∈ pm_W ∧ K (pc + 3) ls (.long v :: st) S) ∨ (∃ v : UInt64, Cond.constantDouble own idx v ∈ pm_W ∧ K (pc + 3) ls (.double v :: st) S))
  | .getstatic idx => len = 3 ∧ ∃ (C n d : String), Cond.fieldLink own idx C n d ∈ pm_W ∧ False ∧ K (pc + 3) ls (G.2.2.1 C n :: st) S
  | .irem => len = 1 ∧ ∃ (x y : Int32) (r : List Value), st = .int y :: .int x :: r ∧ ¬ y = 0 ∧ K (pc + 1) ls (.int (x - x / y * y) :: r) S
  | .idiv => len = 1 ∧ ∃ (x y : Int32) (r : List Value), st = .int y :: .int x :: r ∧ ¬ y = 0 ∧ K (pc + 1) ls (.int (x / y) :: r) S
  | .fdiv => len = 1 ∧ ∃ (x y : UInt32) (r : List Value), st = .float y :: .float x :: r ∧ vf_n32 (FP.fdiv x y) ∧ K (pc + 1) ls (.float (FP.fdiv x y) :: r) S
  | .ddiv => len = 1 ∧ ∃ (x y : UInt64) (r : List Value), st = .double y :: .double x :: r ∧ vf_n64 (FP.ddiv x y) ∧ K (pc + 1) ls (.double (FP.ddiv x y) :: r) S
  | .f2d => len = 1 ∧ ∃ (x : UInt32) (r : List Value), st = .float x :: r ∧ vf_n64 (FP.f2d x) ∧ K (pc + 1) ls (.double (FP.f2d x) :: r) S
  | .iaload => len = 1 ∧ pm_rd (fun ty => ty = .int) K pc ls st S
  | .baload => len = 1 ∧ pm_rd (fun ty => ty = .byte ∨ ty = .boolean) K pc ls st S
  | .laload => len = 1 ∧ pm_rd (fun ty => ty = .long) K pc ls st S
  | .daload => len = 1 ∧ pm_rd (fun ty => ty = .double) K pc ls st S
  | .aaload => len = 1 ∧ pm_rd (fun ty => ∃ C, ty = .object C) K pc ls st S
  | .iastore => len = 1 ∧ pm_wt (fun ty v v' => ty = .int ∧ (∃ x : Int32, v = .int x) ∧ v' = v) K pc ls st S
  | .bastore => len = 1 ∧ pm_wt (fun ty v v' => (ty = .byte ∨ ty = .boolean) ∧ (∃ x : Int32, v = .int x) ∧ v' = narrow ty v) K pc ls st S
  | .lastore => len = 1 ∧ pm_wt (fun ty v v' => ty = .long ∧ (∃ x : Int64, v = .long x) ∧ v' = v) K pc ls st S
  | .dastore => len = 1 ∧ pm_wt (fun ty v v' => ty = .double ∧ (∃ x : UInt64, v = .double x) ∧ v' = v) K pc ls st S
  | .aastore => len = 1 ∧ pm_wt (fun ty v v' => (∃ (b ci n : Nat) (f : Nat → Value) (r : vw_C), v = .ref b ∧ S.1 b = some (.inl ci, n, f) ∧ pm_cl[ci]? = some r ∧ ty = .object r.1) ∧ v' = v) K pc ls st S
  | .arraylength => len = 1 ∧ ∃ (a n : Nat) (r : List Value) (q : FieldType × Bool) (f : Nat → Value), st = .ref a :: r ∧ S.1 a = some (.inr q, n, f) ∧ K (pc + 1) ls (.int (Int32.ofNat n) :: r) S
  | .newarray at9 => len = 2 ∧ ∃ (n : Int32) (r : List Value) (h : Nat), st = .int n :: r ∧ ¬ n < 0 ∧ n.toNatClampNeg * componentBytes (newarray.typeOf at9) ≤ 536870912 ∧ Cond.arrayClass (newarray.typeOf at9) ∈ pm_W ∧ S.2.1 = some h ∧ K (pc + 2) ls (.ref h :: r) (pm_new S h (.inr (newarray.typeOf at9, true), n.toNatClampNeg, fun _ => defaultValue (newarray.typeOf at9)))
  | .anewarray idx => len = 3 ∧ ∃ (C : String) (n : Int32) (r : List Value) (h : Nat), st = .int n :: r ∧ ¬ n < 0 ∧ n.toNatClampNeg * 4 ≤ 536870912 ∧ Cond.classLink own idx C ∈ pm_W ∧ Cond.arrayOver (.object C) ∈ lw_tbl ∧ S.2.1 = some h ∧ K (pc + 3) ls (.ref h :: r) (pm_new S h (.inr (.object C, true), n.toNatClampNeg, fun _ => .null))
  | .new idx => len = 3 ∧
    ((∃ (ci : Nat) (C : String) (T : u_T) (N h : Nat) (ty : Nat → FieldType), pm_kc ci C T N ∧ ci < 13 ∧ (∀ k, k < N → parseFieldDescriptor (T k).2.2.1 = some (ty k)) ∧ Cond.classLink own idx C ∈ pm_W ∧ Cond.instantiable C N ∈ pm_W ∧ Cond.initialized C ∈ pm_W ∧ S.2.1 = some h ∧ K (pc + 3) ls (.ref h :: st) (pm_new S h (.inl ci, N, fun k => defaultValue (ty k)))) ∨
     (∃ (ia ic : Nat) (E : String), pm_tr own idx ia ic E ∧ xt = [] ∧ pm_w8 st ∧ decode cc (pc + 3) = .ok (.dup, 1) ∧
       ((decode cc (pc + 4) = .ok (.ldc ia, 2) ∧ decode cc (pc + 6) = .ok (.invokespecial ic, 3) ∧ decode cc (pc + 9) = .ok (.athrow, 1)) ∨ (decode cc (pc + 4) = .ok (.ldc_w ia, 3) ∧ decode cc (pc + 7) = .ok (.invokespecial ic, 3) ∧ decode cc (pc + 10) = .ok (.athrow, 1))) ∧
       KR (.inr E) (S.1, none, S.2.2.1 + 1, S.2.2.2 + 6)))
  | .getfield idx => len = 3 ∧ ∃ (ci k : Nat) (ty : FieldType) (a n : Nat) (r : List Value) (f : Nat → Value), st = .ref a :: r ∧ pm_fr own idx ci k ty ∧ S.1 a = some (.inl ci, n, f) ∧ K (pc + 3) ls (f k :: r) S
  | .putfield idx => len = 3 ∧ ∃ (ci k : Nat) (ty : FieldType) (a n : Nat) (v : Value) (r : List Value) (f : Nat → Value), st = v :: .ref a :: r ∧ pm_fr own idx ci k ty ∧ pm_fi own ci k ini ∧ S.1 a = some (.inl ci, n, f) ∧ narrow ty v = v ∧ fits ty v = true ∧ K (pc + 3) ls r (pm_up S.1 a (some (.inl ci, n, pm_up f k v)), S.2)
  | .invokevirtual idx => len = 3 ∧ ∃ (y : MethodName) (As rest : List Value) (b ci n : Nat) (f : Nat → Value) (q : String) (r1 : pm_R) (S1 : pm_S), pm_iv own idx y As.length ∧ st = As.reverse ++ .ref b :: rest ∧ pm_w8 rest ∧ S.1 b = some (.inl ci, n, f) ∧ pm_cnm ci = some q ∧ q = y.cls ∧ cal false y (.ref b :: As) S r1 S1 ∧ pm_cb own cc ret xt K KR pc ls rest r1 S1
  | .invokestatic idx => len = 3 ∧ ((∃ (mx : Bool) (x y : Int32) (r : List Value), pm_ma own idx mx ∧ st = .int y :: .int x :: r ∧ pm_w8 r ∧ K (pc + 3) ls (.int (pm_mm mx x y) :: r) S) ∨ ∃ (fl : Bool) (y : MethodName) (As rest : List Value) (r1 : pm_R) (S1 : pm_S), pm_is own idx y As.length ∧ (fl = true → Cond.methodLink own idx y ∈ pm_W) ∧ st = As.reverse ++ rest ∧ pm_w8 rest ∧ cal fl y As S r1 S1 ∧ pm_cb own cc ret xt K KR pc ls rest r1 S1)
  | .invokespecial idx => len = 3 ∧
    ((∃ (a : Nat) (r : List Value), st = .ref a :: r ∧ pm_w8 r ∧ pm_io own idx ∧ K (pc + 3) ls r S) ∨
     (∃ (y : MethodName) (As rest : List Value) (b : Nat) (r1 : pm_R) (S1 : pm_S), pm_ii own idx y As.length ∧ st = As.reverse ++ .ref b :: rest ∧ pm_w8 rest ∧ cal false y (.ref b :: As) S r1 S1 ∧ pm_cb own cc ret xt K KR pc ls rest r1 S1))
  | .ireturn => len = 1 ∧ pm_rt ret KR st S .ireturn
  | .return_ => len = 1 ∧ pm_rt ret KR st S .return_
  | .areturn => len = 1 ∧ pm_rt ret KR st S .areturn
  | .freturn => len = 1 ∧ pm_rt ret KR st S .freturn
  | .dreturn => len = 1 ∧ pm_rt ret KR st S .dreturn
  | ins => len = pm_len ins ∧ ∃ q : pm_F, pm_fn ins pc ls st = some q ∧ K q.1 q.2.1 q.2.2 S
/-- a frame's run: at most n steps, to the result r and the state S' -/
def pm_go (G : pm_G) (cal : pm_Cal) (own : String) (ini : Bool) (cc : ByteArray) (ret : Option FieldType) (xt : List (Nat × Nat × Nat × Nat)) (r : pm_R) (S' : pm_S) : Nat → pm_K
  | 0 => fun _ _ _ _ => False
  | n + 1 => fun pc ls st S => ∃ (ins : Instr) (len : Nat), decode cc pc = .ok (ins, len) ∧ pm_step G cal own ini cc ret xt (pm_go G cal own ini cc ret xt r S' n) (fun r1 S1 => r1 = r ∧ S1 = S') pc ls st S ins len
def pm_ent (as : List Value) (maxL : Nat) : List (Option Value) := as.map some ++ List.replicate (maxL - as.length) none
/-- a method's run, calls at most d deep; one with handlers (it may be called where the flag says so) returns -/
def pm_run (G : pm_G) : Nat → pm_Cal
  | 0 => fun _ _ _ _ _ _ => False
  | d + 1 => fun fl y as S r S' => (∃ (b : ByteArray) (maxL : Nat) (ret : Option FieldType), pm_mt y b maxL ret ∧ as.length ≤ maxL ∧ (∀ v ∈ as, pm_dp v = true) ∧ ∃ n, pm_go G (pm_run G d) y.cls (decide (y.name = "<init>")) b ret [] r S' n 0 (pm_ent as maxL) [] S) ∨
    (fl = true ∧ ∃ v : Option Value, r = .inl v ∧ ∃ (b : ByteArray) (maxL : Nat) (ret : Option FieldType) (xt : List (Nat × Nat × Nat × Nat)), pm_mh y b maxL ret xt ∧ as.length ≤ maxL ∧ (∀ v ∈ as, pm_dp v = true) ∧ ∃ n, pm_go G (pm_run G d) y.cls (decide (y.name = "<init>")) b ret xt (.inl v) S' n 0 (pm_ent as maxL) [] S)
