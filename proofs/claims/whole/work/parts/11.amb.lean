/-! what holds at every invocation; the tables' links; the instructions on the heap, all together -/
/-- a word that stays under warmer tables -/
def zz_gw : Cond → Bool
  | .fieldLinkNest _ _ _ _ _ _ | .methodLinkNest _ _ _ _ | .declares _ | .castable _ _ => true
  | w => goodWord w
theorem zz_gw_at {w : Cond} {args a' : Array Value} {s U : State} (hW : s.WarmedH U.vm) (hg : zz_gw w = true) (h : w.before args s = true) : w.before a' U = true := by
  cases w with
  | fieldLinkNest a i b n d h0 => exact va_Nw.use rfl (va_Nw.warmF hW (va_Nw.of rfl h))
  | methodLinkNest a i x h0 => exact va_Nw.use rfl (va_Nw.warmM hW (va_Nw.of rfl h))
  | declares x => exact va_Nw.use rfl (va_Nw.warmD hW (va_Nw.of rfl h))
  | castable a b => exact va_Nw.use rfl (va_Nw.warmC hW (va_Nw.of rfl h))
  | _ => exact word_at hW (good_of_word hg) h
def zz_good (Ts : List Cond) : Prop := ∀ w ∈ Ts, zz_gw w = true
/-- the words; the classes; what else the user says of a state (and keeps under warmer tables and an unchanged heap below b0) -/
def zz_amb (Ts : List Cond) (D : va_G) (cl : List vw_C) (tys : List (ClassId × FieldType)) (Sx : State → Prop) (s : State) : Prop := (∀ w ∈ Ts, ∀ a, w.before a s = true) ∧ va_K D cl tys s ∧ Sx s
def zz_stable (b0 : Nat) (Sx : State → Prop) : Prop := ∀ s U : State, Sx s → s.WarmedH U.vm → (∀ q : Nat, q < b0 → U.heap[q]? = s.heap[q]?) → Sx U
theorem zz_amb.next {Ts : List Cond} {D : va_G} {cl : List vw_C} {tys : List (ClassId × FieldType)} {Sx : State → Prop} {b0 : Nat} {s U : State} (hG : zz_good Ts) (hSt : zz_stable b0 Sx) (h : zz_amb Ts D cl tys Sx s) (hW : s.WarmedH U.vm) (hq : ∀ q : Nat, q < b0 → U.heap[q]? = s.heap[q]?) : zz_amb Ts D cl tys Sx U :=
  ⟨fun w hw a => zz_gw_at hW (hG w hw) (h.1 w hw #[]), va_K.moved hW.alike h.2.1, hSt s U h.2.2 hW hq⟩
/-- a field's link among the words -/
def zz_lw (Ts : List Cond) (own : String) (idx : Nat) (T : u_T) (k : Nat) : Prop := Cond.fieldLink own idx (T k).1 (T k).2.1 (T k).2.2.1 ∈ Ts ∨ ∃ host, Cond.fieldLinkNest own idx (T k).1 (T k).2.1 (T k).2.2.1 host ∈ Ts
theorem zz_lw.lnk {Ts : List Cond} {own : String} {idx k : Nat} {T : u_T} {args : Array Value} {s : State} (h : zz_lw Ts own idx T k) (hts : ∀ w ∈ Ts, w.before args s = true) : zz_lnk own idx T k args s := h.elim (fun h => Or.inl (hts _ h)) (fun ⟨host, h⟩ => Or.inr ⟨host, hts _ h⟩)
/-- a method's link among the words -/
def zz_mw (Ts : List Cond) (own : String) (idx : Nat) (y : MethodName) : Prop := Cond.methodLink own idx y ∈ Ts ∨ ∃ host, Cond.methodLinkNest own idx y host ∈ Ts
theorem zz_mw.ml {Ts : List Cond} {own : String} {idx : Nat} {y : MethodName} {args : Array Value} {s : State} (h : zz_mw Ts own idx y) (hts : ∀ w ∈ Ts, w.before args s = true) : zz_ml own idx y args s := h.elim (fun h => Or.inl (hts _ h)) (fun ⟨host, h⟩ => Or.inr ⟨host, hts _ h⟩)
/-- the methods: name, bytes, handlers as the class file has them -/
abbrev zz_Y : Type := (Nat → MethodName) × (Nat → ByteArray) × (Nat → List (Nat × Nat × Nat × Nat))
/-- a call to the method N: its words -/
def zz_cl (Z : zz_Z) (Y : zz_Y) (Ts : List Cond) (cl : List vw_C) (own : String) (idx N n kd ci : Nat) : Prop :=
  zz_mw Ts own idx (Y.1 N) ∧ ((Y.1 N).cls ≠ "java/lang/invoke/MethodHandle" ∧ (Y.1 N).cls ≠ "java/lang/invoke/VarHandle") ∧ plainFor (Y.1 N) = true ∧ (∀ sig, parseMethodDescriptor (Y.1 N).desc = some sig → n = sig.parameters.length) ∧
  ((Cond.code (Y.1 N) (Y.2.1 N) (zz_mxl Z N) (zz_ret Z N) ∈ Ts ∧ Y.2.2 N = []) ∨ Cond.codeWith (Y.1 N) (Y.2.1 N) (zz_mxl Z N) (zz_ret Z N) (Y.2.2 N) ∈ Ts) ∧
  ((kd = 0 ∧ Cond.static (Y.1 N) ∈ Ts ∧ Cond.initialized (Y.1 N).cls ∈ Ts) ∨
   (kd = 1 ∧ Cond.instanceMethod (Y.1 N) ∈ Ts ∧ ∃ r, cl[ci]? = some r ∧ Cond.selects r.1 (Y.1 N) (Y.1 N) ∈ Ts) ∨
   (kd = 2 ∧ Cond.instanceMethod (Y.1 N) ∈ Ts ∧ (Y.1 N).name = "<init>" ∧ zz_ret Z N = none ∧ Cond.code (Y.1 N) (Y.2.1 N) (zz_mxl Z N) none ∈ Ts))
/-- the links that an instruction of the method M needs -/
def zz_LK (Z : zz_Z) (Y : zz_Y) (Ts : List Cond) (cl : List vw_C) (tys : List (ClassId × FieldType)) (tc : Nat → ClassId) (AO : List String) (SR : List (String × Nat × String × Nat)) (M : Nat) (i : Instr) (r : List Nat) : Prop := match i with
  | .ldc k => (∀ b, r = [0, b] → Jvm.Cond.constant (Y.1 M).cls k (Int32.ofNat b) ∈ Ts) ∧ ∀ j, r = [1, j] → ∃ tx, ((Y.1 M).cls, k, tx, j) ∈ SR
  | .ldc_w k => (∀ b, r = [0, b] → Jvm.Cond.constant (Y.1 M).cls k (Int32.ofNat b) ∈ Ts) ∧ ∀ j, r = [1, j] → ∃ tx, ((Y.1 M).cls, k, tx, j) ∈ SR
  | .ldc2_w k => ∀ b, r = [b] → Jvm.Cond.constantLong (Y.1 M).cls k (Int64.ofNat b) ∈ Ts
  | .getfield idx => ∀ ci k, r = [ci, k] → ∃ C T N, zz_cls cl Ts (zz_fty Z ci) ci C T N ∧ k < N ∧ zz_lw Ts (Y.1 M).cls idx T k
  | .putfield idx => ∀ ci k, r = [ci, k] → ∃ C T N, zz_cls cl Ts (zz_fty Z ci) ci C T N ∧ k < N ∧ zz_lw Ts (Y.1 M).cls idx T k ∧ ((T k).2.2.2 = false ∨ ((T k).2.2.2 = true ∧ (Y.1 M).name = "<init>" ∧ (T k).1 = (Y.1 M).cls ∧ Cond.fieldLink (Y.1 M).cls idx (T k).1 (T k).2.1 (T k).2.2.1 ∈ Ts))
  | .arraylength => ∀ g, r = [g] → ∃ ty, tys[g]? = some (tc g, ty)
  | .aaload => ∀ g, r = [g] → ∃ C, tys[g]? = some (tc g, .object C)
  | .aastore => ∀ g ci, r = [g, ci] → ∃ q, cl[ci]? = some q ∧ tys[g]? = some (tc g, .object q.1)
  | .newarray t => ∀ tg, r = [tg] → t = zz_pty tg ∧ Cond.arrayClass (newarray.typeOf (zz_pty tg)) ∈ Ts
  | .anewarray idx => ∀ tg, r = [tg] → ∃ C, C ∈ AO ∧ tys[tg]? = some (tc tg, .object C) ∧ Cond.classLink (Y.1 M).cls idx C ∈ Ts
  | .new idx => ∀ ci sl, r = [ci, sl] → ∃ C T N, zz_cls cl Ts (zz_fty Z ci) ci C T N ∧ Cond.classLink (Y.1 M).cls idx C ∈ Ts ∧ Cond.instantiable C sl ∈ Ts ∧ Cond.initialized C ∈ Ts ∧ (∀ j, j < N → defaultValue (zz_fty Z ci j) = vp_V (zz_new Z ci) j) ∧ ∀ ad, (zz_new Z ci).map (zz_v ad) = zz_new Z ci
  | .invokespecial idx => (r = [2] → Cond.methodLink (Y.1 M).cls idx Lib.objectInit ∈ Ts ∧ Cond.instanceMethod Lib.objectInit ∈ Ts ∧ Cond.code Lib.objectInit ⟨#[0xb1]⟩ 1 none ∈ Ts) ∧ ∀ N n kd ci, r = [1, N, n, kd, ci] → kd = 2 ∧ zz_cl Z Y Ts cl (Y.1 M).cls idx N n kd ci
  | .invokestatic idx => ∀ N n kd ci, r = [1, N, n, kd, ci] → kd = 0 ∧ zz_cl Z Y Ts cl (Y.1 M).cls idx N n kd ci
  | .invokevirtual idx => ∀ N n kd ci, r = [1, N, n, kd, ci] → kd = 1 ∧ zz_cl Z Y Ts cl (Y.1 M).cls idx N n kd ci
  | _ => True
