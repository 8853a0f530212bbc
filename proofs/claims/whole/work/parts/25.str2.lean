/-! String's length and charAt: the walks -/
def zs_yL : MethodName := ⟨"java/lang/String", "length", "()I"⟩
def zs_yC : MethodName := ⟨"java/lang/String", "coder", "()B"⟩
def zs_yA : MethodName := ⟨"java/lang/String", "charAt", "(I)C"⟩
def zs_yI : MethodName := ⟨"java/lang/String", "isLatin1", "()Z"⟩
def zs_y1 : MethodName := ⟨"java/lang/StringLatin1", "charAt", "([BI)C"⟩
def zs_yX : MethodName := ⟨"java/lang/String", "checkIndex", "(II)V"⟩
def zs_yP : MethodName := ⟨"jdk/internal/util/Preconditions", "checkIndex", "(IILjava/util/function/BiFunction;)I"⟩
abbrev zs_bL : ByteArray := prog_19_method_54_code
abbrev zs_bC : ByteArray := prog_19_method_152_code
abbrev zs_bA : ByteArray := prog_19_method_56_code
abbrev zs_bI : ByteArray := prog_19_method_154_code
abbrev zs_b1 : ByteArray := prog_20_method_2_code
abbrev zs_bX : ByteArray := prog_19_method_155_code
abbrev zs_bP : ByteArray := prog_27_method_11_code
/-- the words of these methods -/
def zs_ws : List Cond := [.code zs_yL zs_bL 1 (some .int), .code zs_yC zs_bC 1 (some .byte), .code zs_yA zs_bA 2 (some .char), .code zs_yI zs_bI 1 (some .boolean), .code zs_y1 zs_b1 2 (some .char), .code zs_yX zs_bX 2 none, .code zs_yP zs_bP 3 (some .int),
  .instanceMethod zs_yL, .instanceMethod zs_yC, .instanceMethod zs_yA, .instanceMethod zs_yI, .selects "java/lang/String" zs_yL zs_yL, .selects "java/lang/String" zs_yC zs_yC, .selects "java/lang/String" zs_yA zs_yA, .selects "java/lang/String" zs_yI zs_yI,
  .static zs_y1, .static zs_yX, .static zs_yP, .initialized "java/lang/StringLatin1", .initialized "java/lang/String", .initialized "jdk/internal/util/Preconditions",
  .methodLink "java/lang/String" 335 zs_yC, .methodLink "java/lang/String" 492 zs_yI, .methodLink "java/lang/String" 495 zs_y1, .methodLink "java/lang/StringLatin1" 9 zs_yX, .methodLink "java/lang/String" 1059 zs_yP,
  .fieldLink "java/lang/String" 38 "java/lang/String" "COMPACT_STRINGS" "Z", .fieldLink "java/lang/String" 9 "java/lang/String" "value" "[B", .fieldLink "java/lang/String" 15 "java/lang/String" "coder" "B", .fieldLink "java/lang/String" 1053 "jdk/internal/util/Preconditions" "SIOOBE_FORMATTER" "Ljava/util/function/BiFunction;"]
theorem zs_pf : plainFor zs_yL = true ∧ plainFor zs_yC = true ∧ plainFor zs_yA = true ∧ plainFor zs_yI = true ∧ plainFor zs_y1 = true ∧ plainFor zs_yX = true ∧ plainFor zs_yP = true := by decide +kernel
theorem zs_c0 : decode zs_bC 0 = .ok (.getstatic 38, 3) := by decide +kernel
theorem zs_c3 : decode zs_bC 3 = .ok (.ifCond .eq 10, 3) := by decide +kernel
theorem zs_c6 : decode zs_bC 6 = .ok (.aload_n 0, 1) := by decide +kernel
theorem zs_c7 : decode zs_bC 7 = .ok (.getfield 15, 3) := by decide +kernel
theorem zs_c10 : decode zs_bC 10 = .ok (.goto 4, 3) := by decide +kernel
theorem zs_c14 : decode zs_bC 14 = .ok (.ireturn, 1) := by decide +kernel
theorem zs_l0 : decode zs_bL 0 = .ok (.aload_n 0, 1) := by decide +kernel
theorem zs_l1 : decode zs_bL 1 = .ok (.getfield 9, 3) := by decide +kernel
theorem zs_l4 : decode zs_bL 4 = .ok (.arraylength, 1) := by decide +kernel
theorem zs_l5 : decode zs_bL 5 = .ok (.aload_n 0, 1) := by decide +kernel
theorem zs_l6 : decode zs_bL 6 = .ok (.invokevirtual 335, 3) := by decide +kernel
theorem zs_l9 : decode zs_bL 9 = .ok (.ishr, 1) := by decide +kernel
theorem zs_l10 : decode zs_bL 10 = .ok (.ireturn, 1) := by decide +kernel
theorem zs_i0 : decode zs_bI 0 = .ok (.getstatic 38, 3) := by decide +kernel
theorem zs_i3 : decode zs_bI 3 = .ok (.ifCond .eq 14, 3) := by decide +kernel
theorem zs_i6 : decode zs_bI 6 = .ok (.aload_n 0, 1) := by decide +kernel
theorem zs_i7 : decode zs_bI 7 = .ok (.getfield 15, 3) := by decide +kernel
theorem zs_i10 : decode zs_bI 10 = .ok (.ifCond .ne 7, 3) := by decide +kernel
theorem zs_i13 : decode zs_bI 13 = .ok (.iconst 1, 1) := by decide +kernel
theorem zs_i14 : decode zs_bI 14 = .ok (.goto 4, 3) := by decide +kernel
theorem zs_i18 : decode zs_bI 18 = .ok (.ireturn, 1) := by decide +kernel
theorem zs_a0 : decode zs_bA 0 = .ok (.aload_n 0, 1) := by decide +kernel
theorem zs_a1 : decode zs_bA 1 = .ok (.invokevirtual 492, 3) := by decide +kernel
theorem zs_a4 : decode zs_bA 4 = .ok (.ifCond .eq 12, 3) := by decide +kernel
theorem zs_a7 : decode zs_bA 7 = .ok (.aload_n 0, 1) := by decide +kernel
theorem zs_a8 : decode zs_bA 8 = .ok (.getfield 9, 3) := by decide +kernel
theorem zs_a11 : decode zs_bA 11 = .ok (.iload_n 1, 1) := by decide +kernel
theorem zs_a12 : decode zs_bA 12 = .ok (.invokestatic 495, 3) := by decide +kernel
theorem zs_a15 : decode zs_bA 15 = .ok (.ireturn, 1) := by decide +kernel
theorem zs_10 : decode zs_b1 0 = .ok (.iload_n 1, 1) := by decide +kernel
theorem zs_11 : decode zs_b1 1 = .ok (.aload_n 0, 1) := by decide +kernel
theorem zs_12 : decode zs_b1 2 = .ok (.arraylength, 1) := by decide +kernel
theorem zs_13 : decode zs_b1 3 = .ok (.invokestatic 9, 3) := by decide +kernel
theorem zs_16 : decode zs_b1 6 = .ok (.aload_n 0, 1) := by decide +kernel
theorem zs_17 : decode zs_b1 7 = .ok (.iload_n 1, 1) := by decide +kernel
theorem zs_18 : decode zs_b1 8 = .ok (.baload, 1) := by decide +kernel
theorem zs_19 : decode zs_b1 9 = .ok (.sipush 255, 3) := by decide +kernel
theorem zs_1c : decode zs_b1 12 = .ok (.iand, 1) := by decide +kernel
theorem zs_1d : decode zs_b1 13 = .ok (.i2c, 1) := by decide +kernel
theorem zs_1e : decode zs_b1 14 = .ok (.ireturn, 1) := by decide +kernel
theorem zs_x0 : decode zs_bX 0 = .ok (.iload_n 0, 1) := by decide +kernel
theorem zs_x1 : decode zs_bX 1 = .ok (.iload_n 1, 1) := by decide +kernel
theorem zs_x2 : decode zs_bX 2 = .ok (.getstatic 1053, 3) := by decide +kernel
theorem zs_x5 : decode zs_bX 5 = .ok (.invokestatic 1059, 3) := by decide +kernel
theorem zs_x8 : decode zs_bX 8 = .ok (.pop, 1) := by decide +kernel
theorem zs_x9 : decode zs_bX 9 = .ok (.return_, 1) := by decide +kernel
theorem zs_p0 : decode zs_bP 0 = .ok (.iload_n 0, 1) := by decide +kernel
theorem zs_p1 : decode zs_bP 1 = .ok (.ifCond .lt 8, 3) := by decide +kernel
theorem zs_p4 : decode zs_bP 4 = .ok (.iload_n 0, 1) := by decide +kernel
theorem zs_p5 : decode zs_bP 5 = .ok (.iload_n 1, 1) := by decide +kernel
theorem zs_p6 : decode zs_bP 6 = .ok (.if_icmp .lt 10, 3) := by decide +kernel
theorem zs_p16 : decode zs_bP 16 = .ok (.iload_n 0, 1) := by decide +kernel
theorem zs_p17 : decode zs_bP 17 = .ok (.ireturn, 1) := by decide +kernel
section ZS2
variable {p : Program} {l : Launch} {e : Env} {R : Room} {s : State} {m : MethodId} {args : Array Value} {below : List Frame} {meth : Method} {c : Code} {H : Heap} {locs : List Loc} {cells slots : Nat} {Q : State → Prop}
variable {pc : Nat} {ls : Array Slot} {D : va_G} {cl : List vw_C} {tys : List (ClassId × FieldType)} {Ts : List Cond} {Sx : State → Prop}
variable {b0 : Nat} {ad : Nat → Nat} {tc : Nat → ClassId} {h : zz_H} {k v N : Nat} {f : Nat → Int32}
theorem zs_w (hw : ∀ w ∈ zs_ws, w ∈ Ts) (hA : zz_amb Ts D cl tys Sx s) (w : Cond) (hm : w ∈ zs_ws) : w.before args s = true := hA.1 w (hw w hm) args
/-- coder() -/
theorem zs_coder (hx : p.tables.exec = Jvm.exec) (hw : ∀ w ∈ zs_ws, w ∈ Ts) (hA : zz_amb Ts D cl tys Sx s) (hcs : zs_cs b0 s) (hst : zs_at b0 k v N f s) (hown : s.vm.findClass "java/lang/String" = some m.cls) (hb : c.code = zs_bC) (hr : meth.sig.returnType = some .byte) (hlk : meth.locks = false) (hl : lv_has ls 1 [(0, .ref k)]) (hh : zz_hr b0 ad tc D cl h H) (hS : zz_fr b0 s.heap H []) (hRc : R.cells = 0) (hRs : R.slots = 0) :
    W p l e R s m args below meth c H [] 0 0 (zz_Fin b0 ad tc D cl below s R (.returned (some (.int 0))) h 0 0) (F0 m 0 ls []) := by
  refine va_gets (A := fun q => b0 ≤ q) hx hb hcs.1 hS hown (zs_w hw hA (.fieldLink "java/lang/String" 38 "java/lang/String" "COMPACT_STRINGS" "Z") (by decide +kernel)) (fun _ z => z) zs_c0 ?_
  refine lv_if_eq (tgt := 13) hx hb zs_c3 (by decide) (fun z => absurd z (by decide)) (fun _ => ?_)
  refine lv_aload_n hx hb zs_c6 rfl (lv_at hl 0 rfl) ?_
  refine vk_getf (A := fun q => b0 ≤ q) hx hb hst.2.1 hS hown (zs_w hw hA (.fieldLink "java/lang/String" 15 "java/lang/String" "coder" "B") (by decide +kernel)) (fun _ z => z) zs_c7 ?_
  refine lv_goto (tgt := 14) hx hb zs_c10 (by decide) ?_
  exact zz_mono (zs_fin (ret := none) hh hS hRc hRs) (W.zret hx hb hr rfl (fun t ht _ => ⟨rfl, ht⟩) (fun q hq => by cases hq) zs_c14 hlk)
/-- isLatin1() -/
theorem zs_isL (hx : p.tables.exec = Jvm.exec) (hw : ∀ w ∈ zs_ws, w ∈ Ts) (hA : zz_amb Ts D cl tys Sx s) (hcs : zs_cs b0 s) (hst : zs_at b0 k v N f s) (hown : s.vm.findClass "java/lang/String" = some m.cls) (hb : c.code = zs_bI) (hr : meth.sig.returnType = some .boolean) (hlk : meth.locks = false) (hl : lv_has ls 1 [(0, .ref k)]) (hh : zz_hr b0 ad tc D cl h H) (hS : zz_fr b0 s.heap H []) (hRc : R.cells = 0) (hRs : R.slots = 0) :
    W p l e R s m args below meth c H [] 0 0 (zz_Fin b0 ad tc D cl below s R (.returned (some (.int 1))) h 0 0) (F0 m 0 ls []) := by
  refine va_gets (A := fun q => b0 ≤ q) hx hb hcs.1 hS hown (zs_w hw hA (.fieldLink "java/lang/String" 38 "java/lang/String" "COMPACT_STRINGS" "Z") (by decide +kernel)) (fun _ z => z) zs_i0 ?_
  refine lv_if_eq (tgt := 17) hx hb zs_i3 (by decide) (fun z => absurd z (by decide)) (fun _ => ?_)
  refine lv_aload_n hx hb zs_i6 rfl (lv_at hl 0 rfl) ?_
  refine vk_getf (A := fun q => b0 ≤ q) hx hb hst.2.1 hS hown (zs_w hw hA (.fieldLink "java/lang/String" 15 "java/lang/String" "coder" "B") (by decide +kernel)) (fun _ z => z) zs_i7 ?_
  refine lv_if_ne (tgt := 17) hx hb zs_i10 (by decide) (fun z => absurd rfl z) (fun _ => ?_)
  refine lv_iconst hx hb zs_i13 rfl ?_
  refine lv_goto (tgt := 18) hx hb zs_i14 (by decide) ?_
  exact zz_mono (zs_fin (ret := none) hh hS hRc hRs) (W.zret hx hb hr (by decide) (fun t ht _ => ⟨rfl, ht⟩) (fun q hq => by cases hq) zs_i18 hlk)
/-- Preconditions.checkIndex(i, n, any) -/
theorem zs_pre (hx : p.tables.exec = Jvm.exec) {i n : Int32} (h0 : ¬ i < 0) (hi : i < n) (hb : c.code = zs_bP) (hr : meth.sig.returnType = some .int) (hlk : meth.locks = false) {x : Value} (hl : lv_has ls 3 [(0, .int i), (1, .int n), (2, x)]) (hh : zz_hr b0 ad tc D cl h H) (hS : zz_fr b0 s.heap H []) (hRc : R.cells = 0) (hRs : R.slots = 0) :
    W p l e R s m args below meth c H [] 0 0 (zz_Fin b0 ad tc D cl below s R (.returned (some (.int i))) h 0 0) (F0 m 0 ls []) := by
  refine lv_iload_n hx hb zs_p0 rfl (lv_at hl 0 rfl) ?_
  refine lv_if_lt (tgt := 9) hx hb zs_p1 (by decide) (fun z => absurd z h0) (fun _ => ?_)
  refine lv_iload_n hx hb zs_p4 rfl (lv_at hl 0 rfl) ?_
  refine lv_iload_n hx hb zs_p5 rfl (lv_at hl 1 rfl) ?_
  refine lv_icmp_lt (tgt := 16) hx hb zs_p6 (by decide) (fun _ => ?_) (fun z => absurd hi z)
  refine lv_iload_n hx hb zs_p16 rfl (lv_at hl 0 rfl) ?_
  exact zz_mono (zs_fin (ret := none) hh hS hRc hRs) (W.iret hx hb hr (fun t ht _ => ⟨rfl, ht⟩) (fun q hq => by cases hq) zs_p17 hlk)
end ZS2
