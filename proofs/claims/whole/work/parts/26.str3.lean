/-! String's length and charAt: the calls among them -/
theorem zs_np {d : String} {n : Nat} {sig : MethodDescriptor} (h : (parseMethodDescriptor d).map (fun g => g.parameters.length) = some n) (hs : parseMethodDescriptor d = some sig) : n = sig.parameters.length := by
  rw [hs] at h
  exact (Option.some.inj h).symm
section ZS3
variable {p : Program} {l : Launch} {e : Env} {R : Room} {s : State} {m : MethodId} {args : Array Value} {below : List Frame} {meth : Method} {c : Code} {H : Heap} {locs : List Loc} {cells slots : Nat} {Q : State → Prop}
variable {pc : Nat} {ls : Array Slot} {D : va_G} {cl : List vw_C} {tys : List (ClassId × FieldType)} {Ts : List Cond} {Sx : State → Prop}
variable {b0 : Nat} {ad : Nat → Nat} {tc : Nat → ClassId} {h : zz_H} {k v N : Nat} {f : Nat → Int32}
theorem zs_self {s' : State} (he : s'.heap = H) : zz_fr b0 s'.heap H [] := ⟨by rw [he]; exact Nat.le_refl _, fun q _ _ => by rw [he], fun q hq => by cases hq⟩
/-- length() -/
theorem zs_len (hx : p.tables.exec = Jvm.exec) (hG : zz_good Ts) (hSt : zz_stable b0 Sx) (hw : ∀ w ∈ zs_ws, w ∈ Ts) (hA : zz_amb Ts D cl tys Sx s) (hC : ∀ s', Sx s' → zs_cs b0 s') (hZ : ∀ s', Sx s' → zs_at b0 k v N f s') (hb0 : b0 ≤ s.heap.size) (hown : s.vm.findClass "java/lang/String" = some m.cls) (hb : c.code = zs_bL) (hml : c.maxLocals = 1) (hr : meth.sig.returnType = some .int) (hlk : meth.locks = false) (hl : lv_has ls 1 [(0, .ref k)]) (hh : zz_hr b0 ad tc D cl h H) (hS : zz_fr b0 s.heap H []) (hRc : R.cells = 0) (hRs : R.slots = 0) (hRf : 1 ≤ R.frames) (hRl : 13 ≤ R.locals) :
    W p l e R s m args below meth c H [] 0 0 (zz_Fin b0 ad tc D cl below s R (.returned (some (.int (Int32.ofNat N)))) h 0 0) (F0 m 0 ls []) := by
  obtain ⟨z1, z2, z3, z4⟩ := hZ s hA.2.2
  refine lv_aload_n hx hb zs_l0 rfl (lv_at hl 0 rfl) ?_
  refine vk_getf (A := fun q => b0 ≤ q) hx hb z3 hS hown (zs_w hw hA (.fieldLink "java/lang/String" 9 "java/lang/String" "value" "[B") (by decide +kernel)) (fun _ z => z) zs_l1 ?_
  refine va_tlen (A := fun q => b0 ≤ q) hx hb z4 hS rfl zs_l4 ?_
  refine lv_aload_n hx hb zs_l5 rfl (lv_at hl 0 rfl) ?_
  refine zs_call (h := h) (ad := ad) (tc := tc) (D := D) (cl := cl) (tys := tys) (Ts := Ts) (Sx := Sx) (Rf := 0) (Rl := 0) (vs := [.ref k]) (rest := [.int (Int32.ofNat N)]) (v := some (.int 0)) hG hSt hA (hw (.code zs_yC zs_bC 1 (some .byte)) (by decide +kernel)) zs_pf.2.1 (by rw [hml]; exact hl.1.symm) (by rw [hb]; exact zs_l6) hb0 hS (by omega) (by show 1 + 12 + 0 ≤ R.locals; omega) ⟨by omega, by omega⟩ (by simp [lg_sl, Value.category])
    (fun mk methk hn hm hsig T hT X => ?_) rfl (fun s' mk methk ck ls0 below' hA' hs' hown' hb' hml' hr' hlk' hl' => ?_) (fun H1 locs1 hh1 hS1 => ?_)
  · obtain ⟨cell, g1, g2, g3, -⟩ := z1.kept hS.2.1
    exact zz_go_v (argsL := []) (rest := [.int (Int32.ofNat N)]) X hx hown (Or.inl (zs_w hw hA (.methodLink "java/lang/String" 335 zs_yC) (by decide +kernel))) (zs_w hw hA (.instanceMethod zs_yC) (by decide +kernel)) (zs_w hw hA (.selects "java/lang/String" zs_yC zs_yC) (by decide +kernel)) hn hm (by decide) (zs_np (n := 0) (by decide +kernel) hsig) (by rw [hb]; exact zs_l6) (by rw [hT]; exact g1) g2 g3
  · exact zs_coder hx hw hA' (hC s' hA'.2.2) (hZ s' hA'.2.2) hown' hb' hr' hlk' hl' hh (zs_self hs') rfl rfl
  · refine lv_ishr hx hb zs_l9 ?_
    rw [sb_shr0]
    exact zz_mono (zz_fin_of hh1 hS1 (by omega) (by omega)) (W.iret hx hb hr (fun t ht _ => ⟨rfl, ht⟩) hS1.2.2 zs_l10 hlk)
/-- checkIndex(i, n) -/
theorem zs_chk (hx : p.tables.exec = Jvm.exec) (hG : zz_good Ts) (hSt : zz_stable b0 Sx) (hw : ∀ w ∈ zs_ws, w ∈ Ts) (hA : zz_amb Ts D cl tys Sx s) (hC : ∀ s', Sx s' → zs_cs b0 s') (hb0 : b0 ≤ s.heap.size) {i n : Int32} (h0 : ¬ i < 0) (hi : i < n) (hown : s.vm.findClass "java/lang/String" = some m.cls) (hb : c.code = zs_bX) (hml : c.maxLocals = 2) (hr : meth.sig.returnType = none) (hlk : meth.locks = false) (hl : lv_has ls 2 [(0, .int i), (1, .int n)]) (hh : zz_hr b0 ad tc D cl h H) (hS : zz_fr b0 s.heap H []) (hRc : R.cells = 0) (hRs : R.slots = 0) (hRf : 1 ≤ R.frames) (hRl : 14 ≤ R.locals) :
    W p l e R s m args below meth c H [] 0 0 (zz_Fin b0 ad tc D cl below s R (.returned none) h 0 0) (F0 m 0 ls []) := by
  have hfmt : ∃ x : Value, x.isRef = true ∧ va_Z "jdk/internal/util/Preconditions" "SIOOBE_FORMATTER" "Ljava/util/function/BiFunction;" x (fun q => b0 ≤ q) s s.heap := by
    rcases (hC s hA.2.2).2 with z | ⟨t, z⟩
    · exact ⟨.null, rfl, z⟩
    · exact ⟨.ref t, rfl, z⟩
  obtain ⟨x, hxr, hxZ⟩ := hfmt
  have hxc : x.category = 1 := by cases x <;> first | rfl | cases hxr
  refine lv_iload_n hx hb zs_x0 rfl (lv_at hl 0 rfl) ?_
  refine lv_iload_n hx hb zs_x1 rfl (lv_at hl 1 rfl) ?_
  refine va_gets (A := fun q => b0 ≤ q) hx hb hxZ hS hown (zs_w hw hA (.fieldLink "java/lang/String" 1053 "jdk/internal/util/Preconditions" "SIOOBE_FORMATTER" "Ljava/util/function/BiFunction;") (by decide +kernel)) (fun _ z => z) zs_x2 ?_
  have hargs : lv_args 0 [.int i, .int n, x] = [(0, .int i), (1, .int n), (2, x)] := by simp [lv_args, Value.category]
  refine zs_call (h := h) (ad := ad) (tc := tc) (D := D) (cl := cl) (tys := tys) (Ts := Ts) (Sx := Sx) (Rf := 0) (Rl := 0) (vs := [.int i, .int n, x]) (rest := []) (v := some (.int i)) hG hSt hA (hw (.code zs_yP zs_bP 3 (some .int)) (by decide +kernel)) zs_pf.2.2.2.2.2.2 (by rw [hml]; exact hl.1.symm) (by rw [hb]; exact zs_x5) hb0 hS (by omega) (by show 0 + 14 + 0 ≤ R.locals; omega) ⟨by omega, by omega⟩ (by cases x <;> first | (exact Nat.le_refl _) | cases hxr)
    (fun mk methk hn hm hsig T hT X => ?_) rfl (fun s' mk methk ck ls0 below' hA' hs' hown' hb' hml' hr' hlk' hl' => ?_) (fun H1 locs1 hh1 hS1 => ?_)
  · exact zz_go_s (argsL := [.int i, .int n, x]) (rest := []) X hx hown (Or.inl (zs_w hw hA (.methodLink "java/lang/String" 1059 zs_yP) (by decide +kernel))) (zs_w hw hA (.static zs_yP) (by decide +kernel)) (zs_w hw hA (.initialized "jdk/internal/util/Preconditions") (by decide +kernel)) hn hm (by decide) (zs_np (n := 3) (by decide +kernel) hsig) (by rw [hb]; exact zs_x5)
  · rw [hargs] at hl'
    exact zs_pre hx h0 hi hb' hr' hlk' hl' hh (zs_self hs') rfl rfl
  · refine lv_pop hx hb zs_x8 rfl ?_
    exact zz_mono (zz_fin_of hh1 hS1 (by omega) (by omega)) (W.vret hx hb hr (fun t ht _ => ⟨rfl, ht⟩) hS1.2.2 zs_x9 hlk)
/-- StringLatin1.charAt(bytes, i) -/
theorem zs_lat (hx : p.tables.exec = Jvm.exec) (hG : zz_good Ts) (hSt : zz_stable b0 Sx) (hw : ∀ w ∈ zs_ws, w ∈ Ts) (hA : zz_amb Ts D cl tys Sx s) (hC : ∀ s', Sx s' → zs_cs b0 s') (hZ : ∀ s', Sx s' → zs_at b0 k v N f s') (hb0 : b0 ≤ s.heap.size) {i : Int32} (hN : N < 2 ^ 31) (hi : vp_in i N) (hown : s.vm.findClass "java/lang/StringLatin1" = some m.cls) (hb : c.code = zs_b1) (hml : c.maxLocals = 2) (hr : meth.sig.returnType = some .char) (hlk : meth.locks = false) (hl : lv_has ls 2 [(0, .ref v), (1, .int i)]) (hh : zz_hr b0 ad tc D cl h H) (hS : zz_fr b0 s.heap H []) (hRc : R.cells = 0) (hRs : R.slots = 0) (hRf : 2 ≤ R.frames) (hRl : 28 ≤ R.locals)
    {ch : Int32} (hch : ((f i.toNatClampNeg &&& 255).toUInt32 % 65536).toInt32 = ch) (hnar : narrow .char (.int ch) = .int ch) :
    W p l e R s m args below meth c H [] 0 0 (zz_Fin b0 ad tc D cl below s R (.returned (some (.int ch))) h 0 0) (F0 m 0 ls []) := by
  obtain ⟨z1, z2, z3, z4⟩ := hZ s hA.2.2
  obtain ⟨j, hj, rfl⟩ := vp_in_of hi hN
  refine lv_iload_n hx hb zs_10 rfl (lv_at hl 1 rfl) ?_
  refine lv_aload_n hx hb zs_11 rfl (lv_at hl 0 rfl) ?_
  refine va_tlen (A := fun q => b0 ≤ q) hx hb z4 hS rfl zs_12 ?_
  refine zs_call (h := h) (ad := ad) (tc := tc) (D := D) (cl := cl) (tys := tys) (Ts := Ts) (Sx := Sx) (Rf := 1) (Rl := 14) (vs := [.int (nI j), .int (Int32.ofNat N)]) (rest := []) (v := none) hG hSt hA (hw (.code zs_yX zs_bX 2 none) (by decide +kernel)) zs_pf.2.2.2.2.2.1 (by rw [hml]; exact hl.1.symm) (by rw [hb]; exact zs_13) hb0 hS (by omega) (by show 0 + 13 + 14 ≤ R.locals; omega) ⟨by omega, by omega⟩ (by simp [lg_sl, Value.category])
    (fun mk methk hn hm hsig T hT X => ?_) rfl (fun s' mk methk ck ls0 below' hA' hs' hown' hb' hml' hr' hlk' hl' => ?_) (fun H1 locs1 hh1 hS1 => ?_)
  · exact zz_go_s (argsL := [.int (nI j), .int (Int32.ofNat N)]) (rest := []) X hx hown (Or.inl (zs_w hw hA (.methodLink "java/lang/StringLatin1" 9 zs_yX) (by decide +kernel))) (zs_w hw hA (.static zs_yX) (by decide +kernel)) (zs_w hw hA (.initialized "java/lang/String") (by decide +kernel)) hn hm (by decide) (zs_np (n := 2) (by decide +kernel) hsig) (by rw [hb]; exact zs_13)
  · exact zs_chk (n := Int32.ofNat N) hx hG hSt hw hA' hC (by rw [hs', hh.2.1]; omega) (nI_pos (by omega)) (nI_lt hj hN) hown' hb' hml' hr' hlk' (by simpa [lv_args, Value.category] using hl') hh (zs_self hs') rfl rfl (by decide) (by decide)
  · refine lv_aload_n hx hb zs_16 rfl (lv_at hl 0 rfl) ?_
    refine lv_iload_n hx hb zs_17 rfl (lv_at hl 1 rfl) ?_
    refine va_tb (A := fun q => b0 ≤ q) hx hb z4 hS1 hi rfl zs_18 ?_
    refine lv_sipush hx hb zs_19 rfl ?_
    refine lv_iand hx hb zs_1c ?_
    refine lv_i2c hx hb zs_1d hch ?_
    exact zz_mono (zz_fin_of hh1 hS1 (by omega) (by omega)) (W.zret hx hb hr hnar (fun t ht _ => ⟨rfl, ht⟩) hS1.2.2 zs_1e hlk)
/-- charAt(i) -/
theorem zs_chA (hx : p.tables.exec = Jvm.exec) (hG : zz_good Ts) (hSt : zz_stable b0 Sx) (hw : ∀ w ∈ zs_ws, w ∈ Ts) (hA : zz_amb Ts D cl tys Sx s) (hC : ∀ s', Sx s' → zs_cs b0 s') (hZ : ∀ s', Sx s' → zs_at b0 k v N f s') (hb0 : b0 ≤ s.heap.size) {i : Int32} (hN : N < 2 ^ 31) (hi : vp_in i N) (hown : s.vm.findClass "java/lang/String" = some m.cls) (hb : c.code = zs_bA) (hml : c.maxLocals = 2) (hr : meth.sig.returnType = some .char) (hlk : meth.locks = false) (hl : lv_has ls 2 [(0, .ref k), (1, .int i)]) (hh : zz_hr b0 ad tc D cl h H) (hS : zz_fr b0 s.heap H []) (hRc : R.cells = 0) (hRs : R.slots = 0) (hRf : 3 ≤ R.frames) (hRl : 42 ≤ R.locals)
    {ch : Int32} (hch : ((f i.toNatClampNeg &&& 255).toUInt32 % 65536).toInt32 = ch) (hnar : narrow .char (.int ch) = .int ch) :
    W p l e R s m args below meth c H [] 0 0 (zz_Fin b0 ad tc D cl below s R (.returned (some (.int ch))) h 0 0) (F0 m 0 ls []) := by
  obtain ⟨z1, z2, z3, z4⟩ := hZ s hA.2.2
  refine lv_aload_n hx hb zs_a0 rfl (lv_at hl 0 rfl) ?_
  refine zs_call (h := h) (ad := ad) (tc := tc) (D := D) (cl := cl) (tys := tys) (Ts := Ts) (Sx := Sx) (Rf := 0) (Rl := 0) (vs := [.ref k]) (rest := []) (v := some (.int 1)) hG hSt hA (hw (.code zs_yI zs_bI 1 (some .boolean)) (by decide +kernel)) zs_pf.2.2.2.1 (by rw [hml]; exact hl.1.symm) (by rw [hb]; exact zs_a1) hb0 hS (by omega) (by show 0 + 12 + 0 ≤ R.locals; omega) ⟨by omega, by omega⟩ (by simp [lg_sl, Value.category])
    (fun mk methk hn hm hsig T hT X => ?_) rfl (fun s' mk methk ck ls0 below' hA' hs' hown' hb' hml' hr' hlk' hl' => ?_) (fun H1 locs1 hh1 hS1 => ?_)
  · obtain ⟨cell, g1, g2, g3, -⟩ := z1.kept hS.2.1
    exact zz_go_v (argsL := []) (rest := []) X hx hown (Or.inl (zs_w hw hA (.methodLink "java/lang/String" 492 zs_yI) (by decide +kernel))) (zs_w hw hA (.instanceMethod zs_yI) (by decide +kernel)) (zs_w hw hA (.selects "java/lang/String" zs_yI zs_yI) (by decide +kernel)) hn hm (by decide) (zs_np (n := 0) (by decide +kernel) hsig) (by rw [hb]; exact zs_a1) (by rw [hT]; exact g1) g2 g3
  · exact zs_isL hx hw hA' (hC s' hA'.2.2) (hZ s' hA'.2.2) hown' hb' hr' hlk' hl' hh (zs_self hs') rfl rfl
  · refine lv_if_eq (tgt := 16) hx hb zs_a4 (by decide) (fun z => absurd z (by decide)) (fun _ => ?_)
    refine lv_aload_n hx hb zs_a7 rfl (lv_at hl 0 rfl) ?_
    refine vk_getf (A := fun q => b0 ≤ q) hx hb z3 hS1 hown (zs_w hw hA (.fieldLink "java/lang/String" 9 "java/lang/String" "value" "[B") (by decide +kernel)) (fun _ z => z) zs_a8 ?_
    refine lv_iload_n hx hb zs_a11 rfl (lv_at hl 1 rfl) ?_
    refine zs_call (h := h) (ad := ad) (tc := tc) (D := D) (cl := cl) (tys := tys) (Ts := Ts) (Sx := Sx) (Rf := 2) (Rl := 28) (vs := [.ref v, .int i]) (rest := []) (v := some (.int ch)) hG hSt hA (hw (.code zs_y1 zs_b1 2 (some .char)) (by decide +kernel)) zs_pf.2.2.2.2.1 (by rw [hml]; exact hl.1.symm) (by rw [hb]; exact zs_a12) hb0 hS1 (by omega) (by show 0 + 13 + 28 ≤ R.locals; omega) ⟨by omega, by omega⟩ (by simp [lg_sl, Value.category])
      (fun mk methk hn hm hsig T hT X => ?_) rfl (fun s' mk methk ck ls0 below' hA' hs' hown' hb' hml' hr' hlk' hl' => ?_) (fun H2 locs2 hh2 hS2 => ?_)
    · exact zz_go_s (argsL := [.ref v, .int i]) (rest := []) X hx hown (Or.inl (zs_w hw hA (.methodLink "java/lang/String" 495 zs_y1) (by decide +kernel))) (zs_w hw hA (.static zs_y1) (by decide +kernel)) (zs_w hw hA (.initialized "java/lang/StringLatin1") (by decide +kernel)) hn hm (by decide) (zs_np (n := 2) (by decide +kernel) hsig) (by rw [hb]; exact zs_a12)
    · exact zs_lat hx hG hSt hw hA' hC hZ (by rw [hs', hh1.2.1]; omega) hN hi hown' hb' hml' hr' hlk' (by simpa [lv_args, Value.category] using hl') hh1 (zs_self hs') rfl rfl (by decide) (by decide) hch hnar
    · exact zz_mono (zz_fin_of hh2 hS2 (by omega) (by omega)) (W.zret hx hb hr hnar (fun t ht _ => ⟨rfl, ht⟩) hS2.2.2 zs_a15 hlk)
end ZS3
