/-! an exception of ours: new, dup, its constructor, athrow (a launch without stack traces) -/
def zx_at (own : String) (ic : Nat) (C : String) : List Cond := Jvm.Bundle.ownAtoms0 own ic C ["java/lang/RuntimeException", "java/lang/Exception"]
/-- the atoms that look at the statics of Throwable -/
def zx_st (w : Cond) : Bool := decide (w = .isRef (.static Jvm.Bundle.tN "UNASSIGNED_STACK" Jvm.Bundle.steD)) || decide (w = .isRef (.static Jvm.Bundle.tN "SUPPRESSED_SENTINEL" Jvm.Bundle.listD)) || decide (w = .laysStatic Jvm.Bundle.tN "UNASSIGNED_STACK" Jvm.Bundle.steD) || decide (w = .laysStatic Jvm.Bundle.tN "SUPPRESSED_SENTINEL" Jvm.Bundle.listD)
/-- a static of references whose cell lies below b0 -/
def zx_S (b0 : Nat) (O f d : String) (s : State) : Prop := ∃ (c : ClassId) (k : Class) (i : Nat) (fl : Field) (a : Nat) (cell : Cell) (v : Value), s.vm.findClass O = some c ∧ s.fieldFound? O f d = some (c, k, i, fl) ∧ fl.isStatic = true ∧ k.statics = some a ∧ s.heap[a]? = some cell ∧ cell.vm.isStatics = true ∧ cell.cls = c ∧ fl.slot < cell.slots.size ∧ k.staticTypes[fl.slot]? = some fl.type ∧ a < b0 ∧ cell.slots[fl.slot]? = some v ∧ v.isRef = true
theorem zx_S.stays {b0 : Nat} {O f d : String} {s U : State} (h : zx_S b0 O f d s) (hW : s.WarmedH U.vm) (hq : ∀ q : Nat, q < b0 → U.heap[q]? = s.heap[q]?) : zx_S b0 O f d U := by
  obtain ⟨c, k, i, fl, a, cell, v, h1, h2, h3, h4, h5, h6, h7, h8, h9, h10, h11, h12⟩ := h
  obtain ⟨k', hi', hek⟩ := State.fieldFound?_setVm hW.alike h2
  exact ⟨c, k', i, fl, a, cell, v, by rw [hW.alike.findClass]; exact h1, hi', h3, by rw [hek]; exact h4, by rw [hq a h10]; exact h5, h6, h7, h8, by rw [hek]; exact h9, h10, h11, h12⟩
theorem zx_S.lays {b0 : Nat} {O f d : String} {s : State} {args : Array Value} (h : zx_S b0 O f d s) : (Cond.laysStatic O f d).before args s = true := by
  obtain ⟨c, k, i, fl, a, cell, v, h1, h2, h3, h4, h5, h6, h7, h8, h9, h10, h11, h12⟩ := h
  exact Cond.laysStatic_of h1 h2 h3 h4 h5 h6 h7 h8 h9
theorem zx_S.isRef {b0 : Nat} {O f d : String} {s : State} {args : Array Value} (h : zx_S b0 O f d s) : (Cond.isRef (.static O f d)).before args s = true := by
  obtain ⟨c, k, i, fl, a, cell, v, h1, h2, h3, h4, h5, h6, h7, h8, h9, h10, h11, h12⟩ := h
  have he : (Term.static O f d).eval args s none [] s = some v := by
    simp [Term.eval, State.fieldNamed?, h2, h3, h4, h5, h6, h11]
  simp only [Cond.before, Cond.holds, Cond.value, he]
  cases v <;> first | rfl | cases h12
theorem zx_S.of {O f d : String} {s : State} {args : Array Value} (h : (Cond.laysStatic O f d).before args s = true) (hr : (Cond.isRef (.static O f d)).before args s = true) : zx_S s.heap.size O f d s := by
  obtain ⟨c, k, i, fl, a, cell, h1, h2, h3, h4, h5, h6, h7, h8, h9⟩ := Cond.laysStatic_spec h
  obtain ⟨u, hu⟩ := Cond.staticRefV h2 h3 h4 h5 h6 hr
  exact ⟨c, k, i, fl, a, cell, u.v, h1, h2, h3, h4, h5, h6, h7, h8, h9, (Array.getElem?_eq_some_iff.mp h5).1, hu, u.2⟩
section ZX
variable {p : Program} {l : Launch} {e : Env} {R : Room} {s : State} {m : MethodId} {args : Array Value} {below : List Frame} {meth : Method} {c : Code} {W0 : State} {locs : List Loc} {cells slots : Nat}
set_option maxHeartbeats 1000000 in
theorem zx_ctor (X : Stand p l e R s m args below meth c W0 locs cells slots) (hexec : p.tables.exec = Jvm.exec) (htr : e.platform.stackTraces = false) {own cls : String} {ic : Nat}
    (hown : s.vm.findClass own = some m.cls) (hcls : Jvm.Bundle.fit cls = true) (h : ∀ a ∈ zx_at own ic cls, a.before args s = true) {b0 : Nat} (hU : zx_S b0 Jvm.Bundle.tN "UNASSIGNED_STACK" Jvm.Bundle.steD s) (hb0 : b0 ≤ s.heap.size) (hq : ∀ q : Nat, q < b0 → W0.heap[q]? = s.heap[q]?)
    {a : Addr} {cX : ClassId} {kX : Class} (hfoundX : s.vm.findClass cls = some cX) (hkX : s.vm.classes[cX]? = some kX) (hcell : W0.heap[a]? = some (freshCell cX kX)) (hnew : s.heap.size ≤ a)
    {g : JFrame} (hg : g.method = m) (hsize : g.locals.size = c.maxLocals) {rest : List Value} (hstack : g.stack = .ref a :: rest) (hd6 : decode c.code g.pc = .ok (.invokespecial ic, 3))
    (hRframes : 5 < R.frames) (hRlocals : 2 * g.monitorRoom + (rest.map fun v => v.category).sum + 80 ≤ R.locals) :
    ∃ (vm' : Vm) (ce : Cell), ce.cls = cX ∧ ce.vm = .none ∧ Stand p l e R s m args below meth c ((W0.setVm vm').setCell a ce) locs cells slots ∧
      ∀ target, Steps p.tables e below (((W0.setVm vm').setCell a ce).setTop { g with pc := g.pc + 3, stack := rest }) target → Steps p.tables e below (W0.setTop g) target := by
  have howns : e.platform.frameOwnsMonitors = true := by rw [X.admits.platform]
  have hfin : e.platform.finalization = false := by rw [X.admits.platform]
  have hpl : e.platform.magicAccessors = ({} : Platform).magicAccessors := by rw [X.admits.platform]
  have hA : ∀ x, x ∈ Jvm.Bundle.ownAtoms0 own ic cls ["java/lang/RuntimeException", "java/lang/Exception"] → x.holds args s none s [] = true := fun x hx => h x hx
  obtain ⟨T, Z, L, LZ, Y⟩ := ThrowableC.of_atoms (args := args) howns hfin hpl (fun x hx => h x (by simp [zx_at, Jvm.Bundle.ownAtoms0, hx]))
  obtain ⟨P1, Ps, hlen, L1, hL, hP1m, hlink1, hlink⟩ := Jvm.Bundle.chain0 (args := args) hpl Y.init0 ["java/lang/RuntimeException", "java/lang/Exception"] cls hcls (by decide) (fun x hx => h x (by simp [zx_at, Jvm.Bundle.ownAtoms0, hx]))
  have hfound : s.vm.findClass cls = some P1.m.cls := findClass_of_methodNamed hP1m
  cases Option.some.inj (hfoundX.symm.trans hfound)
  obtain ⟨c1, kX', hc1, hk, hord, -, -, hn6⟩ := Cond.instantiable_spec (hA (.instantiable cls 6) (by simp [Jvm.Bundle.ownAtoms0]))
  cases Option.some.inj (hc1.symm.trans hfound)
  cases Option.some.inj (hkX.symm.trans hk)
  have sel : ∀ (y : MethodName) (mk : MethodId), (Cond.selects cls y y) ∈ Jvm.Bundle.ownAtoms0 own ic cls ["java/lang/RuntimeException", "java/lang/Exception"] → s.methodNamed? y = some mk → (y.cls ≠ "java/lang/invoke/MethodHandle" ∧ y.cls ≠ "java/lang/invoke/VarHandle") → selectMethod e.platform s.vm P1.m.cls mk = .method mk := by
    intro y mk hy hn hne
    obtain ⟨c2, r2, m2, q1, q2, q3, q4, -⟩ := Cond.selects_spec (hA _ hy)
    cases Option.some.inj (q1.symm.trans hfound)
    cases Option.some.inj (q2.symm.trans (State.methodFound?_of_named hn hne))
    cases Option.some.inj (q3.symm.trans hn)
    rw [Launch.admits_selectMethod X.admits]
    exact q4
  have hsel0 := sel Jvm.Bundle.tFill0 T.fill0 (by simp [Jvm.Bundle.ownAtoms0]) Y.fill0 (by decide)
  have hselF := sel Jvm.Bundle.tFill T.fill (by simp [Jvm.Bundle.ownAtoms0]) Y.fill (by decide)
  obtain ⟨cellS0, hcS0, hiss⟩ := Y.statics
  obtain ⟨u0, hu0⟩ := Cond.staticRefV Y.unassigned L.unassignedStatic L.statics hcS0 hiss (hA (.isRef (.static Jvm.Bundle.tN "UNASSIGNED_STACK" Jvm.Bundle.steD)) (by simp [Jvm.Bundle.ownAtoms0]))
  obtain ⟨sen, hsen⟩ := Cond.staticRefV Y.sentinel L.sentinelStatic L.statics hcS0 hiss (hA (.isRef (.static Jvm.Bundle.tN "SUPPRESSED_SENTINEL" Jvm.Bundle.listD)) (by simp [Jvm.Bundle.ownAtoms0]))
  obtain ⟨ci198, i198, fB, hk198, hg198, ha198, hsB, -, hnB, htB, hffB⟩ := Cond.ownField (t := .object "java/lang/Object") Y.found L.cls (by decide +kernel) (hA (.fieldLink Jvm.Bundle.tN 198 Jvm.Bundle.tN "backtrace" "Ljava/lang/Object;") (by simp [Jvm.Bundle.ownAtoms0])) (hA (.lays Jvm.Bundle.tN Jvm.Bundle.tN "backtrace" "Ljava/lang/Object;") (by simp [Jvm.Bundle.ownAtoms0])) e.platform hpl
  have haS : T.aS < b0 := by
    obtain ⟨c9, k9, i9, f9, a9, cell9, v9, -, r2, -, r4, -, -, -, -, -, r10, -⟩ := hU
    have := Option.some.inj (r2.symm.trans Y.unassigned)
    simp only [Prod.mk.injEq] at this
    obtain ⟨-, rfl, -⟩ := this
    cases Option.some.inj (r4.symm.trans L.statics)
    exact r10
  have hcellS : W0.heap[T.aS]? = some cellS0 := by rw [hq _ haS]; exact hcS0
  have hknownS : cellS0.vm ≠ .unknown := fun hu => by rw [hu] at hiss; cases hiss
  have hneS : T.aS ≠ a := Nat.ne_of_lt (Nat.lt_of_lt_of_le haS (Nat.le_trans hb0 hnew))
  obtain ⟨tyC, dC, hdC, hdnC⟩ := Cond.laysAt hfound hk Y.cause (hA (.lays cls Jvm.Bundle.tN "cause" "Ljava/lang/Throwable;") (by simp [Jvm.Bundle.ownAtoms0]))
  obtain ⟨tyS, dS, hdS, hdnS⟩ := Cond.laysAt hfound hk Y.stack (hA (.lays cls Jvm.Bundle.tN "stackTrace" Jvm.Bundle.steD) (by simp [Jvm.Bundle.ownAtoms0]))
  obtain ⟨tyP, dP, hdP, hdnP⟩ := Cond.laysAt hfound hk Y.supp (hA (.lays cls Jvm.Bundle.tN "suppressedExceptions" Jvm.Bundle.listD) (by simp [Jvm.Bundle.ownAtoms0]))
  obtain ⟨tyB, dB, hdB, hdnB⟩ := Cond.laysAt hfound hk hffB (hA (.lays cls Jvm.Bundle.tN "backtrace" "Ljava/lang/Object;") (by simp [Jvm.Bundle.ownAtoms0]))
  have bC := Cond.laysApart hdB hdC hdnB hdnC (by rw [hnB, Y.causeName]; decide)
  have bS := Cond.laysApart hdB hdS hdnB hdnS (by rw [hnB, Y.stackName]; decide)
  have bP := Cond.laysApart hdB hdP hdnB hdnP (by rw [hnB, Y.suppName]; decide)
  have hskip : SkipFacts T e.platform s (fun u => u) u0 ((preparedCellV T.toThrowableT (freshCell P1.m.cls kX) a u0 sen).withEntry W0.cur) :=
    ⟨{ ci198 := ci198, i198 := i198, fBack := fB }, ⟨hk198, hg198, ha198, hsB⟩, by
      have := fresh_default (c := P1.m.cls) tyB
      rw [htB] at this
      simpa [preparedCellV, Cell.setSlot, Cell.withEntry, Array.getElem?_setIfInBounds, bC, bS, bP, bC.symm, bS.symm, bP.symm, defaultValue] using this, fun _ _ => rfl⟩
  obtain ⟨tm, methC, cdC, kC, vm₁, hnC, -, -, -, -, -, -, -, hW₁, st1⟩ := Steps.initCold (tb := p.tables) (e := e) (below := below) (s := s) (U := W0) X.here hexec X.warmed hpl hown (t := Jvm.Bundle.init0 cls) rfl rfl (Jvm.Bundle.fit_spec hcls).2
    (hA (.methodLink own ic (Jvm.Bundle.init0 cls)) (by simp [Jvm.Bundle.ownAtoms0])) (h (.instanceMethod (Jvm.Bundle.init0 cls)) (by simp [zx_at, Jvm.Bundle.ownAtoms0, Jvm.Bundle.chain0Atoms, Jvm.Bundle.passAtoms])) (bytes := Jvm.Bundle.five) (maxL := 1) (h (.code (Jvm.Bundle.init0 cls) Jvm.Bundle.five 1 none) (by simp [zx_at, Jvm.Bundle.ownAtoms0, Jvm.Bundle.chain0Atoms, Jvm.Bundle.passAtoms]))
    (f := g) hg (a := a) (rest := rest) hstack hd6
  cases Option.some.inj (hnC.symm.trans hP1m)
  have X₁ := X.noted hW₁
  have hl2 : Ps.length = 2 := hlen
  obtain ⟨vm₂, X₂, st2⟩ := X₁.ctorPlainOffV hexec (g := { g with stack := rest }) hg hsize T L Z LZ (P1 :: Ps)
    (fun P hP => by rcases List.mem_cons.mp hP with rfl | hP; exact L1; exact hL P hP) ⟨hlink1, hlink⟩ (u0 := u0) (sen := sen) (self := a) (cell := freshCell P1.m.cls kX) (cellS := cellS0)
    hcell (fun _ => by simp) (by simp) rfl rfl hsel0 hselF hcellS hneS hknownS hu0 hsen
    (Takes.of_laid hk hord tyC (by rw [Y.causeType]; rfl)) (Takes.of_laid hk hord tyS (by rw [Y.stackType]; exact fits_refV_array _ u0)) (Takes.of_laid hk hord tyP (by rw [Y.suppType]; exact fits_refV_object _ sen)) Y.objLocals hskip htr [] hd6
    (by rw [List.length_cons, hl2]; omega) (by rw [List.length_cons, hl2]; exact hRlocals)
  refine ⟨vm₂, _, rfl, rfl, X₂.forget (fun y hy => ?_), fun target ht => st1 _ (fun acts => ?_)⟩
  · simp only [List.mem_cons, List.not_mem_nil, or_false] at hy
    rcases hy with rfl | rfl | rfl | rfl <;> exact hnew
  · rw [doInvoke_state]
    exact st2 _ ht
end ZX
theorem zz_wt_le : ∀ st : List Value, zz_wt st ≤ 2 * st.length
  | [] => Nat.le_refl _
  | v :: st => by
    have ih := zz_wt_le st
    have hv := lv_cat v
    unfold zz_wt at ih ⊢
    rw [List.map_cons, List.sum_cons, List.length_cons]
    omega
/-- a throw's place in the tables -/
def zx_site (Z : zz_Z) (Y : zz_Y) (Ts : List Cond) (cl : List vw_C) (M pc idx ci sl : Nat) : Prop := ∃ (C : String) (T : u_T) (ic : Nat) (r1 r2 r3 : List Nat), cl[ci]? = some (C, T, 0) ∧ zz_cod Z M (pc + 3) = some (.dup, 1, r1) ∧ zz_cod Z M (pc + 4) = some (.invokespecial ic, 3, r2) ∧ zz_cod Z M (pc + 7) = some (.athrow, 1, r3) ∧
  Cond.classLink (Y.1 M).cls idx C ∈ Ts ∧ Cond.instantiable C sl ∈ Ts ∧ Cond.initialized C ∈ Ts ∧ Jvm.Bundle.fit C = true ∧ ∀ a ∈ zx_at (Y.1 M).cls ic C, a ∈ Ts ∨ zx_st a = true
section ZX2
variable {l : Launch} {Z : zz_Z} {Y : zz_Y} {K : Nat → Nat × Nat} {Ts : List Cond} {cl : List vw_C} {tys : List (ClassId × FieldType)} {tc : Nat → ClassId} {D : va_G} {Sx : State → Prop} {b0 b : Nat} {sa : Nat → Nat} {AO : List String} {SR : List (String × Nat × String × Nat)} {EX : List Nat}
theorem zx_TH (hTab : zz_TAB Z Y K Ts cl tys tc AO SR EX) (hTX : ∀ M pc n idx ci sl, zz_cod Z M pc = some (.new idx, n, [3, ci, sl]) → zx_site Z Y Ts cl M pc idx ci sl)
    (hSS : ∀ s, Sx s → zx_S b0 Jvm.Bundle.tN "UNASSIGNED_STACK" Jvm.Bundle.steD s ∧ zx_S b0 Jvm.Bundle.tN "SUPPRESSED_SENTINEL" Jvm.Bundle.listD s) (htr : ∀ e : Env, l.admits e → e.platform.stackTraces = false) : zz_TH l Z Y K Ts cl tys tc D Sx b0 b sa := by
  intro M pc n idx ci sl st h bc bs hcod hnd h1 h2 h3 h4 p e R s m args below meth c H locs cells slots ls hx hA hme hml hfr hlo hb0 hh hS hc hs
  obtain ⟨C, T, ic, r1, r2, r3, s1, s2, s3, s4, s5, s6, s7, s8, s9⟩ := hTX M pc n idx ci sl hcod
  obtain ⟨m1, m2, m3, m4, m5, m6, m7⟩ := id hme
  have hts : ∀ w ∈ Ts, w.before args s = true := fun w hw => hA.1 w hw args
  obtain ⟨d0, dn, -⟩ := hTab.1 M pc _ _ _ hcod
  have hn3 : n = 3 := dn.resolve_right (fun z => by cases z)
  subst hn3
  have d3 := (hTab.1 M (pc + 3) _ _ _ s2).1
  have d4 := (hTab.1 M (pc + 4) _ _ _ s3).1
  have d7 := (hTab.1 M (pc + 7) _ _ _ s4).1
  obtain ⟨-, hfc, kC0, hkC0, hkind⟩ := hA.2.1.1 ci _ s1
  have hwt := zz_wt_le st
  refine W.newcK hx m2 m1 (hts _ s5) (hts _ s6) (hts _ s7) (g := F0 m pc ls (st.map (zz_v (zz_ad b0 sa b)))) rfl d0 (by omega) (by omega) hfc (h := H.size) rfl fun H1 kC hkC e1 z1 o1 => ?_
  refine lv_dup (rest := st.map (zz_v (zz_ad b0 sa b))) (ls := ls) hx m2 d3 rfl ?_
  intro T0 hT0 X
  obtain ⟨g1, g2⟩ := hSS s hA.2.2
  have hat : ∀ a ∈ zx_at (Y.1 M).cls ic C, a.before args s = true := fun a ha => (s9 a ha).elim (hts a) (fun z => by
    simp only [zx_st, Bool.or_eq_true, decide_eq_true_eq] at z
    rcases z with ((rfl | rfl) | rfl) | rfl
    · exact g1.isRef
    · exact g2.isRef
    · exact g1.lays
    · exact g2.lays)
  have hsum : ((Value.ref H.size :: st.map (zz_v (zz_ad b0 sa b))).map fun v => v.category).sum = 1 + zz_wt st := by
    rw [List.map_cons, List.sum_cons, zz_wt_map]
    rfl
  obtain ⟨vm', ce, q1, q2, X', st'⟩ := zx_ctor (a := H.size) X hx (htr e X.admits) m1 s8 hat g1 hb0 (fun q hq => by
      rw [hT0, o1 q (by have := hS.1; omega)]
      exact hS.2.1 q (by omega) (by omega)) hfc hkC (by rw [hT0]; exact e1) hS.1
    (g := F0 m (pc + 3 + 1) ls (.ref H.size :: .ref H.size :: st.map (zz_v (zz_ad b0 sa b)))) rfl hml.symm (rest := .ref H.size :: st.map (zz_v (zz_ad b0 sa b))) rfl (by rw [m2]; exact d4) (by omega) (by
      show 2 * 0 + _ + 80 ≤ R.locals
      rw [hsum]
      omega)
  have hout : ∀ x ∈ c.exceptionTable.toList, covers x (F0 m (pc + 3 + 1 + 3) ls (.ref H.size :: st.map (zz_v (zz_ad b0 sa b)))).pc = false := by
    have hok := hTab.2.1 M
    rw [hnd] at hok
    have hy : Y.2.2 M = [] := by
      cases hq : Y.2.2 M with
      | nil => rfl
      | cons q qs =>
        rw [hq] at hok
        exact hok.elim
    rw [hy] at m7
    rw [List.map_eq_nil_iff.mp m7]
    intro x hx
    cases hx
  obtain ⟨a1, a2, a3, a4, a5⟩ := X'.athrowLeaves hx (g := F0 m (pc + 3 + 1 + 3) ls (.ref H.size :: st.map (zz_v (zz_ad b0 sa b)))) rfl rfl rfl hout rfl (by rw [m2]; exact d7) m5
  have hheap : ((((T0.setVm vm').setCell H.size ce)).setFrames (.throwing H.size :: below)).heap = H1.setIfInBounds H.size ce := by rw [← hT0]; rfl
  have z2 : (H1.setIfInBounds H.size ce).size = H.size + 1 := by rw [Array.size_setIfInBounds, z1]
  have o2 : ∀ q : Nat, q < H.size → (H1.setIfInBounds H.size ce)[q]? = H[q]? := fun q hq => by
    rw [Array.getElem?_setIfInBounds_ne (by omega)]
    exact o1 q hq
  have e2 : (H1.setIfInBounds H.size ce)[H.size]? = some ce := by
    rw [Array.getElem?_setIfInBounds]
    simp [z1]
  refine ⟨_, st' _ a1, locs, cells + 1, slots + sl, a2, ?_, a4, a5, hS.2.2, by omega, by omega, ?_, ?_⟩
  · show Ended _ below (.threw (zz_ad b0 sa b h.length))
    rw [hh.new h3]
    exact a3
  · rw [hheap]
    exact hh.push h3 z2 o2 ⟨_, s1, ce, e2, q1, q2, fun k hk => absurd hk (Nat.not_lt_zero k)⟩
  · rw [hheap]
    exact (hS.push z2 o2).nil
end ZX2
