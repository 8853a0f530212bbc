/-! THE CLAIM OUT OF ONE WALK OF THE LAW'S BODY. Your part is whole_start (and what it stands on); all else here is the same for every law, but numbers. -/
def R_law : String := "PaperObjectsLaw"
def lw_P (b : Addr) (xs : List Int32) (args : Array Value) (s : State) : Prop := args = #[.ref b] ∧ s.IntsAt b xs ∧ xs.length ≤ 1536 ∧ (Jvm.Cond.and given_1 narrow_1).before args s = true
def lw_Q (_ : Array Value) (s : State) (o : Outcome) (t : State) : Prop := o = .returned (some (.int 1)) ∧ Framed s o t [] 601024 7293034
def lw_Z (below : List Frame) (a : Array Value) (s : State) : State → Prop := fun t => ∃ o, t.status = .running ∧ Ended t below o ∧ lw_Q a s o t
theorem zt_go (l : Launch) (htr : ∀ e : Env, l.admits e → e.platform.stackTraces = false) {p : Program} {e : Env} {s : State} {m : MethodId} {below : List Frame} {meth : Method} {c : Code} {b L : Nat} {xs : Nat → Int32} (hx : p.tables.exec = Jvm.exec) (hb : c.code = code) (hr : meth.sig.returnType = ret) (hml : c.maxLocals = 7) (hown : s.vm.findClass R_law = some m.cls) (hts : ∀ w ∈ lw_tbl, w.before #[Value.ref b] s = true) (hX : va_X b L xs s s.heap) (hbl : b < s.heap.size) (hlk : meth.locks = false) (hgv : (Jvm.Cond.and given_1 narrow_1).before #[Value.ref b] s = true) (hnm : meth.name = x.name) (hexc : c.exceptionTable.toList.map (fun h => (h.startPc, h.endPc, h.handlerPc, h.catchType)) = [])
    {fuel bc' bs' : Nat} {h' : zz_H} (hex : zz_ex zt_Z (L, xs) fuel 0 0 (zz_ent 7 [.ref zz_SC]) [] [] 601024 7293034 = some (.returned (some (.int 1)), h', bc', bs')) : W p l e room_1 s m #[Value.ref b] below meth c s.heap [] 0 0 (lw_Z below #[Value.ref b] s) (entryFrame m ([Value.ref b] : List Value).toArray 7) := by
  obtain ⟨D, tys, tc, sa, sv, htys, hA⟩ := zt_entry hts hX hgv
  have hTab := zt_TAB htys
  have hSX : zz_SX zt_AO zt_SR zt_EX D sa b s.heap.size (L, xs) (zw_Sx zt_AO zt_SR zt_EX (zz_str zt_Z) s.heap.size b sa sv D (L, xs)) := zw_SX hbl (fun q hq => (zt_SRi q hq).1.2)
  have hSP : zz_SP l zt_Z zt_Y zt_K (L, xs) zt_Ts zt_cl tys tc D (zw_Sx zt_AO zt_SR zt_EX (zz_str zt_Z) s.heap.size b sa sv D (L, xs)) s.heap.size b sa := zp_SP hTab zt_PW zt_ws (zw_stable hbl) (fun s h => h.2.2.2.2.1) (fun j => ⟨(zt_swj j).2.1, sv j, fun i => (zz_str zt_Z j).getD i 0, fun s h => h.2.2.2.2.2.1 j, fun i hi => (zt_swj j).2.2 _ (by
    show (zz_str zt_Z j).getD i 0 ∈ zz_str zt_Z j
    rw [List.getD_eq_getElem?_getD, List.getElem?_eq_getElem hi]
    exact List.getElem_mem hi)⟩)
  have hTH : zz_TH l zt_Z zt_Y zt_K zt_Ts zt_cl tys tc D (zw_Sx zt_AO zt_SR zt_EX (zz_str zt_Z) s.heap.size b sa sv D (L, xs)) s.heap.size b sa := zx_TH hTab zt_TX (fun s h => h.2.2.2.2.2.2) htr
  have hRun := zz_sound hTab hSX hSP hTH fuel 0 0 _ _ _ _ _ _ _ _ _ hex
  obtain ⟨ls, e1, e2⟩ := zz_entry (zz_ad s.heap.size sa b) m [.ref zz_SC] 7 (by decide)
  have e3 : ([.ref zz_SC] : List Value).map (zz_v (zz_ad s.heap.size sa b)) = [.ref b] := by
    show [Value.ref (zz_ad s.heap.size sa b zz_SC)] = [.ref b]
    unfold zz_ad
    rw [if_neg (by decide), if_neg (by decide)]
  rw [e3] at e1
  rw [e1]
  refine zz_mono (fun t ht => ?_) (hRun p e room_1 s m #[Value.ref b] below meth c s.heap [] 0 0 ls hx hA ⟨hown, hb, hml, hr, hlk, hnm, hexc⟩ (by decide +kernel) (by decide +kernel) (Nat.le_refl _) e2 ⟨Nat.zero_le _, rfl, fun k e h => by cases h⟩ ⟨Nat.le_refl _, fun q _ _ => rfl, fun q hq => by cases hq⟩ (by decide) (by decide))
  obtain ⟨L', k, n, h1, h2, h3, h4, h5, h6, h7, -⟩ := ht
  have h6 : k + bc' ≤ 601024 := h6
  have h7 : n + bs' ≤ 7293034 := h7
  exact ⟨.returned (some (.int 1)), h1, h2, rfl, ⟨_, rfl⟩, h3, (State.sameButNew.drop_fresh (L := []) h4 h5).mono (by omega) (by omega)⟩
/-- what is left: the small machine's own run, for every script -/
def zt_Pure : Prop := ∀ (L : Nat) (xs : Nat → Int32), L ≤ 1536 → ∃ (fuel : Nat) (h' : zz_H) (bc' bs' : Nat), zz_ex zt_Z (L, xs) fuel 0 0 (zz_ent 7 [.ref zz_SC]) [] [] 601024 7293034 = some (.returned (some (.int 1)), h', bc', bs')
set_option maxHeartbeats 4000000 in
theorem lw_walk (hpure : zt_Pure) (l : Launch) (htr : ∀ e : Env, l.admits e → e.platform.stackTraces = false) (b : Addr) (xs : List Int32) : MetFree l x (headSpec (Jvm.Cond.code x code maxLocals ret :: tables_1) room_1) (lw_P b xs) (fun _ _ _ _ _ => True) lw_Q := by
  refine MetFree.of_bodyS (code := code) (maxLocals := maxLocals) (ret := ret) (by decide) ?_ ?_
  · intro args s m h hn
    obtain ⟨meth, c, h1, h2, h3, h4, h5, h6, -, -⟩ := Cond.code_spec hn (atoms_spec (ws := Jvm.Cond.code x code maxLocals ret :: tables_1) h _ List.mem_cons_self)
    exact ⟨meth, c, h1, h2, h3, h4, h5, h6⟩
  · intro p e s m args below meth c s₁ B hml0 hP _
    obtain ⟨rfl, hx, hbd, hgv⟩ := hP
    obtain ⟨scr, harrAt, hlist, hof, hsmall⟩ := hx
    obtain ⟨hcb, hkn, -, -⟩ := State.arrayAt?_spec harrAt
    have hown : s.vm.findClass R_law = some m.cls := findClass_of_methodNamed B.named
    have hts0 : ∀ c ∈ (Jvm.Cond.code x code maxLocals ret :: tables_1), c.before #[Value.ref b] s = true := atoms_spec (ws := Jvm.Cond.code x code maxLocals ret :: tables_1) B.pre
    have hts : ∀ w ∈ lw_tbl, w.before #[Value.ref b] s = true := k2_hts_sels lw_privs (fun w hw => hts0 w (List.mem_cons_of_mem _ hw)) lw_privs_ok
    have hml : c.maxLocals = 7 := B.maxLocals_eq (hts0 _ List.mem_cons_self)
    have X₀ : Stand p l e room_1 s m #[Value.ref b] below meth c s₁ [] 0 0 := Stand.of_body B
    have hh0 : s₁.heap = s.heap := by rw [B.state]; rfl
    have hsz : scr.slots.size = xs.length := by rw [← Array.length_toList, hlist, List.length_map]
    have hval : ∀ j : Nat, j < xs.length → scr.slots[j]? = some (.int (xs.getD j 0)) := fun j hj => by
      rw [← Array.getElem?_toList, hlist]
      simp [hj]
    have hbl : b < s.heap.size := (Array.getElem?_eq_some_iff.mp hcb).1
    have hX : va_X b xs.length (fun j => xs.getD j 0) s s.heap := ⟨scr, hcb, hof, hkn, hsz, hval⟩
    have K : W p l e room_1 s m #[Value.ref b] below meth c s₁.heap [] 0 0 (lw_Z below #[Value.ref b] s) (entryFrame m ([Value.ref b] : List Value).toArray 7) := by
      rw [hh0]
      obtain ⟨fuel, h', bc', bs', hex⟩ := hpure xs.length (fun j => xs.getD j 0) hbd
      obtain ⟨meth', c', hm', hc', -, -, -, -, he', -⟩ := Cond.code_spec B.named (hts0 _ List.mem_cons_self)
      cases B.method.symm.trans hm'
      cases (Stand.of_body B).code.symm.trans hc'
      exact zt_go l htr B.exec B.bytes B.returns hml hown hts hX hbl B.notSynchronized hgv (name_of_methodNamed B.named B.method).1 (by
        rw [show c.exceptionTable.toList = [] from (by simpa [Array.isEmpty] using he')]
        rfl) hex
    obtain ⟨t, a1, o, b1, b2, b3⟩ := K s₁ rfl X₀
    exact ⟨t, o, a1, b1, b2, b3⟩
theorem lw_pre_spec {args : Array Value} {s : State} (h : (Jvm.Cond.and given_1 narrow_1).before args s = true) (hr : rest_1_c.before args s = true) : ∃ (b : Addr) (xs : List Int32), lw_P b xs args s := by
  have hs := flat_of_before _ h
  have hq := flat_of_before _ hr
  have hc : (Cond.count 1).before args s = true := hs _ (by decide +kernel)
  have harr : (Cond.arrayOf (.arg 0) .int).before args s = true := hs _ (by decide +kernel)
  have hle : (Cond.le (.length (.arg 0)) (.int 1536)).before args s = true := hs _ (by decide +kernel)
  have hlen : (Cond.isInt (.length (.arg 0))).before args s = true := hq _ (by decide +kernel)
  have hall : (Cond.all (.arg 0) (.isInt (.elem (.arg 0) (.index 0)))).before args s = true := hq _ (by decide +kernel)
  obtain ⟨b, xs, hb, hx⟩ := State.ints_of_pre rfl harr hlen hall
  have hsm : xs.length < 2 ^ 31 := hx.choose_spec.2.2.2
  have hev : (Term.length (.arg 0)).eval args s none [] s = some (.int xs.length.toInt32) := hx.length_eval hb
  have hv := Cond.le_ints hev (show (Term.int 1536).eval args s none [] s = some (.int 1536) from rfl)
  have hd : xs.length.toInt32 ≤ 1536 := by
    simpa [Cond.before, Cond.holds, hv] using hle
  have hN : xs.length ≤ 1536 := (Int32.ofNat_le_ofNat hsm (by decide)).mp (show Int32.ofNat xs.length ≤ Int32.ofNat 1536 from hd)
  exact ⟨b, xs, Cond.one_arg hc (show args[0]? = some (.ref b) from hb), hx, hN, h⟩
theorem lw_comes (hpure : zt_Pure) (l : Launch) (htr : ∀ e : Env, l.admits e → e.platform.stackTraces = false) : Comes l x (Jvm.Cond.code x code maxLocals ret :: tables_1) room_1 (fun tb e args s => Calls_1 tb e args s ∧ rest_1 tb e args s ∧ Pre_1 tb e args s)
    (fun _ _ args s o t => lw_Q args s o t) := by
  intro p e ha hc hk s m args below hf hfit hheap happ hpre
  obtain ⟨b, xs, hP⟩ := lw_pre_spec hpre.2.2 hpre.2.1
  obtain ⟨k, o, h1, h2, h3, hQ⟩ := lw_walk hpure l htr b xs p e ha hc hk s m args below hf ((Spec.applies_iff_loose hf).mp happ).1 hP trivial
  exact ⟨k, o, h1, h2, h3, hQ⟩
theorem lw_frame {s t : State} {o : Outcome} {args : Array Value} (h : Framed s o t [] 601024 7293034) :
    Framed s o t (fieldLocs frame_1_writes args s ++ arrayLocs frame_1_arrays args s ++ staticLocs frame_1_statics s) 601024 7293034 := h
theorem lw_limb (hpure : zt_Pure) (L : Cond) (hL : ∀ (args : Array Value) (s t : State), L.after args s (.returned (some (.int 1))) t = true) :
    ArmFor flags0 classFile x code maxLocals ret World_1 tables_1 room_1 Calls_1 rest_1 Pre_1
      (fun tb e a s o t => postC L tb e a s o t ∧ Framed s o t (fieldLocs frame_1_writes a s ++ arrayLocs frame_1_arrays a s ++ staticLocs frame_1_statics s) 601024 7293034) := by
  intro l hfl _ _ p e ha hc hk s m args below hf hfit hheap happ hpre
  obtain ⟨k, o, h1, h2, h3, rfl, hF⟩ := lw_comes hpure l (fun e he => by rw [he.2.2.2.2.1]; show l.stackTraces = false; unfold Launch.stackTraces; rw [hfl]; decide +kernel) p e ha hc hk s m args below hf hfit hheap happ hpre
  exact ⟨k, _, h1, h2, h3, hL args s _, lw_frame hF⟩
theorem zt_claim (hpure : zt_Pure) : Claimed_1_1 ∧ Claimed_1_2 := ⟨lw_limb hpure limb_1_1 (fun args s t => by simp [limb_1_1, Cond.after, Cond.holds, Cond.value]), lw_limb hpure limb_1_2 (fun args s t => Cond.after_iff.mpr (by
  first | (rw [show limb_1_2 = Cond.eq .result (.int 1) from rfl, Cond.eq_ints (x := 1) (y := 1) rfl rfl]; simp; done) | (simp [limb_1_2, Cond.value, Term.eval]; done)))⟩
