/-! String's length and charAt, on a constant: the JDK's own small methods -/
section ZS
variable {p : Program} {l : Launch} {e : Env} {R : Room} {s : State} {m : MethodId} {args : Array Value} {below : List Frame} {meth : Method} {c : Code} {H : Heap} {locs : List Loc} {cells slots : Nat} {Q : State → Prop}
variable {pc : Nat} {ls : Array Slot} {D : va_G} {cl : List vw_C} {tys : List (ClassId × FieldType)} {Ts : List Cond} {Sx : State → Prop}
variable {b0 : Nat} {ad : Nat → Nat} {tc : Nat → ClassId} {h : zz_H}
/-- a call of a method that makes nothing and leaves the heap's picture as it is -/
theorem zs_call (hG : zz_good Ts) (hSt : zz_stable b0 Sx) (hA : zz_amb Ts D cl tys Sx s) {y : MethodName} {bytes : ByteArray} {maxL : Nat} {ret : Option FieldType} (hw : Cond.code y bytes maxL ret ∈ Ts) (hpf : plainFor y = true) (hml : c.maxLocals = ls.size) {ig : Instr} (hdg : decode c.code pc = .ok (ig, 3)) (hb0 : b0 ≤ s.heap.size)
    (hS : zz_fr b0 s.heap H locs) {vs stk rest : List Value} {Rf Rl : Nat} (hfr : Rf + 1 ≤ R.frames) (hlo : (rest.map fun v => v.category).sum + (maxL + 11) + Rl ≤ R.locals) (hcs : cells ≤ R.cells ∧ slots ≤ R.slots) (hvs : (lg_sl vs).length ≤ maxL)
    (hgo : ∀ (mk : MethodId) (methk : Method), s.methodNamed? y = some mk → s.vm.method? mk = some methk → parseMethodDescriptor y.desc = some methk.sig → ∀ T : State, T.heap = H → Stand p l e R s m args below meth c T locs cells slots → ∃ vm₁, Stand p l e R s m args below meth c (T.setVm vm₁) locs cells slots ∧ ∀ target, (∀ acts, Steps p.tables e below (doInvoke e ((T.setVm vm₁).setTop (F0 m pc ls rest)) acts mk vs.toArray).1 target) → Steps p.tables e below (T.setTop (F0 m pc ls stk)) target)
    {v : Option Value} (hv : v.map (zz_v ad) = v)
    (hbody : ∀ (s' : State) (mk : MethodId) (methk : Method) (ck : Code) (ls0 : Array Slot) (below' : List Frame), zz_amb Ts D cl tys Sx s' → s'.heap = H → s'.vm.findClass y.cls = some mk.cls → ck.code = bytes → ck.maxLocals = maxL → methk.sig.returnType = ret → methk.locks = false → lv_has ls0 maxL (lv_args 0 vs) →
      W p l e { frames := Rf, cells := 0, slots := 0, locals := Rl } s' mk vs.toArray below' methk ck H [] 0 0 (zz_Fin b0 ad tc D cl below' s' { frames := Rf, cells := 0, slots := 0, locals := Rl } (.returned v) h 0 0) (F0 mk 0 ls0 []))
    (kk : ∀ (H1 : Heap) (locs1 : List Loc), zz_hr b0 ad tc D cl h H1 → zz_fr b0 s.heap H1 locs1 → W p l e R s m args below meth c H1 locs1 cells slots Q (F0 m (pc + 3) ls (v.toList ++ rest))) :
    W p l e R s m args below meth c H locs cells slots Q (F0 m pc ls stk) := by
  have hcode := hA.1 _ hw args
  obtain ⟨mk, hn⟩ := Cond.code_named hcode
  obtain ⟨methk, ck, c2, c3, c4, c5, c6, c7, -, c8⟩ := Cond.code_spec hn hcode
  refine zz_call (R' := { frames := Rf, cells := 0, slots := 0, locals := Rl }) (o := .returned v) (h' := h) (bc' := 0) (bs' := 0) (ad := ad) (tc := tc) (D := D) (cl := cl) (rest := rest) hml hdg c2 c3 c7 (fun U hU => ?_) hfr (by rw [c5]; exact hlo) hcs.1 hcs.2 (hgo mk methk hn c2 c8) hS (fun s' hs1 hs2 => ?_) (fun v' hv' H1 locs1 k n a1 a2 a3 a4 => ?_) (fun a ha => by cases ha)
  · exact State.plainMethod.of_named hpf (by rw [show U.methodNamed? y = s.methodNamed? y from (by have := State.methodNamed?_setVm (s := s) hU.alike (x := y); exact this)]; exact hn) (by rw [hU.alike.method?]; exact c2)
  · rw [lg_entry_eq, c5]
    exact hbody s' mk methk ck _ _ (hA.next hG hSt hs2 (fun q hq => by rw [hs1]; exact hS.2.1 q (by omega) (by omega))) hs1 (findClass_of_methodNamed_moved hs2 hn) c4 c5 c6 c7 (lv_entry vs hvs)
  · cases hv'
    rw [hv]
    have hk : k = 0 := by simp only at a3; omega
    have hn' : n = 0 := by simp only at a4; omega
    subst hk
    subst hn'
    exact kk H1 locs1 a1 a2
/-- a string constant at k: an object, its coder, its bytes -/
def zs_at (b0 : Nat) (k v N : Nat) (f : Nat → Int32) (s : State) : Prop := va_O "java/lang/String" k (fun q => b0 ≤ q) s s.heap ∧ va_OF "java/lang/String" "coder" "B" (.int 0) k (fun q => b0 ≤ q) s s.heap ∧ va_OF "java/lang/String" "value" "[B" (.ref v) k (fun q => b0 ≤ q) s s.heap ∧ va_T .byte v N (fun j => .int (f j)) (fun q => b0 ≤ q) s s.heap
/-- the two statics -/
def zs_cs (b0 : Nat) (s : State) : Prop := va_Z "java/lang/String" "COMPACT_STRINGS" "Z" (.int 1) (fun q => b0 ≤ q) s s.heap ∧ va_Zq "jdk/internal/util/Preconditions" "SIOOBE_FORMATTER" "Ljava/util/function/BiFunction;" (fun q => b0 ≤ q) s s.heap
theorem zs_at.stays {k v N : Nat} {f : Nat → Int32} {U : State} (hz : zs_at b0 k v N f s) (hW : s.WarmedH U.vm) (hq : ∀ q : Nat, q < b0 → U.heap[q]? = s.heap[q]?) : zs_at b0 k v N f U := by
  obtain ⟨h1, h2, h3, h4⟩ := hz
  have hk : ∀ a : Nat, a < s.heap.size → ¬ b0 ≤ a → U.heap[a]? = s.heap[a]? := fun a _ ha => hq a (by omega)
  exact ⟨(va_O.moved hW.alike h1).kept hk, (va_OF.moved hW.alike h2).kept hk, (va_OF.moved hW.alike h3).kept hk, (va_T.moved hW.alike h4).kept hk⟩
theorem zs_cs.stays {U : State} (hz : zs_cs b0 s) (hW : s.WarmedH U.vm) (hq : ∀ q : Nat, q < b0 → U.heap[q]? = s.heap[q]?) : zs_cs b0 U := by
  have hk : ∀ a : Nat, a < s.heap.size → ¬ b0 ≤ a → U.heap[a]? = s.heap[a]? := fun a _ ha => hq a (by omega)
  exact ⟨(va_Z.moved hW.alike hz.1).kept hk, (va_Zq.moved hW.alike hz.2).kept hk⟩
theorem zs_fin {ret : Option FieldType} {below' : List Frame} {s' : State} {R' : Room} {v : Int32} (hh : zz_hr b0 ad tc D cl h H) (hS : zz_fr b0 s'.heap H []) (hc : R'.cells = 0) (hs : R'.slots = 0) : ∀ t, MQ below' (fun _ _ o' t => o' = zz_o ad (.returned (some (.int v))) ∧ t.heap = H) args s' 0 0 (fun q => b0 ≤ q) t → zz_Fin b0 ad tc D cl below' s' R' (.returned (some (.int v))) h 0 0 t := zz_fin_of hh hS (by omega) (by omega)
end ZS
