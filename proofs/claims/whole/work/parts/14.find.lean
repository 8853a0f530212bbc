/-! the search for a handler; a method's entry -/
/-- the handlers as the class file has them, beside the small machine's: each names a class of EX by a link among the words -/
def zz_hok (Ts : List Cond) (cl : List vw_C) (EX : List Nat) (own : String) : List (Nat × Nat × Nat × Nat) → List (Nat × Nat × Nat × Nat) → Prop
  | [], [] => True
  | (a, b, q, x) :: xs, (a', b', q', ci) :: ys => a = a' ∧ b = b' ∧ q = q' ∧ x ≠ 0 ∧ ci ∈ EX ∧ (∃ r, cl[ci]? = some r ∧ Cond.classLink own x r.1 ∈ Ts) ∧ zz_hok Ts cl EX own xs ys
  | _, _ => False
theorem zz_fh_EX {Ts : List Cond} {cl : List vw_C} {EX : List Nat} {own : String} {pc ci q : Nat} : ∀ (xs ys : List (Nat × Nat × Nat × Nat)), zz_hok Ts cl EX own xs ys → zz_fh ys pc ci = some q → ci ∈ EX
  | [], [], _, h => by cases h
  | [], _ :: _, h, _ => h.elim
  | _ :: _, [], h, _ => h.elim
  | (a, b, q0, x) :: xs, (a', b', q', cj) :: ys, h, hf => by
    obtain ⟨-, -, -, -, h5, -, h7⟩ := h
    unfold zz_fh at hf
    split at hf
    · next hc => rw [← hc.2.2]; exact h5
    · exact zz_fh_EX xs ys h7 hf
section ZZ7
variable {p : Program} {l : Launch} {e : Env} {R : Room} {s : State} {m : MethodId} {args : Array Value} {below : List Frame} {meth : Method} {c : Code} {T U : State} {locs : List Loc} {cells slots : Nat}
variable {D : va_G} {cl : List vw_C} {tys : List (ClassId × FieldType)} {Ts : List Cond} {EX : List Nat} {own : String}
theorem zz_find (hpl : e.platform.magicAccessors = ({} : Platform).magicAccessors) (hown : s.vm.findClass own = some m.cls) (hts : ∀ w ∈ Ts, w.before args s = true) (hK : va_K D cl tys s) (hNA : ∀ ci ∈ EX, ∀ cj ∈ EX, ci ≠ cj → s.vm.assignable (D.1 ci) (D.1 cj) = false)
    {a ci : Nat} (hci : ci ∈ EX) {cell : Cell} (hcell : U.heap[a]? = some cell) (hcls : cell.cls = D.1 ci) (hkC0 : ∃ kC, s.vm.classes[cell.cls]? = some kC) (hvm : cell.vm = .none) {g : JFrame} (hg : g.method = m) {q : Nat} :
    ∀ (xs : List ExceptionTableEntry) (hs ys : List (Nat × Nat × Nat × Nat)), xs.map (fun h => (h.startPc, h.endPc, h.handlerPc, h.catchType)) = hs → zz_hok Ts cl EX own hs ys → ∀ w0 : Vm, s.WarmedH w0 → zz_fh ys g.pc ci = some q →
      ∃ vm', s.WarmedH vm' ∧ ∀ (Q : Handler → Pre) (E : CtlPost) (d : Bool) (acts : List Action), Q (.found q) d acts (U.setVm vm') → wp (findHandler.go g a xs) Q E e d acts (U.setVm w0)
  | [], hs, ys, h1, h2, w0, hW, hf => by
    subst h1
    cases ys with
    | nil => cases hf
    | cons y ys => exact h2.elim
  | x :: xs, hs, ys, h1, h2, w0, hW, hf => by
    subst h1
    cases ys with
    | nil => exact h2.elim
    | cons y ys =>
      obtain ⟨a', b', q', cj⟩ := y
      obtain ⟨e1, e2, e3, e4, e5, ⟨r, e6, e7⟩, e8⟩ := h2
      unfold zz_fh at hf
      by_cases hcov : covers x g.pc = true
      · have hrng : a' ≤ g.pc ∧ g.pc < b' := by
          rw [← e1, ← e2]
          simpa [covers] using hcov
        obtain ⟨c', hc', hcl⟩ := Cond.classLink_spec hown (hts _ e7) e.platform hpl
        obtain ⟨-, hfc, -⟩ := hK.1 cj r e6
        cases hfc.symm.trans hc'
        obtain ⟨dk, _, _, kt, hd, _, _, _, _, hkt, _, hopen⟩ := hcl.here
        have hcl₀ := hW.classLinks hcl
        have hW' : s.WarmedH (w0.noted m.cls x.catchType (.cls (D.1 cj))) := hW.noted hd hopen (State.rightAt_cls hcl)
        obtain ⟨kt', hkt', -⟩ := hW'.alike.2.2 _ _ hkt
        have hkc : ∃ k, (w0.noted m.cls x.catchType (.cls (D.1 cj))).classes[cell.cls]? = some k := by
          obtain ⟨kC, hkC⟩ := hkC0
          obtain ⟨k', hk', -⟩ := hW'.alike.2.2 _ _ hkC
          exact ⟨k', hk'⟩
        have hsz : (w0.noted m.cls x.catchType (.cls (D.1 cj))).classes.size ≤ (U.setVm w0).vm.classes.size := by
          show _ ≤ w0.classes.size
          rw [Vm.size_noted]
          exact Nat.le_refl _
        have hgv : (Jvm.resolveClass g.method.cls x.catchType).Gives e.toSetting (U.setVm w0).vm (.ok (D.1 cj)) (w0.noted m.cls x.catchType (.cls (D.1 cj))) := by
          rw [hg]
          exact resolveClass_links e.toSetting hcl₀
        have hasg : (w0.noted m.cls x.catchType (.cls (D.1 cj))).assignable cell.cls (D.1 cj) = s.vm.assignable (D.1 ci) (D.1 cj) := by rw [hW'.alike.assignable, hcls]
        by_cases hij : ci = cj
        · subst hij
          rw [if_pos ⟨hrng.1, hrng.2, rfl⟩] at hf
          cases hf
          refine ⟨_, hW', fun Q E d acts hQ => (zz_fh_cold (s := U.setVm w0) hcov e4 hgv hsz hcell (fun k => by rw [hvm]; exact fun z => by cases z) hkc ⟨kt', hkt'⟩).mpr ?_⟩
          rw [if_pos (by rw [hasg]; exact va_assign (hK.1 ci r e6).2), e3]
          exact hQ
        · rw [if_neg (fun z => hij z.2.2.symm)] at hf
          obtain ⟨vm', g1, g2⟩ := zz_find hpl hown hts hK hNA hci hcell hcls hkC0 hvm hg xs _ ys rfl e8 _ hW' hf
          refine ⟨vm', g1, fun Q E d acts hQ => (zz_fh_cold (s := U.setVm w0) hcov e4 hgv hsz hcell (fun k => by rw [hvm]; exact fun z => by cases z) hkc ⟨kt', hkt'⟩).mpr ?_⟩
          rw [if_neg (by rw [hasg, hNA ci hci cj e5 hij]; decide)]
          exact g2 Q E d acts hQ
      · have hcov : covers x g.pc = false := by simpa using hcov
        rw [if_neg (fun z => by
          rw [← e1, ← e2] at z
          simp [covers, z.1, z.2.1] at hcov)] at hf
        obtain ⟨vm', g1, g2⟩ := zz_find hpl hown hts hK hNA hci hcell hcls hkC0 hvm hg xs _ ys rfl e8 w0 hW hf
        exact ⟨vm', g1, fun Q E d acts hQ => (Jvm.W.findHandler_go_skip hcov).mpr (g2 Q E d acts hQ)⟩
end ZZ7
theorem zz_arg_len (ad : Nat → Nat) : ∀ vs : List Value, (lg_sl (vs.map (zz_v ad))).length = (zz_arg vs).length
  | [] => rfl
  | v :: vs => by
    have ih := zz_arg_len ad vs
    unfold lg_sl at ih ⊢
    rw [List.map_cons, List.flatMap_cons, zz_v_cat]
    unfold zz_arg
    split <;> simp [ih]
theorem zz_arg_mem (ad : Nat → Nat) : ∀ (vs : List Value) (k i : Nat) (v : Value), (zz_arg vs)[i]? = some v → v ≠ zz_no → (k + i, zz_v ad v) ∈ lv_args k (vs.map (zz_v ad))
  | [], k, i, v, h, _ => by simp [zz_arg] at h
  | w :: vs, k, i, v, h, hv => by
    rw [List.map_cons]
    unfold lv_args
    rw [zz_v_cat]
    unfold zz_arg at h
    split at h
    · next hc =>
      cases i with
      | zero =>
        cases h
        exact List.mem_cons_self
      | succ i =>
        cases i with
        | zero =>
          simp at h
          exact absurd h.symm hv
        | succ i =>
          have := zz_arg_mem ad vs (k + 2) i v (by simpa using h) hv
          rw [if_pos hc]
          exact List.mem_cons_of_mem _ (by rw [show k + (i + 1 + 1) = k + 2 + i by omega]; exact this)
    · next hc =>
      cases i with
      | zero =>
        cases h
        exact List.mem_cons_self
      | succ i =>
        have := zz_arg_mem ad vs (k + 1) i v (by simpa using h) hv
        rw [if_neg hc]
        exact List.mem_cons_of_mem _ (by rw [show k + (i + 1) = k + 1 + i by omega]; exact this)
theorem zz_entry (ad : Nat → Nat) (m : MethodId) (vs : List Value) (n : Nat) (h : (zz_arg vs).length ≤ n) : ∃ ls : Array Slot, entryFrame m (vs.map (zz_v ad)).toArray n = F0 m 0 ls [] ∧ zz_lr ad ls n (zz_ent n vs) := by
  refine ⟨_, lg_entry_eq m _ n, ?_⟩
  obtain ⟨h1, h2, h3⟩ := lv_entry (vs.map (zz_v ad)) (n := n) (by rw [zz_arg_len]; exact h)
  refine ⟨h1, by unfold zz_ent; rw [List.length_append, List.length_replicate]; omega, h2, fun i v hi hv => ?_⟩
  unfold zz_ent at hi
  by_cases hlt : i < (zz_arg vs).length
  · rw [List.getElem?_append_left hlt] at hi
    have := zz_arg_mem ad vs 0 i v hi hv
    rw [Nat.zero_add] at this
    exact h3 _ this
  · rw [List.getElem?_append_right (by omega)] at hi
    exact absurd (List.eq_of_mem_replicate (List.mem_of_getElem? hi)) hv
