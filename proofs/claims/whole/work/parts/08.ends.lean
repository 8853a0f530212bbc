/-! ends and calls -/
def zz_o (ad : Nat → Nat) : Outcome → Outcome
  | .returned v => .returned (v.map (zz_v ad))
  | .threw a => .threw (ad a)
/-- how an invocation has ended: the outcome, what is new and written, the room that is left, the heap -/
def zz_Fin (b0 : Nat) (ad : Nat → Nat) (tc : Nat → ClassId) (D : va_G) (cl : List vw_C) (below : List Frame) (s : State) (R : Room) (o : Outcome) (h' : zz_H) (bc' bs' : Nat) : State → Prop := fun t =>
  ∃ (L : List Loc) (k n : Nat), t.status = .running ∧ Ended t below (zz_o ad o) ∧ s.WarmedH t.vm ∧ s.sameButNew ({ t with vm := s.vm } : State) L k n ∧ (∀ q ∈ L, b0 ≤ q.base) ∧ k + bc' ≤ R.cells ∧ n + bs' ≤ R.slots ∧ zz_hr b0 ad tc D cl h' t.heap ∧ zz_fr b0 s.heap t.heap []
section ZZC
variable {p : Program} {l : Launch} {e : Env} {R : Room} {s : State} {m : MethodId} {args : Array Value} {below : List Frame} {meth : Method} {c : Code} {H : Heap} {locs : List Loc} {cells slots : Nat} {Q Q' : State → Prop}
variable {cc : ByteArray} {pc : Nat} {ls : Array Slot} {D : va_G} {cl : List vw_C} {b0 : Nat} {ad : Nat → Nat} {tc : Nat → ClassId} {h h' : zz_H} {bc bs bc' bs' : Nat}
theorem zz_mono {g : JFrame} (hq : ∀ t, Q t → Q' t) (k : W p l e R s m args below meth c H locs cells slots Q g) : W p l e R s m args below meth c H locs cells slots Q' g := fun T hT X => by
  obtain ⟨t, a1, b1⟩ := k T hT X
  exact ⟨t, a1, hq t b1⟩
theorem zz_fr.nil {H0 H1 : Heap} {lo : List Loc} (h : zz_fr b0 H0 H1 lo) : zz_fr b0 H0 H1 [] := ⟨h.1, h.2.1, fun q hq => by cases hq⟩
theorem zz_fin_of {o : Outcome} (hh : zz_hr b0 ad tc D cl h H) (hS : zz_fr b0 s.heap H locs) (hc : cells + bc ≤ R.cells) (hs : slots + bs ≤ R.slots) :
    ∀ t, MQ below (fun _ _ o' t => o' = zz_o ad o ∧ t.heap = H) args s cells slots (fun q => b0 ≤ q) t → zz_Fin b0 ad tc D cl below s R o h bc bs t := by
  rintro t ⟨o', h1, h2, ⟨rfl, h3⟩, L, ⟨-, h4, h5⟩, h6⟩
  exact ⟨L, cells, slots, h1, h2, h4, h5, h6, hc, hs, by rw [h3]; exact hh, by rw [h3]; exact hS.nil⟩
theorem zz_rt_ok (hx : p.tables.exec = Jvm.exec) (hb : c.code = cc) {Z : zz_Z} {M n : Nat} {i : Instr} {r : List Nat} {st : List Value} {o : Outcome} (hr : meth.sig.returnType = zz_ret Z M) (hlocks : meth.locks = false) (hnew : ∀ idx, i ≠ .new idx)
    (hh : zz_hr b0 ad tc D cl h H) (hS : zz_fr b0 s.heap H locs) (hc : cells + bc ≤ R.cells) (hs : slots + bs ≤ R.slots) (hdg : decode cc pc = .ok (i, n)) (hn : n = zz_len i) (ho : zz_rt Z M i r st h bc bs = some (o, h', bc', bs')) :
    W p l e R s m args below meth c H locs cells slots (zz_Fin b0 ad tc D cl below s R o h' bc' bs') (F0 m pc ls (st.map (zz_v ad))) := by
  subst hn
  have hf : ∀ q ∈ locs, b0 ≤ q.base := hS.2.2
  unfold zz_rt at ho
  split at ho
  · split at ho
    · next v ty hty =>
      split at ho
      · next hnar =>
        cases ho
        rw [hty] at hr
        exact zz_mono (zz_fin_of hh hS hc hs) (W.zret hx hb hr hnar (fun t ht _ => ⟨rfl, ht⟩) hf hdg hlocks)
      · cases ho
    · cases ho
  · split at ho
    · next v hty =>
      cases ho
      rw [hty] at hr
      exact zz_mono (zz_fin_of hh hS hc hs) (W.lret hx hb hr (fun t ht _ => ⟨rfl, ht⟩) hf hdg hlocks)
    · cases ho
  · split at ho
    · next v nm hty =>
      cases ho
      rw [hty] at hr
      exact zz_mono (zz_fin_of hh hS hc hs) (W.aret hx hb hr (Or.inl ⟨_, rfl⟩) (Or.inr ⟨_, rfl⟩) (fun t ht _ => ⟨rfl, ht⟩) hf hdg hlocks)
    · next nm hty =>
      cases ho
      rw [hty] at hr
      exact zz_mono (zz_fin_of hh hS hc hs) (W.aret hx hb hr (Or.inl ⟨_, rfl⟩) (Or.inl rfl) (fun t ht _ => ⟨rfl, ht⟩) hf hdg hlocks)
    · cases ho
  · split at ho
    · next hty =>
      cases ho
      rw [hty] at hr
      exact zz_mono (zz_fin_of hh hS hc hs) (W.vret hx hb hr (fun t ht _ => ⟨rfl, ht⟩) hf hdg hlocks)
    · cases ho
  · next idx => exact absurd rfl (hnew idx)
  · cases ho
theorem zz_fr.next {H0 H1 H2 : Heap} {l1 l2 : List Loc} (h1 : zz_fr b0 H0 H1 l1) (h2 : zz_fr b0 H1 H2 []) (hl : ∀ q ∈ l2, b0 ≤ q.base) : zz_fr b0 H0 H2 (l1 ++ l2) :=
  ⟨Nat.le_trans h1.1 h2.1, fun q g1 g2 => (h2.2.1 q (Nat.lt_of_lt_of_le g1 h1.1) g2).trans (h1.2.1 q g1 g2), fun q hq => (List.mem_append.mp hq).elim (h1.2.2 q) (hl q)⟩
/-- A CALL: into the callee, and out of it, by a return or by an exception -/
theorem zz_call (hml : c.maxLocals = ls.size) {ig : Instr} (hdg : decode c.code pc = .ok (ig, 3)) {stk rest : List Value} {mk : MethodId} {methk : Method} {ck : Code} (hmk : s.vm.method? mk = some methk) (hck : methk.code = some ck) (hlk : methk.locks = false) (hpk : ∀ U : State, s.WarmedH U.vm → U.plainMethod mk)
    {A : Array Value} {R' : Room} (hframes : R'.frames + 1 ≤ R.frames) (hlocals : (rest.map fun v => v.category).sum + (ck.maxLocals + 11) + R'.locals ≤ R.locals) (hcells : cells + R'.cells ≤ R.cells) (hslots : slots + R'.slots ≤ R.slots)
    (hgo : ∀ T : State, T.heap = H → Stand p l e R s m args below meth c T locs cells slots → ∃ vm₁, Stand p l e R s m args below meth c (T.setVm vm₁) locs cells slots ∧ ∀ target, (∀ acts, Steps p.tables e below (doInvoke e ((T.setVm vm₁).setTop (F0 m pc ls rest)) acts mk A).1 target) → Steps p.tables e below (T.setTop (F0 m pc ls stk)) target)
    {o : Outcome} (hS : zz_fr b0 s.heap H locs)
    (hcallee : ∀ s' : State, s'.heap = H → s.WarmedH s'.vm → W p l e R' s' mk A (.java (F0 m pc ls rest) :: below) methk ck H [] 0 0 (zz_Fin b0 ad tc D cl (.java (F0 m pc ls rest) :: below) s' R' o h' bc' bs') (entryFrame mk A ck.maxLocals))
    (hret : ∀ v, o = .returned v → ∀ (H1 : Heap) (locs1 : List Loc) (k n : Nat), zz_hr b0 ad tc D cl h' H1 → zz_fr b0 s.heap H1 locs1 → k + bc' ≤ R'.cells → n + bs' ≤ R'.slots → W p l e R s m args below meth c H1 locs1 (cells + k) (slots + n) Q (F0 m (pc + 3) ls ((v.map (zz_v ad)).toList ++ rest)))
    (hthr : ∀ a, o = .threw a → ∀ (H1 : Heap) (locs1 : List Loc) (k n : Nat), zz_hr b0 ad tc D cl h' H1 → zz_fr b0 s.heap H1 locs1 → k + bc' ≤ R'.cells → n + bs' ≤ R'.slots → ∀ T : State, T.heap = H1 → Stand p l e R s m args below meth c T locs1 (cells + k) (slots + n) → ∃ t, Steps p.tables e below ((T.setTop (F0 m pc ls rest)).pushFrame (.throwing (ad a))) t ∧ Q t) :
    W p l e R s m args below meth c H locs cells slots Q (F0 m pc ls stk) := by
  intro T hT X
  obtain ⟨vm₁, X₁, hst⟩ := hgo T hT X
  obtain ⟨Y₀, hin⟩ := X₁.into (g := F0 m pc ls rest) rfl hml.symm hdg A (R' := R') (by rw [X₁.warmed.alike.method?]; exact hmk) hck hlk (hpk _ X₁.warmed) hframes (by show 2 * 0 + (rest.map fun v => v.category).sum + _ + _ ≤ _; omega) hcells hslots
  obtain ⟨t, st, L, k, n, hrun, hend, hW, hsame, hL, hk, hn, hh', hfr⟩ := hcallee ((T.setVm vm₁).calling (F0 m pc ls rest) mk A) hT X₁.warmed (((T.setVm vm₁).setTop (F0 m pc ls rest)).pushFrame (Frame.java (entryFrame mk A ck.maxLocals))) hT Y₀
  have hst2 : ∀ acts, Steps p.tables e below (doInvoke e ((T.setVm vm₁).setTop (F0 m pc ls rest)) acts mk A).1 t := fun acts => by
    rw [hin acts]
    exact Steps.weaken (mid := [.java (F0 m pc ls rest)]) st
  have hfr2 : zz_fr b0 s.heap t.heap (locs ++ L) := hS.next (by rw [← hT]; exact hfr) hL
  cases o with
  | returned v =>
    obtain ⟨T', X', hW', hB', ht⟩ := X₁.outOf (g := F0 m pc ls rest) rfl hdg hend hW hsame
    have e1 : t.heap = T'.heap := by rw [ht]; rfl
    obtain ⟨t2, a1, b1⟩ := hret v rfl t.heap (locs ++ L) k n hh' hfr2 hk hn T' e1.symm X'
    refine ⟨t2, hst t2 (fun acts => (hst2 acts).trans ?_), b1⟩
    rw [ht]
    exact a1
  | threw a =>
    obtain ⟨T', X', hW', hB', ht⟩ := X₁.outOfThrown (g := F0 m pc ls rest) rfl hend hW hsame
    have e1 : t.heap = T'.heap := by rw [ht]; rfl
    obtain ⟨t2, a1, b1⟩ := hthr a rfl t.heap (locs ++ L) k n hh' hfr2 hk hn T' e1.symm X'
    refine ⟨t2, hst t2 (fun acts => (hst2 acts).trans ?_), b1⟩
    rw [ht]
    exact a1
end ZZC
