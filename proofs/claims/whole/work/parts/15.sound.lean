/-! THE SMALL MACHINE IS SOUND -/
/-- the invocation is one of the method M -/
def zz_me (Z : zz_Z) (Y : zz_Y) (M : Nat) (s : State) (m : MethodId) (meth : Method) (c : Code) : Prop := s.vm.findClass (Y.1 M).cls = some m.cls ∧ c.code = Y.2.1 M ∧ c.maxLocals = zz_mxl Z M ∧ meth.sig.returnType = zz_ret Z M ∧ meth.locks = false ∧ meth.name = (Y.1 M).name ∧ c.exceptionTable.toList.map (fun h => (h.startPc, h.endPc, h.handlerPc, h.catchType)) = Y.2.2 M
/-- frames and words that a call which is no bytecode of the tables wants -/
def zz_nd : Nat → Nat × Nat
  | 2 => (1, 28)
  | 3 => (7, 180)
  | _ => (4, 140)
/-- frames and words that a method wants: by the calls in it -/
def zz_rk (Z : zz_Z) (K : Nat → Nat × Nat) (M : Nat) (i : Instr) (r : List Nat) : Prop := match i with
  | .invokespecial _ | .invokestatic _ | .invokevirtual _ => (∀ N n kd ci, r = [1, N, n, kd, ci] → (K N).1 + 1 ≤ (K M).1 ∧ 8 + (zz_mxl Z N + 11) + (K N).2 ≤ (K M).2) ∧ (∀ x, r.head? = some x → x ≠ 1 → (zz_nd x).1 ≤ (K M).1 ∧ (zz_nd x).2 ≤ (K M).2)
  | .new _ => ∀ a ci sl, r = [a, ci, sl] → 7 ≤ (K M).1 ∧ 180 ≤ (K M).2
  | _ => True
def zz_TAB (Z : zz_Z) (Y : zz_Y) (K : Nat → Nat × Nat) (Ts : List Cond) (cl : List vw_C) (tys : List (ClassId × FieldType)) (tc : Nat → ClassId) (AO : List String) (SR : List (String × Nat × String × Nat)) (EX : List Nat) : Prop :=
  (∀ M pc i n r, zz_cod Z M pc = some (i, n, r) → decode (Y.2.1 M) pc = .ok (i, n) ∧ (n = zz_len i ∨ zz_isw i = true) ∧ zz_tg i r pc ∧ zz_LK Z Y Ts cl tys tc AO SR M i r ∧ zz_rk Z K M i r) ∧
  (∀ M, zz_hok Ts cl EX (Y.1 M).cls (Y.2.2 M) (zz_hnd Z M)) ∧ zz_T4 tys tc ∧ zz_good Ts
/-- what the user's own property of a state gives -/
def zz_SX (AO : List String) (SR : List (String × Nat × String × Nat)) (EX : List Nat) (D : va_G) (sa : Nat → Nat) (b b0 : Nat) (X : Nat × (Nat → Int32)) (Sx : State → Prop) : Prop := zz_stable b0 Sx ∧ b < b0 ∧ ∀ s, Sx s →
  (∀ C ∈ AO, ∀ a, (Cond.arrayOver (.object C)).before a s = true) ∧ (∀ q ∈ SR, vk_R q.1 q.2.1 q.2.2.1 (sa q.2.2.2) s ∧ q.2.2.2 < 1000000) ∧ (∀ ci ∈ EX, ∀ cj ∈ EX, ci ≠ cj → s.vm.assignable (D.1 ci) (D.1 cj) = false) ∧ va_X b X.1 X.2 s s.heap
/-- the calls that are no bytecode of the tables are sound: to be shown one by one -/
def zz_SP (l : Launch) (Z : zz_Z) (Y : zz_Y) (K : Nat → Nat × Nat) (X : Nat × (Nat → Int32)) (Ts : List Cond) (cl : List vw_C) (tys : List (ClassId × FieldType)) (tc : Nat → ClassId) (D : va_G) (Sx : State → Prop) (b0 b : Nat) (sa : Nat → Nat) : Prop :=
  ∀ (M pc n : Nat) (i : Instr) (r : List Nat) (st st' : List Value) (h h' : zz_H) (bc bs pc' bc' bs' : Nat), zz_cod Z M pc = some (i, n, r) → zz_sp i r = true → zz_kd i r = 1 → zz_wt st ≤ 16 → zz_st2 Z X i r pc st h bc bs = some (pc', st', h', bc', bs') →
  ∀ (p : Program) (e : Env) (R : Room) (s : State) (m : MethodId) (args : Array Value) (below : List Frame) (meth : Method) (c : Code) (H : Heap) (locs : List Loc) (cells slots : Nat) (Q : State → Prop) (ls : Array Slot),
    p.tables.exec = Jvm.exec → zz_amb Ts D cl tys Sx s → zz_me Z Y M s m meth c → c.maxLocals = ls.size → (K M).1 ≤ R.frames → (K M).2 ≤ R.locals → b0 ≤ s.heap.size → zz_hr b0 (zz_ad b0 sa b) tc D cl h H → zz_fr b0 s.heap H locs → cells + bc ≤ R.cells → slots + bs ≤ R.slots →
    (∀ (H1 : Heap) (locs1 : List Loc) (cells1 slots1 : Nat), zz_hr b0 (zz_ad b0 sa b) tc D cl h' H1 → zz_fr b0 s.heap H1 locs1 → cells1 + bc' ≤ R.cells → slots1 + bs' ≤ R.slots → W p l e R s m args below meth c H1 locs1 cells1 slots1 Q (F0 m pc' ls (st'.map (zz_v (zz_ad b0 sa b))))) →
    W p l e R s m args below meth c H locs cells slots Q (F0 m pc ls (st.map (zz_v (zz_ad b0 sa b))))
/-- an exception: new, dup, its constructor, athrow: to be shown -/
def zz_TH (l : Launch) (Z : zz_Z) (Y : zz_Y) (K : Nat → Nat × Nat) (Ts : List Cond) (cl : List vw_C) (tys : List (ClassId × FieldType)) (tc : Nat → ClassId) (D : va_G) (Sx : State → Prop) (b0 b : Nat) (sa : Nat → Nat) : Prop :=
  ∀ (M pc n idx ci sl : Nat) (st : List Value) (h : zz_H) (bc bs : Nat), zz_cod Z M pc = some (.new idx, n, [3, ci, sl]) → zz_hnd Z M = [] → 1 ≤ bc → sl ≤ bs → h.length < zz_SB → st.length < 5 →
  ∀ (p : Program) (e : Env) (R : Room) (s : State) (m : MethodId) (args : Array Value) (below : List Frame) (meth : Method) (c : Code) (H : Heap) (locs : List Loc) (cells slots : Nat) (ls : Array Slot),
    p.tables.exec = Jvm.exec → zz_amb Ts D cl tys Sx s → zz_me Z Y M s m meth c → c.maxLocals = ls.size → 7 ≤ R.frames → 180 ≤ R.locals → b0 ≤ s.heap.size → zz_hr b0 (zz_ad b0 sa b) tc D cl h H → zz_fr b0 s.heap H locs → cells + bc ≤ R.cells → slots + bs ≤ R.slots →
    W p l e R s m args below meth c H locs cells slots (zz_Fin b0 (zz_ad b0 sa b) tc D cl below s R (.threw h.length) (h ++ [.inr (ci, [])]) (bc - 1) (bs - sl)) (F0 m pc ls (st.map (zz_v (zz_ad b0 sa b))))
theorem zz_ck_of {Z : zz_Z} {Y : zz_Y} {Ts : List Cond} {cl : List vw_C} {tys : List (ClassId × FieldType)} {tc : Nat → ClassId} {AO : List String} {SR : List (String × Nat × String × Nat)} {M : Nat} {i : Instr} {r : List Nat} {args : Array Value} {s : State} {sa : Nat → Nat} (h : zz_LK Z Y Ts cl tys tc AO SR M i r) (hts : ∀ w ∈ Ts, w.before args s = true) (hSR : ∀ q ∈ SR, vk_R q.1 q.2.1 q.2.2.1 (sa q.2.2.2) s ∧ q.2.2.2 < 1000000) : zz_ck (Y.1 M).cls i r args s sa := by
  cases i with
  | ldc k => exact ⟨fun b hb => hts _ (h.1 b hb), fun j hj => by
      obtain ⟨tx, h1⟩ := h.2 j hj
      exact ⟨tx, hSR _ h1⟩⟩
  | ldc_w k => exact ⟨fun b hb => hts _ (h.1 b hb), fun j hj => by
      obtain ⟨tx, h1⟩ := h.2 j hj
      exact ⟨tx, hSR _ h1⟩⟩
  | ldc2_w k => exact fun b hb => hts _ (h b hb)
  | _ => exact trivial
section ZZS
variable {l : Launch} {Z : zz_Z} {Y : zz_Y} {K : Nat → Nat × Nat} {X : Nat × (Nat → Int32)} {Ts : List Cond} {cl : List vw_C} {tys : List (ClassId × FieldType)} {tc : Nat → ClassId} {D : va_G} {Sx : State → Prop} {b0 b : Nat} {sa : Nat → Nat} {AO : List String} {SR : List (String × Nat × String × Nat)} {EX : List Nat}
/-- what the small machine has run, the real one runs -/
def zz_Runs (l : Launch) (Z : zz_Z) (Y : zz_Y) (K : Nat → Nat × Nat) (Ts : List Cond) (cl : List vw_C) (tys : List (ClassId × FieldType)) (tc : Nat → ClassId) (D : va_G) (Sx : State → Prop) (b0 b : Nat) (sa : Nat → Nat) (M pc : Nat) (L st : List Value) (h : zz_H) (bc bs : Nat) (o : Outcome) (h' : zz_H) (bc' bs' : Nat) : Prop :=
  ∀ (p : Program) (e : Env) (R : Room) (s : State) (m : MethodId) (args : Array Value) (below : List Frame) (meth : Method) (c : Code) (H : Heap) (locs : List Loc) (cells slots : Nat) (ls : Array Slot),
    p.tables.exec = Jvm.exec → zz_amb Ts D cl tys Sx s → zz_me Z Y M s m meth c → (K M).1 ≤ R.frames → (K M).2 ≤ R.locals → b0 ≤ s.heap.size → zz_lr (zz_ad b0 sa b) ls (zz_mxl Z M) L → zz_hr b0 (zz_ad b0 sa b) tc D cl h H → zz_fr b0 s.heap H locs → cells + bc ≤ R.cells → slots + bs ≤ R.slots →
    W p l e R s m args below meth c H locs cells slots (zz_Fin b0 (zz_ad b0 sa b) tc D cl below s R o h' bc' bs') (F0 m pc ls (st.map (zz_v (zz_ad b0 sa b))))
/-- the invoking instruction's arguments, and where it comes to -/
theorem zz_go {M N n kd ci pc idx : Nat} {r : List Nat} {i : Instr} {st vs t : List Value} {h : zz_H} {p : Program} {e : Env} {R : Room} {s : State} {m : MethodId} {args : Array Value} {below : List Frame} {meth : Method} {c : Code} {H : Heap} {locs : List Loc} {cells slots : Nat} {ls : Array Slot} {mk : MethodId} {methk : Method}
    (hx : p.tables.exec = Jvm.exec) (hown : s.vm.findClass (Y.1 M).cls = some m.cls) (hts : ∀ w ∈ Ts, w.before args s = true) (hK : va_K D cl tys s) (hh : zz_hr b0 (zz_ad b0 sa b) tc D cl h H)
    (hn : s.methodNamed? (Y.1 N) = some mk) (hm : s.vm.method? mk = some methk) (hsig : parseMethodDescriptor (Y.1 N).desc = some methk.sig) (hcl : zz_cl Z Y Ts cl (Y.1 M).cls idx N n kd ci)
    (hkd : (kd = 0 ∧ i = .invokestatic idx) ∨ (kd = 1 ∧ i = .invokevirtual idx) ∨ (kd = 2 ∧ i = .invokespecial idx)) (hdg : decode c.code pc = .ok (i, 3)) (hav : zz_av st [1, N, n, kd, ci] h = some (N, vs, t)) :
    ∀ T : State, T.heap = H → Stand p l e R s m args below meth c T locs cells slots → ∃ vm₁, Stand p l e R s m args below meth c (T.setVm vm₁) locs cells slots ∧ ∀ target, (∀ acts, Steps p.tables e below (doInvoke e ((T.setVm vm₁).setTop (F0 m pc ls (t.map (zz_v (zz_ad b0 sa b))))) acts mk (vs.map (zz_v (zz_ad b0 sa b))).toArray).1 target) → Steps p.tables e below (T.setTop (F0 m pc ls (st.map (zz_v (zz_ad b0 sa b))))) target := by
  intro T hT XX
  obtain ⟨w1, w2, w3, w4, w5, w6⟩ := hcl
  have hlen := w4 _ hsig
  rcases hkd with ⟨rfl, rfl⟩ | ⟨rfl, rfl⟩ | ⟨rfl, rfl⟩
  · rcases w6 with ⟨-, q1, q2⟩ | ⟨q, -⟩ | ⟨q, -⟩
    · simp only [zz_av] at hav
      split at hav
      · next hl =>
        cases hav
        have h1 := zz_go_s (T := T) (pc := pc) (ls := ls) (argsL := ((st.take n).reverse).map (zz_v (zz_ad b0 sa b))) (rest := (st.drop n).map (zz_v (zz_ad b0 sa b))) XX hx hown (w1.ml hts) (hts _ q1) (hts _ q2) hn hm w2 (by rw [List.length_map, List.length_reverse, List.length_take]; omega) hdg
        have e1 : ((List.map (zz_v (zz_ad b0 sa b)) (st.take n).reverse).reverse ++ (st.drop n).map (zz_v (zz_ad b0 sa b))) = st.map (zz_v (zz_ad b0 sa b)) := by
          rw [← List.map_reverse, List.reverse_reverse, ← List.map_append, List.take_append_drop]
        rw [e1] at h1
        exact h1
      · cases hav
    · cases q
    · cases q
  · rcases w6 with ⟨q, -⟩ | ⟨-, q1, rr, q2, q3⟩ | ⟨q, -⟩
    · cases q
    · simp only [zz_av] at hav
      split at hav
      · next a ha =>
        split at hav
        · next c0 fs hf =>
          split at hav
          · next hc =>
            subst hc
            cases hav
            obtain ⟨r0, g0, cell, g1, g2, g3, -⟩ := hh.at hf
            have hfc := (hK.1 _ rr q2).2.1
            have h1 := zz_go_v (T := T) (pc := pc) (ls := ls) (argsL := ((st.take n).reverse).map (zz_v (zz_ad b0 sa b))) (rest := (st.drop (n + 1)).map (zz_v (zz_ad b0 sa b))) XX hx hown (w1.ml hts) (hts _ q1) (hts _ q3) hn hm w2 (by
                have := (List.getElem?_eq_some_iff.mp ha).1
                rw [List.length_map, List.length_reverse, List.length_take]; omega) hdg (by rw [hT]; exact g1) (by rw [g3]; rfl) (by rw [g2]; exact hfc)
            have e1 : ((List.map (zz_v (zz_ad b0 sa b)) (st.take n).reverse).reverse ++ .ref (zz_ad b0 sa b a) :: (st.drop (n + 1)).map (zz_v (zz_ad b0 sa b))) = st.map (zz_v (zz_ad b0 sa b)) := by
              rw [← List.map_reverse, List.reverse_reverse]
              have e2 : st = st.take n ++ .ref a :: st.drop (n + 1) := by
                obtain ⟨hl, he⟩ := List.getElem?_eq_some_iff.mp ha
                rw [← he, List.getElem_cons_drop, List.take_append_drop]
              conv => rhs; rw [e2]
              rw [List.map_append, List.map_cons]
              rfl
            rw [e1] at h1
            exact h1
          · cases hav
        · cases hav
      · cases hav
    · cases q
  · rcases w6 with ⟨q, -⟩ | ⟨q, -⟩ | ⟨-, q1, q2, q3, q4⟩
    · cases q
    · cases q
    · simp only [zz_av] at hav
      split at hav
      · next a ha =>
        split at hav
        · next c0 fs hf =>
          split at hav
          · next hc =>
            subst hc
            cases hav
            have h1 := zz_go_i (T := T) (pc := pc) (ls := ls) (b := zz_ad b0 sa b a) (argsL := ((st.take n).reverse).map (zz_v (zz_ad b0 sa b))) (rest := (st.drop (n + 1)).map (zz_v (zz_ad b0 sa b))) XX hx hown (w1.ml hts) (hts _ q1) q2 (hts _ q4) hn w2 (fun sig hs => by
                have := (List.getElem?_eq_some_iff.mp ha).1
                rw [← w4 sig hs, List.length_map, List.length_reverse, List.length_take]; omega) hdg
            have e1 : ((List.map (zz_v (zz_ad b0 sa b)) (st.take n).reverse).reverse ++ .ref (zz_ad b0 sa b a) :: (st.drop (n + 1)).map (zz_v (zz_ad b0 sa b))) = st.map (zz_v (zz_ad b0 sa b)) := by
              rw [← List.map_reverse, List.reverse_reverse]
              have e2 : st = st.take n ++ .ref a :: st.drop (n + 1) := by
                obtain ⟨hl, he⟩ := List.getElem?_eq_some_iff.mp ha
                rw [← he, List.getElem_cons_drop, List.take_append_drop]
              conv => rhs; rw [e2]
              rw [List.map_append, List.map_cons]
              rfl
            rw [e1] at h1
            exact h1
          · cases hav
        · cases hav
      · cases hav
end ZZS
