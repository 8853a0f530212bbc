/-! the instructions on the heap -/
section ZZ2
variable {p : Program} {l : Launch} {e : Env} {R : Room} {s : State} {m : MethodId} {args : Array Value} {below : List Frame} {meth : Method} {c : Code} {H H0 : Heap} {locs : List Loc} {cells slots : Nat} {Q : State → Prop}
variable {cc : ByteArray} {pc : Nat} {ls : Array Slot} {rest : List Value} {D : va_G} {cl : List vw_C} {tys : List (ClassId × FieldType)}
variable {b0 b : Nat} {sa : Nat → Nat} {tc : Nat → ClassId} {h : zz_H} {own : String}
/-- a class of the table, its fields' words among Ts, their types, their names apart -/
def zz_cls (cl : List vw_C) (Ts : List Cond) (ft : Nat → FieldType) (ci : Nat) (C : String) (T : u_T) (N : Nat) : Prop := cl[ci]? = some (C, T, N) ∧ (∀ w ∈ u_ws C T N, w ∈ Ts) ∧ (∀ k, k < N → parseFieldDescriptor (T k).2.2.1 = some (ft k)) ∧ ∀ a, a < N → ∀ b, b < N → a ≠ b → (T a).2.1 ≠ (T b).2.1
/-- a field's link from the class own -/
def zz_lnk (own : String) (idx : Nat) (T : u_T) (k : Nat) (args : Array Value) (s : State) : Prop := (Cond.fieldLink own idx (T k).1 (T k).2.1 (T k).2.2.1).before args s = true ∨ ∃ host, (Cond.fieldLinkNest own idx (T k).1 (T k).2.1 (T k).2.2.1 host).before args s = true
theorem zz_get (hx : p.tables.exec = Jvm.exec) (hb : c.code = cc) (hown : s.vm.findClass own = some m.cls) {Ts : List Cond} (hts : ∀ w ∈ Ts, w.before args s = true) (hK : va_K D cl tys s) {ft : Nat → FieldType} {ci N idx a k : Nat} {C : String} {T : u_T} (hC : zz_cls cl Ts ft ci C T N) (hk : k < N) (hL : zz_lnk own idx T k args s)
    (hh : zz_hr b0 (zz_ad b0 sa b) tc D cl h H) {fs : List Value} (ha : h[a]? = some (.inr (ci, fs))) {v : Value} (hv : fs[k]? = some v) (hdg : decode cc pc = .ok (.getfield idx, 3))
    (kk : W p l e R s m args below meth c H locs cells slots Q (F0 m (pc + 3) ls (zz_v (zz_ad b0 sa b) v :: rest))) : W p l e R s m args below meth c H locs cells slots Q (F0 m pc ls (.ref (zz_ad b0 sa b a) :: rest)) := by
  have hP : va_P D cl [(zz_ad b0 sa b a, zz_e (zz_ad b0 sa b) tc (.inr (ci, fs)))] H := fun j q hq => by
    have hj : j < 1 := (List.getElem?_eq_some_iff.mp hq).1
    rw [show j = 0 by omega] at hq
    cases hq
    exact hh.at ha
  have hv' : (fs.map (zz_v (zz_ad b0 sa b)))[k]? = some (zz_v (zz_ad b0 sa b) v) := by rw [List.getElem?_map, hv]; rfl
  rcases hL with hL | ⟨host, hL⟩
  · exact va_get hx hb hts hC.2.1 hown hK hP 0 rfl hC.1 k hk hL (fun _ z => z) hv' hdg kk
  · exact va_getN hx hb hts hC.2.1 hown hK hP 0 rfl hC.1 k hk hL (fun _ z => z) hv' hdg kk
theorem zz_put (hx : p.tables.exec = Jvm.exec) (hb : c.code = cc) (hown : s.vm.findClass own = some m.cls) {Ts : List Cond} (hts : ∀ w ∈ Ts, w.before args s = true) (hK : va_K D cl tys s) {ft : Nat → FieldType} {ci N idx a k : Nat} {C : String} {T : u_T} (hC : zz_cls cl Ts ft ci C T N) (hk : k < N) (hL : zz_lnk own idx T k args s)
    (hfin : (T k).2.2.2 = false ∨ ((T k).2.2.2 = true ∧ meth.name = "<init>" ∧ (T k).1 = own ∧ (Cond.fieldLink own idx (T k).1 (T k).2.1 (T k).2.2.1).before args s = true))
    (hh : zz_hr b0 (zz_ad b0 sa b) tc D cl h H) (hS : zz_fr b0 H0 H locs) {fs : List Value} (ha : h[a]? = some (.inr (ci, fs))) {v : Value} (hl : k < fs.length) (hn : narrow (ft k) (zz_v (zz_ad b0 sa b) v) = zz_v (zz_ad b0 sa b) v) (hfit : fits (ft k) (zz_v (zz_ad b0 sa b) v) = true) (hdg : decode cc pc = .ok (.putfield idx, 3))
    (kk : ∀ (H1 : Heap) (locs1 : List Loc), zz_hr b0 (zz_ad b0 sa b) tc D cl (h.set a (.inr (ci, fs.set k v))) H1 → zz_fr b0 H0 H1 locs1 → W p l e R s m args below meth c H1 locs1 cells slots Q (F0 m (pc + 3) ls rest)) : W p l e R s m args below meth c H locs cells slots Q (F0 m pc ls (zz_v (zz_ad b0 sa b) v :: .ref (zz_ad b0 sa b a) :: rest)) := by
  obtain ⟨hc, hin, hty, hnm⟩ := hC
  have hap := va_apart (own := own) hts hin ft hty hnm hK hc
  obtain ⟨r, h1, cell, q1, q2, q3, q4⟩ := hh.at ha
  have hr : r = (C, T, N) := Option.some.inj (h1.symm.trans hc)
  subst hr
  obtain ⟨hSl, hfc, kC, hkC, hkind⟩ := hK.1 ci _ hc
  obtain ⟨cf, kf, fi, f, hi, hsl⟩ := hSl k hk
  have hlays := u_lays hts hin hk
  have hst := (u_facts hfc hkC hlays hi).1
  have hl' : k < (fs.map (zz_v (zz_ad b0 sa b))).length := by rw [List.length_map]; exact hl
  have hA : b0 ≤ zz_ad b0 sa b a := by rw [zz_ad_lo (hh.lt ha)]; omega
  have fin : ∀ (H1 : Heap), H1[zz_ad b0 sa b a]? = some (cell.setSlot f.slot (zz_v (zz_ad b0 sa b) v)) → H1.size = H.size → (∀ q, q ≠ zz_ad b0 sa b a → H1[q]? = H[q]?) → W p l e R s m args below meth c H1 (locs ++ [⟨zz_ad b0 sa b a, f.slot⟩]) cells slots Q (F0 m (pc + 3) ls rest) := by
    intro H1 e1 e2 e3
    refine kk H1 _ (hh.set ha e2 e3 ?_) (hS.put e2 e3 hA)
    rw [hsl] at e1
    refine ⟨_, hc, t_OB.to (V := updV (vp_V (fs.map (zz_v (zz_ad b0 sa b)))) k (zz_v (zz_ad b0 sa b) v)) ⟨_, e1, q2, q3, t_set q4 hap hk _⟩ (fun j _ => ?_)⟩
    rw [vp_updV_set hl' _ j, List.map_set]
  have hlt : f.slot < cell.slots.size := by rw [hsl]; exact k2_hasslot (q4 k hk)
  rcases hfin with hfin | ⟨hfin, hin2, hdecl, hL2⟩
  · have hlay := hts _ (hin _ (u_in_lay hk))
    unfold u_lay at hlay
    rw [if_neg (by rw [hfin]; decide)] at hlay
    have h6 := u_store hfc hkC hkind hlay hi (hty k hk) hn hfit
    rcases hL with hL | ⟨host, hL⟩
    · exact W.putK hx hb (f := f) ⟨hown, hL, ⟨_, _, _, hi⟩, hst⟩ (by rw [q2]; exact h6) q1 q3 hlt rfl rfl hdg fin
    · exact va_WputK hx hb (f := f) hown hL hi hst (by rw [q2]; exact h6) q1 q3 hlt rfl rfl hdg fin
  · have hlay := hts _ (hin _ (u_in_lay hk))
    unfold u_lay at hlay
    rw [if_pos hfin] at hlay
    have hcf : m.cls = cf := by
      obtain ⟨_, _, c', _, _, _, -, -, hf', -, -, -, hown2, -⟩ := Cond.laysFinal_spec hlay
      have e1 : c' = cf := by have := hi.symm.trans hf'; simp at this; exact this.1.symm
      rw [hdecl] at hown2
      rw [← e1]; exact Option.some.inj (hown.symm.trans hown2)
    have h6 := u_fits hfc hkC hkind (Or.inr hlay) hi (hty k hk) hn hfit
    exact W.putFinK hx hb hown hL2 hi hst hcf hin2 (by rw [q2]; exact h6) q1 q3 hlt rfl rfl hdg fin
theorem zz_ix_of {j : Int32} {n : Nat} (hj : zz_ix j n = true) : vp_in j n := by
  unfold zz_ix at hj
  have h2 : ¬ (j < 0 ∨ n ≤ j.toNatClampNeg) := of_decide_eq_true hj
  exact h2
theorem zz_one (hh : zz_hr b0 (zz_ad b0 sa b) tc D cl h H) {a : Nat} {e0 : va_E} (ha : h[a]? = some e0) : va_P D cl [(zz_ad b0 sa b a, zz_e (zz_ad b0 sa b) tc e0)] H := fun j q hq => by
  have hj : j < 1 := (List.getElem?_eq_some_iff.mp hq).1
  rw [show j = 0 by omega] at hq
  cases hq
  exact hh.at ha
theorem zz_alen (hx : p.tables.exec = Jvm.exec) (hb : c.code = cc) (hK : va_K D cl tys s) (hh : zz_hr b0 (zz_ad b0 sa b) tc D cl h H) {a tg n : Nat} {x : (Nat → Int32) ⊕ (Nat → Int64) ⊕ (Nat → UInt32) ⊕ (Nat → UInt64) ⊕ (Nat → Option Nat)} (ha : h[a]? = some (.inl (tg, n, x))) {ty : FieldType} (ht : tys[tg]? = some (tc tg, ty)) (hdg : decode cc pc = .ok (.arraylength, 1))
    (kk : W p l e R s m args below meth c H locs cells slots Q (F0 m (pc + 1) ls (.int (Int32.ofNat n) :: rest))) : W p l e R s m args below meth c H locs cells slots Q (F0 m pc ls (.ref (zz_ad b0 sa b a) :: rest)) := by
  have hP := zz_one hh ha
  rcases x with f | f | f | f | f <;> exact va_alen hx hb hK hP 0 tg rfl ht rfl hdg kk
theorem zz_aald (hx : p.tables.exec = Jvm.exec) (hb : c.code = cc) (hK : va_K D cl tys s) (hh : zz_hr b0 (zz_ad b0 sa b) tc D cl h H) {a tg n : Nat} {f : Nat → Option Nat} (ha : h[a]? = some (.inl (tg, n, .inr (.inr (.inr (.inr f)))))) {C : String} (ht : tys[tg]? = some (tc tg, .object C)) {j : Int32} (hj : zz_ix j n = true) (hdg : decode cc pc = .ok (.aaload, 1))
    (kk : W p l e R s m args below meth c H locs cells slots Q (F0 m (pc + 1) ls (zz_v (zz_ad b0 sa b) (va_rf (f j.toNatClampNeg)) :: rest))) : W p l e R s m args below meth c H locs cells slots Q (F0 m pc ls (.int j :: .ref (zz_ad b0 sa b a) :: rest)) := by
  have e1 : zz_v (zz_ad b0 sa b) (va_rf (f j.toNatClampNeg)) = va_rf ((f j.toNatClampNeg).map (zz_ad b0 sa b)) := by cases f j.toNatClampNeg <;> rfl
  rw [e1] at kk
  exact va_aldq hx hb hK (zz_one hh ha) 0 tg rfl ht (zz_ix_of hj) hdg kk
theorem zz_iald (hx : p.tables.exec = Jvm.exec) (hb : c.code = cc) (hK : va_K D cl tys s) (hh : zz_hr b0 (zz_ad b0 sa b) tc D cl h H) {a n : Nat} {f : Nat → Int32} (ha : h[a]? = some (.inl (0, n, .inl f))) (ht : tys[0]? = some (tc 0, .int)) {j : Int32} (hj : zz_ix j n = true) (hdg : decode cc pc = .ok (.iaload, 1))
    (kk : W p l e R s m args below meth c H locs cells slots Q (F0 m (pc + 1) ls (.int (f j.toNatClampNeg) :: rest))) : W p l e R s m args below meth c H locs cells slots Q (F0 m pc ls (.int j :: .ref (zz_ad b0 sa b a) :: rest)) := va_iald hx hb hK (zz_one hh ha) 0 0 rfl ht (zz_ix_of hj) hdg kk
theorem zz_cald (hx : p.tables.exec = Jvm.exec) (hb : c.code = cc) (hK : va_K D cl tys s) (hh : zz_hr b0 (zz_ad b0 sa b) tc D cl h H) {a n : Nat} {f : Nat → Int32} (ha : h[a]? = some (.inl (1, n, .inl f))) (ht : tys[1]? = some (tc 1, .char)) {j : Int32} (hj : zz_ix j n = true) (hdg : decode cc pc = .ok (.caload, 1))
    (kk : W p l e R s m args below meth c H locs cells slots Q (F0 m (pc + 1) ls (.int (f j.toNatClampNeg) :: rest))) : W p l e R s m args below meth c H locs cells slots Q (F0 m pc ls (.int j :: .ref (zz_ad b0 sa b a) :: rest)) := va_cald hx hb hK (zz_one hh ha) 0 1 rfl ht (zz_ix_of hj) hdg kk
theorem zz_zald (hx : p.tables.exec = Jvm.exec) (hb : c.code = cc) (hK : va_K D cl tys s) (hh : zz_hr b0 (zz_ad b0 sa b) tc D cl h H) {a n : Nat} {f : Nat → Int32} (ha : h[a]? = some (.inl (2, n, .inl f))) (ht : tys[2]? = some (tc 2, .boolean)) {j : Int32} (hj : zz_ix j n = true) (hdg : decode cc pc = .ok (.baload, 1))
    (kk : W p l e R s m args below meth c H locs cells slots Q (F0 m (pc + 1) ls (.int (f j.toNatClampNeg) :: rest))) : W p l e R s m args below meth c H locs cells slots Q (F0 m pc ls (.int j :: .ref (zz_ad b0 sa b a) :: rest)) := va_zald hx hb hK (zz_one hh ha) 0 2 rfl ht (zz_ix_of hj) hdg kk
theorem zz_lald (hx : p.tables.exec = Jvm.exec) (hb : c.code = cc) (hK : va_K D cl tys s) (hh : zz_hr b0 (zz_ad b0 sa b) tc D cl h H) {a n : Nat} {f : Nat → Int64} (ha : h[a]? = some (.inl (3, n, .inr (.inl f)))) (ht : tys[3]? = some (tc 3, .long)) {j : Int32} (hj : zz_ix j n = true) (hdg : decode cc pc = .ok (.laload, 1))
    (kk : W p l e R s m args below meth c H locs cells slots Q (F0 m (pc + 1) ls (.long (f j.toNatClampNeg) :: rest))) : W p l e R s m args below meth c H locs cells slots Q (F0 m pc ls (.int j :: .ref (zz_ad b0 sa b a) :: rest)) := va_lald hx hb hK (zz_one hh ha) 0 3 rfl ht (zz_ix_of hj) hdg kk
theorem zz_iast (hx : p.tables.exec = Jvm.exec) (hb : c.code = cc) (hK : va_K D cl tys s) (hh : zz_hr b0 (zz_ad b0 sa b) tc D cl h H) (hS : zz_fr b0 H0 H locs) {a n : Nat} {f : Nat → Int32} (ha : h[a]? = some (.inl (0, n, .inl f))) (ht : tys[0]? = some (tc 0, .int)) {j : Int32} {x : Int32} (hj : zz_ix j n = true) (hdg : decode cc pc = .ok (.iastore, 1))
    (kk : ∀ (H1 : Heap) (locs1 : List Loc), zz_hr b0 (zz_ad b0 sa b) tc D cl (h.set a (.inl (0, n, .inl (upd f j.toNatClampNeg x)))) H1 → zz_fr b0 H0 H1 locs1 → W p l e R s m args below meth c H1 locs1 cells slots Q (F0 m (pc + 1) ls rest)) : W p l e R s m args below meth c H locs cells slots Q (F0 m pc ls (.int x :: .int j :: .ref (zz_ad b0 sa b a) :: rest)) := by
  have hA : b0 ≤ zz_ad b0 sa b a := by rw [zz_ad_lo (hh.lt ha)]; omega
  have hat : H[zz_ad b0 sa b a]? = some (arrV (tc 0) n (fun i => .int (f i))) := hh.at ha
  have hj2 := zz_ix_of hj
  refine W.iast hx hb hat ((hK.2 0 _ ht).1 n (fun i => .int (f i))) (fun q => by cases q) (by rw [arrV_size]; exact hj2) rfl rfl hdg fun H1 e1 z oq => ?_
  refine kk H1 _ (hh.set ha z oq ?_) (hS.put z oq hA)
  show H1[zz_ad b0 sa b a]? = some (vp_cell (tc 0) (n, .inl (upd f j.toNatClampNeg x)))
  rw [e1, arrV_store, vp_cell_i]
  congr 2
  funext q
  by_cases hq : q = j.toNatClampNeg
  · subst hq
    simp [updV, upd]
    try rfl
  · simp [updV, upd, hq]
theorem zz_cast (hx : p.tables.exec = Jvm.exec) (hb : c.code = cc) (hK : va_K D cl tys s) (hh : zz_hr b0 (zz_ad b0 sa b) tc D cl h H) (hS : zz_fr b0 H0 H locs) {a n : Nat} {f : Nat → Int32} (ha : h[a]? = some (.inl (1, n, .inl f))) (ht : tys[1]? = some (tc 1, .char)) {j : Int32} {x : Int32} (hj : zz_ix j n = true) (hdg : decode cc pc = .ok (.castore, 1))
    (kk : ∀ (H1 : Heap) (locs1 : List Loc), zz_hr b0 (zz_ad b0 sa b) tc D cl (h.set a (.inl (1, n, .inl (upd f j.toNatClampNeg (vp_nar .char x))))) H1 → zz_fr b0 H0 H1 locs1 → W p l e R s m args below meth c H1 locs1 cells slots Q (F0 m (pc + 1) ls rest)) : W p l e R s m args below meth c H locs cells slots Q (F0 m pc ls (.int x :: .int j :: .ref (zz_ad b0 sa b a) :: rest)) := by
  have hA : b0 ≤ zz_ad b0 sa b a := by rw [zz_ad_lo (hh.lt ha)]; omega
  have hat : H[zz_ad b0 sa b a]? = some (arrV (tc 1) n (fun i => .int (f i))) := hh.at ha
  have hj2 := zz_ix_of hj
  refine W.cast hx hb hat ((hK.2 1 _ ht).1 n (fun i => .int (f i))) (fun q => by cases q) (by rw [arrV_size]; exact hj2) rfl rfl hdg fun H1 e1 z oq => ?_
  refine kk H1 _ (hh.set ha z oq ?_) (hS.put z oq hA)
  show H1[zz_ad b0 sa b a]? = some (vp_cell (tc 1) (n, .inl (upd f j.toNatClampNeg (vp_nar .char x))))
  rw [e1, arrV_store, vp_cell_i]
  congr 2
  funext q
  by_cases hq : q = j.toNatClampNeg
  · subst hq
    simp [updV, upd, vp_nar]
    try rfl
  · simp [updV, upd, vp_nar, hq]
theorem zz_zast (hx : p.tables.exec = Jvm.exec) (hb : c.code = cc) (hK : va_K D cl tys s) (hh : zz_hr b0 (zz_ad b0 sa b) tc D cl h H) (hS : zz_fr b0 H0 H locs) {a n : Nat} {f : Nat → Int32} (ha : h[a]? = some (.inl (2, n, .inl f))) (ht : tys[2]? = some (tc 2, .boolean)) {j : Int32} {x : Int32} (hj : zz_ix j n = true) (hdg : decode cc pc = .ok (.bastore, 1))
    (kk : ∀ (H1 : Heap) (locs1 : List Loc), zz_hr b0 (zz_ad b0 sa b) tc D cl (h.set a (.inl (2, n, .inl (upd f j.toNatClampNeg (vp_nar .boolean x))))) H1 → zz_fr b0 H0 H1 locs1 → W p l e R s m args below meth c H1 locs1 cells slots Q (F0 m (pc + 1) ls rest)) : W p l e R s m args below meth c H locs cells slots Q (F0 m pc ls (.int x :: .int j :: .ref (zz_ad b0 sa b a) :: rest)) := by
  have hA : b0 ≤ zz_ad b0 sa b a := by rw [zz_ad_lo (hh.lt ha)]; omega
  have hat : H[zz_ad b0 sa b a]? = some (arrV (tc 2) n (fun i => .int (f i))) := hh.at ha
  have hj2 := zz_ix_of hj
  refine W.zast hx hb hat ((hK.2 2 _ ht).1 n (fun i => .int (f i))) (fun q => by cases q) (by rw [arrV_size]; exact hj2) rfl rfl hdg fun H1 e1 z oq => ?_
  refine kk H1 _ (hh.set ha z oq ?_) (hS.put z oq hA)
  show H1[zz_ad b0 sa b a]? = some (vp_cell (tc 2) (n, .inl (upd f j.toNatClampNeg (vp_nar .boolean x))))
  rw [e1, arrV_store, vp_cell_i]
  congr 2
  funext q
  by_cases hq : q = j.toNatClampNeg
  · subst hq
    simp [updV, upd, vp_nar]
    try rfl
  · simp [updV, upd, vp_nar, hq]
theorem zz_last (hx : p.tables.exec = Jvm.exec) (hb : c.code = cc) (hK : va_K D cl tys s) (hh : zz_hr b0 (zz_ad b0 sa b) tc D cl h H) (hS : zz_fr b0 H0 H locs) {a n : Nat} {f : Nat → Int64} (ha : h[a]? = some (.inl (3, n, .inr (.inl f)))) (ht : tys[3]? = some (tc 3, .long)) {j : Int32} {x : Int64} (hj : zz_ix j n = true) (hdg : decode cc pc = .ok (.lastore, 1))
    (kk : ∀ (H1 : Heap) (locs1 : List Loc), zz_hr b0 (zz_ad b0 sa b) tc D cl (h.set a (.inl (3, n, .inr (.inl (vp_updL f j.toNatClampNeg x))))) H1 → zz_fr b0 H0 H1 locs1 → W p l e R s m args below meth c H1 locs1 cells slots Q (F0 m (pc + 1) ls rest)) : W p l e R s m args below meth c H locs cells slots Q (F0 m pc ls (.long x :: .int j :: .ref (zz_ad b0 sa b a) :: rest)) := by
  have hA : b0 ≤ zz_ad b0 sa b a := by rw [zz_ad_lo (hh.lt ha)]; omega
  have hat : H[zz_ad b0 sa b a]? = some (arrV (tc 3) n (fun i => .long (f i))) := hh.at ha
  have hj2 := zz_ix_of hj
  refine W.last hx hb hat ((hK.2 3 _ ht).1 n (fun i => .long (f i))) (fun q => by cases q) (by rw [arrV_size]; exact hj2) rfl rfl hdg fun H1 e1 z oq => ?_
  refine kk H1 _ (hh.set ha z oq ?_) (hS.put z oq hA)
  show H1[zz_ad b0 sa b a]? = some (vp_cell (tc 3) (n, .inr (.inl (vp_updL f j.toNatClampNeg x))))
  rw [e1, arrV_store, vp_cell_l]
  congr 2
  funext q
  by_cases hq : q = j.toNatClampNeg
  · subst hq
    simp [updV, vp_updL]
    try rfl
  · simp [updV, vp_updL, hq]
end ZZ2
