/-! new cells -/
section ZZ3
variable {p : Program} {l : Launch} {e : Env} {R : Room} {s : State} {m : MethodId} {args : Array Value} {below : List Frame} {meth : Method} {c : Code} {H H0 : Heap} {locs : List Loc} {cells slots : Nat} {Q : State → Prop}
variable {cc : ByteArray} {pc : Nat} {ls : Array Slot} {rest : List Value} {D : va_G} {cl : List vw_C} {tys : List (ClassId × FieldType)}
variable {b0 b : Nat} {sa : Nat → Nat} {tc : Nat → ClassId} {h : zz_H} {own : String}
theorem zz_fr.push {H1 : Heap} (hS : zz_fr b0 H0 H locs) (z : H1.size = H.size + 1) (o : ∀ q : Nat, q < H.size → H1[q]? = H[q]?) : zz_fr b0 H0 H1 locs :=
  ⟨Nat.le_trans hS.1 (by omega), fun x h1 h2 => (o x (Nat.lt_of_lt_of_le h1 hS.1)).trans (hS.2.1 x h1 h2), hS.2.2⟩
theorem zz_newo (hx : p.tables.exec = Jvm.exec) (hb : c.code = cc) (hown : s.vm.findClass own = some m.cls) {Ts : List Cond} (hts : ∀ w ∈ Ts, w.before args s = true) (hK : va_K D cl tys s) {ft : Nat → FieldType} {ci N idx sl : Nat} {C : String} {T : u_T} (hC : zz_cls cl Ts ft ci C T N)
    (hcl : (Cond.classLink own idx C).before args s = true) (hinst : (Cond.instantiable C sl).before args s = true) (hini : (Cond.initialized C).before args s = true)
    (hh : zz_hr b0 (zz_ad b0 sa b) tc D cl h H) (hS : zz_fr b0 H0 H locs) {fs : List Value} (hnr : fs.map (zz_v (zz_ad b0 sa b)) = fs) (hfs : ∀ j, j < N → defaultValue (ft j) = vp_V fs j) (hcells : cells + 1 ≤ R.cells) (hslots : slots + sl ≤ R.slots) (hl : h.length < zz_SB) (hdg : decode cc pc = .ok (.new idx, 3))
    (kk : ∀ H1 : Heap, zz_hr b0 (zz_ad b0 sa b) tc D cl (h ++ [.inr (ci, fs)]) H1 → zz_fr b0 H0 H1 locs → W p l e R s m args below meth c H1 locs (cells + 1) (slots + sl) Q (F0 m (pc + 3) ls (.ref (zz_ad b0 sa b h.length) :: rest))) : W p l e R s m args below meth c H locs cells slots Q (F0 m pc ls rest) := by
  have hKn := hK.1 ci _ hC.1
  refine W.newcK hx hb hown hcl hinst hini rfl hdg hcells hslots hKn.2.1 rfl fun H1 kC hkC e1 z1 o1 => ?_
  have e2 : zz_e (zz_ad b0 sa b) tc (.inr (ci, fs)) = .inr (ci, fs) := by
    show (Sum.inr (ci, fs.map _) : va_E) = _
    rw [hnr]
  have := kk H1 (hh.push hl z1 o1 (by rw [e2]; exact ⟨_, hC.1, (u_born ft hts hC.2.1 hKn hkC e1 hC.2.2.1).to hfs⟩)) (hS.push z1 o1)
  rw [hh.new hl] at this
  exact this
/-- the array classes: their numbers are the tables' own -/
theorem zz_tc_eq (hK : va_K D cl tys s) {tg : Nat} {cA : ClassId} {ty : FieldType} (ht : tys[tg]? = some (tc tg, ty)) (hp : ∀ C, ty ≠ .object C) (hf : s.vm.findClass ("[" ++ ty.toString) = some cA) : cA = tc tg := by
  have h := (hK.2 tg _ ht).2
  cases ty with
  | object C => exact absurd rfl (hp C)
  | _ => exact Option.some.inj (hf.symm.trans h)
def zz_pty (tg : Nat) : ArrayType := if tg = 0 then .int else if tg = 1 then .char else if tg = 2 then .boolean else .long
theorem zz_newa (hx : p.tables.exec = Jvm.exec) (hb : c.code = cc) (hK : va_K D cl tys s) {tg : Nat} (htg : tg < 4) (harr : (Cond.arrayClass (newarray.typeOf (zz_pty tg))).before args s = true) (ht : tys[tg]? = some (tc tg, newarray.typeOf (zz_pty tg)))
    (hh : zz_hr b0 (zz_ad b0 sa b) tc D cl h H) (hS : zz_fr b0 H0 H locs) {n : Int32} (hn : ¬ n < 0) (hbytes : n.toNatClampNeg * 8 ≤ 536870912) (hcells : cells + 1 ≤ R.cells) (hslots : slots + n.toNatClampNeg ≤ R.slots) (hl : h.length < zz_SB) (hdg : decode cc pc = .ok (.newarray (zz_pty tg), 2))
    (kk : ∀ H1 : Heap, zz_hr b0 (zz_ad b0 sa b) tc D cl (h ++ [zz_blank tg n.toNatClampNeg]) H1 → zz_fr b0 H0 H1 locs → W p l e R s m args below meth c H1 locs (cells + 1) (slots + n.toNatClampNeg) Q (F0 m (pc + 2) ls (.ref (zz_ad b0 sa b h.length) :: rest))) : W p l e R s m args below meth c H locs cells slots Q (F0 m pc ls (.int n :: rest)) := by
  have hcb : n.toNatClampNeg * componentBytes (newarray.typeOf (zz_pty tg)) ≤ 536870912 := by
    refine Nat.le_trans (Nat.mul_le_mul_left _ ?_) hbytes
    rcases (show tg = 0 ∨ tg = 1 ∨ tg = 2 ∨ tg = 3 by omega) with rfl | rfl | rfl | rfl <;> decide
  refine va_newaK hx hb harr rfl hdg (rest := rest) rfl hn rfl hcb hcells hslots rfl fun H1 cA e1 z1 o1 hAr hNm => ?_
  have hcA : cA = tc tg := zz_tc_eq hK ht (fun C hC => by
    rcases (show tg = 0 ∨ tg = 1 ∨ tg = 2 ∨ tg = 3 by omega) with rfl | rfl | rfl | rfl <;> cases hC) hNm
  subst hcA
  have := kk H1 (hh.push hl z1 o1 (by
    rcases (show tg = 0 ∨ tg = 1 ∨ tg = 2 ∨ tg = 3 by omega) with rfl | rfl | rfl | rfl <;> exact e1)) (hS.push z1 o1)
  rw [hh.new hl] at this
  exact this
theorem zz_newq (hx : p.tables.exec = Jvm.exec) (hb : c.code = cc) (hown : s.vm.findClass own = some m.cls) (hK : va_K D cl tys s) {tg idx : Nat} {C : String} (hcl : (Cond.classLink own idx C).before args s = true) (hover : (Cond.arrayOver (.object C)).before args s = true) (ht : tys[tg]? = some (tc tg, .object C))
    (hh : zz_hr b0 (zz_ad b0 sa b) tc D cl h H) (hS : zz_fr b0 H0 H locs) {n : Int32} (hn : ¬ n < 0) (hbytes : n.toNatClampNeg * 4 ≤ 536870912) (hcells : cells + 1 ≤ R.cells) (hslots : slots + n.toNatClampNeg ≤ R.slots) (hl : h.length < zz_SB) (hdg : decode cc pc = .ok (.anewarray idx, 3))
    (kk : ∀ H1 : Heap, zz_hr b0 (zz_ad b0 sa b) tc D cl (h ++ [.inl (tg, n.toNatClampNeg, .inr (.inr (.inr (.inr (fun _ => none)))))]) H1 → zz_fr b0 H0 H1 locs → W p l e R s m args below meth c H1 locs (cells + 1) (slots + n.toNatClampNeg) Q (F0 m (pc + 3) ls (.ref (zz_ad b0 sa b h.length) :: rest))) : W p l e R s m args below meth c H locs cells slots Q (F0 m pc ls (.int n :: rest)) := by
  refine W.anew hx hb hown hcl hover rfl hdg rfl hn hbytes hcells hslots fun cA kA comp f1 f2 f3 f4 => ?_
  have hcA : cA = tc tg := by
    obtain ⟨kA', comp', g1, g2, g3, g4⟩ := (hK.2 tg _ ht).2
    exact Option.some.inj (f1.symm.trans g4)
  subst hcA
  have z1 : (H.push ({ cls := tc tg, slots := Array.replicate n.toNatClampNeg .null, vm := .none } : Cell)).size = H.size + 1 := Array.size_push ..
  have o1 : ∀ q : Nat, q < H.size → (H.push ({ cls := tc tg, slots := Array.replicate n.toNatClampNeg .null, vm := .none } : Cell))[q]? = H[q]? := fun q hq => by rw [Array.getElem?_push, if_neg (Nat.ne_of_lt hq)]
  have e1 : (H.push ({ cls := tc tg, slots := Array.replicate n.toNatClampNeg .null, vm := .none } : Cell))[H.size]? = some (arrV (tc tg) n.toNatClampNeg (fun _ => .null)) := by rw [Array.getElem?_push_size, ← arrV_new]
  have := kk _ (hh.push hl z1 o1 e1) (hS.push z1 o1)
  rw [hh.new hl] at this
  exact this
end ZZ3
