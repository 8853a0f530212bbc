/-! arraycopy within one row -/
section ZZY
variable {p : Program} {l : Launch} {e : Env} {R : Room} {s : State} {m : MethodId} {args : Array Value} {below : List Frame} {meth : Method} {c : Code} {H H0 : Heap} {locs : List Loc} {cells slots : Nat} {Q : State → Prop}
variable {cc : ByteArray} {pc : Nat} {ls : Array Slot} {rest : List Value} {D : va_G} {cl : List vw_C} {tys : List (ClassId × FieldType)}
variable {b0 b : Nat} {sa : Nat → Nat} {tc : Nat → ClassId} {h : zz_H} {own : String}
theorem zz_nn (z : Int32) (hz : ¬ z < 0) : z.toInt = (z.toNatClampNeg : Int) := by
  have hz0 : (0 : Int) ≤ z.toInt := by
    have := Int32.not_lt.mp hz
    simpa using Int32.le_iff_toInt_le.mp this
  show z.toInt = ((z.toInt.toNat : Nat) : Int)
  omega
/-- any row of plain things, by how its places are held -/
theorem zz_copy {α : Type} (mk : α → Value) (hx : p.tables.exec = Jvm.exec) (hb : c.code = cc) (hml : c.maxLocals = ls.size) {index : Nat} (hown : s.vm.findClass own = some m.cls) (hlink : (Cond.methodLink own index arraycopyName).before args s = true) (hnat : (Cond.native arraycopyName).before args s = true) (hstat : (Cond.static arraycopyName).before args s = true) (hini : (Cond.initialized "java/lang/System").before args s = true)
    (hK : va_K D cl tys s) (hh : zz_hr b0 (zz_ad b0 sa b) tc D cl h H) (hS : zz_fr b0 H0 H locs) {a tg N : Nat} {f : Nat → α} {ty : FieldType} {e0 e1 : va_E} (ha : h[a]? = some e0) (he0 : ∀ G : Heap, va_at D cl (zz_ad b0 sa b a, zz_e (zz_ad b0 sa b) tc e0) G ↔ G[zz_ad b0 sa b a]? = some (arrV (tc tg) N (fun j => mk (f j))))
    {sp dp n : Int32} (he1 : ∀ G : Heap, G[zz_ad b0 sa b a]? = some (arrV (tc tg) N (fun j => mk (va_cpy f f sp.toNatClampNeg dp.toNatClampNeg n.toNatClampNeg j))) → va_at D cl (zz_ad b0 sa b a, zz_e (zz_ad b0 sa b) tc e1) G)
    (ht : tys[tg]? = some (tc tg, ty)) (hprim : refKind ty = false) (hmk : ∀ z, mk z ≠ .null ∧ (∀ q, mk z ≠ .ref q)) (h1 : ¬ sp < 0) (h2 : ¬ dp < 0) (h3 : ¬ n < 0) (h4 : sp.toNatClampNeg + n.toNatClampNeg ≤ N) (h5 : dp.toNatClampNeg + n.toNatClampNeg ≤ N) (hfit : ∀ i, i < n.toNatClampNeg → fits ty (mk (f (sp.toNatClampNeg + i))) = true)
    (hframes : 1 ≤ R.frames) (hlocals : (rest.map fun v => v.category).sum + (nativeFrameWords "java/lang/System" "arraycopy" 5 + 11) ≤ R.locals) (hdg : decode cc pc = .ok (.invokestatic index, 3))
    (kk : ∀ (H1 : Heap) (locs1 : List Loc), zz_hr b0 (zz_ad b0 sa b) tc D cl (h.set a e1) H1 → zz_fr b0 H0 H1 locs1 → W p l e R s m args below meth c H1 locs1 cells slots Q (F0 m (pc + 3) ls rest)) : W p l e R s m args below meth c H locs cells slots Q (F0 m pc ls (.int n :: .int dp :: .ref (zz_ad b0 sa b a) :: .int sp :: .ref (zz_ad b0 sa b a) :: rest)) := by
  intro T hT X
  have hA : b0 ≤ zz_ad b0 sa b a := by rw [zz_ad_lo (hh.lt ha)]; omega
  have hc0 : H[zz_ad b0 sa b a]? = some (arrV (tc tg) N (fun j => mk (f j))) := (he0 H).mp (hh.at ha)
  obtain ⟨-, k0, hk0, cm0, hkk0⟩ := (hK.2 tg _ ht).1 N (fun j => mk (f j))
  obtain ⟨vm', X', step⟩ := X.arraycopy hx hown hlink hnat hstat hini (src := zz_ad b0 sa b a) (dst := zz_ad b0 sa b a) (cs := arrV (tc tg) N (fun j => mk (f j))) (cd := arrV (tc tg) N (fun j => mk (f j))) (srcPos := sp) (destPos := dp) (n := n) (by rw [hT]; exact hc0) (by rw [hT]; exact hc0)
    (fun _ h => by cases h) (fun _ h => by cases h) (fun h => by cases h) (fun h => by cases h) hk0 hk0 hkk0 hkk0 (by simp [hprim]) h1 h2 h3
    (by rw [zz_nn sp h1, zz_nn n h3, arrV_size]; omega)
    (by rw [zz_nn dp h2, zz_nn n h3, arrV_size]; omega)
    (fun vm₁ _ i hi => by
      have e : (arrV (tc tg) N (fun j => mk (f j))).slots.getD (sp.toNatClampNeg + i) .null = mk (f (sp.toNatClampNeg + i)) := by
        rw [Array.getD_eq_getD_getElem?, arrV_read _ _ (by omega)]
        rfl
      refine ⟨?_, ?_⟩
      · rw [e]
        exact hfit i hi
      · rw [e]
        obtain ⟨z1, z2⟩ := hmk (f (sp.toNatClampNeg + i))
        cases hz : mk (f (sp.toNatClampNeg + i)) <;> first | exact trivial | exact absurd hz z1 | exact absurd hz (z2 _))
    (g := F0 m pc ls (.int n :: .int dp :: .ref (zz_ad b0 sa b a) :: .int sp :: .ref (zz_ad b0 sa b a) :: rest)) rfl (by rw [hml]) (rest := rest) rfl (by rw [hb]; exact hdg) hframes (by show 2 * 0 + _ + _ ≤ _; omega)
  have e1' : copied (arrV (tc tg) N (fun j => mk (f j))) (arrV (tc tg) N (fun j => mk (f j))) sp dp n = arrV (tc tg) N (fun j => mk (va_cpy f f sp.toNatClampNeg dp.toNatClampNeg n.toNatClampNeg j)) := va_copied mk (tc tg) (tc tg) f f h4
  rw [e1'] at X' step
  have hl : zz_ad b0 sa b a < H.size := (Array.getElem?_eq_some_iff.mp hc0).1
  generalize hG : H.setIfInBounds (zz_ad b0 sa b a) (arrV (tc tg) N (fun j => mk (va_cpy f f sp.toNatClampNeg dp.toNatClampNeg n.toNatClampNeg j))) = G
  have hheap : ((T.setVm vm').setCell (zz_ad b0 sa b a) (arrV (tc tg) N (fun j => mk (va_cpy f f sp.toNatClampNeg dp.toNatClampNeg n.toNatClampNeg j)))).heap = G := by rw [← hG, ← hT]; rfl
  have oq : ∀ q : Nat, q ≠ zz_ad b0 sa b a → G[q]? = H[q]? := fun q hq => by rw [← hG]; simp [Array.getElem?_setIfInBounds, Ne.symm hq]
  have hat : G[zz_ad b0 sa b a]? = some (arrV (tc tg) N (fun j => mk (va_cpy f f sp.toNatClampNeg dp.toNatClampNeg n.toNatClampNeg j))) := by rw [← hG]; simp [Array.getElem?_setIfInBounds, hl]
  have zs : G.size = H.size := by rw [← hG]; simp
  obtain ⟨t, a1, b1⟩ := kk G _ (hh.set ha zs oq (he1 G hat)) ⟨by rw [zs]; exact hS.1, fun q g1 g2 => by
      rw [oq q (fun e => g2 (by rw [e]; exact hA))]
      exact hS.2.1 q g1 g2, fun q hq => by
      rcases List.mem_append.mp hq with h | h
      · exact hS.2.2 q h
      · obtain ⟨z, -, hz⟩ := List.mem_map.mp h
        rw [← hz]
        exact hA⟩ _ hheap X'
  exact ⟨t, step t a1, b1⟩
end ZZY
