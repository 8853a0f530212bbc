/-! the pure part: ends, branches, the heap's instructions on a heap of which some cells are known -/
section ZR2
variable {Z : zz_Z} {X : Nat × (Nat → Int32)} {M pc n : Nat} {L t : List Value} {h : zz_H} {bc bs : Nat} {r : List Nat}
theorem zr_to.ex {c c' : zr_C} {q : zz_O} (h1 : zr_to Z X M c c') (h2 : zr_ex Z X M c' q) : zr_ex Z X M c q := h1 q h2
theorem zr_iret {v : Int32} {ty : FieldType} (hc : zz_cod Z M pc = some (.ireturn, n, r)) (hret : zz_ret Z M = some ty) (hn : narrow ty (.int v) = .int v) : zr_ex Z X M (pc, L, [.int v], h, bc, bs) (.returned (some (.int v)), h, bc, bs) := zr_end hc rfl (by
  unfold zz_rt
  simp only [hret]
  rw [if_pos hn])
theorem zr_lret {v : Int64} (hc : zz_cod Z M pc = some (.lreturn, n, r)) (hret : zz_ret Z M = some .long) : zr_ex Z X M (pc, L, [.long v], h, bc, bs) (.returned (some (.long v)), h, bc, bs) := zr_end hc rfl (by
  unfold zz_rt
  simp only [hret])
theorem zr_aret {v : Nat} {C : String} (hc : zz_cod Z M pc = some (.areturn, n, r)) (hret : zz_ret Z M = some (.object C)) : zr_ex Z X M (pc, L, [.ref v], h, bc, bs) (.returned (some (.ref v)), h, bc, bs) := zr_end hc rfl (by
  unfold zz_rt
  simp only [hret])
theorem zr_aretn {C : String} (hc : zz_cod Z M pc = some (.areturn, n, r)) (hret : zz_ret Z M = some (.object C)) : zr_ex Z X M (pc, L, [.null], h, bc, bs) (.returned (some .null), h, bc, bs) := zr_end hc rfl (by
  unfold zz_rt
  simp only [hret])
theorem zr_vret (hc : zz_cod Z M pc = some (.return_, n, r)) (hret : zz_ret Z M = none) : zr_ex Z X M (pc, L, [], h, bc, bs) (.returned none, h, bc, bs) := zr_end hc rfl (by
  unfold zz_rt
  simp only [hret])
theorem zr_throw {idx ci sl : Nat} {st : List Value} (hc : zz_cod Z M pc = some (.new idx, n, [3, ci, sl])) (hh : zz_hnd Z M = []) (h1 : 1 ≤ bc) (h2 : sl ≤ bs) (h3 : h.length < zz_SB) (h4 : st.length < 5) : zr_ex Z X M (pc, L, st, h, bc, bs) (.threw h.length, h ++ [.inr (ci, [])], bc - 1, bs - sl) := zr_end hc rfl (by
  unfold zz_rt
  simp only [hh]
  rw [if_pos ⟨h1, h2, h3, h4⟩])
/-- a branch: the pc is an if -/
theorem zr_br {b : Bool} {p q : Nat} {c : List Value × List Value × zz_H × Nat × Nat} {o : zz_O} (ht : b = true → zr_ex Z X M (p, c) o) (hf : b = false → zr_ex Z X M (q, c) o) : zr_ex Z X M (if b then p else q, c) o := by
  cases b
  · exact hf rfl
  · exact ht rfl
theorem zr_st2 {i : Instr} {st st' : List Value} {h' : zz_H} {bc' bs' pc' : Nat} (hc : zz_cod Z M pc = some (i, n, r)) (hk : zz_kd i r = 1) (hv : zz_hv i st = false) (he : zz_st2 Z X i r pc st h bc bs = some (pc', st', h', bc', bs')) : zr_to Z X M (pc, L, st, h, bc, bs) (pc', L, st', h', bc', bs') := zr_one_ok (by
  unfold zr_one
  simp only [hc, hk, hv, he])
theorem zr_getf {idx ci k a : Nat} {fs : List Value} {v : Value} (hc : zz_cod Z M pc = some (.getfield idx, n, [ci, k])) (ha : h[a]? = some (.inr (ci, fs))) (hv : fs[k]? = some v) : zr_to Z X M (pc, L, .ref a :: t, h, bc, bs) (pc + 3, L, v :: t, h, bc, bs) := zr_st2 hc rfl rfl (by
  simp only [zz_st2, ha, hv]
  rfl)
theorem zr_putf {idx ci k a : Nat} {fs : List Value} {v : Value} (hc : zz_cod Z M pc = some (.putfield idx, n, [ci, k])) (ha : h[a]? = some (.inr (ci, fs))) (hk : k < fs.length) (hn : narrow (zz_fty Z ci k) v = v) (hf : fits (zz_fty Z ci k) v = true) : zr_to Z X M (pc, L, v :: .ref a :: t, h, bc, bs) (pc + 3, L, t, h.set a (.inr (ci, fs.set k v)), bc, bs) := zr_st2 hc rfl rfl (by
  simp only [zz_st2, ha]
  rw [if_pos ⟨trivial, hk, hn, hf⟩])
theorem zr_ix {j : Int32} {n : Nat} (h1 : 0 ≤ j) (h2 : j.toNatClampNeg < n) : zz_ix j n = true := by
  unfold zz_ix
  refine decide_eq_true ?_
  rintro (h3 | h3)
  · exact absurd h3 (Int32.not_lt.mpr h1)
  · omega
theorem zr_scr {j : Int32} (hc : zz_cod Z M pc = some (.iaload, n, r)) (hj : zz_ix j X.1 = true) : zr_to Z X M (pc, L, .int j :: .ref zz_SC :: t, h, bc, bs) (pc + 1, L, .int (X.2 j.toNatClampNeg) :: t, h, bc, bs) := zr_st2 hc rfl rfl (by
  simp only [zz_st2, hj, if_true])
theorem zr_iald {a k : Nat} {f : Nat → Int32} {j : Int32} (hc : zz_cod Z M pc = some (.iaload, n, r)) (hs : a ≠ zz_SC) (ha : h[a]? = some (.inl (0, k, .inl f))) (hj : zz_ix j k = true) : zr_to Z X M (pc, L, .int j :: .ref a :: t, h, bc, bs) (pc + 1, L, .int (f j.toNatClampNeg) :: t, h, bc, bs) := zr_st2 hc rfl rfl (by
  simp only [zz_st2, hs, ha, hj, if_true, if_false])
theorem zr_cald {a k : Nat} {f : Nat → Int32} {j : Int32} (hc : zz_cod Z M pc = some (.caload, n, r)) (ha : h[a]? = some (.inl (1, k, .inl f))) (hj : zz_ix j k = true) : zr_to Z X M (pc, L, .int j :: .ref a :: t, h, bc, bs) (pc + 1, L, .int (f j.toNatClampNeg) :: t, h, bc, bs) := zr_st2 hc rfl rfl (by
  simp only [zz_st2, ha, hj, if_true])
theorem zr_bald {a k : Nat} {f : Nat → Int32} {j : Int32} (hc : zz_cod Z M pc = some (.baload, n, r)) (ha : h[a]? = some (.inl (2, k, .inl f))) (hj : zz_ix j k = true) : zr_to Z X M (pc, L, .int j :: .ref a :: t, h, bc, bs) (pc + 1, L, .int (f j.toNatClampNeg) :: t, h, bc, bs) := zr_st2 hc rfl rfl (by
  simp only [zz_st2, ha, hj, if_true])
theorem zr_lald {a k : Nat} {f : Nat → Int64} {j : Int32} (hc : zz_cod Z M pc = some (.laload, n, r)) (ha : h[a]? = some (.inl (3, k, .inr (.inl f)))) (hj : zz_ix j k = true) : zr_to Z X M (pc, L, .int j :: .ref a :: t, h, bc, bs) (pc + 1, L, .long (f j.toNatClampNeg) :: t, h, bc, bs) := zr_st2 hc rfl rfl (by
  simp only [zz_st2, ha, hj, if_true])
theorem zr_aald {a k g : Nat} {f : Nat → Option Nat} {j : Int32} (hc : zz_cod Z M pc = some (.aaload, n, [g])) (ha : h[a]? = some (.inl (g, k, .inr (.inr (.inr (.inr f)))))) (hj : zz_ix j k = true) : zr_to Z X M (pc, L, .int j :: .ref a :: t, h, bc, bs) (pc + 1, L, va_rf (f j.toNatClampNeg) :: t, h, bc, bs) := zr_st2 hc rfl rfl (by
  simp only [zz_st2, ha]
  rw [if_pos ⟨trivial, hj⟩])
theorem zr_iast {a k : Nat} {f : Nat → Int32} {j x : Int32} (hc : zz_cod Z M pc = some (.iastore, n, r)) (ha : h[a]? = some (.inl (0, k, .inl f))) (hj : zz_ix j k = true) : zr_to Z X M (pc, L, .int x :: .int j :: .ref a :: t, h, bc, bs) (pc + 1, L, t, h.set a (.inl (0, k, .inl (upd f j.toNatClampNeg x))), bc, bs) := zr_st2 hc rfl rfl (by
  simp only [zz_st2, ha, hj, if_true])
theorem zr_cast {a k : Nat} {f : Nat → Int32} {j x : Int32} (hc : zz_cod Z M pc = some (.castore, n, r)) (ha : h[a]? = some (.inl (1, k, .inl f))) (hj : zz_ix j k = true) : zr_to Z X M (pc, L, .int x :: .int j :: .ref a :: t, h, bc, bs) (pc + 1, L, t, h.set a (.inl (1, k, .inl (upd f j.toNatClampNeg (vp_nar .char x)))), bc, bs) := zr_st2 hc rfl rfl (by
  simp only [zz_st2, ha, hj, if_true])
theorem zr_bast {a k : Nat} {f : Nat → Int32} {j x : Int32} (hc : zz_cod Z M pc = some (.bastore, n, r)) (ha : h[a]? = some (.inl (2, k, .inl f))) (hj : zz_ix j k = true) : zr_to Z X M (pc, L, .int x :: .int j :: .ref a :: t, h, bc, bs) (pc + 1, L, t, h.set a (.inl (2, k, .inl (upd f j.toNatClampNeg (vp_nar .boolean x)))), bc, bs) := zr_st2 hc rfl rfl (by
  simp only [zz_st2, ha, hj, if_true])
theorem zr_last {a k : Nat} {f : Nat → Int64} {j : Int32} {x : Int64} (hc : zz_cod Z M pc = some (.lastore, n, r)) (ha : h[a]? = some (.inl (3, k, .inr (.inl f)))) (hj : zz_ix j k = true) : zr_to Z X M (pc, L, .long x :: .int j :: .ref a :: t, h, bc, bs) (pc + 1, L, t, h.set a (.inl (3, k, .inr (.inl (vp_updL f j.toNatClampNeg x)))), bc, bs) := zr_st2 hc rfl rfl (by
  simp only [zz_st2, ha, hj, if_true])
theorem zr_alen {a g k : Nat} {e : vp_A} (hc : zz_cod Z M pc = some (.arraylength, n, [g])) (hs : a ≠ zz_SC) (ha : h[a]? = some (.inl (g, e))) (hk : e.1 = k) : zr_to Z X M (pc, L, .ref a :: t, h, bc, bs) (pc + 1, L, .int (Int32.ofNat k) :: t, h, bc, bs) := zr_st2 hc rfl rfl (by
  subst hk
  obtain ⟨k, f⟩ := e
  simp only [zz_st2, hs, ha, if_true, if_false])
theorem zr_slen {g : Nat} (hc : zz_cod Z M pc = some (.arraylength, n, [g])) : zr_to Z X M (pc, L, .ref zz_SC :: t, h, bc, bs) (pc + 1, L, .int (Int32.ofNat X.1) :: t, h, bc, bs) := zr_st2 hc rfl rfl (by
  simp only [zz_st2, if_true])
end ZR2
