/-! the law's call of type -/
/-- the law's row of one long -/
def zh_O (h : zz_H) (a : Nat) (v : Int64) : Prop := ∃ f, h[a]? = some (.inl (3, 1, .inr (.inl f))) ∧ f 0 = v
theorem zh_O.kept {A : List Nat} {h h' : zz_H} {a : Nat} {v : Int64} (hO : zh_O h a v) (hf : zh_fr A h h') (hA : a ∉ A) : zh_O h' a v := by
  obtain ⟨f, h1, h2⟩ := hO
  exact ⟨f, (hf.2 a hA).trans h1, h2⟩
section ZL
variable {X : Nat × (Nat → Int32)} {h : zz_H} {bc bs o d out : Nat} {cs : List Int32} {ov : Int32} {fs : List Value} {w : Int64}
theorem zl_type (p : Int64) (hb : 1 ≤ bc) (hs : 6 ≤ bs) (hl : h.length < zz_SB) (hO : h[o]? = some (.inr (0, fs))) (hd : fs[0]? = some (.ref d)) (hT : zh_T h d 100 cs ov) (hov : ov = 0 ∨ ov = 1) (n1 : o ≠ d) (n2 : o ≠ d + 1) (hW : zh_O h out w) (n3 : out ≠ d) (n4 : out ≠ d + 1) :
    if (zm_B p).all zm_isChar = true ∧ cs.length + (zm_B p).length ≤ 100 then ∃ h', zr_ex zt_Z X 232 (0, [.ref o, .long p, zz_no, .ref out, zz_no], [], h, bc, bs) (.returned (some (.int 0)), h', bc, bs) ∧ zh_fr [d, d + 1, out] h h' ∧ zh_T h' d 100 (cs ++ zm_B p) ov ∧ zh_O h' out (nI (cs.length + (zm_B p).length)).toInt64
    else zr_ex zt_Z X 232 (0, [.ref o, .long p, zz_no, .ref out, zz_no], [], h, bc, bs) (.returned (some (.int 1)), h ++ [.inr (10, [])], bc - 1, bs - 6) := by
  have hty := zm_type (X := X) (o := o) p hb hs hl hO hd hT hov
  split
  · next hok =>
    rw [if_pos hok] at hty
    obtain ⟨h1, a1, a2, a3⟩ := hty n1 n2
    obtain ⟨f, f1, f2⟩ := hW.kept a2 (by simp [n3, n4])
    refine ⟨h1.set out (.inl (3, 1, .inr (.inl (vp_updL f (0 : Int32).toNatClampNeg (nI (cs.length + (zm_B p).length)).toInt64)))), ?_, ?_, ?_, ?_⟩
    · refine (zr_run_ok 4 (c' := (4, [.ref o, .long p, zz_no, .ref out, zz_no], [.long p, .ref o, .int 0, .ref out], h, bc, bs)) rfl).ex ?_
      refine (zr_call (i := .invokevirtual 7) (n := 3) (r := [1, 38, 1, 1, 0]) rfl rfl (zr_avv rfl hO) (of_decide_eq_false rfl) a1).ex ?_
      refine (zr_run_ok 1 (c' := (8, [.ref o, .long p, zz_no, .ref out, zz_no], [.long (nI (cs.length + (zm_B p).length)).toInt64, .int 0, .ref out], h1, bc, bs)) rfl).ex ?_
      refine (zr_last (n := 1) (r := []) rfl f1 (by decide)).ex ?_
      refine (zr_run_ok 2 (c' := (17, [.ref o, .long p, zz_no, .ref out, zz_no], [.int 0], h1.set out (.inl (3, 1, .inr (.inl (vp_updL f (0 : Int32).toNatClampNeg (nI (cs.length + (zm_B p).length)).toInt64)))), bc, bs)) rfl).ex ?_
      exact zr_iret (n := 1) (r := []) rfl rfl rfl
    · exact zh_fr.trans (a2.mono (fun q hq => by simp at hq ⊢; omega)) (zh_fr.set (by simp))
    · exact a3.kept (zh_fr.set (A := [out]) (by simp)) (by simp [Ne.symm n3]) (by simp [Ne.symm n4])
    · refine ⟨_, zh_at f1, ?_⟩
      rfl
  · next hok =>
    rw [if_neg hok] at hty
    refine (zr_run_ok 4 (c' := (4, [.ref o, .long p, zz_no, .ref out, zz_no], [.long p, .ref o, .int 0, .ref out], h, bc, bs)) rfl).ex ?_
    refine (zr_callx (ci := 10) (p := 12) (i := .invokevirtual 7) (n := 3) (r := [1, 38, 1, 1, 0]) rfl rfl (zr_avv rfl hO) (of_decide_eq_false rfl) hty (by simp) rfl).ex ?_
    refine (zr_run_ok 2 (c' := (15, [.ref o, .long p, zz_no, .ref out, .ref h.length], [.int 1], h ++ [.inr (10, [])], bc - 1, bs - 6)) rfl).ex ?_
    exact zr_iret (n := 1) (r := []) rfl rfl rfl
end ZL
