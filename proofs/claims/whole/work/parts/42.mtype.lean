/-! PaperObjectsModel.type: its first loop -/
theorem zu_zu (g : Nat → Value) (k : Nat) (v w : Value) : zu (zu g k v) k w = zu g k w := by
  funext j
  unfold zu
  split <;> rfl
section ZMT
variable {X : Nat × (Nat → Int32)} {h : zz_H} {bc bs mo : Nat} {g : Nat → Value}
theorem zm_typeM_loop (p : Int64) (hM : zd h mo g) {R : zz_O} : ∀ f k (th : Int32) (v5 : Value), k + f = 8 → (∀ v4 v5 : Value, zr_ex zt_Z X 142 (81, [.ref mo, .long p, zz_no, .int (nI (k + (zm_bts p f k).length)), v4, v5], [], zd_h h mo (zu g 0 (.int (if (zm_bts p f k).all zm_isChar then th else 1))), bc, bs) R) → zr_ex zt_Z X 142 (10, [.ref mo, .long p, zz_no, .int (nI k), .int (nI k), v5], [], zd_h h mo (zu g 0 (.int th)), bc, bs) R := by
  intro f
  induction f with
  | zero =>
    intro k th v5 hk hR
    have : k = 8 := by omega
    subst this
    refine (zr_run_ok 3 (c' := (if zz_if .ge (nI 8) 8 then 81 else 17, [.ref mo, .long p, zz_no, .int (nI 8), .int (nI 8), v5], [], zd_h h mo (zu g 0 (.int th)), bc, bs)) rfl).ex ?_
    exact zr_br (fun _ => hR _ _) (fun z => absurd z (by decide))
  | succ f ih =>
    intro k th v5 hk hR
    have hM1 : ∀ th : Int32, zd (zd_h h mo (zu g 0 (.int th))) mo (zu g 0 (.int th)) := fun th => zd_h.now hM _
    refine (zr_run_ok 3 (c' := (if zz_if .ge (nI k) 8 then 81 else 17, [.ref mo, .long p, zz_no, .int (nI k), .int (nI k), v5], [], zd_h h mo (zu g 0 (.int th)), bc, bs)) rfl).ex ?_
    refine zr_br (fun z => absurd ((zm_ge8 k (by omega)).symm.trans z) (by decide)) (fun _ => ?_)
    refine (zr_run_ok 3 (c' := (if zz_if .ne (nI k) (nI k) then 81 else 23, [.ref mo, .long p, zz_no, .int (nI k), .int (nI k), v5], [], zd_h h mo (zu g 0 (.int th)), bc, bs)) rfl).ex ?_
    refine zr_br (fun z => absurd rfl (of_decide_eq_true z)) (fun _ => ?_)
    refine (zr_run_ok 12 (c' := (if zz_if .eq ((p.toUInt64 >>> ((8 * nI k).toInt64.toUInt64 &&& Int64.toUInt64 63)).toInt64 &&& 255).toInt32 0 then 55 else 43, [.ref mo, .long p, zz_no, .int (nI k), .int (nI k), .int ((p.toUInt64 >>> ((8 * nI k).toInt64.toUInt64 &&& Int64.toUInt64 63)).toInt64 &&& 255).toInt32], [.ref mo], zd_h h mo (zu g 0 (.int th)), bc, bs)) rfl).ex ?_
    rw [zm_byteM]
    -- from 59 on: the field is set, the byte decides
    have at59 : ∀ th' : Int32, (∀ v4 v5 : Value, zm_byte p (nI k) = 0 → zr_ex zt_Z X 142 (81, [.ref mo, .long p, zz_no, .int (nI k), v4, v5], [], zd_h h mo (zu g 0 (.int th')), bc, bs) R) → (zm_byte p (nI k) ≠ 0 → zr_ex zt_Z X 142 (10, [.ref mo, .long p, zz_no, .int (nI (k + 1)), .int (nI (k + 1)), .int (zm_byte p (nI k))], [], zd_h h mo (zu g 0 (.int th')), bc, bs) R) → zr_ex zt_Z X 142 (59, [.ref mo, .long p, zz_no, .int (nI k), .int (nI k), .int (zm_byte p (nI k))], [.int th', .ref mo], zd_h h mo (zu g 0 (.int th)), bc, bs) R := fun th' q0 q1 => by
      refine (zr_mput (idx := 100) (n := 3) (k := 0) rfl (hM1 th) (by decide) rfl rfl).ex ?_
      rw [zd_h.again, zu_zu]
      refine (zr_run_ok 2 (c' := (if zz_if .ne (zm_byte p (nI k)) 0 then 71 else 67, [.ref mo, .long p, zz_no, .int (nI k), .int (nI k), .int (zm_byte p (nI k))], [], zd_h h mo (zu g 0 (.int th')), bc, bs)) rfl).ex ?_
      refine zr_br (fun z => ?_) (fun z => ?_)
      · have z : ¬ zm_byte p (nI k) = 0 := of_decide_eq_true z
        refine (zr_run_ok 6 (c' := (10, [.ref mo, .long p, zz_no, .int (nI k + 1), .int (nI k + 1), .int (zm_byte p (nI k))], [], zd_h h mo (zu g 0 (.int th')), bc, bs)) rfl).ex ?_
        rw [nI_1]
        exact q1 z
      · have z : zm_byte p (nI k) = 0 := Decidable.of_not_not (of_decide_eq_false z)
        refine (zr_run_ok 5 (c' := (10, [.ref mo, .long p, zz_no, .int (nI k), .int (nI k + 1), .int (zm_byte p (nI k))], [], zd_h h mo (zu g 0 (.int th')), bc, bs)) rfl).ex ?_
        rw [nI_1]
        refine (zr_run_ok 3 (c' := (if zz_if .ge (nI (k + 1)) 8 then 81 else 17, [.ref mo, .long p, zz_no, .int (nI k), .int (nI (k + 1)), .int (zm_byte p (nI k))], [], zd_h h mo (zu g 0 (.int th')), bc, bs)) rfl).ex ?_
        refine zr_br (fun _ => q0 _ _ z) (fun _ => ?_)
        refine (zr_run_ok 3 (c' := (if zz_if .ne (nI k) (nI (k + 1)) then 81 else 23, [.ref mo, .long p, zz_no, .int (nI k), .int (nI (k + 1)), .int (zm_byte p (nI k))], [], zd_h h mo (zu g 0 (.int th')), bc, bs)) rfl).ex ?_
        refine zr_br (fun _ => q0 _ _ z) (fun y => ?_)
        have y : nI k = nI (k + 1) := Decidable.of_not_not (of_decide_eq_false y)
        have := (nI_eq (by omega) (by omega)).mp y
        omega
    have at55 : (∀ v4 v5 : Value, zm_byte p (nI k) = 0 → zr_ex zt_Z X 142 (81, [.ref mo, .long p, zz_no, .int (nI k), v4, v5], [], zd_h h mo (zu g 0 (.int th)), bc, bs) R) → (zm_byte p (nI k) ≠ 0 → zr_ex zt_Z X 142 (10, [.ref mo, .long p, zz_no, .int (nI (k + 1)), .int (nI (k + 1)), .int (zm_byte p (nI k))], [], zd_h h mo (zu g 0 (.int th)), bc, bs) R) → zr_ex zt_Z X 142 (55, [.ref mo, .long p, zz_no, .int (nI k), .int (nI k), .int (zm_byte p (nI k))], [.ref mo], zd_h h mo (zu g 0 (.int th)), bc, bs) R := fun q0 q1 => by
      refine (zr_run_ok 1 (c' := (56, [.ref mo, .long p, zz_no, .int (nI k), .int (nI k), .int (zm_byte p (nI k))], [.ref mo, .ref mo], zd_h h mo (zu g 0 (.int th)), bc, bs)) rfl).ex ?_
      refine (zr_mget (idx := 100) (n := 3) (k := 0) rfl (hM1 th) (by decide) (zu_at _ _ _)).ex ?_
      exact at59 th q0 q1
    refine zr_br (fun z => ?_) (fun z => ?_)
    · have z : zm_byte p (nI k) = 0 := of_decide_eq_true z
      refine at55 (fun v4 v5 _ => ?_) (fun y => absurd z y)
      have := hR v4 v5
      unfold zm_bts at this
      rw [if_pos z] at this
      exact this
    · have z : ¬ zm_byte p (nI k) = 0 := of_decide_eq_false z
      have hb : zm_bts p (f + 1) k = zm_byte p (nI k) :: zm_bts p f (k + 1) := by
        conv => lhs; unfold zm_bts
        rw [if_neg z]
      rw [hb, List.length_cons, List.all_cons, show k + ((zm_bts p f (k + 1)).length + 1) = k + 1 + (zm_bts p f (k + 1)).length by omega] at hR
      refine (zr_run_ok 1 (c' := (45, [.ref mo, .long p, zz_no, .int (nI k), .int (nI k), .int (zm_byte p (nI k))], [.int (zm_byte p (nI k)), .ref mo], zd_h h mo (zu g 0 (.int th)), bc, bs)) rfl).ex ?_
      refine (zr_call (i := .invokestatic 263) (n := 3) (r := [1, 143, 1, 0, 9]) rfl rfl rfl (of_decide_eq_false rfl) (zm_isCharacterM (zm_byte p (nI k)))).ex ?_
      refine (zr_run_ok 1 (c' := (if zz_if .ne (if zm_isChar (zm_byte p (nI k)) then 1 else 0) 0 then 55 else 51, [.ref mo, .long p, zz_no, .int (nI k), .int (nI k), .int (zm_byte p (nI k))], [.ref mo], zd_h h mo (zu g 0 (.int th)), bc, bs)) rfl).ex ?_
      cases hc : zm_isChar (zm_byte p (nI k)) with
      | true =>
        rw [hc] at hR
        refine zr_br (fun _ => ?_) (fun y => absurd y (by decide))
        exact at55 (fun _ _ y => absurd y z) (fun _ => ih (k + 1) th _ (by omega) (fun v4 v5 => hR v4 v5))
      | false =>
        rw [hc] at hR
        refine zr_br (fun y => absurd y (by decide)) (fun _ => ?_)
        refine (zr_run_ok 2 (c' := (59, [.ref mo, .long p, zz_no, .int (nI k), .int (nI k), .int (zm_byte p (nI k))], [.int 1, .ref mo], zd_h h mo (zu g 0 (.int th)), bc, bs)) rfl).ex ?_
        refine at59 1 (fun _ _ y => absurd y z) (fun _ => ih (k + 1) 1 _ (by omega) (fun v4 v5 => ?_))
        have := hR v4 v5
        rw [ite_self]
        exact this
end ZMT
