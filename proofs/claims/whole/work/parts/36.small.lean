/-! small methods of the class -/
section ZM
variable {X : Nat × (Nat → Int32)} {h : zz_H} {bc bs : Nat}
/-- byte i of a packed long -/
def zm_byte (p : Int64) (i : Int32) : Int32 := ((p.toUInt64 >>> ((8 * i).toInt64.toUInt64 &&& Int64.toUInt64 63)).toInt64).toInt32 &&& 255
theorem zm_byteOf (p : Int64) (i : Int32) : zr_ex zt_Z X 21 (0, [.long p, zz_no, .int i], [], h, bc, bs) (.returned (some (.int (zm_byte p i))), h, bc, bs) :=
  (zr_run_ok 8 (c' := (11, [.long p, zz_no, .int i], [.int (zm_byte p i)], h, bc, bs)) rfl).ex (zr_iret (n := 1) (r := []) rfl rfl rfl)
/-- a code that may be typed -/
def zm_isChar (c : Int32) : Bool := decide (c = 10) || (decide (¬ c < 32) && decide (¬ 126 < c))
theorem zm_isCharacter (c : Int32) : zr_ex zt_Z X 40 (0, [.int c], [], h, bc, bs) (.returned (some (.int (if zm_isChar c then 1 else 0))), h, bc, bs) := by
  have e1 : zr_ex zt_Z X 40 (18, [.int c], [], h, bc, bs) (.returned (some (.int 1)), h, bc, bs) :=
    (zr_run_ok 2 (c' := (23, [.int c], [.int 1], h, bc, bs)) rfl).ex (zr_iret (n := 1) (r := []) rfl rfl rfl)
  have e0 : zr_ex zt_Z X 40 (22, [.int c], [], h, bc, bs) (.returned (some (.int 0)), h, bc, bs) :=
    (zr_run_ok 1 (c' := (23, [.int c], [.int 0], h, bc, bs)) rfl).ex (zr_iret (n := 1) (r := []) rfl rfl rfl)
  refine (zr_run_ok 3 (c' := (if zz_if .eq c 10 then 18 else 6, [.int c], [], h, bc, bs)) rfl).ex ?_
  refine zr_br (fun h1 => ?_) (fun h1 => ?_)
  · have h1 : c = 10 := of_decide_eq_true h1
    simpa [zm_isChar, h1] using e1
  · have h1 : ¬ c = 10 := of_decide_eq_false h1
    refine (zr_run_ok 3 (c' := (if zz_if .lt c 32 then 22 else 12, [.int c], [], h, bc, bs)) rfl).ex ?_
    refine zr_br (fun h2 => ?_) (fun h2 => ?_)
    · have h2 : c < 32 := of_decide_eq_true h2
      simpa [zm_isChar, h1, h2] using e0
    · have h2 : ¬ c < 32 := of_decide_eq_false h2
      refine (zr_run_ok 3 (c' := (if zz_if .gt c 126 then 22 else 18, [.int c], [], h, bc, bs)) rfl).ex ?_
      refine zr_br (fun h3 => ?_) (fun h3 => ?_)
      · have h3 : 126 < c := of_decide_eq_true h3
        have e2 : zm_isChar c = false := by
          unfold zm_isChar
          rw [decide_eq_false h1, decide_eq_false (show ¬ ¬ 126 < c from fun z => z h3)]
          simp
        rw [e2]
        exact e0
      · have h3 : ¬ 126 < c := of_decide_eq_false h3
        have e2 : zm_isChar c = true := by
          unfold zm_isChar
          rw [decide_eq_true h2, decide_eq_true h3]
          simp
        rw [e2]
        exact e1
end ZM
