/-! countOfBytes -/
section ZM2
variable {X : Nat × (Nat → Int32)} {h : zz_H} {bc bs : Nat}
/-- the number of bytes of a packed long, counted on from byte k -/
def zm_cnt (p : Int64) : Nat → Nat → Nat
  | 0, k => k
  | f + 1, k => if zm_byte p (Int32.ofNat k) = 0 then k else zm_cnt p f (k + 1)
theorem zm_ge8 : ∀ k, k < 8 → zz_if .ge (Int32.ofNat k) 8 = false := by decide
theorem zm_suc (k : Nat) : Int32.ofNat k + 1 = Int32.ofNat (k + 1) := by
  rw [Int32.ofNat_add]
  rfl
theorem zm_cnt_loop (p : Int64) : ∀ f k, k + f = 8 → zr_ex zt_Z X 39 (2, [.long p, zz_no, .int (Int32.ofNat k)], [], h, bc, bs) (.returned (some (.int (Int32.ofNat (zm_cnt p f k)))), h, bc, bs) := by
  have out : ∀ k, zr_ex zt_Z X 39 (22, [.long p, zz_no, .int (Int32.ofNat k)], [], h, bc, bs) (.returned (some (.int (Int32.ofNat k))), h, bc, bs) := fun k =>
    (zr_run_ok 1 (c' := (23, [.long p, zz_no, .int (Int32.ofNat k)], [.int (Int32.ofNat k)], h, bc, bs)) rfl).ex (zr_iret (n := 1) (r := []) rfl rfl rfl)
  intro f
  induction f with
  | zero =>
    intro k hk
    have : k = 8 := by omega
    subst this
    refine (zr_run_ok 3 (c' := (if zz_if .ge (Int32.ofNat 8) 8 then 22 else 8, [.long p, zz_no, .int (Int32.ofNat 8)], [], h, bc, bs)) rfl).ex ?_
    exact zr_br (fun _ => out 8) (fun z => absurd z (by decide))
  | succ f ih =>
    intro k hk
    refine (zr_run_ok 3 (c' := (if zz_if .ge (Int32.ofNat k) 8 then 22 else 8, [.long p, zz_no, .int (Int32.ofNat k)], [], h, bc, bs)) rfl).ex ?_
    refine zr_br (fun z => absurd ((zm_ge8 k (by omega)).symm.trans z) (by decide)) (fun _ => ?_)
    refine (zr_run_ok 2 (c' := (10, [.long p, zz_no, .int (Int32.ofNat k)], [.int (Int32.ofNat k), .long p], h, bc, bs)) rfl).ex ?_
    refine (zr_call (i := .invokestatic 83) (n := 3) (r := [1, 21, 2, 0, 0]) rfl rfl rfl (of_decide_eq_false rfl) (zm_byteOf p (Int32.ofNat k))).ex ?_
    refine (zr_run_ok 1 (c' := (if zz_if .eq (zm_byte p (Int32.ofNat k)) 0 then 22 else 16, [.long p, zz_no, .int (Int32.ofNat k)], [], h, bc, bs)) rfl).ex ?_
    refine zr_br (fun z => ?_) (fun z => ?_)
    · have z : zm_byte p (Int32.ofNat k) = 0 := of_decide_eq_true z
      unfold zm_cnt
      rw [if_pos z]
      exact out k
    · have z : ¬ zm_byte p (Int32.ofNat k) = 0 := of_decide_eq_false z
      unfold zm_cnt
      rw [if_neg z]
      refine (zr_run_ok 2 (c' := (2, [.long p, zz_no, .int (Int32.ofNat k + 1)], [], h, bc, bs)) rfl).ex ?_
      rw [zm_suc]
      exact ih (k + 1) (by omega)
theorem zm_countOfBytes (p : Int64) : zr_ex zt_Z X 39 (0, [.long p, zz_no, zz_no], [], h, bc, bs) (.returned (some (.int (Int32.ofNat (zm_cnt p 8 0)))), h, bc, bs) :=
  (zr_run_ok 2 (c' := (2, [.long p, zz_no, .int (Int32.ofNat 0)], [], h, bc, bs)) rfl).ex (zm_cnt_loop p 8 0 rfl)
end ZM2
