/-! Text: addPacked, code, clear -/
theorem zr_avv {st fs : List Value} {h : zz_H} {N n ci a : Nat} (h1 : st[n]? = some (.ref a)) (ha : h[a]? = some (.inr (ci, fs))) : zz_av st [1, N, n, 1, ci] h = some (N, .ref a :: (st.take n).reverse, st.drop (n + 1)) := by
  simp [zz_av, h1, ha]
theorem zr_avs {st fs : List Value} {h : zz_H} {N n ci a : Nat} (h1 : st[n]? = some (.ref a)) (ha : h[a]? = some (.inr (ci, fs))) : zz_av st [1, N, n, 2, ci] h = some (N, .ref a :: (st.take n).reverse, st.drop (n + 1)) := by
  simp [zz_av, h1, ha]
/-- a byte is a small number -/
theorem zm_byte_nI (p : Int64) (i : Int32) : ∃ m, m < 256 ∧ zm_byte p i = nI m := by
  unfold zm_byte
  generalize ((p.toUInt64 >>> ((8 * i).toInt64.toUInt64 &&& Int64.toUInt64 63)).toInt64).toInt32 = y
  refine ⟨(y &&& 255).toUInt32.toNat, ?_, ?_⟩
  · have e1 : (y &&& 255).toUInt32.toNat = y.toUInt32.toNat &&& 255 := rfl
    rw [e1]
    have : y.toUInt32.toNat &&& 255 ≤ 255 := Nat.and_le_right
    omega
  · unfold nI
    have : Int32.ofNat (y &&& 255).toUInt32.toNat = (UInt32.ofNat (y &&& 255).toUInt32.toNat).toInt32 := rfl
    rw [this, UInt32.ofNat_toNat]
    rfl
theorem zm_ch256 : ∀ m, m < 256 → zm_ch (nI m) = nI m := by decide +kernel
theorem zm_ch_byte (p : Int64) (i : Int32) : zm_ch (zm_byte p i) = zm_byte p i := by
  obtain ⟨m, h1, h2⟩ := zm_byte_nI p i
  rw [h2]
  exact zm_ch256 m h1
/-- one more character; more of them -/
def zm_put (n : Nat) (q : List Int32 × Int32) (c : Int32) : List Int32 × Int32 := if q.1.length < n then (q.1 ++ [c], q.2) else (q.1, 1)
def zm_puts (n : Nat) (q : List Int32 × Int32) (cs : List Int32) : List Int32 × Int32 := cs.foldl (zm_put n) q
theorem zm_put_ov {n : Nat} {q : List Int32 × Int32} {c : Int32} (h : q.2 = 0 ∨ q.2 = 1) : (zm_put n q c).2 = 0 ∨ (zm_put n q c).2 = 1 := by
  unfold zm_put
  split
  · exact h
  · exact Or.inr rfl
abbrev zh_Tq (h : zz_H) (a n : Nat) (q : List Int32 × Int32) : Prop := zh_T h a n q.1 q.2
/-- the bytes of a packed long from byte k on -/
def zm_bts (p : Int64) : Nat → Nat → List Int32
  | 0, _ => []
  | f + 1, k => if zm_byte p (nI k) = 0 then [] else zm_byte p (nI k) :: zm_bts p f (k + 1)
theorem zm_cnt_bts (p : Int64) : ∀ f k, zm_cnt p f k = k + (zm_bts p f k).length
  | 0, k => rfl
  | f + 1, k => by
    unfold zm_cnt zm_bts
    show (if zm_byte p (nI k) = 0 then k else zm_cnt p f (k + 1)) = _
    split
    · rfl
    · rw [zm_cnt_bts p f (k + 1), List.length_cons]
      omega
section ZM4
variable {X : Nat × (Nat → Int32)} {h : zz_H} {bc bs a n : Nat} {q : List Int32 × Int32}
theorem zm_addq (hT : zh_Tq h a n q) (hov : q.2 = 0 ∨ q.2 = 1) (c : Int32) : ∃ h', zr_ex zt_Z X 19 (0, [.ref a, .int c], [], h, bc, bs) (.returned none, h', bc, bs) ∧ zh_fr [a, a + 1] h h' ∧ zh_Tq h' a n (zm_put n q (zm_ch c)) := by
  obtain ⟨h', a1, a2, a3⟩ := zm_add (X := X) (bc := bc) (bs := bs) hT hov c
  refine ⟨h', a1, a2, ?_⟩
  unfold zm_put
  by_cases hl : q.1.length < n
  · simpa [hl] using a3
  · simpa [hl] using a3
theorem zm_addPacked_loop (p : Int64) : ∀ f k (h : zz_H) (q : List Int32 × Int32), k + f = 8 → zh_Tq h a n q → (q.2 = 0 ∨ q.2 = 1) → ∃ h', zr_ex zt_Z X 20 (2, [.ref a, .long p, zz_no, .int (nI k)], [], h, bc, bs) (.returned none, h', bc, bs) ∧ zh_fr [a, a + 1] h h' ∧ zh_Tq h' a n (zm_puts n q (zm_bts p f k)) := by
  have out : ∀ k (h : zz_H), zr_ex zt_Z X 20 (31, [.ref a, .long p, zz_no, .int (nI k)], [], h, bc, bs) (.returned none, h, bc, bs) := fun k h => zr_vret (n := 1) (r := []) rfl rfl
  intro f
  induction f with
  | zero =>
    intro k h q hk hT hov
    have : k = 8 := by omega
    subst this
    refine ⟨h, ?_, zh_fr.refl _ _, hT⟩
    refine (zr_run_ok 3 (c' := (if zz_if .ge (nI 8) 8 then 31 else 8, [.ref a, .long p, zz_no, .int (nI 8)], [], h, bc, bs)) rfl).ex ?_
    exact zr_br (fun _ => out 8 h) (fun z => absurd z (by decide))
  | succ f ih =>
    intro k h q hk hT hov
    have go : ∀ {o : zz_O}, zr_ex zt_Z X 20 (if zz_if .eq (zm_byte p (nI k)) 0 then 31 else 16, [.ref a, .long p, zz_no, .int (nI k)], [], h, bc, bs) o → zr_ex zt_Z X 20 (2, [.ref a, .long p, zz_no, .int (nI k)], [], h, bc, bs) o := fun {o} ho => by
      refine (zr_run_ok 3 (c' := (if zz_if .ge (nI k) 8 then 31 else 8, [.ref a, .long p, zz_no, .int (nI k)], [], h, bc, bs)) rfl).ex ?_
      refine zr_br (fun z => absurd ((zm_ge8 k (by omega)).symm.trans z) (by decide)) (fun _ => ?_)
      refine (zr_run_ok 2 (c' := (10, [.ref a, .long p, zz_no, .int (nI k)], [.int (nI k), .long p], h, bc, bs)) rfl).ex ?_
      refine (zr_call (i := .invokestatic 40) (n := 3) (r := [1, 21, 2, 0, 0]) rfl rfl rfl (of_decide_eq_false rfl) (zm_byteOf p (nI k))).ex ?_
      exact (zr_run_ok 1 (c' := (if zz_if .eq (zm_byte p (nI k)) 0 then 31 else 16, [.ref a, .long p, zz_no, .int (nI k)], [], h, bc, bs)) rfl).ex ho
    by_cases z : zm_byte p (nI k) = 0
    · refine ⟨h, go ?_, zh_fr.refl _ _, ?_⟩
      · rw [show zz_if .eq (zm_byte p (nI k)) 0 = true from decide_eq_true z]
        exact out k h
      · unfold zm_bts
        rw [if_pos z]
        exact hT
    · obtain ⟨h1, a1, a2, a3⟩ := zm_addq (X := X) (bc := bc) (bs := bs) hT hov (zm_byte p (nI k))
      rw [zm_ch_byte] at a3
      obtain ⟨h2, b1, b2, b3⟩ := ih (k + 1) h1 _ (by omega) a3 (zm_put_ov hov)
      refine ⟨h2, go ?_, a2.trans b2, ?_⟩
      · rw [show zz_if .eq (zm_byte p (nI k)) 0 = false from decide_eq_false z]
        refine (zr_run_ok 3 (c' := (19, [.ref a, .long p, zz_no, .int (nI k)], [.int (nI k), .long p, .ref a], h, bc, bs)) rfl).ex ?_
        refine (zr_call (i := .invokestatic 40) (n := 3) (r := [1, 21, 2, 0, 0]) rfl rfl rfl (of_decide_eq_false rfl) (zm_byteOf p (nI k))).ex ?_
        refine (zr_call (i := .invokevirtual 23) (n := 3) (r := [1, 19, 1, 1, 1]) rfl rfl (zr_avv rfl hT.2.2.2.1) (of_decide_eq_false rfl) a1).ex ?_
        refine (zr_run_ok 2 (c' := (2, [.ref a, .long p, zz_no, .int (nI k + 1)], [], h1, bc, bs)) rfl).ex ?_
        rw [nI_1]
        exact b1
      · unfold zm_bts
        rw [if_neg z]
        exact b3
theorem zm_addPacked (p : Int64) (hT : zh_Tq h a n q) (hov : q.2 = 0 ∨ q.2 = 1) : ∃ h', zr_ex zt_Z X 20 (0, [.ref a, .long p, zz_no, zz_no], [], h, bc, bs) (.returned none, h', bc, bs) ∧ zh_fr [a, a + 1] h h' ∧ zh_Tq h' a n (zm_puts n q (zm_bts p 8 0)) := by
  obtain ⟨h', a1, a2, a3⟩ := zm_addPacked_loop (X := X) (bc := bc) (bs := bs) p 8 0 h q rfl hT hov
  exact ⟨h', (zr_run_ok 2 (c' := (2, [.ref a, .long p, zz_no, .int (nI 0)], [], h, bc, bs)) rfl).ex a1, a2, a3⟩
end ZM4
