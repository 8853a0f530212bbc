/-! PaperObjects.type -/
theorem zm_bts_len (p : Int64) : ∀ f k, (zm_bts p f k).length ≤ f
  | 0, _ => Nat.le_refl _
  | f + 1, k => by
    unfold zm_bts
    split
    · exact Nat.zero_le _
    · rw [List.length_cons]
      have := zm_bts_len p f (k + 1)
      omega
theorem zm_bts_at (p : Int64) : ∀ f k i, i < (zm_bts p f k).length → (zm_bts p f k)[i]? = some (zm_byte p (nI (k + i)))
  | 0, _, _, h => absurd h (Nat.not_lt_zero _)
  | f + 1, k, i, h => by
    unfold zm_bts at h ⊢
    split at h
    · exact absurd h (Nat.not_lt_zero _)
    · next hz =>
      rw [if_neg hz]
      cases i with
      | zero => rfl
      | succ i =>
        rw [List.getElem?_cons_succ, zm_bts_at p f (k + 1) i (by rw [List.length_cons] at h; omega)]
        rw [show k + 1 + i = k + (i + 1) by omega]
theorem zm_puts_fit {n : Nat} : ∀ (cs xs : List Int32) (ov : Int32), cs.length + xs.length ≤ n → zm_puts n (cs, ov) xs = (cs ++ xs, ov)
  | cs, [], ov, _ => by simp [zm_puts]
  | cs, x :: xs, ov, h => by
    rw [List.length_cons] at h
    have e1 : zm_put n (cs, ov) x = (cs ++ [x], ov) := by
      unfold zm_put
      rw [if_pos (show cs.length < n by omega)]
    show zm_puts n (zm_put n (cs, ov) x) xs = _
    rw [e1, zm_puts_fit (cs ++ [x]) xs ov (by rw [List.length_append]; show cs.length + 1 + xs.length ≤ n; omega), List.append_assoc]
    rfl
/-- the bytes that type takes -/
abbrev zm_B (p : Int64) : List Int32 := zm_bts p 8 0
section ZM5
variable {X : Nat × (Nat → Int32)} {h : zz_H} {bc bs o d : Nat} {cs : List Int32} {ov : Int32} {fs : List Value}
theorem zm_type_loop (p : Int64) (hb : 1 ≤ bc) (hs : 6 ≤ bs) (hl : h.length < zz_SB) {R : zz_O} : ∀ m i, i + m = (zm_B p).length →
    (((zm_B p).drop i).all zm_isChar = true → zr_ex zt_Z X 38 (40, [.ref o, .long p, zz_no, .int (nI (zm_B p).length), .int (nI (zm_B p).length)], [], h, bc, bs) R) →
    (((zm_B p).drop i).all zm_isChar = false → R = (.threw h.length, h ++ [.inr (10, [])], bc - 1, bs - 6)) → zr_ex zt_Z X 38 (8, [.ref o, .long p, zz_no, .int (nI (zm_B p).length), .int (nI i)], [], h, bc, bs) R := by
  have hB : (zm_B p).length ≤ 8 := zm_bts_len p 8 0
  intro m
  induction m with
  | zero =>
    intro i hi ht hf
    have : i = (zm_B p).length := by omega
    subst this
    refine (zr_run_ok 3 (c' := (if zz_if .ge (nI (zm_B p).length) (nI (zm_B p).length) then 40 else 14, [.ref o, .long p, zz_no, .int (nI (zm_B p).length), .int (nI (zm_B p).length)], [], h, bc, bs)) rfl).ex ?_
    refine zr_br (fun _ => ht (by rw [List.drop_length]; rfl)) (fun z => absurd (nI_le (Nat.le_refl _) (by omega)) (of_decide_eq_false z))
  | succ m ih =>
    intro i hi ht hf
    have hib : i < (zm_B p).length := by omega
    have hd : (zm_B p).drop i = zm_byte p (nI i) :: (zm_B p).drop (i + 1) := by
      have h1 := zm_bts_at p 8 0 i hib
      rw [Nat.zero_add] at h1
      obtain ⟨h2, h3⟩ := List.getElem?_eq_some_iff.mp h1
      rw [← h3, List.getElem_cons_drop]
    rw [hd, List.all_cons] at ht hf
    refine (zr_run_ok 3 (c' := (if zz_if .ge (nI i) (nI (zm_B p).length) then 40 else 14, [.ref o, .long p, zz_no, .int (nI (zm_B p).length), .int (nI i)], [], h, bc, bs)) rfl).ex ?_
    refine zr_br (fun z => absurd (of_decide_eq_true z) (nI_ge hib (by omega))) (fun _ => ?_)
    refine (zr_run_ok 2 (c' := (17, [.ref o, .long p, zz_no, .int (nI (zm_B p).length), .int (nI i)], [.int (nI i), .long p], h, bc, bs)) rfl).ex ?_
    refine (zr_call (i := .invokestatic 83) (n := 3) (r := [1, 21, 2, 0, 0]) rfl rfl rfl (of_decide_eq_false rfl) (zm_byteOf p (nI i))).ex ?_
    refine (zr_call (i := .invokestatic 87) (n := 3) (r := [1, 40, 1, 0, 0]) rfl rfl rfl (of_decide_eq_false rfl) (zm_isCharacter (zm_byte p (nI i)))).ex ?_
    refine (zr_run_ok 1 (c' := (if zz_if .ne (if zm_isChar (zm_byte p (nI i)) then 1 else 0) 0 then 34 else 26, [.ref o, .long p, zz_no, .int (nI (zm_B p).length), .int (nI i)], [], h, bc, bs)) rfl).ex ?_
    cases hc : zm_isChar (zm_byte p (nI i)) with
    | true =>
      rw [hc] at ht hf
      refine zr_br (fun _ => ?_) (fun z => absurd z (by decide))
      refine (zr_run_ok 2 (c' := (8, [.ref o, .long p, zz_no, .int (nI (zm_B p).length), .int (nI i + 1)], [], h, bc, bs)) rfl).ex ?_
      rw [nI_1]
      exact ih (i + 1) (by omega) ht hf
    | false =>
      rw [hc] at ht hf
      refine zr_br (fun z => absurd z (by decide)) (fun _ => ?_)
      rw [hf rfl]
      exact zr_throw (n := 3) (idx := 91) rfl rfl hb hs hl (by decide)
/-- type: what it answers, what it does -/
theorem zm_type (p : Int64) (hb : 1 ≤ bc) (hs : 6 ≤ bs) (hl : h.length < zz_SB) (hO : h[o]? = some (.inr (0, fs))) (hd : fs[0]? = some (.ref d)) (hT : zh_T h d 100 cs ov) (hov : ov = 0 ∨ ov = 1) :
    if (zm_B p).all zm_isChar = true ∧ cs.length + (zm_B p).length ≤ 100 then o ≠ d → o ≠ d + 1 → ∃ h', zr_ex zt_Z X 38 (0, [.ref o, .long p, zz_no, zz_no, zz_no], [], h, bc, bs) (.returned (some (.int (nI (cs.length + (zm_B p).length)))), h', bc, bs) ∧ zh_fr [d, d + 1] h h' ∧ zh_T h' d 100 (cs ++ zm_B p) ov
    else zr_ex zt_Z X 38 (0, [.ref o, .long p, zz_no, zz_no, zz_no], [], h, bc, bs) (.threw h.length, h ++ [.inr (10, [])], bc - 1, bs - 6) := by
  have hB : (zm_B p).length ≤ 8 := zm_bts_len p 8 0
  have hcs : cs.length ≤ 100 := hT.2.2.1
  have hcn : zm_cnt p 8 0 = (zm_B p).length := by rw [zm_cnt_bts, Nat.zero_add]
  have go : ∀ {R : zz_O}, zr_ex zt_Z X 38 (8, [.ref o, .long p, zz_no, .int (nI (zm_B p).length), .int (nI 0)], [], h, bc, bs) R → zr_ex zt_Z X 38 (0, [.ref o, .long p, zz_no, zz_no, zz_no], [], h, bc, bs) R := fun {R} hR => by
    refine (zr_run_ok 1 (c' := (1, [.ref o, .long p, zz_no, zz_no, zz_no], [.long p], h, bc, bs)) rfl).ex ?_
    refine (zr_call (i := .invokestatic 79) (n := 3) (r := [1, 39, 1, 0, 0]) rfl rfl rfl (of_decide_eq_false rfl) (zm_countOfBytes p)).ex ?_
    rw [hcn]
    exact (zr_run_ok 3 (c' := (8, [.ref o, .long p, zz_no, .int (nI (zm_B p).length), .int (nI 0)], [], h, bc, bs)) rfl).ex hR
  have at40 : ∀ {R : zz_O}, zr_ex zt_Z X 38 (if zz_if .le (nI cs.length + nI (zm_B p).length) 100 then 62 else 54, [.ref o, .long p, zz_no, .int (nI (zm_B p).length), .int (nI (zm_B p).length)], [], h, bc, bs) R → zr_ex zt_Z X 38 (40, [.ref o, .long p, zz_no, .int (nI (zm_B p).length), .int (nI (zm_B p).length)], [], h, bc, bs) R := fun {R} hR => by
    refine (zr_run_ok 1 (c' := (41, [.ref o, .long p, zz_no, .int (nI (zm_B p).length), .int (nI (zm_B p).length)], [.ref o], h, bc, bs)) rfl).ex ?_
    refine (zr_getf (idx := 14) (n := 3) (k := 0) rfl hO hd).ex ?_
    refine (zr_getf (idx := 94) (n := 3) (k := 1) rfl hT.2.2.2.1 rfl).ex ?_
    exact (zr_run_ok 4 (c' := (if zz_if .le (nI cs.length + nI (zm_B p).length) 100 then 62 else 54, [.ref o, .long p, zz_no, .int (nI (zm_B p).length), .int (nI (zm_B p).length)], [], h, bc, bs)) rfl).ex hR
  have hle : zz_if .le (nI cs.length + nI (zm_B p).length) 100 = decide (cs.length + (zm_B p).length ≤ 100) := by
    rw [nI_add]
    exact decide_eq_decide.mpr (nI_leI (b := 100) (by omega) (by decide))
  split
  · next hok =>
    intro n1 n2
    obtain ⟨h', a1, a2, a3⟩ := zm_addPacked (X := X) (bc := bc) (bs := bs) (q := (cs, ov)) p hT hov
    rw [zm_puts_fit cs (zm_B p) ov hok.2] at a3
    refine ⟨h', go (zm_type_loop p hb hs hl (zm_B p).length 0 (by omega) (fun _ => at40 ?_) (fun z => ?_)), a2, a3⟩
    · rw [hle, decide_eq_true hok.2]
      refine (zr_run_ok 1 (c' := (63, [.ref o, .long p, zz_no, .int (nI (zm_B p).length), .int (nI (zm_B p).length)], [.ref o], h, bc, bs)) rfl).ex ?_
      refine (zr_getf (idx := 14) (n := 3) (k := 0) rfl hO hd).ex ?_
      refine (zr_run_ok 1 (c' := (67, [.ref o, .long p, zz_no, .int (nI (zm_B p).length), .int (nI (zm_B p).length)], [.long p, .ref d], h, bc, bs)) rfl).ex ?_
      refine (zr_call (i := .invokevirtual 97) (n := 3) (r := [1, 20, 1, 1, 1]) rfl rfl (zr_avv rfl hT.2.2.2.1) (of_decide_eq_false rfl) a1).ex ?_
      have hO' : h'[o]? = some (.inr (0, fs)) := (a2.2 o (by simp [n1, n2])).trans hO
      refine (zr_run_ok 1 (c' := (71, [.ref o, .long p, zz_no, .int (nI (zm_B p).length), .int (nI (zm_B p).length)], [.ref o], h', bc, bs)) rfl).ex ?_
      refine (zr_getf (idx := 14) (n := 3) (k := 0) rfl hO' hd).ex ?_
      refine (zr_getf (idx := 94) (n := 3) (k := 1) rfl a3.2.2.2.1 rfl).ex ?_
      rw [List.length_append]
      exact zr_iret (n := 1) (r := []) rfl rfl rfl
    · rw [List.drop_zero, hok.1] at z
      cases z
  · next hok =>
    refine go (zm_type_loop p hb hs hl (zm_B p).length 0 (by omega) (fun z => at40 ?_) (fun _ => rfl))
    rw [List.drop_zero] at z
    rw [hle, decide_eq_false (fun y => hok ⟨z, y⟩)]
    exact zr_throw (n := 3) (idx := 91) rfl rfl hb hs hl (by decide)
end ZM5
