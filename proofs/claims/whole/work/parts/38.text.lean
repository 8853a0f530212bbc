/-! Text: a row of characters -/
/-- only the cells of A may differ -/
def zh_fr (A : List Nat) (h h' : zz_H) : Prop := h'.length = h.length ∧ ∀ q, q ∉ A → h'[q]? = h[q]?
theorem zh_fr.refl (A : List Nat) (h : zz_H) : zh_fr A h h := ⟨rfl, fun _ _ => rfl⟩
theorem zh_fr.trans {A : List Nat} {h h1 h2 : zz_H} (a : zh_fr A h h1) (b : zh_fr A h1 h2) : zh_fr A h h2 := ⟨b.1.trans a.1, fun q hq => (b.2 q hq).trans (a.2 q hq)⟩
theorem zh_fr.mono {A B : List Nat} {h h1 : zz_H} (a : zh_fr A h h1) (hs : ∀ q ∈ A, q ∈ B) : zh_fr B h h1 := ⟨a.1, fun q hq => a.2 q (fun z => hq (hs q z))⟩
theorem zh_fr.set {A : List Nat} {h : zz_H} {a : Nat} {e : va_E} (ha : a ∈ A) : zh_fr A h (h.set a e) := ⟨List.length_set, fun q hq => List.getElem?_set_ne (fun z => hq (by rw [← z]; exact ha))⟩
theorem zh_at {h : zz_H} {a : Nat} {e e' : va_E} (ha : h[a]? = some e) : (h.set a e')[a]? = some e' := by
  rw [List.getElem?_set_self (List.getElem?_eq_some_iff.mp ha).1]
/-- what i2c and castore make of an int -/
def zm_ch (c : Int32) : Int32 := vp_nar .char (c.toUInt32 % 65536).toInt32
/-- the Text at a (its row lies behind it): cs its characters, n its room -/
def zh_T (h : zz_H) (a n : Nat) (cs : List Int32) (ov : Int32) : Prop := a + 1 < zz_SB ∧ n < 2 ^ 31 ∧ cs.length ≤ n ∧ h[a]? = some (.inr (1, [.ref (a + 1), .int (nI cs.length), .int ov])) ∧ ∃ f, h[a + 1]? = some (.inl (1, n, .inl f)) ∧ ∀ i, i < cs.length → f i = cs.getD i 0
theorem zh_T.kept {A : List Nat} {h h' : zz_H} {a n : Nat} {cs : List Int32} {ov : Int32} (hT : zh_T h a n cs ov) (hf : zh_fr A h h') (h1 : a ∉ A) (h2 : a + 1 ∉ A) : zh_T h' a n cs ov := by
  obtain ⟨t1, t2, t3, t4, f, t5, t6⟩ := hT
  exact ⟨t1, t2, t3, (hf.2 a h1).trans t4, f, (hf.2 (a + 1) h2).trans t5, t6⟩
section ZM3
variable {X : Nat × (Nat → Int32)} {h : zz_H} {bc bs a n : Nat} {cs : List Int32} {ov : Int32}
theorem zm_add (hT : zh_T h a n cs ov) (hov : ov = 0 ∨ ov = 1) (c : Int32) : ∃ h', zr_ex zt_Z X 19 (0, [.ref a, .int c], [], h, bc, bs) (.returned none, h', bc, bs) ∧ zh_fr [a, a + 1] h h' ∧ zh_T h' a n (if cs.length < n then cs ++ [zm_ch c] else cs) (if cs.length < n then ov else 1) := by
  obtain ⟨t1, t2, t3, t4, f, t5, t6⟩ := hT
  have hs : a + 1 ≠ zz_SC := by
    have : a + 1 < 1000000 := t1
    show a + 1 ≠ 2000000
    omega
  have go : ∀ {q : zz_O}, zr_ex zt_Z X 19 (if zz_if .ge (nI cs.length) (Int32.ofNat n) then 36 else 12, [.ref a, .int c], [], h, bc, bs) q → zr_ex zt_Z X 19 (0, [.ref a, .int c], [], h, bc, bs) q := fun {q} hq => by
    refine (zr_run_ok 1 (c' := (1, [.ref a, .int c], [.ref a], h, bc, bs)) rfl).ex ?_
    refine (zr_getf (idx := 9) (n := 3) (k := 1) rfl t4 rfl).ex ?_
    refine (zr_run_ok 1 (c' := (5, [.ref a, .int c], [.ref a, .int (nI cs.length)], h, bc, bs)) rfl).ex ?_
    refine (zr_getf (idx := 19) (n := 3) (k := 0) rfl t4 rfl).ex ?_
    refine (zr_alen (n := 1) rfl hs t5 rfl).ex ?_
    exact (zr_run_ok 1 (c' := (if zz_if .ge (nI cs.length) (Int32.ofNat n) then 36 else 12, [.ref a, .int c], [], h, bc, bs)) rfl).ex hq
  by_cases hl : cs.length < n
  · have hge : zz_if .ge (nI cs.length) (Int32.ofNat n) = false := decide_eq_false (nI_ge hl t2)
    have hix : zz_ix (nI cs.length) n = true := decide_eq_true (nI_in hl t2)
    have hcl : (nI cs.length).toNatClampNeg = cs.length := nI_clamp (by omega)
    rw [if_pos hl, if_pos hl]
    have s1 : (h.set (a + 1) (.inl (1, n, .inl (upd f (nI cs.length).toNatClampNeg (zm_ch c)))))[a]? = some (.inr (1, [.ref (a + 1), .int (nI cs.length), .int ov])) := by
      rw [List.getElem?_set_ne (by omega)]
      exact t4
    refine ⟨(h.set (a + 1) (.inl (1, n, .inl (upd f (nI cs.length).toNatClampNeg (zm_ch c))))).set a (.inr (1, [.ref (a + 1), .int (nI cs.length + 1), .int ov])), go ?_, ?_, ?_⟩
    · rw [hge]
      refine (zr_run_ok 1 (c' := (13, [.ref a, .int c], [.ref a], h, bc, bs)) rfl).ex ?_
      refine (zr_getf (idx := 19) (n := 3) (k := 0) rfl t4 rfl).ex ?_
      refine (zr_run_ok 1 (c' := (17, [.ref a, .int c], [.ref a, .ref (a + 1)], h, bc, bs)) rfl).ex ?_
      refine (zr_getf (idx := 9) (n := 3) (k := 1) rfl t4 rfl).ex ?_
      refine (zr_run_ok 2 (c' := (22, [.ref a, .int c], [.int (c.toUInt32 % 65536).toInt32, .int (nI cs.length), .ref (a + 1)], h, bc, bs)) rfl).ex ?_
      refine (zr_cast (n := 1) (r := []) rfl t5 hix).ex ?_
      refine (zr_run_ok 2 (c' := (25, [.ref a, .int c], [.ref a, .ref a], h.set (a + 1) (.inl (1, n, .inl (upd f (nI cs.length).toNatClampNeg (zm_ch c)))), bc, bs)) rfl).ex ?_
      refine (zr_getf (idx := 9) (n := 3) (k := 1) rfl s1 rfl).ex ?_
      refine (zr_run_ok 2 (c' := (30, [.ref a, .int c], [.int (nI cs.length + 1), .ref a], h.set (a + 1) (.inl (1, n, .inl (upd f (nI cs.length).toNatClampNeg (zm_ch c)))), bc, bs)) rfl).ex ?_
      refine (zr_putf (idx := 9) (n := 3) (k := 1) rfl s1 (of_decide_eq_true rfl) rfl rfl).ex ?_
      refine (zr_run_ok 1 (c' := (41, [.ref a, .int c], [], (h.set (a + 1) (.inl (1, n, .inl (upd f (nI cs.length).toNatClampNeg (zm_ch c))))).set a (.inr (1, [.ref (a + 1), .int (nI cs.length + 1), .int ov])), bc, bs)) rfl).ex ?_
      exact zr_vret (n := 1) (r := []) rfl rfl
    · exact (zh_fr.set (by simp)).trans (zh_fr.set (by simp))
    · refine ⟨t1, t2, by rw [List.length_append]; exact hl, ?_, upd f (nI cs.length).toNatClampNeg (zm_ch c), ?_, fun i hi => ?_⟩
      · rw [zh_at s1, List.length_append, nI_1]
        rfl
      · rw [List.getElem?_set_ne (by omega), zh_at t5]
      · rw [hcl]
        rw [List.length_append] at hi
        have hi : i < cs.length + 1 := hi
        unfold upd
        by_cases he : i = cs.length
        · rw [if_pos he, he]
          simp
        · rw [if_neg he, t6 i (by omega)]
          simp [List.getD_eq_getElem?_getD, List.getElem?_append_left (show i < cs.length by omega)]
  · have hge : zz_if .ge (nI cs.length) (Int32.ofNat n) = true := decide_eq_true (nI_le (by omega) (by omega))
    rw [if_neg hl, if_neg hl]
    refine ⟨h.set a (.inr (1, [.ref (a + 1), .int (nI cs.length), .int 1])), go ?_, ?_, ?_⟩
    · rw [hge]
      refine (zr_run_ok 2 (c' := (38, [.ref a, .int c], [.int 1, .ref a], h, bc, bs)) rfl).ex ?_
      refine (zr_putf (idx := 15) (n := 3) (k := 2) rfl t4 (of_decide_eq_true rfl) rfl rfl).ex ?_
      exact zr_vret (n := 1) (r := []) rfl rfl
    · exact zh_fr.set (by simp)
    · refine ⟨t1, t2, t3, ?_, f, ?_, t6⟩
      · rw [zh_at t4]
      · rw [List.getElem?_set_ne (by omega)]
        exact t5
end ZM3
