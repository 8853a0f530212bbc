/-! PaperObjectsModel.type: its second loop, and all of it -/
/-- a row of characters that begins with cs -/
def zh_R (h : zz_H) (a N : Nat) (cs : List Int32) : Prop := a < zz_SB ∧ N < 2 ^ 31 ∧ cs.length ≤ N ∧ ∃ f, h[a]? = some (.inl (1, N, .inl f)) ∧ ∀ i, i < cs.length → f i = cs.getD i 0
theorem zh_R.kept {A : List Nat} {h h' : zz_H} {a N : Nat} {cs : List Int32} (hR : zh_R h a N cs) (hf : zh_fr A h h') (hA : a ∉ A) : zh_R h' a N cs := by
  obtain ⟨t1, t2, t3, f, t4, t5⟩ := hR
  exact ⟨t1, t2, t3, f, (hf.2 a hA).trans t4, t5⟩
/-- one more character behind -/
theorem zh_R.app {h : zz_H} {a N : Nat} {cs : List Int32} {f : Nat → Int32} {c : Int32} (h1 : a < zz_SB) (h2 : N < 2 ^ 31) (h3 : cs.length < N) (h4 : h[a]? = some (.inl (1, N, .inl f))) (h5 : ∀ i, i < cs.length → f i = cs.getD i 0) : zh_R (h.set a (.inl (1, N, .inl (upd f cs.length c)))) a N (cs ++ [c]) := by
  refine ⟨h1, h2, by rw [List.length_append]; exact h3, _, zh_at h4, fun i hi => ?_⟩
  rw [List.length_append] at hi
  have hi : i < cs.length + 1 := hi
  unfold upd
  by_cases he : i = cs.length
  · rw [if_pos he, he]
    simp
  · rw [if_neg he, h5 i (by omega)]
    simp [List.getD_eq_getElem?_getD, List.getElem?_append_left (show i < cs.length by omega)]
theorem zu_self (g : Nat → Value) (k : Nat) : zu g k (g k) = g := by
  funext j
  unfold zu
  by_cases hj : j = k
  · rw [if_pos hj, hj]
  · rw [if_neg hj]
section ZMT2
variable {X : Nat × (Nat → Int32)} {bc bs mo da N : Nat}
theorem zm_typeM_loop2 (p : Int64) (hne : da ≠ mo) : ∀ m i (h : zz_H) (g : Nat → Value) (cs : List Int32), i + m = (zm_B p).length → zd h mo g → g 2 = .ref da → g 1 = .int (nI cs.length) → zh_R h da N cs → cs.length + m ≤ N →
    ∃ h', (∀ v5 : Value, zr_ex zt_Z X 142 (116, [.ref mo, .long p, zz_no, .int (nI (zm_B p).length), .int (nI i), v5], [], h, bc, bs) (.returned (some (.int (nI (cs.length + m)))), h', bc, bs)) ∧ zh_fr [mo, da] h h' ∧ zd h' mo (zu g 1 (.int (nI (cs.length + m)))) ∧ zh_R h' da N (cs ++ (zm_B p).drop i) := by
  have hB : (zm_B p).length ≤ 8 := zm_bts_len p 8 0
  intro m
  induction m with
  | zero =>
    intro i h g cs hi hM g2 g1 hR hN
    have : i = (zm_B p).length := by omega
    subst this
    refine ⟨h, fun v5 => ?_, zh_fr.refl _ _, ?_, ?_⟩
    · refine (zr_run_ok 3 (c' := (if zz_if .ge (nI (zm_B p).length) (nI (zm_B p).length) then 160 else 122, [.ref mo, .long p, zz_no, .int (nI (zm_B p).length), .int (nI (zm_B p).length), v5], [], h, bc, bs)) rfl).ex ?_
      refine zr_br (fun _ => ?_) (fun z => absurd (nI_le (Nat.le_refl _) (by omega)) (of_decide_eq_false z))
      refine (zr_run_ok 1 (c' := (161, [.ref mo, .long p, zz_no, .int (nI (zm_B p).length), .int (nI (zm_B p).length), v5], [.ref mo], h, bc, bs)) rfl).ex ?_
      refine (zr_mget (idx := 107) (n := 3) (k := 1) rfl hM (by decide) g1).ex ?_
      exact zr_iret (n := 1) (r := []) rfl rfl rfl
    · rw [Nat.add_zero, ← g1, zu_self]
      exact hM
    · rw [List.drop_length, List.append_nil]
      exact hR
  | succ m ih =>
    intro i h g cs hi hM g2 g1 hR hN
    obtain ⟨r1, r2, r3, f, r4, r5⟩ := id hR
    have hib : i < (zm_B p).length := by omega
    have hd : (zm_B p).drop i = zm_byte p (nI i) :: (zm_B p).drop (i + 1) := by
      have h1 := zm_bts_at p 8 0 i hib
      rw [Nat.zero_add] at h1
      obtain ⟨h2, h3⟩ := List.getElem?_eq_some_iff.mp h1
      rw [← h3, List.getElem_cons_drop]
    have hl : cs.length < N := by omega
    have hcl : (nI cs.length).toNatClampNeg = cs.length := nI_clamp (by omega)
    have hix : zz_ix (nI cs.length) N = true := decide_eq_true (nI_in hl r2)
    have hRa : zh_R (h.set da (.inl (1, N, .inl (upd f cs.length (zm_byte p (nI i)))))) da N (cs ++ [zm_byte p (nI i)]) := zh_R.app r1 r2 hl r4 r5
    have hMa : zd (h.set da (.inl (1, N, .inl (upd f cs.length (zm_byte p (nI i)))))) mo g := by
      unfold zd
      rw [List.getElem?_set_ne hne]
      exact hM
    have hMb := zd_h.now hMa (zu g 1 (.int (nI (cs.length + 1))))
    have hRb : zh_R (zd_h (h.set da (.inl (1, N, .inl (upd f cs.length (zm_byte p (nI i)))))) mo (zu g 1 (.int (nI (cs.length + 1))))) da N (cs ++ [zm_byte p (nI i)]) := hRa.kept (zd_h.fr [mo] (by simp) _) (by simp [hne])
    have el : (cs ++ [zm_byte p (nI i)]).length = cs.length + 1 := by simp
    obtain ⟨h', a1, a2, a3, a4⟩ := ih (i + 1) _ _ _ (by omega) hMb (by rw [zu_ne (by decide)]; exact g2) (by rw [zu_at, el]) hRb (by rw [el]; omega)
    rw [el] at a1 a3
    rw [zu_zu, show cs.length + 1 + m = cs.length + (m + 1) by omega] at a3
    rw [show cs.length + 1 + m = cs.length + (m + 1) by omega] at a1
    refine ⟨h', fun v5 => ?_, (zh_fr.trans (zh_fr.set (by simp)) (zh_fr.trans (zd_h.fr _ (by simp) _) a2)), a3, ?_⟩
    · refine (zr_run_ok 3 (c' := (if zz_if .ge (nI i) (nI (zm_B p).length) then 160 else 122, [.ref mo, .long p, zz_no, .int (nI (zm_B p).length), .int (nI i), v5], [], h, bc, bs)) rfl).ex ?_
      refine zr_br (fun z => absurd (of_decide_eq_true z) (nI_ge hib (by omega))) (fun _ => ?_)
      refine (zr_run_ok 1 (c' := (123, [.ref mo, .long p, zz_no, .int (nI (zm_B p).length), .int (nI i), v5], [.ref mo], h, bc, bs)) rfl).ex ?_
      refine (zr_mget (idx := 7) (n := 3) (k := 2) rfl hM (by decide) g2).ex ?_
      refine (zr_run_ok 1 (c' := (127, [.ref mo, .long p, zz_no, .int (nI (zm_B p).length), .int (nI i), v5], [.ref mo, .ref da], h, bc, bs)) rfl).ex ?_
      refine (zr_mget (idx := 107) (n := 3) (k := 1) rfl hM (by decide) g1).ex ?_
      refine (zr_run_ok 9 (c' := (143, [.ref mo, .long p, zz_no, .int (nI (zm_B p).length), .int (nI i), v5], [.int ((((p.toUInt64 >>> ((8 * nI i).toInt64.toUInt64 &&& Int64.toUInt64 63)).toInt64 &&& 255).toInt32).toUInt32 % 65536).toInt32, .int (nI cs.length), .ref da], h, bc, bs)) rfl).ex ?_
      rw [zm_byteM]
      refine (zr_cast (n := 1) (r := []) rfl r4 hix).ex ?_
      rw [show vp_nar .char ((zm_byte p (nI i)).toUInt32 % 65536).toInt32 = zm_byte p (nI i) from zm_ch_byte p (nI i), hcl]
      refine (zr_run_ok 2 (c' := (146, [.ref mo, .long p, zz_no, .int (nI (zm_B p).length), .int (nI i), v5], [.ref mo, .ref mo], h.set da (.inl (1, N, .inl (upd f cs.length (zm_byte p (nI i))))), bc, bs)) rfl).ex ?_
      refine (zr_mget (idx := 107) (n := 3) (k := 1) rfl hMa (by decide) g1).ex ?_
      refine (zr_run_ok 2 (c' := (151, [.ref mo, .long p, zz_no, .int (nI (zm_B p).length), .int (nI i), v5], [.int (nI cs.length + 1), .ref mo], h.set da (.inl (1, N, .inl (upd f cs.length (zm_byte p (nI i))))), bc, bs)) rfl).ex ?_
      rw [nI_1]
      refine (zr_mput (idx := 107) (n := 3) (k := 1) rfl hMa (by decide) rfl rfl).ex ?_
      refine (zr_run_ok 2 (c' := (116, [.ref mo, .long p, zz_no, .int (nI (zm_B p).length), .int (nI i + 1), v5], [], zd_h (h.set da (.inl (1, N, .inl (upd f cs.length (zm_byte p (nI i)))))) mo (zu g 1 (.int (nI (cs.length + 1)))), bc, bs)) rfl).ex ?_
      rw [nI_1]
      exact a1 v5
    · rw [hd]
      simpa using a4
/-- type: what it answers, what it does -/
theorem zm_typeM (p : Int64) {h : zz_H} {g : Nat → Value} {cs : List Int32} (hne : da ≠ mo) (hM : zd h mo g) (g2 : g 2 = .ref da) (g1 : g 1 = .int (nI cs.length)) (hR : zh_R h da 100 cs) :
    if (zm_B p).all zm_isChar = true ∧ cs.length + (zm_B p).length ≤ 100 then ∃ h', zr_ex zt_Z X 142 (0, [.ref mo, .long p, zz_no, zz_no, zz_no, zz_no], [], h, bc, bs) (.returned (some (.int (nI (cs.length + (zm_B p).length)))), h', bc, bs) ∧ zh_fr [mo, da] h h' ∧ zd h' mo (zu (zu g 0 (.int 0)) 1 (.int (nI (cs.length + (zm_B p).length)))) ∧ zh_R h' da 100 (cs ++ zm_B p)
    else ∃ h', zr_ex zt_Z X 142 (0, [.ref mo, .long p, zz_no, zz_no, zz_no, zz_no], [], h, bc, bs) (.returned (some (.int 0)), h', bc, bs) ∧ zh_fr [mo] h h' ∧ zd h' mo (zu g 0 (.int 1)) := by
  have hB : (zm_B p).length ≤ 8 := zm_bts_len p 8 0
  have hcs : cs.length ≤ 100 := hR.2.2.1
  have hle : zz_if .le (nI cs.length + nI (zm_B p).length) 100 = decide (cs.length + (zm_B p).length ≤ 100) := by
    rw [nI_add]
    exact decide_eq_decide.mpr (nI_leI (b := 100) (by omega) (by decide))
  have hM1 : ∀ th : Int32, zd (zd_h h mo (zu g 0 (.int th))) mo (zu g 0 (.int th)) := fun th => zd_h.now hM _
  -- to the second question
  have go : ∀ {R : zz_O}, (∀ v4 v5 : Value, zr_ex zt_Z X 142 (if zz_if .eq (if (zm_B p).all zm_isChar = true ∧ cs.length + (zm_B p).length ≤ 100 then 0 else 1) 0 then 113 else 111, [.ref mo, .long p, zz_no, .int (nI (zm_B p).length), v4, v5], [], zd_h h mo (zu g 0 (.int (if (zm_B p).all zm_isChar = true ∧ cs.length + (zm_B p).length ≤ 100 then 0 else 1))), bc, bs) R) → zr_ex zt_Z X 142 (0, [.ref mo, .long p, zz_no, zz_no, zz_no, zz_no], [], h, bc, bs) R := fun {R} hR0 => by
    refine (zr_run_ok 4 (c' := (4, [.ref mo, .long p, zz_no, .int (nI 0), zz_no, zz_no], [.int 0, .ref mo], h, bc, bs)) rfl).ex ?_
    refine (zr_mput (idx := 100) (n := 3) (k := 0) rfl hM (by decide) rfl rfl).ex ?_
    refine (zr_run_ok 2 (c' := (10, [.ref mo, .long p, zz_no, .int (nI 0), .int (nI 0), zz_no], [], zd_h h mo (zu g 0 (.int 0)), bc, bs)) rfl).ex ?_
    refine zm_typeM_loop p hM 8 0 0 zz_no rfl (fun v4 v5 => ?_)
    rw [Nat.zero_add]
    generalize hth : (if (zm_bts p 8 0).all zm_isChar then (0 : Int32) else 1) = th
    refine (zr_run_ok 2 (c' := (83, [.ref mo, .long p, zz_no, .int (nI (zm_B p).length), v4, v5], [.ref mo, .ref mo], zd_h h mo (zu g 0 (.int th)), bc, bs)) rfl).ex ?_
    refine (zr_mget (v := .int (nI cs.length)) (idx := 107) (n := 3) (k := 1) rfl (hM1 th) (by decide) ((zu_ne (by decide)).trans g1)).ex ?_
    refine (zr_run_ok 4 (c' := (if zz_if .le (nI cs.length + nI (zm_B p).length) 100 then 97 else 93, [.ref mo, .long p, zz_no, .int (nI (zm_B p).length), v4, v5], [.ref mo], zd_h h mo (zu g 0 (.int th)), bc, bs)) rfl).ex ?_
    have at101 : ∀ th' : Int32, th' = (if (zm_B p).all zm_isChar = true ∧ cs.length + (zm_B p).length ≤ 100 then 0 else 1) → zr_ex zt_Z X 142 (101, [.ref mo, .long p, zz_no, .int (nI (zm_B p).length), v4, v5], [.int th', .ref mo], zd_h h mo (zu g 0 (.int th)), bc, bs) R := fun th' e => by
      refine (zr_mput (idx := 100) (n := 3) (k := 0) rfl (hM1 th) (by decide) rfl rfl).ex ?_
      rw [zd_h.again, zu_zu]
      refine (zr_run_ok 1 (c' := (105, [.ref mo, .long p, zz_no, .int (nI (zm_B p).length), v4, v5], [.ref mo], zd_h h mo (zu g 0 (.int th')), bc, bs)) rfl).ex ?_
      refine (zr_mget (idx := 100) (n := 3) (k := 0) rfl (hM1 th') (by decide) (zu_at _ _ _)).ex ?_
      refine (zr_run_ok 1 (c' := (if zz_if .eq th' 0 then 113 else 111, [.ref mo, .long p, zz_no, .int (nI (zm_B p).length), v4, v5], [], zd_h h mo (zu g 0 (.int th')), bc, bs)) rfl).ex ?_
      rw [e]
      exact hR0 v4 v5
    rw [hle]
    refine zr_br (fun z => ?_) (fun z => ?_)
    · have z := of_decide_eq_true z
      refine (zr_run_ok 1 (c' := (98, [.ref mo, .long p, zz_no, .int (nI (zm_B p).length), v4, v5], [.ref mo, .ref mo], zd_h h mo (zu g 0 (.int th)), bc, bs)) rfl).ex ?_
      refine (zr_mget (idx := 100) (n := 3) (k := 0) rfl (hM1 th) (by decide) (zu_at _ _ _)).ex ?_
      refine at101 th ?_
      rw [← hth]
      simp [z]
    · have z := of_decide_eq_false z
      refine (zr_run_ok 2 (c' := (101, [.ref mo, .long p, zz_no, .int (nI (zm_B p).length), v4, v5], [.int 1, .ref mo], zd_h h mo (zu g 0 (.int th)), bc, bs)) rfl).ex ?_
      refine at101 1 ?_
      rw [if_neg (fun y => z y.2)]
  split
  · next hok =>
    have hRb : zh_R (zd_h h mo (zu g 0 (.int 0))) da 100 cs := hR.kept (zd_h.fr [mo] (by simp) _) (by simp [hne])
    obtain ⟨h', a1, a2, a3, a4⟩ := zm_typeM_loop2 (X := X) (bc := bc) (bs := bs) p hne (zm_B p).length 0 _ _ cs (by omega) (hM1 0) (by rw [zu_ne (by decide)]; exact g2) (by rw [zu_ne (by decide)]; exact g1) hRb hok.2
    refine ⟨h', go (fun v4 v5 => ?_), zh_fr.trans (zd_h.fr _ (by simp) _) a2, a3, by rw [List.drop_zero] at a4; exact a4⟩
    rw [if_pos hok]
    refine zr_br (fun _ => ?_) (fun z => absurd z (by decide))
    exact (zr_run_ok 2 (c' := (116, [.ref mo, .long p, zz_no, .int (nI (zm_B p).length), .int (nI 0), v5], [], zd_h h mo (zu g 0 (.int 0)), bc, bs)) rfl).ex (a1 v5)
  · next hok =>
    refine ⟨zd_h h mo (zu g 0 (.int 1)), go (fun v4 v5 => ?_), zd_h.fr _ (by simp) _, hM1 1⟩
    rw [if_neg hok]
    refine zr_br (fun z => absurd z (by decide)) (fun _ => ?_)
    refine (zr_run_ok 1 (c' := (112, [.ref mo, .long p, zz_no, .int (nI (zm_B p).length), v4, v5], [.int 0], zd_h h mo (zu g 0 (.int 1)), bc, bs)) rfl).ex ?_
    exact zr_iret (n := 1) (r := []) rfl rfl rfl
end ZMT2
