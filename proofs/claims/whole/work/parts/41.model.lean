/-! the reference's object: its 52 fields as a function; its small methods -/
def zd (h : zz_H) (mo : Nat) (g : Nat → Value) : Prop := h[mo]? = some (.inr (9, (List.range 52).map g))
/-- one field changed -/
def zu (g : Nat → Value) (k : Nat) (v : Value) : Nat → Value := fun j => if j = k then v else g j
theorem zu_at (g : Nat → Value) (k : Nat) (v : Value) : zu g k v k = v := if_pos rfl
theorem zu_ne {g : Nat → Value} {k j : Nat} {v : Value} (hne : j ≠ k) : zu g k v j = g j := if_neg hne
theorem zd_get {g : Nat → Value} {k : Nat} (hk : k < 52) : ((List.range 52).map g)[k]? = some (g k) := by
  rw [List.getElem?_map, List.getElem?_range hk]
  rfl
theorem zd_set {g : Nat → Value} {k : Nat} {v : Value} : ((List.range 52).map g).set k v = (List.range 52).map (zu g k v) := by
  apply List.ext_getElem?
  intro j
  rw [List.getElem?_set, List.getElem?_map, List.getElem?_map, List.length_map, List.length_range]
  by_cases hj : j < 52
  · rw [List.getElem?_range hj]
    by_cases hk : k = j
    · subst hk
      rw [if_pos rfl, if_pos hj]
      simp [zu]
    · rw [if_neg hk]
      simp [zu, Ne.symm hk]
  · rw [List.getElem?_eq_none (by rw [List.length_range]; omega)]
    by_cases hk : k = j
    · rw [if_pos hk, if_neg (by omega)]
      rfl
    · rw [if_neg hk]
      rfl
section ZD
variable {X : Nat × (Nat → Int32)} {h : zz_H} {bc bs mo M pc n idx k : Nat} {L t : List Value} {g : Nat → Value}
theorem zd.kept {A : List Nat} {h' : zz_H} (hM : zd h mo g) (hf : zh_fr A h h') (hA : mo ∉ A) : zd h' mo g := (hf.2 mo hA).trans hM
theorem zr_mget {v : Value} (hc : zz_cod zt_Z M pc = some (.getfield idx, n, [9, k])) (hM : zd h mo g) (hk : k < 52) (hv : g k = v) : zr_to zt_Z X M (pc, L, .ref mo :: t, h, bc, bs) (pc + 3, L, v :: t, h, bc, bs) := by
  subst hv
  exact zr_getf hc hM (zd_get hk)
/-- the heap with one field of the reference's object changed -/
def zd_h (h : zz_H) (mo : Nat) (g : Nat → Value) : zz_H := h.set mo (.inr (9, (List.range 52).map g))
theorem zd_h.now (hM : zd h mo g) (g' : Nat → Value) : zd (zd_h h mo g') mo g' := zh_at hM
theorem zd_h.fr (A : List Nat) (hA : mo ∈ A) (g' : Nat → Value) : zh_fr A h (zd_h h mo g') := zh_fr.set hA
theorem zd_h.again (g1 g2 : Nat → Value) : zd_h (zd_h h mo g1) mo g2 = zd_h h mo g2 := by
  unfold zd_h
  rw [List.set_set]
theorem zr_mput {v : Value} (hc : zz_cod zt_Z M pc = some (.putfield idx, n, [9, k])) (hM : zd h mo g) (hk : k < 52) (hn : narrow (zz_fty zt_Z 9 k) v = v) (hf : fits (zz_fty zt_Z 9 k) v = true) : zr_to zt_Z X M (pc, L, v :: .ref mo :: t, h, bc, bs) (pc + 3, L, t, zd_h h mo (zu g k v), bc, bs) := by
  have h1 := zr_putf (X := X) (L := L) (t := t) (bc := bc) (bs := bs) hc hM (by rw [List.length_map, List.length_range]; exact hk) hn hf
  rw [zd_set] at h1
  exact h1
theorem zm_thrown {v : Int32} (hM : zd h mo g) (hv : g 0 = .int v) : zr_ex zt_Z X 141 (0, [.ref mo], [], h, bc, bs) (.returned (some (.int v)), h, bc, bs) := by
  refine (zr_run_ok 1 (c' := (1, [.ref mo], [.ref mo], h, bc, bs)) rfl).ex ?_
  refine (zr_mget (idx := 100) (n := 3) rfl hM (by decide) hv).ex ?_
  exact zr_iret (n := 1) (r := []) rfl rfl rfl
theorem zm_isCharacterM (c : Int32) : zr_ex zt_Z X 143 (0, [.int c], [], h, bc, bs) (.returned (some (.int (if zm_isChar c then 1 else 0))), h, bc, bs) := by
  have e1 : zr_ex zt_Z X 143 (18, [.int c], [], h, bc, bs) (.returned (some (.int 1)), h, bc, bs) :=
    (zr_run_ok 2 (c' := (23, [.int c], [.int 1], h, bc, bs)) rfl).ex (zr_iret (n := 1) (r := []) rfl rfl rfl)
  have e0 : zr_ex zt_Z X 143 (22, [.int c], [], h, bc, bs) (.returned (some (.int 0)), h, bc, bs) :=
    (zr_run_ok 1 (c' := (23, [.int c], [.int 0], h, bc, bs)) rfl).ex (zr_iret (n := 1) (r := []) rfl rfl rfl)
  refine (zr_run_ok 3 (c' := (if zz_if .eq c 10 then 18 else 6, [.int c], [], h, bc, bs)) rfl).ex ?_
  refine zr_br (fun h1 => ?_) (fun h1 => ?_)
  · have h1 : c = 10 := of_decide_eq_true h1
    simpa [zm_isChar, h1] using e1
  · have h1 : ¬ c = 10 := of_decide_eq_false h1
    refine (zr_run_ok 3 (c' := (if zz_if .lt c 32 then 22 else 12, [.int c], [], h, bc, bs)) rfl).ex ?_
    refine zr_br (fun h2 => ?_) (fun h2 => ?_)
    · have h2 : c < 32 := of_decide_eq_true h2
      simpa [zm_isChar, h1, h2] using e0
    · have h2 : ¬ c < 32 := of_decide_eq_false h2
      refine (zr_run_ok 3 (c' := (if zz_if .gt c 126 then 22 else 18, [.int c], [], h, bc, bs)) rfl).ex ?_
      refine zr_br (fun h3 => ?_) (fun h3 => ?_)
      · have h3 : 126 < c := of_decide_eq_true h3
        have e2 : zm_isChar c = false := by
          unfold zm_isChar
          rw [decide_eq_false h1, decide_eq_false (show ¬ ¬ 126 < c from fun z => z h3)]
          simp
        rw [e2]
        exact e0
      · have h3 : ¬ 126 < c := of_decide_eq_false h3
        have e2 : zm_isChar c = true := by
          unfold zm_isChar
          rw [decide_eq_true h2, decide_eq_true h3]
          simp
        rw [e2]
        exact e1
end ZD
/-- the reference's byte is the class's -/
theorem zm_byteM (p : Int64) (i : Int32) : ((p.toUInt64 >>> ((8 * i).toInt64.toUInt64 &&& Int64.toUInt64 63)).toInt64 &&& 255).toInt32 = zm_byte p i := by
  unfold zm_byte
  rw [Int64.toInt32_and]
  rfl
