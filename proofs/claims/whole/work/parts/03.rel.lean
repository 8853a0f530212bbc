/-! what the real machine holds of the small one's state; the instructions that touch no heap -/
/-- the address of a number: the cells lie one behind another from b0 on; the strings at sa; the script at b -/
def zz_ad (b0 : Nat) (sa : Nat → Nat) (b k : Nat) : Nat := if k < zz_SB then b0 + k else if k < zz_SC then sa (k - zz_SB) else b
def zz_v (ad : Nat → Nat) : Value → Value
  | .ref k => .ref (ad k)
  | v => v
theorem zz_v_cat (ad : Nat → Nat) (v : Value) : (zz_v ad v).category = v.category := by cases v <;> rfl
theorem zz_wt_map (ad : Nat → Nat) (st : List Value) : ((st.map (zz_v ad)).map fun v => v.category).sum = zz_wt st := by
  unfold zz_wt
  rw [List.map_map]
  congr 1
  exact List.map_congr_left fun v _ => zz_v_cat ad v
/-- the locals -/
def zz_lr (ad : Nat → Nat) (ls : Array Slot) (n : Nat) (L : List Value) : Prop := ls.size = n ∧ L.length = n ∧ lv_wf ls ∧ ∀ (i : Nat) (v : Value), L[i]? = some v → v ≠ zz_no → ls[i]? = some (.val (zz_v ad v))
def zz_as (ad : Nat → Nat) (L : List Value) : List (Nat × Value) := (L.zipIdx.filter (fun q => decide (q.1 ≠ zz_no))).map (fun q => (q.2, zz_v ad q.1))
theorem zz_as_mem {ad : Nat → Nat} {L : List Value} {q : Nat × Value} : q ∈ zz_as ad L ↔ ∃ v, L[q.1]? = some v ∧ v ≠ zz_no ∧ q.2 = zz_v ad v := by
  unfold zz_as
  rw [List.mem_map]
  constructor
  · rintro ⟨x, hx, rfl⟩
    rw [List.mem_filter] at hx
    exact ⟨x.1, List.mem_zipIdx_iff_getElem?.mp hx.1, of_decide_eq_true hx.2, rfl⟩
  · rintro ⟨v, h1, h2, h3⟩
    refine ⟨(v, q.1), List.mem_filter.mpr ⟨List.mem_zipIdx_iff_getElem?.mpr h1, decide_eq_true h2⟩, ?_⟩
    rw [← h3]
theorem zz_lr.has {ad : Nat → Nat} {ls : Array Slot} {n : Nat} {L : List Value} (h : zz_lr ad ls n L) : lv_has ls n (zz_as ad L) := by
  obtain ⟨h1, h2, h3, h4⟩ := h
  refine ⟨h1, h3, fun q hq => ?_⟩
  obtain ⟨v, g1, g2, g3⟩ := zz_as_mem.mp hq
  rw [g3]
  exact h4 _ _ g1 g2
theorem zz_cut_len (L : List Value) (i : Nat) : (zz_cut L i).length = L.length := by
  unfold zz_cut
  split
  · rfl
  · split <;> simp
theorem zz_cut_get {L : List Value} {i j : Nat} {w : Value} (h : (zz_cut L i)[j]? = some w) (hw : w ≠ zz_no) : L[j]? = some w ∧ (j + 1 = i → ¬ w.category = 2) := by
  unfold zz_cut at h
  split at h
  · exact ⟨h, fun e => by omega⟩
  · next k =>
    split at h
    · next hc =>
      by_cases hj : k = j
      · subst hj
        rw [List.getElem?_set] at h
        split at h
        · split at h
          · exact absurd (Option.some.inj h).symm hw
          · cases h
        · exact absurd rfl ‹¬ k = k›
      · rw [List.getElem?_set_ne hj] at h
        exact ⟨h, fun e => by omega⟩
    · next hc =>
      refine ⟨h, fun e h2 => hc ?_⟩
      have : k = j := by omega
      subst this
      rw [List.getD_eq_getElem?_getD, h]
      exact h2
theorem zz_lr.set1 {ad : Nat → Nat} {ls ls' : Array Slot} {n i : Nat} {L : List Value} {v : Value} (h : zz_lr ad ls n L) (h' : lv_has ls' n ((i, zz_v ad v) :: (zz_as ad L).filter (fun q => !(q.1 == i) && !(q.1 + 1 == i && q.2.category == 2)))) : zz_lr ad ls' n (zz_set1 L i v) := by
  obtain ⟨g1, g2, g3⟩ := h'
  refine ⟨g1, by unfold zz_set1; rw [List.length_set, zz_cut_len]; exact h.2.1, g2, fun j w hj hw => ?_⟩
  unfold zz_set1 at hj
  by_cases hij : i = j
  · subst hij
    rw [List.getElem?_set] at hj
    simp only [if_true] at hj
    split at hj
    · cases hj
      exact g3 (i, zz_v ad v) List.mem_cons_self
    · cases hj
  · rw [List.getElem?_set_ne hij] at hj
    obtain ⟨a1, a2⟩ := zz_cut_get hj hw
    refine g3 (j, zz_v ad w) (List.mem_cons_of_mem _ (List.mem_filter.mpr ⟨zz_as_mem.mpr ⟨w, a1, hw, rfl⟩, ?_⟩))
    have e1 : ¬ j = i := fun e => hij e.symm
    simp only [zz_v_cat, Bool.and_eq_true, Bool.not_eq_true', beq_eq_false_iff_ne, Bool.and_eq_false_iff, ne_eq]
    refine ⟨e1, ?_⟩
    by_cases e2 : j + 1 = i
    · exact Or.inr (a2 e2)
    · exact Or.inl e2
theorem zz_lr.set2 {ad : Nat → Nat} {ls ls' : Array Slot} {n i : Nat} {L : List Value} {v : Value} (h : zz_lr ad ls n L) (h' : lv_has ls' n ((i, zz_v ad v) :: (zz_as ad L).filter (fun q => !(q.1 == i) && (!(q.1 == i + 1) && !(q.1 + 1 == i && q.2.category == 2))))) : zz_lr ad ls' n (zz_set2 L i v) := by
  obtain ⟨g1, g2, g3⟩ := h'
  refine ⟨g1, by unfold zz_set2; rw [List.length_set, List.length_set, zz_cut_len]; exact h.2.1, g2, fun j w hj hw => ?_⟩
  unfold zz_set2 at hj
  by_cases hij2 : i + 1 = j
  · subst hij2
    rw [List.getElem?_set] at hj
    simp only [if_true] at hj
    split at hj
    · exact absurd (Option.some.inj hj).symm hw
    · cases hj
  rw [List.getElem?_set_ne hij2] at hj
  by_cases hij : i = j
  · subst hij
    rw [List.getElem?_set] at hj
    simp only [if_true] at hj
    split at hj
    · cases hj
      exact g3 (i, zz_v ad v) List.mem_cons_self
    · cases hj
  · rw [List.getElem?_set_ne hij] at hj
    obtain ⟨a1, a2⟩ := zz_cut_get hj hw
    refine g3 (j, zz_v ad w) (List.mem_cons_of_mem _ (List.mem_filter.mpr ⟨zz_as_mem.mpr ⟨w, a1, hw, rfl⟩, ?_⟩))
    have e1 : ¬ j = i := fun e => hij e.symm
    have e3 : ¬ j = i + 1 := fun e => hij2 e.symm
    simp only [zz_v_cat, Bool.and_eq_true, Bool.not_eq_true', beq_eq_false_iff_ne, Bool.and_eq_false_iff, ne_eq]
    refine ⟨e1, e3, ?_⟩
    by_cases e2 : j + 1 = i
    · exact Or.inr (a2 e2)
    · exact Or.inl e2
/-- an instruction's length, where it is one number -/
def zz_len : Instr → Nat
  | .bipush _ | .ldc _ | .iload _ | .lload _ | .aload _ | .istore _ | .lstore _ | .astore _ | .newarray _ => 2
  | .sipush _ | .ldc_w _ | .ldc2_w _ | .iinc _ _ | .ifCond _ _ | .if_icmp _ _ | .ifnull _ | .ifnonnull _ | .goto _ | .getfield _ | .putfield _ | .new _ | .anewarray _ | .invokevirtual _ | .invokespecial _ | .invokestatic _ => 3
  | _ => 1
/-- the targets as the offsets say -/
def zz_tg (i : Instr) (r : List Nat) (pc : Nat) : Prop := match i with
  | .ifCond _ o | .if_icmp _ o | .ifnull o | .ifnonnull o | .goto o => ∀ g : Nat, r = [g] → (pc : Int) + o = (g : Int)
  | .tableswitch d lo hi os => (∀ g : Nat, r[0]? = some g → (pc : Int) + d = (g : Int)) ∧ ∀ (j g : Nat), r[j + 1]? = some g → ∃ o, os[j]? = some o ∧ (pc : Int) + o = (g : Int)
  | .lookupswitch d ps => (ps.toList.zip (ps.toList.drop 1)).all (fun (a, next) => a.1 < next.1) = true ∧ ∀ (d' : Nat) (ts : List Nat), r = d' :: ts → (pc : Int) + d = (d' : Int) ∧ ts.map (fun t : Nat => (t : Int)) = ps.toList.map (fun q => (pc : Int) + q.2)
  | _ => True
