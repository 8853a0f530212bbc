/-! the law's entry: what holds there, and stays -/
/-- one string constant -/
def zw_str (tm : Term) (cs : List Int32) : List Cond := [.exactly tm "java/lang/String", .eq (.field tm "java/lang/String" "coder" "B") (.int 0), .arrayOf (.field tm "java/lang/String" "value" "[B") .byte, .eq (.length (.field tm "java/lang/String" "value" "[B")) (.int (Int32.ofNat cs.length))] ++ (List.range cs.length).map (fun j => .eq (.elem (.field tm "java/lang/String" "value" "[B") (.int (Int32.ofNat j))) (.int (cs.getD j 0)))
theorem zw_str_ok {args : Array Value} {s : State} {tm : Term} {cs : List Int32} (hN : cs.length < 2 ^ 31) (h : ∀ w ∈ zw_str tm cs, w.before args s = true) : ∃ q : Nat × Nat, tm.eval args s none [] s = some (.ref q.1) ∧ zs_at s.heap.size q.1 q.2 cs.length (fun j => cs.getD j 0) s := by
  have hA : ∀ a : Nat, a < s.heap.size → ¬ s.heap.size ≤ a := fun a ha => by omega
  obtain ⟨a, c, cA, kA, q1, q2, q3, q4, q5, q6, -⟩ := Cond.exactly_spec (args := args) (first := s) (o := none) (s := s) (idx := []) (t := tm) (cls := "java/lang/String") (h (.exactly tm "java/lang/String") (by simp [zw_str]))
  obtain ⟨t, ht, hT⟩ := va_Tof (f := fun j => .int (cs.getD j 0)) (A := fun q => s.heap.size ≤ q) hN (h (.arrayOf (.field tm "java/lang/String" "value" "[B") .byte) (by simp [zw_str])) (va_eqt (h (.eq (.length (.field tm "java/lang/String" "value" "[B")) (.int (Int32.ofNat cs.length))) (by simp [zw_str])))
    (fun j hj => va_eqt (h (.eq (.elem (.field tm "java/lang/String" "value" "[B") (.int (Int32.ofNat j))) (.int (cs.getD j 0))) (List.mem_append.mpr (Or.inr (List.mem_map.mpr ⟨j, List.mem_range.mpr hj, rfl⟩))))) hA
  exact ⟨(a, t), q1, ⟨cA, q3, q5, by rw [q6]; exact q2, hA a (Array.getElem?_eq_some_iff.mp q3).1⟩, vk_OFof q1 (va_eqt (h (.eq (.field tm "java/lang/String" "coder" "B") (.int 0)) (by simp [zw_str]))) hA, vk_OFof q1 ht hA, hT⟩
/-- what holds at every invocation beyond the tables' words -/
def zw_Sx (AO : List String) (SR : List (String × Nat × String × Nat)) (EX : List Nat) (str : Nat → List Int32) (b0 b : Nat) (sa sv : Nat → Nat) (D : va_G) (X : Nat × (Nat → Int32)) (s : State) : Prop :=
  (∀ C ∈ AO, va_AO C s) ∧ (∀ q ∈ SR, vk_R q.1 q.2.1 q.2.2.1 (sa q.2.2.2) s) ∧ (∀ ci ∈ EX, ∀ cj ∈ EX, ci ≠ cj → s.vm.assignable (D.1 ci) (D.1 cj) = false) ∧ va_X b X.1 X.2 s s.heap ∧ zs_cs b0 s ∧ (∀ j, zs_at b0 (sa j) (sv j) (str j).length (fun i => (str j).getD i 0) s) ∧ zx_S b0 Jvm.Bundle.tN "UNASSIGNED_STACK" Jvm.Bundle.steD s ∧ zx_S b0 Jvm.Bundle.tN "SUPPRESSED_SENTINEL" Jvm.Bundle.listD s
section ZW
variable {AO : List String} {SR : List (String × Nat × String × Nat)} {EX : List Nat} {str : Nat → List Int32} {b0 b : Nat} {sa sv : Nat → Nat} {D : va_G} {X : Nat × (Nat → Int32)}
theorem zw_stable (hb : b < b0) : zz_stable b0 (zw_Sx AO SR EX str b0 b sa sv D X) := by
  intro s U h hW hq
  obtain ⟨h1, h2, h3, h4, h5, h6, h7, h8⟩ := h
  exact ⟨fun C hC => (h1 C hC).moved hW.alike, fun q hq => (h2 q hq).warm hW, fun ci hi cj hj hne => by rw [hW.alike.assignable]; exact h3 ci hi cj hj hne, (va_X.moved hW.alike h4).kept (hq b hb), h5.stays hW hq, fun j => (h6 j).stays hW hq, h7.stays hW hq, h8.stays hW hq⟩
theorem zw_SX (hb : b < b0) (hSR : ∀ q ∈ SR, q.2.2.2 < 1000000) : zz_SX AO SR EX D sa b b0 X (zw_Sx AO SR EX str b0 b sa sv D X) :=
  ⟨zw_stable hb, hb, fun s h => ⟨fun C hC a => va_AO.use (h.1 C hC), fun q hq => ⟨h.2.1 q hq, hSR q hq⟩, h.2.2.1, h.2.2.2.1⟩⟩
end ZW
/-- the rows of types -/
theorem zw_ty {s : State} {args : Array Value} {ty : FieldType} (h : (Cond.arrayClass ty).before args s = true) (hty : ∀ C, ty ≠ .object C) : ∃ cA, ArrOfT s cA ty ∧ va_RA s cA ty := by
  obtain ⟨c, k, comp, h1, h2, h3⟩ := Cond.arrayClass_spec h
  refine ⟨c, fun n z => ⟨fun k h => (by cases h), k, h2, comp, h3⟩, ?_⟩
  cases ty with
  | object C => exact absurd rfl (hty C)
  | _ => exact h1
theorem zw_tyO {s : State} {C : String} (h : va_AO C s) : ∃ cA, ArrOfT s cA (.object C) ∧ va_RA s cA (.object C) := by
  obtain ⟨comp, c, k, h1, h2, h3, h4, h5⟩ := Cond.arrayOver_spec h
  exact ⟨c, fun n z => ⟨fun k h => (by cases h), k, h3, comp, h4⟩, k, comp, h3, h4, h1, h5⟩
/-- classes and types, chosen -/
theorem zw_K {s : State} {cl : List vw_C} {tyl : List FieldType} (hcl : ∀ (c : Nat) (q : vw_C), cl[c]? = some q → ∃ (cC : ClassId) (iS : Nat → Nat), u_Kn s q.1 q.2.1 q.2.2 cC iS) (hty : ∀ (g : Nat) (ty : FieldType), tyl[g]? = some ty → ∃ cA, ArrOfT s cA ty ∧ va_RA s cA ty) :
    ∃ (D : va_G) (tys : List (ClassId × FieldType)) (tc : Nat → ClassId), va_K D cl tys s ∧ ∀ (g : Nat) (ty : FieldType), tyl[g]? = some ty → tys[g]? = some (tc g, ty) := by
  have h1 : ∀ c : Nat, ∃ q : ClassId × (Nat → Nat), ∀ r : vw_C, cl[c]? = some r → u_Kn s r.1 r.2.1 r.2.2 q.1 q.2 := fun c => by
    cases hc : cl[c]? with
    | none => exact ⟨(0, fun _ => 0), fun r hr => by cases hr⟩
    | some r =>
      obtain ⟨a, b, h⟩ := hcl c r hc
      exact ⟨(a, b), fun r' hr => by cases hr; exact h⟩
  obtain ⟨fD, hD⟩ := Classical.axiomOfChoice h1
  have h2 : ∀ g : Nat, ∃ cA : ClassId, ∀ ty, tyl[g]? = some ty → ArrOfT s cA ty ∧ va_RA s cA ty := fun g => by
    cases hg : tyl[g]? with
    | none => exact ⟨0, fun ty hy => by cases hy⟩
    | some ty =>
      obtain ⟨cA, h⟩ := hty g ty hg
      exact ⟨cA, fun ty' hy => by cases hy; exact h⟩
  obtain ⟨tc, hT⟩ := Classical.axiomOfChoice h2
  have e1 : ∀ (g : Nat), (tyl.zipIdx.map (fun q => (tc q.2, q.1)))[g]? = (tyl[g]?).map (fun ty => (tc g, ty)) := fun g => by
    rw [List.getElem?_map, List.getElem?_zipIdx]
    cases tyl[g]? with
    | none => rfl
    | some ty => simp
  refine ⟨(fun c => (fD c).1, fun c => (fD c).2), tyl.zipIdx.map (fun q => (tc q.2, q.1)), tc, ⟨fun c q hq => hD c q hq, fun k q hq => ?_⟩, fun g ty hg => ?_⟩
  · rw [e1] at hq
    obtain ⟨ty, hy, rfl⟩ := Option.map_eq_some_iff.mp hq
    exact hT k ty hy
  · rw [e1, hg]
    rfl
