/-! the tables' second check: calls that are no bytecode, throws, handlers, classes -/
section ZQ
variable {big : List (List Cond)} {Z : zz_Z} {Y : zz_Y} {cl : List vw_C} {XS : List (String × Nat × String)} {EX : List Nat} {M : Nat}
def zq_row (big : List (List Cond)) (Z : zz_Z) (Y : zz_Y) (cl : List vw_C) (XS : List (String × Nat × String)) (M : Nat) : zz_C → Bool
  | (pc, i, _, r, ws) => match i with
    | .invokestatic idx => match r with
      | [4] => match ws with
        | [w1, w2, w3, w4] => zz_wd big w1 (.methodLink (Y.1 M).cls idx arraycopyName) && zz_wd big w2 (.native arraycopyName) && zz_wd big w3 (.static arraycopyName) && zz_wd big w4 (.initialized "java/lang/System")
        | _ => false
      | _ => true
    | .invokevirtual idx => match r with
      | [5] => match ws with
        | [w] => zz_wd big w (.methodLink (Y.1 M).cls idx zs_yL)
        | _ => false
      | [6] => match ws with
        | [w] => zz_wd big w (.methodLink (Y.1 M).cls idx zs_yA)
        | _ => false
      | _ => true
    | .new idx => match r with
      | [3, ci, sl] => match ws, cl[ci]?, zz_cod Z M (pc + 3), zz_cod Z M (pc + 4), zz_cod Z M (pc + 7) with
        | [w1, w2, w3], some (C, _, 0), some (.dup, 1, _), some (.invokespecial ic, 3, _), some (.athrow, 1, _) => zz_wd big w1 (.classLink (Y.1 M).cls idx C) && zz_wd big w2 (.instantiable C sl) && zz_wd big w3 (.initialized C) && decide (((Y.1 M).cls, ic, C) ∈ XS)
        | _, _, _, _, _ => false
      | _ => true
    | _ => true
theorem zq_row_w {pc n : Nat} {i : Instr} {r ws : List Nat} (h : zq_row big Z Y cl XS M (pc, i, n, r, ws) = true) : zp_w (zz_Ts big) (Y.1 M).cls i r := by
  cases i with
  | invokestatic idx =>
    intro hr
    subst hr
    simp only [zq_row] at h
    split at h
    · simp only [Bool.and_eq_true] at h
      exact ⟨zz_wd_mem h.1.1.1, zz_wd_mem h.1.1.2, zz_wd_mem h.1.2, zz_wd_mem h.2⟩
    · cases h
  | invokevirtual idx =>
    refine ⟨fun hr => ?_, fun hr => ?_⟩
    · subst hr
      simp only [zq_row] at h
      split at h
      · exact zz_wd_mem h
      · cases h
    · subst hr
      simp only [zq_row] at h
      split at h
      · exact zz_wd_mem h
      · cases h
  | _ => exact trivial
theorem zq_row_x (hXS : ∀ q ∈ XS, Jvm.Bundle.fit q.2.2 = true ∧ ∀ a ∈ zx_at q.1 q.2.1 q.2.2, a ∈ zz_Ts big ∨ zx_st a = true) {pc n idx ci sl : Nat} {ws : List Nat} (h : zq_row big Z Y cl XS M (pc, .new idx, n, [3, ci, sl], ws) = true) : zx_site Z Y (zz_Ts big) cl M pc idx ci sl := by
  simp only [zq_row] at h
  split at h
  · next w1 w2 w3 C T r1 ic r2 r3 g1 g2 g3 g4 =>
    simp only [Bool.and_eq_true] at h
    obtain ⟨⟨⟨h1, h2⟩, h3⟩, h4⟩ := h
    obtain ⟨q1, q2⟩ := hXS _ (of_decide_eq_true h4)
    exact ⟨C, T, ic, r1, r2, r3, g1, g2, g3, g4, zz_wd_mem h1, zz_wd_mem h2, zz_wd_mem h3, q1, q2⟩
  · cases h
/-- rows of all methods -/
def zq_all (f : Nat → zz_C → Bool) : Nat → List (List zz_C) → Bool
  | _, [] => true
  | k, c :: cs => c.all (f k) && zq_all f (k + 1) cs
theorem zq_all_at {f : Nat → zz_C → Bool} : ∀ {k : Nat} {cs : List (List zz_C)}, zq_all f k cs = true → ∀ j, (cs.getD j []).all (f (k + j)) = true
  | _, [], _, _ => rfl
  | k, c :: cs, h, 0 => by
    simp only [zq_all, Bool.and_eq_true] at h
    exact h.1
  | k, c :: cs, h, j + 1 => by
    simp only [zq_all, Bool.and_eq_true] at h
    have := zq_all_at h.2 j
    rw [show k + (j + 1) = k + 1 + j by omega]
    exact this
theorem zq_all_nil {f : Nat → zz_C → Bool} {k : Nat} : zq_all f k [] = true := rfl
theorem zq_all_cons {f : Nat → zz_C → Bool} {k k' : Nat} {c : List zz_C} {cs : List (List zz_C)} (hc : c.all (f k) = true) (hk : k' = k + 1) (hcs : zq_all f k' cs = true) : zq_all f k (c :: cs) = true := by
  subst hk
  simp only [zq_all, Bool.and_eq_true]
  exact ⟨hc, hcs⟩
/-- handlers -/
def zq_hok (big : List (List Cond)) (cl : List vw_C) (EX : List Nat) (own : String) : List (Nat × Nat × Nat × Nat) → List (Nat × Nat × Nat × Nat) → List Nat → Bool
  | [], [], _ => true
  | (a, b, q, x) :: xs, (a', b', q', ci) :: ys, w :: ws => decide (a = a' ∧ b = b' ∧ q = q' ∧ x ≠ 0 ∧ ci ∈ EX) && (match cl[ci]? with
      | some r => zz_wd big w (.classLink own x r.1)
      | none => false) && zq_hok big cl EX own xs ys ws
  | _, _, _ => false
theorem zq_hok_ok {own : String} : ∀ {xs ys : List (Nat × Nat × Nat × Nat)} {ws : List Nat}, zq_hok big cl EX own xs ys ws = true → zz_hok (zz_Ts big) cl EX own xs ys
  | [], [], _, _ => trivial
  | [], _ :: _, [], h => by cases h
  | [], _ :: _, _ :: _, h => by cases h
  | _ :: _, [], [], h => by cases h
  | _ :: _, [], _ :: _, h => by cases h
  | (a, b, q, x) :: xs, (a', b', q', ci) :: ys, [], h => by cases h
  | (a, b, q, x) :: xs, (a', b', q', ci) :: ys, w :: ws, h => by
    simp only [zq_hok, Bool.and_eq_true] at h
    obtain ⟨⟨h1, h2⟩, h3⟩ := h
    obtain ⟨e1, e2, e3, e4, e5⟩ := of_decide_eq_true h1
    split at h2
    · next r hr => exact ⟨e1, e2, e3, e4, e5, ⟨r, hr, zz_wd_mem h2⟩, zq_hok_ok h3⟩
    · cases h2
/-- a class's fields -/
def zq_cls (big : List (List Cond)) (ft : Nat → FieldType) (q : vw_C) (ws : List Nat) : Bool := (List.range q.2.2).all (fun k => zz_wd big (ws.getD k 0) (u_lay q.1 q.2.1 k) && decide (parseFieldDescriptor (q.2.1 k).2.2.1 = some (ft k)) && (List.range q.2.2).all (fun j => decide (k = j ∨ (q.2.1 k).2.1 ≠ (q.2.1 j).2.1)))
theorem zq_cls_ok {ft : Nat → FieldType} {ws : List Nat} {ci N : Nat} {C : String} {T : u_T} (hc : cl[ci]? = some (C, T, N)) (h : zq_cls big ft (C, T, N) ws = true) : zz_cls cl (zz_Ts big) ft ci C T N := by
  have h1 : ∀ k, k < N → _ := fun k hk => List.all_eq_true.mp h k (List.mem_range.mpr hk)
  refine ⟨hc, fun w hw => ?_, fun k hk => ?_, fun x hx y hy hne => ?_⟩
  · obtain ⟨k, hk, rfl⟩ := List.mem_map.mp hw
    have := h1 k (List.mem_range.mp hk)
    simp only [Bool.and_eq_true] at this
    exact zz_wd_mem this.1.1
  · have := h1 k hk
    simp only [Bool.and_eq_true] at this
    exact of_decide_eq_true this.1.2
  · have := h1 x hx
    simp only [Bool.and_eq_true] at this
    exact (of_decide_eq_true (List.all_eq_true.mp this.2 y (List.mem_range.mpr hy))).resolve_left hne
/-- words, by their places -/
def zq_in (big : List (List Cond)) : List Cond → List Nat → Bool
  | [], _ => true
  | w :: ws, q :: qs => zz_wd big q w && zq_in big ws qs
  | _ :: _, [] => false
theorem zq_in_ok : ∀ {ws : List Cond} {qs : List Nat}, zq_in big ws qs = true → ∀ w ∈ ws, w ∈ zz_Ts big
  | [], _, _, _, hw => by cases hw
  | _ :: _, [], h, _, _ => by cases h
  | w0 :: ws, q :: qs, h, w, hw => by
    simp only [zq_in, Bool.and_eq_true] at h
    rcases List.mem_cons.mp hw with rfl | hw
    · exact zz_wd_mem h.1
    · exact zq_in_ok h.2 w hw
/-- an exception's atoms, by search -/
def zq_at (big bs : List (List Cond)) (q : String × Nat × String) : Bool := Jvm.Bundle.fit q.2.2 && (zx_at q.1 q.2.1 q.2.2).all (fun a => zx_st a || (zz_gw a && bs.any (fun ws => ws.any (fun w => decide (w = a)))))
theorem zq_at_ok {bs : List (List Cond)} (hbs : ∀ ws ∈ bs, ws ∈ big) {q : String × Nat × String} (h : zq_at big bs q = true) : Jvm.Bundle.fit q.2.2 = true ∧ ∀ a ∈ zx_at q.1 q.2.1 q.2.2, a ∈ zz_Ts big ∨ zx_st a = true := by
  unfold zq_at at h
  rw [Bool.and_eq_true] at h
  refine ⟨h.1, fun a ha => ?_⟩
  have h2 := List.all_eq_true.mp h.2 a ha
  rw [Bool.or_eq_true, Bool.and_eq_true] at h2
  rcases h2 with h2 | ⟨h2, h3⟩
  · exact Or.inr h2
  · obtain ⟨ws, hws, h4⟩ := List.any_eq_true.mp h3
    obtain ⟨w, hw, h5⟩ := List.any_eq_true.mp h4
    have := of_decide_eq_true h5
    subst this
    exact Or.inl (List.mem_filter.mpr ⟨List.mem_flatten.mpr ⟨ws, hbs ws hws, hw⟩, h2⟩)
end ZQ
