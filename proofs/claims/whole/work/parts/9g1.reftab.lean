/-! load: the reference reads a table -/
/-- a table: its entries, and what its trailer says -/
def yl_tbl (T : Int → Int) (p : Int) (E : yLt) : Option (yLt × Int × Int × Option Int) := match yl_tab T p E with
  | none => none
  | some (q, E') => match yr_read T q with
    | some (.inl S') => (match S'.2.1 with
      | .inl d :: es => (match yl_trl d es with
        | none => none
        | some ro => some (E', ro))
      | _ => none)
    | _ => none
set_option maxRecDepth 100000 in
theorem yl_has_xr (T : Int → Int) (p : Int) : yp_has T yX_xr p = true ↔ yp_says T p 120 114 101 102 = true ∧ T (p + 4) = 10 := by
  unfold yp_says
  rw [yp_has_cons, yp_has_cons, yp_has_cons, yp_has_cons, yp_has_cons, decide_eq_true_eq, show p + 1 + 1 = p + 2 by omega, show p + 2 + 1 = p + 3 by omega, show p + 3 + 1 = p + 4 by omega]
  exact ⟨fun z => ⟨⟨z.1, z.2.1, z.2.2.1, z.2.2.2.1⟩, z.2.2.2.2.1⟩, fun z => ⟨z.1.1, z.1.2.1, z.1.2.2.1, z.1.2.2.2, z.2, rfl⟩⟩
set_option maxRecDepth 100000 in
theorem yl_has_tl (T : Int → Int) (p : Int) : yp_has T yX_tl p = true ↔ yp_says T p 116 114 97 105 = true ∧ yp_says T (p + 4) 108 101 114 10 = true := by
  unfold yp_says
  rw [yp_has_cons, yp_has_cons, yp_has_cons, yp_has_cons, yp_has_cons, yp_has_cons, yp_has_cons, yp_has_cons, decide_eq_true_eq, decide_eq_true_eq, show p + 1 + 1 = p + 2 by omega, show p + 2 + 1 = p + 3 by omega, show p + 3 + 1 = p + 4 by omega]
  exact ⟨fun z => ⟨⟨z.1, z.2.1, z.2.2.1, z.2.2.2.1⟩, z.2.2.2.2.1, z.2.2.2.2.2.1, (by have := z.2.2.2.2.2.2.1; rw [show p + 4 + 1 + 1 = p + 4 + 2 by omega] at this; exact this), (by have := z.2.2.2.2.2.2.2.1; rw [show p + 4 + 1 + 1 + 1 = p + 4 + 3 by omega] at this; exact this)⟩, fun z => ⟨z.1.1, z.1.2.1, z.1.2.2.1, z.1.2.2.2, z.2.1, z.2.2.1, (by rw [show p + 4 + 1 + 1 = p + 4 + 2 by omega]; exact z.2.2.2.1), (by rw [show p + 4 + 1 + 1 + 1 = p + 4 + 3 by omega]; exact z.2.2.2.2), rfl⟩⟩
set_option maxRecDepth 100000 in
theorem ymf.c1 {J : List Int} {A : List Nat} {s s' : zq_S} (h : ymf J A s s') (hJ : (3 : Int) ∉ J) (hA : 234 ∉ A) : ym_c s' 1 = ym_c s 1 := by
  funext i
  unfold ym_c
  rw [h.f hJ, h.i hA (by decide)]
  rfl
