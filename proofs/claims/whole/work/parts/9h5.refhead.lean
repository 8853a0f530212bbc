/-! load: the reference reads an object's head and value -/
abbrev yJo : List Int := [5, 23, 25, 26, 27, 28, 29, 32, 33, 43, 44]
abbrev yAo : List Nat := [235, 245, 246, 247, 248, 249, 254]
abbrev yX_e7 : List Int := [101, 110, 100, 111, 98, 106, 10]
/-- the reference's view of the entries -/
def yRv (S : zq_S) (E : yLt) : Prop := ∀ o : Nat, 1 ≤ o → o ≤ 9 → (yh_u E o = none → zq_i S 250 o ≠ 2) ∧ (∀ p g, yh_u E o = some (p, g) → zq_i S 250 o = 2 ∧ zq_i S 251 o = p ∧ zq_i S 252 o = g) ∧ zq_i S 252 o = yh_g E o
set_option maxRecDepth 100000 in
theorem yLr.rv {S : zq_S} {E : yLt} (h : yLr S E) : yRv S E := fun o o1 o9 => by
  have := h o o1 o9
  unfold yh_u yh_g
  cases he : E o with
  | none =>
    rw [he] at this
    exact ⟨fun _ => by rw [this.1]; decide, fun p g z => (by cases z), this.2⟩
  | some e =>
    obtain ⟨b, p2, g2⟩ := e
    rw [he] at this
    obtain ⟨a1, a2, a3⟩ := this
    cases b with
    | false =>
      have a1 : zq_i S 250 o = 1 := a1
      exact ⟨fun _ => by rw [a1]; decide, fun p g z => (by cases z), a3⟩
    | true =>
      have a1 : zq_i S 250 o = 2 := a1
      refine ⟨fun z => (by cases z), fun p g z => ?_, a3⟩
      have z : (p2, g2) = (p, g) := Option.some.inj z
      have e1 : p2 = p := congrArg Prod.fst z
      have e2 : g2 = g := congrArg Prod.snd z
      rw [← e1, ← e2]
      exact ⟨a1, a2, a3⟩
set_option maxRecDepth 100000 in
theorem yRv.cong {S S' : zq_S} {E : yLt} (h : yRv S E) (h0 : zq_i S' 250 = zq_i S 250) (h1 : zq_i S' 251 = zq_i S 251) (h2 : zq_i S' 252 = zq_i S 252) : yRv S' E := fun o o1 o9 => by
  rw [h0, h1, h2]
  exact h o o1 o9
set_option maxRecDepth 100000 in
theorem yp_has_app (T : Int → Int) : ∀ (a b : List Int) (p : Int), yp_has T (a ++ b) p = (yp_has T a p && yp_has T b (p + a.length))
  | [], b, p => by
    show yp_has T b p = (true && yp_has T b (p + ((0 : Nat) : Int)))
    rw [Bool.true_and, show p + ((0 : Nat) : Int) = p by omega]
  | c :: a, b, p => by
    show (decide (T p = c) && yp_has T (a ++ b) (p + 1)) = ((decide (T p = c) && yp_has T a (p + 1)) && yp_has T b (p + ((c :: a).length : Nat)))
    rw [yp_has_app T a b (p + 1), Bool.and_assoc, show p + 1 + (a.length : Int) = p + (((c :: a).length : Nat) : Int) by simp only [List.length_cons]; omega]
set_option maxRecDepth 100000 in
theorem yp_has1 (T : Int → Int) (a p : Int) : yp_has T [a] p = decide (T p = a) := by
  show (decide (T p = a) && true) = _
  rw [Bool.and_true]
set_option maxRecDepth 100000 in
theorem yp_has4 (T : Int → Int) (a b c d p : Int) : yp_has T [a, b, c, d] p = yp_says T p a b c d := by
  rw [Bool.eq_iff_iff, yp_has_cons, yp_has_cons, yp_has_cons, yp_has_cons]
  unfold yp_says
  rw [decide_eq_true_iff, show p + 1 + 1 = p + 2 by omega, show p + 2 + 1 = p + 3 by omega]
  exact ⟨fun z => ⟨z.1, z.2.1, z.2.2.1, z.2.2.2.1⟩, fun z => ⟨z.1, z.2.1, z.2.2.1, z.2.2.2, rfl⟩⟩
set_option maxRecDepth 100000 in
theorem yh_hd_iff {T : Int → Int} {o : Nat} {p g : Int} : yh_hd T o p g = true ↔ T p = 48 + o ∧ T (p + 1) = 32 ∧ T (p + 2) = 48 + g ∧ yp_says T (p + 3) 32 111 98 106 = true ∧ T (p + 7) = 10 := by
  unfold yh_hd
  rw [decide_eq_true_iff, show yX_ob = [32, 111, 98, 106] ++ [10] from rfl, yp_has_app, yp_has4, yp_has1, Bool.and_eq_true, decide_eq_true_iff, show p + 3 + (([32, 111, 98, 106] : List Int).length : Int) = p + 7 by simp; omega]
set_option maxRecDepth 100000 in
theorem yh_e7 (T : Int → Int) (p : Int) : yp_has T yX_e7 p = true ↔ yp_says T p 101 110 100 111 = true ∧ T (p + 4) = 98 ∧ T (p + 5) = 106 ∧ T (p + 6) = 10 := by
  rw [show yX_e7 = [101, 110, 100, 111] ++ ([98] ++ ([106] ++ [10])) from rfl, yp_has_app, yp_has_app, yp_has_app, yp_has4, yp_has1, yp_has1, yp_has1, Bool.and_eq_true, Bool.and_eq_true, Bool.and_eq_true, decide_eq_true_iff, decide_eq_true_iff, decide_eq_true_iff]
  simp only [List.length_cons, List.length_nil]
  rw [show p + ((0 + 1 + 1 + 1 + 1 : Nat) : Int) = p + 4 by omega, show p + 4 + ((0 + 1 : Nat) : Int) = p + 5 by omega, show p + 5 + ((0 + 1 : Nat) : Int) = p + 6 by omega]
set_option maxRecDepth 100000 in
theorem yh_neo (T : Int → Int) (p : Int) : yp_has T yX_neo p = true ↔ T p = 10 ∧ yp_has T yX_e7 (p + 1) = true := yp_has_cons T 10 yX_e7 p
set_option maxRecDepth 100000 in
theorem yh_nst (T : Int → Int) (p : Int) : yp_has T yX_nst p = true ↔ T p = 10 ∧ yp_says T (p + 1) 115 116 114 101 = true ∧ T (p + 5) = 97 ∧ T (p + 6) = 109 ∧ T (p + 7) = 10 := by
  rw [show yX_nst = 10 :: ([115, 116, 114, 101] ++ ([97] ++ ([109] ++ [10]))) from rfl, yp_has_cons, yp_has_app, yp_has_app, yp_has_app, yp_has4, yp_has1, yp_has1, yp_has1, Bool.and_eq_true, Bool.and_eq_true, Bool.and_eq_true, decide_eq_true_iff, decide_eq_true_iff, decide_eq_true_iff]
  simp only [List.length_cons, List.length_nil]
  rw [show p + 1 + ((0 + 1 + 1 + 1 + 1 : Nat) : Int) = p + 5 by omega, show p + 5 + ((0 + 1 : Nat) : Int) = p + 6 by omega, show p + 6 + ((0 + 1 : Nat) : Int) = p + 7 by omega]
set_option maxRecDepth 100000 in
theorem yh_nes (T : Int → Int) (p : Int) : yp_has T yX_nes p = true ↔ T p = 10 ∧ yp_says T (p + 1) 101 110 100 115 = true ∧ yp_says T (p + 5) 116 114 101 97 = true ∧ T (p + 9) = 109 ∧ T (p + 10) = 10 ∧ yp_has T yX_e7 (p + 11) = true := by
  rw [show yX_nes = 10 :: ([101, 110, 100, 115] ++ ([116, 114, 101, 97] ++ ([109] ++ ([10] ++ yX_e7)))) from rfl, yp_has_cons, yp_has_app, yp_has_app, yp_has_app, yp_has_app, yp_has4, yp_has4, yp_has1, yp_has1, Bool.and_eq_true, Bool.and_eq_true, Bool.and_eq_true, Bool.and_eq_true, decide_eq_true_iff, decide_eq_true_iff]
  simp only [List.length_cons, List.length_nil]
  rw [show p + 1 + ((0 + 1 + 1 + 1 + 1 : Nat) : Int) = p + 5 by omega, show p + 5 + ((0 + 1 + 1 + 1 + 1 : Nat) : Int) = p + 9 by omega, show p + 9 + ((0 + 1 : Nat) : Int) = p + 10 by omega, show p + 10 + ((0 + 1 : Nat) : Int) = p + 11 by omega]
section YLH5
variable {X : Nat × (Nat → Int32)}
set_option maxRecDepth 100000 in
theorem ys_213 {S : zq_S} {T : Int → Int} (hm : ym_I S) (hT : ym_c S 1 = T) {x : Int} (x0 : -100 ≤ x ∧ x ≤ 3000) {K : Int → zq_S → Prop} (k : K (yb (yp_has T yX_e7 x)) S) : zq_Ex X 213 0 [.ref 232, zq_vi x] [] S (zq_rp zq_bo K) := by
  have hq : ym_q 1 := ⟨by decide, by decide, Or.inl (by decide)⟩
  have he := yh_e7 T x
  have no : ¬ (yp_has T yX_e7 x = true) → K 0 S := fun h => by
    cases e : yp_has T yX_e7 x with
    | true => exact absurd e h
    | false => rw [e] at k; exact k
  refine zw_213 ⟨by omega, by omega⟩ (ys_164 hm hq (by omega) (by omega) (by decide) (by decide) (by decide) (by decide) ?_)
  rw [hT]
  cases h1 : yp_says T x 101 110 100 111 with
  | false =>
    rw [if_pos (show yb false = 0 from rfl)]
    exact no (fun z => by have := (he.mp z).1; rw [h1] at this; cases this)
  | true =>
    rw [if_neg (show ¬ yb true = 0 by decide)]
    refine ys_147 hm hq ⟨by omega, by omega⟩ ?_
    rw [hT]
    refine yl_if (fun h2 => ?_) (fun h2 => no (fun z => h2 (he.mp z).2.1))
    refine ys_147 hm hq ⟨by omega, by omega⟩ ?_
    rw [hT]
    refine yl_if (fun h3 => ?_) (fun h3 => no (fun z => h3 (he.mp z).2.2.1))
    refine ys_147 hm hq ⟨by omega, by omega⟩ ?_
    rw [hT]
    refine yl_if (fun h4 => ?_) (fun h4 => no (fun z => h4 (he.mp z).2.2.2))
    rw [he.mpr ⟨h1, h2, h3, h4⟩] at k
    exact k
set_option maxRecDepth 100000 in
theorem ys_215 {S : zq_S} {T : Int → Int} (hm : ym_I S) (hT : ym_c S 1 = T) {x : Int} (x0 : -100 ≤ x ∧ x ≤ 2900) {K : Int → zq_S → Prop} (k : K (yb (yp_has T yX_nes x)) S) : zq_Ex X 215 0 [.ref 232, zq_vi x] [] S (zq_rp zq_bo K) := by
  have hq : ym_q 1 := ⟨by decide, by decide, Or.inl (by decide)⟩
  have he := yh_nes T x
  have no : ¬ (yp_has T yX_nes x = true) → K 0 S := fun h => by
    cases e : yp_has T yX_nes x with
    | true => exact absurd e h
    | false => rw [e] at k; exact k
  refine zw_215 ⟨by omega, by omega⟩ (ys_147 hm hq ⟨by omega, by omega⟩ ?_)
  rw [hT]
  refine yl_if (fun h0 => ?_) (fun h0 => no (fun z => h0 (he.mp z).1))
  refine ys_164 hm hq (by omega) (by omega) (by decide) (by decide) (by decide) (by decide) ?_
  rw [hT]
  cases h1 : yp_says T (x + 1) 101 110 100 115 with
  | false =>
    rw [if_pos (show yb false = 0 from rfl)]
    exact no (fun z => by have := (he.mp z).2.1; rw [h1] at this; cases this)
  | true =>
    rw [if_neg (show ¬ yb true = 0 by decide)]
    refine ys_164 hm hq (by omega) (by omega) (by decide) (by decide) (by decide) (by decide) ?_
    rw [hT]
    cases h2 : yp_says T (x + 5) 116 114 101 97 with
    | false =>
      rw [if_pos (show yb false = 0 from rfl)]
      exact no (fun z => by have := (he.mp z).2.2.1; rw [h2] at this; cases this)
    | true =>
      rw [if_neg (show ¬ yb true = 0 by decide)]
      refine ys_147 hm hq ⟨by omega, by omega⟩ ?_
      rw [hT]
      refine yl_if (fun h3 => ?_) (fun h3 => no (fun z => h3 (he.mp z).2.2.2.1))
      refine ys_147 hm hq ⟨by omega, by omega⟩ ?_
      rw [hT]
      refine yl_if (fun h4 => ?_) (fun h4 => no (fun z => h4 (he.mp z).2.2.2.2.1))
      refine ys_213 hm hT ⟨by omega, by omega⟩ ?_
      cases h5 : yp_has T yX_e7 (x + 11) with
      | false =>
        rw [if_pos (show yb false = 0 from rfl)]
        exact no (fun z => by have := (he.mp z).2.2.2.2.2; rw [h5] at this; cases this)
      | true =>
        rw [if_neg (show ¬ yb true = 0 by decide)]
        rw [he.mpr ⟨h0, h1, h2, h3, h4, h5⟩] at k
        exact k
set_option maxRecDepth 100000 in
theorem ys_212 {S : zq_S} {T : Int → Int} {E : yLt} {o : Nat} {p g : Int} (hb : yTb T) (hC : yp_C T) (hm : ym_I S) (hT : ym_c S 1 = T) (hL : yRv S E) (hE : yLb E) (o1 : 1 ≤ o) (o9 : o ≤ 9) (hu : yh_u E o = some (p, g)) {K : Int → zq_S → Prop}
    (k0 : yh_V T E o = none → ∀ S', ymf ymr_J ymr_A S S' → ym_I S' → K 0 S')
    (k1 : ∀ q es S', yh_V T E o = some (q, es) → yv es → ymf ymr_J ymr_A S S' → ym_I S' → zq_i S' 232 25 = q → (0 ≤ q ∧ q ≤ 1000) → ymd S' (ye_pr true es) → (ye_pr true es).length ≤ 453 → K 1 S') : zq_Ex X 212 0 [.ref 232, zq_vi (o : Int), zz_no, zz_no] [] S (zq_rp zq_bo K) := by
  have hq : ym_q 1 := ⟨by decide, by decide, Or.inl (by decide)⟩
  have hTT : yp_T T := fun j hj => Classical.byContradiction fun z => by
    have := hb.2 j z
    omega
  obtain ⟨b1, b2, b3, b4⟩ := yh_u_b hE hu
  obtain ⟨h250, h251, h252⟩ := (hL o o1 o9).2.1 p g hu
  have hhd := yh_hd_iff (T := T) (o := o) (p := p) (g := g)
  have hVV : yh_V T E o = yh_v T o p g := by unfold yh_V; rw [hu]
  have no : ¬ (yh_hd T o p g = true) → K 0 S := fun h => k0 (by rw [hVV]; unfold yh_v; rw [if_neg h]) S (ymf.refl _ _ _) hm
  refine zw_212 ⟨by omega, by omega⟩ ⟨⟨by omega, by omega⟩, ?_⟩
  rw [h251]
  refine ys_147 hm hq ⟨by omega, by omega⟩ ⟨⟨by omega, by omega⟩, ?_⟩
  rw [hT]
  refine yl_if (fun h0 => ?_) (fun h0 => no (fun z => h0 (hhd.mp z).1))
  refine ys_147 hm hq ⟨by omega, by omega⟩ ?_
  rw [hT]
  refine yl_if (fun h1 => ?_) (fun h1 => no (fun z => h1 (hhd.mp z).2.1))
  refine ys_147 hm hq ⟨by omega, by omega⟩ ?_
  rw [hT, h252]
  refine ⟨⟨by omega, by omega⟩, ⟨by omega, by omega⟩, yl_if (fun h2 => ?_) (fun h2 => no (fun z => h2 (hhd.mp z).2.2.1))⟩
  refine ys_164 hm hq (by omega) (by omega) (by decide) (by decide) (by decide) (by decide) ?_
  rw [hT]
  cases h3 : yp_says T (p + 3) 32 111 98 106 with
  | false =>
    rw [if_pos (show yb false = 0 from rfl)]
    exact no (fun z => by have := (hhd.mp z).2.2.2.1; rw [h3] at this; cases this)
  | true =>
    rw [if_neg (show ¬ yb true = 0 by decide)]
    refine ys_147 hm hq ⟨by omega, by omega⟩ ?_
    rw [hT]
    refine yl_if (fun h4 => ?_) (fun h4 => no (fun z => h4 (hhd.mp z).2.2.2.2))
    have hh : yh_hd T o p g = true := hhd.mpr ⟨h0, h1, h2, h3, h4⟩
    have hlt := yh_hd_lt hb hh
    obtain ⟨r, hr⟩ := yr_read_some hTT hC (p := p + 8) (by omega) (by omega)
    have hv0 : yh_V T E o = (match yr_read T (p + 8) with
      | some (.inl S') => some (S'.1, S'.2.1)
      | _ => none) := by
      rw [hVV]
      unfold yh_v
      rw [if_pos hh]
      rfl
    refine ys_145 hm hq (by decide) (by rw [hT]; exact hC) (by omega) (by omega) (r := r) (by rw [hT]; exact hr) (fun S1 w e1 e2 e3 e4 e5 e6 f => ?_) (fun S1 R1 e1 hmr hok hst f => ?_)
    · rw [e2, if_neg (by omega)]
      refine k0 ?_ S1 f (f.I hm (by decide) (by decide) (by omega))
      rw [hv0, hr, e1]
    · have e26 : zq_i S1 232 26 = -1 := hmr.2.1
      rw [e26, if_pos (by decide)]
      rw [hr, e1] at hv0
      have hv0 : yh_V T E o = some (R1.1, R1.2.1) := hv0
      rw [e1] at hr
      have hyv := yv_read hTT hC (p := p + 8) (by omega) (by omega) hr hok
      have hml := yr_made_len hok
      have hmd := hmr.2.2.2.2.2.2.2.2.2
      rw [yr_made_ok hok hst] at hml hmd
      exact k1 R1.1 R1.2.1 S1 hv0 hyv f (f.I hm (by decide) (by decide) (by have := hmd.1; omega)) hmr.1 hok.1 hmd hml
end YLH5
