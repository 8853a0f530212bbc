/-! load: readTable -/
section YLG4
variable {X : Nat × (Nat → Int32)}
set_option maxRecDepth 100000 in
theorem ys_207 {S : zq_S} {T : Int → Int} {E : yLt} (hb : yTb T) (hC : yp_C T) (hmI : ym_I S) (hT : ym_c S 1 = T) (n7 : ym_nm S 257 yNR) (n8 : ym_nm S 258 yNP) (hL : yLr S E) {p x2 : Int} (p0 : 0 ≤ p ∧ p < 999) (b2 : zq_bo x2) {K : Int → zq_S → Prop}
    (k0 : yl_tbl T p E = none → ∀ S', ymf yJt yAt S S' → ym_I S' → K (-2000000) S')
    (k1 : ∀ E' ro S', yl_tbl T p E = some (E', ro) → ybo ro → ymf yJt yAt S S' → ym_I S' → yLr S' E' → (x2 = 0 → zq_i S' 232 41 = zq_i S 232 41 ∧ zq_i S' 232 42 = zq_i S 232 42) → (x2 ≠ 0 → zq_i S' 232 41 = ro.1 ∧ zq_i S' 232 42 = ro.2.1) → K (yl_pv ro.2.2) S') : zq_Ex X 207 0 [.ref 232, zq_vi p, zq_vi x2, zz_no, zz_no, zz_no, zz_no] [] S (zq_rp zq_iv K) := by
  have hq1 : ym_q 1 := ⟨by decide, by decide, Or.inl (by decide)⟩
  have i1 : zq_iv p := ⟨by omega, by omega⟩
  have f0 : ymf [25] [250, 251, 252] S (zq_si S 232 25 (p + 5)) := ymf.sf (by simp)
  have hm0 : ym_I (zq_si S 232 25 (p + 5)) := hmI.cong (fun j hj => f0.f (by simp at hj ⊢; omega)) (f0.i (by simp) (by decide))
  have hT0 : ym_c (zq_si S 232 25 (p + 5)) 1 = T := by rw [f0.c1 (by simp) (by simp)]; exact hT
  have f0' : ymf yJt yAt S (zq_si S 232 25 (p + 5)) := ymf.sf (by simp)
  have tn : yl_tab T p E = none → yl_tbl T p E = none := fun h => by unfold yl_tbl; rw [h]
  refine zw_207 i1 b2 ⟨⟨by omega, by omega⟩, ys_164 hm0 hq1 (by omega) (by omega) (by decide) (by decide) (by decide) (by decide) ?_⟩
  rw [hT0]
  have nox : yp_has T yX_xr p ≠ true → K (-2000000) (zq_si S 232 25 (p + 5)) := fun h => k0 (tn (by unfold yl_tab; rw [if_neg h])) _ f0' hm0
  cases hs : yp_says T p 120 114 101 102 with
  | false =>
    rw [if_pos (show yb false = 0 from rfl)]
    exact nox (fun z => by have := ((yl_has_xr T p).mp z).1; rw [hs] at this; cases this)
  | true =>
  rw [if_neg (show ¬ yb true = 0 by decide)]
  refine ys_147 hm0 hq1 ⟨by omega, by omega⟩ ?_
  rw [hT0]
  refine yl_if (fun h4 => ?_) (fun h4 => nox (fun z => h4 ((yl_has_xr T p).mp z).2))
  have hx : yp_has T yX_xr p = true := (yl_has_xr T p).mpr ⟨hs, h4⟩
  have et : yl_tab T p E = (match yl_sec T 1000 (p + 5) E with
    | none => none
    | some (p', E') => if yp_has T yX_tl p' = true then some (p' + 8, E') else none) := by
    unfold yl_tab
    rw [if_pos hx]
    rfl
  refine ys_208 hb hm0 hT0 1000 (p + 5) (zq_si S 232 25 (p + 5)) E zz_no zz_no zz_no (by omega) (by omega) (by omega) (ymf.refl _ _ _) (by rw [zq_i_si, if_pos ⟨rfl, rfl⟩]) (hL.cong (by funext j; rw [zq_i_si, if_neg (by simp)]) (by funext j; rw [zq_i_si, if_neg (by simp)]) (by funext j; rw [zq_i_si, if_neg (by simp)])) (fun hse S2 g2 => ?_) (fun p' E' S2 hse q0 q1 g2 hpos hL2 => ?_)
  · rw [if_pos rfl]
    have hm2 : ym_I S2 := hm0.cong (fun j hj => g2.f (by simp at hj ⊢; omega)) (g2.i (by simp) (by decide))
    refine k0 (tn ?_) S2 (f0'.trans (g2.mono (by simp) (by simp))) hm2
    rw [et, hse]
  · rw [if_neg (by decide)]
    have hm2 : ym_I S2 := hm0.cong (fun j hj => g2.f (by simp at hj ⊢; omega)) (g2.i (by simp) (by decide))
    have hT2 : ym_c S2 1 = T := by rw [g2.c1 (by simp) (by simp)]; exact hT0
    have fF : ymf yJt yAt S S2 := f0'.trans (g2.mono (by simp) (by simp))
    rw [hse] at et
    have et : yl_tab T p E = if yp_has T yX_tl p' = true then some (p' + 8, E') else none := et
    have notl : yp_has T yX_tl p' ≠ true → K (-2000000) S2 := fun h => k0 (tn (by rw [et, if_neg h])) S2 fF hm2
    rw [hpos]
    refine ys_164 hm2 hq1 (by omega) (by omega) (by decide) (by decide) (by decide) (by decide) ?_
    rw [hT2]
    cases h5 : yp_says T p' 116 114 97 105 with
    | false =>
      rw [if_pos (show yb false = 0 from rfl)]
      exact notl (fun z => by have := ((yl_has_tl T p').mp z).1; rw [h5] at this; cases this)
    | true =>
    rw [if_neg (show ¬ yb true = 0 by decide), hpos]
    refine ys_164 hm2 hq1 (by omega) (by omega) (by decide) (by decide) (by decide) (by decide) ?_
    rw [hT2]
    cases h6 : yp_says T (p' + 4) 108 101 114 10 with
    | false =>
      rw [if_pos (show yb false = 0 from rfl)]
      exact notl (fun z => by have := ((yl_has_tl T p').mp z).2; rw [h6] at this; cases this)
    | true =>
    rw [if_neg (show ¬ yb true = 0 by decide), hpos]
    have htl : yp_has T yX_tl p' = true := (yl_has_tl T p').mpr ⟨h5, h6⟩
    rw [if_pos htl] at et
    have hlt : p' + 7 < 999 := by
      unfold yp_says at h6
      have := of_decide_eq_true h6
      have h10 := this.2.2.2
      rw [show p' + 4 + 3 = p' + 7 by omega] at h10
      exact (hb.2 (p' + 7) (by omega)).2
    have c7 : zq_i S2 257 = zq_i S 257 := by rw [fF.i (by simp) (by decide)]
    have c8 : zq_i S2 258 = zq_i S 258 := by rw [fF.i (by simp) (by decide)]
    refine ys_207_r hb hC hm2 hT2 ⟨n7.1, fun i hi => by rw [c7]; exact n7.2 i hi⟩ ⟨n8.1, fun i hi => by rw [c8]; exact n8.2 i hi⟩ i1 b2 ⟨by omega, by omega⟩ (fun h S3 f3 c0 c1 c2 hm3 => ?_) (fun S1 d es ro S3 hr ed htr hbo f3 c0 c1 c2 hm3 h0 h1 => ?_)
    · refine k0 ?_ S3 (fF.trans f3) hm3
      unfold yl_tbl
      rw [et]
      show (match yr_read T (p' + 8) with
        | some (.inl S') => (match S'.2.1 with
          | .inl d :: es => (match yl_trl d es with
            | none => none
            | some ro => some (E', ro))
          | _ => none)
        | _ => none) = none
      cases hrd : yr_read T (p' + 8) with
      | none => rfl
      | some r =>
        cases r with
        | inr w => rfl
        | inl S' =>
          show (match S'.2.1 with
            | .inl d :: es => (match yl_trl d es with
              | none => none
              | some ro => some (E', ro))
            | _ => none) = none
          cases he : S'.2.1 with
          | nil => rfl
          | cons a es =>
            cases a with
            | inr _ => rfl
            | inl d =>
              show (match yl_trl d es with
                | none => none
                | some ro => some (E', ro)) = none
              cases htr : yl_trl d es with
              | none => rfl
              | some ro => exact absurd htr (fun _ => h S' d es ro hrd he htr)
    · refine k1 E' ro S3 ?_ hbo (fF.trans f3) hm3 (hL2.cong c0 c1 c2) (fun z => ?_) h1
      · unfold yl_tbl
        rw [et]
        show (match yr_read T (p' + 8) with
          | some (.inl S') => (match S'.2.1 with
            | .inl d :: es => (match yl_trl d es with
              | none => none
              | some ro => some (E', ro))
            | _ => none)
          | _ => none) = some (E', ro)
        rw [hr]
        show (match S1.2.1 with
          | .inl d :: es => (match yl_trl d es with
            | none => none
            | some ro => some (E', ro))
          | _ => none) = some (E', ro)
        rw [ed]
        show (match yl_trl d es with
          | none => none
          | some ro => some (E', ro)) = some (E', ro)
        rw [htr]
      · obtain ⟨z1, z2⟩ := h0 z
        rw [z1, z2, g2.f (by simp), g2.f (by simp), zq_i_si, if_neg (by simp), zq_i_si, if_neg (by simp)]
        exact ⟨rfl, rfl⟩
end YLG4
