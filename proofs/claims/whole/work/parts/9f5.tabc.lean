/-! load: the class takes a table's entries -/
abbrev yX_tl : List Int := [116, 114, 97, 105, 108, 101, 114, 10]
/-- a table's entries: where its dictionary begins -/
def yl_tab (T : Int → Int) (p : Int) (E : yLt) : Option (Int × yLt) := if yp_has T yX_xr p = true then (match yl_sec T 1000 (p + 5) E with
  | none => none
  | some (p', E') => if yp_has T yX_tl p' = true then some (p' + 8, E') else none) else none
set_option maxRecDepth 100000 in
theorem yl_rn_p {T : Int → Int} : ∀ (m o : Nat) (p : Int) (E : yLt) (p' : Int) (E' : yLt), yl_rn T m o p E = some (p', E') → p' = p + 8 * m
  | 0, o, p, E, p', E', h => by
    have h : some (p, E) = some (p', E') := h
    cases h
    omega
  | m + 1, o, p, E, p', E', h => by
    have h : (if yl_en T p = true then yl_rn T m (o + 1) (p + 8) (yl_put T o p E) else none) = some (p', E') := h
    by_cases he : yl_en T p = true
    · rw [if_pos he] at h
      have := yl_rn_p m (o + 1) (p + 8) _ p' E' h
      omega
    · rw [if_neg he] at h
      cases h
set_option maxRecDepth 100000 in
theorem yl_run_p {T : Int → Int} {p : Int} {E : yLt} {p' : Int} {E' : yLt} (h : yl_run T p E = some (p', E')) : p + 12 ≤ p' ∧ p' ≤ p + 76 := by
  unfold yl_run at h
  by_cases hh : yl_hd T p = true
  · rw [if_pos hh] at h
    have := yl_rn_p _ _ _ _ _ _ h
    unfold yl_hd at hh
    have := of_decide_eq_true hh
    omega
  · rw [if_neg hh] at h
    cases h
set_option maxRecDepth 100000 in
theorem ylk.lt {S : zq_S} {F u : Nat} {T : Int → Int} (hk : ylk S F u T) {j : Int} (h : T j ≠ 0) : 0 ≤ j ∧ j < 999 := by
  obtain ⟨f1, f2, hok, hT, r6, r7⟩ := hk
  have oF : zq_o 1 F := by rcases f1 with z | z <;> (subst z; decide +kernel)
  rw [← hT] at h
  have := yc_lt hok oF h
  omega
set_option maxRecDepth 100000 in
theorem yp_has_hd {T : Int → Int} {c : Int} {l : List Int} {p : Int} (h : yp_has T (c :: l) p = true) : T p = c := ((yp_has_cons T c l p).mp h).1
section YLF5
variable {X : Nat × (Nat → Int32)}
set_option maxRecDepth 100000 in
/-- the end of the loop -/
theorem ys_113_e {S : zq_S} {F u : Nat} {T : Int → Int} (hk : ylk S F u T) {p : Int} (p0 : -1 ≤ p ∧ p ≤ 2000) {K : Int → zq_S → Prop} (k0 : yp_has T yX_tl p ≠ true → K (-1) S) (k1 : yp_has T yX_tl p = true → K (p + 8) S) : ∃ b_3 : Nat, zq_r S (7) 6 = some b_3 ∧ (zq_Ex X 49 0 [(.ref (b_3)), (zq_vi p), (.ref (1000000 + 29)), zz_no] [] S (zq_rp zq_bo fun x_6 s_5 => (if x_6 = 0 then K ((-1)) s_5 else (zq_iv (p + 8) ∧ K (p + 8) s_5)))) := by
  obtain ⟨f1, f2, hok, hT, r6, r7⟩ := id hk
  have oF : zq_o 1 F := by rcases f1 with z | z <;> (subst z; decide +kernel)
  have s29 : zq_str 29 = yX_tl := by decide +kernel
  refine ⟨F, r6, ys_49 oF hok ⟨by omega, by omega⟩ (by decide) (by rw [s29]; decide) (by rw [s29]; decide) ?_⟩
  rw [hT, s29]
  cases h : yp_has T yX_tl p with
  | false =>
    rw [if_pos (show yb false = 0 from rfl)]
    exact k0 (by rw [h]; decide)
  | true =>
    rw [if_neg (show ¬ yb true = 0 by decide)]
    exact ⟨⟨by omega, by omega⟩, k1 h⟩
set_option maxRecDepth 100000 in
/-- where no digit stands the loop ends -/
theorem ys_113_n {S : zq_S} {F u : Nat} {T : Int → Int} (hk : ylk S F u T) {x1 x3 p : Int} (i1 : zq_iv x1) (i3 : 0 ≤ x3 ∧ x3 ≤ 2000) (p0 : -1 ≤ p ∧ p ≤ 2000) (hn : ¬ (49 ≤ T p ∧ T p ≤ 57)) {K : Int → zq_S → Prop} (k0 : yp_has T yX_tl p ≠ true → K (-1) S) (k1 : yp_has T yX_tl p = true → K (p + 8) S) : zq_Ex X 113 25 [.ref 7, zq_vi x1, zq_vi p, zq_vi x3] [] S (zq_rp zq_iv K) := by
  obtain ⟨f1, f2, hok, hT, r6, r7⟩ := id hk
  have oF : zq_o 1 F := by rcases f1 with z | z <;> (subst z; decide +kernel)
  refine zw_113_25 i1 ⟨by omega, by omega⟩ ⟨by omega, by omega⟩ (yl_if (fun h => ?_) (fun h => ys_113_e hk p0 k0 k1))
  refine ⟨F, r6, ys_29 oF hok ⟨by omega, by omega⟩ (ys_114 (yc_cd_iv hok _) ?_)⟩
  rw [hT]
  have e : yp_od (yp_cd (T p)) = false := by
    refine decide_eq_false (fun z => hn ?_)
    unfold yp_cd at z
    split at z
    · omega
    · exact z
  rw [e, if_pos (show yb false = 0 from rfl)]
  exact ys_113_e hk p0 k0 k1
set_option maxRecDepth 100000 in
theorem ys_113_25 {S : zq_S} {F u : Nat} {T : Int → Int} (hk : ylk S F u T) {x1 : Int} (i1 : zq_iv x1) {K : Int → zq_S → Prop} : ∀ (f : Nat) (p x3 : Int) (S' : zq_S) (E : yLt), 1000 ≤ p + f → 0 ≤ p → p ≤ 1900 → 0 ≤ x3 → x3 ≤ p → ylf u S S' → yLc S' u E → (yl_sec T f p E = none → ∀ S'', ylf u S S'' → K (-1) S'') → (∀ p' E' S'', yl_sec T f p E = some (p', E') → 0 ≤ p' → p' ≤ 1900 → ylf u S S'' → yLc S'' u E' → (yp_has T yX_tl p' ≠ true → K (-1) S'') ∧ (yp_has T yX_tl p' = true → K (p' + 8) S'')) → zq_Ex X 113 25 [.ref 7, zq_vi x1, zq_vi p, zq_vi x3] [] S' (zq_rp zq_iv K)
  | 0, p, x3, S', E, hf, p0, p1, x0, x1', fr, hL, k0, k1 => by
    have ht : T p = 0 := Classical.byContradiction fun z => by
      have := hk.lt z
      omega
    obtain ⟨q0, q1⟩ := k1 p E S' rfl p0 p1 fr hL
    exact ys_113_n (hk.fr fr) i1 ⟨x0, by omega⟩ ⟨by omega, by omega⟩ (by omega) q0 q1
  | f + 1, p, x3, S', E, hf, p0, p1, x0, x1', fr, hL, k0, k1 => by
    have e0 : yl_sec T (f + 1) p E = if yp_dg (T p) = true then (match yl_run T p E with
      | none => none
      | some (p', E') => yl_sec T f p' E') else some (p, E) := rfl
    by_cases hd : yp_dg (T p) = true
    · have hd' := yp_dg_iff.mp hd
      have hlt := hk.lt (j := p) (by omega)
      rw [if_pos hd] at e0
      by_cases h49 : 49 ≤ T p
      · obtain ⟨f1, f2, hok, hT, r6, r7⟩ := hk.fr fr
        have oF : zq_o 1 F := by rcases f1 with z | z <;> (subst z; decide +kernel)
        refine zw_113_25 i1 ⟨by omega, by omega⟩ ⟨by omega, by omega⟩ ?_
        rw [if_pos (by omega)]
        refine ⟨F, r6, ys_29 oF hok ⟨by omega, by omega⟩ (ys_114 (yc_cd_iv hok _) ?_)⟩
        have e : yp_od (yp_cd (T p)) = true := by
          rw [yp_cd_ne (by omega)]
          exact decide_eq_true ⟨h49, hd'.2⟩
        rw [hT, e, if_neg (show ¬ yb true = 0 by decide)]
        refine ys_115 (hk.fr fr) hL ⟨by omega, by omega⟩ ⟨h49, hd'.2⟩ (fun hr S2 g2 => ?_) (fun p' E' S2 hr g2 h2 => ?_)
        · rw [hr] at e0
          have f2' := fr.trans g2
          have hk2 := hk.fr f2'
          have ht : T (-1) = 0 := Classical.byContradiction fun z => by
            have := hk.lt z
            omega
          refine ys_113_n hk2 i1 ⟨by omega, by omega⟩ ⟨by omega, by omega⟩ (by omega) (fun _ => k0 e0 S2 f2') (fun h => ?_)
          have := yp_has_hd h
          omega
        · rw [hr] at e0
          have hb := yl_run_p hr
          have e0 : yl_sec T (f + 1) p E = yl_sec T f p' E' := e0
          rw [e0] at k0 k1
          exact ys_113_25 hk i1 f p' (x3 + 1) S2 E' (by omega) (by omega) (by omega) (by omega) (by omega) (fr.trans g2) h2 k0 k1
      · have hr : yl_run T p E = none := by
          unfold yl_run
          rw [if_neg]
          unfold yl_hd
          intro z
          have := of_decide_eq_true z
          omega
        rw [hr] at e0
        refine ys_113_n (hk.fr fr) i1 ⟨x0, by omega⟩ ⟨by omega, by omega⟩ (by omega) (fun _ => k0 e0 S' fr) (fun h => ?_)
        have := yp_has_hd h
        omega
    · rw [if_neg hd] at e0
      obtain ⟨q0, q1⟩ := k1 p E S' e0 p0 p1 fr hL
      exact ys_113_n (hk.fr fr) i1 ⟨x0, by omega⟩ ⟨by omega, by omega⟩ (fun z => hd (yp_dg_iff.mpr ⟨by omega, z.2⟩)) q0 q1
set_option maxRecDepth 100000 in
theorem ys_113 {S : zq_S} {F u : Nat} {T : Int → Int} {E : yLt} (hk : ylk S F u T) (hL : yLc S u E) {p : Int} (p0 : 0 ≤ p ∧ p < 999) {K : Int → zq_S → Prop} (k0 : yl_tab T p E = none → ∀ S', ylf u S S' → K (-1) S') (k1 : ∀ p' E' S', yl_tab T p E = some (p', E') → 0 ≤ p' → ylf u S S' → yLc S' u E' → K p' S') : zq_Ex X 113 0 [.ref 7, zq_vi p, zz_no, zz_no] [] S (zq_rp zq_iv K) := by
  obtain ⟨f1, f2, hok, hT, r6, r7⟩ := id hk
  have oF : zq_o 1 F := by rcases f1 with z | z <;> (subst z; decide +kernel)
  have s26 : zq_str 26 = yX_xr := by decide +kernel
  refine zw_113 ⟨by omega, by omega⟩ ⟨F, r6, ys_49 oF hok ⟨by omega, by omega⟩ (by decide) (by rw [s26]; decide) (by rw [s26]; decide) ?_⟩
  rw [hT, s26]
  unfold yl_tab at k0 k1
  cases h : yp_has T yX_xr p with
  | false =>
    rw [if_pos (show yb false = 0 from rfl)]
    exact k0 (by rw [h]; rfl) S (ylf.refl _ _)
  | true =>
    rw [if_neg (show ¬ yb true = 0 by decide)]
    rw [if_pos h] at k0 k1
    refine ys_113_25 hk ⟨by omega, by omega⟩ 1000 (p + 5) 0 S E (by omega) (by omega) (by omega) (by omega) (by omega) (ylf.refl _ _) hL (fun hs S2 g => k0 (by rw [hs]) S2 g) (fun p' E' S2 hs b0 b1 g h2 => ⟨fun hn => k0 (by rw [hs]; show (if yp_has T yX_tl p' = true then _ else none) = none; rw [if_neg hn]) S2 g, fun hn => k1 (p' + 8) E' S2 (by rw [hs]; show (if yp_has T yX_tl p' = true then _ else none) = _; rw [if_pos hn]) (by omega) g h2⟩)
end YLF5
