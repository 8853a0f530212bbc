/-! the class reads: takeValue -/
set_option maxRecDepth 100000 in
theorem yq_null : zq_str 7 = [110, 117, 108, 108] := by decide +kernel
set_option maxRecDepth 100000 in
theorem yq_true : zq_str 8 = [116, 114, 117, 101] := by decide +kernel
set_option maxRecDepth 100000 in
theorem yq_false : zq_str 9 = [102, 97, 108, 115, 101] := by decide +kernel
set_option maxRecDepth 100000 in
/-- a word that stands there -/
theorem yr_cword {T : Int → Int} (hT : yp_T T) {p : Int} {l : List Int} (p0 : 0 ≤ p) (hl : l.length < 100) (hw : ∀ c ∈ l, yp_wc c = true) (h : ye_at T p l) : yp_wd T p = p + l.length ↔ yp_wc (T (p + l.length)) = false := by
  constructor
  · intro e
    have := yp_run_stop (p := yp_wc) hT rfl 2000 p (by omega)
    have e2 : yp_run yp_wc T 2000 p = p + l.length := e
    rw [e2] at this
    exact this
  · intro e
    exact ye_wd (by omega) h hw e
set_option maxRecDepth 100000 in
theorem yr_c4 {T : Int → Int} {p a b c d : Int} : yp_has T [a, b, c, d] p = true ↔ yp_says T p a b c d = true := by
  rw [yp_has_at]
  unfold yp_says
  rw [decide_eq_true_eq, ye_at_cons, ye_at_cons, ye_at_cons, ye_at_cons, show p + 1 + 1 = p + 2 by omega, show p + 2 + 1 = p + 3 by omega]
  exact ⟨fun h => ⟨h.1, h.2.1, h.2.2.1, h.2.2.2.1⟩, fun h => ⟨h.1, h.2.1, h.2.2.1, h.2.2.2, ye_at_nil _ _⟩⟩
set_option maxRecDepth 100000 in
theorem yr_c5 {T : Int → Int} {p a b c d e : Int} : yp_has T [a, b, c, d, e] p = true ↔ yp_says T p a b c d = true ∧ T (p + 4) = e := by
  rw [yp_has_at]
  unfold yp_says
  rw [decide_eq_true_eq, ye_at_cons, ye_at_cons, ye_at_cons, ye_at_cons, ye_at_cons, show p + 1 + 1 = p + 2 by omega, show p + 2 + 1 = p + 3 by omega, show p + 3 + 1 = p + 4 by omega]
  exact ⟨fun h => ⟨⟨h.1, h.2.1, h.2.2.1, h.2.2.2.1⟩, h.2.2.2.2.1⟩, fun h => ⟨h.1.1, h.1.2.1, h.1.2.2.1, h.1.2.2.2, h.2, ye_at_nil _ _⟩⟩
section YCV
variable {X : Nat × (Nat → Int32)} {s : zq_S} {R a t : Nat}
set_option maxRecDepth 100000 in
theorem ys_61 {K : Int → zq_S → Prop} {p c lev : Int} {key : List Int} (hR : zq_o 3 R) (ha : zq_o 1 a) (ht : zq_o 4 t) (hra : zq_r s R 0 = some a) (hrt : zq_r s R 1 = some t) (ho : yc_ok s a) (hp : zq_i s R 5 = p) (p0 : 0 ≤ p) (p1 : p ≤ 1000) (hlev : zq_i s R 3 = lev) (hlv : zq_iv lev) (hkey : zq_l s R 4 = ye_pk key 0) (hcn : zq_i s t 0 = c) (c0 : 0 ≤ c) (c1 : c < 12)
    (kf : yp_se (yc_t s a) p < 0 → ∀ s', zq_i s' R 5 = p → ycf (yc_A R t) s s' → K 0 s')
    (kk : 0 ≤ yp_se (yc_t s a) p → ∀ s', yc_v s s' R t c lev (yp_se (yc_t s a) p) (yr_nd (yc_t s a) 5 p key) → K 1 s') : zq_Ex X 61 0 [.ref R, zz_no, zz_no, zz_no] [] s (zq_rp zq_bo K) := by
  have hT := ho.T ha
  have dRt := yk_Rt hR ht
  refine zw_61 hR ⟨t, hrt, ?_⟩
  rw [hlev, hkey]
  refine ys_10 ht (by decide) hlv hcn c0 c1 (fun s1 n1 o1 f1 => ?_)
  have r0 : zq_i s1 R = zq_i s R := f1.i dRt.1
  have r1 : zq_i s1 (R + 1) = zq_i s (R + 1) := f1.i dRt.2
  rw [r0, hp]
  obtain ⟨a1, a2, a3, a4, a5, a6⟩ := n1
  refine ys_61_24 (E := yp_se (yc_t s a) p) (L := yp_let (yc_t s a) (yp_se (yc_t s a) p - 1) (yp_se (yc_t s a) p - p).toNat (p + 1)) (y := ye_pk key 0) (lev := lev) (p := p) hR ha ht hra hrt ho c0 c1 kf (fun hE s' hl h4 => kk hE s' ?_) 1003 (p + 1) [] s1 _ rfl (by omega) (by omega) (by omega) (by decide) ⟨a1, a2, a3, a4, a6, fun i hi => by simp at hi, o1, by rw [r0]; exact hp, by rw [r0]; exact hlev, r1, f1.mono (by simp)⟩ rfl (fun hE => ?_)
  · obtain ⟨q1, q2, q3, q4, q5, q6, q7, q8, q9, q10, q11⟩ := hl
    exact ⟨q1, ⟨q2, q3, q4, (fun z => by have z : (5 : Int) = 8 := z; omega), q5, fun _ i hi => q6 i hi⟩, q7, h4, q8, q9, q10, q11⟩
  · have hend := yp_str_end 2000 (p + 1) 0 (yp_se (yc_t s a) p) rfl hE
    have h9 := yp_lt hT (k := yp_se (yc_t s a) p - 1) (by omega)
    rw [List.nil_append]
    exact yp_let_eq _ _ _ (by omega) (by omega)
set_option maxRecDepth 100000 in
/-- takeValue -/
theorem ys_56 {K : Int → zq_S → Prop} {p c lev k : Int} {key : List Int} (hR : zq_o 3 R) (ha : zq_o 1 a) (ht : zq_o 4 t) (hra : zq_r s R 0 = some a) (hrt : zq_r s R 1 = some t) (ho : yc_ok s a) (hp : zq_i s R 5 = p) (p0 : 0 ≤ p) (p1 : p ≤ 1000) (hlev : zq_i s R 3 = lev) (l0 : 0 ≤ lev) (l5 : lev ≤ 5) (hkey : zq_l s R 4 = ye_pk key 0) (hcn : zq_i s t 0 = c) (c0 : 0 ≤ c) (c1 : c ≤ 12) (hk : yp_kind (yc_t s a) p = k)
    (kf : (k < 0 ∨ lev = 5 ∨ c = 12) → ∀ s', zq_i s' R 5 = p → ycf (yc_A R t) s s' → K 0 s')
    (kk : ¬ (k < 0 ∨ lev = 5 ∨ c = 12) → ∀ s', zq_i s' t 0 = c + 1 → yt_nd s' t c lev (yr_nd (yc_t s a) k p key) → yt_old s s' t c → zq_l s' R 4 = 0 → zq_i s' R 5 = yr_end (yc_t s a) k p → zq_i s' R 3 = (if k = 6 ∨ k = 7 then lev + 1 else lev) → (∀ j, zq_i s' (R + 1) j = if (k = 6 ∨ k = 7) ∧ j = lev then c else zq_i s (R + 1) j) → ycf (yc_A R t) s s' → K 1 s') : zq_Ex X 56 0 [.ref R] [] s (zq_rp zq_bo K) := by
  have hT := ho.T ha
  have hlv : zq_iv lev := ⟨by omega, by omega⟩
  have same0 : zq_i s R 5 = p ∧ ycf (yc_A R t) s s := ⟨hp, ycf.refl _ _⟩
  refine zq_have (fun hR0 => ?_)
  refine zw_56 hR ?_
  rw [hlev]
  by_cases h5 : lev < 5
  rotate_left
  · rw [if_neg h5]
    exact kf (Or.inr (Or.inl (by omega))) s same0.1 same0.2
  rw [if_pos h5]
  refine ⟨t, hrt, ?_⟩
  rw [hcn]
  by_cases h12 : c < 12
  rotate_left
  · rw [if_neg h12]
    exact kf (Or.inr (Or.inr (by omega))) s same0.1 same0.2
  rw [if_pos h12]
  -- what a plain node gives
  have plain : ∀ s', 0 ≤ k → k ≠ 6 → k ≠ 7 → yc_v s s' R t c lev (yr_end (yc_t s a) k p) (yr_nd (yc_t s a) k p key) → K 1 s' := fun s' k0 k6 k7 hv => by
    obtain ⟨v1, v2, v3, v4, v5, v6, v7, v8⟩ := hv
    refine kk (by omega) s' v1 v2 v3 v4 v5 ?_ (fun j => ?_) v8
    · rw [if_neg (by omega)]; exact v6
    · rw [if_neg (by omega), v7]
  have bad : ∀ s', k < 0 → zq_i s' R 5 = p → ycf (yc_A R t) s s' → K 0 s' := fun s' h => kf (Or.inl h) s'
  refine ⟨a, hra, ?_⟩
  rw [hp]
  refine ys_29 ha ho ⟨by omega, by omega⟩ ?_
  have ecd : ∀ x : Int, 0 < x → (yp_cd (yc_t s a p) = x ↔ yc_t s a p = x) := fun x hx => by unfold yp_cd; split <;> omega
  unfold yp_kind at hk
  by_cases g40 : yc_t s a p = 40
  · rw [if_pos ((ecd 40 (by decide)).mpr g40)]
    rw [if_neg (by omega), if_neg (by omega), if_neg (by omega), if_pos g40] at hk
    refine ys_61 hR ha ht hra hrt ho hp p0 p1 hlev hlv hkey hcn c0 h12 (fun h s' e f => ?_) (fun h s' hv => ?_)
    · rw [if_neg (by omega)] at hk
      exact bad s' (by omega) e f
    · rw [if_pos h] at hk
      subst hk
      exact plain s' (by decide) (by decide) (by decide) hv
  rw [if_neg (fun z => g40 ((ecd 40 (by decide)).mp z))]
  by_cases g47 : yc_t s a p = 47
  · rw [if_pos ((ecd 47 (by decide)).mpr g47)]
    rw [if_neg (by omega), if_neg (by omega), if_pos g47] at hk
    refine ys_59 hR ha ht hra hrt ho hp p0 p1 hlev hlv hkey hcn c0 h12 (fun h => ?_) (fun h s' hv => ?_)
    · rw [if_neg (by rw [h]; decide)] at hk
      exact bad s (by omega) same0.1 same0.2
    · rw [if_pos h] at hk
      subst hk
      exact plain s' (by decide) (by decide) (by decide) hv
  rw [if_neg (fun z => g47 ((ecd 47 (by decide)).mp z))]
  by_cases g60 : yc_t s a p = 60
  · rw [if_pos ((ecd 60 (by decide)).mpr g60)]
    rw [if_neg (by omega), if_pos g60] at hk
    refine ⟨a, hra, ?_⟩
    rw [hp]
    refine ys_29 ha ho ⟨by omega, by omega⟩ ?_
    have ecd2 : yp_cd (yc_t s a (p + 1)) = 60 ↔ yc_t s a (p + 1) = 60 := by unfold yp_cd; split <;> omega
    by_cases g2 : yc_t s a (p + 1) = 60
    · rw [if_pos (ecd2.mpr g2)]
      rw [if_pos g2] at hk
      subst hk
      rw [hp]
      refine ys_57 (T := yc_t s a) (p := p) hR ht hrt ⟨by omega, by omega⟩ (Or.inr rfl) hlev l0 h5 hkey hcn c0 h12 (fun s' w1 w2 w3 w4 w5 w6 w7 w8 => ?_)
      rw [if_neg (by decide)]
      exact kk (by omega) s' w1 w2 w3 w4 w5 (by rw [if_pos (Or.inr rfl)]; exact w6) (fun j => by rw [w7 j]; simp) w8
    · rw [if_neg (fun z => g2 (ecd2.mp z))]
      rw [if_neg g2] at hk
      exact bad s (by omega) same0.1 same0.2
  rw [if_neg (fun z => g60 ((ecd 60 (by decide)).mp z))]
  by_cases g91 : yc_t s a p = 91
  · rw [if_pos ((ecd 91 (by decide)).mpr g91)]
    rw [if_pos g91] at hk
    subst hk
    rw [hp]
    refine ys_57 (T := yc_t s a) (p := p) hR ht hrt ⟨by omega, by omega⟩ (Or.inl rfl) hlev l0 h5 hkey hcn c0 h12 (fun s' w1 w2 w3 w4 w5 w6 w7 w8 => ?_)
    exact kk (by omega) s' w1 w2 w3 w4 w5 (by rw [if_pos (Or.inl rfl)]; exact w6) (fun j => by rw [w7 j]; simp) w8
  rw [if_neg (fun z => g91 ((ecd 91 (by decide)).mp z))]
  rw [if_neg g91, if_neg g60, if_neg g47, if_neg g40] at hk
  refine ys_62 hR ha ht hra hrt ho hp p0 p1 hlev hlv hkey hcn c0 h12 (fun h => ?_) (fun h s' hv => ?_)
  rotate_left
  · rw [if_neg (by decide)]
    rw [if_pos h] at hk
    subst hk
    exact plain s' (by decide) (by decide) (by decide) hv
  rw [if_pos rfl]
  rw [if_neg (by omega)] at hk
  -- words
  have w4 : ∀ (l : List Int), l.length = 4 → (∀ c ∈ l, yp_wc c = true) → yp_has (yc_t s a) l p = true → (yp_wd (yc_t s a) p = p + 4 ↔ yp_wc (yc_t s a (p + 4)) = false) := fun l hl hw hh => by
    have := yr_cword hT p0 (l := l) (by omega) hw ((yp_has_at _ _).mp hh)
    rw [hl] at this
    exact this
  have isIc : yp_isI (yc_t s a) p (yp_wd (yc_t s a) p) = true → yc_t s a p = 45 ∨ (48 ≤ yc_t s a p ∧ yc_t s a p ≤ 57) := fun hi => by
    unfold yp_isI at hi
    rw [Bool.and_eq_true] at hi
    have h1 := of_decide_eq_true hi.1
    by_cases h45 : yc_t s a p = 45
    · exact Or.inl h45
    · have e1 : yp_from (yc_t s a) p = p := if_neg h45
      rw [e1] at hi h1
      obtain ⟨m, hm⟩ : ∃ m, (yp_wd (yc_t s a) p - p).toNat = m + 1 := ⟨(yp_wd (yc_t s a) p - p).toNat - 1, by omega⟩
      have h2 := hi.2
      rw [hm] at h2
      unfold yp_all at h2
      rw [Bool.and_eq_true] at h2
      exact Or.inr (of_decide_eq_true h2.1)
  refine ys_66 hR ha ht hra hrt ho hp p0 p1 hlev hlv hkey hcn c0 h12 (fun hi => ?_) (fun hi s' hv => ?_)
  rotate_left
  · rw [if_neg (by decide)]
    have hc := isIc hi
    have sy : ∀ a1 b1 c1 d1, a1 = 110 ∨ a1 = 116 ∨ a1 = 102 → ¬ yp_says (yc_t s a) p a1 b1 c1 d1 = true := fun a1 b1 c1 d1 h1 z => by have := (of_decide_eq_true z).1; omega
    rw [if_neg (fun z => sy _ _ _ _ (by decide) z.2), if_neg (fun z => sy _ _ _ _ (by decide) z.2), if_neg (fun z => sy _ _ _ _ (by decide) z.2.1), if_pos hi] at hk
    subst hk
    exact plain s' (by decide) (by decide) (by decide) hv
  rw [if_pos rfl]
  have word : ∀ (j : Nat) (l : List Int) (kk2 : Int), zq_str j = l → True := fun _ _ _ _ => trivial
  refine ys_69 (k := 0) (j := 7) hR ha ht hra hrt ho (by decide) (by rw [yq_null]; decide) (by rw [yq_null]; decide) hp p0 p1 hlev hlv hkey hcn c0 h12 (by decide) (by decide) (fun h0 => ?_) (fun h0 s' hv => ?_)
  rotate_left
  · rw [if_neg (by decide)]
    rw [yq_null] at h0 hv
    have hw := (w4 [110, 117, 108, 108] rfl (by decide) h0.1).mpr h0.2
    rw [if_pos ⟨hw, yr_c4.mp h0.1⟩] at hk
    subst hk
    refine plain s' (by decide) (by decide) (by decide) ?_
    have : yr_end (yc_t s a) 0 p = p + 4 := hw
    rw [this]
    exact hv
  rw [if_pos rfl]
  rw [yq_null] at h0
  rw [if_neg (fun z => h0 ⟨yr_c4.mpr z.2, (w4 [110, 117, 108, 108] rfl (by decide) (yr_c4.mpr z.2)).mp z.1⟩)] at hk
  refine ys_69 (k := 1) (j := 8) hR ha ht hra hrt ho (by decide) (by rw [yq_true]; decide) (by rw [yq_true]; decide) hp p0 p1 hlev hlv hkey hcn c0 h12 (by decide) (by decide) (fun h1 => ?_) (fun h1 s' hv => ?_)
  rotate_left
  · rw [if_neg (by decide)]
    rw [yq_true] at h1 hv
    have hw := (w4 [116, 114, 117, 101] rfl (by decide) h1.1).mpr h1.2
    rw [if_pos ⟨hw, yr_c4.mp h1.1⟩] at hk
    subst hk
    refine plain s' (by decide) (by decide) (by decide) ?_
    have : yr_end (yc_t s a) 1 p = p + 4 := hw
    rw [this]
    exact hv
  rw [if_pos rfl]
  rw [yq_true] at h1
  rw [if_neg (fun z => h1 ⟨yr_c4.mpr z.2, (w4 [116, 114, 117, 101] rfl (by decide) (yr_c4.mpr z.2)).mp z.1⟩)] at hk
  have w5 : yp_has (yc_t s a) [102, 97, 108, 115, 101] p = true → (yp_wd (yc_t s a) p = p + 5 ↔ yp_wc (yc_t s a (p + 5)) = false) := fun hh => yr_cword hT p0 (l := [102, 97, 108, 115, 101]) (by decide) (by decide) ((yp_has_at _ _).mp hh)
  refine ys_69 (k := 2) (j := 9) hR ha ht hra hrt ho (by decide) (by rw [yq_false]; decide) (by rw [yq_false]; decide) hp p0 p1 hlev hlv hkey hcn c0 h12 (by decide) (by decide) (fun h2 => ?_) (fun h2 s' hv => ?_)
  rotate_left
  · rw [if_neg (by decide)]
    rw [yq_false] at h2 hv
    have hw := (w5 h2.1).mpr h2.2
    have hc5 := yr_c5.mp h2.1
    rw [if_pos ⟨hw, hc5.1, hc5.2⟩] at hk
    subst hk
    refine plain s' (by decide) (by decide) (by decide) ?_
    have : yr_end (yc_t s a) 2 p = p + 5 := hw
    rw [this]
    exact hv
  rw [if_pos rfl]
  rw [yq_false] at h2
  rw [if_neg (fun z => h2 ⟨yr_c5.mpr z.2, (w5 (yr_c5.mpr z.2)).mp z.1⟩), if_neg (by rw [hi]; decide)] at hk
  exact bad s (by omega) same0.1 same0.2
end YCV
