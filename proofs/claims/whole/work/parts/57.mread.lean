/-! the reference's texts, and its methods that look at them -/
def ym_c (s : zq_S) (q : Int) : Int → Int := fun i => if i < 0 then 0 else if q = 0 then (if i < zq_i s 232 1 then zq_i s 233 i else 0) else if q = 1 then (if i < zq_i s 232 3 then zq_i s 234 i else 0) else if q = 2 then (if i < zq_i s 232 5 then zq_i s 235 i else 0) else if q = 3 then (if i < zq_i s 232 23 then zq_i s 245 i else 0) else (if i < zq_i s 240 (q - 10) then zq_i s 241 (500 * (q - 10) + i) else 0)
def ym_I (s : zq_S) : Prop := zq_i s 232 1 ≤ 100 ∧ zq_i s 232 3 ≤ 999 ∧ zq_i s 232 5 ≤ 500 ∧ zq_i s 232 23 ≤ 700 ∧ ∀ o, 0 ≤ o → o < 10 → zq_i s 240 o ≤ 500
def ym_q (q : Int) : Prop := 0 ≤ q ∧ q < 20 ∧ (q < 4 ∨ 10 ≤ q)
set_option maxRecDepth 100000 in
theorem ym_q.in {q : Int} (h : ym_q q) : zq_iv q := ⟨by have := h.1; omega, by have := h.2.1; omega⟩
set_option maxRecDepth 100000 in
theorem ym_I.T {s : zq_S} {q : Int} (hI : ym_I s) (hq : ym_q q) : yp_T (ym_c s q) := fun j hj => by
  obtain ⟨i1, i2, i3, i4, i5⟩ := hI
  obtain ⟨q1, q2, q3⟩ := hq
  unfold ym_c
  rw [if_neg (by omega)]
  split
  · rw [if_neg (by omega)]
  split
  · rw [if_neg (by omega)]
  split
  · rw [if_neg (by omega)]
  split
  · rw [if_neg (by omega)]
  have := i5 (q - 10) (by omega) (by omega)
  rw [if_neg (by omega)]
section YS2
variable {X : Nat × (Nat → Int32)} {s : zq_S} {K : Int → zq_S → Prop} {x y z q : Int} {a : Nat}
set_option maxRecDepth 100000 in
theorem ys_147 (hI : ym_I s) (hq : ym_q q) (hx : zq_iv x) (k : K (ym_c s q x) s) : zq_Ex X 147 0 [.ref 232, zq_vi q, zq_vi x] [] s (zq_rp zq_ch K) := zw_147 hq.in hx (by
  obtain ⟨i1, i2, i3, i4, i5⟩ := hI
  obtain ⟨q1, q2, q3⟩ := hq
  unfold ym_c at k
  by_cases h0 : x < 0
  · rw [if_pos h0] at k ⊢; exact k
  rw [if_neg h0] at k ⊢
  by_cases h1 : q = 0
  · rw [if_pos h1] at k ⊢
    by_cases h : x < zq_i s 232 1
    · rw [if_pos h] at k ⊢; exact ⟨⟨by omega, by omega⟩, k⟩
    · rw [if_neg h] at k ⊢; exact k
  rw [if_neg h1] at k ⊢
  by_cases h2 : q = 1
  · rw [if_pos h2] at k ⊢
    by_cases h : x < zq_i s 232 3
    · rw [if_pos h] at k ⊢; exact ⟨⟨by omega, by omega⟩, k⟩
    · rw [if_neg h] at k ⊢; exact k
  rw [if_neg h2] at k ⊢
  by_cases h3 : q = 2
  · rw [if_pos h3] at k ⊢
    by_cases h : x < zq_i s 232 5
    · rw [if_pos h] at k ⊢; exact ⟨⟨by omega, by omega⟩, k⟩
    · rw [if_neg h] at k ⊢; exact k
  rw [if_neg h3] at k ⊢
  by_cases h4 : q = 3
  · rw [if_pos h4] at k ⊢
    by_cases h : x < zq_i s 232 23
    · rw [if_pos h] at k ⊢; exact ⟨⟨by omega, by omega⟩, k⟩
    · rw [if_neg h] at k ⊢; exact k
  rw [if_neg h4] at k ⊢
  refine ⟨⟨by omega, by omega⟩, ?_⟩
  have := i5 (q - 10) (by omega) (by omega)
  by_cases h : x < zq_i s 240 (q - 10)
  · rw [if_pos h] at k ⊢; exact ⟨⟨by omega, by omega⟩, k⟩
  · rw [if_neg h] at k ⊢; exact k)
set_option maxRecDepth 100000 in
theorem ym_ch {s : zq_S} (hR : zq_R s) (q x : Int) : zq_ch (ym_c s q x) := by
  have c1 := hR.2.1 233 _ x zq_a233
  have c2 := hR.2.1 234 _ x zq_a234
  have c3 := hR.2.1 235 _ x zq_a235
  have c4 := hR.2.1 245 _ x zq_a245
  have c5 := hR.2.1 241 _ (500 * (q - 10) + x) zq_a241
  unfold ym_c
  repeat' split
  all_goals first | assumption | exact ⟨by decide, by decide⟩
set_option maxRecDepth 100000 in
/-- all characters are below 65536: that is known at every place -/
theorem ym_in {s : zq_S} (hR : zq_R s) (q x : Int) : zq_iv (ym_c s q x) := zq_ch_in (ym_ch hR q x)
set_option maxRecDepth 100000 in
theorem ys_146_2 (hI : ym_I s) (hq : ym_q q) (hx : zq_iv x) : ∀ (n : Nat) (y : Int), 1000 ≤ y + n → -100 ≤ y → y ≤ 1000 → K (yp_sk (ym_c s q) y) s → zq_Ex X 146 2 [.ref 232, zq_vi q, zq_vi x, zq_vi y] [] s (zq_rp zq_iv K) := by
  intro n
  induction n with
  | zero =>
    intro y h1 h0 h2 k
    have hy : zq_iv y := ⟨by omega, by omega⟩
    refine zw_146_2 hq.in hx hy ?_
    have e := hI.T hq y (by omega)
    unfold yp_sk at k
    rw [yp_end_eq (hI.T hq) rfl (by omega), e] at k
    refine ys_147 hI hq hy ?_
    rw [e, if_neg (by decide)]
    refine ys_147 hI hq hy ?_
    rw [e, if_neg (by decide)]
    exact k
  | succ n ih =>
    intro y h1 h0 h2 k
    have hy : zq_iv y := ⟨by omega, by omega⟩
    refine zw_146_2 hq.in hx hy ?_
    unfold yp_sk at k
    rw [yp_end_eq (hI.T hq) rfl (by omega)] at k
    refine ys_147 hI hq hy ?_
    by_cases h3 : y = 1000
    · have e := hI.T hq y (by omega)
      rw [e] at k
      rw [e, if_neg (by decide)]
      refine ys_147 hI hq hy ?_
      rw [e, if_neg (by decide)]
      exact k
    split
    · next h4 =>
      rw [if_pos (by rw [h4]; rfl)] at k
      exact ih (y + 1) (by omega) (by omega) (by omega) k
    · next h4 =>
      refine ys_147 hI hq hy ?_
      split
      · next h5 =>
        rw [if_pos (by rw [h5]; rfl)] at k
        exact ih (y + 1) (by omega) (by omega) (by omega) k
      · next h5 =>
        rw [if_neg (by simp [yp_sp, h4, h5])] at k
        exact k
set_option maxRecDepth 100000 in
theorem ys_146 (hI : ym_I s) (hq : ym_q q) (h0 : -100 ≤ x) (h1 : x ≤ 1000) (k : K (yp_sk (ym_c s q) x) s) : zq_Ex X 146 0 [.ref 232, zq_vi q, zq_vi x, zz_no] [] s (zq_rp zq_iv K) := zw_146 hq.in ⟨by omega, by omega⟩ (ys_146_2 hI hq ⟨by omega, by omega⟩ 1100 x (by omega) h0 h1 k)
set_option maxRecDepth 100000 in
theorem ys_161_2 (hI : ym_I s) (hq : ym_q q) (hx : zq_iv x) : ∀ (n : Nat) (y : Int), 1001 ≤ y + n → -100 ≤ y → y ≤ 1000 → K (yp_wd (ym_c s q) y) s → zq_Ex X 161 2 [.ref 232, zq_vi q, zq_vi x, zq_vi y] [] s (zq_rp zq_iv K) := by
  intro n
  induction n with
  | zero => intro y h1 h0 h2 k; omega
  | succ n ih =>
    intro y h1 h0 h2 k
    have hy : zq_iv y := ⟨by omega, by omega⟩
    refine zq_have (fun hR => ?_)
    refine zw_161_2 hq.in hx hy ?_
    unfold yp_wd at k
    rw [yp_end_eq (hI.T hq) rfl (by omega)] at k
    have e1000 : y = 1000 → ym_c s q y = 0 := fun h => hI.T hq y (by omega)
    refine ys_147 hI hq hy ?_
    refine ys_154 (ym_in hR q y) ?_
    refine yb_if (fun h4 => ?_) (fun h4 => ?_)
    · refine ys_147 hI hq hy ?_
      split
      · next h5 =>
        rw [if_pos (by rw [h5]; rfl)] at k
        exact ih (y + 1) (by omega) (by omega) (Decidable.byContradiction (fun h => by rw [e1000 (by omega)] at h5; cases h5)) k
      · next h5 =>
        have : yp_wc (ym_c s q y) = false := by
          have h6 := of_decide_eq_false h4
          exact decide_eq_false (by omega)
        rw [this] at k
        exact k
    · have : yp_wc (ym_c s q y) = true := by
        have h6 := of_decide_eq_true h4
        exact decide_eq_true (by omega)
      rw [if_pos this] at k
      exact ih (y + 1) (by omega) (by omega) (Decidable.byContradiction (fun h => by rw [e1000 (by omega)] at h4; cases h4)) k
set_option maxRecDepth 100000 in
theorem ys_161 (hI : ym_I s) (hq : ym_q q) (h0 : -100 ≤ x) (h1 : x ≤ 1000) (k : K (yp_wd (ym_c s q) x) s) : zq_Ex X 161 0 [.ref 232, zq_vi q, zq_vi x, zz_no] [] s (zq_rp zq_iv K) := zw_161 hq.in ⟨by omega, by omega⟩ (ys_161_2 hI hq ⟨by omega, by omega⟩ 1101 x (by omega) h0 h1 k)
set_option maxRecDepth 100000 in
theorem ys_153_4 (hI : ym_I s) (hq : ym_q q) (hx : zq_iv x) : ∀ (n : Nat) (y : Int), 1001 ≤ y + n → -100 ≤ y → y ≤ 1000 → K (yp_end yp_nc (ym_c s q) y) s → zq_Ex X 153 4 [.ref 232, zq_vi q, zq_vi x, zq_vi y] [] s (zq_rp zq_iv K) := by
  intro n
  induction n with
  | zero => intro y h1 h0 h2 k; omega
  | succ n ih =>
    intro y h1 h0 h2 k
    have hy : zq_iv y := ⟨by omega, by omega⟩
    refine zq_have (fun hR => ?_)
    refine zw_153_4 hq.in hx hy ?_
    rw [yp_end_eq (hI.T hq) rfl (by omega)] at k
    have e1000 : y = 1000 → ym_c s q y = 0 := fun h => hI.T hq y (by omega)
    refine ys_147 hI hq hy ?_
    refine ys_154 (ym_in hR q y) ?_
    refine yb_if (fun h4 => ?_) (fun h4 => ?_)
    · rw [h4] at k
      exact k
    · rw [if_pos h4] at k
      exact ih (y + 1) (by omega) (by omega) (Decidable.byContradiction (fun h => by rw [e1000 (by omega)] at h4; cases h4)) k
set_option maxRecDepth 100000 in
theorem ys_153 (hI : ym_I s) (hq : ym_q q) (h0 : -101 ≤ x) (h1 : x < 1000) (k : K (yp_nm (ym_c s q) x) s) : zq_Ex X 153 0 [.ref 232, zq_vi q, zq_vi x, zz_no] [] s (zq_rp zq_iv K) := zw_153 hq.in ⟨by omega, by omega⟩ (ys_153_4 hI hq ⟨by omega, by omega⟩ 1101 (x + 1) (by omega) (by omega) (by omega) k)
end YS2
