/-! the kind of what stands at a place; the table's small questions -/
section YS4
variable {X : Nat × (Nat → Int32)} {s : zq_S} {K : Int → zq_S → Prop} {x y z q : Int} {a : Nat}
set_option maxRecDepth 100000 in
theorem ys_149 (hI : ym_I s) (hq : ym_q q) (h0 : -10000 ≤ x) (h1 : x ≤ 100000) (hy : zq_ch y) (k : K (yb (decide (ym_c s q x = y ∧ ym_c s q (x + 1) = y))) s) : zq_Ex X 149 0 [.ref 232, zq_vi q, zq_vi x, zq_vi y] [] s (zq_rp zq_bo K) := by
  rw [yb_dec] at k
  refine zw_149 hq.in ⟨by omega, by omega⟩ hy (ys_147 hI hq ⟨by omega, by omega⟩ ?_)
  split
  · next e1 =>
    refine ys_147 hI hq ⟨by omega, by omega⟩ ?_
    split
    · next e2 => rw [if_pos ⟨e1, e2⟩] at k; exact k
    · next e2 => rw [if_neg (fun z => e2 z.2)] at k; exact k
  · next e1 => rw [if_neg (fun z => e1 z.1)] at k; exact k
set_option maxRecDepth 100000 in
theorem ys_159_158 (hI : ym_I s) (hq : ym_q q) (h0 : -100 ≤ x) (h1 : x ≤ 1000) (hz : zq_ch z) (k : K (if yp_wd (ym_c s q) x = x + 5 ∧ yp_says (ym_c s q) x 102 97 108 115 = true ∧ ym_c s q (x + 4) = 101 then 2 else if yp_isI (ym_c s q) x (yp_wd (ym_c s q) x) = true then 3 else -1) s) : zq_Ex X 159 158 [.ref 232, zq_vi q, zq_vi x, zq_vi z, zq_vi (yp_wd (ym_c s q) x)] [] s (zq_rp zq_iv K) := by
  have hx : zq_iv x := ⟨by omega, by omega⟩
  have w1 := yp_wd_le (T := ym_c s q) x
  have w2 := yp_wd_lt (hI.T hq) (k := x) h1
  have num : ¬ (yp_wd (ym_c s q) x = x + 5 ∧ yp_says (ym_c s q) x 102 97 108 115 = true ∧ ym_c s q (x + 4) = 101) → zq_Ex X 165 0 [.ref 232, zq_vi q, zq_vi x, zq_vi (yp_wd (ym_c s q) x), zz_no, zz_no, zz_no] [] s (zq_rp zq_bo fun x_12 s_11 => (if x_12 = 0 then K ((-1)) s_11 else K (3) s_11)) := fun h => by
    rw [if_neg h] at k
    refine ys_165 hI hq h0 h1 w1 w2 (yb_if (fun h2 => ?_) (fun h2 => ?_))
    · rw [if_neg (by rw [h2]; decide)] at k; exact k
    · rw [if_pos h2] at k; exact k
  refine zw_159_158 hq.in hx hz ⟨by omega, by omega⟩ ⟨⟨by omega, by omega⟩, ?_⟩
  split
  · next h2 =>
    refine ys_164 hI hq (by omega) (by omega) ⟨by decide, by decide⟩ ⟨by decide, by decide⟩ ⟨by decide, by decide⟩ ⟨by decide, by decide⟩ (yb_if (fun h3 => ?_) (fun h3 => ?_))
    · exact num (fun z => by rw [h3] at z; cases z.2.1)
    · refine ys_147 hI hq ⟨by omega, by omega⟩ ?_
      split
      · next h4 => rw [if_pos ⟨h2, h3, h4⟩] at k; exact k
      · next h4 => exact num (fun z => h4 z.2.2)
  · next h2 => exact num (fun z => h2 z.1)
set_option maxRecDepth 100000 in
theorem ys_159_131 (hI : ym_I s) (hq : ym_q q) (h0 : -100 ≤ x) (h1 : x ≤ 1000) (hz : zq_ch z) (k : K (if yp_wd (ym_c s q) x = x + 4 ∧ yp_says (ym_c s q) x 116 114 117 101 = true then 1 else if yp_wd (ym_c s q) x = x + 5 ∧ yp_says (ym_c s q) x 102 97 108 115 = true ∧ ym_c s q (x + 4) = 101 then 2 else if yp_isI (ym_c s q) x (yp_wd (ym_c s q) x) = true then 3 else -1) s) : zq_Ex X 159 131 [.ref 232, zq_vi q, zq_vi x, zq_vi z, zq_vi (yp_wd (ym_c s q) x)] [] s (zq_rp zq_iv K) := by
  have hx : zq_iv x := ⟨by omega, by omega⟩
  have w1 := yp_wd_le (T := ym_c s q) x
  have w2 := yp_wd_lt (hI.T hq) (k := x) h1
  refine zw_159_131 hq.in hx hz ⟨by omega, by omega⟩ ⟨⟨by omega, by omega⟩, ?_⟩
  split
  · next h2 =>
    refine ys_164 hI hq (by omega) (by omega) ⟨by decide, by decide⟩ ⟨by decide, by decide⟩ ⟨by decide, by decide⟩ ⟨by decide, by decide⟩ (yb_if (fun h3 => ?_) (fun h3 => ?_))
    · rw [if_neg (fun z => by rw [h3] at z; cases z.2)] at k
      exact ys_159_158 hI hq h0 h1 hz k
    · rw [if_pos ⟨h2, h3⟩] at k; exact k
  · next h2 =>
    rw [if_neg (fun z => h2 z.1)] at k
    exact ys_159_158 hI hq h0 h1 hz k
set_option maxRecDepth 100000 in
theorem ys_159 (hI : ym_I s) (hq : ym_q q) (h0 : -100 ≤ x) (h1 : x ≤ 1000) (k : K (yp_kind (ym_c s q) x) s) : zq_Ex X 159 0 [.ref 232, zq_vi q, zq_vi x, zz_no, zz_no] [] s (zq_rp zq_iv K) := by
  have hx : zq_iv x := ⟨by omega, by omega⟩
  have w1 := yp_wd_le (T := ym_c s q) x
  have w2 := yp_wd_lt (hI.T hq) (k := x) h1
  unfold yp_kind at k
  refine zq_have (fun hR => ?_)
  refine zw_159 hq.in hx (ys_147 hI hq hx ?_)
  split
  · next h2 => rw [if_pos h2] at k; exact k
  next h2 =>
  rw [if_neg h2] at k
  split
  · next h3 =>
    rw [if_pos h3] at k
    refine ys_147 hI hq ⟨by omega, by omega⟩ ?_
    split
    · next h4 => rw [if_pos h4] at k; exact k
    · next h4 => rw [if_neg h4] at k; exact k
  next h3 =>
  rw [if_neg h3] at k
  split
  · next h4 =>
    rw [if_pos h4] at k
    have := yp_lt (hI.T hq) (k := x) (by omega)
    refine ys_152 hI hq h0 this (yb_if (fun h5 => ?_) (fun h5 => ?_))
    · rw [if_neg (by rw [h5]; decide)] at k; exact k
    · rw [if_pos h5] at k; exact k
  next h4 =>
  rw [if_neg h4] at k
  split
  · next h5 =>
    rw [if_pos h5] at k
    refine ys_160 hI hq h0 h1 ?_
    split
    · next h6 => rw [if_neg (by omega)] at k; exact k
    · next h6 => rw [if_pos (by omega)] at k; exact k
  next h5 =>
  rw [if_neg h5] at k
  refine ys_161 hI hq h0 h1 (ys_162 hI hq h0 h1 ?_)
  split
  · next h6 =>
    rw [if_neg (by omega)] at k
    refine ⟨⟨by omega, by omega⟩, ?_⟩
    split
    · next h7 =>
      refine ys_164 hI hq (by omega) (by omega) ⟨by decide, by decide⟩ ⟨by decide, by decide⟩ ⟨by decide, by decide⟩ ⟨by decide, by decide⟩ (yb_if (fun h8 => ?_) (fun h8 => ?_))
      · rw [if_neg (fun z => by rw [h8] at z; cases z.2)] at k
        exact ys_159_131 hI hq h0 h1 (ym_ch hR q x) k
      · rw [if_pos ⟨h7, h8⟩] at k; exact k
    · next h7 =>
      rw [if_neg (fun z => h7 z.1)] at k
      exact ys_159_131 hI hq h0 h1 (ym_ch hR q x) k
  · next h6 => rw [if_pos (by omega)] at k; exact k
set_option maxRecDepth 100000 in
theorem ys_189 (hI : ym_I s) (hq : ym_q q) (hx : zq_iv x) (k : K (ym_c s q x - 48) s) : zq_Ex X 189 0 [.ref 232, zq_vi q, zq_vi x] [] s (zq_rp zq_iv K) := by
  refine zq_have (fun hR => ?_)
  have := ym_ch hR q x
  exact zw_189 hq.in hx (ys_147 hI hq hx ⟨⟨by omega, by omega⟩, k⟩)
set_option maxRecDepth 100000 in
theorem ys_190 (hI : ym_I s) (hq : ym_q q) (hx : zq_iv x) (hx2 : zq_iv (x + 2)) (k : K (ym_c s q (x + 2) - 48) s) : zq_Ex X 190 0 [.ref 232, zq_vi q, zq_vi x] [] s (zq_rp zq_iv K) := by
  refine zq_have (fun hR => ?_)
  have := ym_ch hR q (x + 2)
  exact zw_190 hq.in hx (ys_147 hI hq hx2 ⟨⟨by omega, by omega⟩, k⟩)
/-- an object is in use -/
def ym_us (s : zq_S) (o : Int) : Bool := decide (1 ≤ o ∧ o ≤ 9 ∧ zq_i s 237 o ≠ 0)
def ym_me (s : zq_S) (o g : Int) : Bool := ym_us s o && decide (zq_i s 238 o = g)
set_option maxRecDepth 100000 in
theorem ys_173 (hx : zq_iv x) (k : K (yb (ym_us s x)) s) : zq_Ex X 173 0 [.ref 232, zq_vi x] [] s (zq_rp zq_bo K) := zw_173 hx (by
  unfold ym_us at k
  rw [yb_dec] at k
  split
  · next h => rw [if_neg (by omega)] at k; exact k
  · next h =>
    split
    · next h1 =>
      refine ⟨⟨by omega, by omega⟩, ?_⟩
      split
      · next h2 => rw [if_neg (fun z => z.2.2 h2)] at k; exact k
      · next h2 => rw [if_pos ⟨by omega, h1, h2⟩] at k; exact k
    · next h1 => rw [if_neg (by omega)] at k; exact k)
set_option maxRecDepth 100000 in
theorem ys_187 (hx : zq_iv x) (hy : zq_iv y) (k : K (yb (ym_me s x y)) s) : zq_Ex X 187 0 [.ref 232, zq_vi x, zq_vi y] [] s (zq_rp zq_bo K) := zw_187 hx hy (ys_173 hx (by
  unfold ym_me at k
  refine yb_if (fun h => ?_) (fun h => ?_)
  · rw [h] at k; exact k
  · rw [h] at k
    have h1 := of_decide_eq_true h
    refine ⟨⟨by omega, by omega⟩, ?_⟩
    split
    · next h2 => rw [decide_eq_true h2] at k; exact k
    · next h2 => rw [decide_eq_false h2] at k; exact k))
end YS4
