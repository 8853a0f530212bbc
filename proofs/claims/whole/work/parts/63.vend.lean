/-! the end of a value in a text: valueEnd -/
def yp_ve (T : Int → Int) : Nat → Int → Int → Option Int
  | 0, _, _ => none
  | f + 1, dp, k => if ¬ ((0 ≤ k ∧ k ≤ 999) ∧ -1000 ≤ dp ∧ dp ≤ 1000) then none else
    if T k = 40 then (if dp ≤ 0 then some (yp_se T k) else yp_ve T f dp (yp_se T k)) else
    if T k = 91 then (if dp + 1 ≤ 0 then some (k + 1) else yp_ve T f (dp + 1) (k + 1)) else
    if T k = 60 then (if dp + 1 ≤ 0 then some (k + 2) else yp_ve T f (dp + 1) (k + 2)) else
    if T k = 93 then (if dp + -1 ≤ 0 then some (k + 1) else yp_ve T f (dp + -1) (k + 1)) else
    if T k = 62 then (if dp + -1 ≤ 0 then some (k + 2) else yp_ve T f (dp + -1) (k + 2)) else
    if T k = 47 then (if dp ≤ 0 then some (yp_nm T k) else yp_ve T f dp (yp_nm T k)) else
    if T k = 32 then yp_ve T f dp (k + 1) else
    if yp_ref T k < 0 then (if dp ≤ 0 then some (yp_wd T k) else yp_ve T f dp (yp_wd T k)) else (if dp ≤ 0 then some (yp_ref T k) else yp_ve T f dp (yp_ref T k))
section YS5
variable {X : Nat × (Nat → Int32)} {s : zq_S} {K : Int → zq_S → Prop} {x q : Int}
set_option maxRecDepth 100000 in
theorem yp_str_in {T : Int → Int} : ∀ (f : Nat) (k n : Int), -1 ≤ k → yp_str T f k n ≤ k + 2 * f ∧ -1 ≤ yp_str T f k n
  | 0, k, n, h => by unfold yp_str; omega
  | f + 1, k, n, h => by
    unfold yp_str
    split
    · split <;> omega
    · split
      · omega
      · by_cases hc : T k = 92
        · rw [if_pos hc]
          have := yp_str_in (T := T) f (k + 2) (n + 1) (by omega)
          omega
        · rw [if_neg hc]
          have := yp_str_in (T := T) f (k + 1) (n + 1) (by omega)
          omega
set_option maxRecDepth 100000 in
theorem yp_ref_in {T : Int → Int} (hT : yp_T T) {k : Int} (h : k ≤ 1000) (h0 : 0 ≤ k) : -1 ≤ yp_ref T k ∧ yp_ref T k ≤ 1001 := by
  unfold yp_ref
  split
  · omega
  · next c1 =>
    have l1 := yp_od1_lt hT (k := k) (l := 49) (by simpa using c1)
    have b1 := yp_sk_le (T := T) (k + 1)
    split
    · omega
    · next c2 =>
      have l2 := yp_od1_lt hT (k := yp_sk T (k + 1)) (l := 48) (by simpa using c2)
      have c1 := yp_sk_le (T := T) (yp_sk T (k + 1) + 1)
      have c2 := yp_sk_lt hT (k := yp_sk T (k + 1) + 1) (by omega)
      split <;> omega
set_option maxRecDepth 100000 in
theorem ys_178_8 (hI : ym_I s) (hq : ym_q q) (hx : zq_iv x) : ∀ (f : Nat) (dp k : Int) (v6 v7 : Value) (e : Int), v6.category = 1 → v7.category = 1 → yp_ve (ym_c s q) f dp k = some e → -10000 ≤ e → e ≤ 10000 → K e s → zq_Ex X 178 8 [.ref 232, zq_vi q, zq_vi x, zq_vi dp, zq_vi k, zq_vi 1, v6, v7] [] s (zq_rp zq_iv K) := by
  have hT := hI.T hq
  intro f
  induction f with
  | zero => intro dp k v6 v7 e _ _ h; cases h
  | succ f ih =>
    intro dp k v6 v7 e c6 c7 h e0 e1 kk
    unfold yp_ve at h
    split at h
    · cases h
    · next hg =>
      have hg : (0 ≤ k ∧ k ≤ 999) ∧ -1000 ≤ dp ∧ dp ≤ 1000 := Decidable.of_not_not hg
      refine zq_have (fun hR => ?_)
      have hc := ym_ch hR q k
      have hk : zq_iv k := ⟨by omega, by omega⟩
      have hdp : zq_iv dp := ⟨by omega, by omega⟩
      have b1 : zq_bo 1 := Or.inr rfl
      have go : ∀ (dp' k' : Int) (v7' : Value), v7'.category = 1 → zq_iv dp' → zq_iv k' → (if dp' ≤ 0 then some k' else yp_ve (ym_c s q) f dp' k') = some e → zq_Ex X 178 165 [.ref 232, zq_vi q, zq_vi x, zq_vi dp', zq_vi k', zq_vi 1, zq_vi (ym_c s q k), v7'] [] s (zq_rp zq_iv K) := fun dp' k' v7' c7' hd' hk' he => by
        refine zw_178_165 hq.in hx hd' hk' b1 hc c7' ?_
        split
        · next hz =>
          rw [if_pos hz] at he
          cases he
          refine zw_178_8 hq.in hx hd' hk' (Or.inl rfl) rfl c7' ?_
          rw [if_pos rfl]
          exact kk
        · next hz =>
          rw [if_neg hz] at he
          exact ih dp' k' _ _ e rfl c7' he e0 e1 kk
      refine zw_178_8 hq.in hx hdp hk b1 c6 c7 ?_
      rw [if_neg (by decide)]
      refine ys_147 hI hq hk ?_
      split
      · next t =>
        rw [if_pos t] at h
        have := yp_str_in (T := ym_c s q) 2000 (k + 1) 0 (by omega)
        have h2 : -1 ≤ yp_se (ym_c s q) k ∧ yp_se (ym_c s q) k ≤ 10000 := by unfold yp_se; omega
        exact ys_160 hI hq (by omega) (by omega) (go dp _ _ c7 hdp ⟨by omega, by omega⟩ h)
      next t1 =>
      rw [if_neg t1] at h
      split
      · next t => rw [if_pos t] at h; exact go (dp + 1) (k + 1) _ c7 ⟨by omega, by omega⟩ ⟨by omega, by omega⟩ h
      next t2 =>
      rw [if_neg t2] at h
      split
      · next t => rw [if_pos t] at h; exact go (dp + 1) (k + 2) _ c7 ⟨by omega, by omega⟩ ⟨by omega, by omega⟩ h
      next t3 =>
      rw [if_neg t3] at h
      split
      · next t => rw [if_pos t] at h; exact go (dp + -1) (k + 1) _ c7 ⟨by omega, by omega⟩ ⟨by omega, by omega⟩ h
      next t4 =>
      rw [if_neg t4] at h
      split
      · next t => rw [if_pos t] at h; exact go (dp + -1) (k + 2) _ c7 ⟨by omega, by omega⟩ ⟨by omega, by omega⟩ h
      next t5 =>
      rw [if_neg t5] at h
      split
      · next t =>
        rw [if_pos t] at h
        have n1 := yp_nm_le (T := ym_c s q) k
        have n2 := yp_nm_lt hT (k := k) (by omega)
        exact ys_153 hI hq (by omega) (by omega) (go dp _ _ c7 hdp ⟨by omega, by omega⟩ h)
      next t6 =>
      rw [if_neg t6] at h
      split
      · next t => rw [if_pos t] at h; exact ih dp (k + 1) _ _ e rfl c7 h e0 e1 kk
      next t7 =>
      rw [if_neg t7] at h
      have r := yp_ref_in hT (k := k) (by omega) (by omega)
      refine ys_162 hI hq (by omega) (by omega) ?_
      split
      · next t =>
        rw [if_pos t] at h
        have n1 := yp_wd_le (T := ym_c s q) k
        have n2 := yp_wd_lt hT (k := k) (by omega)
        exact ys_161 hI hq (by omega) (by omega) (go dp _ _ rfl hdp ⟨by omega, by omega⟩ h)
      · next t =>
        rw [if_neg t] at h
        exact go dp _ _ rfl hdp ⟨by omega, by omega⟩ h
set_option maxRecDepth 100000 in
theorem ys_178 (hI : ym_I s) (hq : ym_q q) {e : Int} (h : yp_ve (ym_c s q) 200 0 x = some e) (hx : zq_iv x) (e0 : -10000 ≤ e) (e1 : e ≤ 10000) (k : K e s) : zq_Ex X 178 0 [.ref 232, zq_vi q, zq_vi x, zz_no, zz_no, zz_no, zz_no, zz_no] [] s (zq_rp zq_iv K) := zw_178 hq.in hx (ys_178_8 hI hq hx 200 0 x _ _ e rfl rfl h e0 e1 k)
end YS5
/-! the events: what is left behind a value -/
def ye_skip : List ye_E → Nat → Option (List ye_E)
  | [], _ => none
  | .inl d :: es, n => ye_skip es (if ye_nest d = true then n + 1 else n)
  | .inr _ :: es, n => if n ≤ 1 then some es else ye_skip es (n - 1)
/-- behind the value whose first node is d -/
def ye_rest (d : ye_N) (es : List ye_E) : Option (List ye_E) := if ye_nest d = true then ye_skip es 1 else some es
set_option maxRecDepth 100000 in
/-- one token -/
theorem ye_tok {T : Int → Int} (hT : yp_T T) {p : Int} {d : ye_N} {es : List ye_E} (hp : 0 ≤ p) (hd : ye_ok d) (ho : ye_oks es) (h : ye_at T p (ye_op d ++ (ye_pr (ye_nest d) es ++ [0]))) (f : Nat) (dp : Int) (d0 : -1000 ≤ dp) (d1 : dp ≤ 1000) : yp_ve T (f + 1) dp p = if ye_nest d = true then (if dp + 1 ≤ 0 then some (p + (ye_op d).length) else yp_ve T f (dp + 1) (p + (ye_op d).length)) else (if dp ≤ 0 then some (p + (ye_op d).length) else yp_ve T f dp (p + (ye_op d).length)) := by
  have hk := hd.kinds
  obtain ⟨c, l, e, c1, c2, c3, c4, c5, c6, c7, c8, c9, c10, c11⟩ := ye_op_hd hd
  have h0 : T p = c := by rw [e] at h; exact ye_at_hd h
  have hp9 : p < 1000 := yp_lt hT (by omega)
  conv => lhs; unfold yp_ve
  rw [if_neg (by omega), h0]
  by_cases k5 : d.1 = 5
  · obtain ⟨l1, l2⟩ := hd.k5 k5
    have eo : ye_op d = 40 :: (ye_esc d.2.2.2.2 ++ [41]) := by unfold ye_op; simp [k5]
    have hn : ye_nest d = false := decide_eq_false (by omega)
    rw [eo] at h
    simp only [List.cons_append, List.append_assoc, List.nil_append] at h
    have se := ye_strend l1 l2 h
    have el : p + 2 + (ye_esc d.2.2.2.2).length = p + (ye_op d).length := by rw [eo]; simp; omega
    rw [if_pos (c9.mpr k5), se, el, hn]
    simp
  rw [if_neg (fun z => k5 (c9.mp z))]
  by_cases k6 : d.1 = 6
  · have eo : ye_op d = [91] := by unfold ye_op; simp [k6]
    have hn : ye_nest d = true := decide_eq_true (Or.inl k6)
    rw [if_pos (c10.mpr k6), hn, eo]
    simp
  rw [if_neg (fun z => k6 (c10.mp z))]
  by_cases k7 : d.1 = 7
  · have eo : ye_op d = [60, 60] := by unfold ye_op; simp [k7]
    have hn : ye_nest d = true := decide_eq_true (Or.inr k7)
    rw [if_pos (c11.mpr k7), hn, eo]
    simp
  have hn : ye_nest d = false := decide_eq_false (by omega)
  rw [if_neg (fun z => k7 (c11.mp z)), if_neg c4, if_neg c5]
  by_cases k4 : d.1 = 4
  · have hl := hd.k4 k4
    have eo : ye_op d = 47 :: d.2.2.2.2 := by unfold ye_op; simp [k4]
    rw [eo, hn] at h
    obtain ⟨a1, a2⟩ := ye_at_app.mp h
    have ee : (p + ((47 :: d.2.2.2.2).length : Int)) = p + 1 + d.2.2.2.2.length := by simp; omega
    rw [ee] at a2
    obtain ⟨nm, _⟩ := ye_name hl h (ye_bd_nc ho a2)
    rw [if_pos (c8.mpr k4), nm, hn, eo, ee]
    simp
  rw [if_neg (fun z => k4 (c8.mp z)), if_neg c1]
  rw [hn] at h
  by_cases k8 : d.1 = 8
  · obtain ⟨n1, n2⟩ := hd.k8 k8
    have eo : ye_op d = [48 + d.2.1, 32, 48 + d.2.2.1, 32, 82] := by unfold ye_op; simp [k8]
    rw [eo] at h
    have r := ye_ref_end n1 n2 ho h
    rw [r, if_neg (by omega), hn, eo]
    simp
  by_cases k3 : d.1 = 3
  · have hv := hd.k3 k3
    have eo : ye_op d = ye_num d.2.1 := by unfold ye_op; simp [k3]
    rw [eo] at h
    have r := ye_num_ref hv ho h
    obtain ⟨w, _⟩ := ye_num_wd hv ho h
    rw [r, if_pos (by decide), w, hn, eo]
    simp
  have wl : (∀ x ∈ ye_op d, yp_wc x = true) ∧ (ye_op d).length < 2000 ∧ ¬ (49 ≤ c ∧ c ≤ 57) := by
    refine ⟨?_, ?_, fun z => by have := c7 (by omega); omega⟩
    · rcases (show d.1 = 0 ∨ d.1 = 1 ∨ d.1 = 2 by omega) with k | k | k <;> (unfold ye_op; simp [k]; decide)
    · rcases (show d.1 = 0 ∨ d.1 = 1 ∨ d.1 = 2 by omega) with k | k | k <;> (unfold ye_op; simp [k])
  have w := ye_word wl.2.1 wl.1 ho h
  rw [ye_ref_c (by rw [h0]; exact wl.2.2), if_pos (by decide), w, hn]
  simp
