/-! tokens that are read: they are nodes as nodes have to be; takePlain -/
def yp_C (T : Int → Int) : Prop := ∀ j, T j = 0 ∨ yp_isC (T j) = true
set_option maxRecDepth 100000 in
theorem yp_str_let {T : Int → Int} (hC : yp_C T) : ∀ (f : Nat) (k n : Int) (e : Int), 0 ≤ k → yp_str T f k n = e → 0 ≤ e → k < e ∧ (∀ F : Nat, e ≤ k + F → n + (yp_let T (e - 1) F k).length ≤ 12 ∧ ∀ c ∈ yp_let T (e - 1) F k, 32 ≤ c ∧ c ≤ 126)
  | 0, k, n, e, _, h, h0 => by
    have h : -1 = e := h
    omega
  | f + 1, k, n, e, k0, h, h0 => by
    unfold yp_str at h
    split at h
    · next c =>
      split at h
      · next c2 =>
        subst h
        refine ⟨by omega, fun F hF => ?_⟩
        have : yp_let T (k + 1 - 1) F k = [] := by
          cases F with
          | zero => rfl
          | succ F => exact if_neg (by omega)
        rw [this]
        exact ⟨by simpa using c2, fun c hc => by cases hc⟩
      · omega
    · next c =>
      split at h
      · omega
      · next c2 =>
        obtain ⟨r1, r2⟩ := yp_str_let hC f _ (n + 1) e (by split <;> omega) h h0
        have hk : k < e - 1 := by
          -- the string goes on behind this letter
          by_cases h92 : T k = 92
          · rw [if_pos h92] at r1; omega
          · rw [if_neg h92] at r1; omega
        refine ⟨by omega, fun F hF => ?_⟩
        cases F with
        | zero => omega
        | succ F =>
          have el : yp_let T (e - 1) (F + 1) k = if T k = 92 then T (k + 1) :: yp_let T (e - 1) F (k + 2) else T k :: yp_let T (e - 1) F (k + 1) := if_pos hk
          rw [el]
          by_cases h92 : T k = 92
          · rw [if_pos h92] at r2 ⊢
            obtain ⟨q1, q2⟩ := r2 F (by omega)
            refine ⟨by simp; omega, fun c hc => ?_⟩
            rcases List.mem_cons.mp hc with z | z
            · rw [z]
              have : ¬ (T k < 32 ∨ T k = 92 ∧ T (k + 1) ≠ 40 ∧ T (k + 1) ≠ 41 ∧ T (k + 1) ≠ 92) := c2
              omega
            · exact q2 c z
          · rw [if_neg h92] at r2 ⊢
            obtain ⟨q1, q2⟩ := r2 F (by omega)
            refine ⟨by simp; omega, fun c hc => ?_⟩
            rcases List.mem_cons.mp hc with z | z
            · rw [z]
              have h32 : ¬ T k < 32 := fun z => c2 (Or.inl z)
              rcases hC k with y | y
              · omega
              · have := of_decide_eq_true y
                omega
            · exact q2 c z
set_option maxRecDepth 100000 in
theorem yr_od1 {T : Int → Int} {p l : Int} (h : yp_od1 T p l = true) : 48 ≤ T p ∧ T p ≤ 57 ∧ l ≤ T p ∧ yp_wd T p = p + 1 := by
  have h1 := of_decide_eq_true h
  have h2 := of_decide_eq_true h1.1
  exact ⟨h2.1, h2.2, h1.2⟩
set_option maxRecDepth 100000 in
theorem yr_ref {T : Int → Int} {p : Int} (h : 0 ≤ yp_ref T p) : yp_od1 T p 49 = true ∧ yp_od1 T (yp_sk T (p + 1)) 48 = true ∧ T (yp_sk T (yp_sk T (p + 1) + 1)) = 82 ∧ yp_wd T (yp_sk T (yp_sk T (p + 1) + 1)) = yp_sk T (yp_sk T (p + 1) + 1) + 1 ∧ yp_ref T p = yp_sk T (yp_sk T (p + 1) + 1) + 1 := by
  unfold yp_ref at h ⊢
  split at h
  · omega
  next c1 =>
  split at h
  · omega
  next c2 =>
  split at h
  · next c3 => exact ⟨by simpa using c1, by simpa using c2, c3.1, c3.2, by rw [if_neg c1, if_neg c2, if_pos c3]⟩
  · omega
set_option maxRecDepth 100000 in
theorem yr_int {T : Int → Int} {p e : Int} (h : yp_isI T p e = true) : -1000000 < yp_num T p e ∧ yp_num T p e < 1000000 := by
  unfold yp_isI at h
  rw [Bool.and_eq_true] at h
  have h1 := of_decide_eq_true h.1
  have h2 := yp_val_6 h.2 (by omega)
  unfold yp_num
  by_cases c : T p = 45
  · have e1 : yp_from T p = p + 1 := if_pos c
    rw [e1] at h2
    rw [if_pos c]
    omega
  · have e1 : yp_from T p = p := if_neg c
    rw [e1] at h2
    rw [if_neg c]
    omega
set_option maxRecDepth 100000 in
theorem yr_nd_ok {T : Int → Int} (hC : yp_C T) {p k : Int} {key : List Int} (p0 : 0 ≤ p) (h : yp_kind T p = k) (h0 : 0 ≤ k) (hk : key = [] ∨ ye_nm key) : ye_ok (yr_nd T k p key) := by
  refine ⟨hk, ?_⟩
  rcases yr_kind h h0 with ⟨e, _⟩ | ⟨e, _⟩ | ⟨e, hn⟩ | ⟨e, _, hs⟩ | ⟨e, hr⟩ | ⟨e, _⟩ | ⟨e, _⟩ | ⟨e, _⟩ | ⟨e, hi⟩ <;> subst e
  · exact Or.inl (Or.inr (Or.inr (Or.inr (Or.inl rfl))))
  · exact Or.inl (Or.inr (Or.inr (Or.inr (Or.inr rfl))))
  · exact Or.inr (Or.inr (Or.inl ⟨rfl, (yr_name_ok hn).1⟩))
  · refine Or.inr (Or.inr (Or.inr (Or.inl ⟨rfl, ?_⟩)))
    obtain ⟨r1, r2⟩ := yp_str_let hC 2000 (p + 1) 0 (yp_se T p) (by omega) rfl hs
    obtain ⟨q1, q2⟩ := r2 (yp_se T p - p).toNat (by omega)
    exact ⟨by show (yp_let T (yp_se T p - 1) (yp_se T p - p).toNat (p + 1)).length ≤ 12; omega, q2⟩
  · obtain ⟨o1, o2, _⟩ := yr_ref hr
    have a1 := yr_od1 o1
    have a2 := yr_od1 o2
    refine Or.inr (Or.inr (Or.inr (Or.inr ⟨rfl, ?_⟩)))
    show (1 ≤ T p - 48 ∧ T p - 48 ≤ 9 ∧ 0 ≤ T (yp_sk T (p + 1)) - 48 ∧ T (yp_sk T (p + 1)) - 48 ≤ 9)
    omega
  · exact Or.inl (Or.inl rfl)
  · exact Or.inl (Or.inr (Or.inl rfl))
  · exact Or.inl (Or.inr (Or.inr (Or.inl rfl)))
  · exact Or.inr (Or.inl ⟨rfl, yr_int hi⟩)
section YTP
variable {X : Nat × (Nat → Int32)} {K : zq_S → Prop} {q p k : Int}
set_option maxRecDepth 100000 in
/-- takePlain: the node's token is made, the place is behind it -/
theorem ys_166 {s : zq_S} {l key : List Int} (hI : ym_I s) (hq : ym_q q) (hq3 : q ≠ 3) (hC : yp_C (ym_c s q)) (p0 : 0 ≤ p) (p1 : p ≤ 1000) (hk : yp_kind (ym_c s q) p = k) (k0 : 0 ≤ k) (k6 : k ≠ 6) (k7 : k ≠ 7) (hm : ymd s l) (hl : l.length + 100 ≤ 700) (kk : ∀ s', ymd s' (l ++ ye_op (yr_nd (ym_c s q) k p key)) → ymf [23, 25] [245] s s' → zq_i s' 232 25 = yr_end (ym_c s q) k p → K s') : zq_Ex X 166 0 [.ref 232, zq_vi q, zq_vi p, zq_vi k, zz_no, zz_no] [] s (zq_rv K) := by
  have hT := hI.T hq
  have hp : zq_iv p := ⟨by omega, by omega⟩
  have w1 := yp_wd_le (T := ym_c s q) p
  have w2 := yp_wd_lt hT p1
  -- the place is written last
  have fin : ∀ (e : Int) (s1 : zq_S), zq_iv e → e = yr_end (ym_c s q) k p → ymd s1 (l ++ ye_op (yr_nd (ym_c s q) k p key)) → ymf [23] [245] s s1 → K (zq_si s1 232 25 e) := fun e s1 he h1 m1 f1 => by
    refine kk _ ⟨?_, fun i hi => ?_⟩ ((f1.mono (by simp) (by simp)).trans (ymf.sf (by simp))) ?_
    · rw [zq_i_si, if_neg (by decide)]; exact m1.1
    · rw [zq_i_si, if_neg (by simp)]; exact m1.2 i hi
    · rw [zq_i_si, if_pos ⟨rfl, rfl⟩]; exact h1
  have kin : zq_iv k := by
    rcases yr_kind hk k0 with ⟨e, _⟩ | ⟨e, _⟩ | ⟨e, _⟩ | ⟨e, _⟩ | ⟨e, _⟩ | ⟨e, _⟩ | ⟨e, _⟩ | ⟨e, _⟩ | ⟨e, _⟩ <;> subst e <;> decide
  refine zw_166 hq.in hp kin ?_
  rcases yr_kind hk k0 with ⟨e, _⟩ | ⟨e, _⟩ | ⟨e, hn⟩ | ⟨e, h40, hs⟩ | ⟨e, hr⟩ | ⟨e, hw, hy⟩ | ⟨e, hw, hy⟩ | ⟨e, hw, hy, hy4⟩ | ⟨e, hi⟩
  · exact absurd e k6
  · exact absurd e k7
  · -- a name
    subst e
    rw [if_neg (by decide), if_pos rfl]
    have hn1 := of_decide_eq_true hn
    have p9 := yp_lt hT (k := p) (by omega)
    have n2 := yp_nm_lt hT (k := p) (by omega)
    refine ys_153 hI hq (by omega) (by omega) ?_
    rw [if_neg (by decide), if_neg (by decide), if_neg (by decide)]
    refine ys_157 hI hq hq3 (by omega) (by omega) (by omega) hm (by omega) (fun s1 m1 f1 => fin _ s1 ⟨by omega, by omega⟩ rfl ?_ f1)
    have eo : ye_op (yr_nd (ym_c s q) 4 p key) = yp_sub (ym_c s q) (yp_nm (ym_c s q) p - p).toNat p := by
      rw [show (yp_nm (ym_c s q) p - p).toNat = (yp_nm (ym_c s q) p - (p + 1)).toNat + 1 by omega]
      show 47 :: yp_sub (ym_c s q) (yp_nm (ym_c s q) p - (p + 1)).toNat (p + 1) = ym_c s q p :: _
      rw [hn1.1]
    rw [eo]
    exact m1
  · -- a string
    subst e
    rw [if_neg (by decide), if_neg (by decide), if_pos rfl]
    obtain ⟨r1, r2⟩ := yp_str_let hC 2000 (p + 1) 0 (yp_se (ym_c s q) p) (by omega) rfl hs
    have hse : yp_se (ym_c s q) p ≤ p + 30 := by
      -- at most twelve letters of at most two characters
      have : ∀ (f : Nat) (k n e : Int), yp_str (ym_c s q) f k n = e → 0 ≤ e → 0 ≤ n → e ≤ k + 2 * (12 - n) + 1 ∧ n ≤ 12 := by
        intro f
        induction f with
        | zero => intro k n e h h0; have h : -1 = e := h; omega
        | succ f ih =>
          intro k n e h h0 hn
          unfold yp_str at h
          split at h
          · split at h <;> omega
          · split at h
            · omega
            · have := ih _ _ e h h0 (by omega)
              split at this <;> omega
      have := this 2000 (p + 1) 0 (yp_se (ym_c s q) p) rfl hs (by omega)
      omega
    refine ys_160 hI hq (by omega) (by omega) ?_
    rw [if_neg (by decide), if_neg (by decide), if_pos rfl]
    refine ys_169 hI hq hq3 (by omega) (by omega) (by omega) hm (by omega) (fun s1 m1 f1 => fin _ s1 ⟨by omega, by omega⟩ rfl m1 f1)
  · -- a reference
    subst e
    rw [if_pos rfl]
    obtain ⟨o1, o2, o3, o4, o5⟩ := yr_ref hr
    have a1 := yr_od1 o1
    have a2 := yr_od1 o2
    have l1 := yp_od1_lt hT o1
    have b1 := yp_sk_le (T := ym_c s q) (p + 1)
    have b2 := yp_sk_lt hT (k := p + 1) (by omega)
    have r1 := yp_ref_in hT p1 p0
    refine ys_162 hI hq (by omega) (by omega) ?_
    rw [if_pos rfl]
    refine ys_146 hI hq (by omega) (by omega) (ys_147 hI hq hp (ys_150 ⟨by omega, by omega⟩ hm (by omega) (fun s1 m1 f1 => ys_150 ⟨by decide, by decide⟩ m1 (by simp; omega) (fun s2 m2 f2 => ?_))))
    have f12 := f1.trans f2
    have hm2 : zq_i s2 232 23 ≤ 700 := by rw [m2.1]; simp; omega
    have I2 := f12.I hI (by decide) (by decide) hm2
    have c2 := f12.c hq3 (by decide) (by decide)
    refine ys_147 I2 hq ⟨by omega, by omega⟩ ?_
    rw [c2]
    refine ys_150 ⟨by omega, by omega⟩ m2 (by simp; omega) (fun s3 m3 f3 => ys_150 ⟨by decide, by decide⟩ m3 (by simp; omega) (fun s4 m4 f4 => ys_150 ⟨by decide, by decide⟩ m4 (by simp; omega) (fun s5 m5 f5 => fin _ s5 ⟨by omega, by omega⟩ rfl ?_ (f12.trans (f3.trans (f4.trans f5))))))
    have eo : ye_op (yr_nd (ym_c s q) 8 p key) = [ym_c s q p, 32, ym_c s q (yp_sk (ym_c s q) (p + 1)), 32, 82] := by
      show [48 + (ym_c s q p - 48), 32, 48 + (ym_c s q (yp_sk (ym_c s q) (p + 1)) - 48), 32, 82] = _
      rw [show 48 + (ym_c s q p - 48) = ym_c s q p by omega, show 48 + (ym_c s q (yp_sk (ym_c s q) (p + 1)) - 48) = ym_c s q (yp_sk (ym_c s q) (p + 1)) by omega]
    rw [eo]
    simpa using m5
  · subst e
    rw [if_neg (by decide), if_neg (by decide), if_neg (by decide)]
    refine ys_161 hI hq (by omega) (by omega) ?_
    rw [if_neg (by decide), if_neg (by decide), if_neg (by decide)]
    refine ys_157 hI hq hq3 (by omega) (by omega) (by omega) hm (by omega) (fun s1 m1 f1 => fin _ s1 ⟨by omega, by omega⟩ rfl ?_ f1)
    obtain ⟨t0, t1, t2, t3⟩ := yr_word hy
    rw [hw, show (p + 4 - p).toNat = 4 by omega] at m1
    simp only [yp_sub, t0, t1, show p + 1 + 1 = p + 2 by omega, t2, show p + 2 + 1 = p + 3 by omega, t3] at m1
    exact m1
  · subst e
    rw [if_neg (by decide), if_neg (by decide), if_neg (by decide)]
    refine ys_161 hI hq (by omega) (by omega) ?_
    rw [if_neg (by decide), if_neg (by decide), if_neg (by decide)]
    refine ys_157 hI hq hq3 (by omega) (by omega) (by omega) hm (by omega) (fun s1 m1 f1 => fin _ s1 ⟨by omega, by omega⟩ rfl ?_ f1)
    obtain ⟨t0, t1, t2, t3⟩ := yr_word hy
    rw [hw, show (p + 4 - p).toNat = 4 by omega] at m1
    simp only [yp_sub, t0, t1, show p + 1 + 1 = p + 2 by omega, t2, show p + 2 + 1 = p + 3 by omega, t3] at m1
    exact m1
  · subst e
    rw [if_neg (by decide), if_neg (by decide), if_neg (by decide)]
    refine ys_161 hI hq (by omega) (by omega) ?_
    rw [if_neg (by decide), if_neg (by decide), if_neg (by decide)]
    refine ys_157 hI hq hq3 (by omega) (by omega) (by omega) hm (by omega) (fun s1 m1 f1 => fin _ s1 ⟨by omega, by omega⟩ rfl ?_ f1)
    obtain ⟨t0, t1, t2, t3⟩ := yr_word hy
    rw [hw, show (p + 5 - p).toNat = 5 by omega] at m1
    simp only [yp_sub, t0, t1, show p + 1 + 1 = p + 2 by omega, t2, show p + 2 + 1 = p + 3 by omega, t3, show p + 3 + 1 = p + 4 by omega, hy4] at m1
    exact m1
  · subst e
    rw [if_neg (by decide), if_neg (by decide), if_neg (by decide)]
    refine ys_161 hI hq (by omega) (by omega) ?_
    rw [if_neg (by decide), if_pos rfl]
    refine ys_167 hI hq (by omega) (by omega) w2 hi (ys_168 (yr_int hi) hm (by omega) (fun s1 m1 f1 => fin _ s1 ⟨by omega, by omega⟩ rfl m1 f1))
end YTP
