/-! what a node's text says: number, letters, parts; depth -/
set_option maxRecDepth 100000 in
theorem ye_num_val {T : Int → Int} {p v : Int} {r : List Int} (hv : -1000000 < v ∧ v < 1000000) (h : ye_at T p (ye_num v ++ r)) : yp_num T p (p + (ye_num v).length) = v := by
  obtain ⟨h1, _⟩ := ye_at_app.mp h
  have hl := ye_dec_len 5 v.natAbs
  unfold yp_num
  by_cases hn : v < 0
  · have en : ye_num v = 45 :: ye_dec 5 v.natAbs := by unfold ye_num; rw [if_pos hn]; rfl
    rw [en] at h1 ⊢
    obtain ⟨t0, a2⟩ := ye_at_cons.mp h1
    rw [if_pos t0, show (p + (((45 :: ye_dec 5 v.natAbs).length : Nat) : Int) - (p + 1)).toNat = (ye_dec 5 v.natAbs).length by simp only [List.length_cons]; omega, ye_val _ _ _ a2, ye_dec_lv]
    omega
  · have en : ye_num v = ye_dec 5 v.natAbs := by unfold ye_num; rw [if_neg hn]; rfl
    rw [en] at h1 ⊢
    have t0 : T p ≠ 45 := by
      cases hdec : ye_dec 5 v.natAbs with
      | nil => rw [hdec] at hl; simp at hl
      | cons c l =>
        have := of_decide_eq_true (ye_dec_dg 5 v.natAbs (by simp; omega) c (by rw [hdec]; simp))
        rw [hdec] at h1
        rw [ye_at_hd h1]
        omega
    rw [if_neg t0, show (p + (((ye_dec 5 v.natAbs).length : Nat) : Int) - p).toNat = (ye_dec 5 v.natAbs).length by omega, ye_val _ _ _ h1, ye_dec_lv]
    omega
set_option maxRecDepth 100000 in
theorem ye_cnt_le : ∀ (es : List ye_E) (n : Nat), ye_cnt es n ≤ es.length
  | [], _ => Nat.le_refl _
  | .inl d :: es, 0 => by
    have e : ye_cnt (.inl d :: es) 0 = 1 + ye_cnt es (if ye_nest d = true then 1 else 0) := rfl
    have := ye_cnt_le es (if ye_nest d = true then 1 else 0)
    rw [e, List.length_cons]
    omega
  | .inl d :: es, n + 1 => by
    have e : ye_cnt (.inl d :: es) (n + 1) = ye_cnt es (if ye_nest d = true then n + 2 else n + 1) := rfl
    have := ye_cnt_le es (if ye_nest d = true then n + 2 else n + 1)
    rw [e, List.length_cons]
    omega
  | .inr k :: es, 0 => Nat.zero_le _
  | .inr k :: es, n + 1 => by
    have e : ye_cnt (.inr k :: es) (n + 1) = ye_cnt es n := rfl
    have := ye_cnt_le es n
    rw [e, List.length_cons]
    omega
def ymx (x : Int) (ns : List (Int × ye_N)) : Int := ns.foldl (fun x q => if x < q.1 then q.1 else x) x
set_option maxRecDepth 100000 in
theorem ymx_dm : ∀ (es : List ye_E) (L M c : Int), ymx (M - 1 + c) (ye_nl (L + c) es) = (ye_dm (L, M) es).2 - 1 + c
  | [], _, _, _ => rfl
  | .inl d :: es, L, M, c => by
    have e1 : ye_nl (L + c) (.inl d :: es) = (L + c, d) :: ye_nl (if ye_nest d = true then L + c + 1 else L + c) es := rfl
    have e2 : ye_dm (L, M) (.inl d :: es) = ye_dm (if ye_nest d = true then L + 1 else L, if L + 1 ≤ M then M else L + 1) es := rfl
    have e3 : ∀ x ns, ymx x ((L + c, d) :: ns) = ymx (if x < L + c then L + c else x) ns := fun _ _ => rfl
    rw [e1, e2, e3, ← ymx_dm es]
    congr 1
    · split <;> split <;> omega
    · congr 1
      split <;> omega
  | .inr k :: es, L, M, c => by
    have e1 : ye_nl (L + c) (.inr k :: es) = ye_nl (L + c - 1) es := rfl
    have e2 : ye_dm (L, M) (.inr k :: es) = ye_dm (L - 1, M) es := rfl
    rw [e1, e2, ← ymx_dm es, show L + c - 1 = L - 1 + c by omega]
set_option maxRecDepth 100000 in
theorem ye_nl_b : ∀ (es : List ye_E) (l : Int), ∀ q ∈ ye_nl l es, l - es.length ≤ q.1 ∧ q.1 ≤ l + es.length
  | [], _, q, h => by cases h
  | .inl d :: es, l, q, h => by
    have h : q ∈ (l, d) :: ye_nl (if ye_nest d = true then l + 1 else l) es := h
    simp only [List.length_cons]
    rcases List.mem_cons.mp h with z | z
    · rw [z]
      show l - _ ≤ l ∧ l ≤ l + _
      omega
    · have := ye_nl_b es _ q z
      split at this <;> omega
  | .inr k :: es, l, q, h => by
    have h : q ∈ ye_nl (l - 1) es := h
    have := ye_nl_b es _ q h
    simp only [List.length_cons]
    omega
set_option maxRecDepth 100000 in
theorem ye_skip_app : ∀ {es R : List ye_E} {n : Nat}, ye_skip es n = some R → 1 ≤ n → ∃ B, es = B ++ R ∧ ∀ m : Int, (ye_dm ((n : Int), m) B).1 = 0
  | [], _, _, h, _ => by cases h
  | .inl d :: es, R, n, h, hn => by
    have h : ye_skip es (if ye_nest d = true then n + 1 else n) = some R := h
    obtain ⟨B, e1, e2⟩ := ye_skip_app h (by split <;> omega)
    refine ⟨.inl d :: B, by rw [e1]; rfl, fun m => ?_⟩
    have e : ye_dm ((n : Int), m) (.inl d :: B) = ye_dm (if ye_nest d = true then (n : Int) + 1 else n, if (n : Int) + 1 ≤ m then m else (n : Int) + 1) B := rfl
    rw [e, ← e2 (if (n : Int) + 1 ≤ m then m else (n : Int) + 1)]
    congr 2
    cases ye_nest d <;> simp
  | .inr k :: es, R, n, h, hn => by
    have h : (if n ≤ 1 then some es else ye_skip es (n - 1)) = some R := h
    by_cases h1 : n ≤ 1
    · rw [if_pos h1] at h
      cases h
      refine ⟨[.inr k], rfl, fun m => ?_⟩
      show (n : Int) - 1 = 0
      omega
    · rw [if_neg h1] at h
      obtain ⟨B, e1, e2⟩ := ye_skip_app h (by omega)
      refine ⟨.inr k :: B, by rw [e1]; rfl, fun m => ?_⟩
      have e : ye_dm ((n : Int), m) (.inr k :: B) = ye_dm ((n : Int) - 1, m) B := rfl
      rw [e, show (n : Int) - 1 = ((n - 1 : Nat) : Int) by omega]
      exact e2 m
set_option maxRecDepth 100000 in
theorem ye_rest_app {d : ye_N} {es R : List ye_E} (h : ye_rest d es = some R) : ∃ B, es = B ++ R ∧ ∀ m : Int, (ye_dm (if ye_nest d = true then 1 else 0, m) B).1 = 0 := by
  unfold ye_rest at h
  cases hn : ye_nest d with
  | true =>
    rw [hn] at h
    simp only [if_true] at h ⊢
    exact ye_skip_app h (by decide)
  | false =>
    rw [hn] at h
    simp only [Bool.false_eq_true, if_false] at h ⊢
    cases h
    exact ⟨[], rfl, fun m => rfl⟩
set_option maxRecDepth 100000 in
theorem ye_dm_shift : ∀ (es : List ye_E) (L M c m : Int), (ye_dm (L + c, M) es).1 = (ye_dm (L, m) es).1 + c
  | [], _, _, _, _ => rfl
  | .inl d :: es, L, M, c, m => by
    have e1 : ye_dm (L + c, M) (.inl d :: es) = ye_dm (if ye_nest d = true then L + c + 1 else L + c, if L + c + 1 ≤ M then M else L + c + 1) es := rfl
    have e2 : ye_dm (L, m) (.inl d :: es) = ye_dm (if ye_nest d = true then L + 1 else L, if L + 1 ≤ m then m else L + 1) es := rfl
    rw [e1, e2, ← ye_dm_shift es _ (if L + c + 1 ≤ M then M else L + c + 1), show (if ye_nest d = true then L + c + 1 else L + c) = (if ye_nest d = true then L + 1 else L) + c by split <;> omega]
  | .inr k :: es, L, M, c, m => by
    have e1 : ye_dm (L + c, M) (.inr k :: es) = ye_dm (L + c - 1, M) es := rfl
    have e2 : ye_dm (L, m) (.inr k :: es) = ye_dm (L - 1, m) es := rfl
    rw [e1, e2, ← ye_dm_shift es _ M, show L + c - 1 = L - 1 + c by omega]
section YLC0
variable {X : Nat × (Nat → Int32)}
set_option maxRecDepth 100000 in
theorem ys_229_22 {s : zq_S} {K : Int → zq_S → Prop} {q : Int} (hI : ym_I s) (hq : ym_q q) {e : Int} (he : e ≤ 1000) {r : List Int} : ∀ (l : List Int) (k c : Int), ye_at (ym_c s q) k (ye_esc l ++ r) → (∀ a ∈ l, 32 ≤ a ∧ a ≤ 126) → e = k + (ye_esc l).length → 0 ≤ k → 0 ≤ c → c ≤ 1000 → c + l.length ≤ 1000 → K (c + l.length) s → zq_Ex X 229 22 [.ref 232, zq_vi q, zq_vi c, zq_vi e, zq_vi k] [] s (zq_rp zq_iv K)
  | [], k, c, _, _, hek, k0, c0, c1, _, kk => by
    have hek : e = k := by simpa [ye_esc] using hek
    refine zw_229_22 hq.in ⟨by omega, by omega⟩ ⟨by omega, by omega⟩ ⟨by omega, by omega⟩ ?_
    rw [if_neg (by omega)]
    simpa using kk
  | a :: l, k, c, ha, hc, hek, k0, c0, c1, c2, kk => by
    rw [ye_esc_cons] at ha hek
    simp only [List.length_cons] at c2 kk
    have kk : K (c + 1 + l.length) s := by
      rw [show c + 1 + (l.length : Int) = c + ((l.length + 1 : Nat) : Int) by omega]
      exact kk
    have hc2 : ∀ b ∈ l, 32 ≤ b ∧ b ≤ 126 := fun b hb => hc b (by simp [hb])
    by_cases hx : a = 40 ∨ a = 41 ∨ a = 92
    · rw [if_pos hx] at ha hek
      have ha2 : ye_at (ym_c s q) k ([92, a] ++ (ye_esc l ++ r)) := by rw [← List.append_assoc]; exact ha
      obtain ⟨h1, h2⟩ := ye_at_app.mp ha2
      have t0 := ye_at_hd h1
      rw [List.length_append] at hek
      have l2 : ([92, a] : List Int).length = 2 := rfl
      rw [l2] at hek h2
      refine zw_229_22 hq.in ⟨by omega, by omega⟩ ⟨by omega, by omega⟩ ⟨by omega, by omega⟩ ?_
      rw [if_pos (by omega)]
      refine ys_147 hI hq ⟨by omega, by omega⟩ ?_
      rw [t0, if_pos rfl]
      exact ys_229_22 hI hq he l (k + 2) (c + 1) h2 hc2 (by omega) (by omega) (by omega) (by omega) (by omega) kk
    · rw [if_neg hx] at ha hek
      have ha2 : ye_at (ym_c s q) k ([a] ++ (ye_esc l ++ r)) := by rw [← List.append_assoc]; exact ha
      obtain ⟨h1, h2⟩ := ye_at_app.mp ha2
      have t0 := ye_at_hd h1
      rw [List.length_append] at hek
      have l2 : ([a] : List Int).length = 1 := rfl
      rw [l2] at hek h2
      refine zw_229_22 hq.in ⟨by omega, by omega⟩ ⟨by omega, by omega⟩ ⟨by omega, by omega⟩ ?_
      rw [if_pos (by omega)]
      refine ys_147 hI hq ⟨by omega, by omega⟩ ?_
      rw [t0, if_neg (by omega)]
      exact ys_229_22 hI hq he l (k + 1) (c + 1) h2 hc2 (by omega) (by omega) (by omega) (by omega) (by omega) kk
set_option maxRecDepth 100000 in
theorem ys_137_16 {s : zq_S} {K : Int → zq_S → Prop} {a : Nat} (ha : zq_o 4 a) {x1 e : Int} (x0 : 0 ≤ x1) (x12 : x1 < 12) (he : e ≤ 12) (hl0 : -1000 ≤ zq_i s (a + 2) x1) (hl1 : zq_i s (a + 2) x1 ≤ 1000) : ∀ (ns : List (Int × ye_N)) (x2 j : Int), yt_ns s a j ns → (∀ q ∈ ns, -1000 ≤ q.1 ∧ q.1 ≤ 1000) → -1000 ≤ x2 → x2 ≤ 1000 → 0 ≤ j → j + ns.length = e → K (ymx x2 ns - zq_i s (a + 2) x1 + 1) s → zq_Ex X 137 16 [.ref a, zq_vi x1, zq_vi x2, zq_vi e, zq_vi j] [] s (zq_rp zq_iv K)
  | [], x2, j, _, _, b0, b1, j0, hj, kk => by
    have hj : j = e := by simpa using hj
    refine zw_137_16 ha ⟨by omega, by omega⟩ ⟨by omega, by omega⟩ ⟨by omega, by omega⟩ ⟨by omega, by omega⟩ ?_
    rw [if_neg (by omega)]
    exact ⟨⟨x0, x12⟩, ⟨by omega, by omega⟩, kk⟩
  | (l, d) :: ns, x2, j, hns, hb, b0, b1, j0, hj, kk => by
    obtain ⟨h1, h2⟩ := yt_ns_cons.mp hns
    simp only [List.length_cons] at hj
    have hl := hb (l, d) (by simp)
    have hl : -1000 ≤ l ∧ l ≤ 1000 := hl
    refine zw_137_16 ha ⟨by omega, by omega⟩ ⟨by omega, by omega⟩ ⟨by omega, by omega⟩ ⟨by omega, by omega⟩ ?_
    rw [if_pos (by omega), h1.2.1]
    refine ⟨⟨by omega, by omega⟩, zw_138 ⟨by omega, by omega⟩ ⟨by omega, by omega⟩ ?_⟩
    have kk : K (ymx (if x2 < l then l else x2) ns - zq_i s (a + 2) x1 + 1) s := kk
    by_cases hlt : x2 < l
    · rw [if_pos hlt] at kk ⊢
      exact ys_137_16 ha x0 x12 he hl0 hl1 ns l (j + 1) h2 (fun q hq => hb q (List.mem_cons_of_mem _ hq)) hl.1 hl.2 (by omega) (by omega) kk
    · rw [if_neg hlt] at kk ⊢
      exact ys_137_16 ha x0 x12 he hl0 hl1 ns x2 (j + 1) h2 (fun q hq => hb q (List.mem_cons_of_mem _ hq)) b0 b1 (by omega) (by omega) kk
set_option maxRecDepth 100000 in
/-- depth -/
theorem ys_137 {s : zq_S} {K : Int → zq_S → Prop} {a : Nat} (ha : zq_o 4 a) {x l : Int} {d : ye_N} {es B R : List ye_E} (ht : yt_tr s a x l (.inl d :: es)) (l0 : 0 ≤ l) (l1 : l ≤ 100) (hl : es.length ≤ 40) (hr : ye_rest d es = some R) (hB : es = B ++ R) (hdm : ∀ m : Int, (ye_dm (if ye_nest d = true then 1 else 0, m) B).1 = 0) (k : K (ye_dm (0, 0) (.inl d :: B)).2 s) : zq_Ex X 137 0 [.ref a, zq_vi x, zz_no, zz_no, zz_no] [] s (zq_rp zq_iv K) := by
  obtain ⟨n1, n2, n3⟩ := ht.node
  have h12 := ht.2.2.2
  have hx0 := ht.2.2.1
  refine zw_137 ha ⟨by omega, by omega⟩ ⟨⟨by omega, by omega⟩, ys_17 ha ht hr ?_⟩
  rw [n1.2.1]
  have e1 : ye_nl l (.inl d :: es) = ye_nl l (.inl d :: B) ++ ye_nl l R := by
    have : (.inl d :: es : List ye_E) = (.inl d :: B) ++ R := by rw [hB]; rfl
    rw [this, ye_nl_app _ _ l 0]
    congr 2
    show (ye_dm (if ye_nest d = true then l + 1 else l, if l + 1 ≤ 0 then 0 else l + 1) B).1 = l
    have := ye_dm_shift B (if ye_nest d = true then 1 else 0) (if l + 1 ≤ 0 then 0 else l + 1) l 0
    rw [hdm 0] at this
    rw [show (if ye_nest d = true then l + 1 else l) = (if ye_nest d = true then 1 else 0) + l by split <;> omega, this]
    omega
  have hns := ht.2.1
  have hcnt := ht.1
  rw [e1] at hns
  rw [e1, List.length_append] at hcnt
  have hns1 : yt_ns s a x (ye_nl l (.inl d :: B)) := fun i l' d' hi => hns i l' d' (by
    rw [List.getElem?_append_left (List.getElem?_eq_some_iff.mp hi).1]
    exact hi)
  have hlB : B.length ≤ 40 := by rw [hB] at hl; simp at hl; omega
  refine ys_137_16 ha (e := zq_i s a 0 - (ye_nl l R).length) hx0 (by omega) (by omega) (by rw [n1.2.1]; omega) (by rw [n1.2.1]; omega) (ye_nl l (.inl d :: B)) l x hns1 (fun q hq => ?_) (by omega) (by omega) hx0 (by omega) ?_
  · have := ye_nl_b _ _ q hq
    simp only [List.length_cons] at this
    omega
  · rw [n1.2.1]
    have e2 : ymx l (ye_nl l (.inl d :: B)) = ymx l (ye_nl (if ye_nest d = true then l + 1 else l) B) := by
      show ymx (if l < l then l else l) _ = _
      rw [if_neg (by omega)]
    have e3 := ymx_dm B (if ye_nest d = true then 1 else 0) 1 l
    rw [show (1 : Int) - 1 + l = l by omega, show (if ye_nest d = true then (1 : Int) else 0) + l = (if ye_nest d = true then l + 1 else l) by split <;> omega] at e3
    have e4 : ye_dm (0, 0) (.inl d :: B) = ye_dm (if ye_nest d = true then 1 else 0, 1) B := by
      show ye_dm (if ye_nest d = true then (0 : Int) + 1 else 0, if (0 : Int) + 1 ≤ 0 then 0 else (0 : Int) + 1) B = _
      simp
    rw [e2, e3, ← e4, show (ye_dm (0, 0) (.inl d :: B)).2 - 1 + l - l + 1 = (ye_dm (0, 0) (.inl d :: B)).2 by omega]
    exact k
end YLC0
