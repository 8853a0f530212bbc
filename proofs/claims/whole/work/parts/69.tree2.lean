/-! Tree: countOfParts, part, partWithKey, depth -/
section YT1
variable {X : Nat × (Nat → Int32)} {s : zq_S} {K : Int → zq_S → Prop} {x l : Int} {a : Nat}
set_option maxRecDepth 100000 in
/-- where the nodes of a block end -/
theorem yt_cut {es R : List ye_E} {n : Nat} {j : Int} (ht : yt_tr s a j (l + 1 + n) es) (hs : ye_skip es (n + 1) = some R) : j ≤ zq_i s a 0 - (ye_nl l R).length ∧ zq_i s a 0 - (ye_nl l R).length ≤ zq_i s a 0 := by
  obtain ⟨B, b1, _, _⟩ := ye_nl_skip (l := l) hs (by omega)
  have h1 := ht.1
  rw [show l + 1 + (n : Int) = l + ((n + 1 : Nat) : Int) by omega, b1, List.length_append] at h1
  omega
set_option maxRecDepth 100000 in
theorem ys_136_13 (ha : zq_o 4 a) (h0 : 0 ≤ x) (h1 : x < zq_i s a 0) (hl : zq_i s (a + 2) x = l) (l0 : 0 ≤ l) (l1 : l ≤ 100) {e : Int} : ∀ (es R : List ye_E) (n : Nat) (j c : Int), ye_skip es (n + 1) = some R → e = zq_i s a 0 - (ye_nl l R).length → yt_tr s a j (l + 1 + n) es → x < j → 0 ≤ c → c ≤ j → K (c + ye_cnt es n) s → zq_Ex X 136 13 [.ref a, zq_vi x, zq_vi c, zq_vi e, zq_vi j] [] s (zq_rp zq_iv K) := by
  intro es
  induction es with
  | nil => intro R n j c hs; cases hs
  | cons ev es ih =>
    intro R n j c hs he ht hj hc0 hc1 k
    have hcut := yt_cut ht hs
    cases ev with
    | inl d =>
      obtain ⟨n1, n2, n3⟩ := ht.node
      have h12 := ht.2.2.2
      have hs : ye_skip es (if ye_nest d = true then n + 1 + 1 else n + 1) = some R := hs
      have ht2 : ∃ m : Nat, ye_skip es (m + 1) = some R ∧ yt_tr s a (j + 1) (l + 1 + m) es ∧ m = (if ye_nest d = true then n + 1 else n) := by
        cases hd : ye_nest d with
        | true => rw [hd] at hs n2; exact ⟨n + 1, hs, by rw [show l + 1 + ((n + 1 : Nat) : Int) = l + 1 + n + 1 by omega]; exact n2, rfl⟩
        | false => rw [hd] at hs n2; exact ⟨n, hs, n2, rfl⟩
      obtain ⟨m, m1, m2, m3⟩ := ht2
      have hcut2 := yt_cut m2 m1
      refine zw_136_13 ha ⟨by omega, by omega⟩ ⟨by omega, by omega⟩ ⟨by omega, by omega⟩ ⟨by omega, by omega⟩ ?_
      rw [if_pos (by omega)]
      refine ⟨⟨by omega, by omega⟩, ⟨by omega, by omega⟩, ⟨by omega, by omega⟩, ?_⟩
      rw [n1.2.1, hl]
      cases n with
      | zero =>
        rw [if_pos (by simp)]
        refine ih R m (j + 1) (c + 1) m1 he m2 (by omega) (by omega) (by omega) ?_
        have e2 : ye_cnt (.inl d :: es) 0 = 1 + ye_cnt es (if ye_nest d = true then 1 else 0) := rfl
        rw [e2] at k
        rw [m3]
        simp only [Nat.zero_add]
        rw [show c + 1 + (ye_cnt es (if ye_nest d = true then 1 else 0) : Int) = c + ((1 + ye_cnt es (if ye_nest d = true then 1 else 0) : Nat) : Int) by omega]
        exact k
      | succ n =>
        rw [if_neg (by omega)]
        refine ih R m (j + 1) c m1 he m2 (by omega) (by omega) (by omega) ?_
        rw [m3]
        exact k
    | inr kk =>
      have hs : (if n + 1 ≤ 1 then some es else ye_skip es (n + 1 - 1)) = some R := hs
      cases n with
      | zero =>
        rw [if_pos (by omega)] at hs
        cases hs
        have h3 : yt_tr s a j l es := by have := ht.close; rw [show l + 1 + ((0 : Nat) : Int) - 1 = l by omega] at this; exact this
        have hje : e = j := by have := h3.1; omega
        have h12 := ht.2.2.2
        refine zw_136_13 ha ⟨by omega, by omega⟩ ⟨by omega, by have := ht.2.2.2; omega⟩ ⟨by omega, by have := ht.2.2.2; omega⟩ ⟨by omega, by have := ht.2.2.2; omega⟩ ?_
        rw [if_neg (by omega)]
        have e2 : ye_cnt (.inr kk :: es) 0 = 0 := rfl
        rw [e2] at k
        simpa using k
      | succ n =>
        rw [if_neg (by omega)] at hs
        refine ih R n j c hs he ?_ hj hc0 hc1 k
        have := ht.close
        rw [show l + 1 + ((n + 1 : Nat) : Int) - 1 = l + 1 + n by omega] at this
        exact this
set_option maxRecDepth 100000 in
theorem ys_136 (ha : zq_o 4 a) {d : ye_N} {es R : List ye_E} (ht : yt_tr s a x l (.inl d :: es)) (l0 : 0 ≤ l) (l1 : l ≤ 100) (hn : ye_nest d = true) (hr : ye_rest d es = some R) (k : K (ye_cnt es 0) s) : zq_Ex X 136 0 [.ref a, zq_vi x, zz_no, zz_no, zz_no] [] s (zq_rp zq_iv K) := by
  obtain ⟨n1, n2, n3⟩ := ht.node
  have h12 := ht.2.2.2
  have hx0 := ht.2.2.1
  have hs : ye_skip es 1 = some R := by unfold ye_rest at hr; rw [hn] at hr; exact hr
  refine zw_136 ha ⟨by omega, by omega⟩ (ys_17 ha ht hr ?_)
  rw [hn] at n2
  refine ys_136_13 ha hx0 n3 n1.2.1 l0 l1 es R 0 (x + 1) 0 hs rfl ?_ (by omega) (by omega) (by omega) (by simpa using k)
  simpa using n2
set_option maxRecDepth 100000 in
theorem ys_133_14 (ha : zq_o 4 a) (h0 : 0 ≤ x) (h1 : x < zq_i s a 0) (hl : zq_i s (a + 2) x = l) (l0 : 0 ≤ l) (l1 : l ≤ 100) {e y : Int} (hy : zq_iv y) : ∀ (es R : List ye_E) (n : Nat) (j c : Int), ye_skip es (n + 1) = some R → e = zq_i s a 0 - (ye_nl l R).length → yt_tr s a j (l + 1 + n) es → x < j → 0 ≤ c → c ≤ j → (y < c → K (-1) s) → (∀ i : Nat, y = c + i → match ye_nth es n i with
    | none => K (-1) s
    | some (d', es') => ∀ k', yt_tr s a k' (l + 1) (.inl d' :: es') → x < k' → K k' s) → zq_Ex X 133 14 [.ref a, zq_vi x, zq_vi y, zq_vi c, zq_vi e, zq_vi j] [] s (zq_rp zq_iv K) := by
  intro es
  induction es with
  | nil => intro R n j c hs; cases hs
  | cons ev es ih =>
    intro R n j c hs he ht hj hc0 hc1 klt k
    have hcut := yt_cut ht hs
    cases ev with
    | inl d =>
      obtain ⟨n1, n2, n3⟩ := ht.node
      have h12 := ht.2.2.2
      have hs : ye_skip es (if ye_nest d = true then n + 1 + 1 else n + 1) = some R := hs
      have ht2 : ∃ m : Nat, ye_skip es (m + 1) = some R ∧ yt_tr s a (j + 1) (l + 1 + m) es ∧ m = (if ye_nest d = true then n + 1 else n) := by
        cases hd : ye_nest d with
        | true => rw [hd] at hs n2; exact ⟨n + 1, hs, by rw [show l + 1 + ((n + 1 : Nat) : Int) = l + 1 + n + 1 by omega]; exact n2, rfl⟩
        | false => rw [hd] at hs n2; exact ⟨n, hs, n2, rfl⟩
      obtain ⟨m, m1, m2, m3⟩ := ht2
      have hcut2 := yt_cut m2 m1
      refine zw_133_14 ha ⟨by omega, by omega⟩ hy ⟨by omega, by omega⟩ ⟨by omega, by omega⟩ ⟨by omega, by omega⟩ ?_
      rw [if_pos (by omega)]
      refine ⟨⟨by omega, by omega⟩, ⟨by omega, by omega⟩, ⟨by omega, by omega⟩, ?_⟩
      rw [n1.2.1, hl]
      cases n with
      | zero =>
        rw [if_pos (by simp)]
        split
        · next hcy =>
          have k0 := k 0 (by omega)
          have e0 : ye_nth (.inl d :: es) 0 0 = some (d, es) := rfl
          rw [e0] at k0
          refine k0 j ?_ hj
          simpa using ht
        · next hcy =>
          refine ih R m (j + 1) (c + 1) m1 he m2 (by omega) (by omega) (by omega) (fun h => klt (by omega)) (fun i hi => ?_)
          have ki := k (i + 1) (by omega)
          have e2 : ye_nth (.inl d :: es) 0 (i + 1) = ye_nth es (if ye_nest d = true then 1 else 0) i := rfl
          rw [e2] at ki
          rw [m3]
          exact ki
      | succ n =>
        rw [if_neg (by omega)]
        refine ih R m (j + 1) c m1 he m2 (by omega) (by omega) (by omega) klt (fun i hi => ?_)
        rw [m3]
        exact k i hi
    | inr kk =>
      have hs : (if n + 1 ≤ 1 then some es else ye_skip es (n + 1 - 1)) = some R := hs
      cases n with
      | zero =>
        rw [if_pos (by omega)] at hs
        cases hs
        have h3 : yt_tr s a j l es := by have := ht.close; rw [show l + 1 + ((0 : Nat) : Int) - 1 = l by omega] at this; exact this
        have hje : e = j := by have := h3.1; omega
        have h12 := ht.2.2.2
        refine zw_133_14 ha ⟨by omega, by omega⟩ hy ⟨by omega, by have := ht.2.2.2; omega⟩ ⟨by omega, by have := ht.2.2.2; omega⟩ ⟨by omega, by have := ht.2.2.2; omega⟩ ?_
        rw [if_neg (by omega)]
        by_cases hyc : y < c
        · exact klt hyc
        · exact k (y - c).toNat (by omega)
      | succ n =>
        rw [if_neg (by omega)] at hs
        refine ih R n j c hs he ?_ hj hc0 hc1 klt k
        have := ht.close
        rw [show l + 1 + ((n + 1 : Nat) : Int) - 1 = l + 1 + n by omega] at this
        exact this
set_option maxRecDepth 100000 in
/-- Tree.part -/
theorem ys_133 (ha : zq_o 4 a) {d : ye_N} {es R : List ye_E} {y : Int} (hy : zq_iv y) (ht : yt_tr s a x l (.inl d :: es)) (l0 : 0 ≤ l) (l1 : l ≤ 100) (hn : ye_nest d = true) (hr : ye_rest d es = some R) (klt : y < 0 → K (-1) s) (k : ∀ i : Nat, y = i → match ye_nth es 0 i with
    | none => K (-1) s
    | some (d', es') => ∀ k', yt_tr s a k' (l + 1) (.inl d' :: es') → x < k' → K k' s) : zq_Ex X 133 0 [.ref a, zq_vi x, zq_vi y, zz_no, zz_no, zz_no] [] s (zq_rp zq_iv K) := by
  obtain ⟨n1, n2, n3⟩ := ht.node
  have h12 := ht.2.2.2
  have hx0 := ht.2.2.1
  have hs : ye_skip es 1 = some R := by unfold ye_rest at hr; rw [hn] at hr; exact hr
  refine zw_133 ha ⟨by omega, by omega⟩ hy (ys_17 ha ht hr ?_)
  rw [hn] at n2
  refine ys_133_14 ha hx0 n3 n1.2.1 l0 l1 hy es R 0 (x + 1) 0 hs rfl ?_ (by omega) (by omega) (by omega) klt (fun i hi => k i (by omega))
  simpa using n2
set_option maxRecDepth 100000 in
theorem ys_55_12 (ha : zq_o 4 a) (h0 : 0 ≤ x) (h1 : x < zq_i s a 0) (hl : zq_i s (a + 2) x = l) (l0 : 0 ≤ l) (l1 : l ≤ 100) {e : Int} {y : Int64} {nm : List Int} : ∀ (es R : List ye_E) (n : Nat) (j : Int), ye_skip es (n + 1) = some R → e = zq_i s a 0 - (ye_nl l R).length → yt_tr s a j (l + 1 + n) es → x < j → (∀ d', Sum.inl d' ∈ es → (ye_pk d'.2.2.2.1 0 = y ↔ d'.2.2.2.1 = nm)) → (match ye_fk nm es n with
    | none => K (-1) s
    | some (d', es') => ∀ k', yt_tr s a k' (l + 1) (.inl d' :: es') → x < k' → K k' s) → zq_Ex X 55 12 [.ref a, zq_vi x, .long y, zz_no, zq_vi e, zq_vi j] [] s (zq_rp zq_iv K) := by
  intro es
  induction es with
  | nil => intro R n j hs; cases hs
  | cons ev es ih =>
    intro R n j hs he ht hj hpk k
    have hcut := yt_cut ht hs
    have hpk' : ∀ d', Sum.inl d' ∈ es → (ye_pk d'.2.2.2.1 0 = y ↔ d'.2.2.2.1 = nm) := fun d' hd' => hpk d' (List.mem_cons_of_mem _ hd')
    cases ev with
    | inl d =>
      obtain ⟨n1, n2, n3⟩ := ht.node
      have h12 := ht.2.2.2
      have hs : ye_skip es (if ye_nest d = true then n + 1 + 1 else n + 1) = some R := hs
      have ht2 : ∃ m : Nat, ye_skip es (m + 1) = some R ∧ yt_tr s a (j + 1) (l + 1 + m) es ∧ m = (if ye_nest d = true then n + 1 else n) := by
        cases hd : ye_nest d with
        | true => rw [hd] at hs n2; exact ⟨n + 1, hs, by rw [show l + 1 + ((n + 1 : Nat) : Int) = l + 1 + n + 1 by omega]; exact n2, rfl⟩
        | false => rw [hd] at hs n2; exact ⟨n, hs, n2, rfl⟩
      obtain ⟨m, m1, m2, m3⟩ := ht2
      have hcut2 := yt_cut m2 m1
      refine zw_55_12 ha ⟨by omega, by omega⟩ ⟨by omega, by omega⟩ ⟨by omega, by omega⟩ ?_
      rw [if_pos (by omega)]
      refine ⟨⟨by omega, by omega⟩, ⟨by omega, by omega⟩, ⟨by omega, by omega⟩, ?_⟩
      rw [n1.2.1, hl]
      cases n with
      | zero =>
        rw [if_pos (by simp)]
        refine ⟨⟨by omega, by omega⟩, ?_⟩
        have e2 : ye_fk nm (.inl d :: es) 0 = if d.2.2.2.1 = nm then some (d, es) else ye_fk nm es (if ye_nest d = true then 1 else 0) := rfl
        rw [e2] at k
        rw [n1.2.2.2.2.1]
        split
        · next hk =>
          rw [if_pos ((hpk d (by simp)).mp hk)] at k
          refine k j ?_ hj
          simpa using ht
        · next hk =>
          rw [if_neg (fun z => hk ((hpk d (by simp)).mpr z))] at k
          refine ih R m (j + 1) m1 he m2 (by omega) hpk' ?_
          rw [m3]
          exact k
      | succ n =>
        rw [if_neg (by omega)]
        refine ih R m (j + 1) m1 he m2 (by omega) hpk' ?_
        rw [m3]
        exact k
    | inr kk =>
      have hs : (if n + 1 ≤ 1 then some es else ye_skip es (n + 1 - 1)) = some R := hs
      cases n with
      | zero =>
        rw [if_pos (by omega)] at hs
        cases hs
        have h3 : yt_tr s a j l es := by have := ht.close; rw [show l + 1 + ((0 : Nat) : Int) - 1 = l by omega] at this; exact this
        have hje : e = j := by have := h3.1; omega
        have h12 := ht.2.2.2
        refine zw_55_12 ha ⟨by omega, by omega⟩ ⟨by omega, by have := ht.2.2.2; omega⟩ ⟨by omega, by have := ht.2.2.2; omega⟩ ?_
        rw [if_neg (by omega)]
        exact k
      | succ n =>
        rw [if_neg (by omega)] at hs
        refine ih R n j hs he ?_ hj hpk' k
        have := ht.close
        rw [show l + 1 + ((n + 1 : Nat) : Int) - 1 = l + 1 + n by omega] at this
        exact this
set_option maxRecDepth 100000 in
/-- Tree.partWithKey -/
theorem ys_55 (ha : zq_o 4 a) {d : ye_N} {es R : List ye_E} {y : Int64} {nm : List Int} (ht : yt_tr s a x l (.inl d :: es)) (l0 : 0 ≤ l) (l1 : l ≤ 100) (hn : ye_nest d = true) (hr : ye_rest d es = some R) (hpk : ∀ d', Sum.inl d' ∈ es → (ye_pk d'.2.2.2.1 0 = y ↔ d'.2.2.2.1 = nm)) (k : match ye_fk nm es 0 with
    | none => K (-1) s
    | some (d', es') => ∀ k', yt_tr s a k' (l + 1) (.inl d' :: es') → x < k' → K k' s) : zq_Ex X 55 0 [.ref a, zq_vi x, .long y, zz_no, zz_no, zz_no] [] s (zq_rp zq_iv K) := by
  obtain ⟨n1, n2, n3⟩ := ht.node
  have h12 := ht.2.2.2
  have hx0 := ht.2.2.1
  have hs : ye_skip es 1 = some R := by unfold ye_rest at hr; rw [hn] at hr; exact hr
  refine zw_55 ha ⟨by omega, by omega⟩ (ys_17 ha ht hr ?_)
  rw [hn] at n2
  refine ys_55_12 ha hx0 n3 n1.2.1 l0 l1 es R 0 (x + 1) hs rfl ?_ (by omega) hpk k
  simpa using n2
end YT1
