/-! the class gives a part Length -/
set_option maxRecDepth 100000 in
theorem yNL_str : zq_str 10 = yNL := by decide +kernel
set_option maxRecDepth 100000 in
theorem yt_ns_app {s : zq_S} {a : Nat} : ∀ {A B : List (Int × ye_N)} {k : Int}, yt_ns s a k (A ++ B) ↔ yt_ns s a k A ∧ yt_ns s a (k + A.length) B
  | [], B, k => by
    simp only [List.nil_append, List.length_nil]
    rw [show k + ((0 : Nat) : Int) = k by omega]
    exact ⟨fun h => ⟨fun i l d hi => (by simp at hi), h⟩, fun h => h.2⟩
  | (l, d) :: A, B, k => by
    rw [List.cons_append, yt_ns_cons, yt_ns_cons, yt_ns_app (A := A), List.length_cons]
    rw [show k + 1 + (A.length : Int) = k + ((A.length + 1 : Nat) : Int) by omega]
    exact ⟨fun h => ⟨⟨h.1, h.2.1⟩, h.2.2⟩, fun h => ⟨h.1.1, h.1.2, h.2⟩⟩
set_option maxRecDepth 100000 in
/-- nodes whose rows are the same, here and there -/
theorem yt_ns_mv {s S : zq_S} {a : Nat} {ns : List (Int × ye_N)} {k k' : Int} (h : yt_ns s a k ns) (hl : ∀ q ∈ ns, (q.2.1 = 4 ∨ q.2.1 = 5) → q.2.2.2.2.2.length ≤ 12) (hm : ∀ i : Nat, i < ns.length → zq_i S (a + 1) (k' + i) = zq_i s (a + 1) (k + i) ∧ zq_i S (a + 2) (k' + i) = zq_i s (a + 2) (k + i) ∧ zq_i S (a + 3) (k' + i) = zq_i s (a + 3) (k + i) ∧ zq_i S (a + 4) (k' + i) = zq_i s (a + 4) (k + i) ∧ zq_l S (a + 5) (k' + i) = zq_l s (a + 5) (k + i) ∧ ∀ c : Nat, c < 12 → zq_i S (a + 6) (12 * (k' + i) + c) = zq_i s (a + 6) (12 * (k + i) + c)) : yt_ns S a k' ns := fun i l d hi => by
  have hlt := (List.getElem?_eq_some_iff.mp hi).1
  obtain ⟨m1, m2, m3, m4, m5, m6⟩ := hm i hlt
  obtain ⟨n1, n2, n3, n4, n5, n6⟩ := h i l d hi
  have h12 := hl (l, d) (List.mem_of_getElem? hi)
  refine ⟨m1.trans n1, m2.trans n2, m3.trans n3, fun z => m4.trans (n4 z), m5.trans n5, fun z c hc => ?_⟩
  have h12 : d.2.2.2.2.length ≤ 12 := h12 z
  rw [m6 c (by omega)]
  exact n6 z c hc
set_option maxRecDepth 100000 in
theorem ye_opn_dm : ∀ {B : List ye_E} {n m : Nat} (M : Int), ye_opn B n = some m → (ye_dm ((n : Int), M) B).1 = m
  | [], n, m, M, h => by
    have h : some n = some m := h
    cases h
    rfl
  | .inl d :: B, n, m, M, h => by
    have h : ye_opn B (if ye_nest d = true then n + 1 else n) = some m := h
    have e : ye_dm ((n : Int), M) (.inl d :: B) = ye_dm (if ye_nest d = true then (n : Int) + 1 else n, if (n : Int) + 1 ≤ M then M else (n : Int) + 1) B := rfl
    rw [e, ← ye_opn_dm (if (n : Int) + 1 ≤ M then M else (n : Int) + 1) h]
    congr 2
    cases ye_nest d <;> simp
  | .inr k :: B, n, m, M, h => by
    have h : (if n ≤ 1 then none else ye_opn B (n - 1)) = some m := h
    by_cases h1 : n ≤ 1
    · rw [if_pos h1] at h; cases h
    · rw [if_neg h1] at h
      have e : ye_dm ((n : Int), M) (.inr k :: B) = ye_dm ((n : Int) - 1, M) B := rfl
      rw [e, show (n : Int) - 1 = ((n - 1 : Nat) : Int) by omega]
      exact ye_opn_dm M h
set_option maxRecDepth 100000 in
theorem ye_nl_len12 : ∀ (es : List ye_E) (l : Int), ye_oks es → ∀ q ∈ ye_nl l es, (q.2.1 = 4 ∨ q.2.1 = 5) → q.2.2.2.2.2.length ≤ 12
  | [], _, _, q, hq, _ => by cases hq
  | .inl d :: es, l, ho, q, hq, h45 => by
    have hq : q ∈ (l, d) :: ye_nl (if ye_nest d = true then l + 1 else l) es := hq
    rcases List.mem_cons.mp hq with z | z
    · subst z
      have hd := ho.1 d (by simp)
      rcases h45 with h4 | h5
      · have := (hd.k4 h4).2.1
        show d.2.2.2.2.length ≤ 12
        omega
      · exact (hd.k5 h5).1
    · exact ye_nl_len12 es _ ho.tl q z h45
  | .inr k :: es, l, ho, q, hq, h45 => ye_nl_len12 es (l - 1) ho.tl q hq h45
set_option maxRecDepth 100000 in
theorem zq_i_cpl (s : zq_S) (b : Nat) (sp dp m : Int) : zq_i (zq_cpl s b sp dp m) = zq_i s := rfl
set_option maxRecDepth 100000 in
theorem zq_l_cpi (s : zq_S) (b : Nat) (sp dp m : Int) : zq_l (zq_cpi s b sp dp m) = zq_l s := rfl
set_option maxRecDepth 100000 in
theorem zq_i_cpn (s : zq_S) (b : Nat) (sp dp m : Int) (a : Nat) (j : Int) (h : a ≠ b) : zq_i (zq_cpi s b sp dp m) a j = zq_i s a j := by rw [zq_i_cpi, if_neg (fun z => h z.1)]
set_option maxRecDepth 100000 in
/-- rows behind removeParts -/
theorem zq_79_row (s : zq_S) (a : Nat) (k e : Int) (c : Nat) (hc : c = 1 ∨ c = 2 ∨ c = 3 ∨ c = 4) (j : Int) : zq_i (zq_79 s a k e) (a + c) j = if k + 1 ≤ j ∧ j < k + 1 + (zq_i s a 0 - e) then zq_i s (a + c) (e + (j - (k + 1))) else zq_i s (a + c) j := by
  unfold zq_79
  rw [zq_i_si, if_neg (fun z => by have := z.1; omega), zq_i_cpn _ _ _ _ _ _ _ (by omega), zq_i_cpl]
  by_cases hh : k + 1 ≤ j ∧ j < k + 1 + (zq_i s a 0 - e)
  · rw [if_pos hh]
    rcases hc with h | h | h | h
    · subst h
      rw [zq_i_cpn _ _ _ _ _ _ _ (by omega), zq_i_cpn _ _ _ _ _ _ _ (by omega), zq_i_cpn _ _ _ _ _ _ _ (by omega), zq_i_cpi, if_pos ⟨rfl, hh⟩]
    · subst h
      rw [zq_i_cpn _ _ _ _ _ _ _ (by omega), zq_i_cpn _ _ _ _ _ _ _ (by omega), zq_i_cpi, if_pos ⟨rfl, hh⟩, zq_i_cpn _ _ _ _ _ _ _ (by omega)]
    · subst h
      rw [zq_i_cpn _ _ _ _ _ _ _ (by omega), zq_i_cpi, if_pos ⟨rfl, hh⟩, zq_i_cpn _ _ _ _ _ _ _ (by omega), zq_i_cpn _ _ _ _ _ _ _ (by omega)]
    · subst h
      rw [zq_i_cpi, if_pos ⟨rfl, hh⟩, zq_i_cpn _ _ _ _ _ _ _ (by omega), zq_i_cpn _ _ _ _ _ _ _ (by omega), zq_i_cpn _ _ _ _ _ _ _ (by omega)]
  · rw [if_neg hh]
    rcases hc with h | h | h | h
    · subst h
      rw [zq_i_cpn _ _ _ _ _ _ _ (by omega), zq_i_cpn _ _ _ _ _ _ _ (by omega), zq_i_cpn _ _ _ _ _ _ _ (by omega), zq_i_cpi, if_neg (fun z => hh z.2)]
    · subst h
      rw [zq_i_cpn _ _ _ _ _ _ _ (by omega), zq_i_cpn _ _ _ _ _ _ _ (by omega), zq_i_cpi, if_neg (fun z => hh z.2), zq_i_cpn _ _ _ _ _ _ _ (by omega)]
    · subst h
      rw [zq_i_cpn _ _ _ _ _ _ _ (by omega), zq_i_cpi, if_neg (fun z => hh z.2), zq_i_cpn _ _ _ _ _ _ _ (by omega), zq_i_cpn _ _ _ _ _ _ _ (by omega)]
    · subst h
      rw [zq_i_cpi, if_neg (fun z => hh z.2), zq_i_cpn _ _ _ _ _ _ _ (by omega), zq_i_cpn _ _ _ _ _ _ _ (by omega), zq_i_cpn _ _ _ _ _ _ _ (by omega)]
set_option maxRecDepth 100000 in
theorem zq_79_low (s : zq_S) (a : Nat) (k e : Int) (b : Nat) (hb : b ∉ [a + 1, a + 2, a + 3, a + 4, a + 6]) (j : Int) : zq_i (zq_79 s a k e) b j = if b = a ∧ j = 0 then k + 1 + (zq_i s a 0 - e) else zq_i s b j := by
  simp at hb
  unfold zq_79
  rw [zq_i_si, zq_i_cpn _ _ _ _ _ _ _ hb.2.2.2.2, zq_i_cpl, zq_i_cpn _ _ _ _ _ _ _ hb.2.2.2.1, zq_i_cpn _ _ _ _ _ _ _ hb.2.2.1, zq_i_cpn _ _ _ _ _ _ _ hb.2.1, zq_i_cpn _ _ _ _ _ _ _ hb.1]
set_option maxRecDepth 100000 in
theorem zq_79_6 (s : zq_S) (a : Nat) (k e : Int) (j : Int) : zq_i (zq_79 s a k e) (a + 6) j = if (k + 1) * 12 ≤ j ∧ j < (k + 1) * 12 + (zq_i s a 0 - e) * 12 then zq_i s (a + 6) (e * 12 + (j - (k + 1) * 12)) else zq_i s (a + 6) j := by
  have low : ∀ j, zq_i (zq_cpl (zq_cpi (zq_cpi (zq_cpi (zq_cpi s (a + 1) e (k + 1) (zq_i s a 0 - e)) (a + 2) e (k + 1) (zq_i s a 0 - e)) (a + 3) e (k + 1) (zq_i s a 0 - e)) (a + 4) e (k + 1) (zq_i s a 0 - e)) (a + 5) e (k + 1) (zq_i s a 0 - e)) (a + 6) j = zq_i s (a + 6) j := fun j => by
    rw [zq_i_cpl, zq_i_cpi, if_neg (fun z => by have := z.1; omega), zq_i_cpi, if_neg (fun z => by have := z.1; omega), zq_i_cpi, if_neg (fun z => by have := z.1; omega), zq_i_cpi, if_neg (fun z => by have := z.1; omega)]
  unfold zq_79
  rw [zq_i_si, if_neg (fun z => by have := z.1; omega), zq_i_cpi, low, low]
  by_cases hh : (k + 1) * 12 ≤ j ∧ j < (k + 1) * 12 + (zq_i s a 0 - e) * 12
  · rw [if_pos ⟨rfl, hh⟩, if_pos hh]
  · rw [if_neg (fun z => hh z.2), if_neg hh]
set_option maxRecDepth 100000 in
theorem zq_79_l (s : zq_S) (a : Nat) (k e : Int) (b : Nat) (j : Int) : zq_l (zq_79 s a k e) b j = if b = a + 5 ∧ k + 1 ≤ j ∧ j < k + 1 + (zq_i s a 0 - e) then zq_l s (a + 5) (e + (j - (k + 1))) else zq_l s b j := by
  unfold zq_79
  rw [zq_l_si, zq_l_cpi, zq_l_cpl, zq_l_cpi, zq_l_cpi, zq_l_cpi, zq_l_cpi]
set_option maxRecDepth 100000 in
/-- a node becomes a number, and what stood in it is gone -/
theorem yt_79 {s : zq_S} {a : Nat} {A C Rn : List (Int × ye_N)} {e n : Int} {nd : ye_N} {l : Int} (hA : yt_ns s a 0 A) (hlA : ∀ q ∈ A, (q.2.1 = 4 ∨ q.2.1 = 5) → q.2.2.2.2.2.length ≤ 12) (hlR : ∀ q ∈ Rn, (q.2.1 = 4 ∨ q.2.1 = 5) → q.2.2.2.2.2.length ≤ 12) (hR : yt_ns s a e Rn) (he : (A.length : Int) + 1 ≤ e) (hc : zq_i s a 0 = e + Rn.length) (hlev : zq_i s (a + 2) A.length = l) (hkey : zq_l s (a + 5) A.length = ye_pk nd.2.2.2.1 0) (hk : nd.1 = 3) (hnu : nd.2.1 = n) : yt_ns (zq_si (zq_si (zq_79 s a A.length e) (a + 1) A.length 3) (a + 3) A.length n) a 0 (A ++ (l, nd) :: Rn) ∧ zq_i (zq_si (zq_si (zq_79 s a A.length e) (a + 1) A.length 3) (a + 3) A.length n) a 0 = (A.length : Int) + 1 + Rn.length := by
  obtain ⟨S, hS⟩ : ∃ S, S = zq_si (zq_si (zq_79 s a A.length e) (a + 1) A.length 3) (a + 3) A.length n := ⟨_, rfl⟩
  rw [← hS]
  have r1 : ∀ j : Int, j ≠ A.length → zq_i S (a + 1) j = zq_i (zq_79 s a A.length e) (a + 1) j := fun j hj => by
    rw [hS, zq_i_si, if_neg (fun z => by have := z.1; omega), zq_i_si, if_neg (fun z => hj z.2)]
  have r2 : ∀ j : Int, zq_i S (a + 2) j = zq_i (zq_79 s a A.length e) (a + 2) j := fun j => by
    rw [hS, zq_i_si, if_neg (fun z => by have := z.1; omega), zq_i_si, if_neg (fun z => by have := z.1; omega)]
  have r3 : ∀ j : Int, j ≠ A.length → zq_i S (a + 3) j = zq_i (zq_79 s a A.length e) (a + 3) j := fun j hj => by
    rw [hS, zq_i_si, if_neg (fun z => hj z.2), zq_i_si, if_neg (fun z => by have := z.1; omega)]
  have r4 : ∀ j : Int, zq_i S (a + 4) j = zq_i (zq_79 s a A.length e) (a + 4) j := fun j => by
    rw [hS, zq_i_si, if_neg (fun z => by have := z.1; omega), zq_i_si, if_neg (fun z => by have := z.1; omega)]
  have r6 : ∀ j : Int, zq_i S (a + 6) j = zq_i (zq_79 s a A.length e) (a + 6) j := fun j => by
    rw [hS, zq_i_si, if_neg (fun z => by have := z.1; omega), zq_i_si, if_neg (fun z => by have := z.1; omega)]
  have rl : ∀ j : Int, zq_l S (a + 5) j = zq_l (zq_79 s a A.length e) (a + 5) j := fun j => by rw [hS, zq_l_si, zq_l_si]
  have r0 : zq_i S a 0 = (A.length : Int) + 1 + Rn.length := by
    rw [hS, zq_i_si, if_neg (fun z => by have := z.1; omega), zq_i_si, if_neg (fun z => by have := z.1; omega), zq_79_low _ _ _ _ _ (by simp), if_pos ⟨rfl, rfl⟩]
    omega
  refine ⟨yt_ns_app.mpr ⟨yt_ns_mv hA hlA (fun i hi => ?_), yt_ns_cons.mpr ⟨?_, yt_ns_mv hR hlR (fun i hi => ?_)⟩⟩, r0⟩
  · refine ⟨?_, ?_, ?_, ?_, ?_, fun c hc => ?_⟩
    · rw [r1 _ (by omega), zq_79_row _ _ _ _ 1 (by omega), if_neg (by omega)]
    · rw [r2, zq_79_row _ _ _ _ 2 (by omega), if_neg (by omega)]
    · rw [r3 _ (by omega), zq_79_row _ _ _ _ 3 (by omega), if_neg (by omega)]
    · rw [r4, zq_79_row _ _ _ _ 4 (by omega), if_neg (by omega)]
    · rw [rl, zq_79_l, if_neg (by omega)]
    · rw [r6, zq_79_6, if_neg (by omega)]
  · refine ⟨?_, ?_, ?_, fun z => ?_, ?_, fun z => ?_⟩
    · rw [show (0 : Int) + (A.length : Int) = A.length by omega, hS, zq_i_si, if_neg (fun z => by have := z.1; omega), zq_i_at, hk]
    · rw [show (0 : Int) + (A.length : Int) = A.length by omega, r2, zq_79_row _ _ _ _ 2 (by omega), if_neg (by omega)]
      exact hlev
    · rw [show (0 : Int) + (A.length : Int) = A.length by omega, hS, zq_i_at]
      unfold ye_nu
      rw [if_neg (by omega), if_pos (by omega), hnu]
    · omega
    · rw [show (0 : Int) + (A.length : Int) = A.length by omega, rl, zq_79_l, if_neg (by omega)]
      exact hkey
    · omega
  · refine ⟨?_, ?_, ?_, ?_, ?_, fun c hc2 => ?_⟩
    · rw [r1 _ (by omega), zq_79_row _ _ _ _ 1 (by omega), if_pos (by omega)]
      congr 1
      omega
    · rw [r2, zq_79_row _ _ _ _ 2 (by omega), if_pos (by omega)]
      congr 1
      omega
    · rw [r3 _ (by omega), zq_79_row _ _ _ _ 3 (by omega), if_pos (by omega)]
      congr 1
      omega
    · rw [r4, zq_79_row _ _ _ _ 4 (by omega), if_pos (by omega)]
      congr 1
      omega
    · rw [rl, zq_79_l, if_pos ⟨rfl, by omega, by omega⟩]
      congr 1
      omega
    · rw [r6, zq_79_6, if_pos (by omega)]
      congr 1
      omega
set_option maxRecDepth 100000 in
theorem ycf_79 {s : zq_S} {a : Nat} {k e x y j : Int} : ycf (yc_t7 a) s (zq_si (zq_si (zq_79 s a k e) (a + 1) j x) (a + 3) j y) := by
  refine ⟨fun b hb => ⟨?_, ?_⟩, rfl, rfl, rfl⟩
  · funext i
    simp at hb
    rw [zq_i_si, if_neg (fun z => by have := z.1; omega), zq_i_si, if_neg (fun z => by have := z.1; omega), zq_79_low _ _ _ _ _ (by simp; omega), if_neg (fun z => hb.1 z.1)]
  · funext i
    simp at hb
    rw [zq_l_si, zq_l_si, zq_79_l, if_neg (fun z => by have := z.1; omega)]
section YLD0
variable {X : Nat × (Nat → Int32)}
set_option maxRecDepth 100000 in
theorem ys_75L {s : zq_S} {K : Int64 → zq_S → Prop} (k : K (ye_pk yNL 0) s) : zq_Ex X 75 0 [.ref (1000000 + 10), zz_no, zz_no, zz_no] [] s (zq_rl K) := by
  have e := yNL_str
  have l6 : (zq_str 10).length = 6 := by rw [e]; rfl
  have step : ∀ (i : Nat) (y : Int64), i < 6 → zq_Ex X 75 4 [.ref (1000000 + 10), .long (y ||| ((Int32.ofInt (yNL.getD i 0)).toInt64 <<< ((Int32.ofInt (8 * (i : Int))).toInt64 &&& 63))), zz_no, zq_vi ((i + 1 : Nat) : Int)] [] s (zq_rl K) → zq_Ex X 75 4 [.ref (1000000 + 10), .long y, zz_no, zq_vi (i : Int)] [] s (zq_rl K) := fun i y hi h => by
    refine zw_75_4 (j0 := 10) (by decide) (by rw [l6]; decide) ⟨by omega, by omega⟩ ?_
    rw [l6, if_pos (by omega), e]
    refine ⟨⟨by omega, by omega⟩, ?_⟩
    rw [show ((i : Int)).toNat = i by omega, show (i : Int) + 1 = ((i + 1 : Nat) : Int) by omega]
    exact h
  have fin : ∀ y : Int64, y = ye_pk yNL 0 → zq_Ex X 75 4 [.ref (1000000 + 10), .long y, zz_no, zq_vi ((6 : Nat) : Int)] [] s (zq_rl K) := fun y hy => by
    refine zw_75_4 (j0 := 10) (by decide) (by rw [l6]; decide) ⟨by decide, by decide⟩ ?_
    rw [l6, if_neg (by omega), hy]
    exact k
  refine zw_75 (j0 := 10) (by decide) (by rw [l6]; decide) ?_
  exact step 0 0 (by decide) (step 1 _ (by decide) (step 2 _ (by decide) (step 3 _ (by decide) (step 4 _ (by decide) (step 5 _ (by decide) (fin _ (by decide +kernel)))))))
set_option maxRecDepth 100000 in
theorem ys_74 {s : zq_S} {K : Int → zq_S → Prop} {a : Nat} (ha : zq_o 4 a) {d : ye_N} {es R : List ye_E} (ht : yt_tr s a 0 0 (.inl d :: es)) (hn : ye_nest d = true) (ho : ye_oks es) (hr : ye_rest d es = some R) (kn : ye_fk yNL es 0 = none → K (-1) s) (ks : ∀ d' es', ye_fk yNL es 0 = some (d', es') → ∀ k', yt_tr s a k' 1 (.inl d' :: es') → 0 < k' → K k' s) : zq_Ex X 74 0 [.ref a] [] s (zq_rp zq_iv K) := by
  refine zw_74 ha (ys_75L ?_)
  refine ys_55 (nm := yNL) ha ht (by decide) (by decide) hn hr (fun d' hd' => yk_key (ho.1 d' hd') ⟨by decide, by decide, by decide⟩) ?_
  cases hf : ye_fk yNL es 0 with
  | none => exact kn hf
  | some r =>
    obtain ⟨d', es'⟩ := r
    intro k' hk' hlt
    exact ks d' es' hf k' hk' hlt
set_option maxRecDepth 100000 in
theorem ys_73 {s : zq_S} {K : Int → zq_S → Prop} {a : Nat} (ha : zq_o 4 a) {d : ye_N} {es R : List ye_E} (ht : yt_tr s a 0 0 (.inl d :: es)) (ho : ye_oks es) (hr : ye_rest d es = some R) (k : K (yb (decide (d.1 = 7 ∧ (zq_i s a 0 < 12 ∨ ye_fk yNL es 0 ≠ none)))) s) : zq_Ex X 73 0 [.ref a] [] s (zq_rp zq_bo K) := by
  obtain ⟨n1, n2, n3⟩ := ht.node
  refine zw_73 ha (ys_48n (d := d.1) ha ht.2.2.2 (by decide) n3 n1.1 ?_)
  refine yl_if (fun h7 => yl_if (fun hc => ?_) (fun hc => ?_)) (fun h7 => ?_)
  · rw [decide_eq_true ⟨h7, Or.inl hc⟩] at k
    exact k
  · refine ys_74 ha ht (decide_eq_true (Or.inr h7)) ho hr (fun hf => ?_) (fun d' es' hf k' hk' hlt => ?_)
    · rw [if_pos rfl]
      rw [decide_eq_false (fun z => z.2.elim hc (fun y => y hf))] at k
      exact k
    · rw [if_neg (by omega)]
      rw [decide_eq_true ⟨h7, Or.inr (by rw [hf]; simp)⟩] at k
      exact k
  · rw [decide_eq_false (fun z => h7 z.1)] at k
    exact k
set_option maxRecDepth 100000 in
theorem ys_78 {s : zq_S} {K : zq_S → Prop} {a : Nat} (ha : zq_o 4 a) {n : Int} (n0 : 0 ≤ n) (n1 : n ≤ 12) {d : ye_N} {es : List ye_E} (ht : yt_tr s a 0 0 (.inl d :: es)) (h7 : d.1 = 7) (ho : ye_oks es) (hr : ye_rest d es = some []) (hwf : ye_wf [] (.inl d :: es))
    (k8 : ∀ d' es', ye_fk yNL es 0 = some (d', es') → d'.1 = 8 → K s)
    (kr : ∀ d' es' mid R s', ye_fk yNL es 0 = some (d', es') → d'.1 ≠ 8 → es = mid ++ .inl d' :: es' → ye_opn mid 1 = some 1 → ye_rest d' es' = some R → yt_tr s' a 0 0 (.inl d :: (mid ++ .inl (yln n) :: R)) → ycf (yc_t7 a) s s' → K s')
    (kn : ∀ B s', ye_fk yNL es 0 = none → es = B ++ [.inr 7] → ye_opn B 1 = some 1 → yt_tr s' a 0 0 (.inl d :: (B ++ [.inl (yln n), .inr 7])) → ycf (yc_t7 a) s s' → K s')
    (hroom : ye_fk yNL es 0 = none → zq_i s a 0 < 12) : zq_Ex X 78 0 [.ref a, zq_vi n, zz_no] [] s (zq_rv K) := by
  have hn : ye_nest d = true := decide_eq_true (Or.inr h7)
  have h12 := ht.2.2.2
  have o12 : ye_oks (.inl d :: es) := hwf.oks
  have hnl : ∀ (mid Y : List ye_E), ye_opn mid 1 = some 1 → ye_nl 0 (.inl d :: (mid ++ Y)) = ye_nl 0 (.inl d :: mid) ++ ye_nl 1 Y := fun mid Y ho => by
    have e : (.inl d :: (mid ++ Y) : List ye_E) = (.inl d :: mid) ++ Y := rfl
    rw [e, ye_nl_app _ _ 0 0]
    congr 2
    show (ye_dm (if ye_nest d = true then (0 : Int) + 1 else 0, if (0 : Int) + 1 ≤ 0 then 0 else (0 : Int) + 1) mid).1 = 1
    rw [if_pos hn]
    exact ye_opn_dm _ ho
  refine zw_78 ha ⟨by omega, by omega⟩ (ys_74 ha ht hn ho hr (fun hf => ?_) (fun d' es' hf k' hk' hlt => ?_))
  · refine ys_48 ha h12 ⟨by decide, by decide⟩ ?_
    have em : (if (0 : Int) ≤ -1 ∧ (-1 : Int) < zq_i s a 0 then zq_i s (a + 1) (-1) else -1) = -1 := if_neg (fun z => absurd z.1 (by decide))
    rw [em, if_neg (by decide), if_pos rfl]
    have hroom := hroom hf
    have hc0 : 0 ≤ zq_i s a 0 := by have := ht.1; omega
    refine ys_75L (ys_10 ha ⟨by decide, by decide⟩ ⟨by decide, by decide⟩ rfl hc0 hroom (fun s' hnew hold hfr => ?_))
    obtain ⟨w1, w2, w3, w4, w5, w6⟩ := hnew
    have htn : yt_tr s' a (zq_i s a 0) 1 [.inl (yln 0), .inr 7] := by
      refine ⟨w1, ?_, hc0, by omega⟩
      show yt_ns s' a (zq_i s a 0) [(1, yln 0)]
      refine yt_ns_cons.mpr ⟨⟨w2, w3, w4, fun z => (by cases z), w6, fun z => ?_⟩, fun i l d hi => (by simp at hi)⟩
      rcases z with y | y <;> cases y
    refine zw_79 ha ⟨by omega, by omega⟩ (ys_17 ha htn (R := [.inr 7]) rfl ?_)
    have e0 : zq_i s' a 0 - ((ye_nl 1 [.inr 7]).length : Int) = zq_i s a 0 + 1 := by
      rw [w1]
      show zq_i s a 0 + 1 - ((0 : Nat) : Int) = _
      omega
    rw [e0]
    refine ⟨⟨by omega, by omega, by omega, by omega, by omega⟩, ⟨by omega, by omega⟩, ⟨by omega, by omega⟩, ?_⟩
    have hskip : ye_skip es 1 = some [] := by
      unfold ye_rest at hr
      rw [if_pos hn] at hr
      exact hr
    obtain ⟨B, c, e1, e2⟩ := ye_skip_opn hskip (by decide)
    have hc7 : c = 7 := by
      obtain ⟨x1, x2, x3⟩ := hwf
      rw [if_pos hn, h7, e1] at x3
      obtain ⟨st', s1, _, _, s4⟩ := ye_wf_split x3
      cases st' with
      | nil => cases s1
      | cons k0 st' =>
        obtain ⟨z1, z2, z3⟩ := s1
        have z3 : st' = [] := z3
        subst z3
        have hlen := ye_opn_dm 0 e2
        -- the kind that is open is the root's
        have gen : ∀ (B : List ye_E) (st st' : List Int) (n m : Nat) (u : Int), ye_wfp (st ++ [u]) B st' → ye_opn B n = some m → st.length + 1 = n → ∃ st2, st' = st2 ++ [u] := by
          intro B
          induction B with
          | nil =>
            intro st st' n m u h _ _
            have h : st ++ [u] = st' := h
            exact ⟨st, h.symm⟩
          | cons b B ih =>
            intro st st' n m u h ho hl
            cases b with
            | inl d2 =>
              have ho : ye_opn B (if ye_nest d2 = true then n + 1 else n) = some m := ho
              have h := h.2.2
              cases hd : ye_nest d2 with
              | true =>
                rw [hd] at h ho
                rw [if_pos rfl] at h ho
                exact ih (d2.1 :: st) st' (n + 1) m u h ho (by simp; omega)
              | false =>
                rw [hd] at h ho
                rw [if_neg (by decide)] at h ho
                exact ih st st' n m u h ho hl
            | inr k2 =>
              have ho : (if n ≤ 1 then none else ye_opn B (n - 1)) = some m := ho
              by_cases h1 : n ≤ 1
              · rw [if_pos h1] at ho; cases ho
              · rw [if_neg h1] at ho
                cases st with
                | nil => simp at hl; omega
                | cons k3 st =>
                  have h := h.2.2
                  exact ih st st' (n - 1) m u h ho (by simp at hl; omega)
        obtain ⟨st2, e9⟩ := gen B [] [k0] 1 1 7 s4 e2 rfl
        cases st2 with
        | nil =>
          have : k0 = 7 := (List.cons.inj e9).1
          rw [z1, this]
        | cons y st2 =>
          have := congrArg List.length e9
          simp at this
    subst hc7
    have hcA : ((ye_nl 0 (.inl d :: B)).length : Int) = zq_i s a 0 := by
      have := ht.1
      rw [e1, hnl B _ e2] at this
      rw [this]
      show _ = (0 : Int) + ((ye_nl 0 (.inl d :: B) ++ []).length : Nat)
      rw [List.append_nil]
      omega
    have hsA : yt_ns s a 0 (ye_nl 0 (.inl d :: B)) := by
      have := ht.2.1
      rw [e1, hnl B _ e2] at this
      exact (yt_ns_app.mp this).1
    have oB : ye_oks (.inl d :: B) := ⟨fun d2 h2 => o12.1 d2 (by rw [e1]; rcases List.mem_cons.mp h2 with z | z; exact List.mem_cons.mpr (Or.inl z); exact List.mem_cons.mpr (Or.inr (List.mem_append_left _ z))), fun k2 h2 => o12.2 k2 (by rw [e1]; rcases List.mem_cons.mp h2 with z | z; exact List.mem_cons.mpr (Or.inl z); exact List.mem_cons.mpr (Or.inr (List.mem_append_left _ z)))⟩
    have hsA' : yt_ns s' a 0 (ye_nl 0 (.inl d :: B)) := yt_ns_mv hsA (ye_nl_len12 _ 0 oB) (fun i hi => by
      obtain ⟨o1, o2, o3, o4, o5, o6⟩ := hold (0 + (i : Int)) (by omega) (by omega)
      exact ⟨o1, o2, o3, o4, o5, fun c hc => o6 c (by omega) (by omega)⟩)
    have key := yt_79 (s := s') (a := a) (A := ye_nl 0 (.inl d :: B)) (C := []) (Rn := []) (e := zq_i s a 0 + 1) (n := n) (nd := yln n) (l := 1) hsA' (ye_nl_len12 _ 0 oB) (fun q hq => (by cases hq)) (fun i l d hi => (by simp at hi)) (by omega) (by rw [w1]; simp) (by rw [hcA]; exact w3) (by rw [hcA]; exact w6) rfl rfl
    rw [hcA] at key
    refine kn B _ hf e1 e2 ⟨?_, ?_, by decide, ?_⟩ (hfr.trans ycf_79)
    · rw [hnl B _ e2, List.length_append, key.2]
      show zq_i s a 0 + 1 + ((0 : Nat) : Int) = 0 + (((ye_nl 0 (.inl d :: B)).length + 1 : Nat) : Int)
      omega
    · rw [hnl B _ e2]
      exact key.1
    · rw [key.2]
      show zq_i s a 0 + 1 + ((0 : Nat) : Int) ≤ 12
      omega
  · obtain ⟨mid, e1, e2, e3⟩ := ye_fk_split hf
    obtain ⟨m1, m2, m3⟩ := hk'.node
    have hm3 := hk'.2.2.1
    refine ys_48n (d := d'.1) ha h12 (by omega) m3 m1.1 ?_
    refine yl_if (fun h8 => k8 d' es' hf h8) (fun h8 => ?_)
    rw [if_neg (by omega)]
    have hwf2 : ∃ st', ye_wf st' (.inl d' :: es') := by
      obtain ⟨x1, x2, x3⟩ := hwf
      rw [e1] at x3
      obtain ⟨st', s1, _⟩ := ye_wf_split x3
      exact ⟨st', s1⟩
    obtain ⟨st', hwf2⟩ := hwf2
    obtain ⟨R, r1, r2, r3⟩ := hwf2.rest
    obtain ⟨B, hB, hBd⟩ := ye_rest_app r1
    have hnl2 : ye_nl 1 (.inl d' :: es') = ye_nl 1 (.inl d' :: B) ++ ye_nl 1 R := by
      have e : (.inl d' :: es' : List ye_E) = (.inl d' :: B) ++ R := by rw [hB]; rfl
      rw [e, ye_nl_app _ _ 1 0]
      congr 2
      show (ye_dm (if ye_nest d' = true then (1 : Int) + 1 else 1, if (1 : Int) + 1 ≤ 0 then 0 else (1 : Int) + 1) B).1 = 1
      have := ye_dm_shift B (if ye_nest d' = true then 1 else 0) (if (1 : Int) + 1 ≤ 0 then 0 else (1 : Int) + 1) 1 0
      rw [hBd 0] at this
      rw [show (if ye_nest d' = true then (1 : Int) + 1 else 1) = (if ye_nest d' = true then 1 else 0) + 1 by split <;> omega, this]
      omega
    have hcnt := hk'.1
    have hns := hk'.2.1
    rw [hnl2] at hns
    rw [hnl2, List.length_append] at hcnt
    have hC1 : 1 ≤ (ye_nl 1 (.inl d' :: B)).length := by
      show 1 ≤ ((1, d') :: _).length
      simp
    refine zw_79 ha ⟨by omega, by omega⟩ (ys_17 ha hk' r1 ?_)
    refine ⟨⟨by omega, by omega, by omega, by omega, by omega⟩, ⟨by omega, by omega⟩, ⟨by omega, by omega⟩, ?_⟩
    have hkA : ((ye_nl 0 (.inl d :: mid)).length : Int) = k' := by
      have h1 := ht.1
      have h2 := hk'.1
      rw [e1, hnl mid _ e2, List.length_append] at h1
      omega
    have hsA : yt_ns s a 0 (ye_nl 0 (.inl d :: mid)) := by
      have := ht.2.1
      rw [e1, hnl mid _ e2] at this
      exact (yt_ns_app.mp this).1
    have oB : ye_oks (.inl d :: mid) := ⟨fun d2 h2 => o12.1 d2 (by rw [e1]; rcases List.mem_cons.mp h2 with z | z; exact List.mem_cons.mpr (Or.inl z); exact List.mem_cons.mpr (Or.inr (List.mem_append_left _ z))), fun k2 h2 => o12.2 k2 (by rw [e1]; rcases List.mem_cons.mp h2 with z | z; exact List.mem_cons.mpr (Or.inl z); exact List.mem_cons.mpr (Or.inr (List.mem_append_left _ z)))⟩
    have hsR := (yt_ns_app.mp hns).2
    have key := yt_79 (s := s) (a := a) (A := ye_nl 0 (.inl d :: mid)) (C := []) (Rn := ye_nl 1 R) (e := zq_i s a 0 - ((ye_nl 1 R).length : Nat)) (n := n) (nd := yln n) (l := 1) hsA (ye_nl_len12 _ 0 oB) (ye_nl_len12 _ 1 r2.oks) (by rw [show zq_i s a 0 - ((ye_nl 1 R).length : Int) = k' + ((ye_nl 1 (.inl d' :: B)).length : Nat) by omega]; exact hsR) (by omega) (by omega) (by rw [hkA]; exact m1.2.1) (by rw [hkA, m1.2.2.2.2.1, e3]; rfl) rfl rfl
    rw [hkA] at key
    refine kr d' es' mid R _ hf h8 e1 e2 r1 ⟨?_, ?_, by decide, ?_⟩ ycf_79
    · rw [hnl mid _ e2, List.length_append, key.2]
      show k' + 1 + ((ye_nl 1 R).length : Int) = 0 + (((ye_nl 0 (.inl d :: mid)).length + ((ye_nl 1 R).length + 1) : Nat) : Int)
      omega
    · rw [hnl mid _ e2]
      exact key.1
    · rw [key.2]
      omega
end YLD0
