/-! the class's trees against events -/
/-- the nodes of events, with their levels -/
def ye_nl : Int → List ye_E → List (Int × ye_N)
  | _, [] => []
  | l, .inl d :: es => (l, d) :: ye_nl (if ye_nest d = true then l + 1 else l) es
  | l, .inr _ :: es => ye_nl (l - 1) es
/-- what the row 'number' holds of a node -/
def ye_nu (d : ye_N) : Int := if d.1 = 4 ∨ d.1 = 5 then (d.2.2.2.2.length : Int) else if d.1 = 3 ∨ d.1 = 8 then d.2.1 else 0
/-- a name as one number -/
def ye_pk : List Int → Nat → Int64
  | [], _ => 0
  | c :: l, i => ((Int32.ofInt c).toInt64 <<< ((Int32.ofInt (8 * (i : Int))).toInt64 &&& 63)) ||| ye_pk l (i + 1)
/-- node j of the tree at a is d at level l -/
def yt_nd (s : zq_S) (a : Nat) (j l : Int) (d : ye_N) : Prop := zq_i s (a + 1) j = d.1 ∧ zq_i s (a + 2) j = l ∧ zq_i s (a + 3) j = ye_nu d ∧ (d.1 = 8 → zq_i s (a + 4) j = d.2.2.1) ∧ zq_l s (a + 5) j = ye_pk d.2.2.2.1 0 ∧ (d.1 = 4 ∨ d.1 = 5 → ∀ i : Nat, i < d.2.2.2.2.length → zq_i s (a + 6) (12 * j + i) = d.2.2.2.2.getD i 0)
/-- nodes k and on are those of ns -/
def yt_ns (s : zq_S) (a : Nat) (k : Int) (ns : List (Int × ye_N)) : Prop := ∀ i : Nat, ∀ l d, ns[i]? = some (l, d) → yt_nd s a (k + i) l d
/-- from node k on the tree is es, k levels deep; that is all -/
def yt_tr (s : zq_S) (a : Nat) (k l : Int) (es : List ye_E) : Prop := zq_i s a 0 = k + (ye_nl l es).length ∧ yt_ns s a k (ye_nl l es) ∧ 0 ≤ k ∧ zq_i s a 0 ≤ 12
set_option maxRecDepth 100000 in
theorem yt_ns_cons {s : zq_S} {a : Nat} {k l : Int} {d : ye_N} {ns : List (Int × ye_N)} : yt_ns s a k ((l, d) :: ns) ↔ yt_nd s a k l d ∧ yt_ns s a (k + 1) ns := by
  constructor
  · intro h
    refine ⟨?_, fun i l' d' hi => ?_⟩
    · have := h 0 l d rfl
      simpa using this
    · have := h (i + 1) l' d' (by simpa using hi)
      rw [show k + 1 + (i : Int) = k + ((i + 1 : Nat) : Int) by omega]
      exact this
  · intro ⟨h1, h2⟩ i l' d' hi
    cases i with
    | zero =>
      simp at hi
      obtain ⟨e1, e2⟩ := hi
      subst e1
      subst e2
      simpa using h1
    | succ i =>
      have := h2 i l' d' (by simpa using hi)
      rw [show k + 1 + (i : Int) = k + ((i + 1 : Nat) : Int) by omega] at this
      exact this
set_option maxRecDepth 100000 in
/-- at a node: it, and the tree behind it -/
theorem yt_tr.node {s : zq_S} {a : Nat} {k l : Int} {d : ye_N} {es : List ye_E} (h : yt_tr s a k l (.inl d :: es)) : yt_nd s a k l d ∧ yt_tr s a (k + 1) (if ye_nest d = true then l + 1 else l) es ∧ k < zq_i s a 0 := by
  obtain ⟨h1, h2, h3, h4⟩ := h
  have e : ye_nl l (.inl d :: es) = (l, d) :: ye_nl (if ye_nest d = true then l + 1 else l) es := rfl
  rw [e] at h1 h2
  obtain ⟨h5, h6⟩ := yt_ns_cons.mp h2
  simp only [List.length_cons] at h1
  exact ⟨h5, ⟨by omega, h6, by omega, h4⟩, by omega⟩
set_option maxRecDepth 100000 in
theorem yt_tr.close {s : zq_S} {a : Nat} {k l c : Int} {es : List ye_E} (h : yt_tr s a k l (.inr c :: es)) : yt_tr s a k (l - 1) es := h
section YS8
variable {X : Nat × (Nat → Int32)} {s : zq_S} {K : Int → zq_S → Prop} {x y q : Int} {a : Nat}
set_option maxRecDepth 100000 in
theorem ys_48 (ha : zq_o 4 a) (hc : zq_i s a 0 ≤ 12) (hx : zq_iv x) (k : K (if 0 ≤ x ∧ x < zq_i s a 0 then zq_i s (a + 1) x else -1) s) : zq_Ex X 48 0 [.ref a, zq_vi x] [] s (zq_rp zq_iv K) := zw_48 ha hx (by
  split
  · next h => rw [if_neg (by omega)] at k; exact k
  · next h =>
    split
    · next h1 => rw [if_pos ⟨by omega, h1⟩] at k; exact ⟨⟨by omega, by omega⟩, k⟩
    · next h1 => rw [if_neg (by omega)] at k; exact k)
set_option maxRecDepth 100000 in
theorem ys_132 (ha : zq_o 4 a) (hc : zq_i s a 0 ≤ 12) (h0 : 0 ≤ x) (h1 : x < zq_i s a 0) {d : ye_N} {l : Int} (hd : yt_nd s a x l d) (k : K (yb (ye_nest d)) s) : zq_Ex X 132 0 [.ref a, zq_vi x] [] s (zq_rp zq_bo K) := by
  have hx : zq_iv x := ⟨by omega, by omega⟩
  unfold ye_nest at k
  rw [yb_dec] at k
  have e : (if 0 ≤ x ∧ x < zq_i s a 0 then zq_i s (a + 1) x else -1) = d.1 := by rw [if_pos ⟨h0, h1⟩]; exact hd.1
  refine zw_132 ha hx (ys_48 ha hc hx ?_)
  rw [e]
  split
  · next h => rw [if_pos (Or.inl h)] at k; exact k
  · next h =>
    refine ys_48 ha hc hx ?_
    rw [e]
    split
    · next h2 => rw [if_pos (Or.inr h2)] at k; exact k
    · next h2 => rw [if_neg (by omega)] at k; exact k
set_option maxRecDepth 100000 in
/-- the first node behind k at or under its level -/
theorem ys_17_4 (ha : zq_o 4 a) (hc : zq_i s a 0 ≤ 12) (h0 : 0 ≤ x) (h1 : x < zq_i s a 0) {e : Int} (he : e ≤ zq_i s a 0) (hl : ∀ j, x < j → j < e → zq_i s (a + 2) x < zq_i s (a + 2) j) (hz : e < zq_i s a 0 → zq_i s (a + 2) e ≤ zq_i s (a + 2) x) (k : K e s) : ∀ (m : Nat) (j : Int), j + m = e → x < j → zq_Ex X 17 4 [.ref a, zq_vi x, zq_vi j] [] s (zq_rp zq_iv K) := by
  have hx : zq_iv x := ⟨by omega, by omega⟩
  intro m
  induction m with
  | zero =>
    intro j hj hxj
    have : j = e := by omega
    subst this
    refine zw_17_4 ha hx ⟨by omega, by omega⟩ ?_
    split
    · next h => exact ⟨⟨by omega, by omega⟩, ⟨by omega, by omega⟩, by rw [if_pos (hz h)]; exact k⟩
    · exact k
  | succ m ih =>
    intro j hj hxj
    have := hl j hxj (by omega)
    refine zw_17_4 ha hx ⟨by omega, by omega⟩ ?_
    rw [if_pos (by omega)]
    refine ⟨⟨by omega, by omega⟩, ⟨by omega, by omega⟩, ?_⟩
    rw [if_neg (by omega)]
    exact ih (j + 1) (by omega) (by omega)
end YS8
set_option maxRecDepth 100000 in
/-- inside a value all levels are above; behind it the next one is not -/
theorem ye_nl_skip : ∀ {es R : List ye_E} {n : Nat} {l : Int}, ye_skip es n = some R → 1 ≤ n → ∃ B, ye_nl (l + n) es = B ++ ye_nl l R ∧ (∀ q ∈ B, l < q.1) ∧ B.length ≤ es.length
  | [], _, _, _, h, _ => by cases h
  | .inl d :: es, R, n, l, h, hn => by
    have h : ye_skip es (if ye_nest d = true then n + 1 else n) = some R := h
    have e : ye_nl (l + n) (.inl d :: es) = (l + n, d) :: ye_nl (if ye_nest d = true then l + n + 1 else l + n) es := rfl
    cases hd : ye_nest d with
    | true =>
      rw [hd] at h e
      obtain ⟨B, b1, b2, b3⟩ := ye_nl_skip (l := l) h (by simp)
      simp only [if_true] at b1 e
      refine ⟨(l + n, d) :: B, ?_, fun q hq => ?_, by simp; omega⟩
      · rw [e, show l + (n : Int) + 1 = l + ((n + 1 : Nat) : Int) by omega, b1]
        rfl
      · rcases List.mem_cons.mp hq with z | z
        · rw [z]; show l < l + n; omega
        · exact b2 q z
    | false =>
      rw [hd] at h e
      obtain ⟨B, b1, b2, b3⟩ := ye_nl_skip (l := l) h (by simpa using hn)
      simp only [Bool.false_eq_true, if_false] at b1 e
      refine ⟨(l + n, d) :: B, ?_, fun q hq => ?_, by simp; omega⟩
      · rw [e, b1]
        rfl
      · rcases List.mem_cons.mp hq with z | z
        · rw [z]; show l < l + n; omega
        · exact b2 q z
  | .inr k :: es, R, n, l, h, hn => by
    have h : (if n ≤ 1 then some es else ye_skip es (n - 1)) = some R := h
    have e : ye_nl (l + n) (.inr k :: es) = ye_nl (l + n - 1) es := rfl
    rw [e]
    by_cases h1 : n ≤ 1
    · rw [if_pos h1] at h
      cases h
      exact ⟨[], by rw [show l + (n : Int) - 1 = l by omega]; rfl, fun q hq => (by cases hq), by simp⟩
    · rw [if_neg h1] at h
      obtain ⟨B, b1, b2, b3⟩ := ye_nl_skip (l := l) h (by omega)
      refine ⟨B, ?_, b2, by simp; omega⟩
      rw [show l + (n : Int) - 1 = l + ((n - 1 : Nat) : Int) by omega]
      exact b1
set_option maxRecDepth 100000 in
theorem ye_nl_rest {d : ye_N} {es R : List ye_E} {l : Int} (h : ye_rest d es = some R) : ∃ B, ye_nl (if ye_nest d = true then l + 1 else l) es = B ++ ye_nl l R ∧ (∀ q ∈ B, l < q.1) ∧ B.length ≤ es.length := by
  unfold ye_rest at h
  cases hd : ye_nest d with
  | true =>
    rw [hd] at h
    exact ye_nl_skip (n := 1) h (by omega)
  | false =>
    rw [hd] at h
    cases h
    exact ⟨[], rfl, fun q hq => (by cases hq), by simp⟩
set_option maxRecDepth 100000 in
/-- the first node of what is left lies no deeper -/
theorem ye_nl_hd : ∀ (es : List ye_E) (l l' : Int) (d : ye_N) (ns : List (Int × ye_N)), ye_nl l es = (l', d) :: ns → l' ≤ l
  | [], _, _, _, _, h => by cases h
  | .inl d :: es, l, l', d', ns, h => by
    have h : (l, d) :: ye_nl (if ye_nest d = true then l + 1 else l) es = (l', d') :: ns := h
    have := congrArg (fun q => (q.head?.map Prod.fst)) h
    simp at this
    omega
  | .inr k :: es, l, l', d, ns, h => by
    have := ye_nl_hd es (l - 1) l' d ns h
    omega
section YS9
variable {X : Nat × (Nat → Int32)} {s : zq_S} {K : Int → zq_S → Prop} {x l : Int} {a : Nat} {d : ye_N} {es R : List ye_E}
set_option maxRecDepth 100000 in
/-- Tree.end -/
theorem ys_17 (ha : zq_o 4 a) (ht : yt_tr s a x l (.inl d :: es)) (hr : ye_rest d es = some R) (k : K (zq_i s a 0 - (ye_nl l R).length) s) : zq_Ex X 17 0 [.ref a, zq_vi x, zz_no] [] s (zq_rp zq_iv K) := by
  obtain ⟨n1, n2, n3⟩ := ht.node
  obtain ⟨t1, t2, t3, t4⟩ := n2
  obtain ⟨B, b1, b2, b3⟩ := ye_nl_rest (l := l) hr
  rw [b1] at t1 t2
  have hx0 := ht.2.2.1
  simp only [List.length_append] at t1
  have hlx : zq_i s (a + 2) x = l := n1.2.1
  refine zw_17 ha ⟨by omega, by omega⟩ (ys_17_4 ha t4 hx0 n3 (e := zq_i s a 0 - (ye_nl l R).length) (by omega) (fun j hj1 hj2 => ?_) (fun hz => ?_) k B.length (x + 1) (by omega) (by omega))
  · have hi : (j - (x + 1)).toNat < B.length := by omega
    have h1 := t2 (j - (x + 1)).toNat (B[(j - (x + 1)).toNat]).1 (B[(j - (x + 1)).toNat]).2 (by rw [List.getElem?_append_left hi, List.getElem?_eq_getElem hi])
    rw [show x + 1 + (((j - (x + 1)).toNat : Nat) : Int) = j by omega] at h1
    rw [hlx, h1.2.1]
    exact b2 _ (List.getElem_mem hi)
  · cases hR : ye_nl l R with
    | nil => rw [hR] at hz; simp at hz
    | cons q ns =>
      obtain ⟨l', d'⟩ := q
      have hle := ye_nl_hd R l l' d' ns hR
      have h1 := t2 B.length l' d' (by rw [List.getElem?_append_right (Nat.le_refl _), Nat.sub_self, hR]; rfl)
      rw [show zq_i s a 0 - ((l', d') :: ns).length = x + 1 + (B.length : Int) by rw [← hR]; omega, h1.2.1, hlx]
      exact hle
end YS9
