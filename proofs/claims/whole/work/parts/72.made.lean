/-! the reference's row 'made' grows -/
def ymf (J : List Int) (A : List Nat) (s s' : zq_S) : Prop := (∀ b, b ∉ A → b ≠ 232 → zq_i s' b = zq_i s b) ∧ (∀ j, j ∉ J → zq_i s' 232 j = zq_i s 232 j) ∧ s'.2 = s.2
set_option maxRecDepth 100000 in
theorem ymf.refl (J : List Int) (A : List Nat) (s : zq_S) : ymf J A s s := ⟨fun _ _ _ => rfl, fun _ _ => rfl, rfl⟩
set_option maxRecDepth 100000 in
theorem ymf.trans {J : List Int} {A : List Nat} {s s1 s2 : zq_S} (h1 : ymf J A s s1) (h2 : ymf J A s1 s2) : ymf J A s s2 := ⟨fun b hb h => (h2.1 b hb h).trans (h1.1 b hb h), fun j hj => (h2.2.1 j hj).trans (h1.2.1 j hj), h2.2.2.trans h1.2.2⟩
set_option maxRecDepth 100000 in
theorem ymf.mono {J J' : List Int} {A B : List Nat} {s s1 : zq_S} (h : ymf J A s s1) (hj : ∀ q ∈ J, q ∈ J') (hs : ∀ q ∈ A, q ∈ B) : ymf J' B s s1 := ⟨fun b hb => h.1 b (fun z => hb (hs b z)), fun j hj' => h.2.1 j (fun z => hj' (hj j z)), h.2.2⟩
set_option maxRecDepth 100000 in
theorem ymf.si {J : List Int} {A : List Nat} {s : zq_S} {a : Nat} {j x : Int} (ha : a ∈ A) (h2 : a ≠ 232) : ymf J A s (zq_si s a j x) := ⟨fun b hb _ => by
  funext k
  rw [zq_i_si, if_neg]
  intro z
  exact hb (by rw [z.1]; exact ha), fun k _ => by rw [zq_i_si, if_neg (fun z => h2 z.1.symm)], rfl⟩
set_option maxRecDepth 100000 in
theorem ymf.sf {J : List Int} {A : List Nat} {s : zq_S} {j x : Int} (hj : j ∈ J) : ymf J A s (zq_si s 232 j x) := ⟨fun b _ h2 => by
  funext k
  rw [zq_i_si, if_neg]
  intro z
  exact h2 z.1, fun k hk => by rw [zq_i_si, if_neg (fun z => hk (by rw [z.2]; exact hj))], rfl⟩
set_option maxRecDepth 100000 in
theorem ymf.i {J : List Int} {A : List Nat} {s s' : zq_S} (h : ymf J A s s') {b : Nat} (hb : b ∉ A) (h2 : b ≠ 232) : zq_i s' b = zq_i s b := h.1 b hb h2
set_option maxRecDepth 100000 in
theorem ymf.f {J : List Int} {A : List Nat} {s s' : zq_S} (h : ymf J A s s') {j : Int} (hj : j ∉ J) : zq_i s' 232 j = zq_i s 232 j := h.2.1 j hj
/-- what is made so far -/
def ymd (s : zq_S) (l : List Int) : Prop := zq_i s 232 23 = l.length ∧ ∀ i : Nat, i < l.length → zq_i s 245 i = l.getD i 0
set_option maxRecDepth 100000 in
/-- the other texts stay -/
theorem ymf.c {J : List Int} {A : List Nat} {s s' : zq_S} (h : ymf J A s s') {q : Int} (hq : q ≠ 3) (hJ : (1 : Int) ∉ J ∧ (3 : Int) ∉ J ∧ (5 : Int) ∉ J) (hA : 233 ∉ A ∧ 234 ∉ A ∧ 235 ∉ A ∧ 240 ∉ A ∧ 241 ∉ A) : ym_c s' q = ym_c s q := by
  funext i
  unfold ym_c
  rw [h.f hJ.1, h.f hJ.2.1, h.f hJ.2.2, h.i hA.1 (by decide), h.i hA.2.1 (by decide), h.i hA.2.2.1 (by decide), h.i hA.2.2.2.1 (by decide), h.i hA.2.2.2.2 (by decide), if_neg hq, if_neg hq]
set_option maxRecDepth 100000 in
theorem ymf.I {J : List Int} {A : List Nat} {s s' : zq_S} (h : ymf J A s s') (hI : ym_I s) (hJ : (1 : Int) ∉ J ∧ (3 : Int) ∉ J ∧ (5 : Int) ∉ J) (hA : 240 ∉ A) (hm : zq_i s' 232 23 ≤ 700) : ym_I s' := by
  unfold ym_I
  rw [h.f hJ.1, h.f hJ.2.1, h.f hJ.2.2, h.i hA (by decide)]
  exact ⟨hI.1, hI.2.1, hI.2.2.1, hm, hI.2.2.2.2⟩
/-- a piece of a text -/
def yp_sub (T : Int → Int) : Nat → Int → List Int
  | 0, _ => []
  | n + 1, p => T p :: yp_sub T n (p + 1)
set_option maxRecDepth 100000 in
theorem yp_sub_len (T : Int → Int) : ∀ (n : Nat) (p : Int), (yp_sub T n p).length = n
  | 0, _ => rfl
  | n + 1, p => by simp only [yp_sub, List.length_cons, yp_sub_len T n]
set_option maxRecDepth 100000 in
theorem yp_sub_at {T : Int → Int} : ∀ (l : List Int) (p : Int), ye_at T p l → yp_sub T l.length p = l
  | [], _, _ => rfl
  | c :: l, p, h => by
    obtain ⟨h1, h2⟩ := ye_at_cons.mp h
    simp only [List.length_cons, yp_sub]
    rw [h1, yp_sub_at l (p + 1) h2]
/-- the letters of a string between two places -/
def yp_let (T : Int → Int) (e : Int) : Nat → Int → List Int
  | 0, _ => []
  | f + 1, k => if k < e then (if T k = 92 then T (k + 1) :: yp_let T e f (k + 2) else T k :: yp_let T e f (k + 1)) else []
section YMD
variable {X : Nat × (Nat → Int32)} {K : zq_S → Prop} {x q : Int}
set_option maxRecDepth 100000 in
theorem ys_150 {s : zq_S} {l : List Int} (hx : zq_ch x) (hm : ymd s l) (hl : l.length < 700) (k : ∀ s', ymd s' (l ++ [x]) → ymf [23] [245] s s' → K s') : zq_Ex X 150 0 [.ref 232, zq_vi x] [] s (zq_rv K) := zw_150 hx (by
  obtain ⟨h1, h2⟩ := hm
  refine ⟨⟨by omega, by omega⟩, ⟨by omega, by omega⟩, k _ ⟨?_, fun i hi => ?_⟩ ((ymf.si (by simp) (by decide)).trans (ymf.sf (by simp)))⟩
  · rw [zq_i_si, if_pos ⟨rfl, rfl⟩, h1]
    simp
  · simp at hi
    rw [zq_i_si, if_neg (by simp), zq_i_si]
    by_cases e : i = l.length
    · rw [if_pos ⟨rfl, by omega⟩, e]
      simp
    · rw [if_neg (fun z => e (by have := z.2; omega)), h2 i (by omega)]
      simp [List.getD_eq_getElem?_getD, List.getElem?_append_left (show i < l.length by omega)])
set_option maxRecDepth 100000 in
theorem ys_157_3 (hq : ym_q q) (hq3 : q ≠ 3) (T : Int → Int) {p e : Int} (hp : zq_iv p) (he : e ≤ 2000) : ∀ (n : Nat) (j : Int) (s : zq_S) (l : List Int), j + n = e → -100 ≤ j → ym_I s → ym_c s q = T → ymd s l → l.length + n ≤ 700 → (∀ s', ymd s' (l ++ yp_sub T n j) → ymf [23] [245] s s' → K s') → zq_Ex X 157 3 [.ref 232, zq_vi q, zq_vi p, zq_vi e, zq_vi j] [] s (zq_rv K) := by
  intro n
  induction n with
  | zero =>
    intro j s l hj h0 hI hT hm hl k
    refine zw_157_3 hq.in hp ⟨by omega, by omega⟩ ⟨by omega, by omega⟩ ?_
    rw [if_neg (by omega)]
    exact k s (by simpa [yp_sub] using hm) (ymf.refl _ _ _)
  | succ n ih =>
    intro j s l hj h0 hI hT hm hl k
    refine zw_157_3 hq.in hp ⟨by omega, by omega⟩ ⟨by omega, by omega⟩ ?_
    rw [if_pos (by omega)]
    refine zq_have (fun hR => ?_)
    have hc := ym_ch hR q j
    refine ys_147 hI hq ⟨by omega, by omega⟩ (ys_150 hc hm (by omega) (fun s1 m1 f1 => ?_))
    have hm1 : zq_i s1 232 23 ≤ 700 := by rw [m1.1]; simp; omega
    refine ih (j + 1) s1 _ (by omega) (by omega) (f1.I hI (by decide) (by decide) hm1) ((f1.c hq3 (by decide) (by decide)).trans hT) m1 (by simp; omega) (fun s' m2 f2 => k s' ?_ (f1.trans f2))
    rw [hT] at m2
    simpa [yp_sub] using m2
set_option maxRecDepth 100000 in
theorem ys_157 {s : zq_S} {l : List Int} (hI : ym_I s) (hq : ym_q q) (hq3 : q ≠ 3) {p e : Int} (h0 : -100 ≤ p) (h1 : p ≤ e) (he : e ≤ 2000) (hm : ymd s l) (hl : l.length + (e - p).toNat ≤ 700) (k : ∀ s', ymd s' (l ++ yp_sub (ym_c s q) (e - p).toNat p) → ymf [23] [245] s s' → K s') : zq_Ex X 157 0 [.ref 232, zq_vi q, zq_vi p, zq_vi e, zz_no] [] s (zq_rv K) := zw_157 hq.in ⟨by omega, by omega⟩ ⟨by omega, by omega⟩ (ys_157_3 hq hq3 (ym_c s q) ⟨by omega, by omega⟩ he (e - p).toNat p s l (by omega) h0 hI rfl hm hl k)
set_option maxRecDepth 100000 in
theorem ys_168_42 (hx : zq_iv x) {n : Int} (n0 : 0 ≤ n) (n1 : n < 1000000) {u : Int} (hu : zq_iv u) : ∀ (k : Nat) (s : zq_S) (l : List Int), k < 6 → ymd s l → l.length + k < 700 → (∀ s', ymd s' (l ++ yd_f k n) → ymf [23] [245] s s' → K s') → zq_Ex X 168 42 [.ref 232, zq_vi x, zq_vi n, zq_vi u, zq_vi (10 ^ k)] [] s (zq_rv K) := by
  have hn : zq_iv n := ⟨by omega, by omega⟩
  intro k
  induction k with
  | zero =>
    intro s l hk hm hl kk
    have d1 : zq_div n (10 ^ 0) = n := by rw [zq_div_nn hn n0 (by decide) (by decide)]; simp
    have d2 : zq_rem n 10 = n % 10 := zq_rem_nn hn n0 (by decide) (by decide)
    refine zw_168_42 hx hn hu (by decide) ?_
    rw [if_neg (by decide)]
    refine ⟨by decide, ?_⟩
    rw [d1, d2, Int.emod_eq_of_lt (by omega) (by omega)]
    refine ys_150 ⟨by omega, by omega⟩ hm (by omega) (fun s1 m1 f1 => ?_)
    refine zw_168_42 hx hn hu (zq_in32 _) ?_
    rw [if_pos (by decide)]
    exact kk s1 m1 f1
  | succ k ih =>
    intro s l hk hm hl kk
    have p := yd_pow (k + 1) (by omega)
    have hp : zq_iv ((10 : Int) ^ (k + 1)) := ⟨by omega, by omega⟩
    have q0 : 0 ≤ n / 10 ^ (k + 1) := Int.ediv_nonneg n0 (by omega)
    have q1 : n / 10 ^ (k + 1) ≤ n := Int.ediv_le_self _ n0
    have d1 : zq_div n (10 ^ (k + 1)) = n / 10 ^ (k + 1) := zq_div_nn hn n0 hp (by omega)
    have d2 : zq_rem (n / 10 ^ (k + 1)) 10 = n / 10 ^ (k + 1) % 10 := zq_rem_nn ⟨by omega, by omega⟩ q0 (by decide) (by decide)
    have d3 : zq_div (10 ^ (k + 1)) 10 = 10 ^ k := by rw [zq_div_nn hp (by omega) (by decide) (by decide)]; exact yd_pow2 k (by omega)
    refine zw_168_42 hx hn hu hp ?_
    rw [if_neg (by omega)]
    refine ⟨by omega, ?_⟩
    rw [d1, d2, d3, Int.emod_eq_of_lt (by omega) (by omega)]
    refine ys_150 ⟨by omega, by omega⟩ hm (by omega) (fun s1 m1 f1 => ih s1 _ (by omega) m1 (by simp; omega) (fun s' m2 f2 => kk s' ?_ (f1.trans f2)))
    simpa [yd_f] using m2
set_option maxRecDepth 100000 in
/-- the unit is found from below -/
theorem ys_168_23 (hx : zq_iv x) {n : Int} (n0 : 0 ≤ n) (n1 : n < 1000000) : ∀ (m k : Nat) (s : zq_S) (l : List Int) (v : Value), k + m = 5 → v.category = 1 → (k = 0 ∨ (10 : Int) ^ k ≤ n) → ymd s l → l.length + 6 < 700 → (∀ s', ymd s' (l ++ ye_dec 5 n.toNat) → ymf [23] [245] s s' → K s') → zq_Ex X 168 23 [.ref 232, zq_vi x, zq_vi n, zq_vi (10 ^ k), v] [] s (zq_rv K) := by
  have hn : zq_iv n := ⟨by omega, by omega⟩
  have en : ((n.toNat : Nat) : Int) = n := by omega
  have out : ∀ (k : Nat) (s : zq_S) (l : List Int), k < 6 → n < 10 ^ (k + 1) → (k = 0 ∨ (10 : Int) ^ k ≤ n) → ymd s l → l.length + 6 < 700 → (∀ s', ymd s' (l ++ ye_dec 5 n.toNat) → ymf [23] [245] s s' → K s') → zq_Ex X 168 42 [.ref 232, zq_vi x, zq_vi n, zq_vi (10 ^ k), zq_vi (10 ^ k)] [] s (zq_rv K) := by
    intro k s l hk h1 h2 hm hl kk
    have p := yd_pow k hk
    have ee := yd_dec n.toNat k hk (by rw [en]; exact h1) (by rw [en]; exact h2)
    rw [en] at ee
    rw [← ee] at kk
    exact ys_168_42 hx n0 n1 ⟨by omega, by omega⟩ k s l hk hm (by omega) kk
  intro m
  induction m with
  | zero =>
    intro k s l v hk hv h2 hm hl kk
    have : k = 5 := by omega
    subst this
    have d1 : zq_div n (10 ^ 5) = n / 100000 := zq_div_nn hn n0 (by decide) (by decide)
    refine zw_168_23 hx hn (by decide) hv ⟨by decide, ?_⟩
    rw [d1, if_pos (by omega)]
    exact out 5 s l (by decide) (by show n < 1000000; omega) h2 hm hl kk
  | succ m ih =>
    intro k s l v hk hv h2 hm hl kk
    have p := yd_pow k (by omega)
    have hp : zq_iv ((10 : Int) ^ k) := ⟨by omega, by omega⟩
    have d1 : zq_div n (10 ^ k) = n / 10 ^ k := zq_div_nn hn n0 hp (by omega)
    refine zw_168_23 hx hn hp hv ⟨by omega, ?_⟩
    rw [d1]
    have e10 : (10 : Int) ^ (k + 1) = 10 * 10 ^ k := by rw [Int.pow_succ, Int.mul_comm]
    split
    · next h =>
      refine out k s l (by omega) ?_ h2 hm hl kk
      have e1 := Int.lt_ediv_add_one_mul_self n (show (0 : Int) < 10 ^ k by omega)
      have e2 : (n / 10 ^ k + 1) * 10 ^ k ≤ 10 * 10 ^ k := Int.mul_le_mul_of_nonneg_right (by omega) (by omega)
      rw [e10]
      omega
    · next h =>
      rw [← e10]
      refine ih (k + 1) s l v (by omega) hv (Or.inr ?_) hm hl kk
      have e1 := Int.ediv_mul_le n (show (10 : Int) ^ k ≠ 0 by omega)
      have e2 : 10 * 10 ^ k ≤ n / 10 ^ k * 10 ^ k := Int.mul_le_mul_of_nonneg_right (by omega) (by omega)
      rw [e10]
      omega
set_option maxRecDepth 100000 in
/-- sayNumber -/
theorem ys_168 {s : zq_S} {l : List Int} (hx : -1000000 < x ∧ x < 1000000) (hm : ymd s l) (hl : l.length + 7 < 700) (kk : ∀ s', ymd s' (l ++ ye_num x) → ymf [23] [245] s s' → K s') : zq_Ex X 168 0 [.ref 232, zq_vi x, zz_no, zz_no, zz_no] [] s (zq_rv K) := by
  have hx' : zq_iv x := ⟨by omega, by omega⟩
  unfold ye_num at kk
  refine zw_168 hx' ?_
  by_cases h : x < 0
  · rw [if_pos h, if_pos h]
    rw [if_pos h] at kk
    refine ys_150 ⟨by decide, by decide⟩ hm (by omega) (fun s1 m1 f1 => ?_)
    refine ys_168_23 hx' (by omega) (by omega) 5 0 s1 _ _ rfl rfl (Or.inl rfl) m1 (by simp; omega) (fun s' m2 f2 => kk s' ?_ (f1.trans f2))
    rw [show (-x).toNat = x.natAbs by omega] at m2
    simpa using m2
  · rw [if_neg h, if_neg h]
    rw [if_neg h] at kk
    refine ys_168_23 hx' (by omega) (by omega) 5 0 s _ _ rfl rfl (Or.inl rfl) hm (by omega) (fun s' m2 f2 => kk s' ?_ f2)
    rw [show x.toNat = x.natAbs by omega] at m2
    simpa using m2
set_option maxRecDepth 100000 in
/-- sayString -/
theorem ys_169_11 (hq : ym_q q) (hq3 : q ≠ 3) (T : Int → Int) {p e : Int} (hp : zq_iv p) (he : e ≤ 2000) (e0 : -100 ≤ e) : ∀ (n : Nat) (j : Int) (s : zq_S) (l : List Int) (v : Value), e - 1 ≤ j + n → -100 ≤ j → j ≤ 2000 → v.category = 1 → ym_I s → ym_c s q = T → ymd s l → l.length + 2 * n + 1 ≤ 700 → (∀ s', ymd s' (l ++ ye_esc (yp_let T (e - 1) n j) ++ [41]) → ymf [23] [245] s s' → K s') → zq_Ex X 169 11 [.ref 232, zq_vi q, zq_vi p, zq_vi e, zq_vi j, v] [] s (zq_rv K) := by
  intro n
  induction n with
  | zero =>
    intro j s l v hj j0 j1 hv hI hT hm hl k
    refine zw_169_11 hq.in hp ⟨by omega, by omega⟩ ⟨by omega, by omega⟩ hv ⟨⟨by omega, by omega⟩, ?_⟩
    rw [if_neg (by omega)]
    exact ys_150 ⟨by decide, by decide⟩ hm (by omega) (fun s1 m1 f1 => k s1 (by simpa [yp_let, ye_esc] using m1) f1)
  | succ n ih =>
    intro j s l v hj j0 j1 hv hI hT hm hl k
    refine zw_169_11 hq.in hp ⟨by omega, by omega⟩ ⟨by omega, by omega⟩ hv ⟨⟨by omega, by omega⟩, ?_⟩
    by_cases hlt : j < e - 1
    · rw [if_pos hlt]
      refine zq_have (fun hR => ?_)
      -- one letter c, and on from j'
      have one : ∀ (c j' : Int) (w : Value), zq_ch c → w.category = 1 → e - 1 ≤ j' + n → -100 ≤ j' → j' ≤ 2000 → (∀ s', ymd s' (l ++ ((if c = 40 ∨ c = 41 ∨ c = 92 then [92, c] else [c]) ++ ye_esc (yp_let T (e - 1) n j')) ++ [41]) → ymf [23] [245] s s' → K s') →
          (if c = 40 then (zq_Ex X 150 0 [.ref 232, zq_vi 92] [] s (zq_rv fun s_12 => (zq_Ex X 150 0 [.ref 232, zq_vi c] [] s_12 (zq_rv fun s_13 => zq_Ex X 169 11 [.ref 232, zq_vi q, zq_vi p, zq_vi e, zq_vi j', w] [] s_13 (zq_rv K))))) else (if c = 41 then (zq_Ex X 150 0 [.ref 232, zq_vi 92] [] s (zq_rv fun s_15 => (zq_Ex X 150 0 [.ref 232, zq_vi c] [] s_15 (zq_rv fun s_16 => zq_Ex X 169 11 [.ref 232, zq_vi q, zq_vi p, zq_vi e, zq_vi j', w] [] s_16 (zq_rv K))))) else (if c = 92 then (zq_Ex X 150 0 [.ref 232, zq_vi 92] [] s (zq_rv fun s_19 => (zq_Ex X 150 0 [.ref 232, zq_vi c] [] s_19 (zq_rv fun s_20 => zq_Ex X 169 11 [.ref 232, zq_vi q, zq_vi p, zq_vi e, zq_vi j', w] [] s_20 (zq_rv K))))) else (zq_Ex X 150 0 [.ref 232, zq_vi c] [] s (zq_rv fun s_18 => zq_Ex X 169 11 [.ref 232, zq_vi q, zq_vi p, zq_vi e, zq_vi j', w] [] s_18 (zq_rv K)))))) := by
        intro c j' w hc hw h1 h2 h3 kk
        have two : (c = 40 ∨ c = 41 ∨ c = 92) → zq_Ex X 150 0 [.ref 232, zq_vi 92] [] s (zq_rv fun s_12 => (zq_Ex X 150 0 [.ref 232, zq_vi c] [] s_12 (zq_rv fun s_13 => zq_Ex X 169 11 [.ref 232, zq_vi q, zq_vi p, zq_vi e, zq_vi j', w] [] s_13 (zq_rv K)))) := fun h => by
          rw [if_pos h] at kk
          refine ys_150 ⟨by decide, by decide⟩ hm (by omega) (fun s1 m1 f1 => ys_150 hc m1 (by simp; omega) (fun s2 m2 f2 => ?_))
          have f12 := f1.trans f2
          have hm2 : zq_i s2 232 23 ≤ 700 := by rw [m2.1]; simp; omega
          refine ih j' s2 _ w h1 h2 h3 hw (f12.I hI (by decide) (by decide) hm2) ((f12.c hq3 (by decide) (by decide)).trans hT) m2 (by simp; omega) (fun s' m3 f3 => kk s' ?_ (f12.trans f3))
          simpa using m3
        split
        · next h => exact two (Or.inl h)
        · next h4 =>
          split
          · next h => exact two (Or.inr (Or.inl h))
          · next h5 =>
            split
            · next h => exact two (Or.inr (Or.inr h))
            · next h6 =>
              rw [if_neg (by omega)] at kk
              refine ys_150 hc hm (by omega) (fun s2 m2 f2 => ?_)
              have hm2 : zq_i s2 232 23 ≤ 700 := by rw [m2.1]; simp; omega
              refine ih j' s2 _ w h1 h2 h3 hw (f2.I hI (by decide) (by decide) hm2) ((f2.c hq3 (by decide) (by decide)).trans hT) m2 (by simp; omega) (fun s' m3 f3 => kk s' ?_ (f2.trans f3))
              simpa using m3
      refine ys_147 hI hq ⟨by omega, by omega⟩ ?_
      have el : yp_let T (e - 1) (n + 1) j = if T j = 92 then T (j + 1) :: yp_let T (e - 1) n (j + 2) else T j :: yp_let T (e - 1) n (j + 1) := if_pos hlt
      have ec : ∀ c (r : List Int), ye_esc (c :: r) = (if c = 40 ∨ c = 41 ∨ c = 92 then [92, c] else [c]) ++ ye_esc r := fun _ _ => rfl
      by_cases h92 : ym_c s q j = 92
      · rw [if_pos h92]
        refine ys_147 hI hq ⟨by omega, by omega⟩ ?_
        rw [show j + 1 + 1 = j + 2 by omega]
        refine one (ym_c s q (j + 1)) (j + 2) _ (ym_ch hR q (j + 1)) rfl (by omega) (by omega) (by omega) ?_
        rw [← hT] at el k ⊢
        rw [if_pos h92] at el
        rw [el, ec] at k
        exact k
      · rw [if_neg h92]
        refine ys_147 hI hq ⟨by omega, by omega⟩ ?_
        refine one (ym_c s q j) (j + 1) _ (ym_ch hR q j) rfl (by omega) (by omega) (by omega) ?_
        rw [← hT] at el k ⊢
        rw [if_neg h92] at el
        rw [el, ec] at k
        exact k
    · rw [if_neg hlt]
      have el : yp_let T (e - 1) (n + 1) j = [] := if_neg hlt
      rw [el] at k
      exact ys_150 ⟨by decide, by decide⟩ hm (by omega) (fun s1 m1 f1 => k s1 (by simpa [ye_esc] using m1) f1)
set_option maxRecDepth 100000 in
theorem ys_169 {s : zq_S} {l : List Int} (hI : ym_I s) (hq : ym_q q) (hq3 : q ≠ 3) {p e : Int} (h0 : -100 ≤ p) (h1 : p < e) (he : e ≤ 2000) (hm : ymd s l) (hl : l.length + 2 * (e - p).toNat + 2 ≤ 700) (k : ∀ s', ymd s' (l ++ (40 :: (ye_esc (yp_let (ym_c s q) (e - 1) (e - p).toNat (p + 1)) ++ [41]))) → ymf [23] [245] s s' → K s') : zq_Ex X 169 0 [.ref 232, zq_vi q, zq_vi p, zq_vi e, zz_no, zz_no] [] s (zq_rv K) := by
  have hp : zq_iv p := ⟨by omega, by omega⟩
  refine zw_169 hq.in hp ⟨by omega, by omega⟩ (ys_150 ⟨by decide, by decide⟩ hm (by omega) (fun s1 m1 f1 => ?_))
  have hm1 : zq_i s1 232 23 ≤ 700 := by rw [m1.1]; simp; omega
  refine ys_169_11 hq hq3 (ym_c s q) hp he (by omega) (e - p).toNat (p + 1) s1 _ _ (by omega) (by omega) (by omega) rfl (f1.I hI (by decide) (by decide) hm1) (f1.c hq3 (by decide) (by decide)) m1 (by simp; omega) (fun s' m2 f2 => k s' ?_ (f1.trans f2))
  simpa using m2
end YMD
