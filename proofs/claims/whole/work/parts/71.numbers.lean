/-! numbers are written; the reference's row 'made' -/
set_option maxRecDepth 100000 in
theorem zq_div_nn {x y : Int} (hx : zq_iv x) (h0 : 0 ≤ x) (hy : zq_iv y) (h1 : 0 < y) : zq_div x y = x / y := by
  unfold zq_div
  rw [Int32.toInt_div_of_ne_right _ _ (fun z => by
    have := congrArg Int32.toInt z
    rw [zq_toInt hy] at this
    have e : (-1 : Int32).toInt = -1 := by decide
    omega), zq_toInt hx, zq_toInt hy, Int.tdiv_eq_ediv_of_nonneg h0]
set_option maxRecDepth 100000 in
theorem zq_rem_nn {x y : Int} (hx : zq_iv x) (h0 : 0 ≤ x) (hy : zq_iv y) (h1 : 0 < y) : zq_rem x y = x % y := by
  have e1 : Int32.ofInt x / Int32.ofInt y = Int32.ofInt (x / y) := by
    rw [← zq_div_nn hx h0 hy h1]
    unfold zq_div
    rw [zq_of32]
  have e2 : x - x / y * y = x % y := by rw [Int.emod_def, Int.mul_comm]
  have m0 := Int.emod_nonneg x (show y ≠ 0 by omega)
  have m1 := Int.emod_lt_of_pos x h1
  unfold zq_rem
  rw [e1, ← Int32.ofInt_mul, ← Int32.ofInt_sub, e2]
  exact zq_toInt ⟨by omega, by omega⟩
/-- digits from place k on -/
def yd_f : Nat → Int → List Int
  | 0, n => [48 + n % 10]
  | k + 1, n => (48 + n / 10 ^ (k + 1) % 10) :: yd_f k n
set_option maxRecDepth 100000 in
theorem yd_pow : ∀ k : Nat, k < 6 → (1 : Int) ≤ 10 ^ k ∧ (10 : Int) ^ k ≤ 100000 := by decide
set_option maxRecDepth 100000 in
theorem yd_pow2 : ∀ k : Nat, k < 6 → (10 : Int) ^ (k + 1) / 10 = 10 ^ k := by decide
set_option maxRecDepth 100000 in
theorem yd_dec (n : Nat) : ∀ k : Nat, k < 6 → (n : Int) < 10 ^ (k + 1) → (k = 0 ∨ (10 : Int) ^ k ≤ n) → yd_f k n = ye_dec 5 n := by
  intro k hk h1 h2
  have e10 : (10 : Int) ^ 1 = 10 ∧ (10 : Int) ^ 2 = 100 ∧ (10 : Int) ^ 3 = 1000 ∧ (10 : Int) ^ 4 = 10000 ∧ (10 : Int) ^ 5 = 100000 ∧ (10 : Int) ^ 6 = 1000000 := by decide
  obtain ⟨p1, p2, p3, p4, p5, p6⟩ := e10
  rcases (show k = 0 ∨ k = 1 ∨ k = 2 ∨ k = 3 ∨ k = 4 ∨ k = 5 by omega) with e | e | e | e | e | e <;> subst e <;> simp only [Nat.zero_add, Nat.reduceAdd, p1, p2, p3, p4, p5, p6] at h1 h2 <;> simp only [yd_f, Nat.zero_add, Nat.reduceAdd, p1, p2, p3, p4, p5, p6]
  · simp only [ye_dec]
    rw [if_pos (by omega)]
    simp
    omega
  · simp only [ye_dec]
    rw [if_neg (by omega), if_pos (by omega)]
    simp
    omega
  · simp only [ye_dec]
    rw [if_neg (by omega), if_neg (by omega), if_pos (by omega)]
    simp
    omega
  · simp only [ye_dec]
    rw [if_neg (by omega), if_neg (by omega), if_neg (by omega), if_pos (by omega)]
    simp
    omega
  · simp only [ye_dec]
    rw [if_neg (by omega), if_neg (by omega), if_neg (by omega), if_neg (by omega), if_pos (by omega)]
    simp
    omega
  · simp only [ye_dec]
    rw [if_neg (by omega), if_neg (by omega), if_neg (by omega), if_neg (by omega), if_neg (by omega)]
    simp
    omega
section YD
variable {X : Nat × (Nat → Int32)} {K : zq_S → Prop} {x n : Int} {a : Nat}
set_option maxRecDepth 100000 in
theorem ys_24_t (ha : zq_o 1 a) (hx : zq_iv x) (n0 : 0 ≤ n) (n1 : n < 1000000) : ∀ (k : Nat) (s : zq_S) (q : List Int × Int) (v : Value), k < 6 → v.category = 1 → yx s a q → (∀ s', yx s' a (yx_ps (zq_T a) q (yd_f k n)) → yf [a, a + 1] s s' → K s') → zq_Ex X 24 21 [.ref a, zq_vi x, zq_vi n, zq_vi 1, zq_vi (10 ^ k), v] [] s (zq_rv K) := by
  have hn : zq_iv n := ⟨by omega, by omega⟩
  intro k
  induction k with
  | zero =>
    intro s q v hk hv hq kk
    have d1 : zq_div n (10 ^ 0) = n := by rw [zq_div_nn hn n0 (by decide) (by decide)]; simp
    have d2 : zq_rem n 10 = n % 10 := zq_rem_nn hn n0 (by decide) (by decide)
    refine zw_24_21 ha hx hn (Or.inr rfl) (by decide) hv ?_
    rw [if_neg (by decide)]
    refine ⟨by decide, ?_⟩
    rw [if_neg (by decide), d1, d2]
    refine ys_19 ha hq ⟨by omega, by omega⟩ (fun s1 h1 f1 => ?_)
    refine zw_24_21 ha hx hn (Or.inr rfl) (zq_in32 _) rfl ?_
    rw [if_pos (by decide)]
    exact kk s1 h1 f1
  | succ k ih =>
    intro s q v hk hv hq kk
    have p := yd_pow (k + 1) (by omega)
    have p' := yd_pow k (by omega)
    have hp : zq_iv ((10 : Int) ^ (k + 1)) := ⟨by omega, by omega⟩
    have q0 : 0 ≤ n / 10 ^ (k + 1) := Int.ediv_nonneg n0 (by omega)
    have q1 : n / 10 ^ (k + 1) ≤ n := Int.ediv_le_self _ n0
    have d1 : zq_div n (10 ^ (k + 1)) = n / 10 ^ (k + 1) := zq_div_nn hn n0 hp (by omega)
    have d2 : zq_rem (n / 10 ^ (k + 1)) 10 = n / 10 ^ (k + 1) % 10 := zq_rem_nn ⟨by omega, by omega⟩ q0 (by decide) (by decide)
    have d3 : zq_div (10 ^ (k + 1)) 10 = 10 ^ k := by rw [zq_div_nn hp (by omega) (by decide) (by decide)]; exact yd_pow2 k (by omega)
    refine zw_24_21 ha hx hn (Or.inr rfl) hp hv ?_
    rw [if_neg (by omega)]
    refine ⟨by omega, ?_⟩
    rw [if_neg (by decide), d1, d2, d3]
    refine ys_19 ha hq ⟨by omega, by omega⟩ (fun s1 h1 f1 => ih s1 _ _ (by omega) rfl h1 (fun s' h2 f2 => kk s' h2 (f1.trans f2)))
set_option maxRecDepth 100000 in
theorem ys_24_f (ha : zq_o 1 a) (hx : zq_iv x) (n0 : 0 ≤ n) : ∀ (k : Nat) (s : zq_S) (q : List Int × Int) (v : Value), k < 6 → n < 10 ^ (k + 1) → v.category = 1 → yx s a q → (∀ s', yx s' a (yx_ps (zq_T a) q (ye_dec 5 n.toNat)) → yf [a, a + 1] s s' → K s') → zq_Ex X 24 21 [.ref a, zq_vi x, zq_vi n, zq_vi 0, zq_vi (10 ^ k), v] [] s (zq_rv K) := by
  have en : ((n.toNat : Nat) : Int) = n := by omega
  intro k
  induction k with
  | zero =>
    intro s q v hk hn1 hv hq kk
    have hn1 : n < 10 := hn1
    have hn : zq_iv n := ⟨by omega, by omega⟩
    have d1 : zq_div n (10 ^ 0) = n := by rw [zq_div_nn hn n0 (by decide) (by decide)]; simp
    have d2 : zq_rem n 10 = n % 10 := zq_rem_nn hn n0 (by decide) (by decide)
    have ee : ye_dec 5 n.toNat = [48 + n % 10] := by
      have := yd_dec n.toNat 0 (by decide) (by rw [en]; exact hn1) (Or.inl rfl)
      rw [← this, en]
      rfl
    rw [ee] at kk
    refine zw_24_21 ha hx hn (Or.inl rfl) (by decide) hv ?_
    rw [if_neg (by decide)]
    refine ⟨by decide, ?_⟩
    rw [if_pos rfl, d1, d2]
    have go : zq_Ex X 19 0 [.ref a, zq_vi (48 + n % 10)] [] s (zq_rv fun s_8 => zq_Ex X 24 21 [.ref a, zq_vi x, zq_vi n, zq_vi 1, zq_vi (zq_div (10 ^ 0) 10), zq_vi (n % 10)] [] s_8 (zq_rv K)) := by
      refine ys_19 ha hq ⟨by omega, by omega⟩ (fun s1 h1 f1 => ?_)
      refine zw_24_21 ha hx hn (Or.inr rfl) (zq_in32 _) rfl ?_
      rw [if_pos (by decide)]
      exact kk s1 h1 f1
    split
    · rw [if_pos (by decide)]
      exact go
    · exact go
  | succ k ih =>
    intro s q v hk hn1 hv hq kk
    have p := yd_pow (k + 1) (by omega)
    have p' := yd_pow k (by omega)
    have p6 : (10 : Int) ^ (k + 1 + 1) ≤ 1000000 := (show ∀ k : Nat, k < 5 → (10 : Int) ^ (k + 1 + 1) ≤ 1000000 by decide) k (by omega)
    have hn : zq_iv n := ⟨by omega, by omega⟩
    have hp : zq_iv ((10 : Int) ^ (k + 1)) := ⟨by omega, by omega⟩
    have q0 : 0 ≤ n / 10 ^ (k + 1) := Int.ediv_nonneg n0 (by omega)
    have q1 : n / 10 ^ (k + 1) ≤ n := Int.ediv_le_self _ n0
    have q2 : n / 10 ^ (k + 1) < 10 := by
      apply Int.ediv_lt_of_lt_mul (by omega)
      rw [Int.pow_succ] at hn1
      rw [Int.mul_comm]
      exact hn1
    have d1 : zq_div n (10 ^ (k + 1)) = n / 10 ^ (k + 1) := zq_div_nn hn n0 hp (by omega)
    have d2 : zq_rem (n / 10 ^ (k + 1)) 10 = n / 10 ^ (k + 1) := by
      rw [zq_rem_nn ⟨by omega, by omega⟩ q0 (by decide) (by decide)]
      omega
    have d3 : zq_div (10 ^ (k + 1)) 10 = 10 ^ k := by rw [zq_div_nn hp (by omega) (by decide) (by decide)]; exact yd_pow2 k (by omega)
    refine zw_24_21 ha hx hn (Or.inl rfl) hp hv ?_
    rw [if_neg (by omega)]
    refine ⟨by omega, ?_⟩
    rw [if_pos rfl, d1, d2, d3]
    split
    · next hz =>
      have hlt : n < 10 ^ (k + 1) := by
        have e0 : n / 10 ^ (k + 1) = 0 := by omega
        have e1 := Int.lt_ediv_add_one_mul_self n (show (0 : Int) < 10 ^ (k + 1) by omega)
        rw [e0] at e1
        omega
      have h10 : (10 : Int) ≤ 10 ^ (k + 1) := (show ∀ k : Nat, k < 5 → (10 : Int) ≤ 10 ^ (k + 1) by decide) k (by omega)
      rw [if_neg (by omega)]
      exact ih s q _ (by omega) hlt rfl hq kk
    · next hz =>
      have hge : (10 : Int) ^ (k + 1) ≤ n := by
        apply Decidable.byContradiction
        intro hz2
        have : n / 10 ^ (k + 1) = 0 := Int.ediv_eq_zero_of_lt n0 (by omega)
        omega
      have ee : ye_dec 5 n.toNat = (48 + n / 10 ^ (k + 1)) :: yd_f k n := by
        have := yd_dec n.toNat (k + 1) hk (by rw [en]; exact hn1) (Or.inr (by rw [en]; exact hge))
        rw [← this, en]
        show (48 + n / 10 ^ (k + 1) % 10) :: yd_f k n = _
        rw [show n / 10 ^ (k + 1) % 10 = n / 10 ^ (k + 1) by omega]
      rw [ee] at kk
      refine ys_19 ha hq ⟨by omega, by omega⟩ (fun s1 h1 f1 => ys_24_t ha hx n0 (by omega) k s1 _ _ (by omega) rfl h1 (fun s' h2 f2 => kk s' h2 (f1.trans f2)))
set_option maxRecDepth 100000 in
/-- Text.addNumber -/
theorem ys_24 {s : zq_S} {q : List Int × Int} (ha : zq_o 1 a) (hx : -1000000 < x ∧ x < 1000000) (hq : yx s a q) (kk : ∀ s', yx s' a (yx_ps (zq_T a) q (ye_num x)) → yf [a, a + 1] s s' → K s') : zq_Ex X 24 0 [.ref a, zq_vi x, zz_no, zz_no, zz_no, zz_no] [] s (zq_rv K) := by
  have hx' : zq_iv x := ⟨by omega, by omega⟩
  refine zw_24 ha hx' ?_
  unfold ye_num at kk
  split
  · next h =>
    rw [if_pos h] at kk
    refine ys_19 ha hq ⟨by decide, by decide⟩ (fun s1 h1 f1 => zw_25 hx' ?_)
    rw [if_pos h]
    refine ⟨⟨by omega, by omega⟩, ?_⟩
    refine ys_24_f ha hx' (by omega) 5 s1 _ _ (by decide) (by show -x < 1000000; omega) rfl h1 (fun s' h2 f2 => kk s' ?_ (f1.trans f2))
    rw [show (-x).toNat = x.natAbs by omega] at h2
    exact h2
  · next h =>
    rw [if_neg h] at kk
    refine zw_25 hx' ?_
    rw [if_neg h]
    refine ys_24_f ha hx' (by omega) 5 s _ _ (by decide) (by show x < 1000000; omega) rfl hq (fun s' h2 f2 => kk s' ?_ f2)
    rw [show x.toNat = x.natAbs by omega] at h2
    exact h2
end YD
