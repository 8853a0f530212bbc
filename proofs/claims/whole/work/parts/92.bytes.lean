/-! bytes of packed names; Text.addPacked -/
set_option maxRecDepth 100000 in
theorem yk_b32 (x : BitVec 32) : (x &&& 255#32).toInt = ((x.toNat % 256 : Nat) : Int) := by
  have h : (x &&& 255#32).toNat = x.toNat % 256 := by
    rw [BitVec.toNat_and]
    exact Nat.and_two_pow_sub_one_eq_mod x.toNat 8
  rw [BitVec.toInt_eq_toNat_of_lt (by rw [h]; omega), h]
set_option maxRecDepth 100000 in
theorem yk_byte (y : Int64) : ∀ i : Nat, i < 8 → zq_and ((((y).toUInt64 >>> ((Int32.ofInt (8 * (i : Int))).toInt64.toUInt64 &&& Int64.toUInt64 63)).toInt64).toInt32.toInt) (255) = ((y.toBitVec.toNat / 256 ^ i % 256 : Nat) : Int) := by
  intro i hi
  have key : ∀ k : UInt64, k.toBitVec.toNat = 8 * i → zq_and (((y.toUInt64 >>> k).toInt64).toInt32.toInt) (255) = ((y.toBitVec.toNat / 256 ^ i % 256 : Nat) : Int) := by
    intro k hk
    unfold zq_and
    rw [Int32.ofInt_toInt]
    have e : ((y.toUInt64 >>> k).toInt64.toInt32 &&& Int32.ofInt 255).toInt = ((y.toUInt64 >>> k).toInt64.toInt32.toBitVec &&& 255#32).toInt := rfl
    rw [e, yk_b32]
    have e2 : (y.toUInt64 >>> k).toInt64.toInt32.toBitVec.toNat = (y.toUInt64 >>> k).toBitVec.toNat % 2 ^ 32 := by
      have e3 : (y.toUInt64 >>> k).toInt64.toInt32.toBitVec = (y.toUInt64 >>> k).toBitVec.signExtend 32 := rfl
      rw [e3, BitVec.signExtend_eq_setWidth_of_le _ (by decide), BitVec.toNat_setWidth]
    have e4 : (y.toUInt64 >>> k).toBitVec.toNat = y.toBitVec.toNat / 256 ^ i := by
      rw [UInt64.toBitVec_shiftRight]
      have e5 : (y.toUInt64.toBitVec >>> (k.toBitVec % 64)).toNat = y.toUInt64.toBitVec.toNat >>> (k.toBitVec % 64).toNat := BitVec.toNat_ushiftRight _ _
      rw [e5, BitVec.toNat_umod, hk, show (64 : BitVec 64).toNat = 64 from rfl, Nat.mod_eq_of_lt (by omega), Nat.shiftRight_eq_div_pow, show (2 : Nat) ^ (8 * i) = 256 ^ i by rw [Nat.pow_mul]]
      rfl
    rw [e2, e4]
    congr 1
    omega
  refine key _ ?_
  have : ∀ i : Nat, i < 8 → ((Int32.ofInt (8 * (i : Int))).toInt64.toUInt64 &&& Int64.toUInt64 63).toBitVec.toNat = 8 * i := by decide
  exact this i hi
section YP1
variable {X : Nat × (Nat → Int32)} {a : Nat}
set_option maxRecDepth 100000 in
theorem ys_21 {s : zq_S} {K : Int → zq_S → Prop} {l : List Int} (h : yk_c l) (hl : l.length ≤ 7) {i : Nat} (hi : i < 8) (k : K (l.getD i 0) s) : zq_Ex X 21 0 [.long (ye_pk l 0), zz_no, zq_vi i] [] s (zq_rp zq_iv K) := by
  refine zw_21 ⟨by omega, by omega⟩ ?_
  rw [yk_byte _ i hi, yk_pk l 0 h (by omega), Nat.mul_zero, Nat.pow_zero, Nat.mul_one, yk_dig l i h]
  by_cases hj : i < l.length
  · have := h (l.getD i 0) (by simp [List.getD_eq_getElem?_getD, List.getElem?_eq_getElem hj])
    rw [Int.toNat_of_nonneg (by omega)]
    exact k
  · rw [List.getD_eq_getElem?_getD, List.getElem?_eq_none (by omega)] at *
    exact k
set_option maxRecDepth 100000 in
theorem ys_20_2 {K : zq_S → Prop} (ha : zq_o 1 a) {l : List Int} (h : yk_c l) (hl : l.length ≤ 7) : ∀ (m i : Nat) (s : zq_S) (q : List Int × Int), i + m = l.length → yx s a q → (∀ s', yx s' a (yx_ps (zq_T a) q (l.drop i)) → yf [a, a + 1] s s' → K s') → zq_Ex X 20 2 [.ref a, .long (ye_pk l 0), zz_no, zq_vi i] [] s (zq_rv K) := by
  intro m
  induction m with
  | zero =>
    intro i s q hm hx k
    have hK : K s := k s (by rw [List.drop_of_length_le (by omega)]; exact hx) (yf.refl _ _)
    refine zw_20_2 ha ⟨by omega, by omega⟩ ?_
    rw [if_pos (by omega)]
    refine ys_21 h hl (by omega) ?_
    rw [if_pos (by simp [List.getD_eq_getElem?_getD, List.getElem?_eq_none (show l.length ≤ i by omega)])]
    exact hK
  | succ m ih =>
    intro i s q hm hx k
    have hi : i < l.length := by omega
    have hc := h l[i] (List.getElem_mem hi)
    have hg : l.getD i 0 = l[i] := by simp [List.getD_eq_getElem?_getD, List.getElem?_eq_getElem hi]
    refine zw_20_2 ha ⟨by omega, by omega⟩ ?_
    rw [if_pos (by omega)]
    refine ys_21 h hl (by omega) ?_
    rw [hg, if_neg (by omega)]
    refine ys_21 h hl (by omega) ?_
    rw [hg]
    refine ys_19 ha hx ⟨by omega, by omega⟩ fun s1 x1 f1 => ?_
    refine ih (i + 1) s1 _ (by omega) x1 fun s2 x2 f2 => k s2 ?_ (f1.trans f2)
    rw [List.drop_eq_getElem_cons hi]
    exact x2
set_option maxRecDepth 100000 in
theorem ys_20 {s : zq_S} {K : zq_S → Prop} {q : List Int × Int} (ha : zq_o 1 a) {l : List Int} (h : yk_c l) (hl : l.length ≤ 7) (hx : yx s a q) (k : ∀ s', yx s' a (yx_ps (zq_T a) q l) → yf [a, a + 1] s s' → K s') : zq_Ex X 20 0 [.ref a, .long (ye_pk l 0), zz_no, zz_no] [] s (zq_rv K) := zw_20 ha (ys_20_2 ha h hl l.length 0 s q (by omega) hx (by simpa using k))
end YP1
