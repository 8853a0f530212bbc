/-! a long's bytes -/
def ytb1 (y : Int64) (i : Nat) : Int := ((y.toBitVec.toNat / 256 ^ i % 256 : Nat) : Int)
/-- the bytes from i on, up to the first 0 -/
def ytb (y : Int64) : Nat → Nat → List Int
  | 0, _ => []
  | k + 1, i => if ytb1 y i = 0 then [] else ytb1 y i :: ytb y k (i + 1)
set_option maxRecDepth 100000 in
theorem ytb1_r (y : Int64) (i : Nat) : 0 ≤ ytb1 y i ∧ ytb1 y i < 256 := by
  unfold ytb1
  omega
set_option maxRecDepth 100000 in
theorem ytb_len (y : Int64) : ∀ k i, (ytb y k i).length ≤ k
  | 0, _ => by simp [ytb]
  | k + 1, i => by
    have := ytb_len y k (i + 1)
    unfold ytb
    split
    · simp
    · simp; omega
set_option maxRecDepth 100000 in
/-- the reference's way to a byte -/
theorem yk_byte2 (y : Int64) : ∀ i : Nat, i < 8 → ((((y).toUInt64 >>> ((Int32.ofInt (8 * (i : Int))).toInt64.toUInt64 &&& Int64.toUInt64 63)).toInt64) &&& (255)).toInt32.toInt = ytb1 y i := by
  intro i hi
  have key : ∀ k : UInt64, k.toBitVec.toNat = 8 * i → (((y.toUInt64 >>> k).toInt64) &&& (255)).toInt32.toInt = ytb1 y i := by
    intro k hk
    have e4 : (y.toUInt64 >>> k).toBitVec.toNat = y.toBitVec.toNat / 256 ^ i := by
      rw [UInt64.toBitVec_shiftRight]
      have e5 : (y.toUInt64.toBitVec >>> (k.toBitVec % 64)).toNat = y.toUInt64.toBitVec.toNat >>> (k.toBitVec % 64).toNat := BitVec.toNat_ushiftRight _ _
      rw [e5, BitVec.toNat_umod, hk, show (64 : BitVec 64).toNat = 64 from rfl, Nat.mod_eq_of_lt (by omega), Nat.shiftRight_eq_div_pow, show (2 : Nat) ^ (8 * i) = 256 ^ i by rw [Nat.pow_mul]]
      rfl
    have e1 : ((y.toUInt64 >>> k).toInt64 &&& 255).toInt32.toInt = (((y.toUInt64 >>> k).toBitVec &&& 255#64).signExtend 32).toInt := rfl
    rw [e1, BitVec.signExtend_eq_setWidth_of_le _ (by decide)]
    have e2 : (((y.toUInt64 >>> k).toBitVec &&& 255#64).setWidth 32).toNat = y.toBitVec.toNat / 256 ^ i % 256 := by
      rw [BitVec.toNat_setWidth, BitVec.toNat_and, e4]
      have e6 : y.toBitVec.toNat / 256 ^ i &&& (255#64).toNat = y.toBitVec.toNat / 256 ^ i % 256 := Nat.and_two_pow_sub_one_eq_mod _ 8
      rw [e6]
      omega
    rw [BitVec.toInt_eq_toNat_of_lt (by rw [e2]; omega), e2]
    rfl
  refine key _ ?_
  have : ∀ i : Nat, i < 8 → ((Int32.ofInt (8 * (i : Int))).toInt64.toUInt64 &&& Int64.toUInt64 63).toBitVec.toNat = 8 * i := by decide
  exact this i hi
section YL7
variable {X : Nat × (Nat → Int32)} {a : Nat} {y : Int64}
set_option maxRecDepth 100000 in
theorem ys_21y {s : zq_S} {K : Int → zq_S → Prop} {i : Nat} (hi : i < 8) (k : K (ytb1 y i) s) : zq_Ex X 21 0 [.long y, zz_no, zq_vi i] [] s (zq_rp zq_iv K) := by
  refine zw_21 ⟨by omega, by omega⟩ ?_
  rw [yk_byte _ i hi]
  exact k
set_option maxRecDepth 100000 in
theorem ys_39_2 {s : zq_S} {K : Int → zq_S → Prop} : ∀ (k i : Nat), i + k = 8 → K ((i + (ytb y k i).length : Nat) : Int) s → zq_Ex X 39 2 [.long y, zz_no, zq_vi i] [] s (zq_rp zq_iv K)
  | 0, i, hi, h => by
    refine zw_39_2 ⟨by omega, by omega⟩ ?_
    rw [if_neg (by omega)]
    simpa [ytb] using h
  | k + 1, i, hi, h => by
    refine zw_39_2 ⟨by omega, by omega⟩ ?_
    rw [if_pos (by omega)]
    refine ys_21y (by omega) ?_
    unfold ytb at h
    refine yl_if (fun z => ?_) (fun z => ?_)
    · rw [if_pos z] at h
      simpa using h
    · rw [if_neg z] at h
      refine ys_39_2 k (i + 1) (by omega) ?_
      rw [show i + 1 + (ytb y k (i + 1)).length = i + (ytb1 y i :: ytb y k (i + 1)).length by simp; omega]
      exact h
set_option maxRecDepth 100000 in
/-- countOfBytes -/
theorem ys_39 {s : zq_S} {K : Int → zq_S → Prop} (k : K ((ytb y 8 0).length : Nat) s) : zq_Ex X 39 0 [.long y, zz_no, zz_no] [] s (zq_rp zq_iv K) := zw_39 (ys_39_2 8 0 rfl (by simpa using k))
set_option maxRecDepth 100000 in
theorem ys_20y_2 {K : zq_S → Prop} (ha : zq_o 1 a) : ∀ (k i : Nat) (s : zq_S) (q : List Int × Int), i + k = 8 → yx s a q → (∀ s', yx s' a (yx_ps (zq_T a) q (ytb y k i)) → yf [a, a + 1] s s' → K s') → zq_Ex X 20 2 [.ref a, .long y, zz_no, zq_vi i] [] s (zq_rv K)
  | 0, i, s, q, hi, hx, h => by
    refine zw_20_2 ha ⟨by omega, by omega⟩ ?_
    rw [if_neg (by omega)]
    exact h s hx (yf.refl _ _)
  | k + 1, i, s, q, hi, hx, h => by
    have hr := ytb1_r y i
    refine zw_20_2 ha ⟨by omega, by omega⟩ ?_
    rw [if_pos (by omega)]
    refine ys_21y (by omega) ?_
    unfold ytb at h
    refine yl_if (fun z => ?_) (fun z => ?_)
    · rw [if_pos z] at h
      exact h s hx (yf.refl _ _)
    · rw [if_neg z] at h
      refine ys_21y (by omega) (ys_19 ha hx ⟨by omega, by omega⟩ fun s1 x1 f1 => ?_)
      exact ys_20y_2 ha k (i + 1) s1 _ (by omega) x1 fun s2 x2 f2 => h s2 x2 (f1.trans f2)
set_option maxRecDepth 100000 in
theorem ys_20y {s : zq_S} {K : zq_S → Prop} {q : List Int × Int} (ha : zq_o 1 a) (hx : yx s a q) (k : ∀ s', yx s' a (yx_ps (zq_T a) q (ytb y 8 0)) → yf [a, a + 1] s s' → K s') : zq_Ex X 20 0 [.ref a, .long y, zz_no, zz_no] [] s (zq_rv K) := zw_20 ha (ys_20y_2 ha 8 0 s q rfl hx k)
end YL7
