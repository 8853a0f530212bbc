/-! load: the bits of the places met -/
set_option maxRecDepth 100000 in
theorem yb_sh : ∀ k : Nat, k < 64 → ((Int32.ofInt (k : Int)).toInt64 &&& 63).toBitVec.smod 64 = BitVec.ofNat 64 k := by decide +kernel
set_option maxRecDepth 100000 in
theorem yb_get (x : Int64) {k : Nat} (hk : k < 64) : (((x >>> ((Int32.ofInt (k : Int)).toInt64 &&& 63)) &&& 1) = 0) ↔ x.toBitVec.getLsbD k = false := by
  have hs := yb_sh k hk
  have e : ((x >>> ((Int32.ofInt (k : Int)).toInt64 &&& 63)) &&& 1).toBitVec = (x.toBitVec.sshiftRight k) &&& 1#64 := by
    show (x.toBitVec.sshiftRight' (((Int32.ofInt (k : Int)).toInt64 &&& 63).toBitVec.smod 64)) &&& 1#64 = _
    rw [hs]
    unfold BitVec.sshiftRight'
    rw [BitVec.toNat_ofNat, Nat.mod_eq_of_lt (by omega)]
  have e2 : (((x >>> ((Int32.ofInt (k : Int)).toInt64 &&& 63)) &&& 1) = 0) ↔ (x.toBitVec.sshiftRight k) &&& 1#64 = 0#64 := by
    rw [← e]
    exact ⟨fun z => by rw [z]; rfl, fun z => Int64.toBitVec_inj.mp z⟩
  rw [e2]
  have g0 : (x.toBitVec.sshiftRight k).getLsbD 0 = x.toBitVec.getLsbD k := by
    rw [BitVec.getLsbD_sshiftRight, Nat.add_zero, if_pos hk]
    rfl
  have one : (1#64).getLsbD 0 = true := by decide
  constructor
  · intro h
    have h0 : ((x.toBitVec.sshiftRight k) &&& 1#64).getLsbD 0 = (0#64).getLsbD 0 := by rw [h]
    rw [BitVec.getLsbD_and, one, Bool.and_true, g0] at h0
    exact h0
  · intro h
    refine BitVec.eq_of_getLsbD_eq fun i hi => ?_
    simp only [BitVec.getLsbD_and, BitVec.getLsbD_zero]
    by_cases h0 : i = 0
    · subst h0
      rw [g0, h]
      rfl
    · have : (1#64).getLsbD i = false := by
        simp [BitVec.getLsbD_one, h0]
      rw [this, Bool.and_false]
set_option maxRecDepth 100000 in
theorem yb_set (x : Int64) {k j : Nat} (hk : k < 64) (hj : j < 64) : (x ||| (1 <<< ((Int32.ofInt (k : Int)).toInt64 &&& 63))).toBitVec.getLsbD j = (x.toBitVec.getLsbD j || decide (j = k)) := by
  have hs := yb_sh k hk
  have e : (x ||| (1 <<< ((Int32.ofInt (k : Int)).toInt64 &&& 63))).toBitVec = x.toBitVec ||| (1#64 <<< k) := by
    show x.toBitVec ||| (1#64 <<< (((Int32.ofInt (k : Int)).toInt64 &&& 63).toBitVec.smod 64)) = _
    rw [hs]
    show x.toBitVec ||| (1#64 <<< (BitVec.ofNat 64 k).toNat) = _
    rw [BitVec.toNat_ofNat, Nat.mod_eq_of_lt (by omega)]
  rw [e, BitVec.getLsbD_or]
  congr 1
  rw [BitVec.getLsbD_shiftLeft]
  by_cases h : j = k
  · subst h
    simp [hj]
  · by_cases h2 : j < k
    · simp [h2, h]
    · have : j - k ≠ 0 := by omega
      simp [BitVec.getLsbD_one, hj, h2, h, this]
