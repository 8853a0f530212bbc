/-! THE QUICK LOGIC, second part: the rules. Ex: from a place in a method, at a state, it comes to an end with Q -/
def zq_bc (s : zq_S) : Nat := 600764 - zq_n s
def zq_bs (s : zq_S) : Nat := 7271435 - 6 * zq_n s
def zq_Ex (X : Nat × (Nat → Int32)) (M pc : Nat) (L st : List Value) (s : zq_S) (Q : Outcome → zq_S → Prop) : Prop := ∀ h, zq_pic h s → ∃ o h' s', zr_ex zt_Z X M (pc, L, st, h, zq_bc s, zq_bs s) (o, h', zq_bc s', zq_bs s') ∧ zq_pic h' s' ∧ Q o s'
/-- ends: an int that is p, nothing, a reference to an object of class c or null, a long; with exceptions: T -/
def zq_rp (p : Int → Prop) (K : Int → zq_S → Prop) : Outcome → zq_S → Prop := fun o s => ∃ x, o = .returned (some (zq_vi x)) ∧ p x ∧ K x s
def zq_rv (K : zq_S → Prop) : Outcome → zq_S → Prop := fun o s => o = .returned none ∧ K s
def zq_rr (ci : Nat) (K : Option Nat → zq_S → Prop) : Outcome → zq_S → Prop := fun o s => ∃ y, o = .returned (some (va_rf y)) ∧ (∀ b, y = some b → zq_o ci b) ∧ K y s
def zq_rl (K : Int64 → zq_S → Prop) : Outcome → zq_S → Prop := fun o s => ∃ x, o = .returned (some (.long x)) ∧ K x s
def zq_rx (Q : Outcome → zq_S → Prop) (T : Nat → zq_S → Prop) : Outcome → zq_S → Prop := fun o s => Q o s ∨ (o = .threw (259 + zq_n s) ∧ 0 < zq_n s ∧ T (zq_x s) s)
section ZQ
variable {X : Nat × (Nat → Int32)} {M pc n : Nat} {L st t : List Value} {s : zq_S} {Q : Outcome → zq_S → Prop} {r : List Nat} {x y : Int} {a b : Nat}
theorem zq_Ex.mono {Q' : Outcome → zq_S → Prop} (k : zq_Ex X M pc L st s Q) (hq : ∀ o s, Q o s → Q' o s) : zq_Ex X M pc L st s Q' := fun h hp => let ⟨o, h', s', e, p, q⟩ := k h hp; ⟨o, h', s', e, p, hq o s' q⟩
theorem zq_have (k : zq_R s → zq_Ex X M pc L st s Q) : zq_Ex X M pc L st s Q := fun h hp => k hp.R h hp
theorem zq_pre {pc' : Nat} {L' st' : List Value} (hs : ∀ h, zq_pic h s → zr_to zt_Z X M (pc, L, st, h, zq_bc s, zq_bs s) (pc', L', st', h, zq_bc s, zq_bs s)) (k : zq_Ex X M pc' L' st' s Q) : zq_Ex X M pc L st s Q := fun h hp => let ⟨o, h', s', e, p, q⟩ := k h hp; ⟨o, h', s', (hs h hp).ex e, p, q⟩
/-- a step that changes the state -/
theorem zq_chg {pc' : Nat} {L' st' : List Value} {s1 : zq_S} (hn : zq_n s1 = zq_n s) (hs : ∀ h, zq_pic h s → ∃ h1, zr_to zt_Z X M (pc, L, st, h, zq_bc s, zq_bs s) (pc', L', st', h1, zq_bc s, zq_bs s) ∧ zq_pic h1 s1) (k : zq_Ex X M pc' L' st' s1 Q) : zq_Ex X M pc L st s Q := fun h hp => by
  obtain ⟨h1, e1, p1⟩ := hs h hp
  obtain ⟨o, h', s', e, p, q⟩ := k h1 p1
  have e2 : zq_bc s1 = zq_bc s := by unfold zq_bc; rw [hn]
  have e3 : zq_bs s1 = zq_bs s := by unfold zq_bs; rw [hn]
  rw [e2, e3] at e
  exact ⟨o, h', s', e1.ex e, p, q⟩
theorem zq_run (k : Nat) {pc' : Nat} {L' st' : List Value} (he : ∀ h bc bs, zr_run zt_Z X M k (pc, L, st, h, bc, bs) = some (pc', L', st', h, bc, bs)) (kk : zq_Ex X M pc' L' st' s Q) : zq_Ex X M pc L st s Q := zq_pre (fun h _ => zr_run_ok k (he h _ _)) kk
theorem zq_s1 {i : Instr} {pc' : Nat} {L' st' : List Value} (hc : zz_cod zt_Z M pc = some (i, n, r)) (hk : zz_kd i r = 0) (he : zz_st1 i r pc L st = some (pc', L', st')) (k : zq_Ex X M pc' L' st' s Q) : zq_Ex X M pc L st s Q := zq_pre (fun h _ => zr_one_ok (by unfold zr_one; simp only [hc, hk, he])) k
theorem zq_vi32 (x : Int32) : zq_vi x.toInt = .int x := by show Value.int (Int32.ofInt x.toInt) = _; rw [zq_of32]
theorem zq_iadd (hc : zz_cod zt_Z M pc = some (.iadd, n, r)) (k : zq_Ex X M (pc + 1) L (zq_vi (x + y) :: t) s Q) : zq_Ex X M pc L (zq_vi y :: zq_vi x :: t) s Q := zq_s1 hc rfl (by show some (pc + 1, L, Value.int (Int32.ofInt x + Int32.ofInt y) :: t) = _; rw [← Int32.ofInt_add]) k
theorem zq_isub (hc : zz_cod zt_Z M pc = some (.isub, n, r)) (k : zq_Ex X M (pc + 1) L (zq_vi (x - y) :: t) s Q) : zq_Ex X M pc L (zq_vi y :: zq_vi x :: t) s Q := zq_s1 hc rfl (by show some (pc + 1, L, Value.int (Int32.ofInt x - Int32.ofInt y) :: t) = _; rw [← Int32.ofInt_sub]) k
theorem zq_imul (hc : zz_cod zt_Z M pc = some (.imul, n, r)) (k : zq_Ex X M (pc + 1) L (zq_vi (x * y) :: t) s Q) : zq_Ex X M pc L (zq_vi y :: zq_vi x :: t) s Q := zq_s1 hc rfl (by show some (pc + 1, L, Value.int (Int32.ofInt x * Int32.ofInt y) :: t) = _; rw [← Int32.ofInt_mul]) k
theorem zq_ineg (hc : zz_cod zt_Z M pc = some (.ineg, n, r)) (k : zq_Ex X M (pc + 1) L (zq_vi (-x) :: t) s Q) : zq_Ex X M pc L (zq_vi x :: t) s Q := zq_s1 hc rfl (by show some (pc + 1, L, Value.int (-Int32.ofInt x) :: t) = _; rw [← Int32.ofInt_neg]) k
theorem zq_iand (hc : zz_cod zt_Z M pc = some (.iand, n, r)) (k : zq_Ex X M (pc + 1) L (zq_vi (zq_and x y) :: t) s Q) : zq_Ex X M pc L (zq_vi y :: zq_vi x :: t) s Q := zq_s1 hc rfl (by show some (pc + 1, L, Value.int (Int32.ofInt x &&& Int32.ofInt y) :: t) = _; unfold zq_and; rw [zq_vi32]) k
theorem zq_ior (hc : zz_cod zt_Z M pc = some (.ior, n, r)) (k : zq_Ex X M (pc + 1) L (zq_vi (zq_or x y) :: t) s Q) : zq_Ex X M pc L (zq_vi y :: zq_vi x :: t) s Q := zq_s1 hc rfl (by show some (pc + 1, L, Value.int (Int32.ofInt x ||| Int32.ofInt y) :: t) = _; unfold zq_or; rw [zq_vi32]) k
theorem zq_ishl (hc : zz_cod zt_Z M pc = some (.ishl, n, r)) (k : zq_Ex X M (pc + 1) L (zq_vi (zq_shl x y) :: t) s Q) : zq_Ex X M pc L (zq_vi y :: zq_vi x :: t) s Q := zq_s1 hc rfl (by show some (pc + 1, L, Value.int (Int32.ofInt x <<< (Int32.ofInt y &&& 31)) :: t) = _; unfold zq_shl; rw [zq_vi32]) k
theorem zq_ishr (hc : zz_cod zt_Z M pc = some (.ishr, n, r)) (k : zq_Ex X M (pc + 1) L (zq_vi (zq_shr x y) :: t) s Q) : zq_Ex X M pc L (zq_vi y :: zq_vi x :: t) s Q := zq_s1 hc rfl (by show some (pc + 1, L, Value.int (Int32.ofInt x >>> (Int32.ofInt y &&& 31)) :: t) = _; unfold zq_shr; rw [zq_vi32]) k
theorem zq_iush (hc : zz_cod zt_Z M pc = some (.iushr, n, r)) (k : zq_Ex X M (pc + 1) L (zq_vi (zq_ush x y) :: t) s Q) : zq_Ex X M pc L (zq_vi y :: zq_vi x :: t) s Q := zq_s1 hc rfl (by show some (pc + 1, L, Value.int ((Int32.ofInt x).toUInt32 >>> ((Int32.ofInt y).toUInt32 &&& Int32.toUInt32 31)).toInt32 :: t) = _; unfold zq_ush; rw [zq_vi32]) k
theorem zq_nz {y : Int} (hy : zq_iv y) (h0 : y ≠ 0) : Int32.ofInt y ≠ 0 := fun z => h0 (by
  have h1 := zq_toInt hy
  rw [z] at h1
  exact h1.symm)
theorem zq_idiv (hc : zz_cod zt_Z M pc = some (.idiv, n, r)) (hy : zq_iv y) (h0 : y ≠ 0) (k : zq_Ex X M (pc + 1) L (zq_vi (zq_div x y) :: t) s Q) : zq_Ex X M pc L (zq_vi y :: zq_vi x :: t) s Q := zq_s1 hc rfl (by show (if Int32.ofInt y = 0 then none else some (pc + 1, L, Value.int (Int32.ofInt x / Int32.ofInt y) :: t)) = _; rw [if_neg (zq_nz hy h0)]; unfold zq_div; rw [zq_vi32]) k
theorem zq_irem (hc : zz_cod zt_Z M pc = some (.irem, n, r)) (hy : zq_iv y) (h0 : y ≠ 0) (k : zq_Ex X M (pc + 1) L (zq_vi (zq_rem x y) :: t) s Q) : zq_Ex X M pc L (zq_vi y :: zq_vi x :: t) s Q := zq_s1 hc rfl (by show (if Int32.ofInt y = 0 then none else some (pc + 1, L, Value.int (Int32.ofInt x - Int32.ofInt x / Int32.ofInt y * Int32.ofInt y) :: t)) = _; rw [if_neg (zq_nz hy h0)]; unfold zq_rem; rw [zq_vi32]) k
theorem zq_u32 (x : Int) : ((Int32.ofInt x).toUInt32 % 65536).toInt32 = Int32.ofInt (x % 65536) := by
  apply Int32.toBitVec.inj
  apply BitVec.eq_of_toNat_eq
  have h1 : ((Int32.ofInt x).toUInt32 % 65536).toInt32.toBitVec.toNat = (BitVec.ofInt 32 x).toNat % 65536 := rfl
  have h2 : (Int32.ofInt (x % 65536)).toBitVec.toNat = (BitVec.ofInt 32 (x % 65536)).toNat := rfl
  rw [h1, h2, BitVec.toNat_ofInt, BitVec.toNat_ofInt]
  omega
theorem zq_i2c (hc : zz_cod zt_Z M pc = some (.i2c, n, r)) (k : zq_Ex X M (pc + 1) L (zq_vi (x % 65536) :: t) s Q) : zq_Ex X M pc L (zq_vi x :: t) s Q := zq_s1 hc rfl (by show some (pc + 1, L, Value.int ((Int32.ofInt x).toUInt32 % 65536).toInt32 :: t) = _; rw [zq_u32]) k
theorem zq_l2i {z : Int64} (hc : zz_cod zt_Z M pc = some (.l2i, n, r)) (k : zq_Ex X M (pc + 1) L (zq_vi z.toInt32.toInt :: t) s Q) : zq_Ex X M pc L (.long z :: t) s Q := zq_s1 hc rfl (by show some (pc + 1, L, Value.int z.toInt32 :: t) = _; rw [zq_vi32]) k
theorem zq_iinc {j : Nat} {c : Int} {L' : List Value} (hc : zz_cod zt_Z M pc = some (.iinc j c, n, r)) (hl : L[j]? = some (zq_vi x)) (hL : zz_set1 L j (zq_vi (x + c)) = L') (k : zq_Ex X M (pc + 3) L' t s Q) : zq_Ex X M pc L t s Q := zq_s1 hc rfl (by
  show (match L[j]? with
    | some (.int x) => some (pc + 3, zz_set1 L j (.int (x + Int32.ofInt c)), t)
    | _ => none) = _
  rw [hl]
  show some (pc + 3, zz_set1 L j (.int (Int32.ofInt x + Int32.ofInt c)), t) = _
  rw [← Int32.ofInt_add, hL]) k
theorem zq_eqI (hx : zq_iv x) (hy : zq_iv y) : Int32.ofInt x = Int32.ofInt y ↔ x = y := ⟨fun z => by rw [← zq_toInt hx, ← zq_toInt hy, z], fun z => by rw [z]⟩
theorem zq_ltI (hx : zq_iv x) (hy : zq_iv y) : Int32.ofInt x < Int32.ofInt y ↔ x < y := by rw [Int32.lt_iff_toInt_lt, zq_toInt hx, zq_toInt hy]
theorem zq_leI (hx : zq_iv x) (hy : zq_iv y) : Int32.ofInt x ≤ Int32.ofInt y ↔ x ≤ y := by rw [Int32.le_iff_toInt_le, zq_toInt hx, zq_toInt hy]
theorem zq_br {p q : Nat} {c : Bool} (kt : c = true → zq_Ex X M p L t s Q) (kf : c = false → zq_Ex X M q L t s Q) : zq_Ex X M (if c then p else q) L t s Q := by
  cases c
  · exact kf rfl
  · exact kt rfl
theorem zq_icmp {c : ClassFile.Cond} {off : Int} {g : Nat} (hc : zz_cod zt_Z M pc = some (.if_icmp c off, n, [g])) (kt : zz_if c (Int32.ofInt x) (Int32.ofInt y) = true → zq_Ex X M g L t s Q) (kf : zz_if c (Int32.ofInt x) (Int32.ofInt y) = false → zq_Ex X M (pc + 3) L t s Q) : zq_Ex X M pc L (zq_vi y :: zq_vi x :: t) s Q := zq_s1 hc rfl rfl (zq_br kt kf)
theorem zq_icmz {c : ClassFile.Cond} {off : Int} {g : Nat} (hc : zz_cod zt_Z M pc = some (.ifCond c off, n, [g])) (kt : zz_if c (Int32.ofInt x) (Int32.ofInt 0) = true → zq_Ex X M g L t s Q) (kf : zz_if c (Int32.ofInt x) (Int32.ofInt 0) = false → zq_Ex X M (pc + 3) L t s Q) : zq_Ex X M pc L (zq_vi x :: t) s Q := zq_s1 hc rfl rfl (zq_br kt kf)
theorem zq_eq {off : Int} {g : Nat} (hc : zz_cod zt_Z M pc = some (.if_icmp .eq off, n, [g])) (hx : zq_iv x) (hy : zq_iv y) (kt : x = y → zq_Ex X M g L t s Q) (kf : ¬ x = y → zq_Ex X M (pc + 3) L t s Q) : zq_Ex X M pc L (zq_vi y :: zq_vi x :: t) s Q := zq_icmp hc (fun z => kt ((zq_eqI hx hy).mp (of_decide_eq_true z))) (fun z => kf (fun e => of_decide_eq_false z ((zq_eqI hx hy).mpr e)))
theorem zq_eq0 {off : Int} {g : Nat} (hc : zz_cod zt_Z M pc = some (.ifCond .eq off, n, [g])) (hx : zq_iv x) (kt : x = 0 → zq_Ex X M g L t s Q) (kf : ¬ x = 0 → zq_Ex X M (pc + 3) L t s Q) : zq_Ex X M pc L (zq_vi x :: t) s Q := zq_icmz hc (fun z => kt ((zq_eqI hx (of_decide_eq_true rfl)).mp (of_decide_eq_true z))) (fun z => kf (fun e => of_decide_eq_false z ((zq_eqI hx (of_decide_eq_true rfl)).mpr e)))
theorem zq_ne {off : Int} {g : Nat} (hc : zz_cod zt_Z M pc = some (.if_icmp .ne off, n, [g])) (hx : zq_iv x) (hy : zq_iv y) (kt : ¬ x = y → zq_Ex X M g L t s Q) (kf : x = y → zq_Ex X M (pc + 3) L t s Q) : zq_Ex X M pc L (zq_vi y :: zq_vi x :: t) s Q := zq_icmp hc (fun z => kt (fun e => of_decide_eq_true z ((zq_eqI hx hy).mpr e))) (fun z => kf ((zq_eqI hx hy).mp (Decidable.of_not_not (of_decide_eq_false z))))
theorem zq_ne0 {off : Int} {g : Nat} (hc : zz_cod zt_Z M pc = some (.ifCond .ne off, n, [g])) (hx : zq_iv x) (kt : ¬ x = 0 → zq_Ex X M g L t s Q) (kf : x = 0 → zq_Ex X M (pc + 3) L t s Q) : zq_Ex X M pc L (zq_vi x :: t) s Q := zq_icmz hc (fun z => kt (fun e => of_decide_eq_true z ((zq_eqI hx (of_decide_eq_true rfl)).mpr e))) (fun z => kf ((zq_eqI hx (of_decide_eq_true rfl)).mp (Decidable.of_not_not (of_decide_eq_false z))))
theorem zq_lt {off : Int} {g : Nat} (hc : zz_cod zt_Z M pc = some (.if_icmp .lt off, n, [g])) (hx : zq_iv x) (hy : zq_iv y) (kt : x < y → zq_Ex X M g L t s Q) (kf : ¬ x < y → zq_Ex X M (pc + 3) L t s Q) : zq_Ex X M pc L (zq_vi y :: zq_vi x :: t) s Q := zq_icmp hc (fun z => kt ((zq_ltI hx hy).mp (of_decide_eq_true z))) (fun z => kf (fun e => of_decide_eq_false z ((zq_ltI hx hy).mpr e)))
theorem zq_lt0 {off : Int} {g : Nat} (hc : zz_cod zt_Z M pc = some (.ifCond .lt off, n, [g])) (hx : zq_iv x) (kt : x < 0 → zq_Ex X M g L t s Q) (kf : ¬ x < 0 → zq_Ex X M (pc + 3) L t s Q) : zq_Ex X M pc L (zq_vi x :: t) s Q := zq_icmz hc (fun z => kt ((zq_ltI hx (of_decide_eq_true rfl)).mp (of_decide_eq_true z))) (fun z => kf (fun e => of_decide_eq_false z ((zq_ltI hx (of_decide_eq_true rfl)).mpr e)))
theorem zq_ge {off : Int} {g : Nat} (hc : zz_cod zt_Z M pc = some (.if_icmp .ge off, n, [g])) (hx : zq_iv x) (hy : zq_iv y) (kt : ¬ x < y → zq_Ex X M g L t s Q) (kf : x < y → zq_Ex X M (pc + 3) L t s Q) : zq_Ex X M pc L (zq_vi y :: zq_vi x :: t) s Q := zq_icmp hc (fun z => kt (by have := (zq_leI hy hx).mp (of_decide_eq_true z); omega)) (fun z => kf (by have e : ¬ _ := fun e => of_decide_eq_false z ((zq_leI hy hx).mpr e); omega))
theorem zq_ge0 {off : Int} {g : Nat} (hc : zz_cod zt_Z M pc = some (.ifCond .ge off, n, [g])) (hx : zq_iv x) (kt : ¬ x < 0 → zq_Ex X M g L t s Q) (kf : x < 0 → zq_Ex X M (pc + 3) L t s Q) : zq_Ex X M pc L (zq_vi x :: t) s Q := zq_icmz hc (fun z => kt (by have := (zq_leI (of_decide_eq_true rfl) hx).mp (of_decide_eq_true z); omega)) (fun z => kf (by have e : ¬ _ := fun e => of_decide_eq_false z ((zq_leI (of_decide_eq_true rfl) hx).mpr e); omega))
theorem zq_gt {off : Int} {g : Nat} (hc : zz_cod zt_Z M pc = some (.if_icmp .gt off, n, [g])) (hx : zq_iv x) (hy : zq_iv y) (kt : ¬ x ≤ y → zq_Ex X M g L t s Q) (kf : x ≤ y → zq_Ex X M (pc + 3) L t s Q) : zq_Ex X M pc L (zq_vi y :: zq_vi x :: t) s Q := zq_icmp hc (fun z => kt (by have := (zq_ltI hy hx).mp (of_decide_eq_true z); omega)) (fun z => kf (by have e : ¬ _ := fun e => of_decide_eq_false z ((zq_ltI hy hx).mpr e); omega))
theorem zq_gt0 {off : Int} {g : Nat} (hc : zz_cod zt_Z M pc = some (.ifCond .gt off, n, [g])) (hx : zq_iv x) (kt : ¬ x ≤ 0 → zq_Ex X M g L t s Q) (kf : x ≤ 0 → zq_Ex X M (pc + 3) L t s Q) : zq_Ex X M pc L (zq_vi x :: t) s Q := zq_icmz hc (fun z => kt (by have := (zq_ltI (of_decide_eq_true rfl) hx).mp (of_decide_eq_true z); omega)) (fun z => kf (by have e : ¬ _ := fun e => of_decide_eq_false z ((zq_ltI (of_decide_eq_true rfl) hx).mpr e); omega))
theorem zq_le {off : Int} {g : Nat} (hc : zz_cod zt_Z M pc = some (.if_icmp .le off, n, [g])) (hx : zq_iv x) (hy : zq_iv y) (kt : x ≤ y → zq_Ex X M g L t s Q) (kf : ¬ x ≤ y → zq_Ex X M (pc + 3) L t s Q) : zq_Ex X M pc L (zq_vi y :: zq_vi x :: t) s Q := zq_icmp hc (fun z => kt ((zq_leI hx hy).mp (of_decide_eq_true z))) (fun z => kf (fun e => of_decide_eq_false z ((zq_leI hx hy).mpr e)))
theorem zq_le0 {off : Int} {g : Nat} (hc : zz_cod zt_Z M pc = some (.ifCond .le off, n, [g])) (hx : zq_iv x) (kt : x ≤ 0 → zq_Ex X M g L t s Q) (kf : ¬ x ≤ 0 → zq_Ex X M (pc + 3) L t s Q) : zq_Ex X M pc L (zq_vi x :: t) s Q := zq_icmz hc (fun z => kt ((zq_leI hx (of_decide_eq_true rfl)).mp (of_decide_eq_true z))) (fun z => kf (fun e => of_decide_eq_false z ((zq_leI hx (of_decide_eq_true rfl)).mpr e)))
/-- two longs compared, and the branch behind -/
theorem zq_lg0 (u v : Int64) : lg_cmp u v = 0 ↔ u = v := by
  unfold lg_cmp
  by_cases h1 : u > v
  · rw [if_pos h1]
    constructor
    · intro h; exact absurd h (by decide)
    · intro h; subst h; exact absurd h1 (by simp)
  · rw [if_neg h1]
    by_cases h2 : u = v
    · simp [h2]
    · rw [if_neg h2]
      constructor
      · intro h; exact absurd h (by decide)
      · intro h; exact absurd h h2
theorem zq_lceq {off : Int} {g n' : Nat} {u v : Int64} (hc : zz_cod zt_Z M pc = some (.lcmp, n, r)) (hd : zz_cod zt_Z M (pc + 1) = some (.ifCond .eq off, n', [g])) (kt : u = v → zq_Ex X M g L t s Q) (kf : ¬ u = v → zq_Ex X M (pc + 4) L t s Q) : zq_Ex X M pc L (.long v :: .long u :: t) s Q := zq_s1 hc rfl rfl (zq_s1 hd rfl rfl (zq_br (fun z => kt ((zq_lg0 u v).mp (of_decide_eq_true z))) (fun z => kf (fun e => of_decide_eq_false z ((zq_lg0 u v).mpr e)))))
theorem zq_lcne {off : Int} {g n' : Nat} {u v : Int64} (hc : zz_cod zt_Z M pc = some (.lcmp, n, r)) (hd : zz_cod zt_Z M (pc + 1) = some (.ifCond .ne off, n', [g])) (kt : ¬ u = v → zq_Ex X M g L t s Q) (kf : u = v → zq_Ex X M (pc + 4) L t s Q) : zq_Ex X M pc L (.long v :: .long u :: t) s Q := zq_s1 hc rfl rfl (zq_s1 hd rfl rfl (zq_br (fun z => kt (fun e => of_decide_eq_true z ((zq_lg0 u v).mpr e))) (fun z => kf ((zq_lg0 u v).mp (Decidable.of_not_not (of_decide_eq_false z))))))
theorem zq_tsw {i1 lo hi : Int} {ts : Array Int} {p : Nat} (hc : zz_cod zt_Z M pc = some (.tableswitch i1 lo hi ts, n, r)) (hp : zz_tab lo hi r (Int32.ofInt x) = some p) (k : zq_Ex X M p L t s Q) : zq_Ex X M pc L (zq_vi x :: t) s Q := zq_s1 hc rfl (by show (zz_tab lo hi r (Int32.ofInt x)).map _ = _; rw [hp]; rfl) k
theorem zq_tabd {lo hi : Int} {p : Nat} {q : List Nat} (hx : zq_iv x) (h : x < lo ∨ hi < x) : zz_tab lo hi (p :: q) (Int32.ofInt x) = some p := by
  unfold zz_tab
  rw [zq_toInt hx, if_pos h]
  rfl
theorem zq_lsw {i1 : Int} {ps : Array (Int × Int)} {d p : Nat} {ts : List Nat} (hc : zz_cod zt_Z M pc = some (.lookupswitch i1 ps, n, d :: ts)) (hp : zz_lkp ps.toList ts (Int32.ofInt x) d = p) (k : zq_Ex X M p L t s Q) : zq_Ex X M pc L (zq_vi x :: t) s Q := zq_s1 hc rfl (by show some (zz_lkp ps.toList ts (Int32.ofInt x) d, L, t) = _; rw [hp]) k
/-! fields -/
theorem zq_getf_i {idx ci k : Nat} {j v : Int} (hc : zz_cod zt_Z M pc = some (.getfield idx, n, [ci, k])) (ha : zq_o ci a) (hf : decide (zq_ft ci k < 2 ∧ k < zq_nf ci) = true) (hj : (k : Int) = j) (hv : zq_i s a j = v) (kk : zq_Ex X M (pc + 3) L (zq_vi v :: t) s Q) : zq_Ex X M pc L (.ref a :: t) s Q := zq_pre (fun h hp => zr_getf hc (hp.obj ha) (by
  have hf := of_decide_eq_true hf
  rw [zq_getf hf.2]
  unfold zq_fv
  rw [if_pos hf.1, hj, hv])) kk
theorem zq_getf_l {idx ci k : Nat} {j : Int} {v : Int64} (hc : zz_cod zt_Z M pc = some (.getfield idx, n, [ci, k])) (ha : zq_o ci a) (hf : decide (zq_ft ci k = 2 ∧ k < zq_nf ci) = true) (hj : (k : Int) = j) (hv : zq_l s a j = v) (kk : zq_Ex X M (pc + 3) L (.long v :: t) s Q) : zq_Ex X M pc L (.ref a :: t) s Q := zq_pre (fun h hp => zr_getf hc (hp.obj ha) (by
  have hf := of_decide_eq_true hf
  rw [zq_getf hf.2]
  unfold zq_fv
  rw [if_neg (by omega), if_pos hf.1, hj, hv])) kk
theorem zq_getf_r {idx ci k : Nat} {j : Int} {v : Option Nat} (hc : zz_cod zt_Z M pc = some (.getfield idx, n, [ci, k])) (ha : zq_o ci a) (hf : decide ((10 ≤ zq_ft ci k ∧ zq_ft ci k < 100) ∧ k < zq_nf ci) = true) (hj : (k : Int) = j) (hv : zq_r s a j = v) (kk : zq_Ex X M (pc + 3) L (va_rf v :: t) s Q) : zq_Ex X M pc L (.ref a :: t) s Q := zq_pre (fun h hp => zr_getf hc (hp.obj ha) (by
  have hf := of_decide_eq_true hf
  rw [zq_getf hf.2]
  unfold zq_fv
  rw [if_neg (by omega), if_neg (by omega), if_pos hf.1.2, hj, hv])) kk
theorem zq_getf_f {idx ci k : Nat} (hc : zz_cod zt_Z M pc = some (.getfield idx, n, [ci, k])) (ha : zq_o ci a) (hf : decide (100 ≤ zq_ft ci k ∧ k < zq_nf ci) = true) (hb : a + (zq_ft ci k - 100) = b) (kk : zq_Ex X M (pc + 3) L (.ref b :: t) s Q) : zq_Ex X M pc L (.ref a :: t) s Q := zq_pre (fun h hp => zr_getf hc (hp.obj ha) (by
  have hf := of_decide_eq_true hf
  rw [zq_getf hf.2]
  unfold zq_fv
  rw [if_neg (by omega), if_neg (by omega), if_neg (by omega), hb])) kk
theorem zq_getf_rs {idx ci k : Nat} {j : Int} (hc : zz_cod zt_Z M pc = some (.getfield idx, n, [ci, k])) (ha : zq_o ci a) (hf : decide ((10 ≤ zq_ft ci k ∧ zq_ft ci k < 100) ∧ k < zq_nf ci) = true) (hj : (k : Int) = j) (hv : zq_r s a j = some b) (kk : zq_Ex X M (pc + 3) L (.ref b :: t) s Q) : zq_Ex X M pc L (.ref a :: t) s Q := zq_getf_r hc ha hf hj hv kk
theorem zq_getf_rn {idx ci k : Nat} {j : Int} (hc : zz_cod zt_Z M pc = some (.getfield idx, n, [ci, k])) (ha : zq_o ci a) (hf : decide ((10 ≤ zq_ft ci k ∧ zq_ft ci k < 100) ∧ k < zq_nf ci) = true) (hj : (k : Int) = j) (hv : zq_r s a j = none) (kk : zq_Ex X M (pc + 3) L (.null :: t) s Q) : zq_Ex X M pc L (.ref a :: t) s Q := zq_getf_r hc ha hf hj hv kk
theorem zq_getf_r2 {idx ci k : Nat} {j : Int} (hc : zz_cod zt_Z M pc = some (.getfield idx, n, [ci, k])) (ha : zq_o ci a) (hf : decide ((10 ≤ zq_ft ci k ∧ zq_ft ci k < 100) ∧ k < zq_nf ci) = true) (hj : (k : Int) = j) (kn : zq_r s a j = none → zq_Ex X M (pc + 3) L (.null :: t) s Q) (ks : ∀ b, zq_r s a j = some b → zq_Ex X M (pc + 3) L (.ref b :: t) s Q) : zq_Ex X M pc L (.ref a :: t) s Q := by
  cases hv : zq_r s a j with
  | none => exact zq_getf_rn hc ha hf hj hv (kn hv)
  | some b => exact zq_getf_rs hc ha hf hj hv (ks b hv)
/-- the class of what a field holds -/
theorem zq_fcls {ci k cj : Nat} {j : Int} (hR : zq_R s) (ha : zq_o ci a) (hf : decide (zq_ft ci k = 10 + cj ∧ cj < 90) = true) (hj : (k : Int) = j) (hb : zq_r s a j = some b) : zq_o cj b := by
  have hf := of_decide_eq_true hf
  subst hj
  have h1 := hR.2.2.2.2 a ci k b ha (by omega) (by omega) hb
  rw [hf.1, Nat.add_sub_cancel_left] at h1
  exact h1
theorem zq_R.si_f {ci k : Nat} {j : Int} (hR : zq_R s) (ha : zq_o ci a) (hj : (k : Int) = j) (hx : zq_iv x) (hb : zq_ft ci k = 1 → zq_bo x) : zq_R (zq_si s a j x) := by
  obtain ⟨h1, h2, h3, h4, h5⟩ := hR
  refine ⟨fun b i => ?_, fun b m i hb' => ?_, fun b m i hb' => ?_, fun b cj q hb' hq => ?_, h5⟩
  · rw [zq_i_si]; split
    · exact hx
    · exact h1 b i
  · rw [zq_i_si, if_neg (fun z => by rw [z.1, ha] at hb'; cases hb')]; exact h2 b m i hb'
  · rw [zq_i_si, if_neg (fun z => by rw [z.1, ha] at hb'; cases hb')]; exact h3 b m i hb'
  · rw [zq_i_si]; split
    · next z =>
      rw [z.1] at hb'
      have h9 := hb'.symm.trans ha
      cases h9
      have : q = k := by have := z.2; omega
      subst this
      exact hb hq
    · exact h4 b cj q hb' hq
theorem zq_putf_i {idx ci k : Nat} {j : Int} (hc : zz_cod zt_Z M pc = some (.putfield idx, n, [ci, k])) (ha : zq_o ci a) (hf : decide (zq_ft ci k = 0 ∧ k < zq_nf ci) = true) (hty : zz_fty zt_Z ci k = .int) (hj : (k : Int) = j) (hx : zq_iv x) (kk : zq_Ex X M (pc + 3) L t (zq_si s a j x) Q) : zq_Ex X M pc L (zq_vi x :: .ref a :: t) s Q := by
  have hf := of_decide_eq_true hf
  refine zq_chg (s1 := zq_si s a j x) rfl (fun h hp => ⟨_, zr_putf hc (hp.obj ha) (by rw [List.length_map, List.length_range]; exact hf.2) (by rw [hty]; rfl) (by rw [hty]; rfl), ?_⟩) kk
  refine hp.setf ha (hp.R.si_f ha hj hx (fun z => by omega)) rfl rfl (fun b i hb => ?_) (fun _ _ _ => rfl) (fun _ _ _ => rfl) (fun i => ?_)
  · rw [zq_i_si, if_neg (fun z => hb z.1)]
  · by_cases e : i = k
    · subst e
      rw [if_pos rfl]
      unfold zq_fv
      rw [if_pos (by omega), hj, zq_i_at]
    · rw [if_neg e]
      have h9 : zq_i (zq_si s a j x) a (i : Nat) = zq_i s a (i : Nat) := by rw [zq_i_si, if_neg (fun z => e (by have := z.2; omega))]
      unfold zq_fv
      rw [h9]
      rfl
theorem zq_putf_b {idx ci k : Nat} {j : Int} (hc : zz_cod zt_Z M pc = some (.putfield idx, n, [ci, k])) (ha : zq_o ci a) (hf : decide (zq_ft ci k = 1 ∧ k < zq_nf ci) = true) (hty : zz_fty zt_Z ci k = .boolean) (hj : (k : Int) = j) (hx : zq_bo x) (kk : zq_Ex X M (pc + 3) L t (zq_si s a j x) Q) : zq_Ex X M pc L (zq_vi x :: .ref a :: t) s Q := by
  have hf := of_decide_eq_true hf
  refine zq_chg (s1 := zq_si s a j x) rfl (fun h hp => ⟨_, zr_putf hc (hp.obj ha) (by rw [List.length_map, List.length_range]; exact hf.2) (by rw [hty]; rcases hx with hx | hx <;> subst hx <;> rfl) (by rw [hty]; rcases hx with hx | hx <;> subst hx <;> rfl), ?_⟩) kk
  refine hp.setf ha (hp.R.si_f ha hj (zq_bo_in hx) (fun _ => hx)) rfl rfl (fun b i hb => ?_) (fun _ _ _ => rfl) (fun _ _ _ => rfl) (fun i => ?_)
  · rw [zq_i_si, if_neg (fun z => hb z.1)]
  · by_cases e : i = k
    · subst e
      rw [if_pos rfl]
      unfold zq_fv
      rw [if_pos (by omega), hj, zq_i_at]
    · rw [if_neg e]
      have h9 : zq_i (zq_si s a j x) a (i : Nat) = zq_i s a (i : Nat) := by rw [zq_i_si, if_neg (fun z => e (by have := z.2; omega))]
      unfold zq_fv
      rw [h9]
      rfl
theorem zq_putf_l {idx ci k : Nat} {j : Int} {v : Int64} (hc : zz_cod zt_Z M pc = some (.putfield idx, n, [ci, k])) (ha : zq_o ci a) (hf : decide (zq_ft ci k = 2 ∧ k < zq_nf ci) = true) (hty : zz_fty zt_Z ci k = .long) (hj : (k : Int) = j) (kk : zq_Ex X M (pc + 3) L t (zq_sl s a j v) Q) : zq_Ex X M pc L (.long v :: .ref a :: t) s Q := by
  have hf := of_decide_eq_true hf
  refine zq_chg (s1 := zq_sl s a j v) rfl (fun h hp => ⟨_, zr_putf hc (hp.obj ha) (by rw [List.length_map, List.length_range]; exact hf.2) (by rw [hty]; rfl) (by rw [hty]; rfl), ?_⟩) kk
  refine hp.setf ha hp.R rfl rfl (fun _ _ _ => rfl) (fun b i hb => ?_) (fun _ _ _ => rfl) (fun i => ?_)
  · rw [zq_l_sl, if_neg (fun z => hb z.1)]
  · by_cases e : i = k
    · subst e
      rw [if_pos rfl]
      unfold zq_fv
      rw [if_neg (by omega), if_pos hf.1, hj, zq_l_sl, if_pos ⟨rfl, rfl⟩]
    · rw [if_neg e]
      have h9 : zq_l (zq_sl s a j v) a (i : Nat) = zq_l s a (i : Nat) := by rw [zq_l_sl, if_neg (fun z => e (by have := z.2; omega))]
      unfold zq_fv
      rw [h9]
      rfl
theorem zq_putf_r {idx ci k cj : Nat} {j : Int} {C : String} {v : Option Nat} (hc : zz_cod zt_Z M pc = some (.putfield idx, n, [ci, k])) (ha : zq_o ci a) (hf : decide ((zq_ft ci k = 10 + cj ∧ cj < 90) ∧ k < zq_nf ci) = true) (hty : zz_fty zt_Z ci k = .object C) (hj : (k : Int) = j) (hv : ∀ b, v = some b → zq_o cj b) (kk : zq_Ex X M (pc + 3) L t (zq_sr s a j v) Q) : zq_Ex X M pc L (va_rf v :: .ref a :: t) s Q := by
  have hf := of_decide_eq_true hf
  refine zq_chg (s1 := zq_sr s a j v) rfl (fun h hp => ⟨_, zr_putf hc (hp.obj ha) (by rw [List.length_map, List.length_range]; exact hf.2) (by rw [hty]; cases v <;> rfl) (by rw [hty]; cases v <;> rfl), ?_⟩) kk
  refine hp.setf ha ?_ rfl rfl (fun _ _ _ => rfl) (fun _ _ _ => rfl) (fun b i hb => ?_) (fun i => ?_)
  · obtain ⟨h1, h2, h3, h4, h5⟩ := hp.R
    refine ⟨h1, h2, h3, h4, fun b ck q b' hb h6 h7 h8 => ?_⟩
    rw [zq_r_sr] at h8
    split at h8
    · next z =>
      rw [z.1] at hb
      have h9 := hb.symm.trans ha
      cases h9
      have : q = k := by have := z.2; omega
      subst this
      rw [hf.1.1, Nat.add_sub_cancel_left]
      exact hv b' h8
    · exact h5 b ck q b' hb h6 h7 h8
  · rw [zq_r_sr, if_neg (fun z => hb z.1)]
  · by_cases e : i = k
    · subst e
      rw [if_pos rfl]
      unfold zq_fv
      rw [if_neg (by omega), if_neg (by omega), if_pos (by omega), hj, zq_r_sr, if_pos ⟨rfl, rfl⟩]
    · rw [if_neg e]
      have h9 : zq_r (zq_sr s a j v) a (i : Nat) = zq_r s a (i : Nat) := by rw [zq_r_sr, if_neg (fun z => e (by have := z.2; omega))]
      unfold zq_fv
      rw [h9]
      rfl
/-! rows -/
theorem zq_ix {j : Int} {m : Nat} (h0 : 0 ≤ j) (h1 : j < m) (hm : m < 10000) : zz_ix (Int32.ofInt j) m = true ∧ (Int32.ofInt j).toNatClampNeg = j.toNat := by
  have hj : zq_iv j := ⟨by omega, by omega⟩
  have e1 : (Int32.ofInt j).toNatClampNeg = j.toNat := by rw [← Int32.toNat_toInt, zq_toInt hj]
  refine ⟨zr_ix ?_ ?_, e1⟩
  · rw [Int32.le_iff_toInt_le, zq_toInt hj]
    exact h0
  · rw [e1]
    omega
theorem zq_klen : ∀ a, a < 260 → (zq_k a).2.2 < 10000 := by decide +kernel
theorem zq_km {x y m : Nat} (hk : zq_k a = (x, y, m)) (hx : x < 9) : m < 10000 := by
  have := zq_klen a (zq_k_lt hk hx)
  rw [hk] at this
  exact this
theorem zq_lt_SC {x y m : Nat} (hk : zq_k a = (x, y, m)) (hx : x < 9) : a ≠ zz_SC := by
  have := zq_k_lt hk hx
  show a ≠ 2000000
  omega
theorem zq_toNat {j : Int} {m : Nat} (h0 : 0 ≤ j) (h1 : j < m) : j.toNat < m ∧ ((j.toNat : Nat) : Int) = j := ⟨by omega, by omega⟩
theorem zq_ald_i {m : Nat} {j v : Int} (hc : zz_cod zt_Z M pc = some (.iaload, n, r)) (hk : zq_k b = (1, 0, m)) (h0 : 0 ≤ j) (h1 : j < m) (hv : zq_i s b j = v) (kk : zq_Ex X M (pc + 1) L (zq_vi v :: t) s Q) : zq_Ex X M pc L (zq_vi j :: .ref b :: t) s Q := zq_pre (fun h hp => by
  obtain ⟨f, f1, f2⟩ := hp.arr hk
  have e1 := zq_ix h0 h1 (zq_km hk (by decide))
  have e2 := zq_toNat h0 h1
  have h3 := zr_iald (X := X) (L := L) (t := t) (h := h) (bc := zq_bc s) (bs := zq_bs s) hc (zq_lt_SC hk (by decide)) f1 e1.1
  rw [e1.2, f2 _ e2.1, e2.2, hv] at h3
  exact h3) kk
theorem zq_ald_c {m : Nat} {j v : Int} (hc : zz_cod zt_Z M pc = some (.caload, n, r)) (hk : zq_k b = (1, 1, m)) (h0 : 0 ≤ j) (h1 : j < m) (hv : zq_i s b j = v) (kk : zq_Ex X M (pc + 1) L (zq_vi v :: t) s Q) : zq_Ex X M pc L (zq_vi j :: .ref b :: t) s Q := zq_pre (fun h hp => by
  obtain ⟨f, f1, f2⟩ := hp.arr hk
  have e1 := zq_ix h0 h1 (zq_km hk (by decide))
  have e2 := zq_toNat h0 h1
  have h3 := zr_cald (X := X) (L := L) (t := t) (h := h) (bc := zq_bc s) (bs := zq_bs s) hc f1 e1.1
  rw [e1.2, f2 _ e2.1, e2.2, hv] at h3
  exact h3) kk
theorem zq_ald_b {m : Nat} {j v : Int} (hc : zz_cod zt_Z M pc = some (.baload, n, r)) (hk : zq_k b = (1, 2, m)) (h0 : 0 ≤ j) (h1 : j < m) (hv : zq_i s b j = v) (kk : zq_Ex X M (pc + 1) L (zq_vi v :: t) s Q) : zq_Ex X M pc L (zq_vi j :: .ref b :: t) s Q := zq_pre (fun h hp => by
  obtain ⟨f, f1, f2⟩ := hp.arr hk
  have e1 := zq_ix h0 h1 (zq_km hk (by decide))
  have e2 := zq_toNat h0 h1
  have h3 := zr_bald (X := X) (L := L) (t := t) (h := h) (bc := zq_bc s) (bs := zq_bs s) hc f1 e1.1
  rw [e1.2, f2 _ e2.1, e2.2, hv] at h3
  exact h3) kk
theorem zq_ald_l {m tg : Nat} {j : Int} {v : Int64} (hc : zz_cod zt_Z M pc = some (.laload, n, r)) (hk : zq_k b = (2, tg, m)) (h0 : 0 ≤ j) (h1 : j < m) (hv : zq_l s b j = v) (kk : zq_Ex X M (pc + 1) L (.long v :: t) s Q) : zq_Ex X M pc L (zq_vi j :: .ref b :: t) s Q := zq_pre (fun h hp => by
  obtain ⟨f, f1, f2⟩ := hp.lar hk
  have e1 := zq_ix h0 h1 (zq_km hk (by decide))
  have e2 := zq_toNat h0 h1
  have h3 := zr_lald (X := X) (L := L) (t := t) (h := h) (bc := zq_bc s) (bs := zq_bs s) hc f1 e1.1
  rw [e1.2, f2 _ e2.1, e2.2, hv] at h3
  exact h3) kk
theorem zq_ald_s {m tg : Nat} {j : Int} (hc : zz_cod zt_Z M pc = some (.aaload, n, [4])) (hk : zq_k b = (3, tg, m)) (h0 : 0 ≤ j) (h1 : j < m) (kk : zq_Ex X M (pc + 1) L (.ref (b + 8 + 10 * j.toNat) :: t) s Q) : zq_Ex X M pc L (zq_vi j :: .ref b :: t) s Q := zq_pre (fun h hp => by
  obtain ⟨f, f1, f2⟩ := hp.sar hk
  have e1 := zq_ix h0 h1 (zq_km hk (by decide))
  have e2 := zq_toNat h0 h1
  have h3 := zr_aald (X := X) (L := L) (t := t) (h := h) (bc := zq_bc s) (bs := zq_bs s) hc f1 e1.1
  rw [e1.2, f2 _ e2.1] at h3
  exact h3) kk
theorem zq_alen {m tg : Nat} (hc : zz_cod zt_Z M pc = some (.arraylength, n, [tg])) (hk : zq_k b = (1, tg, m)) (kk : zq_Ex X M (pc + 1) L (zq_vi m :: t) s Q) : zq_Ex X M pc L (.ref b :: t) s Q := zq_pre (fun h hp => by
  obtain ⟨f, f1, f2⟩ := hp.arr hk
  have h3 := zr_alen (X := X) (L := L) (t := t) (h := h) (bc := zq_bc s) (bs := zq_bs s) hc (zq_lt_SC hk (by decide)) f1 rfl
  rw [show Int32.ofNat m = Int32.ofInt m from Int32.ofInt_eq_ofNat.symm] at h3
  exact h3) kk
theorem zq_llen {m tg : Nat} (hc : zz_cod zt_Z M pc = some (.arraylength, n, [3])) (hk : zq_k b = (2, tg, m)) (kk : zq_Ex X M (pc + 1) L (zq_vi m :: t) s Q) : zq_Ex X M pc L (.ref b :: t) s Q := zq_pre (fun h hp => by
  obtain ⟨f, f1, f2⟩ := hp.lar hk
  have h3 := zr_alen (X := X) (L := L) (t := t) (h := h) (bc := zq_bc s) (bs := zq_bs s) hc (zq_lt_SC hk (by decide)) f1 rfl
  rw [show Int32.ofNat m = Int32.ofInt m from Int32.ofInt_eq_ofNat.symm] at h3
  exact h3) kk
theorem zq_R.si_a {m tg : Nat} {j : Int} (hR : zq_R s) (hk : zq_k b = (1, tg, m)) (hx : zq_iv x) (hc : tg = 1 → zq_ch x) (hb : tg = 2 → zq_bo x) : zq_R (zq_si s b j x) := by
  obtain ⟨h1, h2, h3, h4, h5⟩ := hR
  refine ⟨fun c i => ?_, fun c m i hc' => ?_, fun c m i hc' => ?_, fun c cj q hc' hq => ?_, h5⟩
  · rw [zq_i_si]; split
    · exact hx
    · exact h1 c i
  · rw [zq_i_si]; split
    · next z =>
      rw [z.1, hk] at hc'
      cases hc'
      exact hc rfl
    · exact h2 c m i hc'
  · rw [zq_i_si]; split
    · next z =>
      rw [z.1, hk] at hc'
      cases hc'
      exact hb rfl
    · exact h3 c m i hc'
  · rw [zq_i_si, if_neg (fun z => by rw [z.1] at hc'; have h9 := hc'.symm.trans hk; cases h9)]; exact h4 c cj q hc' hq
theorem zq_pic.si_a {h : zz_H} {m tg : Nat} {j : Int} {f : Nat → Int32} {y : Int32} (hp : zq_pic h s) (hk : zq_k b = (1, tg, m)) (h0 : 0 ≤ j) (h1 : j < m) (hx : zq_iv x) (hc : tg = 1 → zq_ch x) (hb : tg = 2 → zq_bo x) (f2 : ∀ j, j < m → f j = Int32.ofInt (zq_i s b (j : Nat))) (hy : y = Int32.ofInt x) : zq_pic (h.set b (.inl (tg, m, .inl (upd f j.toNat y)))) (zq_si s b j x) := by
  refine hp.seta hk (hp.R.si_a hk hx hc hb) rfl (fun c i hc => ?_) (fun i hi => ?_)
  · rw [zq_i_si, if_neg (fun z => hc z.1)]
  · rw [zq_i_si]
    unfold upd
    by_cases e : i = j.toNat
    · rw [if_pos e, if_pos ⟨rfl, by omega⟩, hy]
    · rw [if_neg e, if_neg (fun z => e (by have := z.2; omega)), f2 i hi]
theorem zq_nc (hx : zq_ch x) : vp_nar .char (Int32.ofInt x) = Int32.ofInt x := by
  have h1 : vp_nar .char (Int32.ofInt x) = ((Int32.ofInt x).toUInt32 % 65536).toInt32 := by
    show (Int32.ofInt x).toUInt32.toUInt16.toUInt32.toInt32 = _
    apply Int32.toBitVec.inj
    apply BitVec.eq_of_toNat_eq
    rfl
  rw [h1, zq_u32, Int.emod_eq_of_lt hx.1 hx.2]
theorem zq_nb (hx : zq_bo x) : vp_nar .boolean (Int32.ofInt x) = Int32.ofInt x := by
  rcases hx with hx | hx <;> subst hx <;> rfl
theorem zq_ast_i {m : Nat} {j : Int} (hc : zz_cod zt_Z M pc = some (.iastore, n, r)) (hk : zq_k b = (1, 0, m)) (h0 : 0 ≤ j) (h1 : j < m) (hx : zq_iv x) (kk : zq_Ex X M (pc + 1) L t (zq_si s b j x) Q) : zq_Ex X M pc L (zq_vi x :: zq_vi j :: .ref b :: t) s Q := zq_chg (s1 := zq_si s b j x) rfl (fun h hp => by
  obtain ⟨f, f1, f2⟩ := hp.arr hk
  have e1 := zq_ix h0 h1 (zq_km hk (by decide))
  refine ⟨_, zr_iast hc f1 e1.1, ?_⟩
  rw [e1.2]
  exact hp.si_a hk h0 h1 hx (fun z => by cases z) (fun z => by cases z) f2 rfl) kk
theorem zq_ast_c {m : Nat} {j : Int} (hc : zz_cod zt_Z M pc = some (.castore, n, r)) (hk : zq_k b = (1, 1, m)) (h0 : 0 ≤ j) (h1 : j < m) (hx : zq_ch x) (kk : zq_Ex X M (pc + 1) L t (zq_si s b j x) Q) : zq_Ex X M pc L (zq_vi x :: zq_vi j :: .ref b :: t) s Q := zq_chg (s1 := zq_si s b j x) rfl (fun h hp => by
  obtain ⟨f, f1, f2⟩ := hp.arr hk
  have e1 := zq_ix h0 h1 (zq_km hk (by decide))
  refine ⟨_, zr_cast hc f1 e1.1, ?_⟩
  rw [e1.2]
  exact hp.si_a hk h0 h1 (zq_ch_in hx) (fun _ => hx) (fun z => by cases z) f2 (zq_nc hx)) kk
theorem zq_ast_b {m : Nat} {j : Int} (hc : zz_cod zt_Z M pc = some (.bastore, n, r)) (hk : zq_k b = (1, 2, m)) (h0 : 0 ≤ j) (h1 : j < m) (hx : zq_bo x) (kk : zq_Ex X M (pc + 1) L t (zq_si s b j x) Q) : zq_Ex X M pc L (zq_vi x :: zq_vi j :: .ref b :: t) s Q := zq_chg (s1 := zq_si s b j x) rfl (fun h hp => by
  obtain ⟨f, f1, f2⟩ := hp.arr hk
  have e1 := zq_ix h0 h1 (zq_km hk (by decide))
  refine ⟨_, zr_bast hc f1 e1.1, ?_⟩
  rw [e1.2]
  exact hp.si_a hk h0 h1 (zq_bo_in hx) (fun z => by cases z) (fun _ => hx) f2 (zq_nb hx)) kk
theorem zq_ast_l {m tg : Nat} {j : Int} {v : Int64} (hc : zz_cod zt_Z M pc = some (.lastore, n, r)) (hk : zq_k b = (2, tg, m)) (h0 : 0 ≤ j) (h1 : j < m) (kk : zq_Ex X M (pc + 1) L t (zq_sl s b j v) Q) : zq_Ex X M pc L (.long v :: zq_vi j :: .ref b :: t) s Q := zq_chg (s1 := zq_sl s b j v) rfl (fun h hp => by
  obtain ⟨f, f1, f2⟩ := hp.lar hk
  have e1 := zq_ix h0 h1 (zq_km hk (by decide))
  refine ⟨_, zr_last hc f1 e1.1, ?_⟩
  rw [e1.2]
  refine hp.setl hk hp.R rfl rfl rfl rfl (fun c i hc => ?_) (fun i hi => ?_)
  · rw [zq_l_sl, if_neg (fun z => hc z.1)]
  · rw [zq_l_sl]
    unfold vp_updL
    by_cases e : i = j.toNat
    · rw [if_pos e, if_pos ⟨rfl, by omega⟩]
    · rw [if_neg e, if_neg (fun z => e (by have := z.2; omega)), f2 i hi]) kk
/-! the script, strings -/
theorem zq_scr {j : Int} (hc : zz_cod zt_Z M pc = some (.iaload, n, r)) (hX : X.1 < 10000) (h0 : 0 ≤ j) (h1 : j < X.1) (kk : zq_Ex X M (pc + 1) L (zq_vi (X.2 j.toNat).toInt :: t) s Q) : zq_Ex X M pc L (zq_vi j :: .ref zz_SC :: t) s Q := zq_pre (fun h hp => by
  have e1 := zq_ix h0 h1 hX
  have h3 := zr_scr (L := L) (t := t) (h := h) (bc := zq_bc s) (bs := zq_bs s) hc e1.1
  rw [e1.2, ← zq_of32 (X.2 j.toNat)] at h3
  exact h3) kk
theorem zq_slen {g : Nat} (hc : zz_cod zt_Z M pc = some (.arraylength, n, [g])) (kk : zq_Ex X M (pc + 1) L (zq_vi X.1 :: t) s Q) : zq_Ex X M pc L (.ref zz_SC :: t) s Q := zq_pre (fun h hp => by
  have h3 := zr_slen (X := X) (L := L) (t := t) (h := h) (bc := zq_bc s) (bs := zq_bs s) hc
  rw [show Int32.ofNat X.1 = Int32.ofInt X.1 from Int32.ofInt_eq_ofNat.symm] at h3
  exact h3) kk
/-- a string's characters -/
def zq_str (j : Nat) : List Int := (zz_str zt_Z j).map (fun c => c.toInt)
theorem zq_strl {idx j : Nat} {m : Int} (hc : zz_cod zt_Z M pc = some (.invokevirtual idx, n, [5])) (hj : j < 1000000) (hm : ((zq_str j).length : Int) = m) (hv : zz_hv (.invokevirtual idx) (Value.ref (1000000 + j) :: t) = false) (kk : zq_Ex X M (pc + 3) L (zq_vi m :: t) s Q) : zq_Ex X M pc L (.ref (1000000 + j) :: t) s Q := zq_pre (fun h hp => zr_st2 hc rfl hv (by
  show (if zz_SB ≤ 1000000 + j ∧ 1000000 + j < zz_SC then _ else _) = _
  rw [if_pos ⟨Nat.le_add_right _ _, by show 1000000 + j < 2000000; omega⟩]
  rw [show 1000000 + j - zz_SB = j from Nat.add_sub_cancel_left ..]
  rw [← hm]
  unfold zq_str
  rw [List.length_map, show Int32.ofNat (zz_str zt_Z j).length = Int32.ofInt (zz_str zt_Z j).length from Int32.ofInt_eq_ofNat.symm])) kk
theorem zq_stra {idx j : Nat} {i : Int} (hc : zz_cod zt_Z M pc = some (.invokevirtual idx, n, [6])) (hj : j < 1000000) (hl : (zq_str j).length < 10000) (h0 : 0 ≤ i) (h1 : i < (zq_str j).length) (hv : zz_hv (.invokevirtual idx) (zq_vi i :: Value.ref (1000000 + j) :: t) = false) (kk : zq_Ex X M (pc + 3) L (zq_vi ((zq_str j).getD i.toNat 0) :: t) s Q) : zq_Ex X M pc L (zq_vi i :: .ref (1000000 + j) :: t) s Q := zq_pre (fun h hp => zr_st2 hc rfl hv (by
  have e0 : (zq_str j).length = (zz_str zt_Z j).length := by unfold zq_str; rw [List.length_map]
  have e1 := zq_ix (m := (zz_str zt_Z j).length) h0 (by omega) (by omega)
  show (if zz_SB ≤ 1000000 + j ∧ 1000000 + j < zz_SC ∧ zz_ix (Int32.ofInt i) (zz_str zt_Z (1000000 + j - zz_SB)).length = true then _ else _) = _
  rw [show 1000000 + j - zz_SB = j from Nat.add_sub_cancel_left ..]
  rw [if_pos ⟨Nat.le_add_right _ _, by show 1000000 + j < 2000000; omega, e1.1⟩, e1.2]
  have e2 : (zq_str j).getD i.toNat 0 = ((zz_str zt_Z j).getD i.toNat 0).toInt := by
    unfold zq_str
    rw [List.getD_eq_getElem?_getD, List.getD_eq_getElem?_getD, List.getElem?_map, List.getElem?_eq_getElem (by omega)]
    rfl
  rw [e2, zq_vi32])) kk
/-! calls -/
theorem zq_call {i : Instr} {N : Nat} {vs : List Value} {P : Outcome → zq_S → Prop} (hc : zz_cod zt_Z M pc = some (i, n, r)) (hk : zz_kd i r = 3) (hav : ∀ h, zq_pic h s → zz_av st r h = some (N, vs, t)) (hw : ¬ (8 < zz_wt t ∨ zz_mxl zt_Z N < (zz_arg vs).length)) (hN : zq_Ex X N 0 (zz_ent (zz_mxl zt_Z N) vs) [] s P) (k : ∀ o s1, P o s1 → ∃ v, o = .returned v ∧ zq_Ex X M (pc + 3) L (v.toList ++ t) s1 Q) : zq_Ex X M pc L st s Q := fun h hp => by
  obtain ⟨o, h1, s1, e1, p1, q1⟩ := hN h hp
  obtain ⟨v, ho, k1⟩ := k o s1 q1
  subst ho
  obtain ⟨o2, h2, s2, e2, p2, q2⟩ := k1 h1 p1
  exact ⟨o2, h2, s2, (zr_call hc hk (hav h hp) hw e1).ex e2, p2, q2⟩
theorem zq_call_i {i : Instr} {N : Nat} {vs : List Value} {p : Int → Prop} {K : Int → zq_S → Prop} (hc : zz_cod zt_Z M pc = some (i, n, r)) (hk : zz_kd i r = 3) (hav : ∀ h, zq_pic h s → zz_av st r h = some (N, vs, t)) (hw : ¬ (8 < zz_wt t ∨ zz_mxl zt_Z N < (zz_arg vs).length)) (hN : zq_Ex X N 0 (zz_ent (zz_mxl zt_Z N) vs) [] s (zq_rp p K)) (k : ∀ x s1, p x → K x s1 → zq_Ex X M (pc + 3) L (zq_vi x :: t) s1 Q) : zq_Ex X M pc L st s Q := zq_call hc hk hav hw hN (fun o s1 ⟨x, ho, hx, q⟩ => ⟨_, ho, k x s1 hx q⟩)
theorem zq_call_v {i : Instr} {N : Nat} {vs : List Value} {K : zq_S → Prop} (hc : zz_cod zt_Z M pc = some (i, n, r)) (hk : zz_kd i r = 3) (hav : ∀ h, zq_pic h s → zz_av st r h = some (N, vs, t)) (hw : ¬ (8 < zz_wt t ∨ zz_mxl zt_Z N < (zz_arg vs).length)) (hN : zq_Ex X N 0 (zz_ent (zz_mxl zt_Z N) vs) [] s (zq_rv K)) (k : ∀ s1, K s1 → zq_Ex X M (pc + 3) L t s1 Q) : zq_Ex X M pc L st s Q := zq_call hc hk hav hw hN (fun o s1 ⟨ho, q⟩ => ⟨_, ho, k s1 q⟩)
theorem zq_call_l {i : Instr} {N : Nat} {vs : List Value} {K : Int64 → zq_S → Prop} (hc : zz_cod zt_Z M pc = some (i, n, r)) (hk : zz_kd i r = 3) (hav : ∀ h, zq_pic h s → zz_av st r h = some (N, vs, t)) (hw : ¬ (8 < zz_wt t ∨ zz_mxl zt_Z N < (zz_arg vs).length)) (hN : zq_Ex X N 0 (zz_ent (zz_mxl zt_Z N) vs) [] s (zq_rl K)) (k : ∀ x s1, K x s1 → zq_Ex X M (pc + 3) L (.long x :: t) s1 Q) : zq_Ex X M pc L st s Q := zq_call hc hk hav hw hN (fun o s1 ⟨x, ho, q⟩ => ⟨_, ho, k x s1 q⟩)
theorem zq_call_r {i : Instr} {N ci : Nat} {vs : List Value} {K : Option Nat → zq_S → Prop} (hc : zz_cod zt_Z M pc = some (i, n, r)) (hk : zz_kd i r = 3) (hav : ∀ h, zq_pic h s → zz_av st r h = some (N, vs, t)) (hw : ¬ (8 < zz_wt t ∨ zz_mxl zt_Z N < (zz_arg vs).length)) (hN : zq_Ex X N 0 (zz_ent (zz_mxl zt_Z N) vs) [] s (zq_rr ci K)) (kn : ∀ s1, K none s1 → zq_Ex X M (pc + 3) L (.null :: t) s1 Q) (ks : ∀ b s1, zq_o ci b → K (some b) s1 → zq_Ex X M (pc + 3) L (.ref b :: t) s1 Q) : zq_Ex X M pc L st s Q := zq_call hc hk hav hw hN (fun o s1 ⟨y, ho, hy, q⟩ => ⟨_, ho, by
  cases y with
  | none => exact kn s1 q
  | some b => exact ks b s1 (hy b rfl) q⟩)
/-- a call that may throw, and its handlers -/
theorem zq_callx {i : Instr} {N : Nat} {vs : List Value} {P : Outcome → zq_S → Prop} {T : Nat → zq_S → Prop} (hc : zz_cod zt_Z M pc = some (i, n, r)) (hk : zz_kd i r = 3) (hav : ∀ h, zq_pic h s → zz_av st r h = some (N, vs, t)) (hw : ¬ (8 < zz_wt t ∨ zz_mxl zt_Z N < (zz_arg vs).length)) (hN : zq_Ex X N 0 (zz_ent (zz_mxl zt_Z N) vs) [] s (zq_rx P T)) (k : ∀ o s1, P o s1 → ∃ v, o = .returned v ∧ zq_Ex X M (pc + 3) L (v.toList ++ t) s1 Q) (kx : ∀ ci s1, T ci s1 → ∃ p, zz_fh (zz_hnd zt_Z M) pc ci = some p ∧ zq_Ex X M p L [.ref (259 + zq_n s1)] s1 Q) : zq_Ex X M pc L st s Q := fun h hp => by
  obtain ⟨o, h1, s1, e1, p1, q1⟩ := hN h hp
  rcases q1 with q1 | ⟨ho, h0, q1⟩
  · obtain ⟨v, ho, k1⟩ := k o s1 q1
    subst ho
    obtain ⟨o2, h2, s2, e2, p2, q2⟩ := k1 h1 p1
    exact ⟨o2, h2, s2, (zr_call hc hk (hav h hp) hw e1).ex e2, p2, q2⟩
  · subst ho
    obtain ⟨g, hg, k1⟩ := kx _ s1 q1
    obtain ⟨o2, h2, s2, e2, p2, q2⟩ := k1 h1 p1
    exact ⟨o2, h2, s2, (zr_callx hc hk (hav h hp) hw e1 (p1.2.2.1 h0) hg).ex e2, p2, q2⟩
/-! ends -/
theorem zq_end {i : Instr} {o : Outcome} (hc : zz_cod zt_Z M pc = some (i, n, r)) (hk : zz_kd i r = 2) (hr : ∀ h bc bs, zz_rt zt_Z M i r st h bc bs = some (o, h, bc, bs)) (q : Q o s) : zq_Ex X M pc L st s Q := fun h hp => ⟨o, h, s, zr_end hc hk (hr h _ _), hp, q⟩
theorem zq_iret {ty : FieldType} (hc : zz_cod zt_Z M pc = some (.ireturn, n, r)) (hret : zz_ret zt_Z M = some ty) (hn : narrow ty (zq_vi x) = zq_vi x) (q : Q (.returned (some (zq_vi x))) s) : zq_Ex X M pc L [zq_vi x] s Q := fun h hp => ⟨_, h, s, zr_iret hc hret hn, hp, q⟩
theorem zq_vret (hc : zz_cod zt_Z M pc = some (.return_, n, r)) (hret : zz_ret zt_Z M = none) (q : Q (.returned none) s) : zq_Ex X M pc L [] s Q := fun h hp => ⟨_, h, s, zr_vret hc hret, hp, q⟩
theorem zq_lret {v : Int64} (hc : zz_cod zt_Z M pc = some (.lreturn, n, r)) (hret : zz_ret zt_Z M = some .long) (q : Q (.returned (some (.long v))) s) : zq_Ex X M pc L [.long v] s Q := fun h hp => ⟨_, h, s, zr_lret hc hret, hp, q⟩
theorem zq_aret {C : String} {v : Option Nat} (hc : zz_cod zt_Z M pc = some (.areturn, n, r)) (hret : zz_ret zt_Z M = some (.object C)) (q : Q (.returned (some (va_rf v))) s) : zq_Ex X M pc L [va_rf v] s Q := fun h hp => by
  cases v with
  | none => exact ⟨_, h, s, zr_aretn hc hret, hp, q⟩
  | some b => exact ⟨_, h, s, zr_aret hc hret, hp, q⟩
theorem zq_throw {idx ci : Nat} (hc : zz_cod zt_Z M pc = some (.new idx, n, [3, ci, 6])) (hh : zz_hnd zt_Z M = []) (hst : st.length < 5) (hn : zq_n s < 1000) (q : Q (.threw (260 + zq_n s)) (zq_sx s ci)) : zq_Ex X M pc L st s Q := fun h hp => by
  refine ⟨_, h ++ [.inr (ci, [])], zq_sx s ci, ?_, ?_, q⟩
  · have h3 := zr_throw (X := X) (L := L) (bc := zq_bc s) (bs := zq_bs s) (h := h) hc hh (by unfold zq_bc; omega) (by unfold zq_bs; omega) (by rw [hp.len]; show 260 + zq_n s < 1000000; omega) hst
    rw [hp.len] at h3
    have e1 : zq_bc s - 1 = zq_bc (zq_sx s ci) := by unfold zq_bc; rw [zq_n_sx]; omega
    have e2 : zq_bs s - 6 = zq_bs (zq_sx s ci) := by unfold zq_bs; rw [zq_n_sx]; omega
    rw [e1, e2] at h3
    exact h3
  · obtain ⟨p1, p2, p3, p4, p5, p6, p7⟩ := hp
    have hl : ∀ c : Nat, c < 260 → (h ++ [Sum.inr (ci, [])])[c]? = h[c]? := fun c hc => List.getElem?_append_left (by rw [p2]; omega)
    refine ⟨p1, by rw [List.length_append, p2]; rfl, fun _ => ?_, fun c cj hc => ?_, fun c tg m hc => ?_, fun c tg m hc => ?_, fun c tg m hc => ?_⟩
    · rw [zq_n_sx, List.getElem?_append_right (by omega), p2, show 259 + (zq_n s + 1) - (260 + zq_n s) = 0 by omega]
      rfl
    · rw [hl c (zq_k_lt hc (by decide))]; exact p4 c cj hc
    · rw [hl c (zq_k_lt hc (by decide))]; exact p5 c tg m hc
    · rw [hl c (zq_k_lt hc (by decide))]; exact p6 c tg m hc
    · rw [hl c (zq_k_lt hc (by decide))]; exact p7 c tg m hc
theorem zq_inm {m : Nat} (h : m < 10000) : zq_iv m := ⟨by omega, by omega⟩
theorem zq_thr {P : Outcome → zq_S → Prop} {T : Nat → zq_S → Prop} {ci : Nat} (w : T ci (zq_sx s ci)) : zq_rx P T (.threw (260 + zq_n s)) (zq_sx s ci) := Or.inr ⟨congrArg Outcome.threw (show (260 + zq_n s : Nat) = 259 + (zq_n s + 1) by omega), by rw [zq_n_sx]; omega, w⟩
/-- a local is written where the one ahead is not known -/
theorem zq_ist {j : Nat} {L' : List Value} (hc : zz_cod zt_Z M pc = some (.istore j, n, r)) (hj : j < L.length) (hL : zz_set1 L j (zq_vi x) = L') (k : zq_Ex X M (pc + 2) L' t s Q) : zq_Ex X M pc L (zq_vi x :: t) s Q := zq_s1 hc rfl (by
  show (if j < L.length then some (pc + 2, zz_set1 L j (.int (Int32.ofInt x)), t) else none) = _
  rw [if_pos hj, hL]) k
theorem zq_istn {j : Fin 4} {L' : List Value} (hc : zz_cod zt_Z M pc = some (.istore_n j, n, r)) (hj : (j : Nat) < L.length) (hL : zz_set1 L j (zq_vi x) = L') (k : zq_Ex X M (pc + 1) L' t s Q) : zq_Ex X M pc L (zq_vi x :: t) s Q := zq_s1 hc rfl (by
  show (if (j : Nat) < L.length then some (pc + 1, zz_set1 L j (.int (Int32.ofInt x)), t) else none) = _
  rw [if_pos hj, hL]) k
theorem zq_astn {j : Fin 4} {L' : List Value} (hc : zz_cod zt_Z M pc = some (.astore_n j, n, r)) (hj : (j : Nat) < L.length) (hL : zz_set1 L j (.ref a) = L') (k : zq_Ex X M (pc + 1) L' t s Q) : zq_Ex X M pc L (.ref a :: t) s Q := zq_s1 hc rfl (by
  show (if (j : Nat) < L.length then some (pc + 1, zz_set1 L j (.ref a), t) else none) = _
  rw [if_pos hj, hL]) k
theorem zq_ast {j : Nat} {L' : List Value} (hc : zz_cod zt_Z M pc = some (.astore j, n, r)) (hj : j < L.length) (hL : zz_set1 L j (.ref a) = L') (k : zq_Ex X M (pc + 2) L' t s Q) : zq_Ex X M pc L (.ref a :: t) s Q := zq_s1 hc rfl (by
  show (if j < L.length then some (pc + 2, zz_set1 L j (.ref a), t) else none) = _
  rw [if_pos hj, hL]) k
/-- a reference that may be null: both ways -/
theorem zq_nul {v : Option Nat} (kn : v = none → zq_Ex X M pc L (.null :: t) s Q) (ks : ∀ b, v = some b → zq_Ex X M pc L (.ref b :: t) s Q) : zq_Ex X M pc L (va_rf v :: t) s Q := by
  cases v with
  | none => exact kn rfl
  | some b => exact ks b rfl
/-! the rows and objects behind an object -/
theorem zq_L1 {a : Nat} (h : zq_o 1 a) : zq_k (a + 1) = (1, 1, zq_T a) := (show ∀ a, a < 260 → zq_k a = (0, 1, 0) → zq_k (a + 1) = (1, 1, zq_T a) by decide +kernel) a (zq_k_lt h (by decide)) h
theorem zq_L3 {a : Nat} (h : zq_o 3 a) : zq_k (a + 1) = (1, 0, 5) := (show ∀ a, a < 260 → zq_k a = (0, 3, 0) → zq_k (a + 1) = (1, 0, 5) by decide +kernel) a (zq_k_lt h (by decide)) h
theorem zq_L4 {a : Nat} (h : zq_o 4 a) : zq_k (a + 1) = (1, 0, 12) ∧ zq_k (a + 2) = (1, 0, 12) ∧ zq_k (a + 3) = (1, 0, 12) ∧ zq_k (a + 4) = (1, 0, 12) ∧ zq_k (a + 5) = (2, 3, 12) ∧ zq_k (a + 6) = (1, 1, 144) := by
  have h1 : [zq_k (a + 1), zq_k (a + 2), zq_k (a + 3), zq_k (a + 4), zq_k (a + 5), zq_k (a + 6)] = [(1, 0, 12), (1, 0, 12), (1, 0, 12), (1, 0, 12), (2, 3, 12), (1, 1, 144)] := (show ∀ a, a < 260 → zq_k a = (0, 4, 0) → [zq_k (a + 1), zq_k (a + 2), zq_k (a + 3), zq_k (a + 4), zq_k (a + 5), zq_k (a + 6)] = [(1, 0, 12), (1, 0, 12), (1, 0, 12), (1, 0, 12), (2, 3, 12), (1, 1, 144)] by decide +kernel) a (zq_k_lt h (by decide)) h
  simp only [List.cons.injEq, and_true] at h1
  exact h1
theorem zq_L7 {a : Nat} (h : zq_o 7 a) : zq_o 1 (a + 8) := (show ∀ a, a < 260 → zq_k a = (0, 7, 0) → zq_k (a + 8) = (0, 1, 0) by decide +kernel) a (zq_k_lt h (by decide)) h
theorem zq_L8 {a : Nat} (h : zq_o 8 a) : zq_k (a + 1) = (3, 4, 9) ∧ zq_o 4 (a + 2) := (show ∀ a, a < 260 → zq_k a = (0, 8, 0) → zq_k (a + 1) = (3, 4, 9) ∧ zq_k (a + 2) = (0, 4, 0) by decide +kernel) a (zq_k_lt h (by decide)) h
theorem zq_L8s {a : Nat} {j : Int} (h : zq_o 8 a) (h0 : 0 ≤ j) (h1 : j < 9) : zq_o 7 (a + 1 + 8 + 10 * j.toNat) := (show ∀ a, a < 260 → zq_k a = (0, 8, 0) → ∀ i, i < 9 → zq_k (a + 1 + 8 + 10 * i) = (0, 7, 0) by decide +kernel) a (zq_k_lt h (by decide)) h j.toNat (by omega)
end ZQ
theorem zq_a0 : zq_k 0 = (0, 0, 0) := by decide +kernel
theorem zq_a1 : zq_k 1 = (0, 1, 0) := by decide +kernel
theorem zq_a3 : zq_k 3 = (0, 2, 0) := by decide +kernel
theorem zq_a4 : zq_k 4 = (0, 2, 0) := by decide +kernel
theorem zq_a5 : zq_k 5 = (0, 3, 0) := by decide +kernel
theorem zq_a7 : zq_k 7 = (0, 5, 0) := by decide +kernel
theorem zq_a8 : zq_k 8 = (0, 3, 0) := by decide +kernel
theorem zq_a10 : zq_k 10 = (0, 2, 0) := by decide +kernel
theorem zq_a11 : zq_k 11 = (0, 4, 0) := by decide +kernel
theorem zq_a18 : zq_k 18 = (1, 0, 10) := by decide +kernel
theorem zq_a19 : zq_k 19 = (1, 0, 10) := by decide +kernel
theorem zq_a20 : zq_k 20 = (2, 3, 16) := by decide +kernel
theorem zq_a21 : zq_k 21 = (0, 6, 0) := by decide +kernel
theorem zq_a22 : zq_k 22 = (1, 0, 10) := by decide +kernel
theorem zq_a232 : zq_k 232 = (0, 9, 0) := by decide +kernel
theorem zq_a233 : zq_k 233 = (1, 1, 100) := by decide +kernel
theorem zq_a234 : zq_k 234 = (1, 1, 999) := by decide +kernel
theorem zq_a235 : zq_k 235 = (1, 1, 500) := by decide +kernel
theorem zq_a236 : zq_k 236 = (1, 1, 6500) := by decide +kernel
theorem zq_a237 : zq_k 237 = (1, 2, 10) := by decide +kernel
theorem zq_a238 : zq_k 238 = (1, 0, 10) := by decide +kernel
theorem zq_a239 : zq_k 239 = (1, 2, 10) := by decide +kernel
theorem zq_a240 : zq_k 240 = (1, 0, 10) := by decide +kernel
theorem zq_a241 : zq_k 241 = (1, 1, 5000) := by decide +kernel
theorem zq_a242 : zq_k 242 = (1, 2, 10) := by decide +kernel
theorem zq_a243 : zq_k 243 = (1, 0, 10) := by decide +kernel
theorem zq_a244 : zq_k 244 = (1, 1, 120) := by decide +kernel
theorem zq_a245 : zq_k 245 = (1, 1, 700) := by decide +kernel
theorem zq_a246 : zq_k 246 = (1, 0, 8) := by decide +kernel
theorem zq_a247 : zq_k 247 = (1, 0, 8) := by decide +kernel
theorem zq_a248 : zq_k 248 = (1, 0, 16) := by decide +kernel
theorem zq_a249 : zq_k 249 = (1, 0, 16) := by decide +kernel
theorem zq_a250 : zq_k 250 = (1, 0, 10) := by decide +kernel
theorem zq_a251 : zq_k 251 = (1, 0, 10) := by decide +kernel
theorem zq_a252 : zq_k 252 = (1, 0, 10) := by decide +kernel
theorem zq_a253 : zq_k 253 = (1, 0, 200) := by decide +kernel
theorem zq_a254 : zq_k 254 = (1, 2, 10) := by decide +kernel
theorem zq_a255 : zq_k 255 = (1, 2, 10) := by decide +kernel
theorem zq_a256 : zq_k 256 = (1, 1, 6) := by decide +kernel
theorem zq_a257 : zq_k 257 = (1, 1, 4) := by decide +kernel
theorem zq_a258 : zq_k 258 = (1, 1, 4) := by decide +kernel
theorem zq_a259 : zq_k 259 = (2, 3, 1) := by decide +kernel
