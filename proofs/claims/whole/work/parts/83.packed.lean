/-! names as numbers -/
def yk_v : List Int → Nat
  | [] => 0
  | c :: l => c.toNat + 256 * yk_v l
/-- characters of names -/
def yk_c (l : List Int) : Prop := ∀ c ∈ l, 1 ≤ c ∧ c ≤ 127
set_option maxRecDepth 100000 in
theorem ye_nm.c {l : List Int} (h : ye_nm l) : yk_c l := fun c hc => by
  have := of_decide_eq_true (h.2.2 c hc)
  omega
set_option maxRecDepth 100000 in
theorem yk_v_lt : ∀ (l : List Int), yk_c l → yk_v l < 256 ^ l.length
  | [], _ => by decide
  | c :: l, h => by
    have h1 := yk_v_lt l (fun c hc => h c (by simp [hc]))
    have h2 := h c (by simp)
    simp only [yk_v, List.length_cons, Nat.pow_succ]
    omega
set_option maxRecDepth 100000 in
theorem yk_sh : ∀ i : Nat, i < 7 → ∀ x : Int64, (x <<< ((Int32.ofInt (8 * (i : Int))).toInt64 &&& 63)).toBitVec = x.toBitVec <<< (8 * i) := by
  intro i hi x
  rcases (show i = 0 ∨ i = 1 ∨ i = 2 ∨ i = 3 ∨ i = 4 ∨ i = 5 ∨ i = 6 by omega) with e | e | e | e | e | e | e <;> subst e <;> rfl
set_option maxRecDepth 100000 in
theorem yk_ch {c : Int} (h : 1 ≤ c ∧ c ≤ 127) : ((Int32.ofInt c).toInt64).toBitVec.toNat = c.toNat := by
  have : ∀ n : Nat, n < 128 → ((Int32.ofInt (n : Int)).toInt64).toBitVec.toNat = n := by decide +kernel
  have h1 := this c.toNat (by omega)
  rw [show ((c.toNat : Nat) : Int) = c by omega] at h1
  exact h1
set_option maxRecDepth 100000 in
theorem yk_pk : ∀ (l : List Int) (i : Nat), yk_c l → i + l.length ≤ 7 → (ye_pk l i).toBitVec.toNat = yk_v l * 2 ^ (8 * i)
  | [], i, _, _ => by simp [ye_pk, yk_v]
  | c :: l, i, h, hl => by
    have hc := h c (by simp)
    have hl' : i + (l.length + 1) ≤ 7 := hl
    have ih := yk_pk l (i + 1) (fun c hc => h c (by simp [hc])) (by omega)
    have hv := yk_v_lt l (fun c hc => h c (by simp [hc]))
    show ((((Int32.ofInt c).toInt64 <<< ((Int32.ofInt (8 * (i : Int))).toInt64 &&& 63)) ||| ye_pk l (i + 1)).toBitVec).toNat = (c.toNat + 256 * yk_v l) * 2 ^ (8 * i)
    have e1 : (((Int32.ofInt c).toInt64 <<< ((Int32.ofInt (8 * (i : Int))).toInt64 &&& 63)) ||| ye_pk l (i + 1)).toBitVec = ((Int32.ofInt c).toInt64.toBitVec <<< (8 * i)) ||| (ye_pk l (i + 1)).toBitVec := by
      rw [← yk_sh i (by omega)]
      rfl
    have p8 : (2 : Nat) ^ (8 * (i + 1)) = 256 * 2 ^ (8 * i) := by rw [show 8 * (i + 1) = 8 * i + 8 by omega, Nat.pow_add, Nat.mul_comm]
    have hpos : 0 < 2 ^ (8 * i) := Nat.pow_pos (by decide)
    have hlt : c.toNat * 2 ^ (8 * i) < 2 ^ (8 * (i + 1)) := by
      rw [p8]
      exact Nat.mul_lt_mul_of_pos_right (by omega) hpos
    have h64 : (2 : Nat) ^ (8 * (i + 1)) ≤ 2 ^ 64 := Nat.pow_le_pow_right (by decide) (by omega)
    rw [e1, BitVec.toNat_or, BitVec.toNat_shiftLeft, yk_ch hc, ih, Nat.shiftLeft_eq, Nat.mod_eq_of_lt (by omega), Nat.or_comm]
    have e2 : yk_v l * 2 ^ (8 * (i + 1)) = (yk_v l) <<< (8 * (i + 1)) := by rw [Nat.shiftLeft_eq]
    rw [e2, ← Nat.shiftLeft_add_eq_or_of_lt hlt, Nat.shiftLeft_eq, p8, Nat.add_mul]
    rw [Nat.add_comm, Nat.mul_comm 256 (2 ^ (8 * i)), ← Nat.mul_assoc, Nat.mul_comm 256 (yk_v l), Nat.mul_assoc, Nat.mul_assoc, Nat.mul_comm 256 (2 ^ (8 * i))]
set_option maxRecDepth 100000 in
theorem yk_v_inj : ∀ (l l' : List Int), yk_c l → yk_c l' → yk_v l = yk_v l' → l = l'
  | [], [], _, _, _ => rfl
  | [], c :: l', _, h', e => by
    have := h' c (by simp)
    simp only [yk_v] at e
    omega
  | c :: l, [], h, _, e => by
    have := h c (by simp)
    simp only [yk_v] at e
    omega
  | c :: l, c' :: l', h, h', e => by
    have h1 := h c (by simp)
    have h2 := h' c' (by simp)
    simp only [yk_v] at e
    have e1 : c = c' := by omega
    have e2 : yk_v l = yk_v l' := by omega
    rw [e1, yk_v_inj l l' (fun c hc => h c (by simp [hc])) (fun c hc => h' c (by simp [hc])) e2]
set_option maxRecDepth 100000 in
theorem yk_inj {l l' : List Int} (h : yk_c l) (h' : yk_c l') (hl : l.length ≤ 7) (hl' : l'.length ≤ 7) : ye_pk l 0 = ye_pk l' 0 ↔ l = l' := by
  refine ⟨fun e => ?_, fun e => by rw [e]⟩
  have e1 := yk_pk l 0 h (by omega)
  have e2 := yk_pk l' 0 h' (by omega)
  rw [e] at e1
  apply yk_v_inj l l' h h'
  simp at e1 e2
  omega
set_option maxRecDepth 100000 in
theorem yk_nil : yk_c [] := fun c h => by cases h
set_option maxRecDepth 100000 in
/-- keys as they are compared -/
theorem yk_key {d : ye_N} {w : List Int} (hd : ye_ok d) (hw : ye_nm w) : ye_pk d.2.2.2.1 0 = ye_pk w 0 ↔ d.2.2.2.1 = w := by
  have hd' : yk_c d.2.2.2.1 ∧ d.2.2.2.1.length ≤ 7 := by
    rcases hd.1 with z | z
    · rw [z]; exact ⟨yk_nil, by decide⟩
    · exact ⟨z.c, by have := z.2.1; omega⟩
  exact yk_inj hd'.1 hw.c hd'.2 (by have := hw.2.1; omega)
set_option maxRecDepth 100000 in
theorem yk_ne0 {w : List Int} (hw : ye_nm w) : ye_pk w 0 ≠ 0 := fun z => by
  have h := (yk_inj hw.c yk_nil (by have := hw.2.1; omega) (by decide)).mp (show ye_pk w 0 = ye_pk [] 0 from z)
  have := hw.1
  rw [h] at this
  simp at this
set_option maxRecDepth 100000 in
/-- a byte of a packed name -/
theorem yk_dig : ∀ (l : List Int) (i : Nat), yk_c l → yk_v l / 256 ^ i % 256 = (l.getD i 0).toNat
  | [], i, _ => by simp [yk_v]
  | c :: l, 0, h => by
    have := h c (by simp)
    simp [yk_v]
    omega
  | c :: l, i + 1, h => by
    have h1 := h c (by simp)
    have ih := yk_dig l i (fun c hc => h c (by simp [hc]))
    simp only [yk_v, List.getD_cons_succ]
    rw [← ih, Nat.pow_succ, Nat.mul_comm (256 ^ i) 256, ← Nat.div_div_eq_div_mul, show (c.toNat + 256 * yk_v l) / 256 = yk_v l by omega]
