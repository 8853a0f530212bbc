/-! the class's Texts are looked at: wordEnd, nameEnd, has, digits, packed -/
def yp_has (T : Int → Int) : List Int → Int → Bool
  | [], _ => true
  | c :: l, p => decide (T p = c) && yp_has T l (p + 1)
set_option maxRecDepth 100000 in
theorem yp_has_at {T : Int → Int} : ∀ (l : List Int) (p : Int), yp_has T l p = true ↔ ye_at T p l
  | [], p => ⟨fun _ => ye_at_nil _ _, fun _ => rfl⟩
  | c :: l, p => by
    unfold yp_has
    rw [Bool.and_eq_true, ye_at_cons, yp_has_at l (p + 1), decide_eq_true_eq]
/-- what digits says -/
def yp_dgs (T : Int → Int) (b e : Int) : Int := if e ≤ b ∨ 6 < e - b then -1 else if yp_all T (e - b).toNat b = true then yp_val T (e - b).toNat b 0 else -1
section YCT
variable {X : Nat × (Nat → Int32)} {s : zq_S} {a : Nat}
set_option maxRecDepth 100000 in
theorem yc_cd {c : Int} {p : Int → Bool} (h0 : p 0 = false) (h1 : p (-1) = false) : p (yp_cd c) = p c := by
  unfold yp_cd
  split
  · next h => rw [h, h0, h1]
  · rfl
set_option maxRecDepth 100000 in
theorem yc_lt (ho : yc_ok s a) (ha : zq_o 1 a) {j : Int} (h : yc_t s a j ≠ 0) : 0 ≤ j ∧ j < zq_i s a 1 ∧ j < 999 := by
  have h9 := zq_T_le ha
  have h8 := ho.2.1
  apply Decidable.byContradiction
  intro hz
  apply h
  unfold yc_t
  rw [if_neg]
  intro hz2
  exact hz ⟨hz2.1, hz2.2, by omega⟩
set_option maxRecDepth 100000 in
theorem ys_67_2 {K : Int → zq_S → Prop} {x : Int} (ha : zq_o 1 a) (ho : yc_ok s a) (hx : zq_iv x) : ∀ (n : Nat) (y : Int), 1001 ≤ y + n → 0 ≤ y → y ≤ 1000 → K (yp_wd (yc_t s a) y) s → zq_Ex X 67 2 [.ref a, zq_vi x, zq_vi y] [] s (zq_rp zq_iv K) := by
  have hT := ho.T ha
  have h9 := zq_T_le ha
  have h8 := ho.2.1
  intro n
  induction n with
  | zero => intro y h1 h0 h2 k; omega
  | succ n ih =>
    intro y h1 h0 h2 k
    have hy : zq_iv y := ⟨by omega, by omega⟩
    refine zq_have (fun hR => ?_)
    refine zw_67_2 ha hx hy ?_
    unfold yp_wd at k
    rw [yp_end_eq hT rfl (by omega)] at k
    split
    · next h3 =>
      refine ys_29 ha ho hy (ys_65 (yp_cd_in hR y) (yb_if (fun h4 => ?_) (fun h4 => ?_)))
      · rw [yc_cd (p := yp_wc) rfl rfl] at h4
        rw [h4] at k
        exact k
      · rw [yc_cd (p := yp_wc) rfl rfl] at h4
        rw [if_pos h4] at k
        exact ih (y + 1) (by omega) (by omega) (by omega) k
    · next h3 =>
      rw [yc_out (by omega)] at k
      exact k
set_option maxRecDepth 100000 in
theorem ys_67 {K : Int → zq_S → Prop} {x : Int} (ha : zq_o 1 a) (ho : yc_ok s a) (h0 : 0 ≤ x) (h1 : x ≤ 1000) (k : K (yp_wd (yc_t s a) x) s) : zq_Ex X 67 0 [.ref a, zq_vi x, zz_no] [] s (zq_rp zq_iv K) := zw_67 ha ⟨by omega, by omega⟩ (ys_67_2 ha ho ⟨by omega, by omega⟩ 1001 x (by omega) h0 h1 k)
set_option maxRecDepth 100000 in
theorem ys_52_4 {K : Int → zq_S → Prop} {x : Int} (ha : zq_o 1 a) (ho : yc_ok s a) (x0 : 0 ≤ x) (x1 : x ≤ 1000) : ∀ (n : Nat) (y : Int) (v : Value), v.category = 1 → 1002 ≤ y + n → 1 ≤ y → y ≤ 1001 → x < y → yp_end yp_nc (yc_t s a) y = yp_nm (yc_t s a) x → K (if yp_isN (yc_t s a) x = true then yp_nm (yc_t s a) x else -1) s → zq_Ex X 52 4 [.ref a, zq_vi x, zq_vi y, v] [] s (zq_rp zq_iv K) := by
  have hT := ho.T ha
  have h9 := zq_T_le ha
  have h8 := ho.2.1
  have hx : zq_iv x := ⟨by omega, by omega⟩
  -- the end is found
  have fin : ∀ y, x < y → y ≤ 1001 → y = yp_nm (yc_t s a) x → K (if yp_isN (yc_t s a) x = true then yp_nm (yc_t s a) x else -1) s → zq_Ex X 29 0 [.ref a, zq_vi x] [] s (zq_rp zq_iv fun x_4 s_3 => (if x_4 = 47 then (zq_iv ((y - x) - 1) ∧ (if (y - x) - 1 < 1 then K ((-1)) s_3 else (if (y - x) - 1 ≤ 6 then K y s_3 else K ((-1)) s_3))) else K ((-1)) s_3)) := by
    intro y hxy hy1 hy k
    unfold yp_isN at k
    refine ys_29 ha ho hx ?_
    have ecd : yp_cd (yc_t s a x) = 47 ↔ yc_t s a x = 47 := by unfold yp_cd; split <;> omega
    by_cases c : yc_t s a x = 47
    · rw [if_pos (ecd.mpr c)]
      refine ⟨⟨by omega, by omega⟩, ?_⟩
      split
      · next h => rw [if_neg (by simp; omega)] at k; exact k
      · next h =>
        split
        · next h2 => rw [if_pos (by simp; omega), ← hy] at k; exact k
        · next h2 => rw [if_neg (by simp; omega)] at k; exact k
    · rw [if_neg (fun z => c (ecd.mp z))]
      rw [if_neg (by simp [c])] at k
      exact k
  intro n
  induction n with
  | zero => intro y v hv h1 h0 h2 hxy he k; omega
  | succ n ih =>
    intro y v hv h1 h0 h2 hxy he k
    have hy : zq_iv y := ⟨by omega, by omega⟩
    refine zq_have (fun hR => ?_)
    refine zw_52_4 ha hx hy hv ?_
    have he2 := he
    rw [yp_end_eq hT rfl (by omega)] at he2
    split
    · next h3 =>
      refine ys_29 ha ho hy (ys_53 (yp_cd_in hR y) (yb_if (fun h4 => ?_) (fun h4 => ?_)))
      · rw [yc_cd (p := yp_nc) rfl rfl] at h4
        rw [h4] at he2
        exact fin y hxy h2 he2 k
      · rw [yc_cd (p := yp_nc) rfl rfl] at h4
        rw [if_pos h4] at he2
        exact ih (y + 1) v hv (by omega) (by omega) (by omega) (by omega) he2 k
    · next h3 =>
      rw [yc_out (by omega)] at he2
      exact fin y hxy h2 he2 k
set_option maxRecDepth 100000 in
/-- nameEnd -/
theorem ys_52 {K : Int → zq_S → Prop} {x : Int} (ha : zq_o 1 a) (ho : yc_ok s a) (x0 : 0 ≤ x) (x1 : x ≤ 1000) (k : K (if yp_isN (yc_t s a) x = true then yp_nm (yc_t s a) x else -1) s) : zq_Ex X 52 0 [.ref a, zq_vi x, zz_no, zz_no] [] s (zq_rp zq_iv K) := zw_52 ha ⟨by omega, by omega⟩ (ys_52_4 ha ho x0 x1 1002 (x + 1) _ rfl (by omega) (by omega) (by omega) (by omega) rfl k)
set_option maxRecDepth 100000 in
/-- has -/
theorem ys_49_2 {K : Int → zq_S → Prop} {x : Int} (ha : zq_o 1 a) (ho : yc_ok s a) (hx : -10000 ≤ x ∧ x ≤ 10000) {j : Nat} (hj : j < 1000000) (hl : (zq_str j).length < 10000) (hc : ∀ c ∈ zq_str j, 0 < c ∧ c < 65536) : ∀ (m i : Nat), i + m = (zq_str j).length → K (yb (yp_has (yc_t s a) ((zq_str j).drop i) (x + i))) s → zq_Ex X 49 2 [.ref a, zq_vi x, .ref (1000000 + j), zq_vi i] [] s (zq_rp zq_bo K) := by
  have hx' : zq_iv x := ⟨by omega, by omega⟩
  intro m
  induction m with
  | zero =>
    intro i hi k
    refine zw_49_2 ha hx' hj hl ⟨by omega, by omega⟩ ?_
    rw [if_neg (by omega)]
    rw [List.drop_eq_nil_of_le (by omega)] at k
    exact k
  | succ m ih =>
    intro i hi k
    have hlt : i < (zq_str j).length := by omega
    refine zw_49_2 ha hx' hj hl ⟨by omega, by omega⟩ ?_
    rw [if_pos (by omega)]
    have hcc := hc _ (List.getElem_mem hlt)
    have e1 : (zq_str j).getD ((i : Int)).toNat 0 = (zq_str j)[i] := by
      rw [Int.toNat_natCast, List.getD_eq_getElem?_getD, List.getElem?_eq_getElem hlt]
      rfl
    refine ys_29 ha ho ⟨by omega, by omega⟩ ⟨⟨by omega, by omega⟩, ?_⟩
    rw [e1]
    refine ⟨⟨by omega, by omega⟩, ?_⟩
    rw [List.drop_eq_getElem_cons hlt] at k
    have ecd : yp_cd (yc_t s a (x + i)) = (zq_str j)[i] ↔ yc_t s a (x + i) = (zq_str j)[i] := by unfold yp_cd; split <;> omega
    split
    · next h =>
      refine ih (i + 1) (by omega) ?_
      unfold yp_has at k
      rw [decide_eq_true (ecd.mp h), Bool.true_and] at k
      rw [show x + ((i + 1 : Nat) : Int) = x + i + 1 by omega]
      exact k
    · next h =>
      unfold yp_has at k
      rw [decide_eq_false (fun z => h (ecd.mpr z)), Bool.false_and] at k
      exact k
set_option maxRecDepth 100000 in
theorem ys_49 {K : Int → zq_S → Prop} {x : Int} (ha : zq_o 1 a) (ho : yc_ok s a) (hx : -10000 ≤ x ∧ x ≤ 10000) {j : Nat} (hj : j < 1000000) (hl : (zq_str j).length < 10000) (hc : ∀ c ∈ zq_str j, 0 < c ∧ c < 65536) (k : K (yb (yp_has (yc_t s a) (zq_str j) x)) s) : zq_Ex X 49 0 [.ref a, zq_vi x, .ref (1000000 + j), zz_no] [] s (zq_rp zq_bo K) := zw_49 ha ⟨by omega, by omega⟩ hj hl (ys_49_2 ha ho hx hj hl hc (zq_str j).length 0 (by omega) (by simpa using k))
set_option maxRecDepth 100000 in
/-- digits -/
theorem ys_68_20 {K : Int → zq_S → Prop} {b e : Int} (ha : zq_o 1 a) (ho : yc_ok s a) (hb : zq_iv b) (he : e ≤ 2000) : ∀ (n : Nat) (v y : Int), y + n = e → -200 ≤ y → 0 ≤ v → v < 10 ^ (6 - n) → n ≤ 6 → K (if yp_all (yc_t s a) n y = true then yp_val (yc_t s a) n y v else -1) s → zq_Ex X 68 20 [.ref a, zq_vi b, zq_vi e, zq_vi v, zq_vi y] [] s (zq_rp zq_iv K) := by
  intro n
  induction n with
  | zero =>
    intro v y h1 h0 v0 v1 hn k
    have v1 : v < 1000000 := v1
    refine zw_68_20 ha hb ⟨by omega, by omega⟩ ⟨by omega, by omega⟩ ⟨by omega, by omega⟩ ?_
    rw [if_neg (by omega)]
    exact k
  | succ n ih =>
    intro v y h1 h0 v0 v1 hn k
    have hy : zq_iv y := ⟨by omega, by omega⟩
    have v2 : (10 : Int) ^ (6 - (n + 1)) ≤ 100000 := (show ∀ n : Nat, n < 6 → (10 : Int) ^ (6 - (n + 1)) ≤ 100000 by decide) n (by omega)
    have v3 : (10 : Int) ^ (6 - n) = 10 * 10 ^ (6 - (n + 1)) := (show ∀ n : Nat, n < 6 → (10 : Int) ^ (6 - n) = 10 * 10 ^ (6 - (n + 1)) by decide) n (by omega)
    refine zq_have (fun hR => ?_)
    refine zw_68_20 ha hb ⟨by omega, by omega⟩ ⟨by omega, by omega⟩ hy ?_
    rw [if_pos (by omega)]
    refine ys_29 ha ho hy (ys_64 (yp_cd_in hR y) (yb_if (fun h2 => ?_) (fun h2 => ?_)))
    · rw [yc_cd (p := yp_dg) rfl rfl] at h2
      unfold yp_all at k
      rw [h2, Bool.false_and] at k
      exact k
    · rw [yc_cd (p := yp_dg) rfl rfl] at h2
      have hd := of_decide_eq_true h2
      have ec : yp_cd (yc_t s a y) = yc_t s a y := by unfold yp_cd; rw [if_neg (by omega)]
      refine ys_29 ha ho hy ?_
      rw [ec]
      refine ih (10 * v + yc_t s a y - 48) (y + 1) (by omega) (by omega) (by omega) (by omega) (by omega) ?_
      unfold yp_all yp_val at k
      rw [h2, Bool.true_and] at k
      exact k
set_option maxRecDepth 100000 in
theorem ys_68 {K : Int → zq_S → Prop} {b e : Int} (ha : zq_o 1 a) (ho : yc_ok s a) (hb : -200 ≤ b ∧ b ≤ 2000) (he : -200 ≤ e ∧ e ≤ 2000) (k : K (yp_dgs (yc_t s a) b e) s) : zq_Ex X 68 0 [.ref a, zq_vi b, zq_vi e, zz_no, zz_no] [] s (zq_rp zq_iv K) := by
  unfold yp_dgs at k
  refine zw_68 ha ⟨by omega, by omega⟩ ⟨by omega, by omega⟩ ?_
  split
  · next h => rw [if_pos (Or.inl h)] at k; exact k
  · next h =>
    refine ⟨⟨by omega, by omega⟩, ?_⟩
    split
    · next h2 =>
      rw [if_neg (by omega)] at k
      exact ys_68_20 ha ho ⟨by omega, by omega⟩ (by omega) (e - b).toNat 0 b (by omega) (by omega) (by omega) (Int.pow_pos (by decide)) (by omega) k
    · next h2 => rw [if_pos (by omega)] at k; exact k
set_option maxRecDepth 100000 in
/-- packed: a name as a number -/
theorem ys_54_5 {K : Int64 → zq_S → Prop} {b e : Int} (ha : zq_o 1 a) (ho : yc_ok s a) (hb : -200 ≤ b) (he : e ≤ 2000) : ∀ (n : Nat) (i : Nat) (y : Int64), b + i + n = e → (∀ j, b + i ≤ j → j < e → yc_t s a j ≠ 0) → K (y ||| ye_pk (yp_sub (yc_t s a) n (b + i)) i) s → zq_Ex X 54 5 [.ref a, zq_vi b, zq_vi e, .long y, zz_no, zq_vi (b + i)] [] s (zq_rl K) := by
  intro n
  induction n with
  | zero =>
    intro i y h1 hz k
    refine zw_54_5 ha ⟨by omega, by omega⟩ ⟨by omega, by omega⟩ ⟨by omega, by omega⟩ ?_
    rw [if_neg (by omega)]
    have e0 : ye_pk (yp_sub (yc_t s a) 0 (b + i)) i = 0 := rfl
    rw [e0, Int64.or_zero] at k
    exact k
  | succ n ih =>
    intro i y h1 hz k
    refine zw_54_5 ha ⟨by omega, by omega⟩ ⟨by omega, by omega⟩ ⟨by omega, by omega⟩ ?_
    rw [if_pos (by omega)]
    have hne := hz (b + i) (by omega) (by omega)
    refine ys_29 ha ho ⟨by omega, by omega⟩ ?_
    have ec : yp_cd (yc_t s a (b + i)) = yc_t s a (b + i) := by unfold yp_cd; rw [if_neg hne]
    rw [ec, show b + (i : Int) - b = (i : Int) by omega, show b + (i : Int) + 1 = b + ((i + 1 : Nat) : Int) by omega]
    refine ih (i + 1) _ (by omega) (fun j hj1 hj2 => hz j (by omega) hj2) ?_
    have e1 : ye_pk (yp_sub (yc_t s a) (n + 1) (b + i)) i = ((Int32.ofInt (yc_t s a (b + i))).toInt64 <<< ((Int32.ofInt (8 * (i : Int))).toInt64 &&& 63)) ||| ye_pk (yp_sub (yc_t s a) n (b + i + 1)) (i + 1) := rfl
    rw [e1, ← Int64.or_assoc, show b + (i : Int) + 1 = b + ((i + 1 : Nat) : Int) by omega] at k
    exact k
set_option maxRecDepth 100000 in
theorem ys_54 {K : Int64 → zq_S → Prop} {b e : Int} (ha : zq_o 1 a) (ho : yc_ok s a) (hb : -200 ≤ b) (hbe : b ≤ e) (he : e ≤ 2000) (hz : ∀ j, b ≤ j → j < e → yc_t s a j ≠ 0) (k : K (ye_pk (yp_sub (yc_t s a) (e - b).toNat b) 0) s) : zq_Ex X 54 0 [.ref a, zq_vi b, zq_vi e, zz_no, zz_no, zz_no] [] s (zq_rl K) := by
  have h := ys_54_5 (X := X) (K := K) ha ho hb he (e - b).toNat 0 0 (by omega) (fun j h1 h2 => hz j (by omega) h2) (by rw [Int64.zero_or, show b + ((0 : Nat) : Int) = b by omega]; exact k)
  rw [show b + ((0 : Nat) : Int) = b by omega] at h
  exact zw_54 ha ⟨by omega, by omega⟩ ⟨by omega, by omega⟩ h
end YCT
