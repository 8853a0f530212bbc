/-! THE QUICK LOGIC: states instead of heaps, Ints instead of Int32s. The tables are printed by program (gen47.py) -/
abbrev zq_S : Type := (Nat → Int → Int) × (Nat → Int → Option Nat) × (Nat → Int → Int64) × Nat × Nat
/-- the ints (a cell's number, a field's or an element's); the references; the longs; how many exceptions were made; the class of the last one -/
def zq_i (s : zq_S) : Nat → Int → Int := s.1
def zq_r (s : zq_S) : Nat → Int → Option Nat := s.2.1
def zq_l (s : zq_S) : Nat → Int → Int64 := s.2.2.1
def zq_n (s : zq_S) : Nat := s.2.2.2.1
def zq_x (s : zq_S) : Nat := s.2.2.2.2
def zq_up {α : Type} (f : Nat → Int → α) (a : Nat) (j : Int) (v : α) : Nat → Int → α := fun b k => if b = a ∧ k = j then v else f b k
def zq_si (s : zq_S) (a : Nat) (j x : Int) : zq_S := (zq_up s.1 a j x, s.2)
def zq_sr (s : zq_S) (a : Nat) (j : Int) (o : Option Nat) : zq_S := (s.1, zq_up s.2.1 a j o, s.2.2)
def zq_sl (s : zq_S) (a : Nat) (j : Int) (x : Int64) : zq_S := (s.1, s.2.1, zq_up s.2.2.1 a j x, s.2.2.2)
def zq_sx (s : zq_S) (ci : Nat) : zq_S := (s.1, s.2.1, s.2.2.1, s.2.2.2.1 + 1, ci)
def zq_cpi (s : zq_S) (b : Nat) (sp dp m : Int) : zq_S := (fun a j => if a = b ∧ dp ≤ j ∧ j < dp + m then s.1 b (sp + (j - dp)) else s.1 a j, s.2)
def zq_cpl (s : zq_S) (b : Nat) (sp dp m : Int) : zq_S := (s.1, s.2.1, fun a j => if a = b ∧ dp ≤ j ∧ j < dp + m then s.2.2.1 b (sp + (j - dp)) else s.2.2.1 a j, s.2.2.2)
theorem zq_i_si (s : zq_S) (a b : Nat) (j k x : Int) : zq_i (zq_si s a j x) b k = if b = a ∧ k = j then x else zq_i s b k := rfl
theorem zq_i_at (s : zq_S) (a : Nat) (j x : Int) : zq_i (zq_si s a j x) a j = x := if_pos ⟨rfl, rfl⟩
theorem zq_i_sr (s : zq_S) (a : Nat) (j : Int) (o : Option Nat) : zq_i (zq_sr s a j o) = zq_i s := rfl
theorem zq_i_sl (s : zq_S) (a : Nat) (j : Int) (x : Int64) : zq_i (zq_sl s a j x) = zq_i s := rfl
theorem zq_i_sx (s : zq_S) (ci : Nat) : zq_i (zq_sx s ci) = zq_i s := rfl
theorem zq_r_si (s : zq_S) (a : Nat) (j x : Int) : zq_r (zq_si s a j x) = zq_r s := rfl
theorem zq_r_sr (s : zq_S) (a b : Nat) (j k : Int) (o : Option Nat) : zq_r (zq_sr s a j o) b k = if b = a ∧ k = j then o else zq_r s b k := rfl
theorem zq_r_sl (s : zq_S) (a : Nat) (j : Int) (x : Int64) : zq_r (zq_sl s a j x) = zq_r s := rfl
theorem zq_r_sx (s : zq_S) (ci : Nat) : zq_r (zq_sx s ci) = zq_r s := rfl
theorem zq_l_si (s : zq_S) (a : Nat) (j x : Int) : zq_l (zq_si s a j x) = zq_l s := rfl
theorem zq_l_sr (s : zq_S) (a : Nat) (j : Int) (o : Option Nat) : zq_l (zq_sr s a j o) = zq_l s := rfl
theorem zq_l_sl (s : zq_S) (a b : Nat) (j k : Int) (x : Int64) : zq_l (zq_sl s a j x) b k = if b = a ∧ k = j then x else zq_l s b k := rfl
theorem zq_l_sx (s : zq_S) (ci : Nat) : zq_l (zq_sx s ci) = zq_l s := rfl
theorem zq_n_si (s : zq_S) (a : Nat) (j x : Int) : zq_n (zq_si s a j x) = zq_n s := rfl
theorem zq_n_sr (s : zq_S) (a : Nat) (j : Int) (o : Option Nat) : zq_n (zq_sr s a j o) = zq_n s := rfl
theorem zq_n_sl (s : zq_S) (a : Nat) (j : Int) (x : Int64) : zq_n (zq_sl s a j x) = zq_n s := rfl
theorem zq_n_sx (s : zq_S) (ci : Nat) : zq_n (zq_sx s ci) = zq_n s + 1 := rfl
abbrev zq_iv (x : Int) : Prop := -2147483648 ≤ x ∧ x < 2147483648
abbrev zq_ch (x : Int) : Prop := 0 ≤ x ∧ x < 65536
abbrev zq_bo (x : Int) : Prop := x = 0 ∨ x = 1
theorem zq_ch_in {x : Int} (h : zq_ch x) : zq_iv x := ⟨by omega, by omega⟩
theorem zq_bo_in {x : Int} (h : zq_bo x) : zq_iv x := ⟨by omega, by omega⟩
theorem zq_bo_ch {x : Int} (h : zq_bo x) : zq_ch x := ⟨by omega, by omega⟩
theorem zq_chm (x : Int) : zq_ch (x % 65536) := ⟨by omega, by omega⟩
abbrev zq_vi (x : Int) : Value := .int (Int32.ofInt x)
theorem zq_toInt {x : Int} (h : zq_iv x) : (Int32.ofInt x).toInt = x := Int32.toInt_ofInt_of_le (by omega) (by omega)
theorem zq_in32 (x : Int32) : zq_iv x.toInt := ⟨by have := x.le_toInt; omega, by have := x.toInt_lt; omega⟩
theorem zq_of32 (x : Int32) : Int32.ofInt x.toInt = x := Int32.ofInt_toInt x
/-- int operations that are left as they are -/
def zq_div (x y : Int) : Int := (Int32.ofInt x / Int32.ofInt y).toInt
def zq_rem (x y : Int) : Int := (Int32.ofInt x - Int32.ofInt x / Int32.ofInt y * Int32.ofInt y).toInt
def zq_and (x y : Int) : Int := (Int32.ofInt x &&& Int32.ofInt y).toInt
def zq_or (x y : Int) : Int := (Int32.ofInt x ||| Int32.ofInt y).toInt
def zq_shl (x y : Int) : Int := (Int32.ofInt x <<< (Int32.ofInt y &&& 31)).toInt
def zq_shr (x y : Int) : Int := (Int32.ofInt x >>> (Int32.ofInt y &&& 31)).toInt
def zq_ush (x y : Int) : Int := (((Int32.ofInt x).toUInt32 >>> ((Int32.ofInt y).toUInt32 &&& Int32.toUInt32 31)).toInt32).toInt
/-- the cells: (0, class, 0) an object; (1, type, length) a row of ints, characters or booleans; (2, 3, length) of longs; (3, 4, length) of slots -/
def zq_kl : List (Nat × Nat × Nat) := [(0, 0, 0), (0, 1, 0), (1, 1, 100), (0, 2, 0), (0, 2, 0), (0, 3, 0), (1, 0, 5), (0, 5, 0), (0, 3, 0), (1, 0, 5), (0, 2, 0), (0, 4, 0), (1, 0, 12), (1, 0, 12), (1, 0, 12), (1, 0, 12), (2, 3, 12), (1, 1, 144), (1, 0, 10), (1, 0, 10), (2, 3, 16), (0, 6, 0), (1, 0, 10), (0, 1, 0), (1, 1, 999), (0, 1, 0), (1, 1, 999), (0, 8, 0), (3, 4, 9), (0, 4, 0), (1, 0, 12), (1, 0, 12), (1, 0, 12), (1, 0, 12), (2, 3, 12), (1, 1, 144), (0, 7, 0), (0, 4, 0), (1, 0, 12), (1, 0, 12), (1, 0, 12), (1, 0, 12), (2, 3, 12), (1, 1, 144), (0, 1, 0), (1, 1, 12), (0, 7, 0), (0, 4, 0), (1, 0, 12), (1, 0, 12), (1, 0, 12), (1, 0, 12), (2, 3, 12), (1, 1, 144), (0, 1, 0), (1, 1, 12), (0, 7, 0), (0, 4, 0), (1, 0, 12), (1, 0, 12), (1, 0, 12), (1, 0, 12), (2, 3, 12), (1, 1, 144), (0, 1, 0), (1, 1, 12), (0, 7, 0), (0, 4, 0), (1, 0, 12), (1, 0, 12), (1, 0, 12), (1, 0, 12), (2, 3, 12), (1, 1, 144), (0, 1, 0), (1, 1, 12), (0, 7, 0), (0, 4, 0), (1, 0, 12), (1, 0, 12), (1, 0, 12), (1, 0, 12), (2, 3, 12), (1, 1, 144), (0, 1, 0), (1, 1, 12), (0, 7, 0), (0, 4, 0), (1, 0, 12), (1, 0, 12), (1, 0, 12), (1, 0, 12), (2, 3, 12), (1, 1, 144), (0, 1, 0), (1, 1, 12), (0, 7, 0), (0, 4, 0), (1, 0, 12), (1, 0, 12), (1, 0, 12), (1, 0, 12), (2, 3, 12), (1, 1, 144), (0, 1, 0), (1, 1, 12), (0, 7, 0), (0, 4, 0), (1, 0, 12), (1, 0, 12), (1, 0, 12), (1, 0, 12), (2, 3, 12), (1, 1, 144), (0, 1, 0), (1, 1, 12), (0, 7, 0), (0, 4, 0), (1, 0, 12), (1, 0, 12), (1, 0, 12), (1, 0, 12), (2, 3, 12), (1, 1, 144), (0, 1, 0), (1, 1, 12), (0, 8, 0), (3, 4, 9), (0, 4, 0), (1, 0, 12), (1, 0, 12), (1, 0, 12), (1, 0, 12), (2, 3, 12), (1, 1, 144), (0, 7, 0), (0, 4, 0), (1, 0, 12), (1, 0, 12), (1, 0, 12), (1, 0, 12), (2, 3, 12), (1, 1, 144), (0, 1, 0), (1, 1, 12), (0, 7, 0), (0, 4, 0), (1, 0, 12), (1, 0, 12), (1, 0, 12), (1, 0, 12), (2, 3, 12), (1, 1, 144), (0, 1, 0), (1, 1, 12), (0, 7, 0), (0, 4, 0), (1, 0, 12), (1, 0, 12), (1, 0, 12), (1, 0, 12), (2, 3, 12), (1, 1, 144), (0, 1, 0), (1, 1, 12), (0, 7, 0), (0, 4, 0), (1, 0, 12), (1, 0, 12), (1, 0, 12), (1, 0, 12), (2, 3, 12), (1, 1, 144), (0, 1, 0), (1, 1, 12), (0, 7, 0), (0, 4, 0), (1, 0, 12), (1, 0, 12), (1, 0, 12), (1, 0, 12), (2, 3, 12), (1, 1, 144), (0, 1, 0), (1, 1, 12), (0, 7, 0), (0, 4, 0), (1, 0, 12), (1, 0, 12), (1, 0, 12), (1, 0, 12), (2, 3, 12), (1, 1, 144), (0, 1, 0), (1, 1, 12), (0, 7, 0), (0, 4, 0), (1, 0, 12), (1, 0, 12), (1, 0, 12), (1, 0, 12), (2, 3, 12), (1, 1, 144), (0, 1, 0), (1, 1, 12), (0, 7, 0), (0, 4, 0), (1, 0, 12), (1, 0, 12), (1, 0, 12), (1, 0, 12), (2, 3, 12), (1, 1, 144), (0, 1, 0), (1, 1, 12), (0, 7, 0), (0, 4, 0), (1, 0, 12), (1, 0, 12), (1, 0, 12), (1, 0, 12), (2, 3, 12), (1, 1, 144), (0, 1, 0), (1, 1, 12), (0, 4, 0), (1, 0, 12), (1, 0, 12), (1, 0, 12), (1, 0, 12), (2, 3, 12), (1, 1, 144), (0, 9, 0), (1, 1, 100), (1, 1, 999), (1, 1, 500), (1, 1, 6500), (1, 2, 10), (1, 0, 10), (1, 2, 10), (1, 0, 10), (1, 1, 5000), (1, 2, 10), (1, 0, 10), (1, 1, 120), (1, 1, 700), (1, 0, 8), (1, 0, 8), (1, 0, 16), (1, 0, 16), (1, 0, 10), (1, 0, 10), (1, 0, 10), (1, 0, 200), (1, 2, 10), (1, 2, 10), (1, 1, 6), (1, 1, 4), (1, 1, 4), (2, 3, 1)]
/-- the fields: 0 int, 1 boolean, 2 long, 10 + c a reference to an object of class c, 100 + d a final reference to the cell d behind -/
def zq_fl : List (List Nat) := [[101, 103, 104, 105, 107, 121, 11, 11, 18, 18, 14, 0, 0], [101, 0, 1], [14, 0, 0], [11, 14, 101, 0, 2, 0], [0, 101, 102, 103, 104, 105, 106], [101, 103, 104, 111, 112, 113, 11, 18, 0, 0, 0], [101], [1, 1, 1, 0, 14, 108], [101, 102, 0, 0], [0, 0, 101, 0, 102, 0, 103, 0, 104, 105, 106, 107, 108, 109, 110, 111, 112, 0, 0, 0, 0, 0, 0, 0, 113, 0, 0, 0, 0, 0, 114, 115, 1, 0, 116, 117, 118, 119, 120, 0, 121, 0, 0, 0, 0, 122, 123, 0, 0, 124, 125, 126]]
def zq_k (a : Nat) : Nat × Nat × Nat := zq_kl.getD a (9, 0, 0)
abbrev zq_o (ci a : Nat) : Prop := zq_k a = (0, ci, 0)
def zq_ft (ci k : Nat) : Nat := (zq_fl.getD ci []).getD k 0
def zq_nf (ci : Nat) : Nat := (zq_fl.getD ci []).length
/-- the room of a Text -/
def zq_T (a : Nat) : Nat := (zq_k (a + 1)).2.2
def zq_fv (s : zq_S) (ci a k : Nat) : Value := if zq_ft ci k < 2 then zq_vi (zq_i s a k) else if zq_ft ci k = 2 then .long (zq_l s a k) else if zq_ft ci k < 100 then va_rf (zq_r s a k) else .ref (a + (zq_ft ci k - 100))
def zq_R (s : zq_S) : Prop := (∀ a j, zq_iv (zq_i s a j)) ∧ (∀ a n j, zq_k a = (1, 1, n) → zq_ch (zq_i s a j)) ∧ (∀ a n j, zq_k a = (1, 2, n) → zq_bo (zq_i s a j)) ∧ (∀ a ci (k : Nat), zq_o ci a → zq_ft ci k = 1 → zq_bo (zq_i s a k)) ∧ (∀ a ci (k b : Nat), zq_o ci a → 10 ≤ zq_ft ci k → zq_ft ci k < 100 → zq_r s a k = some b → zq_o (zq_ft ci k - 10) b)
def zq_pic (h : zz_H) (s : zq_S) : Prop := zq_R s ∧ h.length = 260 + zq_n s ∧ (0 < zq_n s → h[259 + zq_n s]? = some (.inr (zq_x s, []))) ∧ (∀ a ci, zq_k a = (0, ci, 0) → h[a]? = some (.inr (ci, (List.range (zq_nf ci)).map (zq_fv s ci a)))) ∧ (∀ a tg n, zq_k a = (1, tg, n) → ∃ f, h[a]? = some (.inl (tg, n, .inl f)) ∧ ∀ j, j < n → f j = Int32.ofInt (zq_i s a (j : Nat))) ∧ (∀ a tg n, zq_k a = (2, tg, n) → ∃ f, h[a]? = some (.inl (3, n, .inr (.inl f))) ∧ ∀ j, j < n → f j = zq_l s a (j : Nat)) ∧ (∀ a tg n, zq_k a = (3, tg, n) → ∃ f, h[a]? = some (.inl (4, n, .inr (.inr (.inr (.inr f))))) ∧ ∀ j, j < n → f j = some (a + 8 + 10 * j))
theorem zq_pic.R {h : zz_H} {s : zq_S} (hp : zq_pic h s) : zq_R s := hp.1
theorem zq_pic.len {h : zz_H} {s : zq_S} (hp : zq_pic h s) : h.length = 260 + zq_n s := hp.2.1
theorem zq_pic.obj {h : zz_H} {s : zq_S} {a ci : Nat} (hp : zq_pic h s) (ha : zq_o ci a) : h[a]? = some (.inr (ci, (List.range (zq_nf ci)).map (zq_fv s ci a))) := hp.2.2.2.1 a ci ha
theorem zq_pic.arr {h : zz_H} {s : zq_S} {a tg n : Nat} (hp : zq_pic h s) (ha : zq_k a = (1, tg, n)) : ∃ f, h[a]? = some (.inl (tg, n, .inl f)) ∧ ∀ j, j < n → f j = Int32.ofInt (zq_i s a (j : Nat)) := hp.2.2.2.2.1 a tg n ha
theorem zq_pic.lar {h : zz_H} {s : zq_S} {a tg n : Nat} (hp : zq_pic h s) (ha : zq_k a = (2, tg, n)) : ∃ f, h[a]? = some (.inl (3, n, .inr (.inl f))) ∧ ∀ j, j < n → f j = zq_l s a (j : Nat) := hp.2.2.2.2.2.1 a tg n ha
theorem zq_pic.sar {h : zz_H} {s : zq_S} {a tg n : Nat} (hp : zq_pic h s) (ha : zq_k a = (3, tg, n)) : ∃ f, h[a]? = some (.inl (4, n, .inr (.inr (.inr (.inr f))))) ∧ ∀ j, j < n → f j = some (a + 8 + 10 * j) := hp.2.2.2.2.2.2 a tg n ha
theorem zq_kl_len : zq_kl.length = 260 := by decide +kernel
theorem zq_k_lt {a x y z : Nat} (h : zq_k a = (x, y, z)) (hx : x < 9) : a < 260 := by
  apply Decidable.byContradiction
  intro hn
  unfold zq_k at h
  rw [List.getD_eq_getElem?_getD, List.getElem?_eq_none (by rw [zq_kl_len]; omega)] at h
  have : (9 : Nat) = x := congrArg Prod.fst h
  omega
theorem zq_getf {ci a k : Nat} {s : zq_S} (hk : k < zq_nf ci) : ((List.range (zq_nf ci)).map (zq_fv s ci a))[k]? = some (zq_fv s ci a k) := by
  rw [List.getElem?_map, List.getElem?_range hk]
  rfl
theorem zq_setf {m : Nat} {g : Nat → Value} {k : Nat} {v : Value} : ((List.range m).map g).set k v = (List.range m).map (fun j => if j = k then v else g j) := by
  apply List.ext_getElem?
  intro j
  rw [List.getElem?_set, List.getElem?_map, List.getElem?_map, List.length_map, List.length_range]
  by_cases hj : j < m
  · rw [List.getElem?_range hj]
    by_cases hk : k = j
    · subst hk
      rw [if_pos rfl, if_pos hj]
      simp
    · rw [if_neg hk]
      simp [Ne.symm hk]
  · rw [List.getElem?_eq_none (by rw [List.length_range]; omega)]
    by_cases hk : k = j
    · rw [if_pos hk, if_neg (by omega)]
      rfl
    · rw [if_neg hk]
      rfl
/-- a cell of an object changes -/
theorem zq_pic.setf {h : zz_H} {s s' : zq_S} {a ci k : Nat} {v : Value} (hp : zq_pic h s) (ha : zq_o ci a) (hR : zq_R s') (hn : zq_n s' = zq_n s) (hx : zq_x s' = zq_x s) (hi : ∀ b j, b ≠ a → zq_i s' b j = zq_i s b j) (hl : ∀ b j, b ≠ a → zq_l s' b j = zq_l s b j) (hr : ∀ b j, b ≠ a → zq_r s' b j = zq_r s b j) (hv : ∀ j, zq_fv s' ci a j = if j = k then v else zq_fv s ci a j) : zq_pic (h.set a (.inr (ci, ((List.range (zq_nf ci)).map (zq_fv s ci a)).set k v))) s' := by
  have hlt : a < 260 := zq_k_lt ha (by decide)
  obtain ⟨p1, p2, p3, p4, p5, p6, p7⟩ := hp
  refine ⟨hR, by rw [List.length_set, hn]; exact p2, fun h0 => ?_, fun b cj hb => ?_, fun b tg n hb => ?_, fun b tg n hb => ?_, fun b tg n hb => ?_⟩
  · rw [hn, List.getElem?_set_ne (by omega), hx]
    exact p3 (by omega)
  · by_cases e : b = a
    · subst e
      have : cj = ci := by
        have h1 : (0, cj, 0) = (0, ci, 0) := hb.symm.trans ha
        exact congrArg (fun q : Nat × Nat × Nat => q.2.1) h1
      subst this
      rw [zh_at (p4 b cj ha), zq_setf]
      congr 4
      funext j
      exact (hv j).symm
    · rw [List.getElem?_set_ne (fun z => e z.symm), p4 b cj hb]
      congr 4
      funext j
      unfold zq_fv
      rw [hi b _ e, hl b _ e, hr b _ e]
  · have e : b ≠ a := fun z => by rw [z, ha] at hb; cases hb
    rw [List.getElem?_set_ne (fun z => e z.symm)]
    obtain ⟨f, f1, f2⟩ := p5 b tg n hb
    exact ⟨f, f1, fun j hj => by rw [f2 j hj, hi b _ e]⟩
  · have e : b ≠ a := fun z => by rw [z, ha] at hb; cases hb
    rw [List.getElem?_set_ne (fun z => e z.symm)]
    obtain ⟨f, f1, f2⟩ := p6 b tg n hb
    exact ⟨f, f1, fun j hj => by rw [f2 j hj, hl b _ e]⟩
  · have e : b ≠ a := fun z => by rw [z, ha] at hb; cases hb
    rw [List.getElem?_set_ne (fun z => e z.symm)]
    exact p7 b tg n hb
/-- a row of ints changes -/
theorem zq_pic.seta {h : zz_H} {s s' : zq_S} {a tg n : Nat} {g : Nat → Int32} (hp : zq_pic h s) (ha : zq_k a = (1, tg, n)) (hR : zq_R s') (hs : s'.2 = s.2) (hi : ∀ b j, b ≠ a → zq_i s' b j = zq_i s b j) (hv : ∀ j, j < n → g j = Int32.ofInt (zq_i s' a (j : Nat))) : zq_pic (h.set a (.inl (tg, n, .inl g))) s' := by
  have hlt : a < 260 := zq_k_lt ha (by decide)
  have hn : zq_n s' = zq_n s := congrArg (fun q : (Nat → Int → Option Nat) × (Nat → Int → Int64) × Nat × Nat => q.2.2.1) hs
  have hx : zq_x s' = zq_x s := congrArg (fun q : (Nat → Int → Option Nat) × (Nat → Int → Int64) × Nat × Nat => q.2.2.2) hs
  have hr : zq_r s' = zq_r s := congrArg (fun q : (Nat → Int → Option Nat) × (Nat → Int → Int64) × Nat × Nat => q.1) hs
  have hl : zq_l s' = zq_l s := congrArg (fun q : (Nat → Int → Option Nat) × (Nat → Int → Int64) × Nat × Nat => q.2.1) hs
  obtain ⟨p1, p2, p3, p4, p5, p6, p7⟩ := hp
  refine ⟨hR, by rw [List.length_set, hn]; exact p2, fun h0 => ?_, fun b cj hb => ?_, fun b tg' n' hb => ?_, fun b tg n hb => ?_, fun b tg n hb => ?_⟩
  · rw [hn, List.getElem?_set_ne (by omega), hx]
    exact p3 (by omega)
  · have e : b ≠ a := fun z => by rw [z, ha] at hb; cases hb
    rw [List.getElem?_set_ne (fun z => e z.symm), p4 b cj hb]
    congr 4
    funext j
    unfold zq_fv
    rw [hi b _ e, hl, hr]
  · by_cases e : b = a
    · subst e
      rw [ha] at hb
      cases hb
      obtain ⟨f, f1, f2⟩ := p5 b tg n ha
      exact ⟨g, zh_at f1, hv⟩
    · rw [List.getElem?_set_ne (fun z => e z.symm)]
      obtain ⟨f, f1, f2⟩ := p5 b tg' n' hb
      exact ⟨f, f1, fun j hj => by rw [f2 j hj, hi b _ e]⟩
  · have e : b ≠ a := fun z => by rw [z, ha] at hb; cases hb
    rw [List.getElem?_set_ne (fun z => e z.symm), hl]
    exact p6 b tg n hb
  · have e : b ≠ a := fun z => by rw [z, ha] at hb; cases hb
    rw [List.getElem?_set_ne (fun z => e z.symm)]
    exact p7 b tg n hb
/-- a row of longs changes -/
theorem zq_pic.setl {h : zz_H} {s s' : zq_S} {a tg n : Nat} {g : Nat → Int64} (hp : zq_pic h s) (ha : zq_k a = (2, tg, n)) (hR : zq_R s') (hi : zq_i s' = zq_i s) (hr : zq_r s' = zq_r s) (hn : zq_n s' = zq_n s) (hx : zq_x s' = zq_x s) (hl : ∀ b j, b ≠ a → zq_l s' b j = zq_l s b j) (hv : ∀ j, j < n → g j = zq_l s' a (j : Nat)) : zq_pic (h.set a (.inl (3, n, .inr (.inl g)))) s' := by
  have hlt : a < 260 := zq_k_lt ha (by decide)
  obtain ⟨p1, p2, p3, p4, p5, p6, p7⟩ := hp
  refine ⟨hR, by rw [List.length_set, hn]; exact p2, fun h0 => ?_, fun b cj hb => ?_, fun b tg' n' hb => ?_, fun b tg' n' hb => ?_, fun b tg n hb => ?_⟩
  · rw [hn, List.getElem?_set_ne (by omega), hx]
    exact p3 (by omega)
  · have e : b ≠ a := fun z => by rw [z, ha] at hb; cases hb
    rw [List.getElem?_set_ne (fun z => e z.symm), p4 b cj hb]
    congr 4
    funext j
    unfold zq_fv
    rw [hl b _ e, hi, hr]
  · have e : b ≠ a := fun z => by rw [z, ha] at hb; cases hb
    rw [List.getElem?_set_ne (fun z => e z.symm), hi]
    exact p5 b tg' n' hb
  · by_cases e : b = a
    · subst e
      rw [ha] at hb
      cases hb
      obtain ⟨f, f1, f2⟩ := p6 b tg n ha
      exact ⟨g, zh_at f1, hv⟩
    · rw [List.getElem?_set_ne (fun z => e z.symm)]
      obtain ⟨f, f1, f2⟩ := p6 b tg' n' hb
      exact ⟨f, f1, fun j hj => by rw [f2 j hj, hl b _ e]⟩
  · have e : b ≠ a := fun z => by rw [z, ha] at hb; cases hb
    rw [List.getElem?_set_ne (fun z => e z.symm)]
    exact p7 b tg n hb
