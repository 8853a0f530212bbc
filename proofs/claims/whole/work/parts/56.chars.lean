/-! PURE: characters and texts; the methods that look at characters -/
def yp_isC (c : Int) : Bool := decide (c = 10 ∨ (32 ≤ c ∧ c ≤ 126))
def yp_dg (c : Int) : Bool := decide (48 ≤ c ∧ c ≤ 57)
def yp_od (c : Int) : Bool := decide (49 ≤ c ∧ c ≤ 57)
def yp_nc (c : Int) : Bool := decide ((48 ≤ c ∧ c ≤ 57) ∨ (97 ≤ c ∧ c ≤ 122) ∨ (65 ≤ c ∧ c ≤ 90))
def yp_wc (c : Int) : Bool := decide (c = 45 ∨ (48 ≤ c ∧ c ≤ 57) ∨ (97 ≤ c ∧ c ≤ 122) ∨ (65 ≤ c ∧ c ≤ 90))
def yp_sp (c : Int) : Bool := decide (c = 32 ∨ c = 10)
def yb (b : Bool) : Int := if b = true then 1 else 0
set_option maxRecDepth 100000 in
theorem yb_0 (b : Bool) : yb b = 0 ↔ b = false := by cases b <;> decide
set_option maxRecDepth 100000 in
theorem yb_bo (b : Bool) : zq_bo (yb b) := by cases b <;> decide
set_option maxRecDepth 100000 in
theorem yb_if {b : Bool} {A B : Prop} (hf : b = false → A) (ht : b = true → B) : if yb b = 0 then A else B := by
  cases b
  · exact hf rfl
  · exact ht rfl
set_option maxRecDepth 100000 in
theorem yb_dec {p : Prop} [Decidable p] : yb (decide p) = if p then 1 else 0 := by
  unfold yb
  by_cases h : p <;> simp [h]
/-- the end of a run of characters -/
def yp_run (p : Int → Bool) (T : Int → Int) : Nat → Int → Int
  | 0, k => k
  | f + 1, k => if p (T k) = true then yp_run p T f (k + 1) else k
/-- a text: nothing from 1000 on -/
def yp_T (T : Int → Int) : Prop := ∀ j, 1000 ≤ j → T j = 0
set_option maxRecDepth 100000 in
theorem yp_run_eq {p : Int → Bool} {T : Int → Int} (hT : yp_T T) (h0 : p 0 = false) : ∀ (f g : Nat) (k : Int), 1001 ≤ k + f → 1001 ≤ k + g → yp_run p T f k = yp_run p T g k
  | 0, 0, k, _, _ => rfl
  | 0, g + 1, k, h1, _ => by
    unfold yp_run
    rw [hT k (by omega), h0]
    simp
  | f + 1, 0, k, _, h2 => by
    unfold yp_run
    rw [hT k (by omega), h0]
    simp
  | f + 1, g + 1, k, h1, h2 => by
    unfold yp_run
    rw [yp_run_eq hT h0 f g (k + 1) (by omega) (by omega)]
def yp_end (p : Int → Bool) (T : Int → Int) (k : Int) : Int := yp_run p T 2000 k
set_option maxRecDepth 100000 in
theorem yp_end_eq {p : Int → Bool} {T : Int → Int} (hT : yp_T T) (h0 : p 0 = false) {k : Int} (hk : -100 ≤ k) : yp_end p T k = if p (T k) = true then yp_end p T (k + 1) else k := by
  have h1 : yp_end p T k = if p (T k) = true then yp_run p T 1999 (k + 1) else k := rfl
  rw [h1, yp_run_eq hT h0 1999 2000 (k + 1) (by omega) (by omega)]
  rfl
set_option maxRecDepth 100000 in
theorem yp_end_le {p : Int → Bool} {T : Int → Int} : ∀ (f : Nat) (k : Int), k ≤ yp_run p T f k
  | 0, k => Int.le_refl k
  | f + 1, k => by
    unfold yp_run
    split
    · have := yp_end_le (p := p) (T := T) f (k + 1)
      omega
    · exact Int.le_refl k
set_option maxRecDepth 100000 in
theorem yp_run_lt {p : Int → Bool} {T : Int → Int} (hT : yp_T T) (h0 : p 0 = false) : ∀ (f : Nat) (k : Int), k ≤ 1000 → yp_run p T f k ≤ 1000
  | 0, k, h => h
  | f + 1, k, h => by
    unfold yp_run
    split
    · next h1 =>
      by_cases h2 : k = 1000
      · rw [hT k (by omega), h0] at h1
        cases h1
      · exact yp_run_lt hT h0 f (k + 1) (by omega)
    · exact h
def yp_sk (T : Int → Int) (k : Int) : Int := yp_end yp_sp T k
def yp_wd (T : Int → Int) (k : Int) : Int := yp_end yp_wc T k
def yp_nm (T : Int → Int) (k : Int) : Int := yp_end yp_nc T (k + 1)
/-- what a Text's code is -/
def yp_cd (c : Int) : Int := if c = 0 then -1 else c
/-! the class's Texts -/
def yc_t (s : zq_S) (a : Nat) : Int → Int := fun j => if 0 ≤ j ∧ j < zq_i s a 1 then zq_i s (a + 1) j else 0
def yc_ok (s : zq_S) (a : Nat) : Prop := 0 ≤ zq_i s a 1 ∧ zq_i s a 1 ≤ (zq_T a : Nat) ∧ ∀ j, 0 ≤ j → j < zq_i s a 1 → yp_isC (zq_i s (a + 1) j) = true
set_option maxRecDepth 100000 in
theorem zq_T_le {a : Nat} (ha : zq_o 1 a) : zq_T a ≤ 999 := (show ∀ a, a < 260 → zq_k a = (0, 1, 0) → zq_T a ≤ 999 by decide +kernel) a (zq_k_lt ha (by decide)) ha
set_option maxRecDepth 100000 in
theorem yc_ok.T {s : zq_S} {a : Nat} (ho : yc_ok s a) (ha : zq_o 1 a) : yp_T (yc_t s a) := fun j hj => by
  unfold yc_t
  rw [if_neg]
  have := ho.2.1
  have := zq_T_le ha
  omega
set_option maxRecDepth 100000 in
theorem yc_ok.ch {s : zq_S} {a : Nat} {j : Int} (ho : yc_ok s a) (h0 : 0 ≤ j) (h1 : j < zq_i s a 1) : yc_t s a j ≠ 0 ∧ yc_t s a j = zq_i s (a + 1) j := by
  unfold yc_t
  rw [if_pos ⟨h0, h1⟩]
  have := of_decide_eq_true (ho.2.2 j h0 h1)
  exact ⟨by omega, rfl⟩
set_option maxRecDepth 100000 in
theorem yc_out {s : zq_S} {a : Nat} {j : Int} (h : ¬ (0 ≤ j ∧ j < zq_i s a 1)) : yc_t s a j = 0 := by
  unfold yc_t
  rw [if_neg h]
section YS
variable {X : Nat × (Nat → Int32)} {s : zq_S} {K : Int → zq_S → Prop} {x y q : Int} {a : Nat}
set_option maxRecDepth 100000 in
theorem ys_40 (hx : zq_iv x) (k : K (yb (yp_isC x)) s) : zq_Ex X 40 0 [zq_vi x] [] s (zq_rp zq_bo K) := zw_40 hx (by
  unfold yp_isC at k
  rw [yb_dec] at k
  split at k <;> (repeat' split) <;> first | exact k | (exfalso; omega))
set_option maxRecDepth 100000 in
theorem ys_143 (hx : zq_iv x) (k : K (yb (yp_isC x)) s) : zq_Ex X 143 0 [zq_vi x] [] s (zq_rp zq_bo K) := zw_143 hx (by
  unfold yp_isC at k
  rw [yb_dec] at k
  split at k <;> (repeat' split) <;> first | exact k | (exfalso; omega))
set_option maxRecDepth 100000 in
theorem ys_64 (hx : zq_iv x) (k : K (yb (yp_dg x)) s) : zq_Ex X 64 0 [zq_vi x] [] s (zq_rp zq_bo K) := zw_64 hx (by
  unfold yp_dg at k
  rw [yb_dec] at k
  split at k <;> (repeat' split) <;> first | exact k | (exfalso; omega))
set_option maxRecDepth 100000 in
theorem ys_155 (hx : zq_iv x) (k : K (yb (yp_dg x)) s) : zq_Ex X 155 0 [zq_vi x] [] s (zq_rp zq_bo K) := zw_155 hx (by
  unfold yp_dg at k
  rw [yb_dec] at k
  split at k <;> (repeat' split) <;> first | exact k | (exfalso; omega))
set_option maxRecDepth 100000 in
theorem ys_114 (hx : zq_iv x) (k : K (yb (yp_od x)) s) : zq_Ex X 114 0 [zq_vi x] [] s (zq_rp zq_bo K) := zw_114 hx (by
  unfold yp_od at k
  rw [yb_dec] at k
  split at k <;> (repeat' split) <;> first | exact k | (exfalso; omega))
set_option maxRecDepth 100000 in
theorem ys_53 (hx : zq_iv x) (k : K (yb (yp_nc x)) s) : zq_Ex X 53 0 [zq_vi x] [] s (zq_rp zq_bo K) := zw_53 hx (by
  unfold yp_nc at k
  rw [yb_dec] at k
  split at k <;> (repeat' split) <;> first | exact k | (exfalso; omega))
set_option maxRecDepth 100000 in
theorem ys_65 (hx : zq_iv x) (k : K (yb (yp_wc x)) s) : zq_Ex X 65 0 [zq_vi x] [] s (zq_rp zq_bo K) := zw_65 hx (by
  unfold yp_wc at k
  rw [yb_dec] at k
  split at k <;> (repeat' split) <;> first | exact k | (exfalso; omega))
set_option maxRecDepth 100000 in
theorem ys_154 (hx : zq_iv x) (k : K (yb (yp_nc x)) s) : zq_Ex X 154 0 [zq_vi x] [] s (zq_rp zq_bo K) := zw_154 hx (ys_155 hx (by
  unfold yp_nc at k
  rw [yb_dec] at k
  simp only [yb_0]
  unfold yp_dg
  split at k <;> (repeat' split) <;> first | exact k | (exfalso; simp at *; omega)))
set_option maxRecDepth 100000 in
theorem ys_29 (ha : zq_o 1 a) (ho : yc_ok s a) (hx : zq_iv x) (k : K (yp_cd (yc_t s a x)) s) : zq_Ex X 29 0 [.ref a, zq_vi x] [] s (zq_rp zq_iv K) := zw_29 ha hx (by
  have h2 := ho.2.1
  split
  · next h =>
    rw [yc_out (by omega)] at k
    exact k
  · next h =>
    split
    · next h1 =>
      obtain ⟨c1, c2⟩ := ho.ch (j := x) (by omega) h1
      refine ⟨⟨by omega, by omega⟩, ?_⟩
      unfold yp_cd at k
      rw [if_neg c1, c2] at k
      exact k
    · next h1 =>
      rw [yc_out (by omega)] at k
      exact k)
set_option maxRecDepth 100000 in
theorem yp_cd_in {s : zq_S} (hR : zq_R s) (x : Int) : zq_iv (yp_cd (yc_t s a x)) := by
  have := hR.1 (a + 1) x
  by_cases h : 0 ≤ x ∧ x < zq_i s a 1
  · unfold yp_cd yc_t
    rw [if_pos h]
    split
    · exact ⟨by decide, by decide⟩
    · exact this
  · rw [yc_out h]
    exact ⟨by decide, by decide⟩
set_option maxRecDepth 100000 in
theorem ys_46_2 (ha : zq_o 1 a) (ho : yc_ok s a) (hx : zq_iv x) : ∀ (n : Nat) (y : Int), 1000 ≤ y + n → 0 ≤ y → y ≤ 1000 → K (yp_sk (yc_t s a) y) s → zq_Ex X 46 2 [.ref a, zq_vi x, zq_vi y] [] s (zq_rp zq_iv K) := by
  intro n
  induction n with
  | zero =>
    intro y h1 h0 h2 k
    refine zw_46_2 ha hx ⟨by omega, by omega⟩ ?_
    have := ho.2.1
    have := zq_T_le ha
    rw [if_neg (by omega)]
    unfold yp_sk at k
    rw [yp_end_eq (ho.T ha) rfl (by omega), (ho.T ha) y (by omega)] at k
    exact k
  | succ n ih =>
    intro y h1 h0 h2 k
    have hy : zq_iv y := ⟨by omega, by omega⟩
    refine zw_46_2 ha hx hy ?_
    unfold yp_sk at k
    rw [yp_end_eq (ho.T ha) rfl (by omega)] at k
    split
    · next h3 =>
      obtain ⟨c1, c2⟩ := ho.ch (j := y) h0 h3
      have := ho.2.1
      have := zq_T_le ha
      refine ys_29 ha ho hy ?_
      unfold yp_cd
      rw [if_neg c1]
      split
      · next h4 =>
        rw [if_pos (by rw [h4]; rfl)] at k
        exact ih (y + 1) (by omega) (by omega) (by omega) k
      · next h4 =>
        refine ys_29 ha ho hy ?_
        unfold yp_cd
        rw [if_neg c1]
        split
        · next h5 =>
          rw [if_pos (by rw [h5]; rfl)] at k
          exact ih (y + 1) (by omega) (by omega) (by omega) k
        · next h5 =>
          rw [if_neg (by simp [yp_sp, h4, h5])] at k
          exact k
    · next h3 =>
      have : yc_t s a y = 0 := by unfold yc_t; rw [if_neg (by omega)]
      rw [this] at k
      exact k
set_option maxRecDepth 100000 in
theorem ys_46 (ha : zq_o 1 a) (ho : yc_ok s a) (h0 : 0 ≤ x) (h1 : x ≤ 1000) (k : K (yp_sk (yc_t s a) x) s) : zq_Ex X 46 0 [.ref a, zq_vi x, zz_no] [] s (zq_rp zq_iv K) := zw_46 ha ⟨by omega, by omega⟩ (ys_46_2 ha ho ⟨by omega, by omega⟩ 1000 x (by omega) h0 h1 k)
end YS
