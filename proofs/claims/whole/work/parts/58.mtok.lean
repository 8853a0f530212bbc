/-! names, references, numbers, strings: what stands at a place of a text -/
def yp_isN (T : Int → Int) (k : Int) : Bool := decide (T k = 47 ∧ 1 ≤ yp_nm T k - k - 1 ∧ yp_nm T k - k - 1 ≤ 6)
def yp_od1 (T : Int → Int) (k l : Int) : Bool := decide (yp_dg (T k) = true ∧ l ≤ T k ∧ yp_wd T k = k + 1)
def yp_ref (T : Int → Int) (k : Int) : Int := if yp_od1 T k 49 = false then -1 else if yp_od1 T (yp_sk T (k + 1)) 48 = false then -1 else if T (yp_sk T (yp_sk T (k + 1) + 1)) = 82 ∧ yp_wd T (yp_sk T (yp_sk T (k + 1) + 1)) = yp_sk T (yp_sk T (k + 1) + 1) + 1 then yp_sk T (yp_sk T (k + 1) + 1) + 1 else -1
def yp_says (T : Int → Int) (k a b c d : Int) : Bool := decide (T k = a ∧ T (k + 1) = b ∧ T (k + 2) = c ∧ T (k + 3) = d)
def yp_all (T : Int → Int) : Nat → Int → Bool
  | 0, _ => true
  | n + 1, b => yp_dg (T b) && yp_all T n (b + 1)
def yp_val (T : Int → Int) : Nat → Int → Int → Int
  | 0, _, v => v
  | n + 1, b, v => yp_val T n (b + 1) (10 * v + T b - 48)
def yp_from (T : Int → Int) (k : Int) : Int := if T k = 45 then k + 1 else k
def yp_isI (T : Int → Int) (k e : Int) : Bool := decide (1 ≤ e - yp_from T k ∧ e - yp_from T k ≤ 6) && yp_all T (e - yp_from T k).toNat (yp_from T k)
def yp_num (T : Int → Int) (k e : Int) : Int := if T k = 45 then - yp_val T (e - (k + 1)).toNat (k + 1) 0 else yp_val T (e - k).toNat k 0
/-- a string's end: its closing character's place and one more; -1 if there is none -/
def yp_str (T : Int → Int) : Nat → Int → Int → Int
  | 0, _, _ => -1
  | f + 1, k, n => if T k = 41 then (if n ≤ 12 then k + 1 else -1) else if T k < 32 ∨ (T k = 92 ∧ T (k + 1) ≠ 40 ∧ T (k + 1) ≠ 41 ∧ T (k + 1) ≠ 92) then -1 else yp_str T f (if T k = 92 then k + 2 else k + 1) (n + 1)
def yp_se (T : Int → Int) (k : Int) : Int := yp_str T 2000 (k + 1) 0
def yp_kind (T : Int → Int) (k : Int) : Int := if T k = 91 then 6 else if T k = 60 then (if T (k + 1) = 60 then 7 else -1) else if T k = 47 then (if yp_isN T k = true then 4 else -1) else if T k = 40 then (if 0 ≤ yp_se T k then 5 else -1) else if 0 ≤ yp_ref T k then 8 else if yp_wd T k = k + 4 ∧ yp_says T k 110 117 108 108 = true then 0 else if yp_wd T k = k + 4 ∧ yp_says T k 116 114 117 101 = true then 1 else if yp_wd T k = k + 5 ∧ yp_says T k 102 97 108 115 = true ∧ T (k + 4) = 101 then 2 else if yp_isI T k (yp_wd T k) = true then 3 else -1
set_option maxRecDepth 100000 in
theorem yp_sk_le {T : Int → Int} (k : Int) : k ≤ yp_sk T k := yp_end_le 2000 k
set_option maxRecDepth 100000 in
theorem yp_wd_le {T : Int → Int} (k : Int) : k ≤ yp_wd T k := yp_end_le 2000 k
set_option maxRecDepth 100000 in
theorem yp_nm_le {T : Int → Int} (k : Int) : k + 1 ≤ yp_nm T k := yp_end_le 2000 (k + 1)
set_option maxRecDepth 100000 in
theorem yp_sk_lt {T : Int → Int} (hT : yp_T T) {k : Int} (h : k ≤ 1000) : yp_sk T k ≤ 1000 := yp_run_lt hT rfl 2000 k h
set_option maxRecDepth 100000 in
theorem yp_wd_lt {T : Int → Int} (hT : yp_T T) {k : Int} (h : k ≤ 1000) : yp_wd T k ≤ 1000 := yp_run_lt hT rfl 2000 k h
set_option maxRecDepth 100000 in
theorem yp_nm_lt {T : Int → Int} (hT : yp_T T) {k : Int} (h : k + 1 ≤ 1000) : yp_nm T k ≤ 1000 := yp_run_lt hT rfl 2000 (k + 1) h
set_option maxRecDepth 100000 in
theorem yp_lt {T : Int → Int} (hT : yp_T T) {k : Int} (h : T k ≠ 0) : k < 1000 := Decidable.byContradiction (fun z => h (hT k (by omega)))
section YS3
variable {X : Nat × (Nat → Int32)} {s : zq_S} {K : Int → zq_S → Prop} {x y z q : Int} {a : Nat}
set_option maxRecDepth 100000 in
theorem ys_152 (hI : ym_I s) (hq : ym_q q) (h0 : -100 ≤ x) (h1 : x < 1000) (k : K (yb (yp_isN (ym_c s q) x)) s) : zq_Ex X 152 0 [.ref 232, zq_vi q, zq_vi x, zz_no] [] s (zq_rp zq_bo K) := by
  have hx : zq_iv x := ⟨by omega, by omega⟩
  have n1 := yp_nm_le (T := ym_c s q) x
  have n2 := yp_nm_lt (hI.T hq) (k := x) (by omega)
  unfold yp_isN at k
  rw [yb_dec] at k
  refine zw_152 hq.in hx (ys_153 hI hq (by omega) h1 (ys_147 hI hq hx ?_))
  split
  · next h2 =>
    refine ⟨⟨by omega, by omega⟩, ?_⟩
    split
    · next h3 => rw [if_neg (by omega)] at k; exact k
    · next h3 =>
      split
      · next h4 => rw [if_pos ⟨h2, by omega, h4⟩] at k; exact k
      · next h4 => rw [if_neg (by omega)] at k; exact k
  · next h2 => rw [if_neg (fun z => h2 z.1)] at k; exact k
set_option maxRecDepth 100000 in
theorem ys_163 (hI : ym_I s) (hq : ym_q q) (h0 : -100 ≤ x) (h1 : x ≤ 1000) (hy : zq_ch y) (k : K (yb (yp_od1 (ym_c s q) x y)) s) : zq_Ex X 163 0 [.ref 232, zq_vi q, zq_vi x, zq_vi y, zz_no] [] s (zq_rp zq_bo K) := by
  have hx : zq_iv x := ⟨by omega, by omega⟩
  have n1 := yp_wd_le (T := ym_c s q) x
  have n2 := yp_wd_lt (hI.T hq) (k := x) (by omega)
  unfold yp_od1 at k
  rw [yb_dec] at k
  refine zq_have (fun hR => ?_)
  refine zw_163 hq.in hx hy (ys_147 hI hq hx (ys_155 (ym_in hR q x) (yb_if (fun h2 => ?_) (fun h2 => ?_))))
  · rw [if_neg (fun z => by rw [h2] at z; cases z.1)] at k; exact k
  · split
    · next h3 => rw [if_neg (by omega)] at k; exact k
    · next h3 =>
      refine ys_161 hI hq h0 h1 ⟨⟨by omega, by omega⟩, ?_⟩
      split
      · next h4 => rw [if_pos ⟨h2, by omega, h4⟩] at k; exact k
      · next h4 => rw [if_neg (fun z => h4 z.2.2)] at k; exact k
set_option maxRecDepth 100000 in
theorem yp_od1_lt {T : Int → Int} (hT : yp_T T) {k l : Int} (h : yp_od1 T k l = true) : k < 1000 := by
  have h1 := of_decide_eq_true (of_decide_eq_true h).1
  exact yp_lt hT (by omega)
set_option maxRecDepth 100000 in
theorem ys_162 (hI : ym_I s) (hq : ym_q q) (h0 : -100 ≤ x) (h1 : x ≤ 1000) (k : K (yp_ref (ym_c s q) x) s) : zq_Ex X 162 0 [.ref 232, zq_vi q, zq_vi x, zz_no, zz_no] [] s (zq_rp zq_iv K) := by
  have hT := hI.T hq
  have hx : zq_iv x := ⟨by omega, by omega⟩
  unfold yp_ref at k
  refine zw_162 hq.in hx (ys_163 hI hq h0 h1 ⟨by decide, by decide⟩ (yb_if (fun h2 => ?_) (fun h2 => ?_)))
  · rw [if_pos h2] at k; exact k
  · rw [if_neg (by rw [h2]; decide)] at k
    have l1 := yp_od1_lt hT h2
    have b1 := yp_sk_le (T := ym_c s q) (x + 1)
    have b2 := yp_sk_lt hT (k := x + 1) (by omega)
    refine ys_146 hI hq (by omega) (by omega) (ys_163 hI hq (by omega) b2 ⟨by decide, by decide⟩ (yb_if (fun h3 => ?_) (fun h3 => ?_)))
    · rw [if_pos h3] at k; exact k
    · rw [if_neg (by rw [h3]; decide)] at k
      have l2 := yp_od1_lt hT h3
      have c1 := yp_sk_le (T := ym_c s q) (yp_sk (ym_c s q) (x + 1) + 1)
      have c2 := yp_sk_lt hT (k := yp_sk (ym_c s q) (x + 1) + 1) (by omega)
      refine ys_146 hI hq (by omega) (by omega) (ys_147 hI hq ⟨by omega, by omega⟩ ?_)
      split
      · next h4 =>
        have w1 := yp_wd_le (T := ym_c s q) (yp_sk (ym_c s q) (yp_sk (ym_c s q) (x + 1) + 1))
        refine ys_161 hI hq (by omega) c2 ⟨⟨by omega, by omega⟩, ?_⟩
        split
        · next h5 => rw [if_pos ⟨h4, h5⟩] at k; exact ⟨⟨by omega, by omega⟩, k⟩
        · next h5 => rw [if_neg (fun z => h5 z.2)] at k; exact k
      · next h4 => rw [if_neg (fun z => h4 z.1)] at k; exact k
set_option maxRecDepth 100000 in
theorem ys_164 {b c d : Int} (hI : ym_I s) (hq : ym_q q) (h0 : -10000 ≤ x) (h1 : x ≤ 100000) (hy : zq_ch y) (hb : zq_ch b) (hc : zq_ch c) (hd : zq_ch d) (k : K (yb (yp_says (ym_c s q) x y b c d)) s) : zq_Ex X 164 0 [.ref 232, zq_vi q, zq_vi x, zq_vi y, zq_vi b, zq_vi c, zq_vi d] [] s (zq_rp zq_bo K) := by
  unfold yp_says at k
  rw [yb_dec] at k
  refine zw_164 hq.in ⟨by omega, by omega⟩ hy hb hc hd (ys_147 hI hq ⟨by omega, by omega⟩ ?_)
  split
  · next e1 =>
    refine ys_147 hI hq ⟨by omega, by omega⟩ ?_
    split
    · next e2 =>
      refine ys_147 hI hq ⟨by omega, by omega⟩ ?_
      split
      · next e3 =>
        refine ys_147 hI hq ⟨by omega, by omega⟩ ?_
        split
        · next e4 => rw [if_pos ⟨e1, e2, e3, e4⟩] at k; exact k
        · next e4 => rw [if_neg (fun z => e4 z.2.2.2)] at k; exact k
      · next e3 => rw [if_neg (fun z => e3 z.2.2.1)] at k; exact k
    · next e2 => rw [if_neg (fun z => e2 z.2.1)] at k; exact k
  · next e1 => rw [if_neg (fun z => e1 z.1)] at k; exact k
set_option maxRecDepth 100000 in
theorem ys_165_48 (hI : ym_I s) (hq : ym_q q) {e f : Int} (hx : zq_iv x) (hf : zq_iv f) (he : e ≤ 2000) : ∀ (n : Nat) (b : Bool) (y : Int), y + n = e → -200 ≤ y → K (yb (b && yp_all (ym_c s q) n y)) s → zq_Ex X 165 48 [.ref 232, zq_vi q, zq_vi x, zq_vi e, zq_vi f, zq_vi (yb b), zq_vi y] [] s (zq_rp zq_bo K) := by
  intro n
  induction n with
  | zero =>
    intro b y h1 h0 k
    refine zw_165_48 hq.in hx ⟨by omega, by omega⟩ hf (yb_bo b) ⟨by omega, by omega⟩ ?_
    rw [if_neg (by omega)]
    simpa [yp_all] using k
  | succ n ih =>
    intro b y h1 h0 k
    have hy : zq_iv y := ⟨by omega, by omega⟩
    refine zq_have (fun hR => ?_)
    refine zw_165_48 hq.in hx ⟨by omega, by omega⟩ hf (yb_bo b) hy ?_
    rw [if_pos (by omega)]
    refine yb_if (fun h2 => ?_) (fun h2 => ?_)
    · subst h2
      exact ih false (y + 1) (by omega) (by omega) (by simpa using k)
    · subst h2
      refine ys_147 hI hq hy (ys_155 (ym_in hR q y) (yb_if (fun h3 => ?_) (fun h3 => ?_)))
      · refine ih false (y + 1) (by omega) (by omega) ?_
        simpa [yp_all, h3] using k
      · refine ih true (y + 1) (by omega) (by omega) ?_
        simpa [yp_all, h3] using k
set_option maxRecDepth 100000 in
theorem ys_165 (hI : ym_I s) (hq : ym_q q) {e : Int} (h0 : -100 ≤ x) (h1 : x ≤ 1000) (h2 : x ≤ e) (h3 : e ≤ 1000) (k : K (yb (yp_isI (ym_c s q) x e)) s) : zq_Ex X 165 0 [.ref 232, zq_vi q, zq_vi x, zq_vi e, zz_no, zz_no, zz_no] [] s (zq_rp zq_bo K) := by
  have hx : zq_iv x := ⟨by omega, by omega⟩
  have go : ∀ (f : Int) (b : Bool), -100 ≤ f → f ≤ e + 1 → (1 ≤ e - f → K (yb (b && yp_all (ym_c s q) (e - f).toNat f)) s) → (e - f < 1 → K (yb b) s) → zq_Ex X 165 48 [.ref 232, zq_vi q, zq_vi x, zq_vi e, zq_vi f, zq_vi (yb b), zq_vi f] [] s (zq_rp zq_bo K) := by
    intro f b f0 f1 k1 k2
    by_cases h : 1 ≤ e - f
    · exact ys_165_48 hI hq hx ⟨by omega, by omega⟩ (by omega) (e - f).toNat b f (by omega) (by omega) (k1 h)
    · refine zw_165_48 hq.in hx ⟨by omega, by omega⟩ ⟨by omega, by omega⟩ (yb_bo b) ⟨by omega, by omega⟩ ?_
      rw [if_neg (by omega)]
      exact k2 (by omega)
  have kf : ∀ f, yp_from (ym_c s q) x = f → K (yb (decide (1 ≤ e - f ∧ e - f ≤ 6) && yp_all (ym_c s q) (e - f).toNat f)) s := fun f hf => by
    unfold yp_isI at k
    rw [hf] at k
    exact k
  refine zw_165 hq.in hx ⟨by omega, by omega⟩ (ys_147 hI hq hx ?_)
  split
  · next h4 =>
    have k := kf (x + 1) (if_pos h4)
    refine ⟨⟨by omega, by omega⟩, ?_⟩
    split
    · next h5 =>
      refine go (x + 1) false (by omega) (by omega) (fun h => by omega) (fun _ => ?_)
      rw [decide_eq_false (by omega)] at k
      exact k
    · next h5 =>
      refine ⟨⟨by omega, by omega⟩, ?_⟩
      split
      · next h6 =>
        refine go (x + 1) true (by omega) (by omega) (fun _ => ?_) (fun h => by omega)
        rw [decide_eq_true ⟨by omega, h6⟩] at k
        exact k
      · next h6 =>
        refine go (x + 1) false (by omega) (by omega) (fun _ => ?_) (fun h => by omega)
        rw [decide_eq_false (fun z => h6 z.2)] at k
        exact k
  · next h4 =>
    have k := kf x (if_neg h4)
    refine ⟨⟨by omega, by omega⟩, ?_⟩
    split
    · next h5 =>
      refine go x false (by omega) (by omega) (fun h => by omega) (fun _ => ?_)
      rw [decide_eq_false (by omega)] at k
      exact k
    · next h5 =>
      refine ⟨⟨by omega, by omega⟩, ?_⟩
      split
      · next h6 =>
        refine go x true (by omega) (by omega) (fun _ => ?_) (fun h => by omega)
        rw [decide_eq_true ⟨by omega, h6⟩] at k
        exact k
      · next h6 =>
        refine go x false (by omega) (by omega) (fun _ => ?_) (fun h => by omega)
        rw [decide_eq_false (fun z => h6 z.2)] at k
        exact k
set_option maxRecDepth 100000 in
/-- a number's value stays small -/
theorem yp_val_le {T : Int → Int} : ∀ (n : Nat) (b v B : Int), yp_all T n b = true → 0 ≤ v → v < B → 0 ≤ yp_val T n b v ∧ yp_val T n b v < B * 10 ^ n := by
  intro n
  induction n with
  | zero => intro b v B _ h1 h2; simp only [yp_val, Int.pow_zero]; omega
  | succ n ih =>
    intro b v B h h1 h2
    simp only [yp_all, Bool.and_eq_true] at h
    have hd := of_decide_eq_true h.1
    have := ih (b + 1) (10 * v + T b - 48) (10 * B) h.2 (by omega) (by omega)
    simp only [yp_val]
    have e : (B * 10 ^ (n + 1) : Int) = 10 * B * 10 ^ n := by rw [Int.pow_succ, Int.mul_comm (10 ^ n) 10, ← Int.mul_assoc, Int.mul_comm B 10]
    rw [e]
    exact this
set_option maxRecDepth 100000 in
theorem yp_val_6 {T : Int → Int} {n : Nat} {b : Int} (h : yp_all T n b = true) (hn : n ≤ 6) : 0 ≤ yp_val T n b 0 ∧ yp_val T n b 0 < 1000000 := by
  have h1 := yp_val_le n b 0 1 h (by omega) (by omega)
  have h2 : (1 * 10 ^ n : Int) ≤ 1000000 := (show ∀ n : Nat, n < 7 → (1 * 10 ^ n : Int) ≤ 1000000 by decide) n (by omega)
  omega
set_option maxRecDepth 100000 in
theorem ys_167_35 (hI : ym_I s) (hq : ym_q q) {e : Int} (hx : zq_iv x) (he : e ≤ 2000) (b : Bool) : ∀ (n : Nat) (v y : Int), y + n = e → -200 ≤ y → 0 ≤ v → v < 10 ^ (6 - n) → n ≤ 6 → yp_all (ym_c s q) n y = true → K (if b = true then - yp_val (ym_c s q) n y v else yp_val (ym_c s q) n y v) s → zq_Ex X 167 35 [.ref 232, zq_vi q, zq_vi x, zq_vi e, zq_vi (yb b), zq_vi v, zq_vi y] [] s (zq_rp zq_iv K) := by
  intro n
  induction n with
  | zero =>
    intro v y h1 h0 v0 v1 hn ha k
    have v1 : v < 1000000 := v1
    refine zw_167_35 hq.in hx ⟨by omega, by omega⟩ (yb_bo b) ⟨by omega, by omega⟩ ⟨by omega, by omega⟩ ?_
    rw [if_neg (by omega)]
    refine yb_if (fun h2 => ?_) (fun h2 => ?_)
    · subst h2
      exact k
    · subst h2
      exact ⟨⟨by omega, by omega⟩, k⟩
  | succ n ih =>
    intro v y h1 h0 v0 v1 hn ha k
    have hy : zq_iv y := ⟨by omega, by omega⟩
    have v2 : (10 : Int) ^ (6 - (n + 1)) ≤ 100000 := (show ∀ n : Nat, n < 6 → (10 : Int) ^ (6 - (n + 1)) ≤ 100000 by decide) n (by omega)
    have v3 : (10 : Int) ^ (6 - n) = 10 * 10 ^ (6 - (n + 1)) := (show ∀ n : Nat, n < 6 → (10 : Int) ^ (6 - n) = 10 * 10 ^ (6 - (n + 1)) by decide) n (by omega)
    simp only [yp_all, Bool.and_eq_true] at ha
    have hd := of_decide_eq_true ha.1
    refine zw_167_35 hq.in hx ⟨by omega, by omega⟩ (yb_bo b) ⟨by omega, by omega⟩ hy ?_
    rw [if_pos (by omega)]
    refine ys_147 hI hq hy ?_
    exact ih (10 * v + ym_c s q y - 48) (y + 1) (by omega) (by omega) (by omega) (by omega) (by omega) ha.2 k
set_option maxRecDepth 100000 in
theorem ys_167 (hI : ym_I s) (hq : ym_q q) {e : Int} (h0 : -100 ≤ x) (h1 : x ≤ 1000) (h3 : e ≤ 1000) (h2 : yp_isI (ym_c s q) x e = true) (k : K (yp_num (ym_c s q) x e) s) : zq_Ex X 167 0 [.ref 232, zq_vi q, zq_vi x, zq_vi e, zz_no, zz_no, zz_no] [] s (zq_rp zq_iv K) := by
  have hx : zq_iv x := ⟨by omega, by omega⟩
  unfold yp_isI at h2
  rw [Bool.and_eq_true] at h2
  have h4 := of_decide_eq_true h2.1
  refine zw_167 hq.in hx ⟨by unfold yp_from at h4; split at h4 <;> omega, by omega⟩ (ys_147 hI hq hx ?_)
  unfold yp_num at k
  split
  · next h5 =>
    have e1 : yp_from (ym_c s q) x = x + 1 := if_pos h5
    rw [e1] at h2 h4
    rw [if_pos h5] at k
    exact ys_167_35 hI hq hx (by omega) true (e - (x + 1)).toNat 0 (x + 1) (by omega) (by omega) (by omega) (Int.pow_pos (by decide)) (by omega) h2.2 k
  · next h5 =>
    have e1 : yp_from (ym_c s q) x = x := if_neg h5
    rw [e1] at h2 h4
    rw [if_neg h5] at k
    exact ys_167_35 hI hq hx (by omega) false (e - x).toNat 0 x (by omega) (by omega) (by omega) (Int.pow_pos (by decide)) (by omega) h2.2 k
set_option maxRecDepth 100000 in
/-- strings -/
theorem yp_str_eq {T : Int → Int} (hT : yp_T T) : ∀ (f g : Nat) (k n : Int), 1001 ≤ k + f → 1001 ≤ k + g → yp_str T f k n = yp_str T g k n
  | 0, 0, _, _, _, _ => rfl
  | 0, g + 1, k, n, h1, _ => by
    unfold yp_str
    have e := hT k (by omega)
    rw [e, if_neg (by decide), if_pos (Or.inl (by decide))]
  | f + 1, 0, k, n, _, h2 => by
    have e := hT k (by omega)
    conv => lhs; unfold yp_str
    rw [e, if_neg (by decide), if_pos (Or.inl (by decide))]
    rfl
  | f + 1, g + 1, k, n, h1, h2 => by
    conv => lhs; unfold yp_str
    conv => rhs; unfold yp_str
    rw [yp_str_eq hT f g _ (n + 1) (by split <;> omega) (by split <;> omega)]
set_option maxRecDepth 100000 in
theorem ys_160_7 (hI : ym_I s) (hq : ym_q q) (hx : zq_iv x) : ∀ (n : Nat) (y m : Int) (v5 v6 : Value), v5.category = 1 → v6.category = 1 → 1001 ≤ y + n → -100 ≤ y → y ≤ 1001 → 0 ≤ m → m ≤ y + 200 → K (yp_str (ym_c s q) 2000 y m) s → zq_Ex X 160 7 [.ref 232, zq_vi q, zq_vi x, zq_vi y, zq_vi m, v5, v6] [] s (zq_rp zq_iv K) := by
  have hT := hI.T hq
  intro n
  induction n with
  | zero =>
    intro y m v5 v6 c5 c6 h1 h0 h2 m0 m1 k
    have hy : zq_iv y := ⟨by omega, by omega⟩
    have e := hT y (by omega)
    rw [show yp_str (ym_c s q) 2000 y m = -1 by unfold yp_str; rw [e, if_neg (by decide), if_pos (Or.inl (by decide))]] at k
    refine zw_160_7 hq.in hx hy ⟨by omega, by omega⟩ c5 c6 (ys_147 hI hq hy ?_)
    rw [e, if_neg (by decide)]
    refine ys_147 hI hq hy (ys_147 hI hq ⟨by omega, by omega⟩ ?_)
    rw [e, if_pos (by decide)]
    exact k
  | succ n ih =>
    intro y m v5 v6 c5 c6 h1 h0 h2 m0 m1 k
    have hy : zq_iv y := ⟨by omega, by omega⟩
    refine zw_160_7 hq.in hx hy ⟨by omega, by omega⟩ c5 c6 (ys_147 hI hq hy ?_)
    have e0 : yp_str (ym_c s q) 2000 y m = if ym_c s q y = 41 then (if m ≤ 12 then y + 1 else -1) else if ym_c s q y < 32 ∨ (ym_c s q y = 92 ∧ ym_c s q (y + 1) ≠ 40 ∧ ym_c s q (y + 1) ≠ 41 ∧ ym_c s q (y + 1) ≠ 92) then -1 else yp_str (ym_c s q) 2000 (if ym_c s q y = 92 then y + 2 else y + 1) (m + 1) := by
      conv => lhs; unfold yp_str
      rw [yp_str_eq hT 1999 2000 _ (m + 1) (by split <;> omega) (by split <;> omega)]
    rw [e0] at k
    have lt : ¬ ym_c s q y < 32 → y < 1000 := fun h => yp_lt hT (by omega)
    split
    · next h3 =>
      rw [if_pos h3] at k
      split
      · next h4 => rw [if_pos h4] at k; exact ⟨⟨by omega, by omega⟩, k⟩
      · next h4 => rw [if_neg h4] at k; exact k
    · next h3 =>
      rw [if_neg h3] at k
      refine ys_147 hI hq hy (ys_147 hI hq ⟨by omega, by omega⟩ ?_)
      split
      · next h4 => rw [if_pos (Or.inl h4)] at k; exact k
      · next h4 =>
        have l := lt h4
        split
        · next h5 =>
          have go : (ym_c s q (y + 1) = 40 ∨ ym_c s q (y + 1) = 41 ∨ ym_c s q (y + 1) = 92) → zq_Ex X 160 7 [.ref 232, zq_vi q, zq_vi x, zq_vi (y + 2), zq_vi (m + 1), zq_vi (ym_c s q y), zq_vi (ym_c s q (y + 1))] [] s (zq_rp zq_iv K) := fun h6 => by
            rw [if_neg (by omega), if_pos h5] at k
            exact ih (y + 2) (m + 1) _ _ rfl rfl (by omega) (by omega) (by omega) (by omega) (by omega) k
          split
          · next h6 => exact go (Or.inl h6)
          · next h6 =>
            split
            · next h7 => exact go (Or.inr (Or.inl h7))
            · next h7 =>
              split
              · next h8 => exact go (Or.inr (Or.inr h8))
              · next h8 => rw [if_pos (Or.inr ⟨h5, h6, h7, h8⟩)] at k; exact k
        · next h5 =>
          rw [if_neg (by omega), if_neg h5] at k
          exact ih (y + 1) (m + 1) _ _ rfl rfl (by omega) (by omega) (by omega) (by omega) (by omega) k
set_option maxRecDepth 100000 in
theorem ys_160 (hI : ym_I s) (hq : ym_q q) (h0 : -100 ≤ x) (h1 : x ≤ 1000) (k : K (yp_se (ym_c s q) x) s) : zq_Ex X 160 0 [.ref 232, zq_vi q, zq_vi x, zz_no, zz_no, zz_no, zz_no] [] s (zq_rp zq_iv K) := zw_160 hq.in ⟨by omega, by omega⟩ (ys_160_7 hI hq ⟨by omega, by omega⟩ 1101 (x + 1) 0 _ _ rfl rfl (by omega) (by omega) (by omega) (by omega) (by omega) k)
end YS3
