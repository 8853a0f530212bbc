/-! save: both texts are one; its characters; the class's whole save -/
set_option maxRecDepth 100000 in
theorem yw_tab_cong {li : Nat → Bool} {E E' : Nat → List Int} : ∀ (k n : Nat), (∀ i, n ≤ i → i < n + k → E i = E' i) → yw_tab li E k n = yw_tab li E' k n
  | 0, n, h => rfl
  | k + 1, n, h => by
    show (if li n = true then _ ++ E n else []) ++ yw_tab li E k (n + 1) = (if li n = true then _ ++ E' n else []) ++ yw_tab li E' k (n + 1)
    rw [h n (by omega) (by omega), yw_tab_cong k (n + 1) (fun i i1 i2 => h i (by omega) (by omega))]
set_option maxRecDepth 100000 in
theorem yw_obs_mono (kp : Nat → Bool) (O : Nat → List Int) (i k : Nat) : ∀ m, (yw_obs kp O k i).length ≤ (yw_obs kp O (k + m) i).length
  | 0 => Nat.le_refl _
  | m + 1 => by
    have := yw_obs_mono kp O i k m
    rw [show k + (m + 1) = (k + m) + 1 by omega, yw_obs_snoc, List.length_append]
    omega
set_option maxRecDepth 100000 in
theorem yW_cap {s : zq_S} {ev : Nat → List ye_E} {ct : Nat → List Int} {lm km : Nat} {pre : List Int} {tl : Int} : ((yW (fun l => (ycap l : Int)) s ev ct lm km pre tl).length ≤ 999 → yW (fun l => (ycap l : Int)) s ev ct lm km pre tl = yW (fun l => (l.length : Int)) s ev ct lm km pre tl) ∧ (999 < (yW (fun l => (ycap l : Int)) s ev ct lm km pre tl).length → 999 < (yW (fun l => (l.length : Int)) s ev ct lm km pre tl).length) := by
  by_cases h : (pre ++ yw_obs (fun n => km.testBit n) (yO s ev ct) 9 1).length ≤ 999
  · have e : yW (fun l => (ycap l : Int)) s ev ct lm km pre tl = yW (fun l => (l.length : Int)) s ev ct lm km pre tl := by
      have cp : ∀ k, k ≤ 9 → (ycap (pre ++ yw_obs (fun n => km.testBit n) (yO s ev ct) k 1) : Int) = ((pre ++ yw_obs (fun n => km.testBit n) (yO s ev ct) k 1).length : Int) := fun k hk => by
        have := yw_obs_mono (fun n => km.testBit n) (yO s ev ct) 1 k (9 - k)
        rw [show k + (9 - k) = 9 by omega] at this
        rw [List.length_append] at h
        unfold ycap
        rw [List.length_append]
        omega
      unfold yW
      simp only [cp 9 (by omega)]
      rw [yw_tab_cong (E' := yw_en (fun n => ((pre ++ yw_obs (fun n => km.testBit n) (yO s ev ct) (n - 1) 1).length : Int)) (fun n => decide (zq_i s 237 n ≠ 0)) (fun n => km.testBit n) (fun n => zq_i s 238 n)) 9 1 (fun i i1 i2 => by
        unfold yw_en
        dsimp only
        rw [cp (i - 1) (by omega)])]
    rw [e]
    exact ⟨fun _ => rfl, id⟩
  · have l1 : ∀ cp, 999 < (yW cp s ev ct lm km pre tl).length := fun cp => by
      unfold yW
      rw [List.length_append]
      omega
    exact ⟨fun z => absurd z (by have := l1 (fun l => (ycap l : Int)); omega), fun _ => l1 _⟩
set_option maxRecDepth 100000 in
theorem yw_obs_ch {kp : Nat → Bool} {O : Nat → List Int} {P : Int → Prop} : ∀ (k n : Nat), (∀ i, n ≤ i → i < n + k → kp i = true → ∀ c ∈ O i, P c) → ∀ c ∈ yw_obs kp O k n, P c
  | 0, n, h, c, hc => by cases hc
  | k + 1, n, h, c, hc => by
    have e : yw_obs kp O (k + 1) n = (if kp n = true then O n else []) ++ yw_obs kp O k (n + 1) := rfl
    rw [e] at hc
    rcases List.mem_append.mp hc with z | z
    · by_cases hk : kp n = true
      · rw [if_pos hk] at z
        exact h n (by omega) (by omega) hk c z
      · rw [if_neg hk] at z
        cases z
    · exact yw_obs_ch k (n + 1) (fun i i1 i2 => h i (by omega) (by omega)) c z
set_option maxRecDepth 100000 in
theorem yw_rl_le (li : Nat → Bool) : ∀ k n, yw_rl li k n ≤ k
  | 0, _ => Nat.le_refl _
  | k + 1, n => by
    have := yw_rl_le li k (n + 1)
    show (if li n = true then 1 + yw_rl li k (n + 1) else 0) ≤ k + 1
    split <;> omega
set_option maxRecDepth 100000 in
theorem yp_isC_d {x : Int} (h : 0 ≤ x ∧ x ≤ 9) : yp_isC (48 + x) = true := decide_eq_true (by omega)
set_option maxRecDepth 100000 in
theorem yw_tab_ch {li : Nat → Bool} {E : Nat → List Int} : ∀ (k n : Nat), 1 ≤ n → n + k ≤ 10 → (∀ i, n ≤ i → i < n + k → ∀ c ∈ E i, yp_isC c = true) → ∀ c ∈ yw_tab li E k n, yp_isC c = true
  | 0, n, _, _, h, c, hc => by cases hc
  | k + 1, n, n1, n2, h, c, hc => by
    have e : yw_tab li E (k + 1) n = (if li n = true then (if li (n - 1) = true then [] else [48 + (n : Int), 32, 48 + (yw_rl li (10 - n) n : Int), 10]) ++ E n else []) ++ yw_tab li E k (n + 1) := rfl
    rw [e] at hc
    rcases List.mem_append.mp hc with z | z
    · by_cases hk : li n = true
      · rw [if_pos hk] at z
        rcases List.mem_append.mp z with y | y
        · by_cases hk2 : li (n - 1) = true
          · rw [if_pos hk2] at y
            cases y
          · rw [if_neg hk2] at y
            have := yw_rl_le li (10 - n) n
            simp only [List.mem_cons, List.not_mem_nil, or_false] at y
            rcases y with y | y | y | y
            · rw [y]; exact yp_isC_d ⟨by omega, by omega⟩
            · rw [y]; decide
            · rw [y]; exact yp_isC_d ⟨by omega, by omega⟩
            · rw [y]; decide
        · exact h n (by omega) (by omega) c y
      · rw [if_neg hk] at z
        cases z
    · exact yw_tab_ch k (n + 1) (by omega) (by omega) (fun i i1 i2 => h i (by omega) (by omega)) c z
set_option maxRecDepth 100000 in
theorem ye_num_isC {x : Int} (hx : -1000000 < x ∧ x < 1000000) : ∀ c ∈ ye_num x, yp_isC c = true := fun c hc => by
  have h := ye_num_wc x hx c hc
  unfold yp_wc at h
  have := of_decide_eq_true h
  exact decide_eq_true (by omega)
set_option maxRecDepth 100000 in
theorem yd3_isC {x : Int} (h0 : 0 ≤ x) (h1 : x < 100000) : ∀ c ∈ yd3 x, yp_isC c = true := fun c hc => by
  obtain ⟨a, b, d⟩ := yd3_d h0 h1
  unfold yd3 at hc
  simp only [List.mem_cons, List.not_mem_nil, or_false] at hc
  rcases hc with y | y | y
  · rw [y]; exact yp_isC_d a
  · rw [y]; exact yp_isC_d b
  · rw [y]; exact yp_isC_d d
set_option maxRecDepth 100000 in
theorem yw_ob_ch {o : Nat} {g : Int} {es : List ye_E} {b : Bool} {ct : List Int} (o9 : o ≤ 9) (hg : 0 ≤ g ∧ g ≤ 9) (hes : ∀ c ∈ ye_pr true es, yp_isC c = true) (hct : b = true → ∀ c ∈ ct, yp_isC c = true) : ∀ c ∈ yw_ob o g es b ct, yp_isC c = true := fun c hc => by
  have all : ∀ w : List Int, w.all yp_isC = true → c ∈ w → yp_isC c = true := fun w hw hc => List.all_eq_true.mp hw c hc
  unfold yw_ob at hc
  rcases List.mem_append.mp hc with z | z
  · simp only [List.mem_cons, List.not_mem_nil, or_false] at z
    rcases z with y | y | y
    · rw [y]; exact yp_isC_d ⟨by omega, by omega⟩
    · rw [y]; decide
    · rw [y]; exact yp_isC_d hg
  rcases List.mem_append.mp z with z | z
  · exact all _ (by decide) z
  rcases List.mem_append.mp z with z | z
  · exact hes c z
  rcases List.mem_append.mp z with z | z
  · exact all _ (by decide) z
  rcases List.mem_append.mp z with z | z
  · cases b with
    | false => rw [if_neg (by decide)] at z; cases z
    | true =>
      rw [if_pos rfl] at z
      rcases List.mem_append.mp z with z | z
      · exact all _ (by decide) z
      rcases List.mem_append.mp z with z | z
      · exact hct rfl c z
      · exact all _ (by decide) z
  · exact all _ (by decide) z
set_option maxRecDepth 100000 in
theorem yW_ch {s : zq_S} {ev : Nat → List ye_E} {ct : Nat → List Int} {lm km : Nat} {pre : List Int} {tl : Int} (hpre : ∀ c ∈ pre, yp_isC c = true) (hO : ∀ n : Nat, 1 ≤ n → n ≤ 9 → km.testBit n = true → ∀ c ∈ yO s ev ct n, yp_isC c = true) (hg : ∀ n : Nat, 1 ≤ n → n ≤ 9 → 0 ≤ zq_i s 238 n ∧ zq_i s 238 n ≤ 9) (h17 : 0 ≤ zq_i s 232 17 ∧ zq_i s 232 17 ≤ 9) (h18 : 0 ≤ zq_i s 232 18 ∧ zq_i s 232 18 ≤ 9) (htl : -1 ≤ tl ∧ tl < 1000000) : ∀ c ∈ yW (fun l => (ycap l : Int)) s ev ct lm km pre tl, yp_isC c = true := fun c hc => by
  have all : ∀ w : List Int, w.all yp_isC = true → c ∈ w → yp_isC c = true := fun w hw hc => List.all_eq_true.mp hw c hc
  have capb : ∀ l : List Int, (ycap l : Int) ≤ 999 := fun l => by unfold ycap; omega
  unfold yW at hc
  rcases List.mem_append.mp hc with z | z
  · rcases List.mem_append.mp z with z | z
    · exact hpre c z
    · exact yw_obs_ch 9 1 (fun i i1 i2 hk => hO i i1 (by omega) hk) c z
  rcases List.mem_append.mp z with z | z
  · exact all _ (by decide) z
  rcases List.mem_append.mp z with z | z
  · refine yw_tab_ch 9 1 (by omega) (by omega) (fun i i1 i2 c hc => ?_) c z
    unfold yw_en at hc
    dsimp only at hc
    rcases List.mem_append.mp hc with z | z
    · refine yd3_isC ?_ ?_ c z
      · split <;> omega
      · have := capb (pre ++ yw_obs (fun n => km.testBit n) (yO s ev ct) (i - 1) 1)
        split <;> omega
    rcases List.mem_append.mp z with z | z
    · simp only [List.mem_cons, List.not_mem_nil, or_false] at z
      have hgi := hg i i1 (by omega)
      rcases z with z | z
      · rw [z]; decide
      · rw [z]
        refine yp_isC_d ?_
        unfold yw_g
        split
        · split <;> omega
        · omega
    · have all : ∀ w : List Int, w.all yp_isC = true → c ∈ w → yp_isC c = true := fun w hw hc => List.all_eq_true.mp hw c hc
      split at z
      · exact all _ (by decide) z
      · exact all _ (by decide) z
  · unfold yw_end at z
    rcases List.mem_append.mp z with z | z
    · exact all _ (by decide) z
    rcases List.mem_append.mp z with z | z
    · simp only [List.mem_cons, List.not_mem_nil, or_false] at z
      rcases z with z | z | z | z | z
      · rw [z]; exact yp_isC_d h17
      · rw [z]; decide
      · rw [z]; exact yp_isC_d h18
      · rw [z]; decide
      · rw [z]; decide
    rcases List.mem_append.mp z with z | z
    · split at z
      · cases z
      · rcases List.mem_append.mp z with z | z
        · exact all _ (by decide) z
        · exact ye_num_isC ⟨by omega, by omega⟩ c z
    rcases List.mem_append.mp z with z | z
    · exact all _ (by decide) z
    rcases List.mem_append.mp z with z | z
    · exact all _ (by decide) z
    rcases List.mem_append.mp z with z | z
    · have := capb (pre ++ yw_obs (fun n => km.testBit n) (yO s ev ct) 9 1)
      exact ye_num_isC (x := (ycap (pre ++ yw_obs (fun n => km.testBit n) (yO s ev ct) 9 1) : Int)) ⟨by omega, by omega⟩ c z
    · exact all _ (by decide) z
/-- the numbers that are listed, and those that are written -/
def ylm (s : zq_S) (x1 : Int) : Nat := if x1 = 0 then ymk s 239 9 0 else 1022
def ykm (s : zq_S) (ev : Nat → List ye_E) (x1 : Int) : Nat := if x1 = 0 then ymk s 239 9 0 &&& ymk s 237 9 0 else yoI s ev 9 (yo0 s)
set_option maxRecDepth 100000 in
theorem ylm_lt (s : zq_S) (x1 : Int) : ylm s x1 < 1024 := by
  unfold ylm
  split
  · exact ymk_lt s 239 9 0 (by omega)
  · decide
set_option maxRecDepth 100000 in
theorem ylm_bit (s : zq_S) (x1 : Int) (n : Nat) (n1 : 1 ≤ n) (n9 : n ≤ 9) : (ylm s x1).testBit n = true ↔ (x1 ≠ 0 ∨ zq_i s 239 n ≠ 0) := by
  unfold ylm
  by_cases hx : x1 = 0
  · rw [if_pos hx, ymk_bit]
    exact ⟨fun z => Or.inr z.2.2, fun z => ⟨by omega, by omega, z.elim (fun y => absurd hx y) id⟩⟩
  · rw [if_neg hx]
    refine ⟨fun _ => Or.inl hx, fun _ => ?_⟩
    have : ∀ n, n ≤ 9 → 1 ≤ n → Nat.testBit 1022 n = true := by decide
    exact this n n9 n1
set_option maxRecDepth 100000 in
theorem ylm_0 (s : zq_S) (x1 : Int) : (ylm s x1).testBit 0 = false := by
  unfold ylm
  split
  · cases h : (ymk s 239 9 0).testBit 0 with
    | false => rfl
    | true => have := ((ymk_bit s 239 0 9 0).mp h).1; omega
  · decide
set_option maxRecDepth 100000 in
theorem ykm_g (s : zq_S) (ev : Nat → List ye_E) (x1 : Int) : yog s (ykm s ev x1) := by
  unfold ykm
  split
  · refine ⟨(ybit_and2 (ymk_lt s 239 9 0 (by omega)) (ymk_lt s 237 9 0 (by omega))).2, fun n hn => ?_⟩
    rw [Nat.testBit_and, Bool.and_eq_true] at hn
    have := (ymk_bit s 237 n 9 0).mp hn.2
    exact ⟨by omega, by omega, this.2.2⟩
  · exact yoI_g (ev := ev) 9 (yo0 s) (yo0_g s)
set_option maxRecDepth 100000 in
theorem ykm_0 {s : zq_S} {ev : Nat → List ye_E} {x1 : Int} (hx : x1 = 0) (n : Nat) (n1 : 1 ≤ n) (n9 : n ≤ 9) : (ykm s ev x1).testBit n = true ↔ zq_i s 237 n ≠ 0 ∧ zq_i s 239 n ≠ 0 := by
  unfold ykm
  rw [if_pos hx, Nat.testBit_and, Bool.and_eq_true, ymk_bit, ymk_bit]
  exact ⟨fun z => ⟨z.2.2.2, z.1.2.2⟩, fun z => ⟨⟨by omega, by omega, z.2⟩, by omega, by omega, z.1⟩⟩
