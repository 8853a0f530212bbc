/-! valueEnd finds the end of a printed value -/
set_option maxRecDepth 100000 in
theorem ye_it32 {T : Int → Int} (hT : yp_T T) {p : Int} (hp : 0 ≤ p) (h : T p = 32) (f : Nat) {dp : Int} (d0 : -1000 ≤ dp) (d1 : dp ≤ 1000) : yp_ve T (f + 1) dp p = yp_ve T f dp (p + 1) := by
  have := yp_lt hT (k := p) (by omega)
  conv => lhs; unfold yp_ve
  rw [if_neg (by omega), h]
  simp
set_option maxRecDepth 100000 in
theorem ye_ky_len (d : ye_N) : (ye_ky d).length = if d.2.2.2.1 = [] then 0 else d.2.2.2.1.length + 2 := by
  unfold ye_ky
  split <;> simp
set_option maxRecDepth 100000 in
/-- a key, and the space behind it -/
theorem ye_itky {T : Int → Int} (hT : yp_T T) {p : Int} {d : ye_N} {l : List Int} (hp : 0 ≤ p) (hd : ye_ok d) (h : ye_at T p (ye_ky d ++ l)) (f : Nat) {dp : Int} (d0 : 1 ≤ dp) (d1 : dp ≤ 1000) : ∃ g, g ≤ 2 ∧ yp_ve T (f + g) dp p = yp_ve T f dp (p + (ye_ky d).length) := by
  by_cases hk : d.2.2.2.1 = []
  · refine ⟨0, by omega, ?_⟩
    rw [ye_ky_len, if_pos hk]
    simp
  · have hn : ye_nm d.2.2.2.1 := by
      rcases hd.1 with z | z
      · exact absurd z hk
      · exact z
    refine ⟨2, by omega, ?_⟩
    have ek : ye_ky d = 47 :: (d.2.2.2.1 ++ [32]) := by unfold ye_ky; rw [if_neg hk]
    rw [ek] at h ⊢
    simp only [List.cons_append, List.append_assoc, List.nil_append] at h
    obtain ⟨h0, h1⟩ := ye_at_cons.mp h
    obtain ⟨h2, h3⟩ := ye_at_app.mp h1
    have h32 : T (p + 1 + d.2.2.2.1.length) = 32 := ye_at_hd h3
    obtain ⟨nm, _⟩ := ye_name hn h (by rw [h32]; rfl)
    have := yp_lt hT (k := p) (by omega)
    have e1 : yp_ve T (f + 2) dp p = yp_ve T (f + 1) dp (p + 1 + d.2.2.2.1.length) := by
      conv => lhs; unfold yp_ve
      rw [if_neg (by omega), h0, nm]
      simp
      omega
    rw [e1, ye_it32 hT (by omega) h32 f (by omega) d1]
    congr 1
    simp
    omega
set_option maxRecDepth 100000 in
theorem yp_ve_mono {T : Int → Int} : ∀ (f : Nat) (dp k e : Int), yp_ve T f dp k = some e → yp_ve T (f + 1) dp k = some e
  | 0, _, _, _, h => by cases h
  | f + 1, dp, k, e, h => by
    have ih := yp_ve_mono (T := T) f
    conv => lhs; unfold yp_ve
    unfold yp_ve at h
    have go : ∀ dp k, (if dp ≤ 0 then some k else yp_ve T f dp k) = some e → (if dp ≤ 0 then some k else yp_ve T (f + 1) dp k) = some e := fun dp k h => by
      split at h
      · next hz => rw [if_pos hz]; exact h
      · next hz => rw [if_neg hz]; exact ih _ _ _ h
    by_cases hg : ¬ ((0 ≤ k ∧ k ≤ 999) ∧ -1000 ≤ dp ∧ dp ≤ 1000)
    · rw [if_pos hg] at h
      cases h
    rw [if_neg hg] at h ⊢
    by_cases c40 : T k = 40
    · rw [if_pos c40] at h ⊢
      exact go _ _ h
    rw [if_neg c40] at h ⊢
    by_cases c91 : T k = 91
    · rw [if_pos c91] at h ⊢
      exact go _ _ h
    rw [if_neg c91] at h ⊢
    by_cases c60 : T k = 60
    · rw [if_pos c60] at h ⊢
      exact go _ _ h
    rw [if_neg c60] at h ⊢
    by_cases c93 : T k = 93
    · rw [if_pos c93] at h ⊢
      exact go _ _ h
    rw [if_neg c93] at h ⊢
    by_cases c62 : T k = 62
    · rw [if_pos c62] at h ⊢
      exact go _ _ h
    rw [if_neg c62] at h ⊢
    by_cases c47 : T k = 47
    · rw [if_pos c47] at h ⊢
      exact go _ _ h
    rw [if_neg c47] at h ⊢
    by_cases c32 : T k = 32
    · rw [if_pos c32] at h ⊢
      exact ih _ _ _ h
    rw [if_neg c32] at h ⊢
    by_cases cr : yp_ref T k < 0
    · rw [if_pos cr] at h ⊢
      exact go _ _ h
    rw [if_neg cr] at h ⊢
    exact go _ _ h
set_option maxRecDepth 100000 in
theorem yp_ve_le {T : Int → Int} {f g : Nat} {dp k e : Int} (h : yp_ve T f dp k = some e) (hg : f ≤ g) : yp_ve T g dp k = some e := by
  induction hg with
  | refl => exact h
  | step _ ih => exact yp_ve_mono _ _ _ _ ih
set_option maxRecDepth 100000 in
theorem ye_ve {T : Int → Int} (hT : yp_T T) : ∀ (es : List ye_E) (n : Nat) (p : Int) (f : Bool) (rest : List ye_E), 1 ≤ n → n + es.length ≤ 900 → 0 ≤ p → ye_oks es → ye_su T p f es → ye_skip es n = some rest → ∃ q, yp_ve T (4 * es.length) n p = some q ∧ ye_su T q false rest ∧ p < q ∧ q ≤ 1002
  | [], _, _, _, _, _, _, _, _, _, h => by cases h
  | .inr k :: es, n, p, f, rest, h1, h2, h0, ho, h, hs => by
    have hk := ho.2 k (by simp)
    have hc := ye_su_cl h
    have hcl := ye_cl_hd hc hk
    have hp := yp_lt hT (k := p) (by omega)
    unfold ye_skip at hs
    simp only [List.length_cons] at h2 ⊢
    have step : yp_ve T (4 * (es.length + 1)) n p = if (n : Int) + -1 ≤ 0 then some (p + (ye_cl k).length) else yp_ve T (4 * es.length + 3) ((n : Int) + -1) (p + (ye_cl k).length) := by
      rw [show 4 * (es.length + 1) = 4 * es.length + 3 + 1 by omega]
      conv => lhs; unfold yp_ve
      rw [if_neg (by omega)]
      rcases hk with hk | hk
      · subst hk
        have : T p = 93 := ye_at_hd hc
        rw [this]
        simp [ye_cl]
      · subst hk
        have : T p = 62 := ye_at_hd hc
        rw [this]
        simp [ye_cl]
    obtain ⟨_, hr⟩ := ye_at_app.mp hc
    have lc : 1 ≤ (ye_cl k).length ∧ (ye_cl k).length ≤ 2 := by unfold ye_cl; split <;> simp
    rw [step]
    by_cases hn : n ≤ 1
    · rw [if_pos hn] at hs
      cases hs
      rw [if_pos (by omega)]
      exact ⟨_, rfl, hr, by omega, by omega⟩
    · rw [if_neg hn] at hs
      rw [if_neg (by omega)]
      obtain ⟨q, q1, q2, q3, q4⟩ := ye_ve hT es (n - 1) (p + (ye_cl k).length) false rest (by omega) (by omega) (by omega) ho.tl hr hs
      refine ⟨q, yp_ve_le (f := 4 * es.length) ?_ (by omega), q2, by omega, q4⟩
      rw [show (n : Int) + -1 = ((n - 1 : Nat) : Int) by omega]
      exact q1
  | .inl d :: es, n, p, f, rest, h1, h2, h0, ho, h, hs => by
    have hd := ho.1 d (by simp)
    unfold ye_skip at hs
    simp only [List.length_cons] at h2 ⊢
    -- the place of key and token
    have hb : ∃ p1, (p1 = p ∨ p1 = p + 1) ∧ ye_at T p1 (ye_ky d ++ (ye_op d ++ (ye_pr (ye_nest d) es ++ [0]))) ∧ ∀ F : Nat, ∃ g, g ≤ 1 ∧ yp_ve T (F + g) n p = yp_ve T F n p1 := by
      cases f with
      | true => exact ⟨p, Or.inl rfl, ye_su_node1 h, fun F => ⟨0, by omega, rfl⟩⟩
      | false =>
        obtain ⟨a1, a2⟩ := ye_su_node h
        exact ⟨p + 1, Or.inr rfl, a2, fun F => ⟨1, by omega, ye_it32 hT h0 a1 F (by omega) (by omega)⟩⟩
    obtain ⟨p1, hp1, ha, hf⟩ := hb
    have p10 : 0 ≤ p1 := by omega
    obtain ⟨_, hop⟩ := ye_at_app.mp ha
    have lk := ye_ky_len d
    have p20 : 0 ≤ p1 + ((ye_ky d).length : Int) := by omega
    obtain ⟨c, l, eo, _⟩ := ye_op_hd hd
    obtain ⟨_, hr⟩ := ye_at_app.mp hop
    have lo : 1 ≤ (ye_op d).length := by rw [eo]; simp
    have n' : ∀ b : Bool, (1 : Nat) ≤ (if b = true then n + 1 else n) ∧ (if b = true then n + 1 else n) ≤ n + 1 := fun b => by cases b <;> simp <;> omega
    obtain ⟨q, q1, q2, q3, q4⟩ := ye_ve hT es (if ye_nest d = true then n + 1 else n) (p1 + (ye_ky d).length + (ye_op d).length) (ye_nest d) rest (n' _).1 (by have := (n' (ye_nest d)).2; omega) (by omega) ho.tl hr hs
    have tk := ye_tok hT p20 hd ho.tl hop (4 * es.length) (n : Int) (by omega) (by omega)
    have e1 : yp_ve T (4 * es.length + 1) n (p1 + (ye_ky d).length) = some q := by
      rw [tk]
      cases hn : ye_nest d with
      | true =>
        rw [hn] at q1
        simp only [if_true] at q1 ⊢
        rw [if_neg (by omega)]
        exact q1
      | false =>
        rw [hn] at q1
        simp only [Bool.false_eq_true, if_false] at q1 ⊢
        rw [if_neg (by omega)]
        exact q1
    obtain ⟨g1, hg1, e2⟩ := ye_itky hT p10 hd ha (4 * es.length + 1) (dp := (n : Int)) (by omega) (by omega)
    obtain ⟨g2, hg2, e3⟩ := hf (4 * es.length + 1 + g1)
    refine ⟨q, yp_ve_le (f := 4 * es.length + 1 + g1 + g2) ?_ (by omega), q2, by omega, q4⟩
    rw [e3, e2, e1]
set_option maxRecDepth 100000 in
/-- of a value as it stands -/
theorem ye_vend {T : Int → Int} (hT : yp_T T) {p : Int} {d : ye_N} {es rest : List ye_E} (hp : 0 ≤ p) (hd : ye_ok d) (ho : ye_oks es) (hl : es.length ≤ 40) (h : ye_at T p (ye_op d ++ (ye_pr (ye_nest d) es ++ [0]))) (hr : ye_rest d es = some rest) : ∃ q, yp_ve T 200 0 p = some q ∧ ye_su T q false rest ∧ p < q ∧ q ≤ 2000 := by
  have tk := ye_tok hT hp hd ho h 199 0 (by decide) (by decide)
  obtain ⟨_, hs⟩ := ye_at_app.mp h
  obtain ⟨c, l, eo, _, _, _, _, _, cz, _⟩ := ye_op_hd hd
  have lo : 1 ≤ (ye_op d).length := by rw [eo]; simp
  have hp9 : p < 1000 := yp_lt hT (by rw [eo] at h; rw [ye_at_hd h]; exact cz)
  unfold ye_rest at hr
  cases hn : ye_nest d with
  | true =>
    rw [hn] at hr hs tk
    simp only [if_true] at hr tk
    obtain ⟨q, q1, q2, q3, q4⟩ := ye_ve hT es 1 (p + (ye_op d).length) true rest (by omega) (by omega) (by omega) ho hs hr
    refine ⟨q, ?_, q2, by omega, by omega⟩
    rw [show (200 : Nat) = 199 + 1 from rfl, tk, if_neg (by decide)]
    exact yp_ve_le q1 (by omega)
  | false =>
    rw [hn] at hr hs tk
    simp only [Bool.false_eq_true, if_false] at hr tk
    cases hr
    refine ⟨p + (ye_op d).length, ?_, hs, by omega, ?_⟩
    · rw [show (200 : Nat) = 199 + 1 from rfl, tk, if_pos (by decide)]
    · have hb := ye_bd ho hs
      -- the last character of the token is not behind the text
      have : p + ((ye_op d).length : Int) ≤ 2000 := by
        apply Decidable.byContradiction
        intro hbig
        obtain ⟨a1, _⟩ := ye_at_app.mp h
        have : (ye_op d).length ≤ 100 := by
          have hk := hd.kinds
          rcases (show d.1 = 0 ∨ d.1 = 1 ∨ d.1 = 2 ∨ d.1 = 3 ∨ d.1 = 4 ∨ d.1 = 5 ∨ d.1 = 6 ∨ d.1 = 7 ∨ d.1 = 8 by omega) with k | k | k | k | k | k | k | k | k
          · unfold ye_op; simp [k]
          · unfold ye_op; simp [k]
          · unfold ye_op; simp [k]
          · have := ye_num_len d.2.1
            unfold ye_op
            simp [k]
            omega
          · have := (hd.k4 k).2.1
            unfold ye_op
            simp [k]
            omega
          · have := (hd.k5 k).1
            have e1 : ∀ l : List Int, (ye_esc l).length ≤ 2 * l.length := fun l => by
              induction l with
              | nil => simp [ye_esc]
              | cons c l ih =>
                have ee : ye_esc (c :: l) = (if c = 40 ∨ c = 41 ∨ c = 92 then [92, c] else [c]) ++ ye_esc l := rfl
                rw [ee, List.length_append, List.length_cons]
                split <;> simp <;> omega
            have := e1 d.2.2.2.2
            unfold ye_op
            simp [k]
            omega
          · unfold ye_op; simp [k]
          · unfold ye_op; simp [k]
          · unfold ye_op; simp [k]
        omega
      exact this
