/-! where a value's text ends, exactly -/
set_option maxRecDepth 100000 in
theorem ye_ve2 {T : Int → Int} (hT : yp_T T) : ∀ (es : List ye_E) (n : Nat) (p : Int) (f : Bool) (rest : List ye_E), 1 ≤ n → n + es.length ≤ 900 → 0 ≤ p → ye_oks es → ye_su T p f es → ye_skip es n = some rest → ∃ B, es = B ++ rest ∧ yp_ve T (4 * es.length) n p = some (p + (ye_pr f B).length)
  | [], _, _, _, _, _, _, _, _, _, h => by cases h
  | .inr k :: es, n, p, f, rest, h1, h2, h0, ho, h, hs => by
    have hk := ho.2 k (by simp)
    have hc := ye_su_cl h
    have hcl := ye_cl_hd hc hk
    have hp := yp_lt hT (k := p) (by omega)
    unfold ye_skip at hs
    simp only [List.length_cons] at h2 ⊢
    have step : yp_ve T (4 * (es.length + 1)) n p = if (n : Int) + -1 ≤ 0 then some (p + (ye_cl k).length) else yp_ve T (4 * es.length + 3) ((n : Int) + -1) (p + (ye_cl k).length) := by
      rw [show 4 * (es.length + 1) = 4 * es.length + 3 + 1 by omega]
      conv => lhs; unfold yp_ve
      rw [if_neg (by omega)]
      rcases hk with hk | hk
      · subst hk
        have : T p = 93 := ye_at_hd hc
        rw [this]
        simp [ye_cl]
      · subst hk
        have : T p = 62 := ye_at_hd hc
        rw [this]
        simp [ye_cl]
    obtain ⟨_, hr⟩ := ye_at_app.mp hc
    have lc : 1 ≤ (ye_cl k).length ∧ (ye_cl k).length ≤ 2 := by unfold ye_cl; split <;> simp
    rw [step]
    by_cases hn : n ≤ 1
    · rw [if_pos hn] at hs
      cases hs
      rw [if_pos (by omega)]
      exact ⟨[.inr k], rfl, by show some (p + ((ye_cl k).length : Int)) = some (p + ((ye_cl k ++ []).length : Int)); rw [List.append_nil]⟩
    · rw [if_neg hn] at hs
      rw [if_neg (by omega)]
      obtain ⟨B, q0, q1⟩ := ye_ve2 hT es (n - 1) (p + (ye_cl k).length) false rest (by omega) (by omega) (by omega) ho.tl hr hs
      refine ⟨.inr k :: B, by rw [q0]; rfl, yp_ve_le (f := 4 * es.length) ?_ (by omega)⟩
      rw [show (n : Int) + -1 = ((n - 1 : Nat) : Int) by omega, q1]
      have e : ye_pr f (.inr k :: B) = ye_cl k ++ ye_pr false B := rfl
      rw [e, List.length_append]
      congr 1
      omega
  | .inl d :: es, n, p, f, rest, h1, h2, h0, ho, h, hs => by
    have hd := ho.1 d (by simp)
    unfold ye_skip at hs
    simp only [List.length_cons] at h2 ⊢
    -- the place of key and token
    have hb : ∃ p1, p1 = p + ((if f = true then ([] : List Int) else [32]).length : Nat) ∧ ye_at T p1 (ye_ky d ++ (ye_op d ++ (ye_pr (ye_nest d) es ++ [0]))) ∧ ∀ F : Nat, ∃ g, g ≤ 1 ∧ yp_ve T (F + g) n p = yp_ve T F n p1 := by
      cases f with
      | true => exact ⟨p, by simp, ye_su_node1 h, fun F => ⟨0, by omega, rfl⟩⟩
      | false =>
        obtain ⟨a1, a2⟩ := ye_su_node h
        exact ⟨p + 1, by simp, a2, fun F => ⟨1, by omega, ye_it32 hT h0 a1 F (by omega) (by omega)⟩⟩
    obtain ⟨p1, hp1, ha, hf⟩ := hb
    have p10 : 0 ≤ p1 := by omega
    obtain ⟨_, hop⟩ := ye_at_app.mp ha
    have lk := ye_ky_len d
    have p20 : 0 ≤ p1 + ((ye_ky d).length : Int) := by omega
    obtain ⟨c, l, eo, _⟩ := ye_op_hd hd
    obtain ⟨_, hr⟩ := ye_at_app.mp hop
    have lo : 1 ≤ (ye_op d).length := by rw [eo]; simp
    have n' : ∀ b : Bool, (1 : Nat) ≤ (if b = true then n + 1 else n) ∧ (if b = true then n + 1 else n) ≤ n + 1 := fun b => by cases b <;> simp <;> omega
    obtain ⟨B, q0, q1⟩ := ye_ve2 hT es (if ye_nest d = true then n + 1 else n) (p1 + (ye_ky d).length + (ye_op d).length) (ye_nest d) rest (n' _).1 (by have := (n' (ye_nest d)).2; omega) (by omega) ho.tl hr hs
    have tk := ye_tok hT p20 hd ho.tl hop (4 * es.length) (n : Int) (by omega) (by omega)
    have e1 : yp_ve T (4 * es.length + 1) n (p1 + (ye_ky d).length) = some (p1 + (ye_ky d).length + (ye_op d).length + (ye_pr (ye_nest d) B).length) := by
      rw [tk]
      cases hn : ye_nest d with
      | true =>
        rw [hn] at q1
        simp only [if_true] at q1 ⊢
        rw [if_neg (by omega)]
        exact q1
      | false =>
        rw [hn] at q1
        simp only [Bool.false_eq_true, if_false] at q1 ⊢
        rw [if_neg (by omega)]
        exact q1
    obtain ⟨g1, hg1, e2⟩ := ye_itky hT p10 hd ha (4 * es.length + 1) (dp := (n : Int)) (by omega) (by omega)
    obtain ⟨g2, hg2, e3⟩ := hf (4 * es.length + 1 + g1)
    refine ⟨.inl d :: B, by rw [q0]; rfl, yp_ve_le (f := 4 * es.length + 1 + g1 + g2) ?_ (by omega)⟩
    rw [e3, e2, e1]
    have e : ye_pr f (.inl d :: B) = (if f = true then [] else [32]) ++ (ye_ky d ++ (ye_op d ++ ye_pr (ye_nest d) B)) := rfl
    rw [e, List.length_append, List.length_append, List.length_append, hp1]
    congr 1
    omega
set_option maxRecDepth 100000 in
theorem ye_vend2 {T : Int → Int} (hT : yp_T T) {p : Int} {d : ye_N} {es rest : List ye_E} (hp : 0 ≤ p) (hd : ye_ok d) (ho : ye_oks es) (hl : es.length ≤ 40) (h : ye_at T p (ye_op d ++ (ye_pr (ye_nest d) es ++ [0]))) (hr : ye_rest d es = some rest) : ∃ B, es = B ++ rest ∧ yp_ve T 200 0 p = some (p + (ye_op d ++ ye_pr (ye_nest d) B).length) := by
  have tk := ye_tok hT hp hd ho h 199 0 (by decide) (by decide)
  obtain ⟨_, hs⟩ := ye_at_app.mp h
  unfold ye_rest at hr
  cases hn : ye_nest d with
  | true =>
    rw [hn] at hr hs tk
    simp only [if_true] at hr tk
    obtain ⟨B, q0, q1⟩ := ye_ve2 hT es 1 (p + (ye_op d).length) true rest (by omega) (by omega) (by omega) ho hs hr
    refine ⟨B, q0, ?_⟩
    rw [show (200 : Nat) = 199 + 1 from rfl, tk, if_neg (by decide), List.length_append]
    have := yp_ve_le (g := 199) q1 (by omega)
    rw [show p + (((ye_op d).length + (ye_pr true B).length : Nat) : Int) = p + (ye_op d).length + (ye_pr true B).length by omega]
    exact this
  | false =>
    rw [hn] at hr tk
    simp only [Bool.false_eq_true, if_false] at hr tk
    cases hr
    refine ⟨[], rfl, ?_⟩
    rw [show (200 : Nat) = 199 + 1 from rfl, tk, if_pos (by decide)]
    simp [ye_pr]
