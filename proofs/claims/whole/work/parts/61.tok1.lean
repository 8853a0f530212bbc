/-! what a printed value's tokens are read as -/
def ye_su (T : Int → Int) (p : Int) (f : Bool) (es : List ye_E) : Prop := ye_at T p (ye_pr f es ++ [0])
def ye_oks (es : List ye_E) : Prop := (∀ d, Sum.inl d ∈ es → ye_ok d) ∧ (∀ k, Sum.inr k ∈ es → k = 6 ∨ k = 7)
set_option maxRecDepth 100000 in
theorem ye_oks.tl {e : ye_E} {es : List ye_E} (h : ye_oks (e :: es)) : ye_oks es := ⟨fun d hd => h.1 d (List.mem_cons_of_mem _ hd), fun k hk => h.2 k (List.mem_cons_of_mem _ hk)⟩
set_option maxRecDepth 100000 in
theorem ye_su_node {T : Int → Int} {p : Int} {d : ye_N} {es : List ye_E} (h : ye_su T p false (.inl d :: es)) : T p = 32 ∧ ye_at T (p + 1) (ye_ky d ++ (ye_op d ++ (ye_pr (ye_nest d) es ++ [0]))) := by
  unfold ye_su ye_pr at h
  simp only [Bool.false_eq_true, if_false, List.append_assoc, List.cons_append, List.nil_append] at h
  exact ye_at_cons.mp h
set_option maxRecDepth 100000 in
theorem ye_su_node1 {T : Int → Int} {p : Int} {d : ye_N} {es : List ye_E} (h : ye_su T p true (.inl d :: es)) : ye_at T p (ye_ky d ++ (ye_op d ++ (ye_pr (ye_nest d) es ++ [0]))) := by
  unfold ye_su ye_pr at h
  simp only [if_true, List.append_assoc, List.nil_append] at h
  exact h
set_option maxRecDepth 100000 in
theorem ye_su_cl {T : Int → Int} {p k : Int} {f : Bool} {es : List ye_E} (h : ye_su T p f (.inr k :: es)) : ye_at T p (ye_cl k ++ (ye_pr false es ++ [0])) := by
  unfold ye_su ye_pr at h
  simp only [List.append_assoc] at h
  exact h
set_option maxRecDepth 100000 in
theorem ye_cl_hd {T : Int → Int} {p k : Int} {l : List Int} (h : ye_at T p (ye_cl k ++ l)) (hk : k = 6 ∨ k = 7) : T p = 93 ∨ T p = 62 := by
  rcases hk with hk | hk <;> subst hk
  · exact Or.inl (ye_at_hd h)
  · exact Or.inr (ye_at_hd h)
set_option maxRecDepth 100000 in
/-- the characters behind a token -/
theorem ye_bd {T : Int → Int} {p : Int} {es : List ye_E} (ho : ye_oks es) (h : ye_su T p false es) : T p = 32 ∨ T p = 93 ∨ T p = 62 ∨ T p = 0 := by
  cases es with
  | nil => exact Or.inr (Or.inr (Or.inr (ye_at_hd h)))
  | cons e es =>
    cases e with
    | inl d => exact Or.inl (ye_su_node h).1
    | inr k => have := ye_cl_hd (ye_su_cl h) (ho.2 k (by simp)); omega
set_option maxRecDepth 100000 in
theorem ye_bd_wc {T : Int → Int} {p : Int} {es : List ye_E} (ho : ye_oks es) (h : ye_su T p false es) : yp_wc (T p) = false := by
  have := ye_bd ho h
  exact decide_eq_false (by omega)
set_option maxRecDepth 100000 in
theorem ye_bd_nc {T : Int → Int} {p : Int} {es : List ye_E} (ho : ye_oks es) (h : ye_su T p false es) : yp_nc (T p) = false := by
  have := ye_bd ho h
  exact decide_eq_false (by omega)
set_option maxRecDepth 100000 in
theorem ye_num_hd (v : Int) (hv : -1000000 < v ∧ v < 1000000) : ∃ c l, ye_num v = c :: l ∧ (c = 45 ∨ (48 ≤ c ∧ c ≤ 57)) := by
  unfold ye_num
  by_cases h : v < 0
  · rw [if_pos h]
    exact ⟨45, _, rfl, Or.inl rfl⟩
  · rw [if_neg h]
    have h1 := ye_dec_dg 5 v.natAbs (by simp; omega)
    have h2 := ye_dec_len 5 v.natAbs
    cases hd : ye_dec 5 v.natAbs with
    | nil => rw [hd] at h2; simp at h2
    | cons c l =>
      rw [hd] at h1
      have := of_decide_eq_true (h1 c (by simp))
      exact ⟨c, l, rfl, Or.inr this⟩
set_option maxRecDepth 100000 in
/-- a token's first character -/
theorem ye_op_hd {d : ye_N} (ho : ye_ok d) : ∃ c l, ye_op d = c :: l ∧ c ≠ 32 ∧ c ≠ 10 ∧ c ≠ 82 ∧ c ≠ 93 ∧ c ≠ 62 ∧ c ≠ 0 ∧ (48 ≤ c ∧ c ≤ 57 → d.1 = 3 ∨ d.1 = 8) ∧ (c = 47 ↔ d.1 = 4) ∧ (c = 40 ↔ d.1 = 5) ∧ (c = 91 ↔ d.1 = 6) ∧ (c = 60 ↔ d.1 = 7) := by
  obtain ⟨_, ho⟩ := ho
  unfold ye_op
  rcases ho with (h | h | h | h | h) | ⟨h, h1, h2⟩ | ⟨h, h1⟩ | ⟨h, h1⟩ | ⟨h, h1, h2, h3, h4⟩
  · simp [h]
  · simp [h]
  · simp [h]
  · simp [h]
  · simp [h]
  · obtain ⟨c, l, e, hc⟩ := ye_num_hd d.2.1 ⟨h1, h2⟩
    simp only [h, e]
    refine ⟨c, l, rfl, ?_⟩
    simp
    omega
  · simp [h]
  · simp [h]
  · simp [h]
    omega
set_option maxRecDepth 100000 in
/-- behind spaces no R stands -/
theorem ye_no82 {T : Int → Int} {p : Int} {es : List ye_E} (ho : ye_oks es) (h : ye_su T p false es) : T (yp_sk T p) ≠ 82 := by
  cases es with
  | nil =>
    have h0 : T p = 0 := ye_at_hd h
    rw [ye_sk0 (by rw [h0]; rfl), h0]
    decide
  | cons e es =>
    cases e with
    | inl d =>
      obtain ⟨h1, h2⟩ := ye_su_node h
      obtain ⟨c, l, e, c1, c2, c3, _⟩ := ye_op_hd (ho.1 d (by simp))
      have hc : T (p + 1) ≠ 32 ∧ T (p + 1) ≠ 10 ∧ T (p + 1) ≠ 82 := by
        unfold ye_ky at h2
        split at h2
        · rw [e] at h2
          have := ye_at_hd h2
          rw [this]
          exact ⟨c1, c2, c3⟩
        · have := ye_at_hd h2
          rw [this]
          decide
      rw [ye_sk1 h1 (decide_eq_false (by omega))]
      exact hc.2.2
    | inr k =>
      have h1 := ye_cl_hd (ye_su_cl h) (ho.2 k (by simp))
      rw [ye_sk0 (decide_eq_false (by omega))]
      omega
set_option maxRecDepth 100000 in
theorem ye_num_wc (v : Int) (hv : -1000000 < v ∧ v < 1000000) : ∀ c ∈ ye_num v, yp_wc c = true := by
  intro c hc
  unfold ye_num at hc
  rw [List.mem_append] at hc
  rcases hc with hc | hc
  · split at hc
    · simp at hc
      subst hc
      rfl
    · cases hc
  · have := of_decide_eq_true (ye_dec_dg 5 v.natAbs (by simp; omega) c hc)
    exact decide_eq_true (by omega)
set_option maxRecDepth 100000 in
theorem ye_num_len (v : Int) : 1 ≤ (ye_num v).length ∧ (ye_num v).length ≤ 7 := by
  have := ye_dec_len 5 v.natAbs
  unfold ye_num
  split <;> simp <;> omega
set_option maxRecDepth 100000 in
/-- a number's word -/
theorem ye_num_wd {T : Int → Int} {p v : Int} {es : List ye_E} (hv : -1000000 < v ∧ v < 1000000) (ho : ye_oks es) (h : ye_at T p (ye_num v ++ (ye_pr false es ++ [0]))) : yp_wd T p = p + (ye_num v).length ∧ ye_su T (p + (ye_num v).length) false es := by
  obtain ⟨h1, h2⟩ := ye_at_app.mp h
  have := ye_num_len v
  exact ⟨ye_wd (by omega) h1 (ye_num_wc v hv) (ye_bd_wc ho h2), h2⟩
set_option maxRecDepth 100000 in
/-- a number is no reference -/
theorem ye_num_ref {T : Int → Int} {p v : Int} {es : List ye_E} (hv : -1000000 < v ∧ v < 1000000) (ho : ye_oks es) (h : ye_at T p (ye_num v ++ (ye_pr false es ++ [0]))) : yp_ref T p = -1 := by
  obtain ⟨w1, w2⟩ := ye_num_wd hv ho h
  unfold yp_ref
  by_cases c1 : yp_od1 T p 49 = false
  · rw [if_pos c1]
  rw [if_neg c1]
  have c1 : yp_od1 T p 49 = true := by simpa using c1
  have d1 := of_decide_eq_true c1
  have l1 : (ye_num v).length = 1 := by omega
  rw [l1] at w2
  have w2 : ye_su T (p + 1) false es := w2
  by_cases c2 : yp_od1 T (yp_sk T (p + 1)) 48 = false
  · rw [if_pos c2]
  rw [if_neg c2]
  have c2 : yp_od1 T (yp_sk T (p + 1)) 48 = true := by simpa using c2
  have d2 := of_decide_eq_true c2
  rw [if_neg]
  intro z
  have z := z.1
  cases es with
  | nil =>
    have h0 : T (p + 1) = 0 := ye_at_hd w2
    rw [ye_sk0 (by rw [h0]; rfl), h0] at d2
    exact absurd d2.1 (by decide)
  | cons e es =>
    cases e with
    | inr k =>
      have h1 := ye_cl_hd (ye_su_cl w2) (ho.2 k (by simp))
      rw [ye_sk0 (decide_eq_false (by omega))] at d2
      have := of_decide_eq_true d2.1
      omega
    | inl d =>
      obtain ⟨h1, h2⟩ := ye_su_node w2
      have okd := ho.1 d (by simp)
      obtain ⟨c, l, e, e1, e2, e3, e4, e5, e6, e7, _⟩ := ye_op_hd okd
      have hsp : yp_sp (T (p + 1 + 1)) = false := by
        unfold ye_ky at h2
        split at h2
        · rw [e] at h2
          rw [ye_at_hd h2]
          exact decide_eq_false (by omega)
        · rw [ye_at_hd h2]
          rfl
      rw [ye_sk1 h1 hsp] at d2 z
      have dg := of_decide_eq_true d2.1
      have hk : ye_ky d = [] := by
        unfold ye_ky at h2 ⊢
        split
        · rfl
        · next hk =>
          rw [if_neg hk] at h2
          have := ye_at_hd h2
          omega
      rw [hk, List.nil_append] at h2
      have hc : T (p + 1 + 1) = c := by rw [e] at h2; exact ye_at_hd h2
      rcases e7 (by omega) with k3 | k8
      · have eo : ye_op d = ye_num d.2.1 := by unfold ye_op; simp [k3]
        have hn : ye_nest d = false := decide_eq_false (by omega)
        rw [eo, hn] at h2
        have hv2 : -1000000 < d.2.1 ∧ d.2.1 < 1000000 := by
          rcases okd.2 with (q | q | q | q | q) | ⟨_, q1, q2⟩ | ⟨q, _⟩ | ⟨q, _⟩ | ⟨q, _⟩ <;> omega
        obtain ⟨v1, v2⟩ := ye_num_wd hv2 ho.tl h2
        have l2 : (ye_num d.2.1).length = 1 := by omega
        rw [l2] at v2
        exact ye_no82 ho.tl v2 z
      · have eo : ye_op d = [48 + d.2.1, 32, 48 + d.2.2.1, 32, 82] := by unfold ye_op; simp [k8]
        rw [eo] at h2
        simp only [List.cons_append] at h2
        obtain ⟨_, h3⟩ := ye_at_cons.mp h2
        obtain ⟨h4, h5⟩ := ye_at_cons.mp h3
        have h6 := ye_at_hd h5
        have hg : 0 ≤ d.2.2.1 ∧ d.2.2.1 ≤ 9 := by
          rcases okd.2 with (q | q | q | q | q) | ⟨q, _⟩ | ⟨q, _⟩ | ⟨q, _⟩ | ⟨_, _, _, q1, q2⟩ <;> omega
        rw [ye_sk1 h4 (decide_eq_false (by omega))] at z
        omega
