/-! partAt on a printed value -/
def yp_T6 (T : Int → Int) : Prop := ∀ j, 600 ≤ j → T j = 0
set_option maxRecDepth 100000 in
theorem yp_T6.T {T : Int → Int} (h : yp_T6 T) : yp_T T := fun j hj => h j (by omega)
set_option maxRecDepth 100000 in
theorem yp_lt6 {T : Int → Int} (hT : yp_T6 T) {k : Int} (h : T k ≠ 0) : k < 600 := Decidable.byContradiction (fun z => h (hT k (by omega)))
/-- where a node stands: d is printed with its key at p, es behind it -/
def ye_nd (T : Int → Int) (p : Int) (d : ye_N) (es : List ye_E) : Prop := ye_at T (p - (ye_ky d).length) (ye_ky d ++ (ye_op d ++ (ye_pr (ye_nest d) es ++ [0])))
set_option maxRecDepth 100000 in
theorem ye_nd.op {T : Int → Int} {p : Int} {d : ye_N} {es : List ye_E} (h : ye_nd T p d es) : ye_at T p (ye_op d ++ (ye_pr (ye_nest d) es ++ [0])) := by
  have := (ye_at_app.mp h).2
  rw [show p - ((ye_ky d).length : Int) + (ye_ky d).length = p by omega] at this
  exact this
set_option maxRecDepth 100000 in
theorem ye_nd.in {T : Int → Int} {p : Int} {d : ye_N} {es : List ye_E} (h : ye_nd T p d es) : ye_su T (p + (ye_op d).length) (ye_nest d) es := (ye_at_app.mp h.op).2
set_option maxRecDepth 100000 in
theorem ye_pl {T : Int → Int} (hT : yp_T6 T) {k0 : Int} {st : List Int} (a : Bool) (ha : a = decide (k0 = 6)) : ∀ (m : Nat) (es : List ye_E), es.length ≤ m → ∀ (f : Bool) (p n : Int) (j F : Nat), ye_wf (k0 :: st) es → ye_su T p f es → 0 ≤ p → 0 ≤ n → n + es.length ≤ 900 → es.length ≤ 40 → m + 1 ≤ F →
    (match ye_nth es 0 j with
    | none => yp_pl T a (n + j) F n p = some (-1)
    | some (d, es') => ∃ q, yp_pl T a (n + j) F n p = some q ∧ ye_nd T q d es' ∧ p ≤ q - (ye_ky d).length ∧ ye_wf (k0 :: st) (.inl d :: es') ∧ es'.length < es.length) := by
  intro m
  induction m with
  | zero =>
    intro es hm f p n j F hw
    cases es with
    | nil => cases hw
    | cons e es => simp at hm
  | succ m ih =>
    intro es hm f p n j F hw hs p0 n0 nb lb hF
    cases F with
    | zero => omega
    | succ F =>
    cases es with
    | nil => cases hw
    | cons e es =>
      simp only [List.length_cons] at hm nb lb
      cases e with
      | inr k =>
        obtain ⟨hk, hk2, _⟩ := hw
        have hc := ye_su_cl hs
        have hcl := ye_cl_hd hc hk2
        have hp := yp_lt6 hT (k := p) (by omega)
        show yp_pl T a (n + j) (F + 1) n p = some (-1)
        unfold yp_pl
        rw [if_neg (by omega), if_pos]
        subst hk
        rcases hk2 with h6 | h6
        · subst h6
          have : T p = 93 := ye_at_hd hc
          rw [this, ha]
          rfl
        · subst h6
          have : T p = 62 := ye_at_hd hc
          rw [this, ha]
          rfl
      | inl d =>
        have ho := hw.oks
        have hd := ho.1 d (by simp)
        obtain ⟨R, r1, r2, r3⟩ := hw.rest
        obtain ⟨c, l, eo, c1, c2, c3, c4, c5, c6, _⟩ := ye_op_hd hd
        have hkey := hw.2.1
        -- behind the space
        have hb : ∃ p1, (p1 = p ∨ p1 = p + 1) ∧ ye_at T p1 (ye_ky d ++ (ye_op d ++ (ye_pr (ye_nest d) es ++ [0]))) ∧ (if T p = 32 then p + 1 else p) = p1 ∧ T p ≠ 93 ∧ T p ≠ 62 ∧ T p ≠ 0 := by
          cases f with
          | true =>
            have a2 := ye_su_node1 hs
            have h0 : T p = c ∨ T p = 47 := by
              unfold ye_ky at a2
              split at a2
              · rw [eo] at a2
                exact Or.inl (ye_at_hd a2)
              · exact Or.inr (ye_at_hd a2)
            exact ⟨p, Or.inl rfl, a2, if_neg (by omega), by omega, by omega, by omega⟩
          | false =>
            obtain ⟨a1, a2⟩ := ye_su_node hs
            exact ⟨p + 1, Or.inr rfl, a2, if_pos a1, by omega, by omega, by omega⟩
        obtain ⟨p1, hp1, hat, e1, t1, t2, t3⟩ := hb
        have hp := yp_lt6 hT t3
        have lk := ye_ky_len d
        -- the place of the token
        have e2 : (if a = true then p1 else yp_nm T p1 + 1) = p1 + (ye_ky d).length := by
          cases a with
          | true =>
            have k6 : k0 = 6 := of_decide_eq_true ha.symm
            have : d.2.2.2.1 = [] := hkey.2 (by omega)
            rw [lk, if_pos this]
            simp
          | false =>
            have k6 : k0 ≠ 6 := of_decide_eq_false ha.symm
            have h7 : d.2.2.2.1 ≠ [] := by
              intro z
              -- only arrays have parts without a key: then the kind is 7
              have hk7 : k0 = 6 ∨ k0 = 7 := by
                have : ∀ (es : List ye_E) (ks : List Int), ye_wf (ks ++ k0 :: st) es → k0 = 6 ∨ k0 = 7 := by
                  intro es
                  induction es with
                  | nil => intro ks h; exact absurd (show ks ++ k0 :: st = [] from h) (by simp)
                  | cons e es ih2 =>
                    intro ks h
                    cases e with
                    | inl d' =>
                      obtain ⟨_, _, h3⟩ := h
                      cases hn : ye_nest d' with
                      | true => rw [hn] at h3; exact ih2 (d'.1 :: ks) h3
                      | false => rw [hn] at h3; exact ih2 ks h3
                    | inr k' =>
                      cases ks with
                      | nil => obtain ⟨q1, q2, _⟩ := h; omega
                      | cons k'' ks => obtain ⟨_, _, h3⟩ := h; exact ih2 ks h3
                exact this _ [] hw
              rcases hk7 with q | q
              · exact k6 q
              · exact hkey.1 q z
            have hn : ye_nm d.2.2.2.1 := by
              rcases hd.1 with z | z
              · exact absurd z h7
              · exact z
            have ek : ye_ky d = 47 :: (d.2.2.2.1 ++ [32]) := by unfold ye_ky; rw [if_neg h7]
            rw [ek] at hat
            simp only [List.cons_append, List.append_assoc, List.nil_append] at hat
            obtain ⟨_, h1⟩ := ye_at_cons.mp hat
            obtain ⟨_, h3⟩ := ye_at_app.mp h1
            have h32 : T (p1 + 1 + d.2.2.2.1.length) = 32 := ye_at_hd h3
            obtain ⟨nm, _⟩ := ye_name hn hat (by rw [h32]; rfl)
            rw [nm, lk, if_neg h7]
            simp
            omega
        have hop := (ye_at_app.mp hat).2
        have hne : T p ≠ (if a = true then 93 else 62) := by cases a <;> assumption
        cases j with
        | zero =>
          show ∃ q, _
          refine ⟨p1 + (ye_ky d).length, ?_, ?_, by omega, hw, by simp⟩
          · unfold yp_pl
            rw [if_neg (by omega), if_neg hne, if_pos (by simp), e1, e2]
          · unfold ye_nd
            rw [show p1 + ((ye_ky d).length : Int) - (ye_ky d).length = p1 by omega]
            exact hat
        | succ j =>
          have hnth := (ye_nth_rest (i := j) r1).1
          obtain ⟨e, v1, v2, v3, v4⟩ := ye_vend hT.T (p := p1 + (ye_ky d).length) (by omega) hd ho.tl (by omega) hop r1
          have hrec := ih R (by omega) false e (n + 1) j F r2 v2 (by omega) (by omega) (by omega) (by omega) (by omega)
          have estep : yp_pl T a (n + ((j + 1 : Nat) : Int)) (F + 1) n p = yp_pl T a (n + 1 + j) F (n + 1) e := by
            conv => lhs; unfold yp_pl
            rw [if_neg (by omega), if_neg hne, if_neg (by omega), e1, e2, v1]
            show (if -10000 ≤ e ∧ e ≤ 10000 then _ else _) = _
            rw [if_pos (by omega), show n + ((j + 1 : Nat) : Int) = n + 1 + j by omega]
          rw [hnth, estep]
          split
          · next hx => rw [hx] at hrec; exact hrec
          · next d' es' hx =>
            rw [hx] at hrec
            obtain ⟨q, q1, q2, q3, q4, q5⟩ := hrec
            exact ⟨q, q1, q2, by omega, q4, by simp; omega⟩
set_option maxRecDepth 100000 in
/-- partAt on a printed array or dictionary -/
theorem ye_pa {T : Int → Int} (hT : yp_T6 T) {p : Int} {d : ye_N} {es : List ye_E} {st : List Int} (hp : 0 ≤ p) (hd : ye_ok d) (hn : ye_nest d = true) (h : ye_at T p (ye_op d ++ (ye_pr (ye_nest d) es ++ [0]))) (hw : ye_wf (d.1 :: st) es) (hl : es.length ≤ 40) (j : Nat) :
    (match ye_nth es 0 j with
    | none => yp_pa T p j = some (-1)
    | some (d', es') => ∃ q, yp_pa T p j = some q ∧ ye_nd T q d' es' ∧ p < q - (ye_ky d').length ∧ ye_wf (d.1 :: st) (.inl d' :: es') ∧ es'.length < es.length) := by
  have hk : d.1 = 6 ∨ d.1 = 7 := of_decide_eq_true hn
  rw [hn] at h
  obtain ⟨_, hs⟩ := ye_at_app.mp h
  have lo : 1 ≤ (ye_op d).length := by rcases hk with k | k <;> (unfold ye_op; simp [k])
  have key := ye_pl hT (k0 := d.1) (st := st) (decide (d.1 = 6)) rfl 40 es hl true (p + (ye_op d).length) 0 j 60 hw hs (by omega) (by omega) (by omega) hl (by omega)
  have ep : yp_pa T p j = yp_pl T (decide (d.1 = 6)) (0 + j) 60 0 (p + (ye_op d).length) := by
    unfold yp_pa
    rcases hk with k | k
    · have eo : ye_op d = [91] := by unfold ye_op; simp [k]
      rw [eo] at h ⊢
      have h0 : T p = 91 := ye_at_hd h
      rw [if_pos h0, Int.zero_add]
      simp [k]
    · have eo : ye_op d = [60, 60] := by unfold ye_op; simp [k]
      rw [eo] at h ⊢
      have h0 : T p = 60 := ye_at_hd h
      rw [if_neg (by omega), Int.zero_add]
      simp [k]
  rw [ep]
  split
  · next hx => rw [hx] at key; exact key
  · next d' es' hx =>
    rw [hx] at key
    obtain ⟨q, q1, q2, q3, q4, q5⟩ := key
    exact ⟨q, q1, q2, by omega, q4, q5⟩
