/-! what the invariant says of the cursor -/
set_option maxRecDepth 100000 in
theorem ye_wf_len : ∀ {es : List ye_E} {st : List Int}, ye_wf st es → es.length ≤ 2 * yr_many es + st.length
  | [], st, h => by simp
  | .inl d :: es, st, h => by
    obtain ⟨h1, h2, h3⟩ := h
    have ih := ye_wf_len h3
    have e : yr_many (.inl d :: es) = yr_many es + 1 := rfl
    have e2 : (if ye_nest d = true then d.1 :: st else st).length ≤ st.length + 1 := by split <;> simp
    rw [e, List.length_cons]
    omega
  | .inr k :: es, [], h => by cases h
  | .inr k :: es, k0 :: st, h => by
    obtain ⟨h1, h2, h3⟩ := h
    have ih := ye_wf_len h3
    have e : yr_many (.inr k :: es) = yr_many es := rfl
    rw [e, List.length_cons, List.length_cons]
    omega
set_option maxRecDepth 100000 in
theorem yv_null : yv [.inl ye_null] := by
  refine ⟨⟨ye_null, [], rfl, rfl⟩, ⟨⟨Or.inl rfl, Or.inl (Or.inl rfl)⟩, rfl, rfl⟩, by decide, by decide, trivial⟩
/-- what stands at the cursor: object, tree, node, level, open kinds -/
def ycp (s : zq_S) (t : Nat) (ev : Nat → List ye_E) (o tr : Nat) (pre : List ye_E) (d : ye_N) (es : List ye_E) (l : Int) (st : List Int) : Prop := (o ≤ 9 ∧ zq_i s 232 19 = o ∧ zq_r s 3 0 = some tr ∧ zq_r s 3 0 = ycu s t o ∧ (o ≠ 0 → zq_i s 237 o = 1)) ∧ (zq_o 4 tr ∧ 29 ≤ tr ∧ tr + 6 ≤ 231) ∧ ev o = pre ++ .inl d :: es ∧ yv (ev o) ∧ zq_i s 3 1 = yr_many pre ∧ yt_tr s tr (yr_many pre) l (.inl d :: es) ∧ (0 ≤ l ∧ l ≤ 100) ∧ ye_wf st (.inl d :: es) ∧ ye_nd (ym_c s (10 + o)) (zq_i s 232 20) d es ∧ (0 ≤ zq_i s 232 20 ∧ zq_i s 232 20 ≤ 500) ∧ (pre ++ .inl d :: es).length ≤ 40 ∧ zq_i s 232 20 = ((ye_pr true (pre ++ [.inl d])).length : Int) - (ye_op d).length ∧ yp_T6 (ym_c s (10 + o))
set_option maxRecDepth 100000 in
theorem yI.cp {s : zq_S} {dr fl : List Int} {ev : Nat → List ye_E} {ct : Nat → List Int} {F t : Nat} (hI : yI s (dr, fl, ev, ct, F, t)) : (zq_i s 232 19 = -1 ∧ zq_r s 3 0 = none) ∨ ∃ o tr pre d es l st, ycp s t ev o tr pre d es l st := by
  obtain ⟨a1, a2, a3, a4, a5, a6, a7, a8⟩ := hI
  have f2 : t = 27 ∨ t = 126 := a2.2.1
  have a4 : yI_tab s t ev ct := a4
  have a5 : yI_cur s t ev := a5
  have a6 : ev 0 = [.inl ye_null] := a6
  rcases a5 with h | ⟨o, pre, d, es, h1, h2, h3, h4, h5, h6, h7⟩
  · exact Or.inl h
  · right
    have hob : ∃ tr, ycu s t o = some tr ∧ (zq_o 4 tr ∧ 29 ≤ tr ∧ tr + 6 ≤ 231) ∧ yt_tr s tr 0 0 (ev o) ∧ yv (ev o) ∧ zq_i s 240 o = (ye_pr true (ev o)).length ∧ yrow s 241 (500 * o) (ye_pr true (ev o)) := by
      by_cases ho : o = 0
      · subst ho
        rw [a6]
        obtain ⟨c1, c2, c3⟩ := a3
        refine ⟨t + 2, by unfold ycu; rw [if_pos rfl], ?_, ?_, yv_null, a7.1, ?_⟩
        · rcases f2 with z | z
          · subst z; exact ⟨by decide +kernel, by decide, by decide⟩
          · subst z; exact ⟨by decide +kernel, by decide, by decide⟩
        · rcases f2 with z | z
          · subst z; exact c2
          · subst z; exact c3
        · exact a7.2.1
      · obtain ⟨d1, d2, d3, d4, d5, d6⟩ := a4 o (by omega) h1
        obtain ⟨⟨tr, e1, e2⟩, e3, e4, e5, e6, e7⟩ := d6 (by rw [d2]; exact h3 ho)
        obtain ⟨tr', k1, k2, k3⟩ := yI_tre.slot a3 f2 (by omega) h1
        have htt : tr' = tr := Option.some.inj (k1.symm.trans e1)
        subst htt
        have := yk_tree k2 k3
        exact ⟨tr', by unfold ycu; rw [if_neg ho]; exact e1, ⟨k2, by omega, by omega⟩, e2, e3, e4, e5⟩
    obtain ⟨tr, b1, b2, b3, b4, b5, b6⟩ := hob
    have hev := b4
    obtain ⟨⟨d0, es0, g1, g2⟩, g3, g4, g5, g6⟩ := b4
    have hsu := yob_su b5 b6
    have h500 := a8.2.2.2.2 o (by omega) (by omega)
    have hT6 : yp_T6 (ym_c s (10 + o)) := fun j hj => by
      unfold ym_c
      rw [if_neg (by omega), if_neg (by omega), if_neg (by omega), if_neg (by omega), if_neg (by omega), if_neg (by rw [show (10 : Int) + (o : Int) - 10 = o by omega]; omega)]
    rw [h5] at g3 b3 hsu b5
    have hlen : (pre ++ .inl d :: es).length ≤ 40 := by
      have := ye_wf_len g3
      rw [h5] at g4
      simp only [List.length_nil] at this
      omega
    obtain ⟨st, s1, s2, s3, s4⟩ := ye_wf_split g3
    have hmany : yr_many pre ≤ 12 := by
      have := b3.split.1
      have := b3.2.2.2
      omega
    have hl := s3 0
    simp only [List.length_nil] at hl s2
    have hl : (ye_dm (0, 0) pre).1 = st.length := hl
    have e8 : pre ++ .inl d :: es = (pre ++ [.inl d]) ++ es := by simp
    have e9 : ye_fl true (pre ++ [.inl d]) = ye_nest d := by rw [ye_fl_app]; rfl
    have e10 : ye_pr true (pre ++ .inl d :: es) = ye_pr true (pre ++ [.inl d]) ++ ye_pr (ye_nest d) es := by rw [e8, ye_pr_app, e9]
    have e11 : ye_pr true (pre ++ [.inl d]) = (ye_pr true pre ++ (if ye_fl true pre = true then [] else [32])) ++ (ye_ky d ++ ye_op d) := by
      rw [ye_pr_app]
      show _ ++ ((if ye_fl true pre = true then [] else [32]) ++ (ye_ky d ++ (ye_op d ++ []))) = _
      simp
    have hnd : ye_nd (ym_c s (10 + o)) (zq_i s 232 20) d es ∧ 0 ≤ zq_i s 232 20 ∧ zq_i s 232 20 ≤ 500 := by
      unfold ye_su at hsu
      rw [e10, e11] at hsu
      have h9 : ye_at (ym_c s (10 + o)) 0 ((ye_pr true pre ++ (if ye_fl true pre = true then [] else [32])) ++ (ye_ky d ++ (ye_op d ++ (ye_pr (ye_nest d) es ++ [0])))) := by
        simpa [List.append_assoc] using hsu
      have h10 := (ye_at_app.mp h9).2
      rw [e11] at h7
      rw [e10, e11] at b5
      simp only [List.length_append] at h7 b5
      refine ⟨?_, by omega, by omega⟩
      unfold ye_nd
      rw [show zq_i s 232 20 - ((ye_ky d).length : Int) = 0 + ((ye_pr true pre ++ (if ye_fl true pre = true then [] else [32])).length : Nat) by rw [h7, List.length_append]; omega]
      exact h10
    refine ⟨o, tr, pre, d, es, (ye_dm (0, 0) pre).1, st, ⟨h1, h2, h4.trans b1, h4, h3⟩, b2, h5, hev, h6, b3.split, ⟨by omega, by omega⟩, s1, hnd.1, hnd.2, hlen, h7, hT6⟩
