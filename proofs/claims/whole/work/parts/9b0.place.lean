/-! where the cursor stands, on both sides -/
set_option maxRecDepth 100000 in
theorem ye_wf_split : ∀ {pre es : List ye_E} {st : List Int}, ye_wf st (pre ++ es) → ∃ st', ye_wf st' es ∧ st'.length ≤ st.length + yr_many pre ∧ (∀ m : Int, (ye_dm ((st.length : Int), m) pre).1 = st'.length) ∧ ye_wfp st pre st'
  | [], es, st, h => ⟨st, h, by simp [yr_many], fun _ => rfl, rfl⟩
  | .inl d :: pre, es, st, h => by
    obtain ⟨h1, h2, h3⟩ := h
    obtain ⟨st', g1, g2, g3, g4⟩ := ye_wf_split (pre := pre) h3
    refine ⟨st', g1, ?_, fun m => ?_, h1, ?_, g4⟩
    · have e : yr_many (.inl d :: pre) = yr_many pre + 1 := rfl
      have e2 : (if ye_nest d = true then d.1 :: st else st).length ≤ st.length + 1 := by split <;> simp
      rw [e]
      omega
    · have e : ye_dm ((st.length : Int), m) (.inl d :: pre) = ye_dm (if ye_nest d = true then (st.length : Int) + 1 else st.length, if (st.length : Int) + 1 ≤ m then m else (st.length : Int) + 1) pre := rfl
      rw [e, ← g3 (if (st.length : Int) + 1 ≤ m then m else (st.length : Int) + 1)]
      congr 2
      cases ye_nest d <;> simp
    · unfold ye_kc
      cases st <;> exact h2
  | .inr k :: pre, es, [], h => by cases h
  | .inr k :: pre, es, k0 :: st, h => by
    obtain ⟨h1, h2, h3⟩ := h
    obtain ⟨st', g1, g2, g3, g4⟩ := ye_wf_split (pre := pre) h3
    refine ⟨st', g1, ?_, fun m => ?_, h1, h2, g4⟩
    · have e : yr_many (.inr k :: pre) = yr_many pre := rfl
      rw [e]
      simp
      omega
    · have e : ye_dm (((k0 :: st).length : Int), m) (.inr k :: pre) = ye_dm (((k0 :: st).length : Int) - 1, m) pre := rfl
      rw [e, ← g3 m]
      congr 2
      simp
set_option maxRecDepth 100000 in
theorem yt_tr.split {s : zq_S} {a : Nat} {pre es : List ye_E} (h : yt_tr s a 0 0 (pre ++ es)) : yt_tr s a (yr_many pre) (ye_dm (0, 0) pre).1 es := by
  obtain ⟨h1, h2, h3, h4⟩ := h
  rw [ye_nl_app pre es 0 0] at h1 h2
  rw [List.length_append, ye_nl_len pre] at h1
  refine ⟨by omega, fun i l d hi => ?_, by omega, h4⟩
  have := h2 (yr_many pre + i) l d (by rw [List.getElem?_append_right (by rw [ye_nl_len]; omega), ye_nl_len, Nat.add_sub_cancel_left]; exact hi)
  rw [show (0 : Int) + ((yr_many pre + i : Nat) : Int) = (yr_many pre : Int) + i by omega] at this
  exact this
