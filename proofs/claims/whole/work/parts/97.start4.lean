/-! the fresh state's picture, and the law up to its loop (2) -/
set_option maxRecDepth 100000 in
theorem zf_row {a tg m : Nat} (ha : a < 259) (hk : zq_k a = (1, tg, m)) : ∃ xs : List Int32, zf_ds[a]? = some (.inl (tg, m, xs)) ∧ tg < 3 ∧ xs.length ≤ m ∧ (tg = 1 → ∀ x ∈ xs, zq_ch x.toInt) ∧ (tg = 2 → ∀ x ∈ xs, zq_bo x.toInt) := by
  have h := zf_ok1_at ha
  unfold zf_ok1 at h
  rw [hk] at h
  cases hd : zf_ds[a]? with
  | none => rw [hd] at h; cases h
  | some d =>
    rw [hd] at h
    rcases d with ⟨t, n, xs⟩ | ⟨n, xs⟩ | ⟨c, fs⟩
    · have h : (decide (t = tg ∧ n = m ∧ tg < 3 ∧ xs.length ≤ n) && xs.all (fun x => (tg != 1 || (decide (0 ≤ x.toInt) && decide (x.toInt < 65536))) && (tg != 2 || decide (x.toInt = 0) || decide (x.toInt = 1)))) = true := h
      rw [Bool.and_eq_true] at h
      obtain ⟨e1, e2, e3, e4⟩ := of_decide_eq_true h.1
      have h2 := List.all_eq_true.mp h.2
      subst e1
      subst e2
      refine ⟨xs, rfl, e3, e4, fun z x hx => ?_, fun z x hx => ?_⟩
      · have := h2 x hx
        subst z
        simpa using this
      · have := h2 x hx
        subst z
        simpa using this
    · cases h
    · cases h
set_option maxRecDepth 100000 in
theorem zf_lrow {a tg m : Nat} (ha : a < 259) (hk : zq_k a = (2, tg, m)) : ∃ xs : List Int32, zf_ds[a]? = some (.inl (3, m, xs)) := by
  have h := zf_ok1_at ha
  unfold zf_ok1 at h
  rw [hk] at h
  cases hd : zf_ds[a]? with
  | none => rw [hd] at h; cases h
  | some d =>
    rw [hd] at h
    rcases d with ⟨t, n, xs⟩ | ⟨n, xs⟩ | ⟨c, fs⟩
    · have h : decide (t = 3 ∧ tg = 3 ∧ n = m) = true := h
      obtain ⟨e1, e2, e3⟩ := of_decide_eq_true h
      exact ⟨xs, by rw [e1, e3]⟩
    · cases h
    · cases h
set_option maxRecDepth 100000 in
theorem zf_srow {a tg m : Nat} (ha : a < 259) (hk : zq_k a = (3, tg, m)) : ∃ xs : List (Option Nat), zf_ds[a]? = some (.inr (.inl (m, xs))) ∧ ∀ j, j < m → xs.getD j none = some (a + 8 + 10 * j) := by
  have h := zf_ok1_at ha
  unfold zf_ok1 at h
  rw [hk] at h
  cases hd : zf_ds[a]? with
  | none => rw [hd] at h; cases h
  | some d =>
    rw [hd] at h
    rcases d with ⟨t, n, xs⟩ | ⟨n, xs⟩ | ⟨c, fs⟩
    · cases h
    · have h : (decide (n = m) && (List.range n).all (fun j => decide (xs.getD j none = some (a + 8 + 10 * j)))) = true := h
      rw [Bool.and_eq_true] at h
      have e1 := of_decide_eq_true h.1
      subst e1
      exact ⟨xs, rfl, fun j hj => of_decide_eq_true (List.all_eq_true.mp h.2 j (List.mem_range.mpr hj))⟩
    · cases h
set_option maxRecDepth 100000 in
theorem zf_obj {a ci : Nat} (ha : a < 259) (hk : zq_o ci a) : zf_ds[a]? = some (.inr (.inr (ci, (List.range (zq_nf ci)).map (zq_fv zf_s ci a)))) ∧ ∀ k, k < zq_nf ci → (zq_ft ci k = 1 → zq_bo (zq_i zf_s a k)) ∧ (∀ b, 10 ≤ zq_ft ci k → zq_ft ci k < 100 → zq_r zf_s a k = some b → zq_o (zq_ft ci k - 10) b) := by
  have h := zf_ok1_at ha
  unfold zf_ok1 at h
  rw [hk] at h
  cases hd : zf_ds[a]? with
  | none => rw [hd] at h; cases h
  | some d =>
    rw [hd] at h
    rcases d with ⟨t, n, xs⟩ | ⟨n, xs⟩ | ⟨c, fs⟩
    · cases h
    · cases h
    · have h : (decide (c = ci ∧ fs = (List.range (zq_nf ci)).map (zq_fv zf_s ci a)) && (List.range (zq_nf ci)).all (fun k => (zq_ft ci k != 1 || decide (zq_i zf_s a k = 0) || decide (zq_i zf_s a k = 1)) && (!(decide (10 ≤ zq_ft ci k) && decide (zq_ft ci k < 100)) || (match zq_r zf_s a k with
        | none => true
        | some b => decide (zq_o (zq_ft ci k - 10) b))))) = true := h
      rw [Bool.and_eq_true] at h
      obtain ⟨e1, e2⟩ := of_decide_eq_true h.1
      refine ⟨by rw [e1, e2], fun k hk => ?_⟩
      have h2 := List.all_eq_true.mp h.2 k (List.mem_range.mpr hk)
      rw [Bool.and_eq_true] at h2
      refine ⟨fun z => ?_, fun b b1 b2 b3 => ?_⟩
      · have h3 := h2.1
        rw [z] at h3
        simpa using h3
      · have h3 := h2.2
        rw [b3] at h3
        simpa [b1, b2] using h3
set_option maxRecDepth 100000 in
theorem zf_ft_lt {ci k : Nat} (h : zq_ft ci k ≠ 0) : k < zq_nf ci := by
  apply Decidable.byContradiction
  intro hn
  refine h ?_
  unfold zq_ft
  unfold zq_nf at hn
  rw [List.getD_eq_getElem?_getD, List.getElem?_eq_none (by omega)]
  rfl
set_option maxRecDepth 100000 in
theorem zf_i_row {a tg m : Nat} {xs : List Int32} (hd : zf_ds[a]? = some (.inl (tg, m, xs))) (j : Int) : zf_i a j = 0 ∨ ∃ x ∈ xs, zf_i a j = x.toInt := by
  unfold zf_i
  rw [hd]
  by_cases h : j < 0
  · rw [if_pos h]
    exact Or.inl rfl
  · rw [if_neg h]
    show (xs.getD j.toNat 0).toInt = 0 ∨ ∃ x ∈ xs, (xs.getD j.toNat 0).toInt = x.toInt
    by_cases hj : j.toNat < xs.length
    · right
      refine ⟨xs[j.toNat], List.getElem_mem hj, ?_⟩
      rw [List.getD_eq_getElem?_getD, List.getElem?_eq_getElem hj]
      rfl
    · left
      rw [List.getD_eq_getElem?_getD, List.getElem?_eq_none (by omega)]
      rfl
set_option maxRecDepth 100000 in
theorem zf_R : zq_R zf_s := by
  refine ⟨fun a j => ?_, fun a n j hk => ?_, fun a n j hk => ?_, fun a ci k hk hf => ?_, fun a ci k b hk h1 h2 h3 => ?_⟩
  · show zq_iv (zf_i a j)
    unfold zf_i
    split
    · exact ⟨by decide, by decide⟩
    · split
      · exact zq_in32 _
      · split
        · exact zq_in32 _
        · exact ⟨by decide, by decide⟩
      · exact ⟨by decide, by decide⟩
  · rcases zf_k_lt hk (by decide) with h | h
    · obtain ⟨xs, e1, _, _, e4, _⟩ := zf_row h hk
      rcases zf_i_row e1 j with z | ⟨x, hx, z⟩
      · show zq_ch (zf_i a j)
        rw [z]; exact ⟨by decide, by decide⟩
      · show zq_ch (zf_i a j)
        rw [z]; exact e4 rfl x hx
    · omega
  · rcases zf_k_lt hk (by decide) with h | h
    · obtain ⟨xs, e1, _, _, _, e5⟩ := zf_row h hk
      rcases zf_i_row e1 j with z | ⟨x, hx, z⟩
      · show zq_bo (zf_i a j)
        rw [z]; exact Or.inl rfl
      · show zq_bo (zf_i a j)
        rw [z]; exact e5 rfl x hx
    · omega
  · rcases zf_k_lt hk (by decide) with h | h
    · exact ((zf_obj h hk).2 k (zf_ft_lt (by omega))).1 hf
    · omega
  · rcases zf_k_lt hk (by decide) with h | h
    · exact ((zf_obj h hk).2 k (zf_ft_lt (by omega))).2 b h1 h2 h3
    · omega
set_option maxRecDepth 100000 in
theorem zf_pic {h2 : zz_H} {o : Outcome} {bc bs : Nat} (hb : zf_b = some (o, h2, bc, bs)) (hi : zf_is h2 zf_ds = true) : zq_pic (h2 ++ [zz_blank 3 1]) zf_s := by
  have hl : h2.length = 259 := (zf_is_len hi).trans zf_len
  have hg : ∀ a, a < 259 → (h2 ++ [zz_blank 3 1])[a]? = h2[a]? := fun a ha => List.getElem?_append_left (by omega)
  refine ⟨zf_R, by rw [List.length_append, hl]; rfl, fun z => absurd z (by decide), fun a ci hk => ?_, fun a tg n hk => ?_, fun a tg n hk => ?_, fun a tg n hk => ?_⟩
  · rcases zf_k_lt hk (by decide) with h | h
    · obtain ⟨e, e1, e2⟩ := zf_is_at hi a _ (zf_obj h hk).1
      rw [hg a h, e1]
      rcases e with ⟨t, n, f | f | f | f | f⟩ | ⟨c, fs⟩
      · cases e2
      · cases e2
      · cases e2
      · cases e2
      · cases e2
      · have e2 : decide (c = ci ∧ fs = (List.range (zq_nf ci)).map (zq_fv zf_s ci a)) = true := e2
        obtain ⟨z1, z2⟩ := of_decide_eq_true e2
        rw [z1, z2]
    · omega
  · rcases zf_k_lt hk (by decide) with h | h
    · obtain ⟨xs, d1, d2, d3, _, _⟩ := zf_row h hk
      obtain ⟨e, e1, e2⟩ := zf_is_at hi a _ d1
      have e3 := zf_kd_at hb h e1
      rw [hk] at e3
      rw [hg a h, e1]
      rcases e with ⟨t, m, f | f | f⟩ | ⟨c, fs⟩
      · have e2 : (decide (t = tg ∧ m = n ∧ xs.length ≤ m) && (List.range m).all (fun j => decide (f j = xs.getD j 0))) = true := e2
        rw [Bool.and_eq_true] at e2
        obtain ⟨z1, z2, z3⟩ := of_decide_eq_true e2.1
        subst z1
        subst z2
        refine ⟨f, rfl, fun j hj => ?_⟩
        rw [of_decide_eq_true (List.all_eq_true.mp e2.2 j (List.mem_range.mpr hj))]
        have : zq_i zf_s a (j : Nat) = (xs.getD j 0).toInt := by
          show zf_i a (j : Nat) = _
          unfold zf_i
          rw [if_neg (by omega), d1]
          rfl
        rw [this, zq_of32]
      · cases e3
      · cases e3
      · cases e3
    · omega
  · rcases zf_k_lt hk (by decide) with h | h
    · obtain ⟨xs, d1⟩ := zf_lrow h hk
      obtain ⟨e, e1, e2⟩ := zf_is_at hi a _ d1
      have e3 := zf_kd_at hb h e1
      rw [hk] at e3
      rw [hg a h, e1]
      rcases e with ⟨t, m, f | f | f⟩ | ⟨c, fs⟩
      · cases e3
      · have e2 : (decide (t = 3 ∧ m = n) && (List.range m).all (fun j => decide (f j = 0))) = true := e2
        rw [Bool.and_eq_true] at e2
        obtain ⟨z1, z2⟩ := of_decide_eq_true e2.1
        subst z1
        subst z2
        exact ⟨f, rfl, fun j hj => of_decide_eq_true (List.all_eq_true.mp e2.2 j (List.mem_range.mpr hj))⟩
      · cases e3
      · cases e3
    · obtain ⟨z1, z2, z3, z4⟩ := h
      subst z1
      subst z4
      refine ⟨fun _ => 0, ?_, fun j hj => rfl⟩
      rw [List.getElem?_append_right (by omega), hl]
      rfl
  · rcases zf_k_lt hk (by decide) with h | h
    · obtain ⟨xs, d1, d2⟩ := zf_srow h hk
      obtain ⟨e, e1, e2⟩ := zf_is_at hi a _ d1
      rw [hg a h, e1]
      rcases e with ⟨t, m, f | f | f | f | f⟩ | ⟨c, fs⟩
      · cases e2
      · cases e2
      · cases e2
      · cases e2
      · have e2 : (decide (t = 4 ∧ m = n) && (List.range m).all (fun j => decide (f j = xs.getD j none))) = true := e2
        rw [Bool.and_eq_true] at e2
        obtain ⟨z1, z2⟩ := of_decide_eq_true e2.1
        subst z1
        subst z2
        refine ⟨f, rfl, fun j hj => ?_⟩
        rw [of_decide_eq_true (List.all_eq_true.mp e2.2 j (List.mem_range.mpr hj))]
        exact d2 j hj
      · cases e2
    · omega

set_option maxRecDepth 100000 in
theorem zr_newo {X : Nat × (Nat → Int32)} {M pc n ci sl : Nat} {idx : _} {L st : List Value} {h : zz_H} {bc bs : Nat} (hc : zz_cod zt_Z M pc = some (.new idx, n, [ci, sl])) (hb : 1 ≤ bc ∧ sl ≤ bs ∧ h.length < zz_SB) : zr_to zt_Z X M (pc, L, st, h, bc, bs) (pc + 3, L, .ref h.length :: st, h ++ [.inr (ci, zz_new zt_Z ci)], bc - 1, bs - sl) := zr_one_ok (by
  have e : zz_st2 zt_Z X (.new idx) [ci, sl] pc st h bc bs = some (pc + 3, .ref h.length :: st, h ++ [.inr (ci, zz_new zt_Z ci)], bc - 1, bs - sl) := if_pos hb
  unfold zr_one
  simp only [hc]
  show (match zz_st2 zt_Z X (.new idx) [ci, sl] pc st h bc bs with
        | none => none
        | some (pc', st', h', bc', bs') => some (pc', L, st', h', bc', bs')) = _
  rw [e])
set_option maxRecDepth 100000 in
theorem zr_newl {X : Nat × (Nat → Int32)} {M pc n : Nat} {idx : _} {L t : List Value} {h : zz_H} {bc bs : Nat} (hc : zz_cod zt_Z M pc = some (.newarray idx, n, [3])) (hb : 1 ≤ bc ∧ 1 ≤ bs ∧ h.length < zz_SB) : zr_to zt_Z X M (pc, L, .int 1 :: t, h, bc, bs) (pc + 2, L, .ref h.length :: t, h ++ [zz_blank 3 1], bc - 1, bs - 1) := zr_one_ok (by
  have e : zz_st2 zt_Z X (.newarray idx) [3] pc (.int 1 :: t) h bc bs = some (pc + 2, .ref h.length :: t, h ++ [zz_blank 3 1], bc - 1, bs - 1) := if_pos ⟨by decide, hb.1, hb.2.1, by decide, hb.2.2, by decide⟩
  unfold zr_one
  simp only [hc]
  show (match zz_st2 zt_Z X (.newarray idx) [3] pc (.int 1 :: t) h bc bs with
        | none => none
        | some (pc', st', h', bc', bs') => some (pc', L, st', h', bc', bs')) = _
  rw [e])
set_option maxRecDepth 100000 in
/-- the law's run up to its loop -/
theorem zf_start {X : Nat × (Nat → Int32)} {Q : Outcome → zq_S → Prop} (h : zq_Ex X 0 23 [.ref zz_SC, .ref 0, .ref 232, .ref 259, zq_vi 0, zz_no, zz_no] [] zf_s Q) : ∃ o h' s', zr_ex zt_Z X 0 (0, zz_ent 7 [.ref zz_SC], [], [], 601024, 7293034) (o, h', zq_bc s', zq_bs s') ∧ Q o s' := by
  obtain ⟨h1, b1, s1, h2, ha, ⟨l1, hb1, hs1⟩, h3, hi⟩ := zf_get
  have hb : zf_b = some (.returned none, h2, 600765, 7271436) := by
    unfold zf_b
    rw [ha]
    show (if ¬ (h1.length = 232 ∧ 1 ≤ b1 ∧ 52 ≤ s1) then none else _) = _
    rw [if_neg (fun z => z ⟨l1, hb1, hs1⟩)]
    exact h3
  have hl : h2.length = 259 := (zf_is_len hi).trans zf_len
  obtain ⟨o, h', s', e, _, q⟩ := h (h2 ++ [zz_blank 3 1]) (zf_pic hb hi)
  refine ⟨o, h', s', ?_, q⟩
  refine (zr_run_ok 2 (c' := (4, zz_ent 7 [.ref zz_SC], [.ref 0, .ref 0], [.inr (0, zz_new zt_Z 0)], 601024 - 1, 7293034 - 13)) rfl).ex ?_
  have ha' : zn_ex zt_Z 3000 1 0 (zz_ent (zz_mxl zt_Z 1) [.ref 0]) [] [.inr (0, zz_new zt_Z 0)] (601024 - 1) (7293034 - 13) = some (.returned none, h1, b1, s1) := ha
  refine (zr_call (i := .invokespecial 70) (n := 3) (r := [1, 1, 0, 2, 0]) rfl rfl rfl (of_decide_eq_false rfl) ⟨3000, zn_ok X _ _ _ _ _ _ _ _ _ ha'⟩).ex ?_
  refine (zr_run_ok 1 (c' := (8, [.ref zz_SC, .ref 0, zz_no, zz_no, zz_no, zz_no, zz_no], [], h1, b1, s1)) rfl).ex ?_
  refine (zr_newo (idx := 71) (n := 3) (ci := 9) (sl := 52) rfl ⟨hb1, hs1, by rw [l1]; decide⟩).ex ?_
  rw [l1]
  refine (zr_run_ok 1 (c' := (12, [.ref zz_SC, .ref 0, zz_no, zz_no, zz_no, zz_no, zz_no], [.ref 232, .ref 232], h1 ++ [.inr (9, zz_new zt_Z 9)], b1 - 1, s1 - 52)) rfl).ex ?_
  have hav : zz_av [.ref 232, .ref 232] [1, 139, 0, 2, 9] (h1 ++ [.inr (9, zz_new zt_Z 9)]) = some (139, [.ref 232], [.ref 232]) := by
    have e1 : (h1 ++ [(.inr (9, zz_new zt_Z 9) : va_E)])[232]? = some (.inr (9, zz_new zt_Z 9)) := by
      rw [List.getElem?_append_right (by omega), l1]
      rfl
    exact zr_avs rfl e1
  refine (zr_call (i := .invokespecial 73) (n := 3) (r := [1, 139, 0, 2, 9]) rfl rfl hav (of_decide_eq_false rfl) ⟨3000, zn_ok X _ _ _ _ _ _ _ _ _ h3⟩).ex ?_
  refine (zr_run_ok 2 (c' := (17, [.ref zz_SC, .ref 0, .ref 232, zz_no, zz_no, zz_no, zz_no], [.int 1], h2, 600765, 7271436)) rfl).ex ?_
  refine (zr_newl (n := 2) rfl ⟨by decide, by decide, by rw [hl]; decide⟩).ex ?_
  rw [hl]
  refine (zr_run_ok 3 (c' := (23, [.ref zz_SC, .ref 0, .ref 232, .ref 259, zq_vi 0, zz_no, zz_no], [], h2 ++ [zz_blank 3 1], 600764, 7271435)) rfl).ex ?_
  exact e
set_option maxRecDepth 100000 in
theorem zf_pure (h : ∀ (L : Nat) (xs : Nat → Int32), L ≤ 1536 → zq_Ex (L, xs) 0 23 [.ref zz_SC, .ref 0, .ref 232, .ref 259, zq_vi 0, zz_no, zz_no] [] zf_s (zq_rp zq_bo fun x _ => x = 1)) : zt_Pure := by
  intro L xs hL
  obtain ⟨o, h', s', ⟨f, e⟩, x, q1, _, q2⟩ := zf_start (h L xs hL)
  subst q2
  exact ⟨f, h', zq_bc s', zq_bs s', by rw [e, q1]; rfl⟩
