/-! what is printed: its characters, and where its nodes stand -/
set_option maxRecDepth 100000 in
theorem yp_nc_ch {c : Int} (h : yp_nc c = true) : 32 ≤ c ∧ c ≤ 126 := by
  have h : (48 ≤ c ∧ c ≤ 57) ∨ (97 ≤ c ∧ c ≤ 122) ∨ (65 ≤ c ∧ c ≤ 90) := of_decide_eq_true h
  omega
set_option maxRecDepth 100000 in
theorem yp_wc_ch {c : Int} (h : yp_wc c = true) : 32 ≤ c ∧ c ≤ 126 := by
  have h : c = 45 ∨ (48 ≤ c ∧ c ≤ 57) ∨ (97 ≤ c ∧ c ≤ 122) ∨ (65 ≤ c ∧ c ≤ 90) := of_decide_eq_true h
  omega
set_option maxRecDepth 100000 in
theorem ye_esc_ch : ∀ (l : List Int), (∀ c ∈ l, 32 ≤ c ∧ c ≤ 126) → ∀ c ∈ ye_esc l, 32 ≤ c ∧ c ≤ 126
  | [], _, c, hc => by simp [ye_esc] at hc
  | a :: l, h, c, hc => by
    rw [ye_esc_cons] at hc
    rcases List.mem_append.mp hc with e | e
    · have ha := h a (by simp)
      split at e
      · simp at e; omega
      · simp at e; omega
    · exact ye_esc_ch l (fun c hc => h c (by simp [hc])) c e
set_option maxRecDepth 100000 in
theorem ye_op_ch {d : ye_N} (h : ye_ok d) : ∀ c ∈ ye_op d, 32 ≤ c ∧ c ≤ 126 := by
  intro c hc
  obtain ⟨h1, h2⟩ := h
  unfold ye_op at hc
  rcases h2 with (k | k | k | k | k) | ⟨k, h2⟩ | ⟨k, h2⟩ | ⟨k, h2, h3⟩ | ⟨k, h2, h3, h4, h5⟩
  · simp [k] at hc
    omega
  · simp [k] at hc
    omega
  · simp [k] at hc
    omega
  · simp [k] at hc
    omega
  · simp [k] at hc
    omega
  · simp [k] at hc
    exact yp_wc_ch (ye_num_wc _ h2 c hc)
  · simp [k] at hc
    rcases hc with e | e
    · omega
    · exact yp_nc_ch (h2.2.2 c e)
  · simp [k] at hc
    rcases hc with e | e | e
    · omega
    · exact ye_esc_ch _ h3 c e
    · omega
  · simp [k] at hc
    omega
set_option maxRecDepth 100000 in
theorem ye_pr_ch : ∀ (es : List ye_E) (f : Bool), ye_oks es → ∀ c ∈ ye_pr f es, 32 ≤ c ∧ c ≤ 126
  | [], _, _, c, hc => by simp [ye_pr] at hc
  | .inl d :: es, f, ho, c, hc => by
    have hd := ho.1 d (by simp)
    have e : ye_pr f (.inl d :: es) = (if f = true then [] else [32]) ++ (ye_ky d ++ (ye_op d ++ ye_pr (ye_nest d) es)) := rfl
    rw [e] at hc
    rcases List.mem_append.mp hc with h | h
    · cases f with
      | true => simp at h
      | false => simp at h; omega
    rcases List.mem_append.mp h with h | h
    · unfold ye_ky at h
      by_cases z0 : d.2.2.2.1 = []
      · rw [if_pos z0] at h
        cases h
      · rw [if_neg z0] at h
        rcases hd.1 with z | z
        · exact absurd z z0
        · simp at h
          rcases h with h | h | h
          · omega
          · exact yp_nc_ch (z.2.2 c h)
          · omega
    rcases List.mem_append.mp h with h | h
    · exact ye_op_ch hd c h
    · exact ye_pr_ch es _ ho.tl c h
  | .inr k :: es, f, ho, c, hc => by
    have e : ye_pr f (.inr k :: es) = ye_cl k ++ ye_pr false es := rfl
    rw [e] at hc
    rcases List.mem_append.mp hc with h | h
    · unfold ye_cl at h
      split at h
      · simp at h; omega
      · simp at h; omega
    · exact ye_pr_ch es _ ho.tl c h
set_option maxRecDepth 100000 in
/-- a text's end is its first 0 -/
theorem ye_end2 {T : Int → Int} {p q : Int} {a b : List Int} (ha : ye_at T p (a ++ [0])) (hb : ye_at T q (b ++ [0])) (na : ∀ c ∈ a, c ≠ 0) (nb : ∀ c ∈ b, c ≠ 0) (h1 : p ≤ q) (h2 : q ≤ p + a.length) : q + b.length = p + a.length := by
  obtain ⟨a1, a2⟩ := ye_at_app.mp ha
  obtain ⟨b1, b2⟩ := ye_at_app.mp hb
  have za := ye_at_hd a2
  have zb := ye_at_hd b2
  have get : ∀ (l : List Int) (i : Nat), i < l.length → l.getD i 0 ∈ l := fun l i hi => by
    rw [List.getD_eq_getElem?_getD, List.getElem?_eq_getElem hi]
    exact List.getElem_mem hi
  rcases Int.lt_trichotomy (q + b.length) (p + a.length) with h | h | h
  · exfalso
    have e := a1 (q + b.length - p).toNat (by omega)
    rw [show p + (((q + (b.length : Int) - p).toNat : Nat) : Int) = q + b.length by omega, zb] at e
    exact na _ (get a _ (by omega)) e.symm
  · exact h
  · exfalso
    have e := b1 (p + a.length - q).toNat (by omega)
    rw [show q + (((p + (a.length : Int) - q).toNat : Nat) : Int) = p + a.length by omega, za] at e
    exact nb _ (get b _ (by omega)) e.symm
set_option maxRecDepth 100000 in
/-- where a node's text stands -/
theorem yob_place {s : zq_S} {o : Nat} {es0 pre es : List ye_E} {d : ye_N} {q : Int} (b5 : zq_i s 240 o = (ye_pr true es0).length) (b6 : yrow s 241 (500 * o) (ye_pr true es0)) (hok : ye_oks es0) (e : es0 = pre ++ .inl d :: es) (h0 : 0 ≤ q) (h : ye_at (ym_c s (10 + o)) q (ye_op d ++ (ye_pr (ye_nest d) es ++ [0]))) : q = ((ye_pr true (pre ++ [.inl d])).length : Int) - (ye_op d).length := by
  have hsu := yob_su b5 b6
  have hd : ye_ok d := hok.1 d (by rw [e]; simp)
  have hes : ye_oks es := ⟨fun d' h' => hok.1 d' (by rw [e]; simp [h']), fun k hk => hok.2 k (by rw [e]; simp [hk])⟩
  have n1 : ∀ c ∈ ye_pr true es0, c ≠ 0 := fun c hc => by have := ye_pr_ch _ _ hok c hc; omega
  have n2 : ∀ c ∈ ye_op d ++ ye_pr (ye_nest d) es, c ≠ 0 := fun c hc => by
    rcases List.mem_append.mp hc with h | h
    · have := ye_op_ch hd c h; omega
    · have := ye_pr_ch _ _ hes c h; omega
  have hq : q ≤ 0 + ((ye_pr true es0).length : Int) := by
    obtain ⟨c, l, ec, _⟩ := ye_op_hd hd
    have hc0 := n2 c (by rw [ec]; simp)
    have hh := h
    rw [ec] at hh
    have hh := ye_at_hd hh
    refine Decidable.byContradiction fun z => ?_
    have : ym_c s (10 + o) q = 0 := by
      unfold ym_c
      rw [if_neg (by omega), if_neg (by omega), if_neg (by omega), if_neg (by omega), if_neg (by omega), show (10 : Int) + (o : Int) - 10 = o by omega, if_neg (by rw [b5]; omega)]
    rw [this] at hh
    exact hc0 hh.symm
  have h' : ye_at (ym_c s (10 + o)) q ((ye_op d ++ ye_pr (ye_nest d) es) ++ [0]) := by rw [List.append_assoc]; exact h
  have := ye_end2 hsu h' n1 n2 h0 hq
  rw [e, ye_pr_cut] at this
  rw [ye_pr_cut pre [] d]
  have e0 : ye_pr (ye_nest d) [] = [] := rfl
  rw [e0]
  simp only [List.length_append, List.length_nil] at this ⊢
  omega
set_option maxRecDepth 100000 in
/-- an object of the table, or the null of the reference 0 -/
theorem yI.obj {s : zq_S} {dr fl : List Int} {ev : Nat → List ye_E} {ct : Nat → List Int} {F t : Nat} (hI : yI s (dr, fl, ev, ct, F, t)) {o : Nat} (h1 : o ≤ 9) (h3 : o ≠ 0 → zq_i s 237 o = 1) : ∃ tr, ycu s t o = some tr ∧ (zq_o 4 tr ∧ 29 ≤ tr ∧ tr + 6 ≤ 231) ∧ yt_tr s tr 0 0 (ev o) ∧ yv (ev o) ∧ zq_i s 240 o = (ye_pr true (ev o)).length ∧ yrow s 241 (500 * o) (ye_pr true (ev o)) := by
  obtain ⟨a1, a2, a3, a4, a5, a6, a7, a8⟩ := hI
  have f2 : t = 27 ∨ t = 126 := a2.2.1
  have a4 : yI_tab s t ev ct := a4
  have a6 : ev 0 = [.inl ye_null] := a6
  by_cases ho : o = 0
  · subst ho
    rw [a6]
    obtain ⟨c1, c2, c3⟩ := a3
    refine ⟨t + 2, by unfold ycu; rw [if_pos rfl], ?_, ?_, yv_null, a7.1, ?_⟩
    · rcases f2 with z | z
      · subst z; exact ⟨by decide +kernel, by decide, by decide⟩
      · subst z; exact ⟨by decide +kernel, by decide, by decide⟩
    · rcases f2 with z | z
      · subst z; exact c2
      · subst z; exact c3
    · exact a7.2.1
  · obtain ⟨d1, d2, d3, d4, d5, d6⟩ := a4 o (by omega) h1
    obtain ⟨⟨tr, e1, e2⟩, e3, e4, e5, e6, e7⟩ := d6 (by rw [d2]; exact h3 ho)
    obtain ⟨tr', k1, k2, k3⟩ := yI_tre.slot a3 f2 (by omega) h1
    have htt : tr' = tr := Option.some.inj (k1.symm.trans e1)
    subst htt
    have := yk_tree k2 k3
    exact ⟨tr', by unfold ycu; rw [if_neg ho]; exact e1, ⟨k2, by omega, by omega⟩, e2, e3, e4, e5⟩
set_option maxRecDepth 100000 in
theorem ye_nth_split : ∀ {es : List ye_E} {n i : Nat} {d' : ye_N} {es' : List ye_E}, ye_nth es n i = some (d', es') → ∃ mid, es = mid ++ .inl d' :: es'
  | [], _, _, _, _, h => by cases h
  | .inl d :: es, 0, 0, d', es', h => by
    have h : some (d, es) = some (d', es') := h
    cases h
    exact ⟨[], rfl⟩
  | .inl d :: es, 0, i + 1, d', es', h => by
    have h : ye_nth es (if ye_nest d = true then 1 else 0) i = some (d', es') := h
    obtain ⟨mid, e⟩ := ye_nth_split h
    exact ⟨.inl d :: mid, by rw [e]; rfl⟩
  | .inl d :: es, n + 1, i, d', es', h => by
    have h : ye_nth es (if ye_nest d = true then n + 2 else n + 1) i = some (d', es') := h
    obtain ⟨mid, e⟩ := ye_nth_split h
    exact ⟨.inl d :: mid, by rw [e]; rfl⟩
  | .inr k :: es, 0, _, _, _, h => by cases h
  | .inr k :: es, n + 1, i, d', es', h => by
    have h : ye_nth es n i = some (d', es') := h
    obtain ⟨mid, e⟩ := ye_nth_split h
    exact ⟨.inr k :: mid, by rw [e]; rfl⟩
set_option maxRecDepth 100000 in
theorem yr_many_app2 (a b : List ye_E) : yr_many (a ++ b) = yr_many a + yr_many b := by
  unfold yr_many
  rw [List.filter_append, List.length_append]
set_option maxRecDepth 100000 in
theorem ym_I.j {s : zq_S} (h : ym_I s) {j : Int} (x : Int) (hj : j ∉ [1, 3, 5, 23]) : ym_I (zq_si s 232 j x) := by
  obtain ⟨h1, h2, h3, h4, h5⟩ := h
  simp at hj
  refine ⟨?_, ?_, ?_, ?_, fun o o1 o2 => ?_⟩
  · rw [zq_i_si, if_neg (fun z => hj.1 z.2.symm)]; exact h1
  · rw [zq_i_si, if_neg (fun z => hj.2.1 z.2.symm)]; exact h2
  · rw [zq_i_si, if_neg (fun z => hj.2.2.1 z.2.symm)]; exact h3
  · rw [zq_i_si, if_neg (fun z => hj.2.2.2 z.2.symm)]; exact h4
  · rw [zq_i_si, if_neg (fun z => absurd z.1 (by decide))]; exact h5 o o1 o2
set_option maxRecDepth 100000 in
theorem ym_I.cong {s s' : zq_S} (h : ym_I s) (h1 : ∀ j ∈ [1, 3, 5, 23], zq_i s' 232 j = zq_i s 232 j) (h2 : zq_i s' 240 = zq_i s 240) : ym_I s' := by
  unfold ym_I
  rw [h1 1 (by simp), h1 3 (by simp), h1 5 (by simp), h1 23 (by simp), h2]
  exact h
