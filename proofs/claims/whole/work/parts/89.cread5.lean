/-! the class reads: closings, keys, and all of it -/
set_option maxRecDepth 100000 in
theorem yq_c6 : zq_str 5 = [93] := by decide +kernel
set_option maxRecDepth 100000 in
theorem yq_c7 : zq_str 6 = [62, 62] := by decide +kernel
set_option maxRecDepth 100000 in
theorem ye_wfp.ok : ∀ {es : List ye_E} {st st' : List Int}, ye_wfp st es st' → ∀ d, Sum.inl d ∈ es → ye_ok d
  | [], _, _, _, d, h => by cases h
  | .inl d0 :: es, st, st', h, d, hd => by
    rcases List.mem_cons.mp hd with e | e
    · cases e; exact h.1
    · exact ye_wfp.ok h.2.2 d e
  | .inr k :: es, [], st', h, d, hd => by cases h
  | .inr k :: es, k0 :: st, st', h, d, hd => by
    rcases List.mem_cons.mp hd with e | e
    · cases e
    · exact ye_wfp.ok h.2.2 d e
set_option maxRecDepth 100000 in
theorem ye_nl_mem : ∀ (es : List ye_E) (l : Int) (q : Int × ye_N), q ∈ ye_nl l es → Sum.inl q.2 ∈ es
  | [], _, _, h => by cases h
  | .inl d :: es, l, q, h => by
    rcases List.mem_cons.mp h with e | e
    · rw [e]; simp
    · exact List.mem_cons_of_mem _ (ye_nl_mem es _ q e)
  | .inr k :: es, l, q, h => List.mem_cons_of_mem _ (ye_nl_mem es _ q h)
/-- the class's state while reading -/
def ycr (s : zq_S) (R a t : Nat) (S : yr_S) (os : List Nat) : Prop := zq_r s R 0 = some a ∧ zq_r s R 1 = some t ∧ zq_i s R 3 = S.2.2.1.length ∧ zq_l s R 4 = ye_pk (S.2.2.2.getD []) 0 ∧ zq_i s R 5 = S.1 ∧ os.length = S.2.2.1.length ∧ (∀ (i : Nat) o, os[i]? = some o → zq_i s (R + 1) (S.2.2.1.length - 1 - i) = (o : Nat)) ∧ zq_i s t 0 = (yr_many S.2.1 : Nat) ∧ yt_ns s t 0 (ye_nl 0 S.2.1) ∧ yr_fr S.2.1 S.2.2.1 S.2.2.2 os
set_option maxRecDepth 100000 in
theorem ycr.tr {s : zq_S} {R a t : Nat} {S : yr_S} {os : List Nat} (h : ycr s R a t S os) (hok : yr_ok S) : yt_tr s t 0 0 (S.2.1 ++ yr_cl S.2.2.1) := by
  have e : ye_nl 0 (S.2.1 ++ yr_cl S.2.2.1) = ye_nl 0 S.2.1 := by rw [ye_nl_app _ _ 0 0, ye_nl_cl, List.append_nil]
  have h12 := hok.2.2.2.2.1.2
  obtain ⟨_, _, _, _, _, _, _, h8, h9, _⟩ := h
  refine ⟨?_, ?_, by decide, by rw [h8]; omega⟩
  · rw [e, ye_nl_len, h8]; omega
  · rw [e]; exact h9
set_option maxRecDepth 100000 in
/-- a node more -/
theorem yt_ns_add {s s' : zq_S} {t : Nat} {es : List ye_E} {d : ye_N} {lev : Int} {st st' : List Int} (hw : ye_wfp st es st') (h : yt_ns s t 0 (ye_nl 0 es)) (ho : yt_old s s' t (yr_many es : Nat)) (hn : yt_nd s' t (yr_many es : Nat) lev d) (hl : (ye_dm (0, 0) es).1 = lev) : yt_ns s' t 0 (ye_nl 0 (es ++ [.inl d])) := by
  have e : ye_nl 0 (es ++ [.inl d]) = ye_nl 0 es ++ [(lev, d)] := by rw [ye_nl_app _ _ 0 0, hl]; rfl
  rw [e]
  intro i l' d' hi
  by_cases hlt : i < (ye_nl 0 es).length
  · rw [List.getElem?_append_left hlt] at hi
    have h1 := h i l' d' hi
    have hm := ye_nl_mem es 0 (l', d') (List.mem_of_getElem? hi)
    rw [ye_nl_len] at hlt
    exact h1.old ho (ye_wfp.ok hw d' hm) (by omega) (by omega)
  · have hie : i = (ye_nl 0 es).length := by
      have := (List.getElem?_eq_some_iff.mp hi).1
      simp at this
      omega
    subst hie
    rw [List.getElem?_append_right (Nat.le_refl _), Nat.sub_self] at hi
    cases hi
    rw [ye_nl_len, Int.zero_add]
    exact hn
section YCD
variable {X : Nat × (Nat → Int32)} {s : zq_S} {R a t : Nat}
set_option maxRecDepth 100000 in
/-- the innermost open node's kind -/
theorem ys_48t {K : Int → zq_S → Prop} {S : yr_S} {os : List Nat} (ht : zq_o 4 t) (h : ycr s R a t S os) (hok : yr_ok S) {k : Int} {n : Nat} {ks : List (List Int)} {st : List (Int × Nat × List (List Int))} (hs : S.2.2.1 = (k, n, ks) :: st) (kk : K k s) : zq_Ex X 48 0 [.ref t, zq_vi (zq_i s (R + 1) (zq_i s R 3 - 1))] [] s (zq_rp zq_iv K) := by
  have htr := h.tr hok
  obtain ⟨h1, h2, h3, h4, h5, h6, h7, h8, h9, h10⟩ := h
  have hk : k = 6 ∨ k = 7 := hok.2.2.2.2.2.2.2.1 (k, n, ks) (by rw [hs]; simp)
  have hlen : S.2.2.1.length = st.length + 1 := by rw [hs]; rfl
  rw [hs] at h10 htr
  have hlev := hok.2.2.1
  rw [hs] at hlev
  obtain ⟨d, suf, o, os', e1, e2, e3, e4, e5, _⟩ := yr_fr_top h10 hk hlev htr
  have e0 := h7 0 o (by rw [e1]; rfl)
  obtain ⟨m1, m2, m3⟩ := e4.node
  have h12 := e4.2.2.2
  have e9 : zq_i s (R + 1) (zq_i s R 3 - 1) = (o : Nat) := by
    rw [h3, ← e0]
    congr 1
    omega
  rw [e9]
  refine ys_48 ht h12 ⟨by omega, by omega⟩ ?_
  rw [if_pos ⟨by omega, m3⟩, m1.1, e2]
  exact kk
set_option maxRecDepth 100000 in
theorem yc_key0 {S : yr_S} (hok : yr_ok S) : ye_pk (S.2.2.2.getD []) 0 = 0 ↔ S.2.2.2 = none := by
  cases hk : S.2.2.2 with
  | none => exact ⟨fun _ => rfl, fun _ => rfl⟩
  | some w => exact ⟨fun z => absurd z (yk_ne0 (hok.2.2.2.2.2.1 w hk).1), fun z => by cases z⟩
/-- what closes -/
def yc_end (T : Int → Int) (p k : Int) : Bool := if k = 6 then decide (T p = 93) else decide (T p = 62 ∧ T (p + 1) = 62)
set_option maxRecDepth 100000 in
/-- takeClosing -/
theorem ys_47 {K : Int → zq_S → Prop} {S : yr_S} {os : List Nat} (hR : zq_o 3 R) (ha : zq_o 1 a) (ht : zq_o 4 t) (h : ycr s R a t S os) (hok : yr_ok S) (ho : yc_ok s a)
    (kf : (∀ k n ks st, S.2.2.1 = (k, n, ks) :: st → S.2.2.2 = none → yc_end (yc_t s a) S.1 k = false) → K 0 s)
    (kk : ∀ k n ks st, S.2.2.1 = (k, n, ks) :: st → S.2.2.2 = none → yc_end (yc_t s a) S.1 k = true → K 1 (zq_si (zq_si s R 5 (S.1 + (if k = 6 then 1 else 2))) R 3 (st.length : Nat))) : zq_Ex X 47 0 [.ref R, zz_no] [] s (zq_rp zq_bo K) := by
  obtain ⟨h1, h2, h3, h4, h5, h6, h7, h8, h9, h10⟩ := id h
  have hl5 := hok.2.2.2.2.1.1
  have hp := hok.1
  refine zw_47 hR ?_
  rw [h3, h4]
  cases hs : S.2.2.1 with
  | nil =>
    rw [if_pos (by simp)]
    exact kf (fun k n ks st e => by rw [hs] at e; cases e)
  | cons q st =>
    obtain ⟨k, n, ks⟩ := q
    have hk : k = 6 ∨ k = 7 := hok.2.2.2.2.2.2.2.1 (k, n, ks) (by rw [hs]; simp)
    have hlen : S.2.2.1.length = st.length + 1 := by rw [hs]; rfl
    have hl : ((((k, n, ks) :: st).length : Nat) : Int) = st.length + 1 := by simp
    rw [if_neg (by omega)]
    by_cases hz : S.2.2.2 = none
    · rw [if_pos ((yc_key0 hok).mpr hz)]
      refine ⟨t, h2, ⟨by omega, by omega⟩, ?_⟩
      rw [← hs, ← h3]
      refine ys_48t ht h hok hs ?_
      rw [h5]
      rcases hk with h6k | h7k
      · subst h6k
        rw [if_pos rfl]
        refine ⟨a, h1, ?_⟩
        refine ys_49 ha ho ⟨by omega, by omega⟩ (by decide) (by rw [yq_c6]; decide) (by rw [yq_c6]; decide) ?_
        rw [yq_c6]
        have eh : yp_has (yc_t s a) [93] S.1 = yc_end (yc_t s a) S.1 6 := by
          unfold yp_has yp_has yc_end
          rw [if_pos rfl, Bool.and_true]
        rw [eh]
        refine yb_if (fun hf => ?_) (fun hf => ?_)
        · exact kf (fun k' n' ks' st' e _ => by rw [hs] at e; cases e; exact hf)
        · have := kk 6 n ks st hs hz hf
          rw [h3, hlen, h5]
          refine ⟨⟨by omega, by omega⟩, ⟨by omega, by omega⟩, ?_⟩
          rw [if_pos rfl] at this
          rw [show ((st.length + 1 : Nat) : Int) - 1 = (st.length : Nat) by omega]
          exact this
      · subst h7k
        rw [if_neg (by decide)]
        refine ⟨a, h1, ?_⟩
        refine ys_49 ha ho ⟨by omega, by omega⟩ (by decide) (by rw [yq_c7]; decide) (by rw [yq_c7]; decide) ?_
        rw [yq_c7]
        have eh : yp_has (yc_t s a) [62, 62] S.1 = yc_end (yc_t s a) S.1 7 := by
          unfold yp_has yp_has yp_has yc_end
          rw [if_neg (by decide), Bool.and_true, ← Bool.decide_and]
        rw [eh]
        refine yb_if (fun hf => ?_) (fun hf => ?_)
        · exact kf (fun k' n' ks' st' e _ => by rw [hs] at e; cases e; exact hf)
        · have := kk 7 n ks st hs hz hf
          rw [h3, hlen, h5]
          refine ⟨⟨by omega, by omega⟩, ⟨by omega, by omega⟩, ?_⟩
          rw [if_neg (by decide)] at this
          rw [show ((st.length + 1 : Nat) : Int) - 1 = (st.length : Nat) by omega]
          exact this
    · rw [if_neg (fun z => hz ((yc_key0 hok).mp z))]
      exact kf (fun k' n' ks' st' e z => absurd z hz)
set_option maxRecDepth 100000 in
/-- wantsKey -/
theorem ys_50 {K : Int → zq_S → Prop} {S : yr_S} {os : List Nat} (hR : zq_o 3 R) (ht : zq_o 4 t) (h : ycr s R a t S os) (hok : yr_ok S)
    (kt : ∀ n ks st, S.2.2.1 = (7, n, ks) :: st → S.2.2.2 = none → K 1 s)
    (kf : (∀ n ks st, S.2.2.1 = (7, n, ks) :: st → S.2.2.2 ≠ none) → K 0 s) : zq_Ex X 50 0 [.ref R] [] s (zq_rp zq_bo K) := by
  obtain ⟨h1, h2, h3, h4, h5, h6, h7, h8, h9, h10⟩ := id h
  have hl5 := hok.2.2.2.2.1.1
  refine zw_50 hR ?_
  rw [h3, h4]
  cases hs : S.2.2.1 with
  | nil =>
    rw [if_pos (by simp)]
    exact kf (fun n ks st e => by rw [hs] at e; cases e)
  | cons q st =>
    obtain ⟨k, n, ks⟩ := q
    have hlen : S.2.2.1.length = st.length + 1 := by rw [hs]; rfl
    have hl : ((((k, n, ks) :: st).length : Nat) : Int) = st.length + 1 := by simp
    rw [if_neg (by omega)]
    by_cases hz : S.2.2.2 = none
    · rw [if_pos ((yc_key0 hok).mpr hz)]
      refine ⟨t, h2, ⟨by omega, by omega⟩, ?_⟩
      rw [← hs, ← h3]
      refine ys_48t ht h hok hs ?_
      split
      · next h7k => subst h7k; exact kt n ks st hs hz
      · next h7k => exact kf (fun n' ks' st' e _ => by rw [hs] at e; cases e; exact h7k rfl)
    · rw [if_neg (fun z => hz ((yc_key0 hok).mp z))]
      exact kf (fun _ _ _ _ => hz)
set_option maxRecDepth 100000 in
/-- takeKey -/
theorem ys_51 {K : Int → zq_S → Prop} {S : yr_S} {os : List Nat} (hR : zq_o 3 R) (ha : zq_o 1 a) (ht : zq_o 4 t) (h : ycr s R a t S os) (hok : yr_ok S) (ho : yc_ok s a) {n : Nat} {ks : List (List Int)} {st : List (Int × Nat × List (List Int))} (hs : S.2.2.1 = (7, n, ks) :: st) (hz : S.2.2.2 = none)
    (kf : ¬ (yp_isN (yc_t s a) S.1 = true ∧ yr_name (yc_t s a) S.1 ∉ ks) → K 0 s)
    (kk : yp_isN (yc_t s a) S.1 = true ∧ yr_name (yc_t s a) S.1 ∉ ks → K 1 (zq_si (zq_sl s R 4 (ye_pk (yr_name (yc_t s a) S.1) 0)) R 5 (yp_nm (yc_t s a) S.1))) : zq_Ex X 51 0 [.ref R, zz_no, zz_no, zz_no] [] s (zq_rp zq_bo K) := by
  have htr := h.tr hok
  obtain ⟨h1, h2, h3, h4, h5, h6, h7, h8, h9, h10⟩ := id h
  have hT := ho.T ha
  have hp := hok.1
  have hl5 := hok.2.2.2.2.1.1
  have hlen : S.2.2.1.length = st.length + 1 := by rw [hs]; rfl
  refine zw_51 hR ⟨a, h1, ?_⟩
  rw [h5]
  refine ys_52 ha ho hp.1 hp.2 ?_
  cases hN : yp_isN (yc_t s a) S.1 with
  | false =>
    simp only [Bool.false_eq_true, if_false]
    rw [if_pos trivial]
    exact kf (fun z => by rw [hN] at z; cases z.1)
  | true =>
    simp only [if_true]
    have hn1 := of_decide_eq_true hN
    obtain ⟨hw, hnl⟩ := yr_name_ok hN
    have p9 := yp_lt hT (k := S.1) (by omega)
    have n2 := yp_nm_lt hT (k := S.1) (by omega)
    rw [if_neg (by omega)]
    refine ⟨a, h1, ?_⟩
    rw [h5]
    have hnz : ∀ j, S.1 + 1 ≤ j → j < yp_nm (yc_t s a) S.1 → yc_t s a j ≠ 0 := fun j j1 j2 z => by
      have := yp_run_all (p := yp_nc) (T := yc_t s a) 2000 (S.1 + 1) j j1 j2
      rw [z] at this
      cases this
    refine ys_54 ha ho (by omega) (by omega) (by omega) hnz ⟨t, h2, ⟨by rw [h3]; omega, by rw [h3]; omega⟩, ?_⟩
    -- the open dictionary
    rw [hs] at h10 htr
    have hlev := hok.2.2.1
    rw [hs] at hlev
    obtain ⟨d, suf, o, os', e1, e2, e3, e4, e5, e6, e7⟩ := yr_fr_top h10 (Or.inr rfl) hlev htr
    have e0 := h7 0 o (by rw [e1]; rfl)
    have e9 : zq_i s (R + 1) (zq_i s R 3 - 1) = (o : Nat) := by
      rw [h3, ← e0]
      congr 1
      omega
    rw [e9]
    have ename : yp_sub (yc_t s a) (yp_nm (yc_t s a) S.1 - (S.1 + 1)).toNat (S.1 + 1) = yr_name (yc_t s a) S.1 := rfl
    rw [ename]
    have hks := (e6 rfl (yr_name (yc_t s a) S.1)).2
    rw [hz] at hks
    simp at hks
    have hfk := (e6 rfl (yr_name (yc_t s a) S.1)).1
    rw [hks] at hfk
    refine ys_55 (nm := yr_name (yc_t s a) S.1) ht e4 (by omega) (by omega) e3 e5 (fun d' hd' => ?_) ?_
    · have : Sum.inl d' ∈ suf := by
        rcases List.mem_append.mp hd' with z | z
        · exact z
        · rcases List.mem_cons.mp z with y | y
          · cases y
          · unfold yr_cl at y
            obtain ⟨q, _, hq⟩ := List.mem_map.mp y
            cases hq
      exact yk_key (ye_wfp.ok hok.2.1 d' (e7 d' this)) hw
    · split
      · next hx =>
        rw [if_pos rfl]
        exact kk ⟨hN, hfk.mp hx⟩
      · next d' es' hx =>
        intro k' hk' hlt
        have := hk'.2.2.1
        rw [if_neg (by omega)]
        exact kf (fun z => by rw [hfk.mpr z.2] at hx; cases hx)
end YCD
