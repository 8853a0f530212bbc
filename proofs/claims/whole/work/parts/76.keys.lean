/-! the reference reads: what its fields hold of the abstract state; close, keyThere -/
def ymr (s : zq_S) (S : yr_S) : Prop := zq_i s 232 25 = S.1 ∧ zq_i s 232 26 = -1 ∧ zq_i s 232 27 = yr_many S.2.1 ∧ zq_i s 232 28 = (ye_dm (0, 0) S.2.1).2 ∧ zq_i s 232 29 = S.2.2.1.length ∧ zq_i s 232 32 = (if S.2.2.2 = none then 0 else 1) ∧ (∀ (i : Nat) k n ks, S.2.2.1[i]? = some (k, n, ks) → zq_i s 246 (S.2.2.1.length - i) = k ∧ zq_i s 247 (S.2.2.1.length - i) = (n : Nat)) ∧ zq_i s 232 33 = (yr_en S.2.2.1).length ∧ (∀ (i : Nat) dp w, (yr_en S.2.2.1)[i]? = some (dp, w) → zq_i s 249 i = dp ∧ ye_nm w ∧ ∃ a b, yr_made S = a ++ (47 :: (w ++ (32 :: b))) ∧ zq_i s 248 i = (a.length : Nat)) ∧ ymd s (yr_made S)
/-- the fields and rows that reading changes -/
abbrev ymr_J : List Int := [23, 25, 26, 27, 28, 29, 32, 33]
abbrev ymr_A : List Nat := [245, 246, 247, 248, 249]
set_option maxRecDepth 100000 in
theorem yr_en_dp : ∀ (st : List (Int × Nat × List (List Int))) (i : Nat) dp w, (yr_en st)[i]? = some (dp, w) → 1 ≤ dp ∧ dp ≤ st.length
  | [], i, dp, w, h => by cases h
  | (k, n, ks) :: st, i, dp, w, h => by
    have e : yr_en ((k, n, ks) :: st) = yr_en st ++ ks.map (fun w => (((st.length + 1 : Nat) : Int), w)) := rfl
    rw [e] at h
    by_cases hi : i < (yr_en st).length
    · rw [List.getElem?_append_left hi] at h
      have := yr_en_dp st i dp w h
      simp
      omega
    · rw [List.getElem?_append_right (by omega), List.getElem?_map] at h
      cases hk : ks[i - (yr_en st).length]? with
      | none => rw [hk] at h; cases h
      | some w' =>
        rw [hk] at h
        cases h
        simp
        omega
section YRM
variable {X : Nat × (Nat → Int32)}
set_option maxRecDepth 100000 in
/-- close: the keys of the innermost one go, it is no more open -/
theorem ys_151 {K : zq_S → Prop} {o : Nat} (ho : 1 ≤ o ∧ o ≤ 8) : ∀ (m : Nat) (s : zq_S) (n0 : Nat), zq_i s 232 29 = o → zq_i s 232 33 = ((n0 + m : Nat) : Int) → n0 + m ≤ 16 → (∀ i : Nat, n0 ≤ i → i < n0 + m → zq_i s 249 i = o) → (0 < n0 → zq_i s 249 ((n0 - 1 : Nat) : Int) ≠ o) → (∀ s', ymf [29, 33] [] s s' → zq_i s' 232 29 = (o : Int) - 1 → zq_i s' 232 33 = (n0 : Nat) → K s') → zq_Ex X 151 0 [.ref 232] [] s (zq_rv K) := by
  intro m
  induction m with
  | zero =>
    intro s n0 h1 h2 h3 h4 h5 k
    have fin : zq_iv (zq_i s 232 29 - 1) ∧ K (zq_si s 232 29 (zq_i s 232 29 - 1)) := by
      refine ⟨⟨by omega, by omega⟩, k _ (ymf.sf (by simp)) ?_ ?_⟩
      · rw [zq_i_si, if_pos ⟨rfl, rfl⟩, h1]
      · rw [zq_i_si, if_neg (by decide), h2]
        rfl
    refine zw_151 ?_
    split
    · exact fin
    · next h =>
      have e : zq_i s 232 33 - 1 = ((n0 - 1 : Nat) : Int) := by rw [h2]; omega
      refine ⟨⟨by omega, by omega⟩, ?_⟩
      rw [e, h1, if_neg (h5 (by omega))]
      rw [h1] at fin
      exact fin
  | succ m ih =>
    intro s n0 h1 h2 h3 h4 h5 k
    refine zw_151 ?_
    rw [if_neg (by omega)]
    have e : zq_i s 232 33 - 1 = ((n0 + m : Nat) : Int) := by rw [h2]; omega
    refine ⟨⟨by omega, by omega⟩, ?_⟩
    rw [e, h1, h4 (n0 + m) (by omega) (by omega), if_pos rfl]
    refine ⟨⟨by omega, by omega⟩, ?_⟩
    have f0 : ymf [29, 33] [] s (zq_si s 232 33 ((n0 + m : Nat) : Int)) := ymf.sf (by simp)
    refine ih _ n0 ?_ ?_ (by omega) (fun i hi1 hi2 => ?_) (fun h => ?_) (fun s' f a b => k s' (f0.trans f) a b)
    · rw [zq_i_si, if_neg (by decide)]; exact h1
    · rw [zq_i_si, if_pos ⟨rfl, rfl⟩]
    · rw [zq_i_si, if_neg (by simp)]; exact h4 i hi1 (by omega)
    · rw [zq_i_si, if_neg (by simp)]; exact h5 h
set_option maxRecDepth 100000 in
/-- the made text, read as a text -/
theorem ymd_at {s : zq_S} {l a b r : List Int} (hm : ymd s l) (hl : l = a ++ (b ++ r)) : ye_at (ym_c s 3) a.length b := by
  intro i hi
  have h1 := hm.2 (a.length + i) (by rw [hl]; simp; omega)
  unfold ym_c
  rw [if_neg (by omega), if_neg (by decide), if_neg (by decide), if_neg (by decide), if_pos rfl, if_pos (by rw [hm.1, hl]; simp; omega)]
  rw [show (a.length : Int) + (i : Int) = ((a.length + i : Nat) : Int) by omega, h1, hl]
  simp [List.getD_eq_getElem?_getD, List.getElem?_append_right, List.getElem?_append_left hi]
set_option maxRecDepth 100000 in
theorem ys_156_72 {s : zq_S} {K : Int → zq_S → Prop} (hI : ym_I s) {q p : Int} (hq : ym_q q) (p0 : 0 ≤ p) (p1 : p ≤ 1000) {l a b w w' : List Int} (hm : ymd s l) (hl7 : l.length ≤ 700) (hla : l = a ++ (47 :: (w' ++ (32 :: b)))) (hat : ye_at (ym_c s q) p (47 :: w)) (hlen : w.length = w'.length) {t : Bool} {j : Nat} (hj : j < 16) (hpos : zq_i s 248 j = (a.length : Nat)) (k : ∀ v6 v7 : Value, v6.category = 1 → v7.category = 1 → zq_Ex X 156 15 [.ref 232, zq_vi q, zq_vi p, zq_vi ((47 :: w).length : Nat), zq_vi (yb (t || decide (w = w'))), zq_vi (j + 1), v6, v7] [] s (zq_rp zq_bo K)) : ∀ (m i : Nat), i + m = (47 :: w).length → (∀ c : Nat, c < i → (47 :: w).getD c 0 = (47 :: w').getD c 0) → zq_Ex X 156 72 [.ref 232, zq_vi q, zq_vi p, zq_vi ((47 :: w).length : Nat), zq_vi (yb t), zq_vi j, zq_vi 1, zq_vi i] [] s (zq_rp zq_bo K) := by
  have hp : zq_iv p := ⟨by omega, by omega⟩
  have hw7 : w'.length + a.length + 2 ≤ 700 := by rw [hla] at hl7; simp at hl7; omega
  have hlw : zq_iv (((47 :: w).length : Nat) : Int) := ⟨by omega, by simp; omega⟩
  have hjn : zq_iv (j : Int) := ⟨by omega, by omega⟩
  intro m
  induction m with
  | zero =>
    intro i hi he
    refine zw_156_72 hq.in hp hlw (yb_bo t) hjn (Or.inr rfl) ⟨by omega, by simp at hi; omega⟩ ?_
    rw [if_neg (by omega)]
    have hww : w = w' := by
      have : (47 :: w) = (47 :: w') := by
        apply List.ext_getElem (by simp [hlen])
        intro c c1 c2
        have := he c (by omega)
        rw [List.getD_eq_getElem?_getD, List.getD_eq_getElem?_getD, List.getElem?_eq_getElem c1, List.getElem?_eq_getElem c2] at this
        exact this
      exact (List.cons.inj this).2
    have k1 := k (zq_vi 1) (zq_vi i) rfl rfl
    rw [decide_eq_true hww, Bool.or_true] at k1
    refine yb_if (fun ht => ?_) (fun ht => ?_)
    · rw [if_neg (by decide)]; exact k1
    · exact k1
  | succ m ih =>
    intro i hi he
    simp only [List.length_cons] at hi
    refine zw_156_72 hq.in hp hlw (yb_bo t) hjn (Or.inr rfl) ⟨by omega, by omega⟩ ?_
    rw [if_pos (by simp; omega), if_neg (by decide)]
    refine ⟨⟨by omega, by omega⟩, ⟨by rw [hpos]; omega, by rw [hpos]; omega⟩, ?_⟩
    refine ys_147 hI hq ⟨by omega, by omega⟩ ?_
    have e1 := hat i (by simp; omega)
    have e2 : zq_i s 245 (zq_i s 248 j + i) = (47 :: w').getD i 0 := by
      rw [hpos, show ((a.length : Nat) : Int) + (i : Int) = ((a.length + i : Nat) : Int) by omega, hm.2 _ (by rw [hla]; simp; omega), hla]
      rw [List.getD_eq_getElem?_getD, List.getElem?_append_right (by omega), show a.length + i - a.length = i by omega]
      have : (47 :: (w' ++ 32 :: b)) = (47 :: w') ++ (32 :: b) := rfl
      rw [this, List.getElem?_append_left (by simp; omega), List.getD_eq_getElem?_getD]
    rw [e1, e2]
    split
    · next e3 =>
      refine ih (i + 1) (by simp; omega) (fun c hc => ?_)
      by_cases e4 : c = i
      · rw [e4]; exact e3.symm
      · exact he c (by omega)
    · next e3 =>
      have ne : w ≠ w' := fun z => e3 (by rw [z])
      -- not the same: the loop ends
      refine zw_156_72 hq.in hp hlw (yb_bo t) hjn (Or.inl rfl) ⟨by omega, by omega⟩ ?_
      have k1 : ∀ v6 v7 : Value, v6.category = 1 → v7.category = 1 → zq_Ex X 156 15 [.ref 232, zq_vi q, zq_vi p, zq_vi ((47 :: w).length : Nat), zq_vi (yb t), zq_vi (j + 1), v6, v7] [] s (zq_rp zq_bo K) := fun v6 v7 c6 c7 => by
        have := k v6 v7 c6 c7
        rw [decide_eq_false ne, Bool.or_false] at this
        exact this
      have both : (if yb t = 0 then (if (0 : Int) = 0 then zq_Ex X 156 15 [.ref 232, zq_vi q, zq_vi p, zq_vi ((47 :: w).length : Nat), zq_vi 0, zq_vi (j + 1), zq_vi 0, zq_vi (i + 1)] [] s (zq_rp zq_bo K) else zq_Ex X 156 15 [.ref 232, zq_vi q, zq_vi p, zq_vi ((47 :: w).length : Nat), zq_vi 1, zq_vi (j + 1), zq_vi 0, zq_vi (i + 1)] [] s (zq_rp zq_bo K)) else zq_Ex X 156 15 [.ref 232, zq_vi q, zq_vi p, zq_vi ((47 :: w).length : Nat), zq_vi 1, zq_vi (j + 1), zq_vi 0, zq_vi (i + 1)] [] s (zq_rp zq_bo K)) := by
        refine yb_if (fun ht => ?_) (fun ht => ?_)
        · rw [if_pos rfl]
          have := k1 (zq_vi 0) (zq_vi (i + 1)) rfl rfl
          rw [ht] at this
          exact this
        · have := k1 (zq_vi 0) (zq_vi (i + 1)) rfl rfl
          rw [ht] at this
          exact this
      split
      · rw [if_pos rfl]; exact both
      · exact both
set_option maxRecDepth 100000 in
/-- not the same: on to the next key -/
theorem ys_156_72n {s : zq_S} {K : Int → zq_S → Prop} {q p : Int} (hq : ym_q q) (hp : zq_iv p) {n : Nat} (hn : n ≤ 1000) {t : Bool} {j : Nat} (hj : j < 16) (k : ∀ v6 v7 : Value, v6.category = 1 → v7.category = 1 → zq_Ex X 156 15 [.ref 232, zq_vi q, zq_vi p, zq_vi n, zq_vi (yb t), zq_vi (j + 1), v6, v7] [] s (zq_rp zq_bo K)) : zq_Ex X 156 72 [.ref 232, zq_vi q, zq_vi p, zq_vi n, zq_vi (yb t), zq_vi j, zq_vi 0, zq_vi 0] [] s (zq_rp zq_bo K) := by
  refine zw_156_72 hq.in hp ⟨by omega, by omega⟩ (yb_bo t) ⟨by omega, by omega⟩ (Or.inl rfl) (by decide) ?_
  have both : (if yb t = 0 then (if (0 : Int) = 0 then zq_Ex X 156 15 [.ref 232, zq_vi q, zq_vi p, zq_vi n, zq_vi 0, zq_vi (j + 1), zq_vi 0, zq_vi 0] [] s (zq_rp zq_bo K) else zq_Ex X 156 15 [.ref 232, zq_vi q, zq_vi p, zq_vi n, zq_vi 1, zq_vi (j + 1), zq_vi 0, zq_vi 0] [] s (zq_rp zq_bo K)) else zq_Ex X 156 15 [.ref 232, zq_vi q, zq_vi p, zq_vi n, zq_vi 1, zq_vi (j + 1), zq_vi 0, zq_vi 0] [] s (zq_rp zq_bo K)) := by
    refine yb_if (fun ht => ?_) (fun ht => ?_)
    · rw [if_pos rfl]
      have := k (zq_vi 0) (zq_vi 0) rfl rfl
      rw [ht] at this
      exact this
    · have := k (zq_vi 0) (zq_vi 0) rfl rfl
      rw [ht] at this
      exact this
  split
  · rw [if_pos rfl]; exact both
  · exact both
set_option maxRecDepth 100000 in
theorem ys_156_15 {s : zq_S} {S : yr_S} {K : Int → zq_S → Prop} (hI : ym_I s) {q p : Int} (hq : ym_q q) (p0 : 0 ≤ p) (p1 : p ≤ 1000) (hr : ymr s S) (hok : yr_ok S) {w : List Int} (hw : ye_nm w) (hat : ye_at (ym_c s q) p (47 :: w)) : ∀ (m j : Nat) (t : Bool) (v6 v7 : Value), v6.category = 1 → v7.category = 1 → j + m = (yr_en S.2.2.1).length → K (yb (t || ((yr_en S.2.2.1).drop j).any (fun e => decide (e.1 = (S.2.2.1.length : Nat) ∧ w = e.2)))) s → zq_Ex X 156 15 [.ref 232, zq_vi q, zq_vi p, zq_vi ((47 :: w).length : Nat), zq_vi (yb t), zq_vi j, v6, v7] [] s (zq_rp zq_bo K) := by
  obtain ⟨r1, r2, r3, r4, r5, r6, r7, r8, r9, r10⟩ := hr
  have hml := yr_made_len hok
  have hp : zq_iv p := ⟨by omega, by omega⟩
  have hlw : (47 :: w).length ≤ 7 := by have := hw.2.1; simp; omega
  have hen : (yr_en S.2.2.1).length ≤ 13 := by
    have h1 := hok.2.2.2.2.2.2.1
    have h2 := hok.2.2.2.2.1.2
    split at h1 <;> omega
  have hst := hok.2.2.2.2.1.1
  intro m
  induction m with
  | zero =>
    intro j t v6 v7 c6 c7 hj k
    refine zw_156_15 hq.in hp ⟨by omega, by omega⟩ (yb_bo t) ⟨by omega, by omega⟩ c6 c7 ?_
    rw [if_neg (by omega)]
    rw [List.drop_eq_nil_of_le (by omega)] at k
    simpa using k
  | succ m ih =>
    intro j t v6 v7 c6 c7 hj k
    have hlt : j < (yr_en S.2.2.1).length := by omega
    generalize he : (yr_en S.2.2.1)[j] = q0
    obtain ⟨dp, w'⟩ := q0
    have he' : (yr_en S.2.2.1)[j]? = some (dp, w') := by rw [List.getElem?_eq_getElem hlt, he]
    obtain ⟨e1, e2, a, b, e3, e4⟩ := r9 j dp w' he'
    rw [List.drop_eq_getElem_cons hlt, he, List.any_cons] at k
    refine zw_156_15 hq.in hp ⟨by omega, by omega⟩ (yb_bo t) ⟨by omega, by omega⟩ c6 c7 ?_
    rw [if_pos (by omega)]
    refine ⟨⟨by omega, by omega⟩, ?_⟩
    rw [e1, r5]
    have next : ∀ t' : Bool, (t' = (t || decide (dp = (S.2.2.1.length : Nat) ∧ w = w'))) → ∀ v6 v7 : Value, v6.category = 1 → v7.category = 1 → zq_Ex X 156 15 [.ref 232, zq_vi q, zq_vi p, zq_vi ((47 :: w).length : Nat), zq_vi (yb t'), zq_vi (j + 1), v6, v7] [] s (zq_rp zq_bo K) := fun t' ht' v6 v7 c6 c7 => by
      refine ih (j + 1) t' v6 v7 c6 c7 (by omega) ?_
      rw [ht', Bool.or_assoc]
      exact k
    split
    · next hdp =>
      have hal : a.length + w'.length + 2 ≤ 453 := by
        have := congrArg List.length e3
        simp at this
        omega
      refine ⟨⟨by omega, by omega⟩, ?_⟩
      rw [e4]
      have hat3 : ye_at (ym_c s 3) (a.length : Nat) (47 :: (w' ++ [32])) := ymd_at (r := b) r10 (by rw [e3]; simp)
      obtain ⟨_, h2⟩ := ye_at_cons.mp hat3
      obtain ⟨_, h3⟩ := ye_at_app.mp h2
      have h32 := ye_at_hd h3
      obtain ⟨nm, _⟩ := ye_name e2 hat3 (by rw [h32]; rfl)
      refine ys_153 hI ⟨by decide, by decide, by decide⟩ (by omega) (by omega) ?_
      rw [nm, e4]
      refine ⟨⟨by omega, by omega⟩, ⟨by omega, by omega⟩, ?_⟩
      split
      · next hlen =>
        have hlen : w.length = w'.length := by simp at hlen; omega
        refine ys_156_72 hI hq p0 p1 r10 (by omega) e3 hat hlen (by omega) e4 (next _ ?_) (47 :: w).length 0 (by omega) (fun c hc => by omega)
        rw [show decide (dp = (S.2.2.1.length : Nat) ∧ w = w') = decide (w = w') by simp [hdp]]
      · next hlen =>
        refine ys_156_72n hq hp (by omega) (by omega) (next t ?_)
        have : ¬ (dp = (S.2.2.1.length : Nat) ∧ w = w') := fun z => hlen (by rw [z.2]; simp; omega)
        rw [decide_eq_false this, Bool.or_false]
    · next hdp =>
      refine ys_156_72n hq hp (by omega) (by omega) (next t ?_)
      have : ¬ (dp = (S.2.2.1.length : Nat) ∧ w = w') := fun z => hdp z.1
      rw [decide_eq_false this, Bool.or_false]
set_option maxRecDepth 100000 in
/-- which keys count: those of the innermost one -/
theorem yr_any {k : Int} {n : Nat} {ks : List (List Int)} {st : List (Int × Nat × List (List Int))} {w : List Int} : (yr_en ((k, n, ks) :: st)).any (fun e => decide (e.1 = (((k, n, ks) :: st).length : Nat) ∧ w = e.2)) = decide (w ∈ ks) := by
  have e : yr_en ((k, n, ks) :: st) = yr_en st ++ ks.map (fun w => (((st.length + 1 : Nat) : Int), w)) := rfl
  rw [e, List.any_append]
  have h1 : (yr_en st).any (fun e => decide (e.1 = (((k, n, ks) :: st).length : Nat) ∧ w = e.2)) = false := by
    rw [List.any_eq_false]
    intro q hq
    obtain ⟨i, hi, he⟩ := List.getElem_of_mem hq
    have := yr_en_dp st i q.1 q.2 (by rw [List.getElem?_eq_getElem hi, he])
    simp
    intro z
    omega
  rw [h1, Bool.false_or]
  induction ks with
  | nil => rfl
  | cons w' ks ih =>
    simp only [List.map_cons, List.any_cons, List.mem_cons]
    have ih' : (ks.map (fun w => (((st.length + 1 : Nat) : Int), w))).any (fun e => decide (e.1 = (((k, n, w' :: ks) :: st).length : Nat) ∧ w = e.2)) = decide (w ∈ ks) := ih rfl h1
    rw [ih']
    simp [Bool.decide_or]
set_option maxRecDepth 100000 in
theorem ys_156 {s : zq_S} {S : yr_S} {K : Int → zq_S → Prop} (hI : ym_I s) {q p : Int} (hq : ym_q q) (p0 : 0 ≤ p) (p1 : p < 1000) (hr : ymr s S) (hok : yr_ok S) {k : Int} {n : Nat} {ks : List (List Int)} {st : List (Int × Nat × List (List Int))} (hs : S.2.2.1 = (k, n, ks) :: st) (hn : yp_isN (ym_c s q) p = true) (kk : K (yb (decide (yr_name (ym_c s q) p ∈ ks))) s) : zq_Ex X 156 0 [.ref 232, zq_vi q, zq_vi p, zz_no, zz_no, zz_no, zz_no, zz_no] [] s (zq_rp zq_bo K) := by
  obtain ⟨hw, hlen⟩ := yr_name_ok hn
  have hn1 := of_decide_eq_true hn
  have hsub : ∀ (m : Nat) (p : Int), ye_at (ym_c s q) p (yp_sub (ym_c s q) m p) := by
    intro m
    induction m with
    | zero => intro p; exact ye_at_nil _ _
    | succ m ih => intro p; exact ye_at_cons.mpr ⟨rfl, ih (p + 1)⟩
  have hat : ye_at (ym_c s q) p (47 :: yr_name (ym_c s q) p) := ye_at_cons.mpr ⟨hn1.1, hsub _ _⟩
  refine zw_156 hq.in ⟨by omega, by omega⟩ (ys_153 hI hq (by omega) p1 ?_)
  rw [hlen, show p + 1 + ((yr_name (ym_c s q) p).length : Int) - p = (((47 :: yr_name (ym_c s q) p).length : Nat) : Int) by simp; omega]
  refine ys_156_15 hI hq p0 (by omega) hr hok hw hat (yr_en S.2.2.1).length 0 false _ _ rfl rfl (by omega) ?_
  rw [List.drop_zero, Bool.false_or, hs, yr_any]
  exact kk
end YRM
