/-! what holds while reading goes on -/
/-- events ahead: from open kinds to open kinds -/
def ye_kc (st : List Int) (d : ye_N) : Prop := match st with
  | [] => d.2.2.2.1 = []
  | k :: _ => (k = 7 → d.2.2.2.1 ≠ []) ∧ (k ≠ 7 → d.2.2.2.1 = [])
def ye_wfp : List Int → List ye_E → List Int → Prop
  | st, [], st' => st = st'
  | st, .inl d :: es, st' => ye_ok d ∧ ye_kc st d ∧ ye_wfp (if ye_nest d = true then d.1 :: st else st) es st'
  | [], .inr _ :: _, _ => False
  | k0 :: st, .inr k :: es, st' => k = k0 ∧ (k = 6 ∨ k = 7) ∧ ye_wfp st es st'
set_option maxRecDepth 100000 in
theorem ye_wfp_app : ∀ {a b : List ye_E} {st st' st'' : List Int}, ye_wfp st a st' → ye_wfp st' b st'' → ye_wfp st (a ++ b) st''
  | [], b, st, st', st'', h1, h2 => by
    have h1 : st = st' := h1
    subst h1
    exact h2
  | .inl d :: a, b, st, st', st'', h1, h2 => ⟨h1.1, h1.2.1, ye_wfp_app h1.2.2 h2⟩
  | .inr k :: a, b, [], st', st'', h1, h2 => by cases h1
  | .inr k :: a, b, k0 :: st, st', st'', h1, h2 => ⟨h1.1, h1.2.1, ye_wfp_app h1.2.2 h2⟩
set_option maxRecDepth 100000 in
theorem ye_wfp_wf : ∀ {es : List ye_E} {st : List Int}, ye_wfp st es [] → ye_wf st es
  | [], st, h => h
  | .inl d :: es, st, h => ⟨h.1, by have := h.2.1; unfold ye_kc at this; cases st <;> exact this, ye_wfp_wf h.2.2⟩
  | .inr k :: es, [], h => by cases h
  | .inr k :: es, k0 :: st, h => ⟨h.1, h.2.1, ye_wfp_wf h.2.2⟩
/-- level and depth behind events -/
def ye_dm : Int × Int → List ye_E → Int × Int
  | q, [] => q
  | q, .inl d :: es => ye_dm (if ye_nest d = true then q.1 + 1 else q.1, if q.1 + 1 ≤ q.2 then q.2 else q.1 + 1) es
  | q, .inr _ :: es => ye_dm (q.1 - 1, q.2) es
set_option maxRecDepth 100000 in
theorem ye_dm_app : ∀ (a b : List ye_E) (q : Int × Int), ye_dm q (a ++ b) = ye_dm (ye_dm q a) b
  | [], _, _ => rfl
  | .inl d :: a, b, q => ye_dm_app a b _
  | .inr k :: a, b, q => ye_dm_app a b _
/-- the keys of all that is open, with their depths -/
def yr_en : List (Int × Nat × List (List Int)) → List (Int × List Int)
  | [] => []
  | (_, _, ks) :: st => yr_en st ++ ks.map (fun w => (((st.length + 1 : Nat) : Int), w))
set_option maxRecDepth 100000 in
theorem yr_en_part (st : List (Int × Nat × List (List Int))) : yr_en (yr_part st) = yr_en st := by
  cases st with
  | nil => rfl
  | cons q st => rfl
set_option maxRecDepth 100000 in
theorem yr_part_len (st : List (Int × Nat × List (List Int))) : (yr_part st).length = st.length := by
  cases st with
  | nil => rfl
  | cons q st => rfl
set_option maxRecDepth 100000 in
theorem yr_part_kinds (st : List (Int × Nat × List (List Int))) : (yr_part st).map Prod.fst = st.map Prod.fst := by
  cases st with
  | nil => rfl
  | cons q st => rfl
def yr_ok (S : yr_S) : Prop := (0 ≤ S.1 ∧ S.1 ≤ 1000) ∧ ye_wfp [] S.2.1 (S.2.2.1.map Prod.fst) ∧ (ye_dm (0, 0) S.2.1).1 = S.2.2.1.length ∧ (∀ k n ks st, S.2.2.1 = (k, n, ks) :: st → (ye_fl true S.2.1 = true ↔ n = 0)) ∧ (S.2.2.1.length ≤ 5 ∧ yr_many S.2.1 ≤ 12) ∧ (∀ nm, S.2.2.2 = some nm → ye_nm nm ∧ ∃ n ks st, S.2.2.1 = (7, n, ks ++ [nm]) :: st) ∧ (yr_en S.2.2.1).length ≤ yr_many S.2.1 + (if S.2.2.2 = none then 0 else 1) ∧ (∀ q ∈ S.2.2.1, q.1 = 6 ∨ q.1 = 7) ∧ (∀ q ∈ S.2.2.1.tail, q.2.1 ≠ 0) ∧ (∀ q ∈ S.2.2.1, q.2.1 ≤ yr_many S.2.1)
set_option maxRecDepth 100000 in
/-- ends of tokens -/
theorem yp_str_end {T : Int → Int} : ∀ (f : Nat) (k n e : Int), yp_str T f k n = e → 0 ≤ e → T (e - 1) = 41 ∧ k < e
  | 0, k, n, e, h, h0 => by have h : -1 = e := h; omega
  | f + 1, k, n, e, h, h0 => by
    unfold yp_str at h
    split at h
    · next c =>
      split at h
      · subst h
        rw [show k + 1 - 1 = k by omega]
        exact ⟨c, by omega⟩
      · omega
    · split at h
      · omega
      · have := yp_str_end f _ _ e h h0
        refine ⟨this.1, ?_⟩
        have h2 := this.2
        split at h2 <;> omega
set_option maxRecDepth 100000 in
theorem yr_end_b {T : Int → Int} (hT : yp_T T) {p k : Int} (p0 : 0 ≤ p) (p1 : p ≤ 1000) (h : yp_kind T p = k) (h0 : 0 ≤ k) : p < yr_end T k p ∧ yr_end T k p ≤ 1000 := by
  have w2 := yp_wd_lt hT p1
  have p9 : ∀ c, T p = c → c ≠ 0 → p < 1000 := fun c h1 h2 => yp_lt hT (by omega)
  rcases yr_kind h h0 with ⟨e, hc⟩ | ⟨e, hc, hc2⟩ | ⟨e, hn⟩ | ⟨e, _, hs⟩ | ⟨e, hr⟩ | ⟨e, hw, _⟩ | ⟨e, hw, _⟩ | ⟨e, hw, _⟩ | ⟨e, hi⟩ <;> subst e
  · have := p9 _ hc (by decide)
    show p < p + 1 ∧ p + 1 ≤ 1000
    omega
  · have := yp_lt hT (k := p + 1) (by omega)
    show p < p + 2 ∧ p + 2 ≤ 1000
    omega
  · have hn1 := of_decide_eq_true hn
    have := p9 _ hn1.1 (by decide)
    have n2 := yp_nm_lt hT (k := p) (by omega)
    show p < yp_nm T p ∧ yp_nm T p ≤ 1000
    omega
  · have := yp_str_end 2000 (p + 1) 0 (yp_se T p) rfl hs
    have := yp_lt hT (k := yp_se T p - 1) (by omega)
    show p < yp_se T p ∧ yp_se T p ≤ 1000
    omega
  · obtain ⟨_, o2, o3, o4, o5⟩ := yr_ref hr
    have b1 := yp_sk_le (T := T) (p + 1)
    have b2 := yp_sk_le (T := T) (yp_sk T (p + 1) + 1)
    have := yp_lt hT (k := yp_sk T (yp_sk T (p + 1) + 1)) (by omega)
    show p < yp_ref T p ∧ yp_ref T p ≤ 1000
    omega
  · show p < yp_wd T p ∧ yp_wd T p ≤ 1000
    omega
  · show p < yp_wd T p ∧ yp_wd T p ≤ 1000
    omega
  · show p < yp_wd T p ∧ yp_wd T p ≤ 1000
    omega
  · unfold yp_isI at hi
    rw [Bool.and_eq_true] at hi
    have h1 := of_decide_eq_true hi.1
    have : p ≤ yp_from T p := by unfold yp_from; split <;> omega
    show p < yp_wd T p ∧ yp_wd T p ≤ 1000
    omega
set_option maxRecDepth 100000 in
theorem yr_many_app (es : List ye_E) (e : ye_E) : yr_many (es ++ [e]) = yr_many es + (if e.isLeft = true then 1 else 0) := by
  unfold yr_many
  rw [List.filter_append, List.length_append]
  cases e with
  | inl d => rfl
  | inr k => rfl
set_option maxRecDepth 100000 in
/-- a value's step keeps what holds -/
theorem yr_ok_value {T : Int → Int} (hT : yp_T T) (hC : yp_C T) {S : yr_S} (h : yr_ok S) {p k : Int} (p0 : 0 ≤ p) (p1 : p ≤ 1000) (hk : yp_kind T p = k) (k0 : 0 ≤ k) (h5 : S.2.2.1.length ≠ 5) (h12 : yr_many S.2.1 ≠ 12) (hd : ∀ n ks st, S.2.2.1 = (7, n, ks) :: st → S.2.2.2 ≠ none) (hfirst : S.2.2.1 = [] → S.2.1 = []) : yr_ok (yr_end T k p, S.2.1 ++ [.inl (yr_nd T k p (S.2.2.2.getD []))], yr_push k (yr_part S.2.2.1), none) := by
  obtain ⟨a1, a2, a3, a4, a5, a6, a7, a8, a9, a10⟩ := h
  obtain ⟨b1, b2⟩ := yr_end_b hT p0 p1 hk k0
  have hkey : S.2.2.2.getD [] = [] ∨ ye_nm (S.2.2.2.getD []) := by
    cases hs : S.2.2.2 with
    | none => exact Or.inl rfl
    | some nm => exact Or.inr (a6 nm hs).1
  have hok := yr_nd_ok hC (key := S.2.2.2.getD []) p0 hk k0 hkey
  have hnest : ye_nest (yr_nd T k p (S.2.2.2.getD [])) = decide (k = 6 ∨ k = 7) := rfl
  have hkc : ye_kc (S.2.2.1.map Prod.fst) (yr_nd T k p (S.2.2.2.getD [])) := by
    show ye_kc _ (k, _, _, S.2.2.2.getD [], _)
    cases hst : S.2.2.1 with
    | nil =>
      show S.2.2.2.getD [] = []
      cases hs : S.2.2.2 with
      | none => rfl
      | some nm => obtain ⟨_, n, ks, st, e⟩ := a6 nm hs; rw [hst] at e; cases e
    | cons q st =>
      obtain ⟨k', n', ks'⟩ := q
      refine ⟨fun h7 => ?_, fun h7 => ?_⟩
      · have h7 : k' = 7 := h7
        subst h7
        cases hs : S.2.2.2 with
        | none => exact absurd hs (hd n' ks' st hst)
        | some nm =>
          have := (a6 nm hs).1.1
          intro z
          have z : nm = [] := z
          rw [z] at this
          simp at this
      · cases hs : S.2.2.2 with
        | none => rfl
        | some nm =>
          obtain ⟨_, n, ks, st', e⟩ := a6 nm hs
          rw [hst] at e
          cases e
          exact absurd rfl h7
  refine ⟨⟨by show 0 ≤ yr_end T k p; omega, b2⟩, ?_, ?_, ?_, ⟨?_, ?_⟩, fun nm h => (by cases h), ?_, ?_, ?_, ?_⟩
  · refine ye_wfp_app a2 ⟨hok, hkc, ?_⟩
    show (if decide (k = 6 ∨ k = 7) = true then k :: S.2.2.1.map Prod.fst else S.2.2.1.map Prod.fst) = (yr_push k (yr_part S.2.2.1)).map Prod.fst
    unfold yr_push
    by_cases hn : k = 6 ∨ k = 7
    · rw [if_pos hn, if_pos (decide_eq_true hn), List.map_cons, yr_part_kinds]
    · rw [if_neg hn, if_neg (by simpa using hn), yr_part_kinds]
  · show (ye_dm (0, 0) (S.2.1 ++ [.inl _])).1 = ((yr_push k (yr_part S.2.2.1)).length : Nat)
    rw [ye_dm_app]
    show (if decide (k = 6 ∨ k = 7) = true then (ye_dm (0, 0) S.2.1).1 + 1 else (ye_dm (0, 0) S.2.1).1) = _
    unfold yr_push
    by_cases hn : k = 6 ∨ k = 7
    · rw [if_pos hn, if_pos (decide_eq_true hn), List.length_cons, yr_part_len, a3]
      omega
    · rw [if_neg hn, if_neg (by simpa using hn), yr_part_len, a3]
  · intro k' n' ks' st' e
    show ye_fl true (S.2.1 ++ [.inl _]) = true ↔ n' = 0
    rw [ye_fl_app]
    show decide (k = 6 ∨ k = 7) = true ↔ n' = 0
    have e : yr_push k (yr_part S.2.2.1) = (k', n', ks') :: st' := e
    unfold yr_push at e
    by_cases hn : k = 6 ∨ k = 7
    · rw [if_pos hn] at e
      cases e
      simp [hn]
    · rw [if_neg hn] at e
      cases hst : S.2.2.1 with
      | nil => rw [hst] at e; cases e
      | cons q st =>
        obtain ⟨k2, n2, ks2⟩ := q
        rw [hst] at e
        cases e
        simp [hn]
  · show (yr_push k (yr_part S.2.2.1)).length ≤ 5
    unfold yr_push
    split
    · rw [List.length_cons, yr_part_len]; omega
    · rw [yr_part_len]; omega
  · show yr_many (S.2.1 ++ [.inl _]) ≤ 12
    rw [yr_many_app]
    simp
    omega
  · show (yr_en (yr_push k (yr_part S.2.2.1))).length ≤ yr_many (S.2.1 ++ [.inl _]) + 0
    have e1 : (yr_en (yr_push k (yr_part S.2.2.1))).length = (yr_en S.2.2.1).length := by
      unfold yr_push
      split
      · show (yr_en (yr_part S.2.2.1) ++ []).length = _
        rw [yr_en_part, List.append_nil]
      · rw [yr_en_part]
    rw [e1, yr_many_app]
    simp
    split at a7 <;> omega
  · intro q hq
    have hq : q ∈ yr_push k (yr_part S.2.2.1) := hq
    have hp : ∀ q ∈ yr_part S.2.2.1, q.1 = 6 ∨ q.1 = 7 := fun q hq => by
      cases hst : S.2.2.1 with
      | nil => rw [hst] at hq; cases hq
      | cons q0 st =>
        obtain ⟨k2, n2, ks2⟩ := q0
        rw [hst] at hq
        rcases List.mem_cons.mp hq with z | z
        · rw [z]; exact a8 (k2, n2, ks2) (by rw [hst]; simp)
        · exact a8 q (by rw [hst]; simp [z])
    unfold yr_push at hq
    split at hq
    · next hn =>
      rcases List.mem_cons.mp hq with z | z
      · rw [z]; exact hn
      · exact hp q z
    · exact hp q hq
  · intro q hq
    have hq : q ∈ (yr_push k (yr_part S.2.2.1)).tail := hq
    have ht : ∀ q ∈ (yr_part S.2.2.1).tail, q.2.1 ≠ 0 := fun q hq => by
      cases hst : S.2.2.1 with
      | nil => rw [hst] at hq; cases hq
      | cons q0 st =>
        obtain ⟨k2, n2, ks2⟩ := q0
        rw [hst] at hq
        exact a9 q (by rw [hst]; exact hq)
    unfold yr_push at hq
    split at hq
    · cases hst : S.2.2.1 with
      | nil => rw [hst] at hq; cases hq
      | cons q0 st =>
        obtain ⟨k2, n2, ks2⟩ := q0
        rw [hst] at hq
        rcases List.mem_cons.mp hq with z | z
        · rw [z]; exact Nat.succ_ne_zero n2
        · exact a9 q (by rw [hst]; exact z)
    · exact ht q hq
  · intro q hq
    have hq : q ∈ yr_push k (yr_part S.2.2.1) := hq
    show q.2.1 ≤ yr_many (S.2.1 ++ [.inl _])
    rw [yr_many_app]
    have hp : ∀ q ∈ yr_part S.2.2.1, q.2.1 ≤ yr_many S.2.1 + 1 := fun q hq => by
      cases hst : S.2.2.1 with
      | nil => rw [hst] at hq; cases hq
      | cons q0 st =>
        obtain ⟨k2, n2, ks2⟩ := q0
        rw [hst] at hq
        rcases List.mem_cons.mp hq with z | z
        · rw [z]
          have : n2 ≤ yr_many S.2.1 := a10 (k2, n2, ks2) (by rw [hst]; simp)
          show n2 + 1 ≤ _
          omega
        · have := a10 q (by rw [hst]; simp [z])
          omega
    unfold yr_push at hq
    split at hq
    · rcases List.mem_cons.mp hq with z | z
      · rw [z]; exact Nat.zero_le _
      · exact hp q z
    · exact hp q hq
set_option maxRecDepth 100000 in
theorem yr_ok_close {S : yr_S} (h : yr_ok S) {k p : Int} {n : Nat} {ks : List (List Int)} {st : List (Int × Nat × List (List Int))} (hs : S.2.2.1 = (k, n, ks) :: st) (hkey : S.2.2.2 = none) (p0 : 0 ≤ p) (p1 : p ≤ 1000) : yr_ok (p, S.2.1 ++ [.inr k], st, none) := by
  obtain ⟨a1, a2, a3, a4, a5, a6, a7, a8, a9, a10⟩ := h
  rw [hs] at a2 a3 a5 a7 a8 a9 a10
  have hk : k = 6 ∨ k = 7 := a8 (k, n, ks) (by simp)
  refine ⟨⟨p0, p1⟩, ?_, ?_, ?_, ⟨?_, ?_⟩, fun nm h => (by cases h), ?_, fun q hq => a8 q (List.mem_cons_of_mem _ hq), fun q hq => a9 q (List.mem_of_mem_tail hq), fun q hq => by
    show q.2.1 ≤ yr_many (S.2.1 ++ [.inr k])
    rw [yr_many_app]
    exact a10 q (List.mem_cons_of_mem _ hq)⟩
  · exact ye_wfp_app a2 ⟨rfl, hk, rfl⟩
  · show (ye_dm (0, 0) (S.2.1 ++ [.inr k])).1 = (st.length : Nat)
    rw [ye_dm_app]
    show (ye_dm (0, 0) S.2.1).1 - 1 = _
    rw [a3]
    simp
  · intro k2 n2 ks2 st2 e
    show ye_fl true (S.2.1 ++ [.inr k]) = true ↔ n2 = 0
    rw [ye_fl_app]
    show false = true ↔ n2 = 0
    have e : st = (k2, n2, ks2) :: st2 := e
    have := a9 (k2, n2, ks2) (by rw [e]; simp)
    simp
    exact this
  · have := a5.1
    simp at this
    show st.length ≤ 5
    omega
  · show yr_many (S.2.1 ++ [.inr k]) ≤ 12
    rw [yr_many_app]
    exact a5.2
  · show (yr_en st).length ≤ yr_many (S.2.1 ++ [.inr k]) + 0
    rw [yr_many_app, hkey] at *
    have e : yr_en ((k, n, ks) :: st) = yr_en st ++ ks.map (fun w => (((st.length + 1 : Nat) : Int), w)) := rfl
    rw [e, List.length_append] at a7
    simp at a7 ⊢
    omega
set_option maxRecDepth 100000 in
theorem yr_ok_key {S : yr_S} (h : yr_ok S) {p : Int} {w : List Int} {n : Nat} {ks : List (List Int)} {st : List (Int × Nat × List (List Int))} (hs : S.2.2.1 = (7, n, ks) :: st) (hkey : S.2.2.2 = none) (hw : ye_nm w) (p0 : 0 ≤ p) (p1 : p ≤ 1000) : yr_ok (p, S.2.1, (7, n, ks ++ [w]) :: st, some w) := by
  obtain ⟨a1, a2, a3, a4, a5, a6, a7, a8, a9, a10⟩ := h
  rw [hs] at a2 a3 a5 a7 a8 a9 a10
  refine ⟨⟨p0, p1⟩, a2, a3, ?_, a5, ?_, ?_, ?_, a9, ?_⟩
  · intro k2 n2 ks2 st2 e
    cases e
    exact a4 7 n ks st hs
  · intro nm e
    cases e
    exact ⟨hw, n, ks, st, rfl⟩
  · rw [hkey] at a7
    have e : yr_en ((7, n, ks) :: st) = yr_en st ++ ks.map (fun w => (((st.length + 1 : Nat) : Int), w)) := rfl
    have e2 : yr_en ((7, n, ks ++ [w]) :: st) = yr_en st ++ (ks ++ [w]).map (fun w => (((st.length + 1 : Nat) : Int), w)) := rfl
    show (yr_en ((7, n, ks ++ [w]) :: st)).length ≤ yr_many S.2.1 + 1
    rw [e, List.length_append] at a7
    rw [e2, List.length_append]
    simp at a7 ⊢
    omega
  · intro q hq
    rcases List.mem_cons.mp hq with z | z
    · rw [z]; exact Or.inr rfl
    · exact a8 q (List.mem_cons_of_mem _ z)
  · intro q hq
    rcases List.mem_cons.mp hq with z | z
    · rw [z]; exact a10 (7, n, ks) (by simp)
    · exact a10 q (List.mem_cons_of_mem _ z)
/-- the text of what is made, with the key that waits -/
def yr_made (S : yr_S) : List Int := ye_pr true S.2.1 ++ (match S.2.2.2 with
  | none => []
  | some w => (if ye_fl true S.2.1 = true then [] else [32]) ++ (47 :: (w ++ [32])))
set_option maxRecDepth 100000 in
theorem ye_op_len {d : ye_N} (hd : ye_ok d) : (ye_op d).length ≤ 26 := by
  have hk := hd.kinds
  rcases (show d.1 = 0 ∨ d.1 = 1 ∨ d.1 = 2 ∨ d.1 = 3 ∨ d.1 = 4 ∨ d.1 = 5 ∨ d.1 = 6 ∨ d.1 = 7 ∨ d.1 = 8 by omega) with k | k | k | k | k | k | k | k | k
  · unfold ye_op; simp [k]
  · unfold ye_op; simp [k]
  · unfold ye_op; simp [k]
  · have := ye_num_len d.2.1
    unfold ye_op
    simp [k]
    omega
  · have := (hd.k4 k).2.1
    unfold ye_op
    simp [k]
    omega
  · have := (hd.k5 k).1
    have e1 : ∀ l : List Int, (ye_esc l).length ≤ 2 * l.length := fun l => by
      induction l with
      | nil => simp [ye_esc]
      | cons c l ih =>
        have ee : ye_esc (c :: l) = (if c = 40 ∨ c = 41 ∨ c = 92 then [92, c] else [c]) ++ ye_esc l := rfl
        rw [ee, List.length_append, List.length_cons]
        split <;> simp <;> omega
    have := e1 d.2.2.2.2
    unfold ye_op
    simp [k]
    omega
  · unfold ye_op; simp [k]
  · unfold ye_op; simp [k]
  · unfold ye_op; simp [k]
set_option maxRecDepth 100000 in
/-- what is printed stays short -/
theorem ye_pr_len : ∀ (es : List ye_E) (st st' : List Int) (f : Bool), ye_wfp st es st' → (ye_pr f es).length + 2 * st'.length ≤ 37 * yr_many es + 2 * st.length
  | [], st, st', f, h => by
    have h : st = st' := h
    subst h
    simp [ye_pr, yr_many]
  | .inl d :: es, st, st', f, h => by
    have ih := ye_pr_len es _ st' (ye_nest d) h.2.2
    have o := ye_op_len h.1
    have ky : (ye_ky d).length ≤ 8 := by
      rw [ye_ky_len]
      split
      · omega
      · next hk =>
        rcases h.1.1 with z | z
        · exact absurd z hk
        · have := z.2.1; omega
    have em : yr_many (.inl d :: es) = yr_many es + 1 := by
      unfold yr_many
      rfl
    have el : (ye_pr f (.inl d :: es)).length ≤ 1 + (ye_ky d).length + (ye_op d).length + (ye_pr (ye_nest d) es).length := by
      show ((if f = true then [] else [32]) ++ (ye_ky d ++ (ye_op d ++ ye_pr (ye_nest d) es))).length ≤ _
      simp only [List.length_append]
      split <;> simp <;> omega
    rw [em]
    split at ih <;> first | omega | (simp only [List.length_cons] at ih; omega)
  | .inr k :: es, [], st', f, h => by cases h
  | .inr k :: es, k0 :: st, st', f, h => by
    have ih := ye_pr_len es st st' false h.2.2
    have em : yr_many (.inr k :: es) = yr_many es := by
      unfold yr_many
      rfl
    have el : (ye_pr f (.inr k :: es)).length = (ye_cl k).length + (ye_pr false es).length := by
      show (ye_cl k ++ ye_pr false es).length = _
      rw [List.length_append]
    have lc : (ye_cl k).length ≤ 2 := by unfold ye_cl; split <;> simp
    rw [em, el]
    simp
    omega
set_option maxRecDepth 100000 in
theorem yr_made_len {S : yr_S} (h : yr_ok S) : (yr_made S).length ≤ 453 := by
  have h1 := ye_pr_len S.2.1 [] _ true h.2.1
  have h2 := h.2.2.2.2.1.2
  unfold yr_made
  rw [List.length_append]
  cases hk : S.2.2.2 with
  | none => simp at h1 ⊢; omega
  | some w =>
    have hw := (h.2.2.2.2.2.1 w hk).1.2.1
    have : ((if ye_fl true S.2.1 = true then [] else [32]) ++ (47 :: (w ++ [32])) : List Int).length ≤ 9 := by
      split <;> simp <;> omega
    simp at h1
    show _ + ((if ye_fl true S.2.1 = true then [] else [32]) ++ (47 :: (w ++ [32])) : List Int).length ≤ 453
    omega
