/-! a value's part Length: given, or given anew; events alone -/
abbrev yNL : List Int := [76, 101, 110, 103, 116, 104]
def yln (n : Int) : ye_N := (3, n, 0, yNL, [])
set_option maxRecDepth 100000 in
theorem yln_ok {n : Int} (h0 : 0 ≤ n) (h1 : n ≤ 12) : ye_ok (yln n) := ⟨Or.inr (show ye_nm yNL from ⟨by decide, by decide, by decide⟩), Or.inr (Or.inl ⟨rfl, by show -1000000 < n; omega, by show n < 1000000; omega⟩)⟩
set_option maxRecDepth 100000 in
theorem ye_fk_split {nm : List Int} : ∀ {es : List ye_E} {n : Nat} {d' : ye_N} {es' : List ye_E}, ye_fk nm es n = some (d', es') → ∃ mid, es = mid ++ .inl d' :: es' ∧ ye_opn mid (n + 1) = some 1 ∧ d'.2.2.2.1 = nm
  | [], _, _, _, h => by cases h
  | .inl d :: es, 0, d', es', h => by
    have h : (if d.2.2.2.1 = nm then some (d, es) else ye_fk nm es (if ye_nest d = true then 1 else 0)) = some (d', es') := h
    by_cases hk : d.2.2.2.1 = nm
    · rw [if_pos hk] at h
      obtain ⟨e1, e2⟩ := Prod.mk.inj (Option.some.inj h)
      subst e1
      subst e2
      exact ⟨[], rfl, rfl, hk⟩
    · rw [if_neg hk] at h
      obtain ⟨mid, e, ho, hn⟩ := ye_fk_split h
      refine ⟨.inl d :: mid, by rw [e]; rfl, ?_, hn⟩
      show ye_opn mid (if ye_nest d = true then 0 + 1 + 1 else 0 + 1) = some 1
      rw [← ho]
      congr 1
      split <;> rfl
  | .inl d :: es, n + 1, d', es', h => by
    have h : ye_fk nm es (if ye_nest d = true then n + 2 else n + 1) = some (d', es') := h
    obtain ⟨mid, e, ho, hn⟩ := ye_fk_split h
    refine ⟨.inl d :: mid, by rw [e]; rfl, ?_, hn⟩
    show ye_opn mid (if ye_nest d = true then n + 1 + 1 + 1 else n + 1 + 1) = some 1
    rw [← ho]
    congr 1
    split <;> rfl
  | .inr k :: es, 0, _, _, h => by cases h
  | .inr k :: es, n + 1, d', es', h => by
    have h : ye_fk nm es n = some (d', es') := h
    obtain ⟨mid, e, ho, hn⟩ := ye_fk_split h
    refine ⟨.inr k :: mid, by rw [e]; rfl, ?_, hn⟩
    show (if n + 1 + 1 ≤ 1 then none else ye_opn mid (n + 1 + 1 - 1)) = some 1
    rw [if_neg (by omega)]
    exact ho
set_option maxRecDepth 100000 in
theorem ye_skip_opn : ∀ {es R : List ye_E} {n : Nat}, ye_skip es n = some R → 1 ≤ n → ∃ B k, es = B ++ .inr k :: R ∧ ye_opn B n = some 1
  | [], _, _, h, _ => by cases h
  | .inl d :: es, R, n, h, hn => by
    have h : ye_skip es (if ye_nest d = true then n + 1 else n) = some R := h
    obtain ⟨B, k, e1, e2⟩ := ye_skip_opn h (by split <;> omega)
    exact ⟨.inl d :: B, k, by rw [e1]; rfl, e2⟩
  | .inr k :: es, R, n, h, hn => by
    have h : (if n ≤ 1 then some es else ye_skip es (n - 1)) = some R := h
    by_cases h1 : n ≤ 1
    · rw [if_pos h1] at h
      cases h
      have : n = 1 := by omega
      subst this
      exact ⟨[], k, rfl, rfl⟩
    · rw [if_neg h1] at h
      obtain ⟨B, k', e1, e2⟩ := ye_skip_opn h (by omega)
      refine ⟨.inr k :: B, k', by rw [e1]; rfl, ?_⟩
      show (if n ≤ 1 then none else ye_opn B (n - 1)) = some 1
      rw [if_neg h1]
      exact e2
set_option maxRecDepth 100000 in
theorem ye_opn_pos : ∀ {B : List ye_E} {n m : Nat}, ye_opn B n = some m → 1 ≤ n → 1 ≤ m
  | [], n, m, h, hn => by
    have h : some n = some m := h
    cases h
    exact hn
  | .inl d :: B, n, m, h, hn => ye_opn_pos (B := B) (n := if ye_nest d = true then n + 1 else n) h (by split <;> omega)
  | .inr k :: B, n, m, h, hn => by
    have h : (if n ≤ 1 then none else ye_opn B (n - 1)) = some m := h
    by_cases h1 : n ≤ 1
    · rw [if_pos h1] at h; cases h
    · rw [if_neg h1] at h
      exact ye_opn_pos h (by omega)
set_option maxRecDepth 100000 in
/-- behind whole parts there is a space -/
theorem ye_opn_fl {B : List ye_E} {n : Nat} (h : ye_opn B n = some 1) (hn : 1 ≤ n) (hB : B ≠ []) (f : Bool) : ye_fl f B = false := by
  obtain ⟨B', e, he⟩ : ∃ B' e, B = B' ++ [e] := ⟨B.dropLast, B.getLast hB, (List.dropLast_concat_getLast hB).symm⟩
  subst he
  rw [ye_fl_app]
  cases e with
  | inr k => rfl
  | inl d =>
    show ye_nest d = false
    cases hd : ye_nest d with
    | false => rfl
    | true =>
      exfalso
      cases h1 : ye_opn B' n with
      | none =>
        have : ∀ (B' : List ye_E) (n : Nat), ye_opn B' n = none → ye_opn (B' ++ [.inl d]) n = none := by
          intro B'
          induction B' with
          | nil => intro n z; cases z
          | cons b B' ih =>
            intro n z
            cases b with
            | inl d2 => exact ih _ z
            | inr k2 =>
              have z : (if n ≤ 1 then none else ye_opn B' (n - 1)) = none := z
              show (if n ≤ 1 then none else ye_opn (B' ++ [.inl d]) (n - 1)) = none
              by_cases h2 : n ≤ 1
              · rw [if_pos h2]
              · rw [if_neg h2] at z ⊢
                exact ih _ z
        rw [this B' n h1] at h
        cases h
      | some m =>
        have hm := ye_opn_pos h1 hn
        rw [(ye_opn_skip h1).1] at h
        have h : some (if ye_nest d = true then m + 1 else m) = some 1 := h
        rw [hd] at h
        have := Option.some.inj h
        rw [if_pos rfl] at this
        omega
set_option maxRecDepth 100000 in
theorem ye_wfp_wf2 : ∀ {a b : List ye_E} {st st' : List Int}, ye_wfp st a st' → ye_wf st' b → ye_wf st (a ++ b)
  | [], b, st, st', h1, h2 => by
    have h1 : st = st' := h1
    subst h1
    exact h2
  | .inl d :: a, b, st, st', h1, h2 => ⟨h1.1, by have := h1.2.1; unfold ye_kc at this; cases st <;> exact this, ye_wfp_wf2 h1.2.2 h2⟩
  | .inr k :: a, b, [], st', h1, h2 => by cases h1
  | .inr k :: a, b, k0 :: st, st', h1, h2 => ⟨h1.1, h1.2.1, ye_wfp_wf2 h1.2.2 h2⟩
set_option maxRecDepth 100000 in
theorem ye_kd_app2 : ∀ {a b : List ye_E} {KS : List (List (List Int))}, ye_kd KS (a ++ b) → ye_kd KS a ∧ ye_kd (ykk KS a) b
  | [], b, [], h => ⟨trivial, h⟩
  | [], b, K :: KS, h => ⟨trivial, h⟩
  | .inl d :: a, b, [], h => by
    have h : ye_kd (if ye_nest d = true then [[]] else []) (a ++ b) := h
    exact ye_kd_app2 (a := a) (b := b) h
  | .inl d :: a, b, K :: KS, h => by
    obtain ⟨i1, i2⟩ := ye_kd_app2 (a := a) (b := b) h.2
    exact ⟨⟨h.1, i1⟩, i2⟩
  | .inr k :: a, b, [], h => ye_kd_app2 (a := a) (b := b) (KS := []) h
  | .inr k :: a, b, K :: KS, h => ye_kd_app2 (a := a) (b := b) (KS := KS) h
set_option maxRecDepth 100000 in
/-- whole parts leave the keys outside alone -/
theorem ykk_skip : ∀ {es R : List ye_E} {n : Nat}, ye_skip es n = some R → 1 ≤ n → ∃ B, es = B ++ R ∧ ∀ T S : List (List (List Int)), T.length = n → ykk (T ++ S) B = S
  | [], _, _, h, _ => by cases h
  | .inl d :: es, R, n, h, hn => by
    have h : ye_skip es (if ye_nest d = true then n + 1 else n) = some R := h
    obtain ⟨B, e1, e2⟩ := ykk_skip h (by split <;> omega)
    refine ⟨.inl d :: B, by rw [e1]; rfl, fun T S hT => ?_⟩
    cases T with
    | nil => simp at hT; omega
    | cons K T =>
      show ykk (if ye_nest d = true then [] :: (d.2.2.2.1 :: K) :: (T ++ S) else (d.2.2.2.1 :: K) :: (T ++ S)) B = S
      simp only [List.length_cons] at hT
      cases hd : ye_nest d with
      | true =>
        rw [hd] at e2
        rw [if_pos rfl]
        exact e2 ([] :: (d.2.2.2.1 :: K) :: T) S (by simp; omega)
      | false =>
        rw [hd] at e2
        rw [if_neg (by decide)]
        exact e2 ((d.2.2.2.1 :: K) :: T) S (by simp; omega)
  | .inr k :: es, R, n, h, hn => by
    have h : (if n ≤ 1 then some es else ye_skip es (n - 1)) = some R := h
    by_cases h1 : n ≤ 1
    · rw [if_pos h1] at h
      cases h
      refine ⟨[.inr k], rfl, fun T S hT => ?_⟩
      cases T with
      | nil => simp at hT; omega
      | cons K T =>
        have : T = [] := by
          simp only [List.length_cons] at hT
          exact List.length_eq_zero_iff.mp (by omega)
        subst this
        show ykk S [] = S
        cases S <;> rfl
    · rw [if_neg h1] at h
      obtain ⟨B, e1, e2⟩ := ykk_skip h (by omega)
      refine ⟨.inr k :: B, by rw [e1]; rfl, fun T S hT => ?_⟩
      cases T with
      | nil => simp at hT; omega
      | cons K T =>
        show ykk (T ++ S) B = S
        exact e2 T S (by simp only [List.length_cons] at hT; omega)
set_option maxRecDepth 100000 in
/-- no part has the name: no key is it -/
theorem ykk_fk {nm : List Int} (hnm : nm ≠ []) : ∀ {B X : List ye_E} {n m : Nat} {T S : List (List (List Int))} {K : List (List Int)}, ye_opn B (n + 1) = some (m + 1) → T.length = n → nm ∉ K → ye_fk nm (B ++ X) n = none → ∃ T' K', ykk (T ++ K :: S) B = T' ++ K' :: S ∧ T'.length = m ∧ nm ∉ K'
  | [], X, n, m, T, S, K, h, hT, hK, _ => by
    have h : some (n + 1) = some (m + 1) := h
    have : n = m := by have := Option.some.inj h; omega
    subst this
    refine ⟨T, K, ?_, hT, hK⟩
    cases T <;> rfl
  | .inl d :: B, X, 0, m, T, S, K, h, hT, hK, hf => by
    have hT : T = [] := List.length_eq_zero_iff.mp hT
    subst hT
    have hf : (if d.2.2.2.1 = nm then some (d, B ++ X) else ye_fk nm (B ++ X) (if ye_nest d = true then 1 else 0)) = none := hf
    by_cases hk : d.2.2.2.1 = nm
    · rw [if_pos hk] at hf; cases hf
    rw [if_neg hk] at hf
    have h : ye_opn B (if ye_nest d = true then 0 + 1 + 1 else 0 + 1) = some (m + 1) := h
    have hK2 : nm ∉ d.2.2.2.1 :: K := fun z => by
      rcases List.mem_cons.mp z with y | y
      · exact hk y.symm
      · exact hK y
    show ∃ T' K', ykk (if ye_nest d = true then [] :: (d.2.2.2.1 :: K) :: S else (d.2.2.2.1 :: K) :: S) B = T' ++ K' :: S ∧ T'.length = m ∧ nm ∉ K'
    cases hd : ye_nest d with
    | true =>
      rw [hd] at h hf
      rw [if_pos rfl] at h hf ⊢
      exact ykk_fk hnm (n := 1) (T := [[]]) h rfl hK2 hf
    | false =>
      rw [hd] at h hf
      rw [if_neg (by decide)] at h hf ⊢
      exact ykk_fk hnm (n := 0) (T := []) h rfl hK2 hf
  | .inl d :: B, X, n + 1, m, T, S, K, h, hT, hK, hf => by
    have hf : ye_fk nm (B ++ X) (if ye_nest d = true then n + 2 else n + 1) = none := hf
    have h : ye_opn B (if ye_nest d = true then n + 1 + 1 + 1 else n + 1 + 1) = some (m + 1) := h
    cases T with
    | nil => cases hT
    | cons K0 T =>
      simp only [List.length_cons] at hT
      show ∃ T' K', ykk (if ye_nest d = true then [] :: (d.2.2.2.1 :: K0) :: (T ++ K :: S) else (d.2.2.2.1 :: K0) :: (T ++ K :: S)) B = T' ++ K' :: S ∧ T'.length = m ∧ nm ∉ K'
      cases hd : ye_nest d with
      | true =>
        rw [hd] at h hf
        rw [if_pos rfl] at h hf ⊢
        exact ykk_fk hnm (n := n + 2) (T := [] :: (d.2.2.2.1 :: K0) :: T) h (by simp; omega) hK hf
      | false =>
        rw [hd] at h hf
        rw [if_neg (by decide)] at h hf ⊢
        exact ykk_fk hnm (n := n + 1) (T := (d.2.2.2.1 :: K0) :: T) h (by simp; omega) hK hf
  | .inr k :: B, X, 0, m, T, S, K, h, hT, hK, hf => by
    have h : (if 0 + 1 ≤ 1 then none else ye_opn B (0 + 1 - 1)) = some (m + 1) := h
    rw [if_pos (by omega)] at h
    cases h
  | .inr k :: B, X, n + 1, m, T, S, K, h, hT, hK, hf => by
    have h : (if n + 1 + 1 ≤ 1 then none else ye_opn B (n + 1 + 1 - 1)) = some (m + 1) := h
    rw [if_neg (by omega)] at h
    cases T with
    | nil => cases hT
    | cons K0 T =>
      simp only [List.length_cons] at hT
      exact ykk_fk hnm (n := n) (T := T) h (by omega) hK hf
set_option maxRecDepth 100000 in
/-- a value whose part Length is given anew -/
theorem yv_len1 {d d' : ye_N} {mid es' R : List ye_E} {n : Int} (n0 : 0 ≤ n) (n1 : n ≤ 12) (hv : yv (.inl d :: (mid ++ .inl d' :: es'))) (h7 : d.1 = 7) (ho : ye_opn mid 1 = some 1) (hk : d'.2.2.2.1 = yNL) (hr : ye_rest d' es' = some R) : yv (.inl d :: (mid ++ .inl (yln n) :: R)) := by
  obtain ⟨⟨d0, e0, ed, er⟩, hwf, hmany, hdm, hkd⟩ := hv
  obtain ⟨a1, a2⟩ := List.cons.inj ed
  have a1 : d = d0 := Sum.inl.inj a1
  subst a1
  subst a2
  have hnest : ye_nest d = true := decide_eq_true (Or.inr h7)
  obtain ⟨w1, w2, w3⟩ := hwf
  rw [if_pos hnest] at w3
  obtain ⟨st', s1, s2, s3, s4⟩ := ye_wf_split w3
  obtain ⟨R', r1, r2, r3⟩ := s1.rest
  have hRR : R' = R := Option.some.inj (r1.symm.trans hr)
  subst hRR
  obtain ⟨B, hB, hBd⟩ := ye_rest_app hr
  obtain ⟨v1, v2, v3⟩ := s1
  have hskip : ye_skip (mid ++ .inl d' :: es') 1 = some [] := by
    unfold ye_rest at er
    rw [if_pos hnest] at er
    exact er
  rw [(ye_opn_skip ho).2] at hskip
  have hR1 : ye_skip R' 1 = some [] := by
    have h9 : ye_skip es' (if ye_nest d' = true then 1 + 1 else 1) = some [] := hskip
    unfold ye_rest at hr
    cases hn : ye_nest d' with
    | true =>
      rw [hn] at h9 hr
      rw [if_pos rfl] at h9 hr
      -- skip two is skip one, then one
      have key : ∀ (es : List ye_E) (k : Nat) (R Q : List ye_E), ye_skip es (k + 1) = some R → ye_skip es (k + 1 + 1) = some Q → ye_skip R 1 = some Q := by
        intro es
        induction es with
        | nil => intro k R Q h; cases h
        | cons e es ih =>
          intro k R Q h1 h2
          cases e with
          | inl d =>
            have h1 : ye_skip es (if ye_nest d = true then k + 1 + 1 else k + 1) = some R := h1
            have h2 : ye_skip es (if ye_nest d = true then k + 1 + 1 + 1 else k + 1 + 1) = some Q := h2
            cases hd : ye_nest d with
            | true => rw [hd] at h1 h2; exact ih (k + 1) R Q h1 h2
            | false => rw [hd] at h1 h2; exact ih k R Q h1 h2
          | inr c =>
            have h1 : (if k + 1 ≤ 1 then some es else ye_skip es (k + 1 - 1)) = some R := h1
            have h2 : (if k + 1 + 1 ≤ 1 then some es else ye_skip es (k + 1 + 1 - 1)) = some Q := h2
            rw [if_neg (by omega)] at h2
            cases k with
            | zero =>
              rw [if_pos (by omega)] at h1
              cases h1
              exact h2
            | succ k =>
              rw [if_neg (by omega)] at h1
              exact ih k R Q h1 h2
      exact key es' 0 R' [] hr h9
    | false =>
      rw [hn] at h9 hr
      rw [if_neg (by decide)] at h9 hr
      cases hr
      exact h9
  refine ⟨⟨d, _, rfl, ?_⟩, ⟨w1, w2, ?_⟩, ?_, ?_, ?_⟩
  · unfold ye_rest
    rw [if_pos hnest, (ye_opn_skip ho).2]
    exact hR1
  · rw [if_pos hnest]
    refine ye_wfp_wf2 s4 ⟨yln_ok n0 n1, ?_, r2⟩
    cases st' with
    | nil =>
      have v2 : d'.2.2.2.1 = [] := v2
      rw [hk] at v2
      cases v2
    | cons k0 st' =>
      have v2 : (k0 = 7 → d'.2.2.2.1 ≠ []) ∧ (k0 ≠ 7 → d'.2.2.2.1 = []) := v2
      rw [hk] at v2
      exact v2
  · have e1 : yr_many (.inl d :: (mid ++ .inl (yln n) :: R')) = yr_many (mid ++ .inl (yln n) :: R') + 1 := rfl
    have e2 : yr_many (.inl d :: (mid ++ .inl d' :: es')) = yr_many (mid ++ .inl d' :: es') + 1 := rfl
    have e3 : yr_many (.inl (yln n) :: R') = yr_many R' + 1 := rfl
    have e4 : yr_many (.inl d' :: es') = yr_many es' + 1 := rfl
    rw [e2, yr_many_app2, e4, hB, yr_many_app2] at hmany
    rw [e1, yr_many_app2, e3]
    omega
  · have e1 : ye_dm (0, 0) (.inl d :: (mid ++ .inl (yln n) :: R')) = ye_dm (ye_dm (0, 0) (.inl d :: mid)) (.inl (yln n) :: R') := ye_dm_app (.inl d :: mid) _ _
    have e2 : ye_dm (0, 0) (.inl d :: (mid ++ .inl d' :: es')) = ye_dm (ye_dm (0, 0) (.inl d :: mid)) (.inl d' :: es') := ye_dm_app (.inl d :: mid) _ _
    rw [e2] at hdm
    rw [e1]
    generalize ye_dm (0, 0) (.inl d :: mid) = q0 at hdm ⊢
    obtain ⟨L, M⟩ := q0
    have e3 : ye_dm (L, M) (.inl d' :: es') = ye_dm (ye_dm (if ye_nest d' = true then L + 1 else L, if L + 1 ≤ M then M else L + 1) B) R' := by
      rw [hB]
      exact ye_dm_app B R' _
    have e4 : ye_dm (L, M) (.inl (yln n) :: R') = ye_dm (L, if L + 1 ≤ M then M else L + 1) R' := rfl
    rw [e3] at hdm
    rw [e4]
    have hl : (ye_dm (if ye_nest d' = true then L + 1 else L, if L + 1 ≤ M then M else L + 1) B).1 = L := by
      have := ye_dm_shift B (if ye_nest d' = true then 1 else 0) (if L + 1 ≤ M then M else L + 1) L 0
      rw [hBd 0, show (if ye_nest d' = true then (1 : Int) else 0) + L = (if ye_nest d' = true then L + 1 else L) by split <;> omega] at this
      rw [this]
      omega
    have hm := (ye_dm_mono B (if ye_nest d' = true then L + 1 else L) (if ye_nest d' = true then L + 1 else L) (if L + 1 ≤ M then M else L + 1) (if L + 1 ≤ M then M else L + 1) (Int.le_refl _) (Int.le_refl _)).2
    generalize ye_dm (if ye_nest d' = true then L + 1 else L, if L + 1 ≤ M then M else L + 1) B = Q at hdm hl hm
    obtain ⟨q1, q2⟩ := Q
    have hl : q1 = L := hl
    subst hl
    exact Int.le_trans (ye_dm_mono R' q1 q1 _ q2 (Int.le_refl _) hm).1 hdm
  · have h1 : ye_kd [] ((.inl d :: mid) ++ .inl d' :: es') := hkd
    obtain ⟨g1, g2⟩ := ye_kd_app2 h1
    show ye_kd [] ((.inl d :: mid) ++ .inl (yln n) :: R')
    refine ye_kd_app g1 ?_
    have key : ∀ KS : List (List (List Int)), ye_kd KS (.inl d' :: es') → KS ≠ [] → ye_kd KS (.inl (yln n) :: R') := by
      intro KS h hne
      cases KS with
      | nil => exact absurd rfl hne
      | cons K KS =>
        obtain ⟨x1, x2⟩ := h
        rw [hk] at x1 x2
        refine ⟨x1, ?_⟩
        show ye_kd ((yNL :: K) :: KS) R'
        unfold ye_rest at hr
        cases hn : ye_nest d' with
        | true =>
          rw [hn] at hr x2
          rw [if_pos rfl] at hr x2
          obtain ⟨B2, c1, c2⟩ := ykk_skip hr (by decide)
          rw [c1] at x2
          have := (ye_kd_app2 x2).2
          rw [show ([] :: (yNL :: K) :: KS : List (List (List Int))) = [[]] ++ ((yNL :: K) :: KS) from rfl, c2 [[]] _ rfl] at this
          exact this
        | false =>
          rw [hn] at hr x2
          rw [if_neg (by decide)] at hr x2
          cases hr
          exact x2
    refine key _ g2 (fun z => ?_)
    -- something is open there
    have ho2 : ykk [] (.inl d :: mid) = ykk [[]] mid := by
      show ykk (if ye_nest d = true then [[]] else []) mid = _
      rw [if_pos hnest]
    rw [ho2] at z
    have gen : ∀ (B : List ye_E) (n m : Nat) (T : List (List (List Int))), ye_opn B n = some m → T.length = n → 1 ≤ n → (ykk T B).length = m := by
      intro B
      induction B with
      | nil =>
        intro n m T h hT _
        have h : some n = some m := h
        cases h
        cases T <;> exact hT
      | cons b B ih =>
        intro n m T h hT hn
        cases T with
        | nil => simp at hT; omega
        | cons K T =>
          simp only [List.length_cons] at hT
          cases b with
          | inl d2 =>
            have h : ye_opn B (if ye_nest d2 = true then n + 1 else n) = some m := h
            show (ykk (if ye_nest d2 = true then [] :: (d2.2.2.2.1 :: K) :: T else (d2.2.2.2.1 :: K) :: T) B).length = m
            cases hd : ye_nest d2 with
            | true =>
              rw [hd] at h
              rw [if_pos rfl]
              exact ih (n + 1) m _ h (by simp; omega) (by omega)
            | false =>
              rw [hd] at h
              rw [if_neg (by decide)]
              exact ih n m _ h (by simp; omega) hn
          | inr k2 =>
            have h : (if n ≤ 1 then none else ye_opn B (n - 1)) = some m := h
            by_cases h1 : n ≤ 1
            · rw [if_pos h1] at h; cases h
            · rw [if_neg h1] at h
              exact ih (n - 1) m T h (by omega) (by omega)
    have := gen mid 1 1 [[]] ho rfl (by decide)
    rw [z] at this
    cases this
set_option maxRecDepth 100000 in
/-- a value that is given a part Length -/
theorem yv_len2 {d : ye_N} {B : List ye_E} {n : Int} (n0 : 0 ≤ n) (n1 : n ≤ 12) (hv : yv (.inl d :: (B ++ [.inr 7]))) (h7 : d.1 = 7) (ho : ye_opn B 1 = some 1) (hf : ye_fk yNL (B ++ [.inr 7]) 0 = none) (hm : yr_many (.inl d :: (B ++ [.inr 7])) < 12) : yv (.inl d :: (B ++ [.inl (yln n), .inr 7])) := by
  obtain ⟨⟨d0, e0, ed, er⟩, hwf, hmany, hdm, hkd⟩ := hv
  have hnest : ye_nest d = true := decide_eq_true (Or.inr h7)
  obtain ⟨w1, w2, w3⟩ := hwf
  rw [if_pos hnest, h7] at w3
  obtain ⟨st', s1, s2, s3, s4⟩ := ye_wf_split w3
  have hst : st' = [7] := by
    cases st' with
    | nil => cases s1
    | cons k0 st' =>
      obtain ⟨z1, z2, z3⟩ := s1
      have z3 : st' = [] := z3
      rw [z3, ← z1]
  subst hst
  refine ⟨⟨d, _, rfl, ?_⟩, ⟨w1, w2, ?_⟩, ?_, ?_, ?_⟩
  · unfold ye_rest
    rw [if_pos hnest, (ye_opn_skip ho).2]
    rfl
  · rw [if_pos hnest, h7]
    refine ye_wfp_wf2 s4 ⟨yln_ok n0 n1, ⟨fun _ => ?_, fun z => absurd rfl z⟩, rfl, Or.inr rfl, rfl⟩
    intro z
    cases z
  · have e1 : yr_many (.inl d :: (B ++ [.inl (yln n), .inr 7])) = yr_many (B ++ [.inl (yln n), .inr 7]) + 1 := rfl
    have e2 : yr_many (.inl d :: (B ++ [.inr 7])) = yr_many (B ++ [.inr 7]) + 1 := rfl
    rw [e2, yr_many_app2] at hm
    rw [e1, yr_many_app2]
    have e3 : yr_many [.inl (yln n), .inr 7] = 1 := rfl
    omega
  · have e1 : ye_dm (0, 0) (.inl d :: (B ++ [.inl (yln n), .inr 7])) = ye_dm (ye_dm (0, 0) (.inl d :: B)) [.inl (yln n), .inr 7] := ye_dm_app (.inl d :: B) _ _
    have e2 : ye_dm (0, 0) (.inl d :: (B ++ [.inr 7])) = ye_dm (ye_dm (0, 0) (.inl d :: B)) [.inr 7] := ye_dm_app (.inl d :: B) _ _
    have hl : (ye_dm (0, 0) (.inl d :: B)).1 = 1 := by
      have e3 : ye_dm (0, 0) (.inl d :: B) = ye_dm (if ye_nest d = true then (0 : Int) + 1 else 0, if (0 : Int) + 1 ≤ 0 then 0 else (0 : Int) + 1) B := rfl
      have := s3 1
      rw [e3, if_pos hnest]
      exact this
    rw [e2] at hdm
    rw [e1]
    have hdm : (ye_dm (0, 0) (.inl d :: B)).2 ≤ 5 := hdm
    show (if (ye_dm (0, 0) (.inl d :: B)).1 + 1 ≤ (ye_dm (0, 0) (.inl d :: B)).2 then (ye_dm (0, 0) (.inl d :: B)).2 else (ye_dm (0, 0) (.inl d :: B)).1 + 1) ≤ 5
    rw [hl]
    split <;> omega
  · have h1 : ye_kd [] ((.inl d :: B) ++ [.inr 7]) := hkd
    obtain ⟨g1, _⟩ := ye_kd_app2 h1
    show ye_kd [] ((.inl d :: B) ++ [.inl (yln n), .inr 7])
    refine ye_kd_app g1 ?_
    have e1 : ykk [] (.inl d :: B) = ykk ([] ++ [] :: []) B := by
      show ykk (if ye_nest d = true then [[]] else []) B = _
      rw [if_pos hnest]
      rfl
    obtain ⟨T', K', c1, c2, c3⟩ := ykk_fk (nm := yNL) (by decide) (B := B) (X := [.inr 7]) (n := 0) (m := 0) (T := []) (S := []) (K := []) ho rfl (by simp) hf
    have : T' = [] := List.length_eq_zero_iff.mp c2
    subst this
    rw [e1, c1]
    exact ⟨Or.inr c3, trivial⟩
