/-! what has been read is a value as the table keeps them -/
def ykk : List (List (List Int)) → List ye_E → List (List (List Int))
  | KS, [] => KS
  | [], .inl d :: es => ykk (if ye_nest d = true then [[]] else []) es
  | K :: KS, .inl d :: es => ykk (if ye_nest d = true then [] :: (d.2.2.2.1 :: K) :: KS else (d.2.2.2.1 :: K) :: KS) es
  | KS, .inr _ :: es => ykk KS.tail es
set_option maxRecDepth 100000 in
theorem ye_kd_app : ∀ {a b : List ye_E} {KS : List (List (List Int))}, ye_kd KS a → ye_kd (ykk KS a) b → ye_kd KS (a ++ b)
  | [], b, [], _, h => h
  | [], b, K :: KS, _, h => h
  | .inl d :: a, b, [], h1, h2 => by
    have h1 : ye_kd (if ye_nest d = true then [[]] else []) a := h1
    have h2 : ye_kd (ykk (if ye_nest d = true then [[]] else []) a) b := h2
    show ye_kd (if ye_nest d = true then [[]] else []) (a ++ b)
    exact ye_kd_app h1 h2
  | .inl d :: a, b, K :: KS, h1, h2 => ⟨h1.1, ye_kd_app h1.2 h2⟩
  | .inr k :: a, b, [], h1, h2 => by
    show ye_kd [] (a ++ b)
    exact ye_kd_app (KS := []) h1 h2
  | .inr k :: a, b, K :: KS, h1, h2 => by
    show ye_kd KS (a ++ b)
    exact ye_kd_app (KS := KS) h1 h2
set_option maxRecDepth 100000 in
theorem ykk_app : ∀ (a b : List ye_E) (KS : List (List (List Int))), ykk KS (a ++ b) = ykk (ykk KS a) b
  | [], b, [] => rfl
  | [], b, K :: KS => rfl
  | .inl d :: a, b, [] => ykk_app a b _
  | .inl d :: a, b, K :: KS => ykk_app a b _
  | .inr k :: a, b, [] => ykk_app a b []
  | .inr k :: a, b, K :: KS => ykk_app a b KS
def ye_opn : List ye_E → Nat → Option Nat
  | [], n => some n
  | .inl d :: es, n => ye_opn es (if ye_nest d = true then n + 1 else n)
  | .inr _ :: es, n => if n ≤ 1 then none else ye_opn es (n - 1)
set_option maxRecDepth 100000 in
theorem ye_opn_skip : ∀ {a b : List ye_E} {n m : Nat}, ye_opn a n = some m → ye_opn (a ++ b) n = ye_opn b m ∧ ye_skip (a ++ b) n = ye_skip b m
  | [], b, n, m, h => by
    have h : some n = some m := h
    cases h
    exact ⟨rfl, rfl⟩
  | .inl d :: a, b, n, m, h => ye_opn_skip (a := a) (b := b) (n := if ye_nest d = true then n + 1 else n) h
  | .inr k :: a, b, n, m, h => by
    have h : (if n ≤ 1 then none else ye_opn a (n - 1)) = some m := h
    by_cases h1 : n ≤ 1
    · rw [if_pos h1] at h; cases h
    · rw [if_neg h1] at h
      obtain ⟨i1, i2⟩ := ye_opn_skip (b := b) h
      constructor
      · show (if n ≤ 1 then none else ye_opn (a ++ b) (n - 1)) = _
        rw [if_neg h1]
        exact i1
      · show (if n ≤ 1 then some (a ++ b) else ye_skip (a ++ b) (n - 1)) = _
        rw [if_neg h1]
        exact i2
def yq_R : List (Int × Nat × List (List Int)) → List (List (List Int)) → Prop
  | [], KS => KS = []
  | _ :: _, [] => False
  | (_, _, ks) :: st, K :: KS => (∀ w ∈ K, w = [] ∨ w ∈ ks) ∧ yq_R st KS
def yq (S : yr_S) : Prop := (ye_dm (0, 0) S.2.1).2 ≤ 5 ∧ ye_kd [] S.2.1 ∧ (S.2.2.2 = none → yq_R S.2.2.1 (ykk [] S.2.1)) ∧ (∀ w, S.2.2.2 = some w → ∃ n ks0 st, S.2.2.1 = (7, n, ks0 ++ [w]) :: st ∧ w ∉ ks0 ∧ w ≠ [] ∧ yq_R ((7, n, ks0) :: st) (ykk [] S.2.1)) ∧ (S.2.2.1 ≠ [] → ∃ d e2, S.2.1 = .inl d :: e2 ∧ ye_nest d = true ∧ ye_opn e2 1 = some S.2.2.1.length) ∧ (S.2.2.1 = [] → S.2.1 = [] ∨ ∃ d e2, S.2.1 = .inl d :: e2 ∧ ye_rest d e2 = some [])
set_option maxRecDepth 100000 in
theorem yq_step {T : Int → Int} {S S' : yr_S} (hok : yr_ok S) (hfirst : S.2.2.1 = [] → S.2.1 = []) (hq : yq S) (h : yr_step T S = .inl S') : yq S' := by
  obtain ⟨q1, q2, q3, q4, q5, q6⟩ := hq
  have val : (∀ n ks st, S.2.2.1 = (7, n, ks) :: st → S.2.2.2 ≠ none) → yr_val T S = .inl S' → yq S' := fun hd hv => by
    unfold yr_val at hv
    by_cases hn : yp_kind T (yp_sk T S.1) < 0 ∨ S.2.2.1.length = 5 ∨ yr_many S.2.1 = 12
    · rw [if_pos hn] at hv; cases hv
    rw [if_neg hn] at hv
    generalize yp_kind T (yp_sk T S.1) = k at hv hn
    generalize hnd : yr_nd T k (yp_sk T S.1) (S.2.2.2.getD []) = nd at hv
    have hnk : nd.1 = k := by rw [← hnd]; rfl
    have hkey : nd.2.2.2.1 = S.2.2.2.getD [] := by rw [← hnd]; rfl
    have hS' := (Sum.inl.inj hv).symm
    subst hS'
    have hlev := hok.2.2.1
    have hlen := hok.2.2.2.2.1.1
    -- the keys of what is open
    have hks : (nd.2.2.2.1 = [] ∨ ∀ K KS, ykk [] S.2.1 = K :: KS → nd.2.2.2.1 ∉ K) ∧ (S.2.2.1 = [] → ykk [] S.2.1 = []) ∧ (∀ q st, S.2.2.1 = q :: st → ∃ K KS, ykk [] S.2.1 = K :: KS ∧ (∀ w ∈ nd.2.2.2.1 :: K, w = [] ∨ w ∈ q.2.2) ∧ yq_R st KS) := by
      cases hz : S.2.2.2 with
      | none =>
        have h3 := q3 hz
        rw [hz] at hkey
        have hkey : nd.2.2.2.1 = [] := hkey
        refine ⟨Or.inl hkey, fun e => ?_, fun q st e => ?_⟩
        · rw [e] at h3; exact h3
        · rw [e] at h3
          obtain ⟨k0, n0, ks0⟩ := q
          cases hK : ykk [] S.2.1 with
          | nil => rw [hK] at h3; cases h3
          | cons K KS =>
            rw [hK] at h3
            refine ⟨K, KS, rfl, fun w hw => ?_, h3.2⟩
            rcases List.mem_cons.mp hw with z | z
            · left; rw [z, hkey]
            · exact h3.1 w z
      | some w =>
        obtain ⟨n, ks0, st0, e0, e1, e2, e3⟩ := q4 w hz
        rw [hz] at hkey
        have hkey : nd.2.2.2.1 = w := hkey
        cases hK : ykk [] S.2.1 with
        | nil => rw [hK] at e3; cases e3
        | cons K KS =>
          rw [hK] at e3
          refine ⟨Or.inr fun K' KS' e => ?_, fun e => ?_, fun q st e => ?_⟩
          · cases e
            rw [hkey]
            intro z
            rcases e3.1 w z with y | y
            · exact e2 y
            · exact e1 y
          · rw [e0] at e; cases e
          · rw [e0] at e
            obtain ⟨a1, a2⟩ := List.cons.inj e
            subst a1
            subst a2
            refine ⟨K, KS, rfl, fun v hv => ?_, e3.2⟩
            rcases List.mem_cons.mp hv with z | z
            · right
              rw [z, hkey]
              show w ∈ ks0 ++ [w]
              simp
            · rcases e3.1 v z with y | y
              · exact Or.inl y
              · right
                show v ∈ ks0 ++ [w]
                simp [y]
    obtain ⟨k1, k2, k3⟩ := hks
    have hnest : ye_nest nd = decide (k = 6 ∨ k = 7) := by unfold ye_nest; rw [hnk]
    refine ⟨?_, ?_, fun _ => ?_, fun w hw => (by cases hw), fun hne => ?_, fun he => ?_⟩
    · show (ye_dm (0, 0) (S.2.1 ++ [.inl nd])).2 ≤ 5
      rw [ye_dm_app]
      show (if (ye_dm (0, 0) S.2.1).1 + 1 ≤ (ye_dm (0, 0) S.2.1).2 then (ye_dm (0, 0) S.2.1).2 else (ye_dm (0, 0) S.2.1).1 + 1) ≤ 5
      split <;> omega
    · show ye_kd [] (S.2.1 ++ [.inl nd])
      refine ye_kd_app q2 ?_
      cases hK : ykk [] S.2.1 with
      | nil => 
        show ye_kd (if ye_nest nd = true then [[]] else []) []
        split <;> exact trivial
      | cons K KS =>
        refine ⟨?_, ?_⟩
        · rcases k1 with z | z
          · exact Or.inl z
          · exact Or.inr (z K KS hK)
        · split <;> exact trivial
    · show yq_R (yr_push k (yr_part S.2.2.1)) (ykk [] (S.2.1 ++ [.inl nd]))
      rw [ykk_app]
      cases hst : S.2.2.1 with
      | nil =>
        rw [k2 hst]
        show yq_R (yr_push k []) (if ye_nest nd = true then [[]] else [])
        rw [hnest]
        unfold yr_push
        by_cases hk : k = 6 ∨ k = 7
        · rw [if_pos hk, if_pos (decide_eq_true hk)]
          exact ⟨fun w hw => (by cases hw), rfl⟩
        · rw [if_neg hk, if_neg (by simpa using hk)]
          rfl
      | cons q st =>
        obtain ⟨K, KS, hK, r1, r2⟩ := k3 q st hst
        obtain ⟨k0, n0, ks0⟩ := q
        rw [hK]
        show yq_R (yr_push k ((k0, n0 + 1, ks0) :: st)) (if ye_nest nd = true then [] :: (nd.2.2.2.1 :: K) :: KS else (nd.2.2.2.1 :: K) :: KS)
        rw [hnest]
        unfold yr_push
        by_cases hk : k = 6 ∨ k = 7
        · rw [if_pos hk, if_pos (decide_eq_true hk)]
          exact ⟨fun w hw => (by cases hw), r1, r2⟩
        · rw [if_neg hk, if_neg (by simpa using hk)]
          exact ⟨r1, r2⟩
    · show ∃ d e2, S.2.1 ++ [.inl nd] = .inl d :: e2 ∧ ye_nest d = true ∧ ye_opn e2 1 = some (yr_push k (yr_part S.2.2.1)).length
      cases hst : S.2.2.1 with
      | nil =>
        have hne : yr_push k (yr_part S.2.2.1) ≠ [] := hne
        rw [hst] at hne
        have hk : k = 6 ∨ k = 7 := by
          by_cases hk : k = 6 ∨ k = 7
          · exact hk
          · exfalso
            apply hne
            unfold yr_push
            rw [if_neg hk]
            rfl
        refine ⟨nd, [], by rw [hfirst hst]; rfl, by rw [hnest]; exact decide_eq_true hk, ?_⟩
        unfold yr_push
        rw [if_pos hk]
        rfl
      | cons q st =>
        obtain ⟨d, e2, r1, r2, r3⟩ := q5 (by rw [hst]; simp)
        refine ⟨d, e2 ++ [.inl nd], by rw [r1]; rfl, r2, ?_⟩
        rw [(ye_opn_skip r3).1, hst]
        show some (if ye_nest nd = true then (q :: st).length + 1 else (q :: st).length) = some (yr_push k (yr_part (q :: st))).length
        rw [hnest]
        unfold yr_push
        by_cases hk : k = 6 ∨ k = 7
        · rw [if_pos hk, if_pos (decide_eq_true hk)]
          show some (st.length + 1 + 1) = some ((yr_part (q :: st)).length + 1)
          rw [yr_part_len]
          rfl
        · rw [if_neg hk, if_neg (by simpa using hk), yr_part_len]
    · right
      have he : yr_push k (yr_part S.2.2.1) = [] := he
      show ∃ d e2, S.2.1 ++ [.inl nd] = .inl d :: e2 ∧ ye_rest d e2 = some []
      cases hst : S.2.2.1 with
      | nil =>
        rw [hst] at he
        have hk : ¬ (k = 6 ∨ k = 7) := fun hk => by
          unfold yr_push at he
          rw [if_pos hk] at he
          cases he
        refine ⟨nd, [], by rw [hfirst hst]; rfl, ?_⟩
        unfold ye_rest
        rw [hnest, if_neg (by simpa using hk)]
      | cons q st =>
        rw [hst] at he
        exact absurd he (yr_part_ne (by simp) k)
  have close : ∀ (k : Int) (q : Int × Nat × List (List Int)) (st : List (Int × Nat × List (List Int))) (p' : Int), S.2.2.1 = q :: st → S.2.2.2 = none → yq (p', S.2.1 ++ [.inr k], st, none) := fun k q st p' hs hz => by
    have h3 := q3 hz
    rw [hs] at h3
    obtain ⟨k0, n0, ks0⟩ := q
    obtain ⟨K, KS, hK, h4⟩ : ∃ K KS, ykk [] S.2.1 = K :: KS ∧ yq_R st KS := by
      cases hK : ykk [] S.2.1 with
      | nil => rw [hK] at h3; cases h3
      | cons K KS => rw [hK] at h3; exact ⟨K, KS, rfl, h3.2⟩
    obtain ⟨d, e2, r1, r2, r3⟩ := q5 (by rw [hs]; simp)
    have hl : S.2.2.1.length = st.length + 1 := by rw [hs]; rfl
    refine ⟨?_, ?_, fun _ => ?_, fun w hw => (by cases hw), fun hne => ?_, fun he => ?_⟩
    · show (ye_dm (0, 0) (S.2.1 ++ [.inr k])).2 ≤ 5
      rw [ye_dm_app]
      exact q1
    · show ye_kd [] (S.2.1 ++ [.inr k])
      refine ye_kd_app q2 ?_
      rw [hK]
      show ye_kd KS []
      cases KS <;> exact trivial
    · show yq_R st (ykk [] (S.2.1 ++ [.inr k]))
      rw [ykk_app, hK]
      show yq_R st (ykk KS [])
      cases KS <;> exact h4
    · have hne : st ≠ [] := hne
      have hpos : 1 ≤ st.length := by
        cases st with
        | nil => exact absurd rfl hne
        | cons _ _ => simp
      refine ⟨d, e2 ++ [.inr k], by show S.2.1 ++ [.inr k] = _; rw [r1]; rfl, r2, ?_⟩
      rw [(ye_opn_skip r3).1]
      show (if S.2.2.1.length ≤ 1 then none else ye_opn [] (S.2.2.1.length - 1)) = some st.length
      rw [if_neg (by omega), hl]
      rfl
    · right
      have he : st = [] := he
      refine ⟨d, e2 ++ [.inr k], by show S.2.1 ++ [.inr k] = _; rw [r1]; rfl, ?_⟩
      unfold ye_rest
      rw [if_pos r2, (ye_opn_skip r3).2]
      show (if S.2.2.1.length ≤ 1 then some [] else ye_skip [] (S.2.2.1.length - 1)) = some []
      rw [if_pos (by rw [hl, he]; decide)]
  cases hs : S.2.2.1 with
  | nil =>
    rw [yr_step0 hs] at h
    exact val (fun n ks st e => by rw [hs] at e; cases e) h
  | cons q st =>
    obtain ⟨k, n, ks⟩ := q
    have hk : k = 6 ∨ k = 7 := hok.2.2.2.2.2.2.2.1 (k, n, ks) (by rw [hs]; simp)
    cases hz : S.2.2.2 with
    | some w =>
      rw [yr_stepk hz] at h
      exact val (fun _ _ _ _ z => by rw [hz] at z; cases z) h
    | none =>
      rcases hk with h6 | h7
      · subst h6
        rw [yr_step6 hs hz] at h
        by_cases h93 : T (yp_sk T S.1) = 93
        · rw [if_pos h93] at h
          have hS' := (Sum.inl.inj h).symm
          subst hS'
          exact close 6 _ st _ hs hz
        · rw [if_neg h93] at h
          exact val (fun n' ks' st' e => by rw [hs] at e; cases e) h
      · subst h7
        rw [yr_step7 hs hz] at h
        by_cases h62 : T (yp_sk T S.1) = 62 ∧ T (yp_sk T S.1 + 1) = 62
        · rw [if_pos h62] at h
          have hS' := (Sum.inl.inj h).symm
          subst hS'
          exact close 7 _ st _ hs hz
        · rw [if_neg h62] at h
          by_cases hn : yp_isN T (yp_sk T S.1) = true ∧ yr_name T (yp_sk T S.1) ∉ ks
          · rw [if_pos hn] at h
            obtain ⟨hw, hnl⟩ := yr_name_ok hn.1
            have hS' := (Sum.inl.inj h).symm
            subst hS'
            have h3 := q3 hz
            rw [hs] at h3
            refine ⟨q1, q2, fun z => (by cases z), fun w hw2 => ?_, fun _ => ?_, fun e => (by cases e)⟩
            · have hw2 : yr_name T (yp_sk T S.1) = w := Option.some.inj hw2
              subst hw2
              refine ⟨n, ks, st, rfl, hn.2, fun z => ?_, h3⟩
              have := hw.1
              rw [z] at this
              simp at this
            · obtain ⟨d, e2, r1, r2, r3⟩ := q5 (by rw [hs]; simp)
              refine ⟨d, e2, r1, r2, ?_⟩
              rw [r3, hs]
              rfl
          · rw [if_neg hn] at h
            cases h
set_option maxRecDepth 100000 in
theorem yq_go {T : Int → Int} (hT : yp_T T) (hC : yp_C T) : ∀ (f : Nat) (S S' : yr_S), yr_ok S → (S.2.2.1 = [] → S.2.1 = []) → yq S → yr_go T f S = some (.inl S') → yq S' ∧ S'.2.2.1 = [] ∧ S'.2.1 ≠ []
  | 0, S, S', _, _, _, h => by cases h
  | f + 1, S, S', hok, hfirst, hq, h => by
    cases hs : yr_step T S with
    | inr w =>
      have e : yr_go T (f + 1) S = match yr_step T S with
        | .inr w => some (.inr w)
        | .inl S' => if S'.2.2.1 = [] then some (.inl S') else yr_go T f S' := rfl
      rw [e, hs] at h
      cases h
    | inl S1 =>
      rw [yr_go_step hs] at h
      obtain ⟨h1, h2⟩ := yr_step_ok hT hC hok hfirst hs
      have hq1 := yq_step hok hfirst hq hs
      by_cases hn : S1.2.2.1 = []
      · rw [if_pos hn] at h
        have h : S1 = S' := Sum.inl.inj (Option.some.inj h)
        subst h
        refine ⟨hq1, hn, fun z => ?_⟩
        -- the first step makes a node; a later one comes from something open
        cases hst : S.2.2.1 with
        | nil =>
          rw [yr_step0 hst] at hs
          unfold yr_val at hs
          split at hs
          · cases hs
          · have hS1 := (Sum.inl.inj hs).symm
            rw [hS1] at z
            have z : S.2.1 ++ [Sum.inl _] = [] := z
            simp at z
        | cons q st =>
          obtain ⟨d, e2, r1, _, _⟩ := hq.2.2.2.2.1 (by rw [hst]; simp)
          have hwf := h1.2.1
          rw [z] at hwf
          have hle : S.2.1.length ≤ S1.2.1.length := by
            obtain ⟨k, n, ks⟩ := q
            have hk : k = 6 ∨ k = 7 := hok.2.2.2.2.2.2.2.1 (k, n, ks) (by rw [hst]; simp)
            have vl : yr_val T S = .inl S1 → S.2.1.length ≤ S1.2.1.length := fun hv => by
              unfold yr_val at hv
              split at hv
              · cases hv
              · have hS1 := (Sum.inl.inj hv).symm
                rw [hS1]
                show S.2.1.length ≤ (S.2.1 ++ [_]).length
                simp
            cases hz : S.2.2.2 with
            | some w => rw [yr_stepk hz] at hs; exact vl hs
            | none =>
              rcases hk with h6 | h7
              · subst h6
                rw [yr_step6 hst hz] at hs
                split at hs
                · have hS1 := (Sum.inl.inj hs).symm
                  rw [hS1]
                  show S.2.1.length ≤ (S.2.1 ++ [_]).length
                  simp
                · exact vl hs
              · subst h7
                rw [yr_step7 hst hz] at hs
                split at hs
                · have hS1 := (Sum.inl.inj hs).symm
                  rw [hS1]
                  show S.2.1.length ≤ (S.2.1 ++ [_]).length
                  simp
                · split at hs
                  · have hS1 := (Sum.inl.inj hs).symm
                    rw [hS1]
                    exact Nat.le_refl _
                  · cases hs
          rw [z, r1] at hle
          simp at hle
      · rw [if_neg hn] at h
        exact yq_go hT hC f S1 S' h1 (fun z => absurd z hn) hq1 h
set_option maxRecDepth 100000 in
/-- a value that has been read -/
theorem yv_read {T : Int → Int} (hT : yp_T T) (hC : yp_C T) {p : Int} (p0 : 0 ≤ p) (p1 : p ≤ 1000) {S' : yr_S} (h : yr_read T p = some (.inl S')) (hok : yr_ok S') : yv S'.2.1 := by
  obtain ⟨hq, he, hne⟩ := yq_go hT hC 1100 (p, [], [], none) S' (yr_ok0 p0 p1) (fun _ => rfl) ⟨by show (0 : Int) ≤ 5; decide, trivial, fun _ => rfl, fun w hw => (by cases hw), fun z => absurd rfl z, fun _ => Or.inl rfl⟩ h
  obtain ⟨q1, q2, q3, q4, q5, q6⟩ := hq
  have hwf := hok.2.1
  rw [he] at hwf
  refine ⟨?_, ye_wfp_wf hwf, hok.2.2.2.2.1.2, q1, q2⟩
  rcases q6 he with z | z
  · exact absurd z hne
  · exact z
