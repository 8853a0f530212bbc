/-! READ-BACK: a printed value is read again, as far as kinds go -/
def ye_ke : ye_E → Int ⊕ Int
  | .inl d => .inl d.1
  | .inr k => .inr k
set_option maxRecDepth 100000 in
theorem ye_dm_ke : ∀ {a b : List ye_E} {q : Int × Int}, a.map ye_ke = b.map ye_ke → ye_dm q a = ye_dm q b ∧ yr_many a = yr_many b
  | [], [], _, _ => ⟨rfl, rfl⟩
  | [], e :: b, _, h => by simp at h
  | e :: a, [], _, h => by simp at h
  | .inl d :: a, .inl d' :: b, q, h => by
    obtain ⟨h1, h2⟩ := List.cons.inj h
    have h1 : d.1 = d'.1 := Sum.inl.inj h1
    have hn : ye_nest d = ye_nest d' := by unfold ye_nest; rw [h1]
    obtain ⟨i1, i2⟩ := ye_dm_ke (a := a) (b := b) (q := (if ye_nest d' = true then q.1 + 1 else q.1, if q.1 + 1 ≤ q.2 then q.2 else q.1 + 1)) h2
    refine ⟨?_, ?_⟩
    · show ye_dm (if ye_nest d = true then q.1 + 1 else q.1, if q.1 + 1 ≤ q.2 then q.2 else q.1 + 1) a = ye_dm (if ye_nest d' = true then q.1 + 1 else q.1, if q.1 + 1 ≤ q.2 then q.2 else q.1 + 1) b
      rw [hn]
      exact i1
    · show yr_many a + 1 = yr_many b + 1
      rw [i2]
  | .inl d :: a, .inr k :: b, _, h => by
    obtain ⟨h1, h2⟩ := List.cons.inj h
    cases h1
  | .inr k :: a, .inl d :: b, _, h => by
    obtain ⟨h1, h2⟩ := List.cons.inj h
    cases h1
  | .inr k :: a, .inr k' :: b, q, h => by
    obtain ⟨h1, h2⟩ := List.cons.inj h
    obtain ⟨i1, i2⟩ := ye_dm_ke (a := a) (b := b) (q := (q.1 - 1, q.2)) h2
    exact ⟨i1, i2⟩
set_option maxRecDepth 100000 in
theorem ye_dm_mono : ∀ (es : List ye_E) (L L' M M' : Int), L ≤ L' → M ≤ M' → (ye_dm (L, M) es).2 ≤ (ye_dm (L', M') es).2 ∧ M ≤ (ye_dm (L, M) es).2
  | [], L, L', M, M', _, h => ⟨h, Int.le_refl _⟩
  | .inl d :: es, L, L', M, M', h1, h2 => by
    obtain ⟨i1, i2⟩ := ye_dm_mono es (if ye_nest d = true then L + 1 else L) (if ye_nest d = true then L' + 1 else L') (if L + 1 ≤ M then M else L + 1) (if L' + 1 ≤ M' then M' else L' + 1) (by split <;> omega) (by split <;> split <;> omega)
    refine ⟨i1, ?_⟩
    have e : ye_dm (L, M) (.inl d :: es) = ye_dm (if ye_nest d = true then L + 1 else L, if L + 1 ≤ M then M else L + 1) es := rfl
    rw [e]
    refine Int.le_trans ?_ i2
    split <;> omega
  | .inr k :: es, L, L', M, M', h1, h2 => by
    obtain ⟨i1, i2⟩ := ye_dm_mono es (L - 1) (L' - 1) M M' (by omega) h2
    exact ⟨i1, i2⟩
def yr_Rk : List (Int × Nat × List (List Int)) → List (List (List Int)) → Prop
  | [], _ => True
  | _ :: _, [] => False
  | (_, _, ks) :: st, K :: KS => (∀ w ∈ ks, w ∈ K) ∧ yr_Rk st KS
set_option maxRecDepth 100000 in
/-- where a token ends -/
theorem yr_end_at {T : Int → Int} {p : Int} {d : ye_N} {es : List ye_E} (hd : ye_ok d) (ho : ye_oks es) (h : ye_at T p (ye_op d ++ (ye_pr (ye_nest d) es ++ [0]))) : yr_end T d.1 p = p + (ye_op d).length := by
  have nf : ∀ k, d.1 = k → k ≠ 6 → k ≠ 7 → ye_nest d = false := fun k e h6 h7 => decide_eq_false (by omega)
  unfold yr_end
  rcases hd.2 with (k | k | k | k | k) | ⟨k, h2⟩ | ⟨k, h2⟩ | ⟨k, h2, h3⟩ | ⟨k, h2, h3, h4, h5⟩
  · have eo : ye_op d = [110, 117, 108, 108] := by unfold ye_op; rw [if_pos k]
    rw [nf 0 k (by decide) (by decide), eo] at h
    rw [k, eo, if_neg (by decide), if_neg (by decide), if_neg (by decide), if_neg (by decide), if_neg (by decide)]
    exact ye_word (by simp) (by decide) ho h
  · have eo : ye_op d = [116, 114, 117, 101] := by unfold ye_op; rw [if_neg (by omega), if_pos k]
    rw [nf 1 k (by decide) (by decide), eo] at h
    rw [k, eo, if_neg (by decide), if_neg (by decide), if_neg (by decide), if_neg (by decide), if_neg (by decide)]
    exact ye_word (by simp) (by decide) ho h
  · have eo : ye_op d = [102, 97, 108, 115, 101] := by unfold ye_op; rw [if_neg (by omega), if_neg (by omega), if_pos k]
    rw [nf 2 k (by decide) (by decide), eo] at h
    rw [k, eo, if_neg (by decide), if_neg (by decide), if_neg (by decide), if_neg (by decide), if_neg (by decide)]
    exact ye_word (by simp) (by decide) ho h
  · have eo : ye_op d = [91] := by unfold ye_op; rw [if_neg (by omega), if_neg (by omega), if_neg (by omega), if_neg (by omega), if_neg (by omega), if_neg (by omega), if_pos k]
    rw [k, eo, if_neg (by decide), if_neg (by decide), if_neg (by decide), if_pos rfl]
    simp
  · have eo : ye_op d = [60, 60] := by unfold ye_op; rw [if_neg (by omega), if_neg (by omega), if_neg (by omega), if_neg (by omega), if_neg (by omega), if_neg (by omega), if_neg (by omega), if_pos k]
    rw [k, eo, if_neg (by decide), if_neg (by decide), if_neg (by decide), if_neg (by decide), if_pos rfl]
    simp
  · have eo : ye_op d = ye_num d.2.1 := by unfold ye_op; rw [if_neg (by omega), if_neg (by omega), if_neg (by omega), if_pos k]
    rw [nf 3 k (by decide) (by decide), eo] at h
    rw [k, eo, if_neg (by decide), if_neg (by decide), if_neg (by decide), if_neg (by decide), if_neg (by decide)]
    exact (ye_num_wd h2 ho h).1
  · have eo : ye_op d = 47 :: d.2.2.2.2 := by unfold ye_op; rw [if_neg (by omega), if_neg (by omega), if_neg (by omega), if_neg (by omega), if_pos k]
    rw [nf 4 k (by decide) (by decide), eo] at h
    rw [k, eo, if_neg (by decide), if_pos rfl]
    have hb := (ye_at_app.mp h).2
    have hb2 := ye_bd_nc ho hb
    rw [show p + (((47 :: d.2.2.2.2).length : Nat) : Int) = p + 1 + (d.2.2.2.2.length : Nat) by simp; omega] at hb2 ⊢
    exact (ye_name h2 h hb2).1
  · have eo : ye_op d = 40 :: (ye_esc d.2.2.2.2 ++ [41]) := by unfold ye_op; rw [if_neg (by omega), if_neg (by omega), if_neg (by omega), if_neg (by omega), if_neg (by omega), if_pos k]
    rw [nf 5 k (by decide) (by decide), eo] at h
    rw [k, eo, if_neg (by decide), if_neg (by decide), if_pos rfl]
    have h' : ye_at T p (40 :: (ye_esc d.2.2.2.2 ++ 41 :: (ye_pr false es ++ [0]))) := by simpa using h
    rw [ye_strend h2 h3 h']
    simp
    omega
  · have eo : ye_op d = [48 + d.2.1, 32, 48 + d.2.2.1, 32, 82] := by unfold ye_op; rw [if_neg (by omega), if_neg (by omega), if_neg (by omega), if_neg (by omega), if_neg (by omega), if_neg (by omega), if_neg (by omega), if_neg (by omega)]
    rw [nf 8 k (by decide) (by decide), eo] at h
    rw [k, eo, if_pos rfl]
    exact ye_ref_end ⟨h2, h3⟩ ⟨h4, h5⟩ ho h
set_option maxRecDepth 100000 in
/-- one value is read -/
theorem yr_val_at {T : Int → Int} {p2 : Int} {S : yr_S} {d : ye_N} {es : List ye_E} (p0 : 0 ≤ p2) (hs : yp_sk T S.1 = p2) (hd : ye_ok d) (ho : ye_oks es) (h : ye_at T p2 (ye_op d ++ (ye_pr (ye_nest d) es ++ [0]))) (h5 : S.2.2.1.length ≠ 5) (h12 : yr_many S.2.1 ≠ 12) : yr_val T S = .inl (p2 + (ye_op d).length, S.2.1 ++ [.inl (yr_nd T d.1 p2 (S.2.2.2.getD []))], yr_push d.1 (yr_part S.2.2.1), none) := by
  have hk := ye_kind p0 hd ho h
  have hkk := hd.kinds
  unfold yr_val
  rw [hs, hk, if_neg (by omega), yr_end_at hd ho h]
set_option maxRecDepth 100000 in
theorem yr_go_step {T : Int → Int} {f : Nat} {S S' : yr_S} (h : yr_step T S = .inl S') : yr_go T (f + 1) S = if S'.2.2.1 = [] then some (.inl S') else yr_go T f S' := by
  have e : yr_go T (f + 1) S = match yr_step T S with
    | .inr w => some (.inr w)
    | .inl S' => if S'.2.2.1 = [] then some (.inl S') else yr_go T f S' := rfl
  rw [e, h]
set_option maxRecDepth 100000 in
theorem yr_part_ne {st : List (Int × Nat × List (List Int))} (h : st ≠ []) (k : Int) : yr_push k (yr_part st) ≠ [] := by
  cases st with
  | nil => exact absurd rfl h
  | cons q st =>
    unfold yr_push
    split
    · simp
    · intro z; cases z
set_option maxRecDepth 100000 in
theorem ye_op_sp {T : Int → Int} {p : Int} {d : ye_N} {l : List Int} (hd : ye_ok d) (h : ye_at T p (ye_op d ++ l)) : yp_sp (T p) = false ∧ T p ≠ 93 ∧ T p ≠ 62 := by
  obtain ⟨c, r, ec, h1, h2, h3, h4, h5, h6, _⟩ := ye_op_hd hd
  rw [ec] at h
  have := ye_at_hd h
  rw [this]
  exact ⟨decide_eq_false (by omega), h4, h5⟩
set_option maxRecDepth 100000 in
theorem yr_back {T : Int → Int} : ∀ (es : List ye_E) (f : Bool) (p : Int) (E : List ye_E) (k0 : Int) (n : Nat) (ks : List (List Int)) (st : List (Int × Nat × List (List Int))) (KS : List (List (List Int))) (out : List Int) (R B : List ye_E) (F : Nat) (M : Int), ye_su T p f es → 0 ≤ p → (∀ q ∈ (k0, n, ks) :: st, q.1 = 6 ∨ q.1 = 7) → ye_wf (k0 :: (st.map Prod.fst ++ out)) es → ye_skip es (st.length + 1) = some R → es = B ++ R → yr_Rk ((k0, n, ks) :: st) KS → ye_kd KS es → (ye_dm ((st.length : Int) + 1, M) B).2 ≤ 5 → yr_many E + yr_many B ≤ 12 → 2 * es.length ≤ F → ∃ p' E', yr_go T F (p, E, (k0, n, ks) :: st, none) = some (.inl (p', E', [], none)) ∧ E'.map ye_ke = (E ++ B).map ye_ke
  | [], f, p, E, k0, n, ks, st, KS, out, R, B, F, M, _, _, _, _, hs, _, _, _, _, _, _ => by cases hs
  | .inr k :: es, f, p, E, k0, n, ks, st, KS, out, R, B, F, M, hsu, p0, hkk, hwf, hs, hB, hRk, hkd, hdm, hmany, hF => by
    obtain ⟨w1, w2, w3⟩ := hwf
    subst w1
    have hc := ye_su_cl hsu
    obtain ⟨hc1, hc2⟩ := ye_at_app.mp hc
    have lc : (ye_cl k).length = if k = 6 then 1 else 2 := by unfold ye_cl; split <;> rfl
    obtain ⟨F', hF'⟩ : ∃ F', F = F' + 1 := ⟨F - 1, by simp only [List.length_cons] at hF; omega⟩
    subst hF'
    have hstep : yr_step T (p, E, (k, n, ks) :: st, none) = .inl (p + (ye_cl k).length, E ++ [.inr k], st, none) := by
      rcases w2 with e | e
      · subst e
        have t0 : T p = 93 := ye_at_hd hc1
        have sk : yp_sk T p = p := ye_sk0 (by rw [t0]; rfl)
        rw [yr_step6 (S := (p, E, (6, n, ks) :: st, none)) rfl rfl]
        show (if T (yp_sk T p) = 93 then _ else _) = _
        rw [sk, if_pos t0]
        rfl
      · subst e
        have hc3 : ye_at T p [62, 62] := hc1
        obtain ⟨t0, t1⟩ := ye_at_cons.mp hc3
        have t1 := ye_at_hd t1
        have sk : yp_sk T p = p := ye_sk0 (by rw [t0]; rfl)
        rw [yr_step7 (S := (p, E, (7, n, ks) :: st, none)) rfl rfl]
        show (if T (yp_sk T p) = 62 ∧ T (yp_sk T p + 1) = 62 then _ else _) = _
        rw [sk, if_pos ⟨t0, t1⟩]
        rfl
    rw [yr_go_step hstep]
    have hsk : (if st.length + 1 ≤ 1 then some es else ye_skip es (st.length + 1 - 1)) = some R := hs
    cases st with
    | nil =>
      have hR : es = R := by simpa using hsk
      subst hR
      have hB2 : B = [.inr k] := by
        have : [Sum.inr k] ++ es = B ++ es := hB
        exact (List.append_cancel_right this).symm
      subst hB2
      exact ⟨_, _, if_pos rfl, rfl⟩
    | cons q st =>
      obtain ⟨k1, n1, ks1⟩ := q
      have hsk : ye_skip es (st.length + 1) = some R := by
        rw [if_neg (by simp)] at hsk
        simpa using hsk
      have hlen := ye_skip_len hsk
      obtain ⟨B', hB'⟩ : ∃ B', B = .inr k :: B' := by
        cases B with
        | nil =>
          have := congrArg List.length hB
          simp at this
          omega
        | cons b B =>
          have := (List.cons.inj hB).1
          exact ⟨B, by rw [this]⟩
      subst hB'
      have hB3 : es = B' ++ R := (List.cons.inj hB).2
      rw [if_neg (by simp)]
      have hRk2 : yr_Rk ((k1, n1, ks1) :: st) KS.tail := by
        cases KS with
        | nil => cases hRk
        | cons K KS => exact hRk.2
      have hkd2 : ye_kd KS.tail es := by
        cases KS with
        | nil => cases hRk
        | cons K KS => exact hkd
      have hdm2 : (ye_dm ((st.length : Int) + 1, M) B').2 ≤ 5 := by
        have e : ye_dm ((((k1, n1, ks1) :: st).length : Int) + 1, M) (.inr k :: B') = ye_dm ((((k1, n1, ks1) :: st).length : Int) + 1 - 1, M) B' := rfl
        rw [e] at hdm
        simp only [List.length_cons] at hdm
        rw [show (((st.length + 1 : Nat) : Int) + 1 - 1) = (st.length : Int) + 1 by omega] at hdm
        exact hdm
      obtain ⟨p', E', r1, r2⟩ := yr_back es false (p + (ye_cl k).length) (E ++ [.inr k]) k1 n1 ks1 st KS.tail out R B' F' M hc2 (by omega) (fun q hq => hkk q (List.mem_cons_of_mem _ hq)) w3 hsk hB3 hRk2 hkd2 hdm2 (by rw [yr_many_app2]; have : yr_many (.inr k :: B') = yr_many B' := rfl; have : yr_many [Sum.inr k] = 0 := rfl; omega) (by simp only [List.length_cons] at hF; omega)
      exact ⟨p', E', r1, by rw [r2]; simp⟩
  | .inl d :: es, f, p, E, k0, n, ks, st, KS, out, R, B, F, M, hsu, p0, hkk, hwf, hs, hB, hRk, hkd, hdm, hmany, hF => by
    obtain ⟨w1, w2, w3⟩ := hwf
    have w2 : (k0 = 7 → d.2.2.2.1 ≠ []) ∧ (k0 ≠ 7 → d.2.2.2.1 = []) := w2
    have hoes : ye_oks es := w3.oks
    have hsk : ye_skip es (if ye_nest d = true then st.length + 1 + 1 else st.length + 1) = some R := hs
    have hlen := ye_skip_len hsk
    obtain ⟨B', hB'⟩ : ∃ B', B = .inl d :: B' := by
      cases B with
      | nil =>
        have := congrArg List.length hB
        simp at this
        omega
      | cons b B =>
        have := (List.cons.inj hB).1
        exact ⟨B, by rw [this]⟩
    subst hB'
    have hB3 : es = B' ++ R := (List.cons.inj hB).2
    obtain ⟨K, KS', hKS⟩ : ∃ K KS', KS = K :: KS' := by
      cases KS with
      | nil => cases hRk
      | cons K KS => exact ⟨K, KS, rfl⟩
    subst hKS
    obtain ⟨rk1, rk2⟩ := hRk
    obtain ⟨kd1, kd2⟩ := hkd
    -- where key or token stand
    have hb : ∃ p1, 0 ≤ p1 ∧ yp_sk T p = p1 ∧ ye_at T p1 (ye_ky d ++ (ye_op d ++ (ye_pr (ye_nest d) es ++ [0]))) := by
      have hsp : ∀ p1, ye_at T p1 (ye_ky d ++ (ye_op d ++ (ye_pr (ye_nest d) es ++ [0]))) → yp_sp (T p1) = false := fun p1 h => by
        by_cases hk : d.2.2.2.1 = []
        · have hky : ye_ky d = [] := by unfold ye_ky; rw [if_pos hk]
          rw [hky] at h
          exact (ye_op_sp w1 h).1
        · have hky : ye_ky d = 47 :: (d.2.2.2.1 ++ [32]) := by unfold ye_ky; rw [if_neg hk]
          rw [hky] at h
          rw [ye_at_hd h]
          rfl
      cases f with
      | true =>
        have h1 := ye_su_node1 hsu
        exact ⟨p, p0, ye_sk0 (hsp p h1), h1⟩
      | false =>
        obtain ⟨a1, a2⟩ := ye_su_node hsu
        exact ⟨p + 1, by omega, ye_sk1 a1 (hsp (p + 1) a2), a2⟩
    obtain ⟨p1, p10, hsk1, ha⟩ := hb
    obtain ⟨hky1, hop⟩ := ye_at_app.mp ha
    have h5 : (st.length : Int) + 1 + 1 ≤ 5 := by
      have e : ye_dm ((st.length : Int) + 1, M) (.inl d :: B') = ye_dm (if ye_nest d = true then (st.length : Int) + 1 + 1 else (st.length : Int) + 1, if (st.length : Int) + 1 + 1 ≤ M then M else (st.length : Int) + 1 + 1) B' := rfl
      obtain ⟨M', hM', hle⟩ : ∃ M', M' = (if (st.length : Int) + 1 + 1 ≤ M then M else (st.length : Int) + 1 + 1) ∧ (st.length : Int) + 1 + 1 ≤ M' := ⟨_, rfl, by split <;> omega⟩
      rw [e, ← hM'] at hdm
      have := (ye_dm_mono B' (if ye_nest d = true then (st.length : Int) + 1 + 1 else (st.length : Int) + 1) (if ye_nest d = true then (st.length : Int) + 1 + 1 else (st.length : Int) + 1) M' M' (Int.le_refl _) (Int.le_refl _)).2
      omega
    have hm12 : yr_many E ≠ 12 := by
      have : yr_many (.inl d :: B') = yr_many B' + 1 := rfl
      omega
    -- behind the token all goes on
    have go : ∀ (ks2 : List (List Int)) (nd : ye_N) (F2 : Nat), nd.1 = d.1 → (∀ w ∈ ks2, w ∈ d.2.2.2.1 :: K) → 2 * es.length ≤ F2 → ∃ p' E', yr_go T F2 (p1 + (ye_ky d).length + (ye_op d).length, E ++ [.inl nd], yr_push d.1 (yr_part ((k0, n, ks2) :: st)), none) = some (.inl (p', E', [], none)) ∧ E'.map ye_ke = (E ++ .inl d :: B').map ye_ke := fun ks2 nd F2 hnd hks2 hF2 => by
      obtain ⟨_, hr⟩ := ye_at_app.mp hop
      have hmm : yr_many (E ++ [.inl nd]) + yr_many B' ≤ 12 := by
        rw [yr_many_app2]
        have : yr_many (.inl d :: B') = yr_many B' + 1 := rfl
        have : yr_many [Sum.inl nd] = 1 := rfl
        omega
      have hke : ∀ E' : List ye_E, E'.map ye_ke = (E ++ [(Sum.inl nd : ye_E)] ++ B').map ye_ke → E'.map ye_ke = (E ++ .inl d :: B').map ye_ke := fun E' h => by
        rw [h]
        simp [ye_ke, hnd]
      have hdm0 : (ye_dm (if ye_nest d = true then (st.length : Int) + 1 + 1 else (st.length : Int) + 1, if (st.length : Int) + 1 + 1 ≤ M then M else (st.length : Int) + 1 + 1) B').2 ≤ 5 := hdm
      cases hn : ye_nest d with
      | true =>
        rw [hn] at hr w3 hsk kd2 hdm0
        simp only [if_true] at w3 hsk kd2 hdm0
        have hk67 : d.1 = 6 ∨ d.1 = 7 := of_decide_eq_true hn
        have ep : yr_push d.1 (yr_part ((k0, n, ks2) :: st)) = (d.1, 0, []) :: (k0, n + 1, ks2) :: st := by
          unfold yr_push
          rw [if_pos hk67]
          rfl
        rw [ep]
        obtain ⟨p', E', r1, r2⟩ := yr_back es true (p1 + (ye_ky d).length + (ye_op d).length) (E ++ [.inl nd]) d.1 0 [] ((k0, n + 1, ks2) :: st) ([] :: (d.2.2.2.1 :: K) :: KS') out R B' F2 _ hr (by omega) (fun q hq => by
          rcases List.mem_cons.mp hq with z | z
          · rw [z]; exact hk67
          · rcases List.mem_cons.mp z with z | z
            · rw [z]; exact hkk (k0, n, ks) (by simp)
            · exact hkk q (List.mem_cons_of_mem _ z)) w3 hsk hB3 ⟨fun w hw => (by cases hw), hks2, rk2⟩ kd2 (by simp only [List.length_cons]; rw [show (((st.length + 1 : Nat) : Int) + 1) = (st.length : Int) + 1 + 1 by omega]; exact hdm0) hmm hF2
        exact ⟨p', E', r1, hke E' r2⟩
      | false =>
        rw [hn] at hr w3 hsk kd2 hdm0
        simp only [Bool.false_eq_true, if_false] at w3 hsk kd2 hdm0
        have hk67 : ¬ (d.1 = 6 ∨ d.1 = 7) := of_decide_eq_false hn
        have ep : yr_push d.1 (yr_part ((k0, n, ks2) :: st)) = (k0, n + 1, ks2) :: st := by
          unfold yr_push
          rw [if_neg hk67]
          rfl
        rw [ep]
        obtain ⟨p', E', r1, r2⟩ := yr_back es false (p1 + (ye_ky d).length + (ye_op d).length) (E ++ [.inl nd]) k0 (n + 1) ks2 st ((d.2.2.2.1 :: K) :: KS') out R B' F2 _ hr (by omega) (fun q hq => by
          rcases List.mem_cons.mp hq with z | z
          · rw [z]; exact hkk (k0, n, ks) (by simp)
          · exact hkk q (List.mem_cons_of_mem _ z)) w3 hsk hB3 ⟨hks2, rk2⟩ kd2 hdm0 hmm hF2
        exact ⟨p', E', r1, hke E' r2⟩
    simp only [List.length_cons] at hF
    have p20 : 0 ≤ p1 + ((ye_ky d).length : Int) := by omega
    rcases hkk (k0, n, ks) (by simp) with hk0 | hk0
    · -- an array's part
      have hk0 : k0 = 6 := hk0
      subst hk0
      have hkey : d.2.2.2.1 = [] := w2.2 (by decide)
      have hky : ye_ky d = [] := by unfold ye_ky; rw [if_pos hkey]
      obtain ⟨F', hF'⟩ : ∃ F', F = F' + 1 := ⟨F - 1, by omega⟩
      subst hF'
      have hop1 : ye_at T p1 (ye_op d ++ (ye_pr (ye_nest d) es ++ [0])) := by
        rw [hky] at hop
        simpa using hop
      have h93 : T p1 ≠ 93 := (ye_op_sp w1 hop1).2.1
      have hstep : yr_step T (p, E, (6, n, ks) :: st, none) = .inl (p1 + (ye_op d).length, E ++ [.inl (yr_nd T d.1 p1 [])], yr_push d.1 (yr_part ((6, n, ks) :: st)), none) := by
        rw [yr_step6 (S := (p, E, (6, n, ks) :: st, none)) rfl rfl]
        show (if T (yp_sk T p) = 93 then _ else yr_val T _) = _
        rw [hsk1, if_neg h93]
        exact yr_val_at (S := (p, E, (6, n, ks) :: st, none)) p10 hsk1 w1 hoes hop1 (by show ((6, n, ks) :: st).length ≠ 5; simp only [List.length_cons]; omega) hm12
      rw [yr_go_step hstep, if_neg (yr_part_ne (by simp) _)]
      have := go ks (yr_nd T d.1 p1 []) F' rfl (fun w hw => List.mem_cons_of_mem _ (rk1 w hw)) (by omega)
      rw [hky] at this
      simpa using this
    · -- a dictionary's part: its key, then its value
      have hk0 : k0 = 7 := hk0
      subst hk0
      have hkey : d.2.2.2.1 ≠ [] := w2.1 rfl
      have hky : ye_ky d = 47 :: (d.2.2.2.1 ++ [32]) := by unfold ye_ky; rw [if_neg hkey]
      have hnm : ye_nm d.2.2.2.1 := by
        rcases w1.1 with z | z
        · exact absurd z hkey
        · exact z
      obtain ⟨F', hF'⟩ : ∃ F', F = F' + 1 + 1 := ⟨F - 2, by omega⟩
      subst hF'
      rw [hky] at hky1
      obtain ⟨t47, hk2⟩ := ye_at_cons.mp hky1
      obtain ⟨hk3, hk4⟩ := ye_at_app.mp hk2
      have t32 : T (p1 + 1 + (d.2.2.2.1.length : Nat)) = 32 := ye_at_hd hk4
      obtain ⟨nm1, nm2⟩ := ye_name hnm hky1 (by rw [t32]; rfl)
      have hname : yr_name T p1 = d.2.2.2.1 := by
        unfold yr_name
        rw [nm1, show (p1 + 1 + ((d.2.2.2.1.length : Nat) : Int) - (p1 + 1)).toNat = d.2.2.2.1.length by omega]
        exact yp_sub_at _ _ hk3
      have hnin : d.2.2.2.1 ∉ ks := fun z => by
        rcases kd1 with z1 | z1
        · exact hkey z1
        · exact z1 (rk1 _ z)
      have hstep : yr_step T (p, E, (7, n, ks) :: st, none) = .inl (p1 + 1 + (d.2.2.2.1.length : Nat), E, (7, n, ks ++ [d.2.2.2.1]) :: st, some d.2.2.2.1) := by
        rw [yr_step7 (S := (p, E, (7, n, ks) :: st, none)) rfl rfl]
        show (if T (yp_sk T p) = 62 ∧ T (yp_sk T p + 1) = 62 then _ else if yp_isN T (yp_sk T p) = true ∧ yr_name T (yp_sk T p) ∉ ks then _ else _) = _
        rw [hsk1, hname, if_neg (fun z => by rw [t47] at z; exact absurd z.1 (by decide)), if_pos ⟨nm2, hnin⟩, nm1]
      rw [yr_go_step hstep, if_neg (by simp)]
      have lky : ((ye_ky d).length : Int) = (d.2.2.2.1.length : Nat) + 2 := by
        rw [hky]
        simp
        omega
      have hsk2 : yp_sk T (p1 + 1 + (d.2.2.2.1.length : Nat)) = p1 + (ye_ky d).length := by
        have : yp_sk T (p1 + 1 + (d.2.2.2.1.length : Nat)) = p1 + 1 + (d.2.2.2.1.length : Nat) + 1 := ye_sk1 t32 (by
          rw [show p1 + 1 + ((d.2.2.2.1.length : Nat) : Int) + 1 = p1 + (ye_ky d).length by omega]
          exact (ye_op_sp w1 hop).1)
        omega
      have hstep2 : yr_step T (p1 + 1 + (d.2.2.2.1.length : Nat), E, (7, n, ks ++ [d.2.2.2.1]) :: st, some d.2.2.2.1) = .inl (p1 + (ye_ky d).length + (ye_op d).length, E ++ [.inl (yr_nd T d.1 (p1 + (ye_ky d).length) d.2.2.2.1)], yr_push d.1 (yr_part ((7, n, ks ++ [d.2.2.2.1]) :: st)), none) := by
        rw [yr_stepk (S := (p1 + 1 + (d.2.2.2.1.length : Nat), E, (7, n, ks ++ [d.2.2.2.1]) :: st, some d.2.2.2.1)) rfl]
        exact yr_val_at (S := (p1 + 1 + (d.2.2.2.1.length : Nat), E, (7, n, ks ++ [d.2.2.2.1]) :: st, some d.2.2.2.1)) p20 hsk2 w1 hoes hop (by show ((7, n, ks ++ [d.2.2.2.1]) :: st).length ≠ 5; simp only [List.length_cons]; omega) hm12
      rw [yr_go_step hstep2, if_neg (yr_part_ne (by simp) _)]
      exact go (ks ++ [d.2.2.2.1]) (yr_nd T d.1 (p1 + (ye_ky d).length) d.2.2.2.1) F' rfl (fun w hw => by
        rcases List.mem_append.mp hw with z | z
        · exact List.mem_cons_of_mem _ (rk1 w z)
        · rw [List.mem_singleton.mp z]; exact List.mem_cons_self) (by omega)
set_option maxRecDepth 100000 in
/-- a value's text, read from its beginning -/
theorem yr_back0 {T : Int → Int} {p : Int} {d : ye_N} {es R B : List ye_E} {st : List Int} {KS : List (List (List Int))} (p0 : 0 ≤ p) (hwf : ye_wf st (.inl d :: es)) (h : ye_at T p (ye_op d ++ (ye_pr (ye_nest d) es ++ [0]))) (hr : ye_rest d es = some R) (hB : es = B ++ R) (hkd : ye_kd KS (.inl d :: es)) (hdm : (ye_dm (0, 0) (.inl d :: B)).2 ≤ 5) (hmany : yr_many (.inl d :: B) ≤ 12) (hl : es.length ≤ 40) : ∃ p' E', yr_read T p = some (.inl (p', E', [], none)) ∧ E'.map ye_ke = (.inl d :: B : List ye_E).map ye_ke := by
  obtain ⟨w1, w2, w3⟩ := hwf
  have hsk : yp_sk T p = p := ye_sk0 (by exact (ye_op_sp w1 h).1)
  have hstep : yr_step T (p, [], [], none) = .inl (p + (ye_op d).length, [.inl (yr_nd T d.1 p [])], yr_push d.1 [], none) := by
    rw [yr_step0 (S := (p, [], [], none)) rfl]
    exact yr_val_at (S := (p, [], [], none)) p0 hsk w1 w3.oks h (by simp) (by show (0 : Nat) ≠ 12; decide)
  have e0 : yr_read T p = yr_go T (1099 + 1) (p, [], [], none) := rfl
  rw [e0, yr_go_step hstep]
  unfold ye_rest at hr
  cases hn : ye_nest d with
  | false =>
    rw [hn] at hr
    simp only [Bool.false_eq_true, if_false] at hr
    cases hr
    have hB2 : B = [] := by
      have : [] ++ es = B ++ es := hB
      exact (List.append_cancel_right this).symm
    subst hB2
    have hk67 : ¬ (d.1 = 6 ∨ d.1 = 7) := of_decide_eq_false hn
    have ep : yr_push d.1 [] = [] := by unfold yr_push; rw [if_neg hk67]
    rw [ep]
    exact ⟨_, _, if_pos rfl, rfl⟩
  | true =>
    rw [hn] at hr w3
    simp only [if_true] at hr w3
    have hk67 : d.1 = 6 ∨ d.1 = 7 := of_decide_eq_true hn
    have ep : yr_push d.1 [] = [(d.1, 0, [])] := by unfold yr_push; rw [if_pos hk67]
    rw [ep, if_neg (by simp)]
    obtain ⟨_, hs⟩ := ye_at_app.mp h
    rw [hn] at hs
    have hdm2 : (ye_dm (((([] : List (Int × Nat × List (List Int))).length : Nat) : Int) + 1, 1) B).2 ≤ 5 := by
      have e : ye_dm (0, 0) (.inl d :: B) = ye_dm (if ye_nest d = true then (0 : Int) + 1 else 0, if (0 : Int) + 1 ≤ 0 then 0 else (0 : Int) + 1) B := rfl
      rw [e, hn] at hdm
      simpa using hdm
    obtain ⟨KS2, hkd2⟩ : ∃ KS2, ye_kd ([] :: KS2) es := by
      cases KS with
      | nil =>
        have hkd : ye_kd (if ye_nest d = true then [[]] else []) es := hkd
        rw [if_pos hn] at hkd
        exact ⟨_, hkd⟩
      | cons K KS =>
        have hkd := hkd.2
        rw [if_pos hn] at hkd
        exact ⟨_, hkd⟩
    obtain ⟨p', E', r1, r2⟩ := yr_back es true (p + (ye_op d).length) [.inl (yr_nd T d.1 p [])] d.1 0 [] [] ([] :: KS2) st R B 1099 1 hs (by omega) (fun q hq => by rw [List.mem_singleton.mp hq]; exact hk67) w3 hr hB ⟨fun w hw => (by cases hw), trivial⟩ hkd2 hdm2 (by
      have : yr_many (.inl d :: B) = yr_many B + 1 := rfl
      have : yr_many [Sum.inl (yr_nd T d.1 p [])] = 1 := rfl
      omega) (by omega)
    exact ⟨p', E', r1, by rw [r2]; rfl⟩
set_option maxRecDepth 100000 in
theorem ye_kd_split : ∀ {pre es : List ye_E} {KS : List (List (List Int))}, ye_kd KS (pre ++ es) → ∃ KS', ye_kd KS' es
  | [], es, KS, h => ⟨KS, h⟩
  | .inl d :: pre, es, [], h => ye_kd_split (pre := pre) (by
    have h : ye_kd (if ye_nest d = true then [[]] else []) (pre ++ es) := h
    exact h)
  | .inl d :: pre, es, K :: KS, h => ye_kd_split (pre := pre) h.2
  | .inr k :: pre, es, [], h => ye_kd_split (pre := pre) (KS := []) h
  | .inr k :: pre, es, K :: KS, h => ye_kd_split (pre := pre) (KS := KS) h
