/-! the reference reads: read -/
set_option maxRecDepth 100000 in
theorem yr_step7 {T : Int → Int} {S : yr_S} {n : Nat} {ks : List (List Int)} {st : List (Int × Nat × List (List Int))} (hs : S.2.2.1 = (7, n, ks) :: st) (hkey : S.2.2.2 = none) : yr_step T S = if T (yp_sk T S.1) = 62 ∧ T (yp_sk T S.1 + 1) = 62 then .inl (yp_sk T S.1 + 2, S.2.1 ++ [.inr 7], st, none) else if yp_isN T (yp_sk T S.1) = true ∧ yr_name T (yp_sk T S.1) ∉ ks then .inl (yp_nm T (yp_sk T S.1), S.2.1, (7, n, ks ++ [yr_name T (yp_sk T S.1)]) :: st, some (yr_name T (yp_sk T S.1))) else .inr (yp_sk T S.1) := by
  unfold yr_step
  rw [hs, hkey]
  show (if (7 : Int) = 7 then _ else _) = _
  rw [if_pos rfl]
set_option maxRecDepth 100000 in
theorem yr_step6 {T : Int → Int} {S : yr_S} {n : Nat} {ks : List (List Int)} {st : List (Int × Nat × List (List Int))} (hs : S.2.2.1 = (6, n, ks) :: st) (hkey : S.2.2.2 = none) : yr_step T S = if T (yp_sk T S.1) = 93 then .inl (yp_sk T S.1 + 1, S.2.1 ++ [.inr 6], st, none) else yr_val T S := by
  unfold yr_step
  rw [hs, hkey]
  show (if (6 : Int) = 7 then _ else _) = _
  rw [if_neg (by decide)]
set_option maxRecDepth 100000 in
theorem yr_step0 {T : Int → Int} {S : yr_S} (hs : S.2.2.1 = []) : yr_step T S = yr_val T S := by
  unfold yr_step
  rw [hs]
set_option maxRecDepth 100000 in
theorem yr_stepk {T : Int → Int} {S : yr_S} {w : List Int} (hkey : S.2.2.2 = some w) : yr_step T S = yr_val T S := by
  unfold yr_step
  rw [hkey]
  cases S.2.2.1 with
  | nil => rfl
  | cons q st => rfl
section YRD
variable {X : Nat × (Nat → Int32)} {K : zq_S → Prop}
set_option maxRecDepth 100000 in
theorem ys_145_42 {q : Int} (hq : ym_q q) (hq3 : q ≠ 3) (T : Int → Int) (hC : yp_C T) {x : Int} (hx : zq_iv x) : ∀ (f : Nat) (s : zq_S) (S : yr_S) (v4 : Value), v4.category = 1 → ym_I s → ym_c s q = T → ymr s S → yr_ok S → (S.2.2.1 = [] → S.2.1 = []) → ∀ r, yr_go T f S = some r →
    (∀ s' w, r = .inr w → zq_i s' 232 26 = w → 0 ≤ w → 0 ≤ zq_i s' 232 25 → zq_i s' 232 25 ≤ 1000 → zq_i s' 232 23 ≤ 453 → ymf ymr_J ymr_A s s' → K s') →
    (∀ s' S', r = .inl S' → ymr s' S' → yr_ok S' → S'.2.2.1 = [] → ymf ymr_J ymr_A s s' → K s') →
    zq_Ex X 145 42 [.ref 232, zq_vi q, zq_vi x, zq_vi 1, v4] [] s (zq_rv K) := by
  intro f
  induction f with
  | zero => intro s S v4 _ _ _ _ _ _ r h; cases h
  | succ f ih =>
    intro s S v4 hv4 hI hT hr hok hfirst r hgo kf kk
    have hTb := hI.T hq
    rw [hT] at hTb
    have hml := yr_made_len hok
    obtain ⟨a0, a1⟩ := hok.1
    have hat1 := yp_sk_le (T := T) S.1
    have hat2 := yp_sk_lt hTb a1
    obtain ⟨r1, r2, r3, r4, r5, r6, r7, r8, r9, r10⟩ := id hr
    have hlen5 := hok.2.2.2.2.1.1
    unfold yr_go at hgo
    generalize hat : yp_sk T S.1 = at_ at hat1 hat2
    have hatin : zq_iv at_ := ⟨by omega, by omega⟩
    have b1 : zq_bo 1 := Or.inr rfl
    -- behind a step
    have fault : yr_step T S = .inr at_ → zq_Ex X 145 156 [.ref 232, zq_vi q, zq_vi x, zq_vi 1, zq_vi at_] [] (zq_si s 232 26 at_) (zq_rv K) := fun hstep => by
      rw [hstep] at hgo
      cases hgo
      refine zw_145_156 hq.in hx b1 hatin ?_
      have e : zq_i (zq_si s 232 26 at_) 232 26 = at_ := by rw [zq_i_si, if_pos ⟨rfl, rfl⟩]
      rw [if_neg (by rw [e]; omega)]
      refine zw_145_42 hq.in hx (Or.inl rfl) rfl ?_
      rw [if_pos rfl]
      refine kf _ at_ rfl e (by omega) ?_ ?_ ?_ (ymf.sf (by simp))
      · rw [zq_i_si, if_neg (by decide), r1]; exact a0
      · rw [zq_i_si, if_neg (by decide), r1]; exact a1
      · rw [zq_i_si, if_neg (by decide), r10.1]; omega
    have good : ∀ (S' : yr_S) (s' : zq_S), yr_step T S = .inl S' → ymr s' S' → yr_ok S' → ymf ymr_J ymr_A s s' → zq_Ex X 145 156 [.ref 232, zq_vi q, zq_vi x, zq_vi 1, zq_vi at_] [] s' (zq_rv K) := fun S' s' hstep hr' hok' hf' => by
      rw [hstep] at hgo
      have hgo : (if S'.2.2.1 = [] then some (.inl S') else yr_go T f S') = some r := hgo
      refine zw_145_156 hq.in hx b1 hatin ?_
      rw [if_pos (by rw [hr'.2.1]; decide), hr'.2.2.2.2.1]
      by_cases hnil : S'.2.2.1 = []
      · rw [if_pos hnil] at hgo
        cases hgo
        rw [if_pos (by rw [hnil]; decide)]
        refine zw_145_42 hq.in hx (Or.inl rfl) rfl ?_
        rw [if_pos rfl]
        exact kk s' S' rfl hr' hok' hnil hf'
      · rw [if_neg hnil] at hgo
        have : 1 ≤ S'.2.2.1.length := by
          cases h : S'.2.2.1 with
          | nil => exact absurd h hnil
          | cons _ _ => simp
        rw [if_neg (by omega)]
        have hml' := yr_made_len hok'
        exact ih s' S' _ rfl (hf'.I hI (by decide) (by decide) (by rw [hr'.2.2.2.2.2.2.2.2.2.1]; omega)) ((hf'.c hq3 (by decide) (by decide)).trans hT) hr' hok' (fun z => absurd z hnil) r hgo (fun s'' w e1 e2 e3 e4 e5 e6 e7 => kf s'' w e1 e2 e3 e4 e5 e6 (hf'.trans e7)) (fun s'' S'' e1 e2 e3 e4 e5 => kk s'' S'' e1 e2 e3 e4 (hf'.trans e5))
    -- a value
    have value : yr_step T S = yr_val T S → (∀ n ks st, S.2.2.1 = (7, n, ks) :: st → S.2.2.2 ≠ none) → zq_Ex X 158 0 [.ref 232, zq_vi q, zq_vi at_, zz_no] [] s (zq_rv fun s_3 => zq_Ex X 145 156 [.ref 232, zq_vi q, zq_vi x, zq_vi 1, zq_vi at_] [] s_3 (zq_rv K)) := fun hstep hd => by
      unfold yr_val at hstep
      rw [hat] at hstep
      refine ys_158 hI hq hq3 (by rw [hT]; exact hC) (by omega) hat2 hr hok (k := yp_kind T at_) (by rw [hT]) hfirst hd (fun h => ?_) (fun h s' hs' hf' => ?_)
      · rw [if_pos h] at hstep
        exact fault hstep
      · rw [if_neg h] at hstep
        rw [hT] at hs'
        refine good _ s' hstep hs' ?_ hf'
        exact yr_ok_value hTb hC hok (by omega) hat2 rfl (by omega) (by omega) (by omega) hd hfirst
    refine zw_145_42 hq.in hx b1 hv4 ?_
    rw [if_neg (by decide), r1]
    refine ys_146 hI hq (by omega) (by omega) ?_
    rw [hT, hat, r5]
    -- label 95
    have l95 : (∀ n ks st, S.2.2.1 = (7, n, ks) :: st → S.2.2.2 ≠ none) → zq_Ex X 145 95 [.ref 232, zq_vi q, zq_vi x, zq_vi 1, zq_vi at_] [] s (zq_rv K) := fun hd => by
      refine zw_145_95 hq.in hx b1 hatin ?_
      rw [r5]
      cases hst : S.2.2.1 with
      | nil =>
        rw [if_pos (by simp)]
        exact value (yr_step0 hst) hd
      | cons q0 st =>
        obtain ⟨kx, n, ks⟩ := q0
        have hlen : S.2.2.1.length = st.length + 1 := by rw [hst]; rfl
        have hfr := r7 0 kx n ks (by rw [hst]; rfl)
        rw [show (S.2.2.1.length : Int) - ((0 : Nat) : Int) = (S.2.2.1.length : Nat) by omega, hst] at hfr
        have hkx : kx = 6 ∨ kx = 7 := hok.2.2.2.2.2.2.2.1 (kx, n, ks) (by rw [hst]; simp)
        have hl8 : ((((kx, n, ks) :: st).length : Nat) : Int) < 8 ∧ 0 < ((((kx, n, ks) :: st).length : Nat) : Int) := by rw [← hst]; omega
        rw [if_neg (by omega)]
        refine ⟨⟨by omega, by omega⟩, ?_⟩
        rw [hfr.1]
        by_cases h6 : kx = 6
        · rw [if_pos h6]
          subst h6
          have hnone : S.2.2.2 = none := by
            cases hkey : S.2.2.2 with
            | none => rfl
            | some w => obtain ⟨_, n', ks', st', e⟩ := hok.2.2.2.2.2.1 w hkey; rw [hst] at e; cases e
          have hstep := yr_step6 (T := T) hst hnone
          rw [hat] at hstep
          refine ys_147 hI hq hatin ?_
          rw [hT]
          split
          · next h93 =>
            rw [if_pos h93] at hstep
            have p9 := yp_lt hTb (k := at_) (by omega)
            obtain ⟨t1, t2, t3⟩ := yr_en_top hr hst
            have hen : (yr_en S.2.2.1).length ≤ 12 := by
              have h1 := hok.2.2.2.2.2.2.1
              have h2 := hok.2.2.2.2.1.2
              rw [hnone] at h1
              simp at h1
              omega
            refine ys_150 ⟨by decide, by decide⟩ r10 (by omega) (fun s1 m1 f1 => ⟨⟨by omega, by omega⟩, ?_⟩)
            have f3 : ymf [23, 25] [245] s (zq_si s1 232 25 (at_ + 1)) := (f1.mono (by simp) (by simp)).trans (ymf.sf (by simp))
            have e29 : zq_i (zq_si s1 232 25 (at_ + 1)) 232 29 = ((S.2.2.1.length : Nat) : Int) := by rw [f3.f (by decide)]; exact r5
            have e33 : zq_i (zq_si s1 232 25 (at_ + 1)) 232 33 = (((yr_en st).length + ks.length : Nat) : Int) := by rw [f3.f (by decide), r8, t1]
            refine ys_151 (o := S.2.2.1.length) ⟨by omega, by omega⟩ ks.length _ (yr_en st).length e29 e33 (by omega) (fun i h1 h2 => ?_) (fun h0 => ?_) (fun s' f4 a4 b4 => ?_)
            · rw [f3.i (by decide) (by decide)]; exact t2 i h1 h2
            · rw [f3.i (by decide) (by decide)]; exact t3 h0
            · refine good _ s' hstep (ymr_close hr hok hst hnone ?_ f3 ?_ f4 a4 b4) (yr_ok_close hok hst hnone (by omega) (by omega)) ((f3.mono (by simp) (by simp)).trans (f4.mono (by simp) (by simp)))
              · refine ⟨?_, fun i hi => ?_⟩
                · rw [zq_i_si, if_neg (by decide)]
                  have := m1.1
                  simpa [ye_cl] using this
                · rw [zq_i_si, if_neg (by simp)]
                  have := m1.2 i (by simpa [ye_cl] using hi)
                  simpa [ye_cl] using this
              · rw [zq_i_si, if_pos ⟨rfl, rfl⟩]
          · next h93 =>
            rw [if_neg h93] at hstep
            exact value hstep hd
        · rw [if_neg h6]
          have h7 : kx = 7 := by omega
          subst h7
          cases hkey : S.2.2.2 with
          | none => exact absurd hkey (hd n ks st hst)
          | some w => exact value (yr_stepk hkey) hd
    cases hst : S.2.2.1 with
    | nil =>
      rw [if_pos (by simp)]
      exact l95 (fun n ks st e => by rw [hst] at e; cases e)
    | cons q0 st =>
      obtain ⟨kx, n, ks⟩ := q0
      have hlen : S.2.2.1.length = st.length + 1 := by rw [hst]; rfl
      have hfr := r7 0 kx n ks (by rw [hst]; rfl)
      rw [show (S.2.2.1.length : Int) - ((0 : Nat) : Int) = (S.2.2.1.length : Nat) by omega, hst] at hfr
      have hl8 : ((((kx, n, ks) :: st).length : Nat) : Int) < 8 ∧ 0 < ((((kx, n, ks) :: st).length : Nat) : Int) := by rw [← hst]; omega
      rw [if_neg (by omega)]
      refine ⟨⟨by omega, by omega⟩, ?_⟩
      rw [hfr.1]
      by_cases h7 : kx = 7
      · rw [if_pos h7, r6]
        subst h7
        cases hkey : S.2.2.2 with
        | none =>
          rw [if_pos rfl]
          have hstep := yr_step7 (T := T) hst hkey
          rw [hat] at hstep
          refine ys_148 hI hq hq3 (by omega) hat2 hr hok hst hkey (fun h s' hs' hf' => ?_) (fun h h2 s' hs' hf' => ?_) (fun h h2 => ?_)
          · rw [hT] at h
            rw [if_pos h] at hstep
            have p9 := yp_lt hTb (k := at_ + 1) (by omega)
            exact good _ s' hstep hs' (yr_ok_close hok hst hkey (by omega) (by omega)) hf'
          · rw [hT] at h h2 hs'
            rw [if_neg h, if_pos h2] at hstep
            obtain ⟨hw, hnl⟩ := yr_name_ok h2.1
            have p9 := yp_lt hTb (k := at_) (by have := (of_decide_eq_true h2.1).1; omega)
            have n2 := yp_nm_lt hTb (k := at_) (by omega)
            exact good _ s' hstep hs' (yr_ok_key hok hst hkey hw (by omega) (by omega)) hf'
          · rw [hT] at h h2
            rw [if_neg h, if_neg h2] at hstep
            exact fault hstep
        | some w =>
          rw [if_neg (by simp)]
          exact l95 (fun n' ks' st' e z => by rw [hkey] at z; cases z)
      · rw [if_neg h7]
        exact l95 (fun n' ks' st' e z => by rw [hst] at e; cases e; exact h7 rfl)
set_option maxRecDepth 100000 in
/-- read: what the abstract reader says -/
theorem ys_145 {s : zq_S} {q p : Int} (hI : ym_I s) (hq : ym_q q) (hq3 : q ≠ 3) (hC : yp_C (ym_c s q)) (p0 : 0 ≤ p) (p1 : p ≤ 1000) {r : yr_S ⊕ Int} (hr : yr_read (ym_c s q) p = some r)
    (kf : ∀ s' w, r = .inr w → zq_i s' 232 26 = w → 0 ≤ w → 0 ≤ zq_i s' 232 25 → zq_i s' 232 25 ≤ 1000 → zq_i s' 232 23 ≤ 453 → ymf ymr_J ymr_A s s' → K s')
    (kk : ∀ s' S', r = .inl S' → ymr s' S' → yr_ok S' → S'.2.2.1 = [] → ymf ymr_J ymr_A s s' → K s') : zq_Ex X 145 0 [.ref 232, zq_vi q, zq_vi p, zz_no, zz_no] [] s (zq_rv K) := by
  have hp : zq_iv p := ⟨by omega, by omega⟩
  refine zw_145 hq.in hp ?_
  have f0 : ymf ymr_J ymr_A s (zq_si (zq_si (zq_si (zq_si (zq_si (zq_si (zq_si (zq_si s 232 25 p) 232 23 0) 232 26 (-1)) 232 27 0) 232 28 0) 232 29 0) 232 32 0) 232 33 0) := (ymf.sf (by simp)).trans ((ymf.sf (by simp)).trans ((ymf.sf (by simp)).trans ((ymf.sf (by simp)).trans ((ymf.sf (by simp)).trans ((ymf.sf (by simp)).trans ((ymf.sf (by simp)).trans (ymf.sf (by simp))))))))
  have c0 := f0.c (q := q) hq3 (by decide) (by decide)
  refine ys_145_42 hq hq3 (ym_c s q) hC hp 1100 _ (p, [], [], none) _ rfl (f0.I hI (by decide) (by decide) ?_) c0 ⟨rfl, rfl, rfl, rfl, rfl, rfl, fun i k n ks h => (by cases h), rfl, fun i dp w h => (by cases h), rfl, fun i h => (by cases h)⟩ ⟨⟨p0, p1⟩, rfl, rfl, fun k n ks st h => (by cases h), ⟨Nat.zero_le _, Nat.zero_le _⟩, fun nm h => (by cases h), Nat.zero_le _, fun q h => (by cases h), fun q h => (by cases h), fun q h => (by cases h)⟩ (fun _ => rfl) r hr (fun s' w e1 e2 e3 e4 e5 e6 e7 => kf s' w e1 e2 e3 e4 e5 e6 (f0.trans e7)) (fun s' S' e1 e2 e3 e4 e5 => kk s' S' e1 e2 e3 e4 (f0.trans e5))
  show (0 : Int) ≤ 700
  decide
end YRD
