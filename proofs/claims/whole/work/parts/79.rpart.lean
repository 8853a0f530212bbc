/-! the reference reads: readPart, read -/
set_option maxRecDepth 100000 in
/-- parts are nodes: there are no more of them -/
theorem yr_parts_le {S : yr_S} (hok : yr_ok S) {k : Int} {n : Nat} {ks : List (List Int)} {st : List (Int × Nat × List (List Int))} (hs : S.2.2.1 = (k, n, ks) :: st) : n ≤ yr_many S.2.1 := hok.2.2.2.2.2.2.2.2.2 (k, n, ks) (by rw [hs]; simp)
section YRR
variable {X : Nat × (Nat → Int32)} {K : zq_S → Prop}
set_option maxRecDepth 100000 in
theorem ys_158 {s : zq_S} {S : yr_S} (hI : ym_I s) {q p k : Int} (hq : ym_q q) (hq3 : q ≠ 3) (hC : yp_C (ym_c s q)) (p0 : 0 ≤ p) (p1 : p ≤ 1000) (hr : ymr s S) (hok : yr_ok S) (hk : yp_kind (ym_c s q) p = k) (hfirst : S.2.2.1 = [] → S.2.1 = []) (hd : ∀ n ks st, S.2.2.1 = (7, n, ks) :: st → S.2.2.2 ≠ none)
    (kf : (k < 0 ∨ S.2.2.1.length = 5 ∨ yr_many S.2.1 = 12) → K (zq_si s 232 26 p))
    (kk : ¬ (k < 0 ∨ S.2.2.1.length = 5 ∨ yr_many S.2.1 = 12) → ∀ s', ymr s' (yr_end (ym_c s q) k p, S.2.1 ++ [.inl (yr_nd (ym_c s q) k p (S.2.2.2.getD []))], yr_push k (yr_part S.2.2.1), none) → ymf ymr_J ymr_A s s' → K s') : zq_Ex X 158 0 [.ref 232, zq_vi q, zq_vi p, zz_no] [] s (zq_rv K) := by
  have hT := hI.T hq
  have hp : zq_iv p := ⟨by omega, by omega⟩
  have hml := yr_made_len hok
  obtain ⟨r1, r2, r3, r4, r5, r6, r7, r8, r9, r10⟩ := id hr
  have hlen5 := hok.2.2.2.2.1.1
  have hmany := hok.2.2.2.2.1.2
  have hlev := hok.2.2.1
  refine zw_158 hq.in hp (ys_159 hI hq (by omega) p1 ?_)
  rw [hk]
  split
  · next h => exact kf (Or.inl h)
  next hk0 =>
  split
  · next h => exact kf (Or.inr (Or.inl (by omega)))
  next ho5 =>
  split
  · next h => exact kf (Or.inr (Or.inr (by omega)))
  next hm12 =>
  have kk := kk (by omega)
  have k0 : 0 ≤ k := by omega
  refine ⟨⟨by omega, by omega⟩, ⟨by omega, by omega⟩, ?_⟩
  -- what is made before the token
  have hsepl : ∀ l, l = ye_pr true S.2.1 ++ ((if ye_fl true S.2.1 = true then [] else [32]) ++ ye_ky (yr_nd (ym_c s q) k p (S.2.2.2.getD []))) → l.length ≤ 470 := by
    intro l hl
    have h1 := ye_pr_len S.2.1 [] _ true hok.2.1
    have hky : (ye_ky (yr_nd (ym_c s q) k p (S.2.2.2.getD []))).length ≤ 8 := by
      rw [ye_ky_len]
      show (if S.2.2.2.getD [] = [] then 0 else (S.2.2.2.getD []).length + 2) ≤ 8
      cases hkey : S.2.2.2 with
      | none => simp
      | some w =>
        have := (hok.2.2.2.2.2.1 w hkey).1.2.1
        show (if w = [] then 0 else w.length + 2) ≤ 8
        split <;> omega
    rw [hl, List.length_append, List.length_append]
    simp at h1
    split <;> simp <;> omega
  have main : ∀ D : Int, D = (if (ye_dm (0, 0) S.2.1).1 + 1 ≤ (ye_dm (0, 0) S.2.1).2 then (ye_dm (0, 0) S.2.1).2 else (ye_dm (0, 0) S.2.1).1 + 1) →
      (if zq_i s 232 29 ≤ 0 then zq_Ex X 158 126 [.ref 232, zq_vi q, zq_vi p, zq_vi k] [] (zq_si (zq_si s 232 27 ((zq_i s 232 27) + 1)) 232 28 D) (zq_rv K) else (((0 : Int) ≤ zq_i s 232 29 ∧ zq_i s 232 29 < (8 : Int)) ∧ (if zq_i s 246 (zq_i s 232 29) = 6 then (((0 : Int) ≤ zq_i s 232 29 ∧ zq_i s 232 29 < (8 : Int)) ∧ (if zq_i s 247 (zq_i s 232 29) ≤ 0 then zq_Ex X 158 113 [.ref 232, zq_vi q, zq_vi p, zq_vi k] [] (zq_si (zq_si s 232 27 ((zq_i s 232 27) + 1)) 232 28 D) (zq_rv K) else (zq_Ex X 150 0 [.ref 232, zq_vi 32] [] (zq_si (zq_si s 232 27 ((zq_i s 232 27) + 1)) 232 28 D) (zq_rv fun s_24 => zq_Ex X 158 113 [.ref 232, zq_vi q, zq_vi p, zq_vi k] [] s_24 (zq_rv K))))) else zq_Ex X 158 113 [.ref 232, zq_vi q, zq_vi p, zq_vi k] [] (zq_si (zq_si s 232 27 ((zq_i s 232 27) + 1)) 232 28 D) (zq_rv K)))) := by
    intro D hD
    have f0 : ymf ymr_J ymr_A s (zq_si (zq_si s 232 27 ((zq_i s 232 27) + 1)) 232 28 D) := (ymf.sf (by simp)).trans (ymf.sf (by simp))
    have g0 : ∀ b, b ≠ 232 → zq_i (zq_si (zq_si s 232 27 ((zq_i s 232 27) + 1)) 232 28 D) b = zq_i s b := fun b hb => by
      funext j
      rw [zq_i_si, if_neg (fun z => hb z.1), zq_i_si, if_neg (fun z => hb z.1)]
    have gf0 : ∀ j, j ≠ 27 → j ≠ 28 → zq_i (zq_si (zq_si s 232 27 ((zq_i s 232 27) + 1)) 232 28 D) 232 j = zq_i s 232 j := fun j h1 h2 => by rw [zq_i_si, if_neg (fun z => h2 z.2), zq_i_si, if_neg (fun z => h1 z.2)]
    have e27 : zq_i (zq_si (zq_si s 232 27 ((zq_i s 232 27) + 1)) 232 28 D) 232 27 = (yr_many S.2.1 : Nat) + 1 := by rw [zq_i_si, if_neg (by decide), zq_i_si, if_pos ⟨rfl, rfl⟩, r3]
    have e28 : zq_i (zq_si (zq_si s 232 27 ((zq_i s 232 27) + 1)) 232 28 D) 232 28 = D := by rw [zq_i_si, if_pos ⟨rfl, rfl⟩]
    generalize hs0 : (zq_si (zq_si s 232 27 ((zq_i s 232 27) + 1)) 232 28 D) = s0 at f0 g0 gf0 e27 e28 ⊢
    have m0 : ymd s0 (yr_made S) := ⟨by rw [gf0 23 (by decide) (by decide)]; exact r10.1, fun i hi => by rw [g0 245 (by decide)]; exact r10.2 i hi⟩
    -- the part is counted, then the token comes
    have count : ∀ (s1 : zq_S) (l : List Int) (kx : Int) (n : Nat) (ks : List (List Int)) (st : List (Int × Nat × List (List Int))), S.2.2.1 = (kx, n, ks) :: st → ymf [23] [245] s0 s1 → ymd s1 l → l = ye_pr true S.2.1 ++ ((if ye_fl true S.2.1 = true then [] else [32]) ++ ye_ky (yr_nd (ym_c s q) k p (S.2.2.2.getD []))) → (∃ r, l = yr_made S ++ r) → zq_Ex X 158 113 [.ref 232, zq_vi q, zq_vi p, zq_vi k] [] s1 (zq_rv K) := by
      intro s1 l kx n ks st hst f1 m1 hl ⟨r, hlr⟩
      have f01 : ymf ymr_J ymr_A s s1 := f0.trans (f1.mono (by simp) (by simp))
      have hll := hsepl l hl
      have e29 : zq_i s1 232 29 = (S.2.2.1.length : Nat) := by rw [f1.f (by decide), gf0 29 (by decide) (by decide)]; exact r5
      have hlen : S.2.2.1.length = st.length + 1 := by rw [hst]; rfl
      have hfr := r7 0 kx n ks (by rw [hst]; rfl)
      rw [show (S.2.2.1.length : Int) - ((0 : Nat) : Int) = (S.2.2.1.length : Nat) by omega] at hfr
      have e247 : zq_i s1 247 (S.2.2.1.length : Nat) = (n : Nat) := by rw [f1.i (by decide) (by decide), g0 247 (by decide)]; exact hfr.2
      have kin : zq_iv k := by
        rcases yr_kind hk k0 with ⟨e, _⟩ | ⟨e, _⟩ | ⟨e, _⟩ | ⟨e, _⟩ | ⟨e, _⟩ | ⟨e, _⟩ | ⟨e, _⟩ | ⟨e, _⟩ | ⟨e, _⟩ <;> subst e <;> decide
      refine zq_have (fun hR1 => ?_)
      have hnb := hR1.1 247 (S.2.2.1.length : Nat)
      have hn16 : n ≤ 100000 := by
        -- parts are nodes
        apply Decidable.byContradiction
        intro hbig
        -- the count is an int that was stored: it is below 2^31; the formula wants one more to be an int too
        have : (n : Int) < 2147483648 := by rw [e247] at hnb; exact hnb.2
        exact absurd (yr_parts_le hok hst) (by omega)
      refine zw_158_113 hq.in hp kin ?_
      rw [e29]
      refine ⟨⟨by omega, by omega⟩, ⟨by omega, by omega⟩, ⟨by rw [e247]; omega, by rw [e247]; omega⟩, ?_⟩
      rw [e247]
      have f2 : ymf ymr_J ymr_A s1 (zq_si s1 247 (S.2.2.1.length : Nat) ((n : Nat) + 1)) := ymf.si (by simp) (by decide)
      have f02 := f01.trans f2
      have g2 : ∀ b, b ≠ 247 → zq_i (zq_si s1 247 (S.2.2.1.length : Nat) ((n : Nat) + 1)) b = zq_i s1 b := fun b hb => by
        funext j
        rw [zq_i_si, if_neg (fun z => hb z.1)]
      have m2 : ymd (zq_si s1 247 (S.2.2.1.length : Nat) ((n : Nat) + 1)) l := ⟨by rw [g2 232 (by decide)]; exact m1.1, fun i hi => by rw [g2 245 (by decide)]; exact m1.2 i hi⟩
      have I2 := f02.I hI (by decide) (by decide) (by rw [m2.1]; omega)
      have c2 := f02.c (q := q) hq3 (by decide) (by decide)
      refine ys_158_126 I2 hq hq3 (by rw [c2]; exact hC) p0 p1 (l := l) ?_ hok (by rw [c2]; exact hk) k0 (by omega) hfirst (by rw [c2]; exact hl) hll (fun s' hs' f' => kk s' (by rw [c2] at hs'; exact hs') (f02.trans f'))
      refine ⟨?_, ?_, ?_, ?_, ?_, ?_, ?_, m2⟩
      · rw [g2 232 (by decide), f1.f (by decide), gf0 26 (by decide) (by decide)]; exact r2
      · rw [g2 232 (by decide), f1.f (by decide)]; exact e27
      · rw [g2 232 (by decide), f1.f (by decide), e28]; exact hD
      · rw [g2 232 (by decide)]; exact e29
      · intro i k2 n2 ks2 hi
        rw [hst] at hi
        rw [g2 246 (by decide), f1.i (by decide) (by decide), g0 246 (by decide)]
        cases i with
        | zero =>
          have hi : some (kx, n + 1, ks) = some (k2, n2, ks2) := hi
          cases hi
          rw [show (S.2.2.1.length : Int) - ((0 : Nat) : Int) = (S.2.2.1.length : Nat) by omega, zq_i_si, if_pos ⟨rfl, rfl⟩]
          exact ⟨hfr.1, by omega⟩
        | succ i =>
          have hi : st[i]? = some (k2, n2, ks2) := hi
          have h1 := r7 (i + 1) k2 n2 ks2 (by rw [hst]; simpa using hi)
          rw [zq_i_si, if_neg (fun z => by have := z.2; omega), f1.i (by decide) (by decide), g0 247 (by decide)]
          exact h1
      · rw [g2 232 (by decide), f1.f (by decide), gf0 33 (by decide) (by decide)]; exact r8
      · intro i dp w hi
        obtain ⟨c1, c3, a, b, c4, c5⟩ := r9 i dp w hi
        refine ⟨?_, c3, a, b ++ r, ?_, ?_⟩
        · rw [g2 249 (by decide), f1.i (by decide) (by decide), g0 249 (by decide)]; exact c1
        · rw [hlr, c4]; simp
        · rw [g2 248 (by decide), f1.i (by decide) (by decide), g0 248 (by decide)]; exact c5
    -- at the outermost, or inside
    cases hst : S.2.2.1 with
    | nil =>
      have hes := hfirst hst
      have hnone : S.2.2.2 = none := by
        cases hkey : S.2.2.2 with
        | none => rfl
        | some w => obtain ⟨_, n, ks, st, e⟩ := hok.2.2.2.2.2.1 w hkey; rw [hst] at e; cases e
      rw [if_pos (by rw [r5, hst]; decide)]
      have hl : yr_made S = ye_pr true S.2.1 ++ ((if ye_fl true S.2.1 = true then [] else [32]) ++ ye_ky (yr_nd (ym_c s q) k p (S.2.2.2.getD []))) := by
        unfold yr_made
        rw [hnone, hes]
        rfl
      have I0 := f0.I hI (by decide) (by decide) (by rw [m0.1]; omega)
      have c0 := f0.c (q := q) hq3 (by decide) (by decide)
      refine ys_158_126 I0 hq hq3 (by rw [c0]; exact hC) p0 p1 (l := yr_made S) ?_ hok (by rw [c0]; exact hk) k0 (by omega) hfirst (by rw [c0]; exact hl) (by omega) (fun s' hs' f' => kk s' (by rw [c0] at hs'; exact hs') (f0.trans f'))
      refine ⟨?_, e27, by rw [e28]; exact hD, ?_, ?_, ?_, ?_, m0⟩
      · rw [gf0 26 (by decide) (by decide)]; exact r2
      · rw [gf0 29 (by decide) (by decide)]; exact r5
      · intro i k2 n2 ks2 hi
        rw [hst] at hi
        cases hi
      · rw [gf0 33 (by decide) (by decide)]; exact r8
      · intro i dp w hi
        rw [hst] at hi
        cases hi
    | cons q0 st =>
      obtain ⟨kx, n, ks⟩ := q0
      have hlen : S.2.2.1.length = st.length + 1 := by rw [hst]; rfl
      have hfr := r7 0 kx n ks (by rw [hst]; rfl)
      rw [show (S.2.2.1.length : Int) - ((0 : Nat) : Int) = (S.2.2.1.length : Nat) by omega] at hfr
      have hflag := hok.2.2.2.1 kx n ks st hst
      have hkx : kx = 6 ∨ kx = 7 := hok.2.2.2.2.2.2.2.1 (kx, n, ks) (by rw [hst]; simp)
      rw [if_neg (by rw [r5, hlen]; omega)]
      refine ⟨⟨by rw [r5]; omega, by rw [r5]; omega⟩, ?_⟩
      rw [r5, hfr.1, hfr.2]
      by_cases h6 : kx = 6
      · rw [if_pos h6]
        have hnone : S.2.2.2 = none := by
          cases hkey : S.2.2.2 with
          | none => rfl
          | some w => obtain ⟨_, n', ks', st', e⟩ := hok.2.2.2.2.2.1 w hkey; rw [hst] at e; cases e; cases h6
        have hmd : yr_made S = ye_pr true S.2.1 := by unfold yr_made; rw [hnone]; simp
        have hky : ye_ky (yr_nd (ym_c s q) k p (S.2.2.2.getD [])) = [] := by rw [hnone]; rfl
        refine ⟨⟨by omega, by omega⟩, ?_⟩
        split
        · next hz =>
          have hn0 : n = 0 := by omega
          exact count s0 (yr_made S) kx n ks st hst (ymf.refl _ _ _) m0 (by rw [hmd, hky, if_pos (hflag.mpr hn0)]; simp) ⟨[], by simp⟩
        · next hz =>
          have hfl : ¬ ye_fl true S.2.1 = true := fun z => by have := hflag.mp z; omega
          exact ys_150 ⟨by decide, by decide⟩ m0 (by omega) (fun s1 m1 f1 => count s1 _ kx n ks st hst f1 m1 (by rw [hmd, hky, if_neg hfl]; simp) ⟨[32], rfl⟩)
      · rw [if_neg h6]
        have h7 : kx = 7 := by omega
        subst h7
        have hsome : ∃ w, S.2.2.2 = some w := by
          cases hkey : S.2.2.2 with
          | none => exact absurd hkey (hd n ks st hst)
          | some w => exact ⟨w, rfl⟩
        obtain ⟨w, hw⟩ := hsome
        have hwn := (hok.2.2.2.2.2.1 w hw).1
        have hky : ye_ky (yr_nd (ym_c s q) k p (S.2.2.2.getD [])) = 47 :: (w ++ [32]) := by
          rw [hw]
          show (if w = [] then [] else 47 :: (w ++ [32])) = _
          rw [if_neg (fun z => by rw [z] at hwn; have := hwn.1; simp at this)]
        exact count s0 (yr_made S) 7 n ks st hst (ymf.refl _ _ _) m0 (by rw [hky]; unfold yr_made; rw [hw]) ⟨[], by simp⟩
  split
  · next hle =>
    refine main _ ?_
    rw [hlev, ← r5, ← r4, if_pos hle]
  · next hle =>
    refine ⟨⟨by omega, by omega⟩, main _ ?_⟩
    rw [hlev, ← r5, ← r4, if_neg hle]
end YRR
