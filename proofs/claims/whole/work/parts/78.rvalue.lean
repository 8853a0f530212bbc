/-! the reference reads: a value -/
/-- the fields just before a value's token is taken: the parts are counted, l is made -/
def ymv (s : zq_S) (S : yr_S) (l : List Int) : Prop := zq_i s 232 26 = -1 ∧ zq_i s 232 27 = (yr_many S.2.1 : Nat) + 1 ∧ zq_i s 232 28 = (if (ye_dm (0, 0) S.2.1).1 + 1 ≤ (ye_dm (0, 0) S.2.1).2 then (ye_dm (0, 0) S.2.1).2 else (ye_dm (0, 0) S.2.1).1 + 1) ∧ zq_i s 232 29 = S.2.2.1.length ∧ (∀ (i : Nat) k n ks, (yr_part S.2.2.1)[i]? = some (k, n, ks) → zq_i s 246 (S.2.2.1.length - i) = k ∧ zq_i s 247 (S.2.2.1.length - i) = (n : Nat)) ∧ zq_i s 232 33 = (yr_en S.2.2.1).length ∧ (∀ (i : Nat) dp w, (yr_en S.2.2.1)[i]? = some (dp, w) → zq_i s 249 i = dp ∧ ye_nm w ∧ ∃ a b, l = a ++ (47 :: (w ++ (32 :: b))) ∧ zq_i s 248 i = (a.length : Nat)) ∧ ymd s l
section YRV
variable {X : Nat × (Nat → Int32)} {K : zq_S → Prop}
set_option maxRecDepth 100000 in
/-- what is made, a value behind it -/
theorem yr_made_value {S : yr_S} (hok : yr_ok S) (T : Int → Int) (k p : Int) (hfirst : S.2.2.1 = [] → S.2.1 = []) (e p' : Int) (st' : List (Int × Nat × List (List Int))) : yr_made (p', S.2.1 ++ [.inl (yr_nd T k p (S.2.2.2.getD []))], st', none) = (ye_pr true S.2.1 ++ ((if ye_fl true S.2.1 = true then [] else [32]) ++ ye_ky (yr_nd T k p (S.2.2.2.getD [])))) ++ ye_op (yr_nd T k p (S.2.2.2.getD [])) := by
  unfold yr_made
  simp only [List.append_nil]
  rw [ye_pr_app]
  show _ ++ ((if ye_fl true S.2.1 = true then [] else [32]) ++ (ye_ky _ ++ (ye_op _ ++ []))) = _
  simp
set_option maxRecDepth 100000 in
theorem ys_158_126 {s : zq_S} {S : yr_S} {l : List Int} (hI : ym_I s) {q p k : Int} (hq : ym_q q) (hq3 : q ≠ 3) (hC : yp_C (ym_c s q)) (p0 : 0 ≤ p) (p1 : p ≤ 1000) (hv : ymv s S l) (hok : yr_ok S) (hk : yp_kind (ym_c s q) p = k) (k0 : 0 ≤ k) (h5 : S.2.2.1.length ≠ 5) (hfirst : S.2.2.1 = [] → S.2.1 = []) (hl : l = ye_pr true S.2.1 ++ ((if ye_fl true S.2.1 = true then [] else [32]) ++ ye_ky (yr_nd (ym_c s q) k p (S.2.2.2.getD [])))) (hll : l.length ≤ 470)
    (kk : ∀ s', ymr s' (yr_end (ym_c s q) k p, S.2.1 ++ [.inl (yr_nd (ym_c s q) k p (S.2.2.2.getD []))], yr_push k (yr_part S.2.2.1), none) → ymf ymr_J ymr_A s s' → K s') : zq_Ex X 158 126 [.ref 232, zq_vi q, zq_vi p, zq_vi k] [] s (zq_rv K) := by
  have hT := hI.T hq
  have hp : zq_iv p := ⟨by omega, by omega⟩
  obtain ⟨v1, v2, v3, v4, v5, v6, v7, v8⟩ := hv
  have hlen5 := hok.2.2.2.2.1.1
  have hend := yr_end_b hT p0 p1 hk k0
  have kin : zq_iv k := by
    rcases yr_kind hk k0 with ⟨e, _⟩ | ⟨e, _⟩ | ⟨e, _⟩ | ⟨e, _⟩ | ⟨e, _⟩ | ⟨e, _⟩ | ⟨e, _⟩ | ⟨e, _⟩ | ⟨e, _⟩ <;> subst e <;> decide
  have em := fun (p' : Int) (st' : List (Int × Nat × List (List Int))) => yr_made_value hok (ym_c s q) k p hfirst 0 p' st'
  rw [← hl] at em
  -- the state with no key that waits
  have f0 : ymf ymr_J ymr_A s (zq_si s 232 32 0) := ymf.sf (by simp)
  have g0 : ∀ b, b ≠ 232 → zq_i (zq_si s 232 32 0) b = zq_i s b := fun b hb => by
    funext j
    rw [zq_i_si, if_neg (fun z => hb z.1)]
  have gf0 : ∀ j, j ≠ 32 → zq_i (zq_si s 232 32 0) 232 j = zq_i s 232 j := fun j hj => by rw [zq_i_si, if_neg (fun z => hj z.2)]
  have m0 : ymd (zq_si s 232 32 0) l := ⟨by rw [gf0 23 (by decide)]; exact v8.1, fun i hi => by rw [g0 245 (by decide)]; exact v8.2 i hi⟩
  have I0 : ym_I (zq_si s 232 32 0) := f0.I hI (by decide) (by decide) (by rw [m0.1]; omega)
  have c0 : ym_c (zq_si s 232 32 0) q = ym_c s q := f0.c hq3 (by decide) (by decide)
  have h32 : zq_i (zq_si s 232 32 0) 232 32 = 0 := by rw [zq_i_si, if_pos ⟨rfl, rfl⟩]
  -- the fields at the end, for any stack on top of the same entries
  have fin : ∀ (s' : zq_S) (st' : List (Int × Nat × List (List Int))), ymf [23, 25, 29] [245, 246, 247] (zq_si s 232 32 0) s' → zq_i s' 232 25 = yr_end (ym_c s q) k p → zq_i s' 232 29 = (st'.length : Nat) → yr_en st' = yr_en S.2.2.1 → (∀ (i : Nat) k n ks, st'[i]? = some (k, n, ks) → zq_i s' 246 (st'.length - i) = k ∧ zq_i s' 247 (st'.length - i) = (n : Nat)) → ymd s' (l ++ ye_op (yr_nd (ym_c s q) k p (S.2.2.2.getD []))) → ymr s' (yr_end (ym_c s q) k p, S.2.1 ++ [.inl (yr_nd (ym_c s q) k p (S.2.2.2.getD []))], st', none) := by
    intro s' st' hf h25 h29 hen hfr hmd
    have g : ∀ j, j ∉ [(23 : Int), 25, 29, 32] → zq_i s' 232 j = zq_i s 232 j := fun j hj => by
      rw [hf.f (fun z => hj (by simp at z ⊢; omega)), gf0 j (fun z => hj (by simp [z]))]
    refine ⟨h25, ?_, ?_, ?_, h29, ?_, hfr, ?_, ?_, ?_⟩
    · rw [g 26 (by decide)]; exact v1
    · show zq_i s' 232 27 = ((yr_many (S.2.1 ++ [.inl _]) : Nat) : Int)
      rw [g 27 (by decide), v2, yr_many_app]
      rfl
    · show zq_i s' 232 28 = (ye_dm (0, 0) (S.2.1 ++ [.inl _])).2
      rw [g 28 (by decide), v3, ye_dm_app]
      rfl
    · show zq_i s' 232 32 = 0
      rw [hf.f (by decide), h32]
    · show zq_i s' 232 33 = ((yr_en st').length : Int)
      rw [g 33 (by decide), v6, hen]
    · intro i dp w hi
      have hi : (yr_en st')[i]? = some (dp, w) := hi
      rw [hen] at hi
      obtain ⟨c1, c2, a, b, c3, c4⟩ := v7 i dp w hi
      refine ⟨?_, c2, a, b ++ ye_op (yr_nd (ym_c s q) k p (S.2.2.2.getD [])), ?_, ?_⟩
      · rw [hf.i (by decide) (by decide), g0 249 (by decide)]; exact c1
      · rw [em, c3]; simp
      · rw [hf.i (by decide) (by decide), g0 248 (by decide)]; exact c4
    · rw [em]; exact hmd
  refine zw_158_126 hq.in hp kin ?_
  have nest : k = 6 ∨ k = 7 → zq_Ex X 158 151 [.ref 232, zq_vi q, zq_vi p, zq_vi k] [] (zq_si s 232 32 0) (zq_rv K) := by
    intro hn
    have e29 : zq_i (zq_si s 232 32 0) 232 29 = (S.2.2.1.length : Nat) := by rw [gf0 29 (by decide)]; exact v4
    refine zw_158_151 hq.in hp kin ⟨⟨by omega, by omega⟩, ⟨by omega, by omega⟩, ⟨by omega, by omega⟩, ?_⟩
    rw [e29]
    have go : ∀ e : Int, e = yr_end (ym_c s q) k p → e = p + (ye_op (yr_nd (ym_c s q) k p (S.2.2.2.getD []))).length → ye_at (ym_c s q) p (ye_op (yr_nd (ym_c s q) k p (S.2.2.2.getD []))) → zq_iv e ∧ zq_Ex X 157 0 [.ref 232, zq_vi q, zq_vi p, zq_vi e, zz_no] [] (zq_si (zq_si (zq_si (zq_si (zq_si s 232 32 0) 232 29 ((S.2.2.1.length : Nat) + 1)) 246 ((S.2.2.1.length : Nat) + 1) k) 247 ((S.2.2.1.length : Nat) + 1) 0) 232 25 e) (zq_rv fun s_9 => K s_9) := by
      intro e he1 he2 hat
      refine ⟨⟨by omega, by omega⟩, ?_⟩
      have fN : ymf [23, 25, 29] [245, 246, 247] (zq_si s 232 32 0) (zq_si (zq_si (zq_si (zq_si (zq_si s 232 32 0) 232 29 ((S.2.2.1.length : Nat) + 1)) 246 ((S.2.2.1.length : Nat) + 1) k) 247 ((S.2.2.1.length : Nat) + 1) 0) 232 25 e) := (ymf.sf (by simp)).trans ((ymf.si (by simp) (by decide)).trans ((ymf.si (by simp) (by decide)).trans (ymf.sf (by simp))))
      generalize hsN : (zq_si (zq_si (zq_si (zq_si (zq_si s 232 32 0) 232 29 ((S.2.2.1.length : Nat) + 1)) 246 ((S.2.2.1.length : Nat) + 1) k) 247 ((S.2.2.1.length : Nat) + 1) 0) 232 25 e) = sN at fN ⊢
      have n25 : zq_i sN 232 25 = e := by rw [← hsN, zq_i_si, if_pos ⟨rfl, rfl⟩]
      have n29 : zq_i sN 232 29 = (S.2.2.1.length : Nat) + 1 := by rw [← hsN, zq_i_si, if_neg (by simp), zq_i_si, if_neg (by simp), zq_i_si, if_neg (by simp), zq_i_si, if_pos ⟨rfl, rfl⟩]
      have n246 : ∀ j, zq_i sN 246 j = if j = (S.2.2.1.length : Nat) + 1 then k else zq_i s 246 j := fun j => by
        rw [← hsN, zq_i_si, if_neg (by simp), zq_i_si, if_neg (by simp), zq_i_si]
        by_cases hj : j = (S.2.2.1.length : Nat) + 1
        · rw [if_pos ⟨rfl, hj⟩, if_pos hj]
        · rw [if_neg (fun z => hj z.2), if_neg hj, zq_i_si, if_neg (by simp), g0 246 (by decide)]
      have n247 : ∀ j, zq_i sN 247 j = if j = (S.2.2.1.length : Nat) + 1 then 0 else zq_i s 247 j := fun j => by
        rw [← hsN, zq_i_si, if_neg (by simp), zq_i_si]
        by_cases hj : j = (S.2.2.1.length : Nat) + 1
        · rw [if_pos ⟨rfl, hj⟩, if_pos hj]
        · rw [if_neg (fun z => hj z.2), if_neg hj, zq_i_si, if_neg (by simp), zq_i_si, if_neg (by simp), g0 247 (by decide)]
      have mN : ymd sN l := ⟨by rw [← hsN, zq_i_si, if_neg (by simp), zq_i_si, if_neg (by simp), zq_i_si, if_neg (by simp), zq_i_si, if_neg (by simp)]; exact m0.1, fun i hi => by rw [← hsN, zq_i_si, if_neg (by simp), zq_i_si, if_neg (by simp), zq_i_si, if_neg (by simp), zq_i_si, if_neg (by simp)]; exact m0.2 i hi⟩
      have f0N : ymf ymr_J ymr_A s sN := f0.trans (fN.mono (by simp) (by simp))
      have IN : ym_I sN := f0N.I hI (by decide) (by decide) (by rw [mN.1]; omega)
      have cN : ym_c sN q = ym_c s q := f0N.c hq3 (by decide) (by decide)
      have lo : (ye_op (yr_nd (ym_c s q) k p (S.2.2.2.getD []))).length ≤ 2 := by
        rcases hn with h | h <;> subst h <;> (show (ye_op (_, _)).length ≤ 2; unfold ye_op; simp)
      refine ys_157 IN hq hq3 (by omega) (by omega) (by omega) mN (by omega) (fun s' m' f' => ?_)
      rw [cN, show (e - p).toNat = (ye_op (yr_nd (ym_c s q) k p (S.2.2.2.getD []))).length by omega, yp_sub_at _ _ hat] at m'
      have epush : yr_push k (yr_part S.2.2.1) = (k, 0, []) :: yr_part S.2.2.1 := if_pos hn
      refine kk s' ?_ (f0N.trans (f'.mono (by simp) (by simp)))
      rw [epush]
      refine fin s' _ (fN.trans (f'.mono (by simp) (by simp))) ?_ ?_ ?_ ?_ m'
      · rw [f'.f (by decide), n25, he1]
      · rw [f'.f (by decide), n29, List.length_cons, yr_part_len]
        omega
      · show yr_en (yr_part S.2.2.1) ++ [] = _
        rw [List.append_nil, yr_en_part]
      · intro i k2 n2 ks2 hi
        have hll2 : (((k, 0, []) :: yr_part S.2.2.1).length : Int) = (S.2.2.1.length : Nat) + 1 := by rw [List.length_cons, yr_part_len]; omega
        rw [hll2, f'.i (by decide) (by decide), f'.i (by decide) (by decide), n246, n247]
        cases i with
        | zero =>
          simp at hi
          obtain ⟨q1, q2, q3⟩ := hi
          subst q1
          subst q2
          rw [if_pos (by omega), if_pos (by omega)]
          exact ⟨rfl, rfl⟩
        | succ i =>
          rw [if_neg (by omega), if_neg (by omega)]
          have := v5 i k2 n2 ks2 (by simpa using hi)
          rw [show ((S.2.2.1.length : Nat) : Int) + 1 - ((i + 1 : Nat) : Int) = (S.2.2.1.length : Nat) - (i : Int) by omega]
          exact this
    rcases yr_kind hk k0 with ⟨e, hc⟩ | ⟨e, hc, hc2⟩ | ⟨e, _⟩ | ⟨e, _⟩ | ⟨e, _⟩ | ⟨e, _⟩ | ⟨e, _⟩ | ⟨e, _⟩ | ⟨e, _⟩
    · rw [if_pos e]
      subst e
      exact go (p + 1) rfl rfl (ye_at_cons.mpr ⟨hc, ye_at_nil _ _⟩)
    · rw [if_neg (by omega)]
      subst e
      exact go (p + 2) rfl rfl (ye_at_cons.mpr ⟨hc, ye_at_cons.mpr ⟨hc2, ye_at_nil _ _⟩⟩)
    all_goals omega
  by_cases h6 : k = 6
  · rw [if_pos h6]; exact nest (Or.inl h6)
  rw [if_neg h6]
  by_cases h7 : k = 7
  · rw [if_pos h7]; exact nest (Or.inr h7)
  rw [if_neg h7]
  refine ys_166 (key := S.2.2.2.getD []) I0 hq hq3 (by rw [c0]; exact hC) p0 p1 (by rw [c0]; exact hk) k0 h6 h7 m0 (by omega) (fun s' m' f' e' => ?_)
  rw [c0] at m' e'
  have epush : yr_push k (yr_part S.2.2.1) = yr_part S.2.2.1 := if_neg (by omega)
  refine kk s' ?_ (f0.trans (f'.mono (by simp) (by simp)))
  rw [epush]
  refine fin s' _ (f'.mono (by simp) (by simp)) e' ?_ (yr_en_part _) ?_ m'
  · rw [f'.f (by decide), gf0 29 (by decide), v4, yr_part_len]
  · intro i k2 n2 ks2 hi
    rw [yr_part_len, f'.i (by decide) (by decide), f'.i (by decide) (by decide), g0 246 (by decide), g0 247 (by decide)]
    exact v5 i k2 n2 ks2 hi
end YRV
