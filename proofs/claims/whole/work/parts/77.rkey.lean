/-! the reference reads: a closing, a key -/
section YRK
variable {X : Nat × (Nat → Int32)} {K : zq_S → Prop}
set_option maxRecDepth 100000 in
/-- behind a closing: the row 'made' has grown by it, the innermost one is closed -/
theorem ymr_close {s s1 s2 : zq_S} {S : yr_S} (hr : ymr s S) (hok : yr_ok S) {k p : Int} {n : Nat} {ks : List (List Int)} {st : List (Int × Nat × List (List Int))} (hs : S.2.2.1 = (k, n, ks) :: st) (hkey : S.2.2.2 = none) (hm : ymd s1 (yr_made S ++ ye_cl k)) (hf : ymf [23, 25] [245] s s1) (hp : zq_i s1 232 25 = p) (hf2 : ymf [29, 33] [] s1 s2) (h29 : zq_i s2 232 29 = (S.2.2.1.length : Int) - 1) (h33 : zq_i s2 232 33 = (yr_en st).length) : ymr s2 (p, S.2.1 ++ [.inr k], st, none) := by
  obtain ⟨r1, r2, r3, r4, r5, r6, r7, r8, r9, r10⟩ := hr
  have em : yr_made (p, S.2.1 ++ [.inr k], st, none) = yr_made S ++ ye_cl k := by
    unfold yr_made
    rw [hkey]
    simp only [List.append_nil]
    rw [ye_pr_app]
    show _ ++ (ye_cl k ++ []) = _
    rw [List.append_nil]
  have g : ∀ j, j ∉ [(23 : Int), 25, 29, 33] → zq_i s2 232 j = zq_i s 232 j := fun j hj => by
    rw [hf2.f (fun z => hj (by simp at z ⊢; omega)), hf.f (fun z => hj (by simp at z ⊢; omega))]
  have gr : ∀ b, b ≠ 245 → b ≠ 232 → zq_i s2 b = zq_i s b := fun b h1 h2 => by
    rw [hf2.i (by simp) h2, hf.i (by simp [h1]) h2]
  have hlen : S.2.2.1.length = st.length + 1 := by rw [hs]; rfl
  refine ⟨?_, ?_, ?_, ?_, ?_, ?_, ?_, h33, ?_, ?_⟩
  · show zq_i s2 232 25 = p
    rw [hf2.f (by decide), hp]
  · rw [g 26 (by decide)]; exact r2
  · show zq_i s2 232 27 = ((yr_many (S.2.1 ++ [.inr k]) : Nat) : Int)
    rw [g 27 (by decide), yr_many_app]; exact r3
  · show zq_i s2 232 28 = (ye_dm (0, 0) (S.2.1 ++ [.inr k])).2
    rw [g 28 (by decide), ye_dm_app]; exact r4
  · show zq_i s2 232 29 = (st.length : Nat)
    rw [h29, hlen]; omega
  · show zq_i s2 232 32 = 0
    rw [g 32 (by decide), r6, hkey]; rfl
  · intro i k2 n2 ks2 hi
    have hi : st[i]? = some (k2, n2, ks2) := hi
    have h1 := r7 (i + 1) k2 n2 ks2 (by rw [hs]; simpa using hi)
    rw [hlen, show ((st.length + 1 : Nat) : Int) - ((i + 1 : Nat) : Int) = (st.length : Nat) - (i : Int) by omega] at h1
    show zq_i s2 246 ((st.length : Nat) - (i : Int)) = k2 ∧ zq_i s2 247 ((st.length : Nat) - (i : Int)) = (n2 : Nat)
    rw [gr 246 (by decide) (by decide), gr 247 (by decide) (by decide)]
    exact h1
  · intro i dp w hi
    have hi : (yr_en st)[i]? = some (dp, w) := hi
    have hlt : i < (yr_en st).length := (List.getElem?_eq_some_iff.mp hi).1
    have e : yr_en ((k, n, ks) :: st) = yr_en st ++ ks.map (fun w => (((st.length + 1 : Nat) : Int), w)) := rfl
    obtain ⟨c1, c2, a, b, c3, c4⟩ := r9 i dp w (by rw [hs, e, List.getElem?_append_left hlt]; exact hi)
    refine ⟨?_, c2, a, b ++ ye_cl k, ?_, ?_⟩
    · rw [gr 249 (by decide) (by decide)]; exact c1
    · rw [em, c3]; simp
    · rw [gr 248 (by decide) (by decide)]; exact c4
  · rw [em]
    unfold ymd
    rw [hf2.f (by decide), hf2.i (by simp) (by decide)]
    exact hm
set_option maxRecDepth 100000 in
/-- the keys of the innermost one are the last ones -/
theorem yr_en_top {s : zq_S} {S : yr_S} (hr : ymr s S) {k : Int} {n : Nat} {ks : List (List Int)} {st : List (Int × Nat × List (List Int))} (hs : S.2.2.1 = (k, n, ks) :: st) : (yr_en S.2.2.1).length = (yr_en st).length + ks.length ∧ (∀ i : Nat, (yr_en st).length ≤ i → i < (yr_en st).length + ks.length → zq_i s 249 i = (S.2.2.1.length : Nat)) ∧ (0 < (yr_en st).length → zq_i s 249 (((yr_en st).length - 1 : Nat) : Int) ≠ (S.2.2.1.length : Nat)) := by
  have e : yr_en ((k, n, ks) :: st) = yr_en st ++ ks.map (fun w => (((st.length + 1 : Nat) : Int), w)) := rfl
  have r9 := hr.2.2.2.2.2.2.2.2.1
  rw [hs, e] at r9
  have hlen : S.2.2.1.length = st.length + 1 := by rw [hs]; rfl
  refine ⟨by rw [hs, e, List.length_append, List.length_map], fun i h1 h2 => ?_, fun h0 => ?_⟩
  · have hk : i - (yr_en st).length < ks.length := by omega
    have := (r9 i ((st.length + 1 : Nat) : Int) (ks[i - (yr_en st).length]) (by rw [List.getElem?_append_right h1, List.getElem?_map, List.getElem?_eq_getElem hk]; rfl)).1
    rw [this, hlen]
  · have hlt : (yr_en st).length - 1 < (yr_en st).length := by omega
    generalize hq : (yr_en st)[(yr_en st).length - 1] = q
    obtain ⟨dp, w⟩ := q
    have hq' : (yr_en st)[(yr_en st).length - 1]? = some (dp, w) := by rw [List.getElem?_eq_getElem hlt, hq]
    have h1 := (r9 ((yr_en st).length - 1) dp w (by rw [List.getElem?_append_left hlt]; exact hq')).1
    have h2 := yr_en_dp st _ dp w hq'
    rw [h1, hlen]
    omega
set_option maxRecDepth 100000 in
/-- readKey -/
theorem ys_148 {s : zq_S} {S : yr_S} (hI : ym_I s) {q p : Int} (hq : ym_q q) (hq3 : q ≠ 3) (p0 : 0 ≤ p) (p1 : p ≤ 1000) (hr : ymr s S) (hok : yr_ok S) {n : Nat} {ks : List (List Int)} {st : List (Int × Nat × List (List Int))} (hs : S.2.2.1 = (7, n, ks) :: st) (hkey : S.2.2.2 = none)
    (kc : ym_c s q p = 62 ∧ ym_c s q (p + 1) = 62 → ∀ s', ymr s' (p + 2, S.2.1 ++ [.inr 7], st, none) → ymf ymr_J ymr_A s s' → K s')
    (kk : ¬ (ym_c s q p = 62 ∧ ym_c s q (p + 1) = 62) → yp_isN (ym_c s q) p = true ∧ yr_name (ym_c s q) p ∉ ks → ∀ s', ymr s' (yp_nm (ym_c s q) p, S.2.1, (7, n, ks ++ [yr_name (ym_c s q) p]) :: st, some (yr_name (ym_c s q) p)) → ymf ymr_J ymr_A s s' → K s')
    (kf : ¬ (ym_c s q p = 62 ∧ ym_c s q (p + 1) = 62) → ¬ (yp_isN (ym_c s q) p = true ∧ yr_name (ym_c s q) p ∉ ks) → K (zq_si s 232 26 p)) : zq_Ex X 148 0 [.ref 232, zq_vi q, zq_vi p, zz_no] [] s (zq_rv K) := by
  have hT := hI.T hq
  have hp : zq_iv p := ⟨by omega, by omega⟩
  have hml := yr_made_len hok
  obtain ⟨r1, r2, r3, r4, r5, r6, r7, r8, r9, r10⟩ := id hr
  obtain ⟨t1, t2, t3⟩ := yr_en_top hr hs
  have hst := hok.2.2.2.2.1.1
  have hen : (yr_en S.2.2.1).length ≤ 12 := by
    have h1 := hok.2.2.2.2.2.2.1
    have h2 := hok.2.2.2.2.1.2
    rw [hkey] at h1
    simp at h1
    omega
  have hlen : S.2.2.1.length = st.length + 1 := by rw [hs]; rfl
  refine zw_148 hq.in hp (ys_149 hI hq (by omega) (by omega) ⟨by decide, by decide⟩ (yb_if (fun h => ?_) (fun h => ?_)))
  · have h := of_decide_eq_false h
    by_cases hp9 : p = 1000
    · -- nothing stands there
      have e0 : ym_c s q p = 0 := hT p (by omega)
      have hnN : ¬ (yp_isN (ym_c s q) p = true) := fun z => by have := (of_decide_eq_true z).1; omega
      have := kf h (fun z => hnN z.1)
      refine zw_152 hq.in hp (zw_153 hq.in hp (zw_153_4 hq.in hp ⟨by omega, by omega⟩ (ys_147 hI hq ⟨by omega, by omega⟩ ?_)))
      rw [hT (p + 1) (by omega)]
      refine ys_154 (by decide) ?_
      show (if yb (yp_nc 0) = 0 then _ else _)
      rw [if_pos (by decide)]
      refine ys_147 hI hq hp ?_
      rw [e0, if_neg (by decide), if_pos (by decide)]
      exact this
    refine ys_152 hI hq (by omega) (by omega) (yb_if (fun h2 => ?_) (fun h2 => ?_))
    · exact kf h (fun z => by rw [h2] at z; cases z.1)
    · refine ys_156 hI hq p0 (by omega) hr hok hs h2 (yb_if (fun h3 => ?_) (fun h3 => ?_))
      · have h3 := of_decide_eq_false h3
        have kk := kk h ⟨h2, h3⟩
        obtain ⟨hw, hnl⟩ := yr_name_ok h2
        have hn1 := of_decide_eq_true h2
        have hw6 := hw.2.1
        have n9 := yp_nm_lt hT (k := p) (by omega)
        have hfr := r7 0 7 n ks (by rw [hs]; rfl)
        rw [show (S.2.2.1.length : Int) - ((0 : Nat) : Int) = (S.2.2.1.length : Nat) by omega] at hfr
        have hflag := hok.2.2.2.1 7 n ks st hs
        -- from behind the space on: the key's place is noted, the key is copied
        have rest : ∀ (s0 : zq_S) (sep : List Int), sep = (if ye_fl true S.2.1 = true then [] else [32]) → ymd s0 (yr_made S ++ sep) → ymf [23] [245] s s0 →
            (((0 : Int) ≤ zq_i s0 232 33 ∧ zq_i s0 232 33 < (16 : Int)) ∧ (((0 : Int) ≤ zq_i s0 232 33 ∧ zq_i s0 232 33 < (16 : Int)) ∧ (zq_iv ((zq_i s0 232 33) + 1) ∧ (zq_Ex X 153 0 [.ref 232, zq_vi q, zq_vi p, zz_no] [] (zq_si (zq_si (zq_si s0 248 (zq_i s0 232 33) (zq_i s0 232 23)) 249 (zq_i s0 232 33) (zq_i s0 232 29)) 232 33 ((zq_i s0 232 33) + 1)) (zq_rp zq_iv fun x_23 s_22 => (zq_Ex X 157 0 [.ref 232, zq_vi q, zq_vi p, zq_vi x_23, zz_no] [] s_22 (zq_rv fun s_25 => (zq_Ex X 150 0 [.ref 232, zq_vi 32] [] s_25 (zq_rv fun s_26 => K (zq_si (zq_si s_26 232 25 x_23) 232 32 1)))))))))) := by
          intro s0 sep hsep m0 f0
          have lsep : sep.length ≤ 1 := by rw [hsep]; split <;> simp
          have e33 : zq_i s0 232 33 = (yr_en S.2.2.1).length := by rw [f0.f (by decide)]; exact r8
          have e29 : zq_i s0 232 29 = S.2.2.1.length := by rw [f0.f (by decide)]; exact r5
          refine ⟨⟨by omega, by omega⟩, ⟨by omega, by omega⟩, ⟨by omega, by omega⟩, ?_⟩
          rw [e33, e29, m0.1]
          have fA : ymf ymr_J ymr_A s0 (zq_si (zq_si (zq_si s0 248 ((yr_en S.2.2.1).length : Nat) ((yr_made S ++ sep).length : Nat)) 249 ((yr_en S.2.2.1).length : Nat) (S.2.2.1.length : Nat)) 232 33 (((yr_en S.2.2.1).length : Nat) + 1)) := (ymf.si (by simp) (by decide)).trans ((ymf.si (by simp) (by decide)).trans (ymf.sf (by simp)))
          generalize hsA : (zq_si (zq_si (zq_si s0 248 ((yr_en S.2.2.1).length : Nat) ((yr_made S ++ sep).length : Nat)) 249 ((yr_en S.2.2.1).length : Nat) (S.2.2.1.length : Nat)) 232 33 (((yr_en S.2.2.1).length : Nat) + 1)) = sA at fA
          have hA : ∀ b, b ≠ 232 → b ≠ 248 → b ≠ 249 → zq_i sA b = zq_i s0 b := fun b h1 h2 h3 => by
            funext j
            rw [← hsA, zq_i_si, if_neg (fun z => h1 z.1), zq_i_si, if_neg (fun z => h3 z.1), zq_i_si, if_neg (fun z => h2 z.1)]
          have f0' : ymf ymr_J ymr_A s s0 := f0.mono (by simp) (by simp)
          have mA : ymd sA (yr_made S ++ sep) := by
            unfold ymd
            rw [← hsA]
            refine ⟨?_, fun i hi => ?_⟩
            · rw [zq_i_si, if_neg (by simp), zq_i_si, if_neg (by simp), zq_i_si, if_neg (by simp)]; exact m0.1
            · rw [zq_i_si, if_neg (by simp), zq_i_si, if_neg (by simp), zq_i_si, if_neg (by simp)]; exact m0.2 i hi
          have fsA := f0'.trans fA
          have IA : ym_I sA := fsA.I hI (by decide) (by decide) (by rw [mA.1]; simp; omega)
          have cA : ym_c sA q = ym_c s q := fsA.c hq3 (by decide) (by decide)
          refine ys_153 IA hq (by omega) (by omega) ?_
          rw [cA]
          refine ys_157 IA hq hq3 (by omega) (by omega) (by omega) mA (by simp; omega) (fun sB mB fB => ?_)
          rw [cA] at mB
          refine ys_150 ⟨by decide, by decide⟩ mB (by rw [List.length_append, yp_sub_len]; simp; omega) (fun sC mC fC => ?_)
          have fBC := fB.trans fC
          have esub : yp_sub (ym_c s q) (yp_nm (ym_c s q) p - p).toNat p = 47 :: yr_name (ym_c s q) p := by
            rw [show (yp_nm (ym_c s q) p - p).toNat = (yp_nm (ym_c s q) p - (p + 1)).toNat + 1 by omega]
            show ym_c s q p :: yp_sub _ _ (p + 1) = _
            rw [hn1.1]
            rfl
          rw [esub] at mC
          have em : yr_made (yp_nm (ym_c s q) p, S.2.1, (7, n, ks ++ [yr_name (ym_c s q) p]) :: st, some (yr_name (ym_c s q) p)) = yr_made S ++ sep ++ (47 :: yr_name (ym_c s q) p) ++ [32] := by
            unfold yr_made
            rw [hkey, hsep]
            simp
          -- what each field is at the end
          have gf : ∀ j, j ∉ [(23 : Int), 25, 32, 33] → zq_i (zq_si (zq_si sC 232 25 (yp_nm (ym_c s q) p)) 232 32 1) 232 j = zq_i s 232 j := fun j hj => by
            rw [zq_i_si, if_neg (fun z => hj (by have := z.2; simp; omega)), zq_i_si, if_neg (fun z => hj (by have := z.2; simp; omega)), fBC.f (fun z => hj (by simp at z ⊢; omega)), ← hsA, zq_i_si, if_neg (fun z => hj (by have := z.2; simp; omega)), zq_i_si, if_neg (fun z => by simp at z), zq_i_si, if_neg (fun z => by simp at z), f0.f (fun z => hj (by simp at z ⊢; omega))]
          have gr : ∀ b, b ≠ 232 → b ≠ 245 → zq_i (zq_si (zq_si sC 232 25 (yp_nm (ym_c s q) p)) 232 32 1) b = zq_i sA b := fun b h1 h2 => by
            funext j
            rw [zq_i_si, if_neg (fun z => h1 z.1), zq_i_si, if_neg (fun z => h1 z.1), fBC.i (by simp [h2]) h1]
          refine kk _ ⟨?_, ?_, ?_, ?_, ?_, ?_, ?_, ?_, ?_, ?_⟩ ((fsA.trans (fBC.mono (by simp) (by simp))).trans ((ymf.sf (by simp)).trans (ymf.sf (by simp))))
          · rw [zq_i_si, if_neg (by decide), zq_i_si, if_pos ⟨rfl, rfl⟩]
          · rw [gf 26 (by decide)]; exact r2
          · rw [gf 27 (by decide)]; exact r3
          · rw [gf 28 (by decide)]; exact r4
          · show _ = ((((7, n, ks ++ [yr_name (ym_c s q) p]) :: st).length : Nat) : Int)
            rw [gf 29 (by decide), r5, hs]; rfl
          · rw [zq_i_si, if_pos ⟨rfl, rfl⟩]; rfl
          · intro i k2 n2 ks2 hi
            have hi : ((7, n, ks ++ [yr_name (ym_c s q) p]) :: st)[i]? = some (k2, n2, ks2) := hi
            have hl2 : (((7, n, ks ++ [yr_name (ym_c s q) p]) :: st).length : Int) = (S.2.2.1.length : Nat) := by rw [hs]; rfl
            show zq_i _ 246 ((((7, n, ks ++ [yr_name (ym_c s q) p]) :: st).length : Int) - i) = k2 ∧ zq_i _ 247 ((((7, n, ks ++ [yr_name (ym_c s q) p]) :: st).length : Int) - i) = (n2 : Nat)
            rw [hl2, gr 246 (by decide) (by decide), gr 247 (by decide) (by decide), hA 246 (by decide) (by decide) (by decide), hA 247 (by decide) (by decide) (by decide), f0.i (by decide) (by decide), f0.i (by decide) (by decide)]
            cases i with
            | zero =>
              simp at hi
              obtain ⟨q1, q2, q3⟩ := hi
              subst q1
              subst q2
              exact r7 0 7 n ks (by rw [hs]; rfl)
            | succ i => exact r7 (i + 1) k2 n2 ks2 (by rw [hs]; simpa using hi)
          · have e2 : yr_en ((7, n, ks ++ [yr_name (ym_c s q) p]) :: st) = yr_en S.2.2.1 ++ [(((st.length + 1 : Nat) : Int), yr_name (ym_c s q) p)] := by
              rw [hs]
              show yr_en st ++ (ks ++ [yr_name (ym_c s q) p]).map _ = (yr_en st ++ ks.map _) ++ _
              simp
            show _ = ((yr_en ((7, n, ks ++ [yr_name (ym_c s q) p]) :: st)).length : Int)
            rw [e2, zq_i_si, if_neg (by decide), zq_i_si, if_neg (by decide), fBC.f (by decide), ← hsA, zq_i_si, if_pos ⟨rfl, rfl⟩]
            simp
          · intro i dp w hi
            have e2 : yr_en ((7, n, ks ++ [yr_name (ym_c s q) p]) :: st) = yr_en S.2.2.1 ++ [(((st.length + 1 : Nat) : Int), yr_name (ym_c s q) p)] := by
              rw [hs]
              show yr_en st ++ (ks ++ [yr_name (ym_c s q) p]).map _ = (yr_en st ++ ks.map _) ++ _
              simp
            have hi : (yr_en ((7, n, ks ++ [yr_name (ym_c s q) p]) :: st))[i]? = some (dp, w) := hi
            rw [e2] at hi
            rw [em, gr 249 (by decide) (by decide), gr 248 (by decide) (by decide), ← hsA]
            by_cases hlt : i < (yr_en S.2.2.1).length
            · rw [List.getElem?_append_left hlt] at hi
              obtain ⟨c1, c2, a, b, c3, c4⟩ := r9 i dp w hi
              refine ⟨?_, c2, a, b ++ sep ++ (47 :: yr_name (ym_c s q) p) ++ [32], ?_, ?_⟩
              · rw [zq_i_si, if_neg (by simp), zq_i_si, if_neg (fun z => by have := z.2; omega), zq_i_si, if_neg (by simp), f0.i (by decide) (by decide)]; exact c1
              · rw [c3]; simp
              · rw [zq_i_si, if_neg (by simp), zq_i_si, if_neg (by simp), zq_i_si, if_neg (fun z => by have := z.2; omega), f0.i (by decide) (by decide)]; exact c4
            · have hie : i = (yr_en S.2.2.1).length := by
                have := (List.getElem?_eq_some_iff.mp hi).1
                simp at this
                omega
              subst hie
              rw [List.getElem?_append_right (Nat.le_refl _), Nat.sub_self] at hi
              cases hi
              refine ⟨?_, hw, yr_made S ++ sep, [], by simp, ?_⟩
              · rw [zq_i_si, if_neg (by simp), zq_i_si, if_pos ⟨rfl, rfl⟩, hlen]
              · rw [zq_i_si, if_neg (by simp), zq_i_si, if_neg (by simp), zq_i_si, if_pos ⟨rfl, rfl⟩]
          · rw [em]
            refine ⟨?_, fun i hi => ?_⟩
            · rw [zq_i_si, if_neg (by decide), zq_i_si, if_neg (by decide)]; exact mC.1
            · rw [zq_i_si, if_neg (by simp), zq_i_si, if_neg (by simp)]; exact mC.2 i hi
        have e5 : zq_i s 247 (zq_i s 232 29) = (n : Nat) := by rw [r5]; exact hfr.2
        refine ⟨⟨by omega, by omega⟩, ?_⟩
        rw [e5]
        split
        · next hz =>
          have hn0 : n = 0 := by omega
          exact rest s [] (by rw [if_pos (hflag.mpr hn0)]) (by simpa using r10) (ymf.refl _ _ _)
        · next hz =>
          have hn0 : n ≠ 0 := by omega
          have hfl : ¬ ye_fl true S.2.1 = true := fun z => hn0 (hflag.mp z)
          exact ys_150 ⟨by decide, by decide⟩ r10 (by omega) (fun s0 m0 f0 => rest s0 [32] (by rw [if_neg hfl]) m0 f0)
      · have h3 := of_decide_eq_true h3
        exact kf h (fun z => z.2 h3)
  · have h := of_decide_eq_true h
    have p9 := yp_lt hT (k := p + 1) (by omega)
    refine ys_150 ⟨by decide, by decide⟩ r10 (by omega) (fun s1 m1 f1 => ys_150 ⟨by decide, by decide⟩ m1 (by simp; omega) (fun s2 m2 f2 => ⟨⟨by omega, by omega⟩, ?_⟩))
    have f12 := f1.trans f2
    have f3 : ymf [23, 25] [245] s (zq_si s2 232 25 (p + 2)) := (f12.mono (by simp) (by simp)).trans (ymf.sf (by simp))
    have e29 : zq_i (zq_si s2 232 25 (p + 2)) 232 29 = ((S.2.2.1.length : Nat) : Int) := by rw [f3.f (by decide)]; exact r5
    have e33 : zq_i (zq_si s2 232 25 (p + 2)) 232 33 = (((yr_en st).length + ks.length : Nat) : Int) := by rw [f3.f (by decide), r8, t1]
    refine ys_151 (o := S.2.2.1.length) ⟨by omega, by omega⟩ ks.length _ (yr_en st).length e29 e33 (by omega) (fun i h1 h2 => ?_) (fun h0 => ?_) (fun s' f4 a4 b4 => ?_)
    · rw [f3.i (by decide) (by decide)]; exact t2 i h1 h2
    · rw [f3.i (by decide) (by decide)]; exact t3 h0
    · refine kc h s' (ymr_close hr hok hs hkey ?_ f3 ?_ f4 a4 b4) ((f3.mono (by simp) (by simp)).trans (f4.mono (by simp) (by simp)))
      · refine ⟨?_, fun i hi => ?_⟩
        · rw [zq_i_si, if_neg (by decide)]
          have := m2.1
          simpa [ye_cl] using this
        · rw [zq_i_si, if_neg (by simp)]
          have := m2.2 i (by simpa [ye_cl] using hi)
          simpa [ye_cl] using this
      · rw [zq_i_si, if_pos ⟨rfl, rfl⟩]
end YRK
