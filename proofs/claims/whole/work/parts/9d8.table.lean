/-! save: the class's table -/
section YLD8
variable {X : Nat × (Nat → Int32)}
set_option maxRecDepth 100000 in
theorem ys_35 {s : zq_S} {K : Int → zq_S → Prop} {m n : Nat} (hm : m < 1024) (hn : n < 10) (k0 : m.testBit n = false → K 0 s) (k1 : m.testBit n = true → K 1 s) : zq_Ex X 35 0 [zq_vi (m : Int), zq_vi (n : Int)] [] s (zq_rp zq_bo K) := by
  refine zw_35 ⟨by omega, by omega⟩ ⟨by omega, by omega⟩ ?_
  rw [ybit_get m hm n hn]
  cases hb : m.testBit n with
  | false =>
    rw [if_neg (show ¬ (false = true) by decide), if_neg (show ¬ (0 : Int) = 1 by decide)]
    exact k0 hb
  | true =>
    rw [if_pos (show (true = true) from rfl), if_pos (show (1 : Int) = 1 from rfl)]
    exact k1 hb
set_option maxRecDepth 100000 in
theorem yw_head {S : zq_S} {b : Nat} {L : List Int} (oF : zq_o 1 b) (T9 : zq_T b = 999) (hw : yw S b L) {x y : Int} (hx : 0 ≤ x ∧ x ≤ 9) (hy : 0 ≤ y ∧ y ≤ 9) {K : zq_S → Prop} (k : ∀ S', yf [b, b + 1] S S' → yw S' b (L ++ [48 + x, 32, 48 + y, 10]) → K S') : zq_Ex X 24 0 [(.ref b), (zq_vi x), zz_no, zz_no, zz_no, zz_no] [] S (zq_rv fun s_2 => (zq_Ex X 19 0 [(.ref b), (zq_vi (32))] [] s_2 (zq_rv fun s_3 => (zq_Ex X 24 0 [(.ref b), (zq_vi y), zz_no, zz_no, zz_no, zz_no] [] s_3 (zq_rv fun s_4 => (zq_Ex X 19 0 [(.ref b), (zq_vi (10))] [] s_4 (zq_rv fun s_5 => K s_5))))))) := by
  refine yw_24 oF T9 hw ⟨by omega, by omega⟩ (fun s1 h1 g1 => yw_19 oF T9 h1 ⟨by decide, by decide⟩ (fun s2 h2 g2 => yw_24 oF T9 h2 ⟨by omega, by omega⟩ (fun s3 h3 g3 => yw_19 oF T9 h3 ⟨by decide, by decide⟩ (fun s4 h4 g4 => k s4 (g1.trans (g2.trans (g3.trans g4))) ?_))))
  rw [ye_num_1 hx.1 hx.2, ye_num_1 hy.1 hy.2] at h4
  have e : ((((L ++ [48 + x]) ++ [32]) ++ [48 + y]) ++ [10]) = L ++ [48 + x, 32, 48 + y, 10] := by
    simp only [List.append_assoc, List.cons_append, List.nil_append]
  rw [← e]
  exact h4
set_option maxRecDepth 100000 in
theorem ys_99_3 {S : zq_S} {b : Nat} {L : List Int} (oF : zq_o 1 b) (T9 : zq_T b = 999) (hw : yw S b L) {lm n : Nat} (hl : lm < 1024) (n1 : 1 ≤ n) (n9 : n ≤ 9) {K : zq_S → Prop} (k : ∀ S', yf [b, b + 1] S S' → yw S' b (L ++ [48 + (n : Int), 32, 48 + (yw_rl (fun n => lm.testBit n) (10 - n) n : Int), 10]) → K S') : ∀ (m i : Nat), i + m = 10 → n ≤ i → (i = n → lm.testBit n = true) → yw_rl (fun n => lm.testBit n) (10 - n) n = (i - n) + yw_rl (fun n => lm.testBit n) m i → zq_Ex X 99 3 [.ref 21, .ref b, zq_vi (lm : Int), zq_vi (n : Int), zq_vi (i : Int)] [] S (zq_rv K)
  | 0, i, hi, hn, hb, e => by
    refine zw_99_3 oF ⟨by omega, by omega⟩ ⟨by omega, by omega⟩ ⟨by omega, by omega⟩ ?_
    rw [if_neg (by omega)]
    have e : yw_rl (fun n => lm.testBit n) (10 - n) n = i - n := e
    refine yw_head oF T9 hw ⟨by omega, by omega⟩ ⟨by omega, by omega⟩ (fun S' f h => k S' f ?_)
    rw [e, show ((i - n : Nat) : Int) = (i : Int) - n by omega]
    exact h
  | m + 1, i, hi, hn, hb, e => by
    refine zw_99_3 oF ⟨by omega, by omega⟩ ⟨by omega, by omega⟩ ⟨by omega, by omega⟩ ?_
    rw [if_pos (by omega)]
    refine ys_35 hl (by omega) (fun h0 => ?_) (fun h1 => ?_)
    · rw [if_pos rfl]
      have e2 : yw_rl (fun n => lm.testBit n) (m + 1) i = 0 := by
        show (if lm.testBit i = true then _ else 0) = 0
        rw [h0]
        rfl
      rw [e2, Nat.add_zero] at e
      have : i ≠ n := fun z => by
        have := hb z
        rw [z] at h0
        rw [h0] at this
        cases this
      refine yw_head oF T9 hw ⟨by omega, by omega⟩ ⟨by omega, by omega⟩ (fun S' f h => k S' f ?_)
      rw [e, show ((i - n : Nat) : Int) = (i : Int) - n by omega]
      exact h
    · rw [if_neg (by decide), show (i : Int) + 1 = ((i + 1 : Nat) : Int) by omega]
      have e2 : yw_rl (fun n => lm.testBit n) (m + 1) i = 1 + yw_rl (fun n => lm.testBit n) m (i + 1) := by
        show (if lm.testBit i = true then _ else 0) = _
        rw [if_pos h1]
      rw [e2] at e
      exact ys_99_3 oF T9 hw hl n1 n9 k m (i + 1) (by omega) (by omega) (fun z => by omega) (by omega)
set_option maxRecDepth 100000 in
theorem yw_100c {S : zq_S} {b : Nat} {L : List Int} (oF : zq_o 1 b) (T9 : zq_T b = 999) (hw : yw S b L) {G : Int} (hG : 0 ≤ G ∧ G ≤ 9) {o : Int} (o0 : 0 ≤ o) (o9 : o ≤ 9) {x4 : Int} (hP : x4 ≠ 0 → 0 ≤ zq_i S 22 o ∧ zq_i S 22 o ≤ 999) {K : zq_S → Prop} (k : ∀ S', yf [b, b + 1] S S' → yw S' b (L ++ (yd3 (if x4 = 0 then 0 else zq_i S 22 o) ++ ([32, 48 + G] ++ (if x4 = 0 then yX_f else yX_n)))) → K S') : (if x4 = 0 then (zq_Ex X 101 0 [(.ref (b)), (zq_vi (0))] [] S (zq_rv fun s_3 => (zq_Ex X 19 0 [(.ref (b)), (zq_vi (32))] [] s_3 (zq_rv fun s_4 => (zq_Ex X 24 0 [(.ref (b)), (zq_vi G), zz_no, zz_no, zz_no, zz_no] [] s_4 (zq_rv fun s_5 => (if x4 = 0 then (zq_Ex X 23 0 [(.ref (b)), (.ref (1000000 + 20)), zz_no] [] s_5 (zq_rv fun s_7 => K s_7)) else (zq_Ex X 23 0 [(.ref (b)), (.ref (1000000 + 19)), zz_no] [] s_5 (zq_rv fun s_8 => K s_8))))))))) else (((0 : Int) ≤ o ∧ o < (10 : Int)) ∧ (zq_Ex X 101 0 [(.ref (b)), (zq_vi (zq_i S (22) (o)))] [] S (zq_rv fun s_10 => (zq_Ex X 19 0 [(.ref (b)), (zq_vi (32))] [] s_10 (zq_rv fun s_11 => (zq_Ex X 24 0 [(.ref (b)), (zq_vi G), zz_no, zz_no, zz_no, zz_no] [] s_11 (zq_rv fun s_12 => (if x4 = 0 then (zq_Ex X 23 0 [(.ref (b)), (.ref (1000000 + 20)), zz_no] [] s_12 (zq_rv fun s_14 => K s_14)) else (zq_Ex X 23 0 [(.ref (b)), (.ref (1000000 + 19)), zz_no] [] s_12 (zq_rv fun s_15 => K s_15))))))))))) := by
  by_cases h : x4 = 0
  · rw [if_pos h]
    rw [if_pos h, if_pos h] at k
    refine yw_101 oF T9 hw (by omega) (by omega) (fun s1 h1 g1 => yw_19 oF T9 h1 ⟨by decide, by decide⟩ (fun s2 h2 g2 => yw_24 oF T9 h2 ⟨by omega, by omega⟩ (fun s3 h3 g3 => ?_)))
    rw [if_pos h]
    refine yw_23 (w := yX_f) oF T9 h3 (by decide +kernel) (fun s4 h4 g4 => k s4 (g1.trans (g2.trans (g3.trans g4))) ?_)
    rw [ye_num_1 hG.1 hG.2] at h4
    have e : ((((L ++ yd3 0) ++ [32]) ++ [48 + G]) ++ yX_f) = L ++ (yd3 0 ++ ([32, 48 + G] ++ yX_f)) := by
      simp only [List.append_assoc, List.cons_append, List.nil_append]
    rw [← e]
    exact h4
  · rw [if_neg h]
    rw [if_neg h, if_neg h] at k
    have hP := hP h
    refine ⟨⟨by omega, by omega⟩, yw_101 oF T9 hw hP.1 hP.2 (fun s1 h1 g1 => yw_19 oF T9 h1 ⟨by decide, by decide⟩ (fun s2 h2 g2 => yw_24 oF T9 h2 ⟨by omega, by omega⟩ (fun s3 h3 g3 => ?_)))⟩
    rw [if_neg h]
    refine yw_23 (w := yX_n) oF T9 h3 (by decide +kernel) (fun s4 h4 g4 => k s4 (g1.trans (g2.trans (g3.trans g4))) ?_)
    rw [ye_num_1 hG.1 hG.2] at h4
    have e : ((((L ++ yd3 (zq_i S 22 o)) ++ [32]) ++ [48 + G]) ++ yX_n) = L ++ (yd3 (zq_i S 22 o) ++ ([32, 48 + G] ++ yX_n)) := by
      simp only [List.append_assoc, List.cons_append, List.nil_append]
    rw [← e]
    exact h4
set_option maxRecDepth 100000 in
theorem ys_100 {s S : zq_S} {dr fl : List Int} {ev : Nat → List ye_E} {ct : Nat → List Int} {F t : Nat} (hI : yI s (dr, fl, ev, ct, F, t)) (fr : yf [48 - F, 48 - F + 1, 22] s S) {o : Nat} (o1 : 1 ≤ o) (o9 : o ≤ 9) {L : List Int} (hw : yw S (48 - F) L) {kb : Bool} {x4 : Int} (h4 : x4 = if kb = true then 1 else 0) (hku : kb = true → zq_i s 237 o ≠ 0) (hP : kb = true → 0 ≤ zq_i S 22 o ∧ zq_i S 22 o ≤ 999) {K : zq_S → Prop} (k : ∀ S', yf [48 - F, 48 - F + 1] S S' → yw S' (48 - F) (L ++ (yd3 (if kb = true then zq_i S 22 o else 0) ++ ([32, 48 + yw_g (decide (zq_i s 237 o ≠ 0)) kb (zq_i s 238 o)] ++ (if kb = true then yX_n else yX_f)))) → K S') : zq_Ex X 100 0 [.ref 21, .ref (48 - F), .ref t, zq_vi (o : Int), zq_vi x4, zz_no, zz_no] [] S (zq_rv K) := by
  have f1 : F = 23 ∨ F = 25 := hI.2.1.1
  have f2 : t = 27 ∨ t = 126 := hI.2.1.2.1
  have oF : zq_o 1 (48 - F) := by rcases f1 with z | z <;> (subst z; decide +kernel)
  have T9 : zq_T (48 - F) = 999 := by rcases f1 with z | z <;> (subst z; decide +kernel)
  have a4 : yI_tab s t ev ct := hI.2.2.2.1
  obtain ⟨r1, r2, r3, r4, r5, r6, r7, r8, r9⟩ := yk_sl f2 o1 o9
  obtain ⟨d1, d2, d3, d4, d5, d6⟩ := a4 o o1 o9
  rw [d4] at d5
  have c1 : zq_i S (ysl t o) = zq_i s (ysl t o) := fr.i (yfw_cell f1 (by omega))
  have e3 : zq_i S (ysl t o) 3 = zq_i s 238 o := by rw [c1]; exact d4
  have e0 : zq_i S (ysl t o) 0 = zq_i s 237 o := by rw [c1]; exact d2
  have esl : t + 1 + 8 + 10 * ((o : Int) - 1).toNat = ysl t o := by unfold ysl; omega
  have hb4 : zq_bo x4 := by
    rw [h4]
    cases kb
    · exact Or.inl rfl
    · exact Or.inr rfl
  have core : ∀ G : Int, G = yw_g (decide (zq_i s 237 o ≠ 0)) kb (zq_i s 238 o) → 0 ≤ G ∧ G ≤ 9 → _ := fun G eG hG => yw_100c (X := X) oF T9 hw hG (o := (o : Int)) (by omega) (by omega) (x4 := x4) (fun z => hP (by
    cases kb
    · exact absurd h4 z
    · rfl)) (K := K) (fun S' f h => k S' f (by
      rw [eG] at h
      cases kb
      · rw [show x4 = 0 from h4] at h
        exact h
      · rw [show x4 = 1 from h4] at h
        exact h))
  refine zw_100 oF (yk_t8 f2) ⟨by omega, by omega⟩ hb4 (zw_42 (yk_t8 f2) ⟨by omega, by omega⟩ ?_)
  rw [if_neg (by omega), if_pos (by omega), esl]
  refine ⟨⟨by omega, by omega⟩, fun z => (by cases z), fun b hbb => ?_⟩
  have hbb : ysl t o = b := Option.some.inj hbb
  subst hbb
  rw [e0]
  have tail : (zq_i s 237 o = 0 ∨ x4 ≠ 0) → zq_Ex X 100 34 [.ref 21, .ref (48 - F), .ref t, zq_vi (o : Int), zq_vi x4, .ref (ysl t o), zz_no] [] S (zq_rv K) := fun hz => by
    refine zw_100_34 oF (yk_t8 f2) ⟨by omega, by omega⟩ hb4 r1 rfl ?_
    rw [e3]
    refine core _ ?_ d5
    unfold yw_g
    rw [if_neg]
    rintro ⟨z1, z2⟩
    rcases hz with z | z
    · exact of_decide_eq_true z1 z
    · rw [z2] at h4
      exact z h4
  refine yl_if (fun hz => tail (Or.inl hz)) (fun hz => ?_)
  by_cases hx : x4 = 0
  · rw [if_pos hx]
    have hkb : kb = false := by
      cases kb
      · rfl
      · rw [hx] at h4; cases h4
    refine zw_83 r1 (zw_84 ?_ ⟨by omega, by omega⟩ ?_)
    · rw [e3]
      exact ⟨by omega, by omega⟩
    · rw [e3]
      have hyg : yw_g (decide (zq_i s 237 o ≠ 0)) kb (zq_i s 238 o) = if zq_i s 238 o + 1 ≤ 9 then zq_i s 238 o + 1 else 9 := by
        unfold yw_g
        rw [if_pos ⟨decide_eq_true hz, hkb⟩]
      by_cases hg : zq_i s 238 o + 1 ≤ 9
      · rw [if_pos hg]
        rw [if_pos hg] at hyg
        exact core _ hyg.symm ⟨by omega, by omega⟩
      · rw [if_neg hg]
        rw [if_neg hg] at hyg
        exact core _ hyg.symm ⟨by omega, by omega⟩
  · rw [if_neg hx]
    exact tail (Or.inr hx)
set_option maxRecDepth 100000 in
theorem ys_98_15 {s S0 : zq_S} {dr fl : List Int} {ev : Nat → List ye_E} {ct : Nat → List Int} {F t : Nat} (hI : yI s (dr, fl, ev, ct, F, t)) (fr0 : yf [48 - F, 48 - F + 1, 22] s S0) {lm km : Nat} (hl : lm < 1024) (hk : yog s km) {P : Nat → Int} (hP : ∀ n : Nat, 1 ≤ n → n ≤ 9 → km.testBit n = true → zq_i S0 22 n = P n ∧ 0 ≤ P n ∧ P n ≤ 999) {xp tl : Int} (hx : 0 ≤ xp ∧ xp ≤ 999) (htl : -1 ≤ tl ∧ tl < 1000000) {Z : List Int} {K : zq_S → Prop} (k : ∀ S', yf [48 - F, 48 - F + 1] S0 S' → yw S' (48 - F) Z → K S') : ∀ (m n : Nat) (S : zq_S) (L : List Int), n + m = 10 → 1 ≤ n → yf [48 - F, 48 - F + 1] S0 S → yw S (48 - F) L → L ++ (yw_tab (fun n => lm.testBit n) (yw_en P (fun n => decide (zq_i s 237 n ≠ 0)) (fun n => km.testBit n) (fun n => zq_i s 238 n)) m n ++ yw_end (zq_i s 232 17) (zq_i s 232 18) tl xp) = Z → zq_Ex X 98 15 [.ref 21, .ref (48 - F), .ref t, zq_vi (lm : Int), zq_vi (km : Int), zq_vi tl, zq_vi xp, zq_vi (n : Int)] [] S (zq_rv K)
  | 0, n, S, L, hn, n1, fr, hw, hZ => by
    have f1 : F = 23 ∨ F = 25 := hI.2.1.1
    have f2 : t = 27 ∨ t = 126 := hI.2.1.2.1
    obtain ⟨t1, t2, t3, t4, t5, t6, t7, t8, t9, t10, t11, t12⟩ := hI.2.1
    have t9 : zq_i s t 2 = zq_i s 232 17 := t9
    have t10 : zq_i s t 3 = zq_i s 232 18 := t10
    have oF : zq_o 1 (48 - F) := by rcases f1 with z | z <;> (subst z; decide +kernel)
    have T9 : zq_T (48 - F) = 999 := by rcases f1 with z | z <;> (subst z; decide +kernel)
    have := hk.1
    have ex : ∀ {S1 S2 : zq_S}, yf [48 - F, 48 - F + 1] S1 S2 → yf [48 - F, 48 - F + 1, 22] S1 S2 := fun {S1 S2} f => f.mono (by simp)
    have ct : ∀ {S' : zq_S}, yf [48 - F, 48 - F + 1] S0 S' → zq_i S' t = zq_i s t := fun {S'} f => by
      rw [f.i (by simp; omega), fr0.i (by simp; omega)]
    refine zw_98_15 oF (yk_t8 f2) ⟨by omega, by omega⟩ ⟨by omega, by omega⟩ ⟨by omega, by omega⟩ ⟨by omega, by omega⟩ ⟨by omega, by omega⟩ ?_
    rw [if_neg (by omega)]
    refine zw_102 oF (yk_t8 f2) ⟨by omega, by omega⟩ (yw_23 (w := yX_tr) oF T9 hw (by decide +kernel) (fun s1 h1 g1 => ?_))
    rw [ct (fr.trans g1), t9, t10]
    refine yw_27 oF T9 h1 t11 t12 (fun s2 h2 g2 => ?_)
    have last : ∀ (S' : zq_S) (L' : List Int), yf [48 - F, 48 - F + 1] S0 S' → yw S' (48 - F) L' → L' ++ (yX_gt ++ (yX_sx ++ (ye_num xp ++ yX_ef))) = Z → zq_Ex X 23 0 [.ref (48 - F), .ref (1000000 + 23), zz_no] [] S' (zq_rv fun s_2 => zq_Ex X 23 0 [.ref (48 - F), .ref (1000000 + 24), zz_no] [] s_2 (zq_rv fun s_3 => zq_Ex X 24 0 [.ref (48 - F), zq_vi xp, zz_no, zz_no, zz_no, zz_no] [] s_3 (zq_rv fun s_4 => zq_Ex X 23 0 [.ref (48 - F), .ref (1000000 + 25), zz_no] [] s_4 (zq_rv fun s_5 => K s_5)))) := fun S' L' f hw' e => by
      refine yw_23 (w := yX_gt) oF T9 hw' (by decide +kernel) (fun s3 h3 g3 => yw_23 (w := yX_sx) oF T9 h3 (by decide +kernel) (fun s4 h4 g4 => yw_24 oF T9 h4 ⟨by omega, by omega⟩ (fun s5 h5 g5 => yw_23 (w := yX_ef) oF T9 h5 (by decide +kernel) (fun s6 h6 g6 => k s6 (f.trans (g3.trans (g4.trans (g5.trans g6)))) ?_))))
      rw [← e]
      simp only [List.append_assoc] at h6 ⊢
      exact h6
    refine yl_if (fun hm => ?_) (fun hm => ?_)
    · refine last s2 _ (fr.trans (g1.trans g2)) h2 ?_
      rw [← hZ]
      unfold yw_end
      rw [if_pos hm]
      show _ = L ++ ([] ++ _)
      simp only [List.append_assoc, List.nil_append]
    · refine yw_23 (w := yX_pv) oF T9 h2 (by decide +kernel) (fun s3 h3 g3 => yw_24 oF T9 h3 ⟨by omega, by omega⟩ (fun s4 h4 g4 => ?_))
      refine last s4 _ (fr.trans (g1.trans (g2.trans (g3.trans g4)))) h4 ?_
      rw [← hZ]
      unfold yw_end
      rw [if_neg hm]
      show _ = L ++ ([] ++ _)
      simp only [List.append_assoc, List.nil_append]
  | m + 1, n, S, L, hn, n1, fr, hw, hZ => by
    have f1 : F = 23 ∨ F = 25 := hI.2.1.1
    have f2 : t = 27 ∨ t = 126 := hI.2.1.2.1
    have oF : zq_o 1 (48 - F) := by rcases f1 with z | z <;> (subst z; decide +kernel)
    have T9 : zq_T (48 - F) = 999 := by rcases f1 with z | z <;> (subst z; decide +kernel)
    have := hk.1
    have ex : ∀ {S1 S2 : zq_S}, yf [48 - F, 48 - F + 1] S1 S2 → yf [48 - F, 48 - F + 1, 22] S1 S2 := fun {S1 S2} f => f.mono (by simp)
    refine zw_98_15 oF (yk_t8 f2) ⟨by omega, by omega⟩ ⟨by omega, by omega⟩ ⟨by omega, by omega⟩ ⟨by omega, by omega⟩ ⟨by omega, by omega⟩ ?_
    rw [if_pos (by omega), show (n : Int) + 1 = ((n + 1 : Nat) : Int) by omega, show (n : Int) - 1 = ((n - 1 : Nat) : Int) by omega]
    have tb : ∀ li E, yw_tab li E (m + 1) n = (if li n = true then (if li (n - 1) = true then [] else [48 + (n : Int), 32, 48 + (yw_rl li (10 - n) n : Int), 10]) ++ E n else []) ++ yw_tab li E m (n + 1) := fun _ _ => rfl
    rw [tb] at hZ
    have ent : ∀ (S' : zq_S) (L' : List Int), yf [48 - F, 48 - F + 1] S0 S' → yw S' (48 - F) L' → L' ++ (yw_en P (fun n => decide (zq_i s 237 n ≠ 0)) (fun n => km.testBit n) (fun n => zq_i s 238 n) n ++ (yw_tab (fun n => lm.testBit n) (yw_en P (fun n => decide (zq_i s 237 n ≠ 0)) (fun n => km.testBit n) (fun n => zq_i s 238 n)) m (n + 1) ++ yw_end (zq_i s 232 17) (zq_i s 232 18) tl xp)) = Z → zq_Ex X 35 0 [zq_vi (km : Int), zq_vi (n : Int)] [] S' (zq_rp zq_bo fun x_20 s_19 => (zq_Ex X 100 0 [(.ref (21)), (.ref (48 - F)), (.ref t), (zq_vi (n : Int)), (zq_vi (x_20)), zz_no, zz_no] [] s_19 (zq_rv fun s_22 => zq_Ex X 98 15 [(.ref (21)), (.ref (48 - F)), (.ref t), (zq_vi (lm : Int)), (zq_vi (km : Int)), (zq_vi tl), (zq_vi xp), (zq_vi ((n + 1 : Nat) : Int))] [] s_22 (zq_rv K)))) := fun S' L' f hw' e => by
      have e22 : zq_i S' 22 = zq_i S0 22 := f.i (by simp; omega)
      have step : ∀ (kb : Bool) (x4 : Int), km.testBit n = kb → x4 = (if kb = true then 1 else 0) → zq_Ex X 100 0 [(.ref (21)), (.ref (48 - F)), (.ref t), (zq_vi (n : Int)), (zq_vi x4), zz_no, zz_no] [] S' (zq_rv fun s_22 => zq_Ex X 98 15 [(.ref (21)), (.ref (48 - F)), (.ref t), (zq_vi (lm : Int)), (zq_vi (km : Int)), (zq_vi tl), (zq_vi xp), (zq_vi ((n + 1 : Nat) : Int))] [] s_22 (zq_rv K)) := fun kb x4 hkb h4 => by
        refine ys_100 hI (fr0.trans (ex f)) n1 (by omega) hw' h4 (fun z => (hk.2 n (by rw [hkb, z])).2.2) (fun z => ?_) (fun S2 g h => ?_)
        · rw [e22]
          have := hP n n1 (by omega) (by rw [hkb, z])
          omega
        · refine ys_98_15 hI fr0 hl hk hP hx htl k m (n + 1) S2 _ (by omega) (by omega) (f.trans g) h ?_
          rw [← e, List.append_assoc]
          congr 1
          congr 1
          unfold yw_en
          dsimp only
          simp only [hkb, e22]
          cases kb with
          | false => rfl
          | true =>
            rw [if_pos rfl, if_pos rfl, (hP n n1 (by omega) hkb).1]
            rfl
      exact ys_35 hk.1 (by omega) (fun h0 => step false 0 h0 rfl) (fun h1 => step true 1 h1 rfl)
    refine ys_35 hl (by omega) (fun h0 => ?_) (fun h1 => ?_)
    · rw [if_pos rfl]
      rw [h0, if_neg (by decide), List.nil_append] at hZ
      exact ys_98_15 hI fr0 hl hk hP hx htl k m (n + 1) S L (by omega) (by omega) fr hw hZ
    · rw [if_neg (by decide)]
      rw [h1, if_pos rfl] at hZ
      refine ys_35 hl (by omega) (fun h2 => ?_) (fun h2 => ?_)
      · rw [if_pos rfl]
        rw [h2, if_neg (by decide)] at hZ
        refine zw_99 oF ⟨by omega, by omega⟩ ⟨by omega, by omega⟩ (ys_99_3 oF T9 hw hl n1 (by omega) (fun S2 g h => ?_) (10 - n) n (by omega) (by omega) (fun _ => h1) (by omega))
        refine ent S2 _ (fr.trans g) h ?_
        rw [← hZ]
        simp only [List.append_assoc]
      · rw [if_neg (by decide)]
        rw [h2, if_pos rfl, List.nil_append] at hZ
        refine ent S _ fr hw ?_
        rw [← hZ]
        simp only [List.append_assoc]
end YLD8
