/-! save: the reference's table, its loops -/
section YLE1
variable {X : Nat × (Nat → Int32)}
set_option maxRecDepth 100000 in
theorem ys_197_235 {S : zq_S} {L : List Int} {x1 x3 xp : Int} {v4 : Value} (h1 : zq_iv x1) (h3 : zq_iv x3) (h4 : v4.category = 1) (hx : 0 ≤ xp ∧ xp < 1000000) (hw : ynw S L) (hl : L.length + 30 ≤ 6500) {K : zq_S → Prop} (k : ∀ s', ynw s' (L ++ (yX_gt ++ (yX_sx ++ (ye_num xp ++ yX_ef)))) → ynf S s' → K s') : zq_Ex X 197 235 [.ref 232, zq_vi x1, zq_vi xp, zq_vi x3, v4] [] S (zq_rv K) := by
  have hn := ye_num_len xp
  refine zw_197_235 h1 ⟨by omega, by omega⟩ h3 h4 (yn_194 (by decide) hw (by omega) (fun s1 h1 g1 => yn_194 (by decide) h1 (by simp; omega) (fun s2 h2 g2 => yn_194 (by decide) h2 (by simp; omega) (fun s3 h3 g3 => yn_195 (by decide) h3 (by simp; omega) (fun s4 h4 g4 => ?_)))))
  refine ys_200 ⟨by omega, by omega⟩ h4 (by simp; omega) (fun s5 h5 g5 => yn_195 (by decide) h5 (by simp; omega) (fun s6 h6 g6 => yn_194 (by decide) h6 (by simp; omega) (fun s7 h7 g7 => yn_195 (by decide) h7 (by simp; omega) (fun s8 h8 g8 => yn_195 (by decide) h8 (by simp; omega) (fun s9 h9 g9 => k s9 ?_ (g1.trans (g2.trans (g3.trans (g4.trans (g5.trans (g6.trans (g7.trans (g8.trans g9)))))))))))))
  simp only [List.append_assoc, List.cons_append, List.nil_append] at h9 ⊢
  exact h9
set_option maxRecDepth 100000 in
theorem ys_197_54 {S : zq_S} {L : List Int} {lm n : Nat} {x1 x2 : Int} (h1 : zq_iv x1) (h2 : zq_iv x2) (hf : yfr S 254 lm) (n1 : 1 ≤ n) (n9 : n ≤ 9) (hb : lm.testBit n = true) (hw : ynw S L) (hl : L.length + 4 ≤ 6500) {K : zq_S → Prop} (k : ∀ s' v4, v4.category = 1 → ynw s' (L ++ [48 + (n : Int), 32, 48 + (yw_rl (fun n => lm.testBit n) (10 - n) n : Int), 10]) → ynf S s' → zq_Ex X 197 112 [.ref 232, zq_vi x1, zq_vi x2, zq_vi (n : Int), v4] [] s' (zq_rv K)) : ∀ (m i : Nat), n + i + m = 10 → yw_rl (fun n => lm.testBit n) (10 - n) n = i + yw_rl (fun n => lm.testBit n) m (n + i) → zq_Ex X 197 54 [.ref 232, zq_vi x1, zq_vi x2, zq_vi (n : Int), zq_vi (i : Int)] [] S (zq_rv K) := by
  have out : ∀ i : Nat, i ≤ 9 → yw_rl (fun n => lm.testBit n) (10 - n) n = i → zq_Ex X 197 81 [.ref 232, zq_vi x1, zq_vi x2, zq_vi (n : Int), zq_vi (i : Int)] [] S (zq_rv K) := fun i hi e => by
    have d1 := yn_d (x := (n : Int)) ⟨by omega, by omega⟩
    have d2 := yn_d (x := (i : Int)) ⟨by omega, by omega⟩
    refine zw_197_81 h1 h2 ⟨by omega, by omega⟩ ⟨by omega, by omega⟩ (yn_195 d1.1 hw (by omega) (fun s1 h1 g1 => yn_195 (by decide) h1 (by simp; omega) (fun s2 h2 g2 => yn_195 d2.1 h2 (by simp; omega) (fun s3 h3 g3 => yn_195 (by decide) h3 (by simp; omega) (fun s4 h4 g4 => k s4 _ rfl ?_ (g1.trans (g2.trans (g3.trans g4))))))))
    rw [d1.2, d2.2] at h4
    rw [e]
    simp only [List.append_assoc, List.cons_append, List.nil_append] at h4 ⊢
    exact h4
  intro m
  induction m with
  | zero =>
    intro i hi e
    refine zw_197_54 h1 h2 ⟨by omega, by omega⟩ ⟨by omega, by omega⟩ ⟨⟨by omega, by omega⟩, ?_⟩
    rw [if_neg (by omega)]
    exact out i (by omega) e
  | succ m ih =>
    intro i hi e
    refine zw_197_54 h1 h2 ⟨by omega, by omega⟩ ⟨by omega, by omega⟩ ⟨⟨by omega, by omega⟩, ?_⟩
    have hfi := hf (n + i) (by omega)
    rw [if_pos (by omega), show (n : Int) + (i : Int) = ((n + i : Nat) : Int) by omega, hfi, show (i : Int) + 1 = ((i + 1 : Nat) : Int) by omega]
    refine ⟨⟨by omega, by omega⟩, ?_⟩
    cases hbi : lm.testBit (n + i) with
    | false =>
      rw [if_neg (show ¬ (false = true) by decide), if_pos rfl]
      have e2 : yw_rl (fun n => lm.testBit n) (m + 1) (n + i) = 0 := by
        show (if lm.testBit (n + i) = true then _ else 0) = 0
        rw [hbi]
        rfl
      have : i ≠ 0 := fun z => by
        rw [z, Nat.add_zero, hb] at hbi
        cases hbi
      exact out i (by omega) (by rw [e, e2]; rfl)
    | true =>
      rw [if_pos (show (true = true) from rfl), if_neg (show ¬ (1 : Int) = 0 by decide)]
      have e2 : yw_rl (fun n => lm.testBit n) (m + 1) (n + i) = 1 + yw_rl (fun n => lm.testBit n) m (n + (i + 1)) := by
        show (if lm.testBit (n + i) = true then _ else 0) = _
        rw [if_pos hbi]
        rfl
      exact ih (i + 1) (by omega) (by rw [e, e2]; omega)
set_option maxRecDepth 100000 in
theorem ys_197_25 {S : zq_S} {lm km : Nat} (hf : yfr S 254 lm) (hg : ∀ n : Nat, 1 ≤ n → n ≤ 9 → 0 ≤ zq_i S 238 n ∧ zq_i S 238 n ≤ 9) (hk : ∀ n : Nat, 1 ≤ n → n ≤ 9 → lm.testBit n = true → (km.testBit n = true ↔ zq_i S 237 n ≠ 0 ∧ zq_i S 255 n ≠ 0)) {P : Nat → Int} (hP : ∀ n : Nat, 1 ≤ n → n ≤ 9 → km.testBit n = true → zq_i S 251 n = P n ∧ 0 ≤ P n ∧ P n < 6500) (h17 : 0 ≤ zq_i S 232 17 ∧ zq_i S 232 17 ≤ 9) (h18 : 0 ≤ zq_i S 232 18 ∧ zq_i S 232 18 ≤ 9) {xp tl : Int} (hx : 0 ≤ xp ∧ xp < 6500) (htl : -1 ≤ tl ∧ tl < 1000000) {Z : List Int} {K : zq_S → Prop} (k : ∀ s', ynw s' Z → ynf S s' → K s') : ∀ (m n : Nat) (S' : zq_S) (L : List Int) (v4 : Value), v4.category = 1 → n + m = 10 → 1 ≤ n → ynf S S' → ynw S' L → L.length + 12 * m + 80 ≤ 6500 → L ++ (yw_tab (fun n => lm.testBit n) (yw_en P (fun n => decide (zq_i S 237 n ≠ 0)) (fun n => km.testBit n) (fun n => zq_i S 238 n)) m n ++ yw_end (zq_i S 232 17) (zq_i S 232 18) tl xp) = Z → zq_Ex X 197 25 [.ref 232, zq_vi tl, zq_vi xp, zq_vi (n : Int), v4] [] S' (zq_rv K)
  | 0, n, S', L, v4, h4, hn, n1, fr, hw, hb, hZ => by
    refine zw_197_25 ⟨by omega, by omega⟩ ⟨by omega, by omega⟩ ⟨by omega, by omega⟩ h4 ?_
    rw [if_neg (by omega)]
    refine yn_194 (by decide) hw (by omega) (fun s1 h1 g1 => yn_194 (by decide) h1 (by simp; omega) (fun s2 h2 g2 => yn_194 (by decide) h2 (by simp; omega) (fun s3 h3 g3 => yn_194 (by decide) h3 (by simp; omega) (fun s4 h4' g4 => ?_))))
    have f4 : ynf S s4 := fr.trans (g1.trans (g2.trans (g3.trans g4)))
    rw [f4.f (j := 17) (by simp), f4.f (j := 18) (by simp)]
    have hn7 := ye_num_len tl
    refine ys_199 h17 h18 h4' (by simp; omega) (fun s5 h5 g5 => ?_)
    have fin : ∀ (L' : List Int) (s6 : zq_S), L' ++ (yX_gt ++ (yX_sx ++ (ye_num xp ++ yX_ef))) = Z → L'.length ≤ L.length + 40 → ynw s6 L' → ynf S s6 → zq_Ex X 197 235 [.ref 232, zq_vi tl, zq_vi xp, zq_vi (n : Int), v4] [] s6 (zq_rv K) := fun L' s6 e hl h g => ys_197_235 ⟨by omega, by omega⟩ ⟨by omega, by omega⟩ h4 ⟨by omega, by omega⟩ h (by omega) (fun s' a b => k s' (by rw [← e]; exact a) (g.trans b))
    refine yl_if (fun hm => ?_) (fun hm => ?_)
    · refine fin _ s5 ?_ (by simp) h5 (f4.trans g5)
      rw [← hZ]
      unfold yw_end
      rw [if_pos (by omega)]
      show _ = L ++ ([] ++ _)
      simp only [List.append_assoc, List.cons_append, List.nil_append]
    · refine yn_194 (by decide) h5 (by simp; omega) (fun s6 h6 g6 => yn_194 (by decide) h6 (by simp; omega) (fun s7 h7 g7 => ⟨?_, ?_⟩))
      · have := h7.1
        rw [this]
        simp only [List.length_append, List.length_cons, List.length_nil]
        exact ⟨by omega, by omega⟩
      · have e7 : (((((((L ++ [116, 114, 97, 105]) ++ [108, 101, 114, 10]) ++ [60, 60, 47, 82]) ++ [111, 111, 116, 32]) ++ [48 + zq_i S 232 17, 32, 48 + zq_i S 232 18, 32, 82]) ++ [32, 47, 80, 114]) ++ [101, 118, 32, 32]) = (L ++ (yX_tr ++ ([48 + zq_i S 232 17, 32, 48 + zq_i S 232 18, 32, 82] ++ yX_pv))) ++ [32] := by
          simp only [List.append_assoc, List.cons_append, List.nil_append]
        rw [e7] at h7
        refine ys_200 ⟨by omega, by omega⟩ (ynw_drop h7) (by simp; omega) (fun s8 h8 g8 => ?_)
        refine fin _ s8 ?_ (by simp; omega) h8 (f4.trans (g5.trans (g6.trans (g7.trans ((ymf2.sf (j := 7) (by simp) (by decide)).trans g8)))))
        rw [← hZ]
        unfold yw_end
        rw [if_neg (by omega)]
        show _ = L ++ ([] ++ _)
        simp only [List.append_assoc, List.cons_append, List.nil_append]
  | m + 1, n, S', L, v4, h4, hn, n1, fr, hw, hb, hZ => by
    have tb : ∀ li E, yw_tab li E (m + 1) n = (if li n = true then (if li (n - 1) = true then [] else [48 + (n : Int), 32, 48 + (yw_rl li (10 - n) n : Int), 10]) ++ E n else []) ++ yw_tab li E m (n + 1) := fun _ _ => rfl
    rw [tb] at hZ
    have at112 : ∀ (s' : zq_S) (L' : List Int) (w4 : Value), w4.category = 1 → ynf S s' → ynw s' L' → L'.length ≤ L.length + 4 → L' ++ ((if lm.testBit n = true then yw_en P (fun n => decide (zq_i S 237 n ≠ 0)) (fun n => km.testBit n) (fun n => zq_i S 238 n) n else []) ++ (yw_tab (fun n => lm.testBit n) (yw_en P (fun n => decide (zq_i S 237 n ≠ 0)) (fun n => km.testBit n) (fun n => zq_i S 238 n)) m (n + 1) ++ yw_end (zq_i S 232 17) (zq_i S 232 18) tl xp)) = Z → zq_Ex X 197 112 [.ref 232, zq_vi tl, zq_vi xp, zq_vi (n : Int), w4] [] s' (zq_rv K) := fun s' L' w4 hw4 f h hl e => by
      refine zw_197_112 ⟨by omega, by omega⟩ ⟨by omega, by omega⟩ ⟨by omega, by omega⟩ hw4 ⟨⟨by omega, by omega⟩, ?_⟩
      rw [f.i (b := 254) (by simp) (by decide), hf n (by omega), show (n : Int) + 1 = ((n + 1 : Nat) : Int) by omega]
      cases hbn : lm.testBit n with
      | false =>
        rw [if_neg (show ¬ (false = true) by decide), if_pos rfl]
        rw [hbn, if_neg (by decide), List.nil_append] at e
        exact ys_197_25 hf hg hk hP h17 h18 hx htl k m (n + 1) s' L' w4 hw4 (by omega) (by omega) f h (by omega) e
      | true =>
        rw [if_pos (show (true = true) from rfl), if_neg (show ¬ (1 : Int) = 0 by decide)]
        rw [hbn, if_pos rfl] at e
        have hgn := hg n n1 (by omega)
        have e8 : zq_i s' 238 = zq_i S 238 := f.i (by simp) (by decide)
        have e1 : zq_i s' 251 = zq_i S 251 := f.i (by simp) (by decide)
        have e7 : zq_i s' 237 = zq_i S 237 := f.i (by simp) (by decide)
        refine ys_198 (kb := km.testBit n) ⟨by omega, by omega⟩ (ynf_k f (hk n n1 (by omega) hbn)) (by rw [e8]; exact hgn) (fun z => ?_) h (by omega) (fun s2 h2 g2 => ?_)
        · rw [e1]
          have := hP n n1 (by omega) z
          omega
        · have een : yw_en P (fun n => decide (zq_i S 237 n ≠ 0)) (fun n => km.testBit n) (fun n => zq_i S 238 n) n = yd3 (if km.testBit n = true then zq_i s' 251 n else 0) ++ ([32, 48 + yw_g (decide (zq_i s' 237 n ≠ 0)) (km.testBit n) (zq_i s' 238 n)] ++ (if km.testBit n = true then yX_n else yX_f)) := by
            unfold yw_en
            dsimp only
            rw [e7, e8, e1]
            by_cases hz : km.testBit n = true
            · simp only [if_pos hz]
              rw [(hP n n1 (by omega) hz).1]
            · simp only [if_neg hz]
          rw [een] at e
          refine ys_197_25 hf hg hk hP h17 h18 hx htl k m (n + 1) s2 _ w4 hw4 (by omega) (by omega) (f.trans g2) h2 ?_ (by rw [← e]; simp only [List.append_assoc])
          have : (if km.testBit n = true then yX_n else yX_f).length = 3 := by split <;> rfl
          simp only [yd3, List.length_append, List.length_cons, List.length_nil, this]
          omega
    refine zw_197_25 ⟨by omega, by omega⟩ ⟨by omega, by omega⟩ ⟨by omega, by omega⟩ h4 ?_
    rw [if_pos (by omega), fr.i (b := 254) (by simp) (by decide), hf n (by omega), show (n : Int) - 1 = ((n - 1 : Nat) : Int) by omega, hf (n - 1) (by omega)]
    refine ⟨⟨by omega, by omega⟩, ?_⟩
    cases hbn : lm.testBit n with
    | false =>
      rw [if_neg (show ¬ (false = true) by decide), if_pos rfl]
      rw [hbn, if_neg (by decide), List.nil_append] at hZ
      refine at112 S' L v4 h4 fr hw (by omega) ?_
      rw [hbn, if_neg (by decide), List.nil_append]
      exact hZ
    | true =>
      rw [if_pos (show (true = true) from rfl), if_neg (show ¬ (1 : Int) = 0 by decide)]
      rw [hbn, if_pos rfl] at hZ
      refine ⟨⟨by omega, by omega⟩, ?_⟩
      cases hb1 : lm.testBit (n - 1) with
      | false =>
        rw [if_neg (show ¬ (false = true) by decide), if_pos rfl]
        rw [hb1, if_neg (by decide)] at hZ
        refine ys_197_54 (S := S') (lm := lm) ⟨by omega, by omega⟩ ⟨by omega, by omega⟩ (fun j hj => by rw [fr.i (b := 254) (by simp) (by decide)]; exact hf j hj) n1 (by omega) hbn hw (by omega) (fun s' w4 hw4 h g => at112 s' _ w4 hw4 (fr.trans g) h (by simp) ?_) (10 - n) 0 (by omega) (by simp)
        rw [hbn, if_pos rfl, ← hZ]
        simp only [List.append_assoc]
      | true =>
        rw [if_pos (show (true = true) from rfl), if_neg (show ¬ (1 : Int) = 0 by decide)]
        rw [hb1, if_pos rfl, List.nil_append] at hZ
        refine at112 S' L v4 h4 fr hw (by omega) ?_
        rw [hbn, if_pos rfl, ← hZ]
        simp only [List.append_assoc]
end YLE1
