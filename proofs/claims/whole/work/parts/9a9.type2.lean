/-! the law's case type -/
section YL9
variable {X : Nat × (Nat → Int32)} {y : Int64}
set_option maxRecDepth 100000 in
theorem ys_142_116 {K : Int → zq_S → Prop} {n : Nat} (hn : n = (ytb y 8 0).length) : ∀ (k i : Nat) (s : zq_S) (d : List Int) (v : Value), v.category = 1 → i + k = n → zq_i s 232 1 = d.length → yrow s 233 0 d → d.length + k ≤ 100 → (∀ s', zq_i s' 232 1 = (d ++ (ytb y 8 0).drop i).length → yrow s' 233 0 (d ++ (ytb y 8 0).drop i) → (∀ b, b ≠ 232 → b ≠ 233 → zq_i s' b = zq_i s b) → (∀ j, j ≠ 1 → zq_i s' 232 j = zq_i s 232 j) → s'.2 = s.2 → K (zq_i s' 232 1) s') → zq_Ex X 142 116 [.ref 232, .long y, zz_no, zq_vi n, zq_vi i, v] [] s (zq_rp zq_iv K)
  | 0, i, s, d, v, hv, hi, h1, h2, hl, k => by
    have h8 := ytb_len y 8 0
    refine zw_142_116 ⟨by omega, by omega⟩ ⟨by omega, by omega⟩ hv ?_
    rw [if_neg (by omega)]
    have e : d ++ (ytb y 8 0).drop i = d := by rw [List.drop_of_length_le (by omega)]; simp
    refine k s ?_ ?_ (fun _ _ _ => rfl) (fun _ _ => rfl) rfl
    · rw [e]; exact h1
    · rw [e]; exact h2
  | k + 1, i, s, d, v, hv, hi, h1, h2, hl, kk => by
    have h8 := ytb_len y 8 0
    have hr := ytb1_r y i
    refine zw_142_116 ⟨by omega, by omega⟩ ⟨by omega, by omega⟩ hv ?_
    rw [if_pos (by omega), yk_byte2 y i (by omega), Int.emod_eq_of_lt hr.1 (by omega), h1]
    refine ⟨⟨by omega, by omega⟩, ⟨by omega, by omega⟩, ?_⟩
    have hg := ytb_get y 8 0 i (by omega)
    have hlt : i < (ytb y 8 0).length := by omega
    have hd : (ytb y 8 0).drop i = ytb1 y i :: (ytb y 8 0).drop (i + 1) := by
      rw [List.drop_eq_getElem_cons hlt]
      congr 1
      rw [List.getD_eq_getElem?_getD, List.getElem?_eq_getElem hlt] at hg
      simpa using hg
    have ed : d ++ (ytb y 8 0).drop i = (d ++ [ytb1 y i]) ++ (ytb y 8 0).drop (i + 1) := by rw [hd]; simp
    rw [ed] at kk
    refine ys_142_116 hn k (i + 1) _ (d ++ [ytb1 y i]) v hv (by omega) ?_ (fun j hj => ?_) (by simp; omega) fun s' g1 g2 g3 g4 g5 => kk s' g1 g2 (fun b b1 b2 => ?_) (fun j hj => ?_) g5
    · rw [zq_i_at]; simp
    · simp at hj
      rw [zq_i_si, if_neg (by simp), zq_i_si, show (0 : Int) + (j : Int) = j by omega]
      by_cases hje : j = d.length
      · rw [if_pos ⟨rfl, by omega⟩, hje]
        simp
      · rw [if_neg (fun z => hje (by have := z.2; omega))]
        have := h2 j (by omega)
        rw [show (0 : Int) + (j : Int) = j by omega] at this
        rw [this]
        simp [List.getD_eq_getElem?_getD, List.getElem?_append_left (show j < d.length by omega)]
    · rw [g3 b b1 b2]
      funext j
      rw [zq_i_si, if_neg (fun z => b1 z.1), zq_i_si, if_neg (fun z => b2 z.1)]
    · rw [g4 j hj, zq_i_si, if_neg (fun z => hj z.2), zq_i_si, if_neg (by simp)]
set_option maxRecDepth 100000 in
theorem yl_132 (hX : X.1 ≤ 1536) : yl_C X 132 := fun s A m v5 v6 h5 h6 hI hm hmX next => by
  obtain ⟨dr, fl, ev, ct, F, t⟩ := A
  have hF : F = 23 ∨ F = 25 := hI.2.1.1
  obtain ⟨⟨v, b1⟩, b2, b3, b4, ⟨v2, b5⟩, b6, b7, b8⟩ := hI.1
  have b1 : yx s 1 (dr, v) := b1
  have b2 : ∀ c ∈ dr, yp_isC c = true := b2
  have b3 : zq_i s 232 1 = dr.length := b3
  have b4 : yrow s 233 0 dr := b4
  have b5 : yx s F (fl, v2) := b5
  have b7 : zq_i s 232 3 = fl.length := b7
  have b8 : yrow s 234 0 fl := b8
  have T1 : zq_T 1 = 100 := by decide +kernel
  have hdl : dr.length ≤ 100 := by have := b1.2.1; rw [T1] at this; exact this
  have hd1 : zq_i s 1 1 = dr.length := b1.1
  have hb : (0 : Int) ≤ 3 * (m : Int) + 1 ∧ 3 * (m : Int) + 1 < (X.1 : Int) := ⟨by omega, by omega⟩
  have hb2 : (0 : Int) ≤ 3 * (m : Int) + 2 ∧ 3 * (m : Int) + 2 < (X.1 : Int) := ⟨by omega, by omega⟩
  refine zw_0_132 (by omega) ⟨by omega, by omega⟩ h5 h6 ⟨hb, hb2, ?_⟩
  generalize ((((Int32.ofInt ((X.2 (3 * (m : Int) + 1).toNat).toInt)).toInt64) <<< ((Int32.ofInt (32)).toInt64 &&& 63)) ||| (((Int32.ofInt ((X.2 (3 * (m : Int) + 2).toNat).toInt)).toInt64) &&& (4294967295))) = y
  have h8 := ytb_len y 8 0
  have hn1 : zq_n s < 1000 := by omega
  have allC : (∀ j, j < (ytb y 8 0).length → yp_isC (ytb1 y j) = true) ↔ (ytb y 8 0).all yp_isC = true := by
    rw [List.all_eq_true]
    constructor
    · intro h c hc
      obtain ⟨j, hj, e⟩ := List.getElem_of_mem hc
      have hg := ytb_get y 8 0 j hj
      rw [List.getD_eq_getElem?_getD, List.getElem?_eq_getElem hj] at hg
      have := h j hj
      rw [← e]
      simp at hg
      rw [hg]
      exact this
    · intro h j hj
      have hg := ytb_get y 8 0 j hj
      rw [List.getD_eq_getElem?_getD, List.getElem?_eq_getElem hj] at hg
      simp at hg
      rw [← hg]
      exact h _ (List.getElem_mem hj)
  have bad : ¬ ((ytb y 8 0).all yp_isC = true ∧ dr.length + (ytb y 8 0).length ≤ 100) → zq_Ex X 142 0 [.ref 232, .long y, zz_no, zz_no, zz_no, zz_no] [] (zq_sx s 10) (zq_rp zq_iv fun x_9 s_8 => zq_Ex X 141 0 [.ref 232] [] s_8 (zq_rp zq_iv fun x_10 s_9 => (if x_10 = 1 then (if (1 : Int) = 0 then (if (zq_l s_9 (259) (0)) = ((Int32.ofInt x_9).toInt64) then zq_Ex X 0 967 [(.ref (zz_SC)), (.ref (0)), (.ref (232)), (.ref (259)), (zq_vi (3 * (m : Int))), (zq_vi 1), (zq_vi x_9)] [] s_9 (zq_rp zq_bo fun x _ => x = 1) else (0 : Int) = 1) else zq_Ex X 0 967 [(.ref (zz_SC)), (.ref (0)), (.ref (232)), (.ref (259)), (zq_vi (3 * (m : Int))), (zq_vi 1), (zq_vi x_9)] [] s_9 (zq_rp zq_bo fun x _ => x = 1)) else (0 : Int) = 1))) := fun hno => by
    have fin := yl_say (X := X) (y := 0) (b := 0) (k := 1) ((hI.exc 10).th 1) (by rw [zq_n_si, zq_n_sx]; omega) (zq_i_at _ _ _ _) (fun z => absurd z (by decide)) next
    refine zw_142 (ys_142_10 8 0 0 zz_no (Or.inl rfl) rfl rfl fun x4 v' g1 g2 => ?_)
    rw [Nat.zero_add]
    have e1 : ∀ th, zq_i (zq_si (zq_sx s 10) 232 0 th) 232 1 = dr.length := fun th => by rw [zq_i_si, if_neg (by decide)]; exact b3
    refine zw_142_81 ⟨by omega, by omega⟩ g1 g2 ?_
    rw [e1, zq_i_at]
    refine ⟨⟨by omega, by omega⟩, yl_if (fun hle => ?_) (fun _ => by rw [zq_si_si]; exact fin)⟩
    have hna : ¬ (ytb y 8 0).all yp_isC = true := fun z => hno ⟨z, by omega⟩
    rw [if_neg hna, if_neg (by decide), zq_si_si]
    exact fin
  refine zw_232 zf_k259 (zw_38 (ys_39 (ys_38_8 (n := (ytb y 8 0).length) h8 hn1 (fun hex => ?_) (fun hall => ⟨⟨by omega, by omega⟩, yl_if (fun hle => ys_20y (by decide +kernel) b1 fun s1 x1 f1 => ?_) (fun hgt => ⟨hn1, ?_⟩)⟩) (ytb y 8 0).length 0 (by omega) (fun j hj => by omega))))
  · obtain ⟨j, hj, hC⟩ := hex
    rw [if_pos rfl]
    refine ⟨hb, hb2, bad fun z => ?_⟩
    have := allC.mpr z.1 j hj
    rw [hC] at this
    cases this
  · have hlen : dr.length + (ytb y 8 0).length ≤ 100 := by rw [hd1] at hle; omega
    have hA := allC.mp hall
    rw [T1, yx_ps_fit 100 _ _ hlen] at x1
    have x1 : yx s1 1 (dr ++ ytb y 8 0, v) := x1
    have e11 : zq_i s1 1 1 = (dr ++ ytb y 8 0).length := x1.1
    have e1 : ∀ b, b ≠ 1 → b ≠ 2 → zq_i s1 b = zq_i s b := fun b n1 n2 => f1.i (by simp; exact ⟨n1, n2⟩)
    refine ⟨⟨by decide, by decide⟩, hb, hb2, zw_142 (ys_142_10 8 0 0 zz_no (Or.inl rfl) rfl rfl fun x4 v' g1 g2 => ?_)⟩
    rw [Nat.zero_add, if_pos hA, e11]
    have e2 : zq_i (zq_si (zq_sl s1 259 0 (Int32.ofInt ((dr ++ ytb y 8 0).length : Nat)).toInt64) 232 0 0) 232 1 = dr.length := by rw [zq_i_si, if_neg (by decide), zq_i_sl, e1 232 (by decide) (by decide)]; exact b3
    refine zw_142_81 ⟨by omega, by omega⟩ g1 g2 ?_
    rw [e2, zq_i_at, if_pos (by omega), if_pos rfl, zq_si_si]
    refine ⟨⟨by omega, by omega⟩, ys_142_116 rfl (ytb y 8 0).length 0 _ dr v' g2 (by omega) e2 ?_ (by omega) fun s' c1 c2 c3 c4 c5 => ?_⟩
    · refine b4.cong ?_
      funext j
      rw [zq_i_si, if_neg (by simp), zq_i_sl, e1 233 (by decide) (by decide)]
    · rw [List.drop_zero] at c1 c2
      rw [c1]
      have ei : ∀ b, b ≠ 1 → b ≠ 2 → b ≠ 232 → b ≠ 233 → zq_i s' b = zq_i s b := fun b n1 n2 n3 n4 => by
        rw [c3 b n3 n4, ← e1 b n1 n2]
        funext j
        rw [zq_i_si, if_neg (fun z => n3 z.1), zq_i_sl]
      have ej : ∀ j : Int, j ≠ 0 → j ≠ 1 → zq_i s' 232 j = zq_i s 232 j := fun j j0 j1 => by
        rw [c4 j j1, zq_i_si, if_neg (fun z => j0 z.2), zq_i_sl, e1 232 (by decide) (by decide)]
      have e00 : zq_i s' 232 0 = 0 := by rw [c4 0 (by decide), zq_i_at]
      have er : zq_r s' = zq_r s := by
        have : zq_r s' = zq_r (zq_si (zq_sl s1 259 0 (Int32.ofInt ((dr ++ ytb y 8 0).length : Nat)).toInt64) 232 0 0) := congrArg (fun q : (Nat → Int → Option Nat) × (Nat → Int → Int64) × Nat × Nat => q.1) c5
        rw [this, zq_r_si, zq_r_sl, f1.r]
      have el : zq_l s' = zq_l (zq_sl s1 259 0 (Int32.ofInt ((dr ++ ytb y 8 0).length : Nat)).toInt64) := congrArg (fun q : (Nat → Int → Option Nat) × (Nat → Int → Int64) × Nat × Nat => q.2.1) c5
      have en : zq_n s' = zq_n s := by
        have : zq_n s' = zq_n (zq_si (zq_sl s1 259 0 (Int32.ofInt ((dr ++ ytb y 8 0).length : Nat)).toInt64) 232 0 0) := congrArg (fun q : (Nat → Int → Option Nat) × (Nat → Int → Int64) × Nat × Nat => q.2.2.1) c5
        rw [this, zq_n_si, zq_n_sl, f1.n]
      have kk : yk2 F s s' := ⟨fun b _ hb n => ei b (fun z => hb (by rw [z]; simp)) (fun z => hb (by rw [z]; simp)) n (fun z => hb (by rw [z]; simp)), fun j hj => ej j (fun z => by rw [z] at hj; simp at hj) (fun z => by rw [z] at hj; simp at hj), fun b _ => by rw [er], fun b _ hb => by
        rw [el]
        funext j
        rw [zq_l_sl, if_neg (fun z => hb z.1), f1.l]⟩
      have x2 : yx s' 1 (dr ++ ytb y 8 0, v) := x1.cong (by
        rw [c3 1 (by decide) (by decide)]
        funext j
        rw [zq_i_si, if_neg (by simp), zq_i_sl]) (by
        rw [c3 2 (by decide) (by decide)]
        funext j
        rw [zq_i_si, if_neg (by simp), zq_i_sl])
      have hT : yI_txt s' (dr ++ ytb y 8 0) fl F := by
        refine ⟨⟨v, x2⟩, fun c hc => ?_, c1, c2, ⟨v2, b5.cong (ei F (by omega) (by omega) (by omega) (by omega)) (ei (F + 1) (by omega) (by omega) (by omega) (by omega))⟩, b6, ?_, b8.cong (ei 234 (by decide) (by decide) (by decide) (by decide))⟩
        · rcases List.mem_append.mp hc with z | z
          · exact b2 c z
          · exact List.all_eq_true.mp hA c z
        · rw [ej 3 (by decide) (by decide)]; exact b7
      have hmI : ym_I s' := by
        obtain ⟨g1, g2, g3, g4, g5⟩ := hI.2.2.2.2.2.2.2
        refine ⟨by rw [c1]; simp; omega, ?_, ?_, ?_, fun o o1 o2 => ?_⟩
        · rw [ej 3 (by decide) (by decide)]; exact g2
        · rw [ej 5 (by decide) (by decide)]; exact g3
        · rw [ej 23 (by decide) (by decide)]; exact g4
        · rw [ei 240 (by decide) (by decide) (by decide) (by decide)]; exact g5 o o1 o2
      refine yl_say (y := 0) (kk.yI hI rfl hT hmI) (by rw [en]; omega) e00 (fun _ => ?_) next
      rw [el, zq_l_sl, if_pos ⟨rfl, rfl⟩]
  · rw [if_pos rfl]
    refine ⟨hb, hb2, bad fun z => ?_⟩
    rw [hd1] at hgt
    omega
end YL9
