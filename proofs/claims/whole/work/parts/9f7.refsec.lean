/-! load: method 208 from its beginning, with locals that hold nothing -/
set_option maxRecDepth 100000 in
set_option maxRecDepth 100000 in
theorem zw_208v {X : Nat × (Nat → Int32)} {s : zq_S} {K : Int → zq_S → Prop} {v1 v2 v3 : Value} (w : (zq_Ex X 147 0 [(.ref (232)), (zq_vi (1)), (zq_vi (zq_i s (232) (25)))] [] s (zq_rp zq_ch fun x_3 s_2 => (zq_Ex X 155 0 [(zq_vi (x_3))] [] s_2 (zq_rp zq_bo fun x_6 s_5 => (if x_6 = 0 then K (1) s_5 else (zq_Ex X 147 0 [(.ref (232)), (zq_vi (1)), (zq_vi (zq_i s_5 (232) (25)))] [] s_5 (zq_rp zq_ch fun x_11 s_10 => (zq_Ex X 147 0 [(.ref (232)), (zq_vi (1)), (zq_vi ((zq_i s_10 (232) (25)) + 2))] [] s_10 (zq_rp zq_ch fun x_15 s_14 => (zq_iv (x_11 - 48) ∧ (if x_11 - 48 < 1 then K (0) s_14 else (zq_Ex X 147 0 [(.ref (232)), (zq_vi (1)), (zq_vi ((zq_i s_14 (232) (25)) + 1))] [] s_14 (zq_rp zq_ch fun x_21 s_20 => (if x_21 = 32 then (zq_iv (x_15 - 48) ∧ (if x_15 - 48 < 1 then K (0) s_20 else (if x_15 - 48 ≤ 9 then (zq_Ex X 147 0 [(.ref (232)), (zq_vi (1)), (zq_vi ((zq_i s_20 (232) (25)) + 3))] [] s_20 (zq_rp zq_ch fun x_29 s_28 => (if x_29 = 10 then (zq_iv ((x_11 - 48) + (x_15 - 48)) ∧ (if (x_11 - 48) + (x_15 - 48) ≤ 10 then (zq_iv ((zq_i s_28 (232) (25)) + 4) ∧ zq_Ex X 208 113 [(.ref (232)), (zq_vi (x_11 - 48)), (zq_vi (x_15 - 48)), (zq_vi (x_11 - 48))] [] (zq_si s_28 (232) (25) ((zq_i s_28 (232) (25)) + 4)) (zq_rp zq_bo K)) else K (0) s_28)) else K (0) s_28))) else K (0) s_20))) else K (0) s_20))))))))))))))) : zq_Ex X 208 0 [(.ref (232)), v1, v2, v3] [] s (zq_rp zq_bo K) := by
  refine zq_run 3 (pc' := 3) (L' := [(.ref (232)), v1, v2, v3]) (st' := [(.ref (232)), (zq_vi (1)), (.ref (232))]) (fun _ _ _ => rfl) ?_
  refine zq_have (fun hR_1 => ?_)
  refine zq_getf_i (j := 25) (v := zq_i s (232) (25)) rfl zq_a232 rfl rfl rfl ?_
  refine zq_call_i (i := .invokevirtual 119) (r := [1, 147, 2, 1, 9]) rfl rfl (fun h hp => zr_avv rfl (hp.obj zq_a232)) (of_decide_eq_false rfl) w (fun x_3 s_2 hx_4 w => ?_)
  refine zq_call_i (i := .invokestatic 103) (r := [1, 155, 1, 0, 9]) rfl rfl (fun _ _ => rfl) (of_decide_eq_false rfl) w (fun x_6 s_5 hx_7 w => ?_)
  refine zq_eq0 rfl (zq_bo_in hx_7) (fun hb_8 => ?_) (fun hb_8 => ?_)
  · rw [if_pos hb_8] at w
    refine zq_run 1 (pc' := 140) (L' := [(.ref (232)), v1, v2, v3]) (st' := [(zq_vi (1))]) (fun _ _ _ => rfl) ?_
    exact zq_iret rfl rfl (congrArg Value.int (zq_nb (of_decide_eq_true rfl))) (⟨_, rfl, (of_decide_eq_true rfl), w⟩)
  · rw [if_neg hb_8] at w
    refine zq_run 3 (pc' := 18) (L' := [(.ref (232)), v1, v2, v3]) (st' := [(.ref (232)), (zq_vi (1)), (.ref (232))]) (fun _ _ _ => rfl) ?_
    refine zq_have (fun hR_9 => ?_)
    refine zq_getf_i (j := 25) (v := zq_i s_5 (232) (25)) rfl zq_a232 rfl rfl rfl ?_
    refine zq_call_i (i := .invokevirtual 119) (r := [1, 147, 2, 1, 9]) rfl rfl (fun h hp => zr_avv rfl (hp.obj zq_a232)) (of_decide_eq_false rfl) w (fun x_11 s_10 hx_12 w => ?_)
    refine zq_run 1 (pc' := 26) (L' := [(.ref (232)), v1, v2, v3]) (st' := [(zq_vi (48)), (zq_vi (x_11))]) (fun _ _ _ => rfl) ?_
    refine zq_isub rfl ?_
    refine zq_run 4 (pc' := 31) (L' := [(.ref (232)), (zq_vi (x_11 - 48)), v2, v3]) (st' := [(.ref (232)), (zq_vi (1)), (.ref (232))]) (fun _ _ _ => rfl) ?_
    refine zq_have (fun hR_13 => ?_)
    refine zq_getf_i (j := 25) (v := zq_i s_10 (232) (25)) rfl zq_a232 rfl rfl rfl ?_
    refine zq_run 1 (pc' := 35) (L' := [(.ref (232)), (zq_vi (x_11 - 48)), v2, v3]) (st' := [(zq_vi (2)), (zq_vi (zq_i s_10 (232) (25))), (zq_vi (1)), (.ref (232))]) (fun _ _ _ => rfl) ?_
    refine zq_iadd rfl ?_
    refine zq_call_i (i := .invokevirtual 119) (r := [1, 147, 2, 1, 9]) rfl rfl (fun h hp => zr_avv rfl (hp.obj zq_a232)) (of_decide_eq_false rfl) w (fun x_15 s_14 hx_16 w => ?_)
    refine zq_run 1 (pc' := 41) (L' := [(.ref (232)), (zq_vi (x_11 - 48)), v2, v3]) (st' := [(zq_vi (48)), (zq_vi (x_15))]) (fun _ _ _ => rfl) ?_
    refine zq_isub rfl ?_
    refine zq_run 3 (pc' := 45) (L' := [(.ref (232)), (zq_vi (x_11 - 48)), (zq_vi (x_15 - 48)), v3]) (st' := [(zq_vi (1)), (zq_vi (x_11 - 48))]) (fun _ _ _ => rfl) ?_
    obtain ⟨g_17, w⟩ := w
    refine zq_lt rfl g_17 (of_decide_eq_true rfl) (fun hb_18 => ?_) (fun hb_18 => ?_)
    · rw [if_pos hb_18] at w
      refine zq_run 1 (pc' := 100) (L' := [(.ref (232)), (zq_vi (x_11 - 48)), (zq_vi (x_15 - 48)), v3]) (st' := [(zq_vi (0))]) (fun _ _ _ => rfl) ?_
      exact zq_iret rfl rfl (congrArg Value.int (zq_nb (of_decide_eq_true rfl))) (⟨_, rfl, (of_decide_eq_true rfl), w⟩)
    · rw [if_neg hb_18] at w
      refine zq_run 3 (pc' := 51) (L' := [(.ref (232)), (zq_vi (x_11 - 48)), (zq_vi (x_15 - 48)), v3]) (st' := [(.ref (232)), (zq_vi (1)), (.ref (232))]) (fun _ _ _ => rfl) ?_
      refine zq_have (fun hR_19 => ?_)
      refine zq_getf_i (j := 25) (v := zq_i s_14 (232) (25)) rfl zq_a232 rfl rfl rfl ?_
      refine zq_run 1 (pc' := 55) (L' := [(.ref (232)), (zq_vi (x_11 - 48)), (zq_vi (x_15 - 48)), v3]) (st' := [(zq_vi (1)), (zq_vi (zq_i s_14 (232) (25))), (zq_vi (1)), (.ref (232))]) (fun _ _ _ => rfl) ?_
      refine zq_iadd rfl ?_
      refine zq_call_i (i := .invokevirtual 119) (r := [1, 147, 2, 1, 9]) rfl rfl (fun h hp => zr_avv rfl (hp.obj zq_a232)) (of_decide_eq_false rfl) w (fun x_21 s_20 hx_22 w => ?_)
      refine zq_run 1 (pc' := 61) (L' := [(.ref (232)), (zq_vi (x_11 - 48)), (zq_vi (x_15 - 48)), v3]) (st' := [(zq_vi (32)), (zq_vi (x_21))]) (fun _ _ _ => rfl) ?_
      refine zq_ne rfl (zq_ch_in hx_22) (of_decide_eq_true rfl) (fun hb_23 => ?_) (fun hb_23 => ?_)
      · rw [if_neg hb_23] at w
        refine zq_run 1 (pc' := 100) (L' := [(.ref (232)), (zq_vi (x_11 - 48)), (zq_vi (x_15 - 48)), v3]) (st' := [(zq_vi (0))]) (fun _ _ _ => rfl) ?_
        exact zq_iret rfl rfl (congrArg Value.int (zq_nb (of_decide_eq_true rfl))) (⟨_, rfl, (of_decide_eq_true rfl), w⟩)
      · rw [if_pos hb_23] at w
        refine zq_run 2 (pc' := 66) (L' := [(.ref (232)), (zq_vi (x_11 - 48)), (zq_vi (x_15 - 48)), v3]) (st' := [(zq_vi (1)), (zq_vi (x_15 - 48))]) (fun _ _ _ => rfl) ?_
        obtain ⟨g_24, w⟩ := w
        refine zq_lt rfl g_24 (of_decide_eq_true rfl) (fun hb_25 => ?_) (fun hb_25 => ?_)
        · rw [if_pos hb_25] at w
          refine zq_run 1 (pc' := 100) (L' := [(.ref (232)), (zq_vi (x_11 - 48)), (zq_vi (x_15 - 48)), v3]) (st' := [(zq_vi (0))]) (fun _ _ _ => rfl) ?_
          exact zq_iret rfl rfl (congrArg Value.int (zq_nb (of_decide_eq_true rfl))) (⟨_, rfl, (of_decide_eq_true rfl), w⟩)
        · rw [if_neg hb_25] at w
          refine zq_run 2 (pc' := 72) (L' := [(.ref (232)), (zq_vi (x_11 - 48)), (zq_vi (x_15 - 48)), v3]) (st' := [(zq_vi (9)), (zq_vi (x_15 - 48))]) (fun _ _ _ => rfl) ?_
          refine zq_gt rfl g_24 (of_decide_eq_true rfl) (fun hb_26 => ?_) (fun hb_26 => ?_)
          · rw [if_neg hb_26] at w
            refine zq_run 1 (pc' := 100) (L' := [(.ref (232)), (zq_vi (x_11 - 48)), (zq_vi (x_15 - 48)), v3]) (st' := [(zq_vi (0))]) (fun _ _ _ => rfl) ?_
            exact zq_iret rfl rfl (congrArg Value.int (zq_nb (of_decide_eq_true rfl))) (⟨_, rfl, (of_decide_eq_true rfl), w⟩)
          · rw [if_pos hb_26] at w
            refine zq_run 3 (pc' := 78) (L' := [(.ref (232)), (zq_vi (x_11 - 48)), (zq_vi (x_15 - 48)), v3]) (st' := [(.ref (232)), (zq_vi (1)), (.ref (232))]) (fun _ _ _ => rfl) ?_
            refine zq_have (fun hR_27 => ?_)
            refine zq_getf_i (j := 25) (v := zq_i s_20 (232) (25)) rfl zq_a232 rfl rfl rfl ?_
            refine zq_run 1 (pc' := 82) (L' := [(.ref (232)), (zq_vi (x_11 - 48)), (zq_vi (x_15 - 48)), v3]) (st' := [(zq_vi (3)), (zq_vi (zq_i s_20 (232) (25))), (zq_vi (1)), (.ref (232))]) (fun _ _ _ => rfl) ?_
            refine zq_iadd rfl ?_
            refine zq_call_i (i := .invokevirtual 119) (r := [1, 147, 2, 1, 9]) rfl rfl (fun h hp => zr_avv rfl (hp.obj zq_a232)) (of_decide_eq_false rfl) w (fun x_29 s_28 hx_30 w => ?_)
            refine zq_run 1 (pc' := 88) (L' := [(.ref (232)), (zq_vi (x_11 - 48)), (zq_vi (x_15 - 48)), v3]) (st' := [(zq_vi (10)), (zq_vi (x_29))]) (fun _ _ _ => rfl) ?_
            refine zq_ne rfl (zq_ch_in hx_30) (of_decide_eq_true rfl) (fun hb_31 => ?_) (fun hb_31 => ?_)
            · rw [if_neg hb_31] at w
              refine zq_run 1 (pc' := 100) (L' := [(.ref (232)), (zq_vi (x_11 - 48)), (zq_vi (x_15 - 48)), v3]) (st' := [(zq_vi (0))]) (fun _ _ _ => rfl) ?_
              exact zq_iret rfl rfl (congrArg Value.int (zq_nb (of_decide_eq_true rfl))) (⟨_, rfl, (of_decide_eq_true rfl), w⟩)
            · rw [if_pos hb_31] at w
              refine zq_run 2 (pc' := 93) (L' := [(.ref (232)), (zq_vi (x_11 - 48)), (zq_vi (x_15 - 48)), v3]) (st' := [(zq_vi (x_15 - 48)), (zq_vi (x_11 - 48))]) (fun _ _ _ => rfl) ?_
              refine zq_iadd rfl ?_
              refine zq_run 1 (pc' := 96) (L' := [(.ref (232)), (zq_vi (x_11 - 48)), (zq_vi (x_15 - 48)), v3]) (st' := [(zq_vi (10)), (zq_vi ((x_11 - 48) + (x_15 - 48)))]) (fun _ _ _ => rfl) ?_
              obtain ⟨g_32, w⟩ := w
              refine zq_le rfl g_32 (of_decide_eq_true rfl) (fun hb_33 => ?_) (fun hb_33 => ?_)
              · rw [if_pos hb_33] at w
                refine zq_run 2 (pc' := 103) (L' := [(.ref (232)), (zq_vi (x_11 - 48)), (zq_vi (x_15 - 48)), v3]) (st' := [(.ref (232)), (.ref (232))]) (fun _ _ _ => rfl) ?_
                refine zq_have (fun hR_34 => ?_)
                refine zq_getf_i (j := 25) (v := zq_i s_28 (232) (25)) rfl zq_a232 rfl rfl rfl ?_
                refine zq_run 1 (pc' := 107) (L' := [(.ref (232)), (zq_vi (x_11 - 48)), (zq_vi (x_15 - 48)), v3]) (st' := [(zq_vi (4)), (zq_vi (zq_i s_28 (232) (25))), (.ref (232))]) (fun _ _ _ => rfl) ?_
                refine zq_iadd rfl ?_
                obtain ⟨g_35, w⟩ := w
                refine zq_putf_i (j := 25) rfl zq_a232 rfl rfl rfl g_35 ?_
                refine zq_run 2 (pc' := 113) (L' := [(.ref (232)), (zq_vi (x_11 - 48)), (zq_vi (x_15 - 48)), (zq_vi (x_11 - 48))]) (st' := []) (fun _ _ _ => rfl) ?_
                exact w
              · rw [if_neg hb_33] at w
                refine zq_run 1 (pc' := 100) (L' := [(.ref (232)), (zq_vi (x_11 - 48)), (zq_vi (x_15 - 48)), v3]) (st' := [(zq_vi (0))]) (fun _ _ _ => rfl) ?_
                exact zq_iret rfl rfl (congrArg Value.int (zq_nb (of_decide_eq_true rfl))) (⟨_, rfl, (of_decide_eq_true rfl), w⟩)
section YLF7
variable {X : Nat × (Nat → Int32)}
set_option maxRecDepth 100000 in
theorem ys_208_113 {S : zq_S} {T : Int → Int} (hb : yTb T) (hmI : ym_I S) (hT : ym_c S 1 = T) {n c : Nat} (n1 : 1 ≤ n) (hnc : n + c ≤ 10) {K : Int → zq_S → Prop} : ∀ (m o : Nat) (p : Int) (S' : zq_S) (E : yLt), o + m = n + c → n ≤ o → 0 ≤ p → p + 8 * m ≤ 1990 → ymf [25] [250, 251, 252] S S' → zq_i S' 232 25 = p → yLr S' E → (yl_rn T m o p E = none → ∀ S'', ymf [25] [250, 251, 252] S S'' → K 0 S'') → (∀ p' E' S'', yl_rn T m o p E = some (p', E') → ymf [25] [250, 251, 252] S S'' → zq_i S'' 232 25 = p' → yLr S'' E' → zq_Ex X 208 0 [.ref 232, zq_vi (n : Int), zq_vi (c : Int), zq_vi ((n + c : Nat) : Int)] [] S'' (zq_rp zq_bo K)) → zq_Ex X 208 113 [.ref 232, zq_vi (n : Int), zq_vi (c : Int), zq_vi (o : Int)] [] S' (zq_rp zq_bo K)
  | 0, o, p, S', E, ho, hno, p0, p1, fr, hpos, hL, k0, k1 => by
    refine zw_208_113 ⟨by omega, by omega⟩ ⟨by omega, by omega⟩ ⟨by omega, by omega⟩ ⟨⟨by omega, by omega⟩, ?_⟩
    rw [if_neg (by omega)]
    have e : o = n + c := by omega
    rw [e]
    exact k1 p E S' rfl fr hpos hL
  | m + 1, o, p, S', E, ho, hno, p0, p1, fr, hpos, hL, k0, k1 => by
    have hm2 : ym_I S' := hmI.cong (fun j hj => fr.f (by simp at hj ⊢; omega)) (fr.i (by simp) (by decide))
    have hT2 : ym_c S' 1 = T := by rw [fr.c (by decide) (by decide) (by decide)]; exact hT
    refine zw_208_113 ⟨by omega, by omega⟩ ⟨by omega, by omega⟩ ⟨by omega, by omega⟩ ⟨⟨by omega, by omega⟩, ?_⟩
    rw [if_pos (by omega)]
    have e0 : yl_rn T (m + 1) o p E = if yl_en T p = true then yl_rn T m (o + 1) (p + 8) (yl_put T o p E) else none := rfl
    rw [e0] at k0 k1
    refine ys_209 hb hm2 hT2 hpos ⟨by omega, by omega⟩ (by omega) (by omega) hL (fun he => ?_) (fun he S2 g2 hp2 h2 => ?_)
    · rw [if_pos rfl]
      exact k0 (by rw [he]; rfl) S' fr
    · rw [if_pos he] at k0 k1
      rw [if_neg (by decide), show (o : Int) + 1 = ((o + 1 : Nat) : Int) by omega]
      exact ys_208_113 hb hmI hT n1 hnc m (o + 1) (p + 8) S2 _ (by omega) (by omega) (by omega) (by omega) (fr.trans g2) hp2 h2 k0 k1
set_option maxRecDepth 100000 in
theorem ys_208 {S : zq_S} {T : Int → Int} (hb : yTb T) (hmI : ym_I S) (hT : ym_c S 1 = T) {K : Int → zq_S → Prop} : ∀ (f : Nat) (p : Int) (S' : zq_S) (E : yLt) (v1 v2 v3 : Value), 1000 ≤ p + f → 0 ≤ p → p ≤ 1900 → ymf [25] [250, 251, 252] S S' → zq_i S' 232 25 = p → yLr S' E → (yl_sec T f p E = none → ∀ S'', ymf [25] [250, 251, 252] S S'' → K 0 S'') → (∀ p' E' S'', yl_sec T f p E = some (p', E') → 0 ≤ p' → p' ≤ 1900 → ymf [25] [250, 251, 252] S S'' → zq_i S'' 232 25 = p' → yLr S'' E' → K 1 S'') → zq_Ex X 208 0 [.ref 232, v1, v2, v3] [] S' (zq_rp zq_bo K) := by
  have hq : ym_q 1 := ⟨by decide, by decide, Or.inl (by decide)⟩
  have iv : ∀ j, zq_iv (T j) := fun j => by have := hb.1 j; exact ⟨by omega, by omega⟩
  intro f
  induction f with
  | zero =>
    intro p S' E v1 v2 v3 hf p0 p1 fr hpos hL k0 k1
    have hm2 : ym_I S' := hmI.cong (fun j hj => fr.f (by simp at hj ⊢; omega)) (fr.i (by simp) (by decide))
    have hT2 : ym_c S' 1 = T := by rw [fr.c (by decide) (by decide) (by decide)]; exact hT
    have ht : T p = 0 := Classical.byContradiction fun z => by
      have := hb.2 p z
      omega
    refine zw_208v ?_
    rw [hpos]
    refine ys_147 hm2 hq ⟨by omega, by omega⟩ ?_
    rw [hT2]
    refine ys_155 (iv _) ?_
    have e : yp_dg (T p) = false := by rw [ht]; rfl
    rw [e, if_pos (show yb false = 0 from rfl)]
    exact k1 p E S' rfl p0 p1 fr hpos hL
  | succ f ih =>
    intro p S' E v1 v2 v3 hf p0 p1 fr hpos hL k0 k1
    have hm2 : ym_I S' := hmI.cong (fun j hj => fr.f (by simp at hj ⊢; omega)) (fr.i (by simp) (by decide))
    have hT2 : ym_c S' 1 = T := by rw [fr.c (by decide) (by decide) (by decide)]; exact hT
    have e0 : yl_sec T (f + 1) p E = if yp_dg (T p) = true then (match yl_run T p E with
      | none => none
      | some (p', E') => yl_sec T f p' E') else some (p, E) := rfl
    refine zw_208v ?_
    rw [hpos]
    refine ys_147 hm2 hq ⟨by omega, by omega⟩ ?_
    rw [hT2]
    refine ys_155 (iv _) ?_
    cases hd : yp_dg (T p) with
    | false =>
      rw [if_pos (show yb false = 0 from rfl)]
      rw [hd, if_neg (by decide)] at e0
      exact k1 p E S' e0 p0 p1 fr hpos hL
    | true =>
      rw [if_neg (show ¬ yb true = 0 by decide)]
      rw [if_pos hd] at e0
      have hd' := yp_dg_iff.mp hd
      have hlt := hb.2 p (by omega)
      have c2 := hb.1 (p + 2)
      have no : yl_hd T p ≠ true → K 0 S' := fun h => by
        have hr : yl_run T p E = none := by unfold yl_run; rw [if_neg h]
        rw [hr] at e0
        exact k0 e0 S' fr
      have hhd : yl_hd T p = true ↔ (49 ≤ T p ∧ T p ≤ 57 ∧ T (p + 1) = 32 ∧ 49 ≤ T (p + 2) ∧ T (p + 2) ≤ 57 ∧ T (p + 3) = 10 ∧ (T p - 48) + (T (p + 2) - 48) ≤ 10) := by
        unfold yl_hd
        exact decide_eq_true_iff
      refine ys_147 hm2 hq ⟨by omega, by omega⟩ (ys_147 hm2 hq ⟨by omega, by omega⟩ ⟨?_, ?_⟩)
      · rw [hT2, hpos]
        exact ⟨by omega, by omega⟩
      · rw [hT2, hpos]
        refine yl_if (fun h1 => no (fun z => by have := (hhd.mp z).1; omega)) (fun h1 => ys_147 hm2 hq ⟨by omega, by omega⟩ ?_)
        rw [hT2]
        refine yl_if (fun h2 => ⟨⟨by omega, by omega⟩, ?_⟩) (fun h2 => no (fun z => h2 (hhd.mp z).2.2.1))
        refine yl_if (fun h3 => no (fun z => by have := (hhd.mp z).2.2.2.1; omega)) (fun h3 => yl_if (fun h4 => ?_) (fun h4 => no (fun z => by have := (hhd.mp z).2.2.2.2.1; omega)))
        refine ys_147 hm2 hq ⟨by omega, by omega⟩ ?_
        rw [hT2, hpos]
        refine yl_if (fun h5 => ⟨⟨by omega, by omega⟩, ?_⟩) (fun h5 => no (fun z => h5 (hhd.mp z).2.2.2.2.2.1))
        refine yl_if (fun h6 => ⟨⟨by omega, by omega⟩, ?_⟩) (fun h6 => no (fun z => h6 (hhd.mp z).2.2.2.2.2.2))
        have hh : yl_hd T p = true := hhd.mpr ⟨by omega, by omega, h2, by omega, by omega, h5, h6⟩
        have er : yl_run T p E = yl_rn T (T (p + 2) - 48).toNat (T p - 48).toNat (p + 4) E := by
          unfold yl_run
          rw [if_pos hh]
        have en : T p - 48 = (((T p - 48).toNat : Nat) : Int) := by omega
        have ec : T (p + 2) - 48 = (((T (p + 2) - 48).toNat : Nat) : Int) := by omega
        rw [en, ec]
        refine ys_208_113 hb hmI hT (by omega) (by omega) (T (p + 2) - 48).toNat (T p - 48).toNat (p + 4) _ E (by omega) (by omega) (by omega) (by omega) (fr.trans (ymf.sf (by simp))) (by rw [zq_i_si, if_pos ⟨rfl, rfl⟩]) (hL.cong (by funext j; rw [zq_i_si, if_neg (by simp)]) (by funext j; rw [zq_i_si, if_neg (by simp)]) (by funext j; rw [zq_i_si, if_neg (by simp)])) (fun hr S2 g2 => ?_) (fun p' E' S2 hr g2 hp2 h2' => ?_)
        · rw [er, hr] at e0
          exact k0 e0 S2 g2
        · have hrr : yl_run T p E = some (p', E') := by rw [er]; exact hr
          have hbb := yl_run_p hrr
          rw [hrr] at e0
          have e0 : yl_sec T (f + 1) p E = yl_sec T f p' E' := e0
          rw [e0] at k0 k1
          exact ih p' S2 E' _ _ _ (by omega) (by omega) (by omega) g2 hp2 h2' k0 k1
end YLF7
