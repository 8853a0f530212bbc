/-! weakest preconditions of methods 172-200: printed by program (genW.py) -/
set_option maxRecDepth 100000 in
/-- PaperObjectsModel.content(I)V -/
theorem zw_172 {X : Nat × (Nat → Int32)} {s : zq_S} {K : zq_S → Prop} {x1 : Int} (hx1 : zq_iv x1) (w : (zq_Ex X 173 0 [(.ref (232)), (zq_vi (x1))] [] s (zq_rp zq_bo fun x_2 s_1 => (if x_2 = 0 then K (zq_si s_1 (232) (0) (1)) else (zq_Ex X 174 0 [(.ref (232)), (zq_vi (x1))] [] s_1 (zq_rp zq_iv fun x_6 s_5 => (if x_6 ≤ 0 then (if zq_i s_5 (232) (1) ≤ 12 then zq_Ex X 172 54 [(.ref (232)), (zq_vi (x1)), (zq_vi (0)), (zq_vi (0))] [] (zq_si s_5 (232) (0) (0)) (zq_rv K) else zq_Ex X 172 54 [(.ref (232)), (zq_vi (x1)), (zq_vi (1)), (zq_vi (0))] [] (zq_si s_5 (232) (0) (0)) (zq_rv K)) else K (zq_si s_5 (232) (0) (2))))))))) : zq_Ex X 172 0 [(.ref (232)), (zq_vi (x1)), zz_no, zz_no] [] s (zq_rv K) := by
  refine zq_run 3 (pc' := 3) (L' := [(.ref (232)), (zq_vi (x1)), zz_no, zz_no]) (st' := [(zq_vi (x1)), (.ref (232)), (.ref (232))]) (fun _ _ _ => rfl) ?_
  refine zq_call_i (i := .invokevirtual 234) (r := [1, 173, 1, 1, 9]) rfl rfl (fun h hp => zr_avv rfl (hp.obj zq_a232)) (of_decide_eq_false rfl) w (fun x_2 s_1 hx_3 w => ?_)
  refine zq_ne0 rfl (zq_bo_in hx_3) (fun hb_4 => ?_) (fun hb_4 => ?_)
  · rw [if_neg hb_4] at w
    refine zq_run 2 (pc' := 15) (L' := [(.ref (232)), (zq_vi (x1)), zz_no, zz_no]) (st' := [(zq_vi (x1)), (.ref (232)), (.ref (232))]) (fun _ _ _ => rfl) ?_
    refine zq_call_i (i := .invokevirtual 283) (r := [1, 174, 1, 1, 9]) rfl rfl (fun h hp => zr_avv rfl (hp.obj zq_a232)) (of_decide_eq_false rfl) w (fun x_6 s_5 hx_7 w => ?_)
    refine zq_le0 rfl hx_7 (fun hb_8 => ?_) (fun hb_8 => ?_)
    · rw [if_pos hb_8] at w
      refine zq_run 1 (pc' := 26) (L' := [(.ref (232)), (zq_vi (x1)), zz_no, zz_no]) (st' := [(zq_vi (0)), (.ref (232))]) (fun _ _ _ => rfl) ?_
      refine zq_putf_i (j := 0) rfl zq_a232 rfl rfl rfl (of_decide_eq_true rfl) ?_
      refine zq_run 1 (pc' := 30) (L' := [(.ref (232)), (zq_vi (x1)), zz_no, zz_no]) (st' := [(.ref (232))]) (fun _ _ _ => rfl) ?_
      refine zq_getf_i (j := 0) (v := 0) rfl zq_a232 rfl rfl rfl ?_
      refine zq_eq0 rfl (of_decide_eq_true rfl) (fun _ => ?_) (fun hb => absurd (by decide) hb)
      refine zq_run 1 (pc' := 38) (L' := [(.ref (232)), (zq_vi (x1)), zz_no, zz_no]) (st' := [(.ref (232))]) (fun _ _ _ => rfl) ?_
      have e_9 : zq_i (zq_si s_5 (232) (0) (0)) (232) (1) = zq_i s_5 (232) (1) := by simp [zq_i_si, zq_i_sr, zq_i_sl]
      refine zq_have (fun hR_10 => ?_)
      have g_11 : zq_iv (zq_i (zq_si s_5 (232) (0) (0)) (232) (1)) := (hR_10.1 _ _)
      rw [e_9] at g_11
      refine zq_getf_i (j := 1) (v := zq_i s_5 (232) (1)) rfl zq_a232 rfl rfl e_9 ?_
      refine zq_run 1 (pc' := 43) (L' := [(.ref (232)), (zq_vi (x1)), zz_no, zz_no]) (st' := [(zq_vi (12)), (zq_vi (zq_i s_5 (232) (1)))]) (fun _ _ _ => rfl) ?_
      refine zq_le rfl g_11 (of_decide_eq_true rfl) (fun hb_12 => ?_) (fun hb_12 => ?_)
      · rw [if_pos hb_12] at w
        refine zq_run 4 (pc' := 54) (L' := [(.ref (232)), (zq_vi (x1)), (zq_vi (0)), (zq_vi (0))]) (st' := []) (fun _ _ _ => rfl) ?_
        exact w
      · rw [if_neg hb_12] at w
        refine zq_run 5 (pc' := 54) (L' := [(.ref (232)), (zq_vi (x1)), (zq_vi (1)), (zq_vi (0))]) (st' := []) (fun _ _ _ => rfl) ?_
        exact w
    · rw [if_neg hb_8] at w
      refine zq_run 2 (pc' := 26) (L' := [(.ref (232)), (zq_vi (x1)), zz_no, zz_no]) (st' := [(zq_vi (2)), (.ref (232))]) (fun _ _ _ => rfl) ?_
      refine zq_putf_i (j := 0) rfl zq_a232 rfl rfl rfl (of_decide_eq_true rfl) ?_
      refine zq_run 1 (pc' := 30) (L' := [(.ref (232)), (zq_vi (x1)), zz_no, zz_no]) (st' := [(.ref (232))]) (fun _ _ _ => rfl) ?_
      refine zq_getf_i (j := 0) (v := 2) rfl zq_a232 rfl rfl rfl ?_
      refine zq_eq0 rfl (of_decide_eq_true rfl) (fun hb => absurd hb (by decide)) (fun _ => ?_)
      exact zq_vret rfl rfl (⟨rfl, w⟩)
  · rw [if_pos hb_4] at w
    refine zq_run 2 (pc' := 26) (L' := [(.ref (232)), (zq_vi (x1)), zz_no, zz_no]) (st' := [(zq_vi (1)), (.ref (232))]) (fun _ _ _ => rfl) ?_
    refine zq_putf_i (j := 0) rfl zq_a232 rfl rfl rfl (of_decide_eq_true rfl) ?_
    refine zq_run 1 (pc' := 30) (L' := [(.ref (232)), (zq_vi (x1)), zz_no, zz_no]) (st' := [(.ref (232))]) (fun _ _ _ => rfl) ?_
    refine zq_getf_i (j := 0) (v := 1) rfl zq_a232 rfl rfl rfl ?_
    refine zq_eq0 rfl (of_decide_eq_true rfl) (fun hb => absurd hb (by decide)) (fun _ => ?_)
    exact zq_vret rfl rfl (⟨rfl, w⟩)
set_option maxRecDepth 100000 in
/-- PaperObjectsModel.content at 54 -/
theorem zw_172_54 {X : Nat × (Nat → Int32)} {s : zq_S} {K : zq_S → Prop} {x1 : Int} (hx1 : zq_iv x1) {x2 : Int} (hx2 : zq_bo x2) {x3 : Int} (hx3 : zq_iv x3) (w : (if x3 < zq_i s (232) (1) then (if x2 = 0 then (((0 : Int) ≤ x3 ∧ x3 < (100 : Int)) ∧ (if zq_i s (233) (x3) = 10 then zq_Ex X 172 54 [(.ref (232)), (zq_vi (x1)), (zq_vi (1)), (zq_vi (x3 + 1))] [] s (zq_rv K) else zq_Ex X 172 54 [(.ref (232)), (zq_vi (x1)), (zq_vi (0)), (zq_vi (x3 + 1))] [] s (zq_rv K))) else zq_Ex X 172 54 [(.ref (232)), (zq_vi (x1)), (zq_vi (1)), (zq_vi (x3 + 1))] [] s (zq_rv K)) else (if x2 = 0 then (if x2 = 0 then zq_Ex X 172 114 [(.ref (232)), (zq_vi (x1)), (zq_vi (x2)), (zq_vi (0))] [] (zq_si s (232) (21) ((-1))) (zq_rv K) else K (zq_si (zq_si s (232) (21) ((-1))) (232) (0) (3))) else (if x2 = 0 then zq_Ex X 172 114 [(.ref (232)), (zq_vi (x1)), (zq_vi (x2)), (zq_vi (0))] [] (zq_si s (232) (21) (0)) (zq_rv K) else K (zq_si (zq_si s (232) (21) (0)) (232) (0) (3)))))) : zq_Ex X 172 54 [(.ref (232)), (zq_vi (x1)), (zq_vi (x2)), (zq_vi (x3))] [] s (zq_rv K) := by
  refine zq_run 2 (pc' := 56) (L' := [(.ref (232)), (zq_vi (x1)), (zq_vi (x2)), (zq_vi (x3))]) (st' := [(.ref (232)), (zq_vi (x3))]) (fun _ _ _ => rfl) ?_
  refine zq_have (fun hR_1 => ?_)
  refine zq_getf_i (j := 1) (v := zq_i s (232) (1)) rfl zq_a232 rfl rfl rfl ?_
  refine zq_ge rfl hx3 (hR_1.1 _ _) (fun hb_2 => ?_) (fun hb_2 => ?_)
  · rw [if_neg hb_2] at w
    refine zq_run 2 (pc' := 91) (L' := [(.ref (232)), (zq_vi (x1)), (zq_vi (x2)), (zq_vi (x3))]) (st' := [(zq_vi (x2)), (.ref (232))]) (fun _ _ _ => rfl) ?_
    refine zq_eq0 rfl (zq_bo_in hx2) (fun hb_3 => ?_) (fun hb_3 => ?_)
    · rw [if_pos hb_3] at w
      refine zq_run 1 (pc' := 99) (L' := [(.ref (232)), (zq_vi (x1)), (zq_vi (x2)), (zq_vi (x3))]) (st' := [(zq_vi ((-1))), (.ref (232))]) (fun _ _ _ => rfl) ?_
      refine zq_putf_i (j := 21) rfl zq_a232 rfl rfl rfl (of_decide_eq_true rfl) ?_
      refine zq_run 1 (pc' := 103) (L' := [(.ref (232)), (zq_vi (x1)), (zq_vi (x2)), (zq_vi (x3))]) (st' := [(zq_vi (x2))]) (fun _ _ _ => rfl) ?_
      refine zq_eq0 rfl (zq_bo_in hx2) (fun hb_4 => ?_) (fun hb_4 => ?_)
      · rw [if_pos hb_4] at w
        refine zq_run 2 (pc' := 114) (L' := [(.ref (232)), (zq_vi (x1)), (zq_vi (x2)), (zq_vi (0))]) (st' := []) (fun _ _ _ => rfl) ?_
        exact w
      · rw [if_neg hb_4] at w
        refine zq_run 2 (pc' := 108) (L' := [(.ref (232)), (zq_vi (x1)), (zq_vi (x2)), (zq_vi (x3))]) (st' := [(zq_vi (3)), (.ref (232))]) (fun _ _ _ => rfl) ?_
        refine zq_putf_i (j := 0) rfl zq_a232 rfl rfl rfl (of_decide_eq_true rfl) ?_
        exact zq_vret rfl rfl (⟨rfl, w⟩)
    · rw [if_neg hb_3] at w
      refine zq_run 2 (pc' := 99) (L' := [(.ref (232)), (zq_vi (x1)), (zq_vi (x2)), (zq_vi (x3))]) (st' := [(zq_vi (0)), (.ref (232))]) (fun _ _ _ => rfl) ?_
      refine zq_putf_i (j := 21) rfl zq_a232 rfl rfl rfl (of_decide_eq_true rfl) ?_
      refine zq_run 1 (pc' := 103) (L' := [(.ref (232)), (zq_vi (x1)), (zq_vi (x2)), (zq_vi (x3))]) (st' := [(zq_vi (x2))]) (fun _ _ _ => rfl) ?_
      refine zq_eq0 rfl (zq_bo_in hx2) (fun hb_5 => ?_) (fun hb_5 => ?_)
      · rw [if_pos hb_5] at w
        refine zq_run 2 (pc' := 114) (L' := [(.ref (232)), (zq_vi (x1)), (zq_vi (x2)), (zq_vi (0))]) (st' := []) (fun _ _ _ => rfl) ?_
        exact w
      · rw [if_neg hb_5] at w
        refine zq_run 2 (pc' := 108) (L' := [(.ref (232)), (zq_vi (x1)), (zq_vi (x2)), (zq_vi (x3))]) (st' := [(zq_vi (3)), (.ref (232))]) (fun _ _ _ => rfl) ?_
        refine zq_putf_i (j := 0) rfl zq_a232 rfl rfl rfl (of_decide_eq_true rfl) ?_
        exact zq_vret rfl rfl (⟨rfl, w⟩)
  · rw [if_pos hb_2] at w
    refine zq_run 1 (pc' := 63) (L' := [(.ref (232)), (zq_vi (x1)), (zq_vi (x2)), (zq_vi (x3))]) (st' := [(zq_vi (x2))]) (fun _ _ _ => rfl) ?_
    refine zq_ne0 rfl (zq_bo_in hx2) (fun hb_6 => ?_) (fun hb_6 => ?_)
    · rw [if_neg hb_6] at w
      refine zq_run 3 (pc' := 83) (L' := [(.ref (232)), (zq_vi (x1)), (zq_vi (1)), (zq_vi (x3))]) (st' := []) (fun _ _ _ => rfl) ?_
      refine zq_iinc (L' := [(.ref (232)), (zq_vi (x1)), (zq_vi (1)), (zq_vi (x3 + 1))]) rfl rfl rfl ?_
      refine zq_run 1 (pc' := 54) (L' := [(.ref (232)), (zq_vi (x1)), (zq_vi (1)), (zq_vi (x3 + 1))]) (st' := []) (fun _ _ _ => rfl) ?_
      exact w
    · rw [if_pos hb_6] at w
      refine zq_run 1 (pc' := 67) (L' := [(.ref (232)), (zq_vi (x1)), (zq_vi (x2)), (zq_vi (x3))]) (st' := [(.ref (232))]) (fun _ _ _ => rfl) ?_
      refine zq_getf_f (b := 233) rfl zq_a232 rfl rfl ?_
      refine zq_run 1 (pc' := 71) (L' := [(.ref (232)), (zq_vi (x1)), (zq_vi (x2)), (zq_vi (x3))]) (st' := [(zq_vi (x3)), (.ref (233))]) (fun _ _ _ => rfl) ?_
      obtain ⟨g_7, w⟩ := w
      refine zq_ald_c (v := zq_i s (233) (x3)) rfl zq_a233 g_7.1 g_7.2 rfl ?_
      refine zq_run 1 (pc' := 74) (L' := [(.ref (232)), (zq_vi (x1)), (zq_vi (x2)), (zq_vi (x3))]) (st' := [(zq_vi (10)), (zq_vi (zq_i s (233) (x3)))]) (fun _ _ _ => rfl) ?_
      refine zq_ne rfl (zq_ch_in (hR_1.2.1 _ _ _ zq_a233)) (of_decide_eq_true rfl) (fun hb_8 => ?_) (fun hb_8 => ?_)
      · rw [if_neg hb_8] at w
        refine zq_run 2 (pc' := 83) (L' := [(.ref (232)), (zq_vi (x1)), (zq_vi (0)), (zq_vi (x3))]) (st' := []) (fun _ _ _ => rfl) ?_
        refine zq_iinc (L' := [(.ref (232)), (zq_vi (x1)), (zq_vi (0)), (zq_vi (x3 + 1))]) rfl rfl rfl ?_
        refine zq_run 1 (pc' := 54) (L' := [(.ref (232)), (zq_vi (x1)), (zq_vi (0)), (zq_vi (x3 + 1))]) (st' := []) (fun _ _ _ => rfl) ?_
        exact w
      · rw [if_pos hb_8] at w
        refine zq_run 3 (pc' := 83) (L' := [(.ref (232)), (zq_vi (x1)), (zq_vi (1)), (zq_vi (x3))]) (st' := []) (fun _ _ _ => rfl) ?_
        refine zq_iinc (L' := [(.ref (232)), (zq_vi (x1)), (zq_vi (1)), (zq_vi (x3 + 1))]) rfl rfl rfl ?_
        refine zq_run 1 (pc' := 54) (L' := [(.ref (232)), (zq_vi (x1)), (zq_vi (1)), (zq_vi (x3 + 1))]) (st' := []) (fun _ _ _ => rfl) ?_
        exact w
set_option maxRecDepth 100000 in
/-- PaperObjectsModel.content at 114 -/
theorem zw_172_114 {X : Nat × (Nat → Int32)} {s : zq_S} {K : zq_S → Prop} {x1 : Int} (hx1 : zq_iv x1) {x2 : Int} (hx2 : zq_bo x2) {x3 : Int} (hx3 : zq_iv x3) (w : (if x3 < zq_i s (232) (1) then (((0 : Int) ≤ x3 ∧ x3 < (100 : Int)) ∧ (((0 : Int) ≤ (12 * x1) + x3 ∧ (12 * x1) + x3 < (120 : Int)) ∧ zq_Ex X 172 114 [(.ref (232)), (zq_vi (x1)), (zq_vi (x2)), (zq_vi (x3 + 1))] [] (zq_si s (244) ((12 * x1) + x3) (zq_i s (233) (x3))) (zq_rv K))) else (((0 : Int) ≤ x1 ∧ x1 < (10 : Int)) ∧ (((0 : Int) ≤ x1 ∧ x1 < (10 : Int)) ∧ (zq_Ex X 180 0 [(.ref (232)), (zq_vi (x1)), (zq_vi (zq_i s (232) (1))), zz_no, zz_no, zz_no, zz_no] [] (zq_si (zq_si s (243) (x1) (zq_i s (232) (1))) (242) (x1) (1)) (zq_rv fun s_6 => (zq_Ex X 171 0 [(.ref (232)), (zq_vi (x1))] [] (zq_si s_6 (232) (1) (0)) (zq_rv fun s_7 => K s_7)))))))) : zq_Ex X 172 114 [(.ref (232)), (zq_vi (x1)), (zq_vi (x2)), (zq_vi (x3))] [] s (zq_rv K) := by
  refine zq_run 2 (pc' := 116) (L' := [(.ref (232)), (zq_vi (x1)), (zq_vi (x2)), (zq_vi (x3))]) (st' := [(.ref (232)), (zq_vi (x3))]) (fun _ _ _ => rfl) ?_
  refine zq_have (fun hR_1 => ?_)
  refine zq_getf_i (j := 1) (v := zq_i s (232) (1)) rfl zq_a232 rfl rfl rfl ?_
  refine zq_ge rfl hx3 (hR_1.1 _ _) (fun hb_2 => ?_) (fun hb_2 => ?_)
  · rw [if_neg hb_2] at w
    refine zq_run 1 (pc' := 146) (L' := [(.ref (232)), (zq_vi (x1)), (zq_vi (x2)), (zq_vi (x3))]) (st' := [(.ref (232))]) (fun _ _ _ => rfl) ?_
    refine zq_getf_f (b := 243) rfl zq_a232 rfl rfl ?_
    refine zq_run 2 (pc' := 151) (L' := [(.ref (232)), (zq_vi (x1)), (zq_vi (x2)), (zq_vi (x3))]) (st' := [(.ref (232)), (zq_vi (x1)), (.ref (243))]) (fun _ _ _ => rfl) ?_
    refine zq_getf_i (j := 1) (v := zq_i s (232) (1)) rfl zq_a232 rfl rfl rfl ?_
    obtain ⟨g_3, w⟩ := w
    refine zq_ast_i rfl zq_a243 g_3.1 g_3.2 (hR_1.1 _ _) ?_
    refine zq_run 1 (pc' := 156) (L' := [(.ref (232)), (zq_vi (x1)), (zq_vi (x2)), (zq_vi (x3))]) (st' := [(.ref (232))]) (fun _ _ _ => rfl) ?_
    refine zq_getf_f (b := 242) rfl zq_a232 rfl rfl ?_
    refine zq_run 2 (pc' := 161) (L' := [(.ref (232)), (zq_vi (x1)), (zq_vi (x2)), (zq_vi (x3))]) (st' := [(zq_vi (1)), (zq_vi (x1)), (.ref (242))]) (fun _ _ _ => rfl) ?_
    obtain ⟨g_4, w⟩ := w
    refine zq_ast_b rfl zq_a242 g_4.1 g_4.2 (of_decide_eq_true rfl) ?_
    refine zq_run 3 (pc' := 165) (L' := [(.ref (232)), (zq_vi (x1)), (zq_vi (x2)), (zq_vi (x3))]) (st' := [(.ref (232)), (zq_vi (x1)), (.ref (232))]) (fun _ _ _ => rfl) ?_
    have e_5 : zq_i (zq_si (zq_si s (243) (x1) (zq_i s (232) (1))) (242) (x1) (1)) (232) (1) = zq_i s (232) (1) := by simp [zq_i_si, zq_i_sr, zq_i_sl]
    refine zq_getf_i (j := 1) (v := zq_i s (232) (1)) rfl zq_a232 rfl rfl e_5 ?_
    refine zq_call_v (i := .invokevirtual 287) (r := [1, 180, 2, 1, 9]) rfl rfl (fun h hp => zr_avv rfl (hp.obj zq_a232)) (of_decide_eq_false rfl) w (fun s_6 w => ?_)
    refine zq_run 2 (pc' := 173) (L' := [(.ref (232)), (zq_vi (x1)), (zq_vi (x2)), (zq_vi (x3))]) (st' := [(zq_vi (0)), (.ref (232))]) (fun _ _ _ => rfl) ?_
    refine zq_putf_i (j := 1) rfl zq_a232 rfl rfl rfl (of_decide_eq_true rfl) ?_
    refine zq_run 2 (pc' := 178) (L' := [(.ref (232)), (zq_vi (x1)), (zq_vi (x2)), (zq_vi (x3))]) (st' := [(zq_vi (x1)), (.ref (232))]) (fun _ _ _ => rfl) ?_
    refine zq_call_v (i := .invokevirtual 272) (r := [1, 171, 1, 1, 9]) rfl rfl (fun h hp => zr_avv rfl (hp.obj zq_a232)) (of_decide_eq_false rfl) w (fun s_7 w => ?_)
    exact zq_vret rfl rfl (⟨rfl, w⟩)
  · rw [if_pos hb_2] at w
    refine zq_run 1 (pc' := 123) (L' := [(.ref (232)), (zq_vi (x1)), (zq_vi (x2)), (zq_vi (x3))]) (st' := [(.ref (232))]) (fun _ _ _ => rfl) ?_
    refine zq_getf_f (b := 244) rfl zq_a232 rfl rfl ?_
    refine zq_run 2 (pc' := 129) (L' := [(.ref (232)), (zq_vi (x1)), (zq_vi (x2)), (zq_vi (x3))]) (st' := [(zq_vi (x1)), (zq_vi (12)), (.ref (244))]) (fun _ _ _ => rfl) ?_
    refine zq_imul rfl ?_
    refine zq_run 1 (pc' := 131) (L' := [(.ref (232)), (zq_vi (x1)), (zq_vi (x2)), (zq_vi (x3))]) (st' := [(zq_vi (x3)), (zq_vi (12 * x1)), (.ref (244))]) (fun _ _ _ => rfl) ?_
    refine zq_iadd rfl ?_
    refine zq_run 1 (pc' := 133) (L' := [(.ref (232)), (zq_vi (x1)), (zq_vi (x2)), (zq_vi (x3))]) (st' := [(.ref (232)), (zq_vi ((12 * x1) + x3)), (.ref (244))]) (fun _ _ _ => rfl) ?_
    refine zq_getf_f (b := 233) rfl zq_a232 rfl rfl ?_
    refine zq_run 1 (pc' := 137) (L' := [(.ref (232)), (zq_vi (x1)), (zq_vi (x2)), (zq_vi (x3))]) (st' := [(zq_vi (x3)), (.ref (233)), (zq_vi ((12 * x1) + x3)), (.ref (244))]) (fun _ _ _ => rfl) ?_
    obtain ⟨g_8, w⟩ := w
    refine zq_ald_c (v := zq_i s (233) (x3)) rfl zq_a233 g_8.1 g_8.2 rfl ?_
    obtain ⟨g_9, w⟩ := w
    refine zq_ast_c rfl zq_a244 g_9.1 g_9.2 (hR_1.2.1 _ _ _ zq_a233) ?_
    refine zq_iinc (L' := [(.ref (232)), (zq_vi (x1)), (zq_vi (x2)), (zq_vi (x3 + 1))]) rfl rfl rfl ?_
    refine zq_run 1 (pc' := 114) (L' := [(.ref (232)), (zq_vi (x1)), (zq_vi (x2)), (zq_vi (x3 + 1))]) (st' := []) (fun _ _ _ => rfl) ?_
    exact w
set_option maxRecDepth 100000 in
/-- PaperObjectsModel.isUsed(I)Z -/
theorem zw_173 {X : Nat × (Nat → Int32)} {s : zq_S} {K : Int → zq_S → Prop} {x1 : Int} (hx1 : zq_iv x1) (w : (if x1 < 1 then K (0) s else (if x1 ≤ 9 then (((0 : Int) ≤ x1 ∧ x1 < (10 : Int)) ∧ (if zq_i s (237) (x1) = 0 then K (0) s else K (1) s)) else K (0) s))) : zq_Ex X 173 0 [(.ref (232)), (zq_vi (x1))] [] s (zq_rp zq_bo K) := by
  refine zq_run 2 (pc' := 2) (L' := [(.ref (232)), (zq_vi (x1))]) (st' := [(zq_vi (1)), (zq_vi (x1))]) (fun _ _ _ => rfl) ?_
  refine zq_lt rfl hx1 (of_decide_eq_true rfl) (fun hb_1 => ?_) (fun hb_1 => ?_)
  · rw [if_pos hb_1] at w
    refine zq_run 1 (pc' := 25) (L' := [(.ref (232)), (zq_vi (x1))]) (st' := [(zq_vi (0))]) (fun _ _ _ => rfl) ?_
    exact zq_iret rfl rfl (congrArg Value.int (zq_nb (of_decide_eq_true rfl))) (⟨_, rfl, (of_decide_eq_true rfl), w⟩)
  · rw [if_neg hb_1] at w
    refine zq_run 2 (pc' := 8) (L' := [(.ref (232)), (zq_vi (x1))]) (st' := [(zq_vi (9)), (zq_vi (x1))]) (fun _ _ _ => rfl) ?_
    refine zq_gt rfl hx1 (of_decide_eq_true rfl) (fun hb_2 => ?_) (fun hb_2 => ?_)
    · rw [if_neg hb_2] at w
      refine zq_run 1 (pc' := 25) (L' := [(.ref (232)), (zq_vi (x1))]) (st' := [(zq_vi (0))]) (fun _ _ _ => rfl) ?_
      exact zq_iret rfl rfl (congrArg Value.int (zq_nb (of_decide_eq_true rfl))) (⟨_, rfl, (of_decide_eq_true rfl), w⟩)
    · rw [if_pos hb_2] at w
      refine zq_run 1 (pc' := 12) (L' := [(.ref (232)), (zq_vi (x1))]) (st' := [(.ref (232))]) (fun _ _ _ => rfl) ?_
      refine zq_getf_f (b := 237) rfl zq_a232 rfl rfl ?_
      refine zq_run 1 (pc' := 16) (L' := [(.ref (232)), (zq_vi (x1))]) (st' := [(zq_vi (x1)), (.ref (237))]) (fun _ _ _ => rfl) ?_
      obtain ⟨g_3, w⟩ := w
      refine zq_have (fun hR_4 => ?_)
      refine zq_ald_b (v := zq_i s (237) (x1)) rfl zq_a237 g_3.1 g_3.2 rfl ?_
      refine zq_eq0 rfl (zq_bo_in (hR_4.2.2.1 _ _ _ zq_a237)) (fun hb_5 => ?_) (fun hb_5 => ?_)
      · rw [if_pos hb_5] at w
        refine zq_run 1 (pc' := 25) (L' := [(.ref (232)), (zq_vi (x1))]) (st' := [(zq_vi (0))]) (fun _ _ _ => rfl) ?_
        exact zq_iret rfl rfl (congrArg Value.int (zq_nb (of_decide_eq_true rfl))) (⟨_, rfl, (of_decide_eq_true rfl), w⟩)
      · rw [if_neg hb_5] at w
        refine zq_run 2 (pc' := 25) (L' := [(.ref (232)), (zq_vi (x1))]) (st' := [(zq_vi (1))]) (fun _ _ _ => rfl) ?_
        exact zq_iret rfl rfl (congrArg Value.int (zq_nb (of_decide_eq_true rfl))) (⟨_, rfl, (of_decide_eq_true rfl), w⟩)
set_option maxRecDepth 100000 in
/-- PaperObjectsModel.noRoom(I)I -/
theorem zw_174 {X : Nat × (Nat → Int32)} {s : zq_S} {K : Int → zq_S → Prop} {x1 : Int} (hx1 : zq_iv x1) (w : (zq_Ex X 159 0 [(.ref (232)), (zq_vi (10 + x1)), (zq_vi (0)), zz_no, zz_no] [] s (zq_rp zq_iv fun x_2 s_1 => (if x_2 = 7 then (zq_Ex X 175 0 [(.ref (232)), (zq_vi (10 + x1)), (zq_vi (0)), (.ref (256)), (zq_vi (6)), zz_no, zz_no, zz_no, zz_no] [] s_1 (zq_rp zq_iv fun x_6 s_5 => (if x_6 < 0 then (zq_Ex X 145 0 [(.ref (232)), (zq_vi (10 + x1)), (zq_vi (0)), zz_no, zz_no] [] s_5 (zq_rv fun s_9 => (if zq_i s_9 (232) (27) = 12 then K (2) s_9 else K (0) s_9))) else K (0) s_5))) else K (1) s_1)))) : zq_Ex X 174 0 [(.ref (232)), (zq_vi (x1))] [] s (zq_rp zq_iv K) := by
  refine zq_run 3 (pc' := 4) (L' := [(.ref (232)), (zq_vi (x1))]) (st' := [(zq_vi (x1)), (zq_vi (10)), (.ref (232))]) (fun _ _ _ => rfl) ?_
  refine zq_iadd rfl ?_
  refine zq_run 1 (pc' := 6) (L' := [(.ref (232)), (zq_vi (x1))]) (st' := [(zq_vi (0)), (zq_vi (10 + x1)), (.ref (232))]) (fun _ _ _ => rfl) ?_
  refine zq_call_i (i := .invokevirtual 202) (r := [1, 159, 2, 1, 9]) rfl rfl (fun h hp => zr_avv rfl (hp.obj zq_a232)) (of_decide_eq_false rfl) w (fun x_2 s_1 hx_3 w => ?_)
  refine zq_run 1 (pc' := 11) (L' := [(.ref (232)), (zq_vi (x1))]) (st' := [(zq_vi (7)), (zq_vi (x_2))]) (fun _ _ _ => rfl) ?_
  refine zq_eq rfl hx_3 (of_decide_eq_true rfl) (fun hb_4 => ?_) (fun hb_4 => ?_)
  · rw [if_pos hb_4] at w
    refine zq_run 3 (pc' := 20) (L' := [(.ref (232)), (zq_vi (x1))]) (st' := [(zq_vi (x1)), (zq_vi (10)), (.ref (232))]) (fun _ _ _ => rfl) ?_
    refine zq_iadd rfl ?_
    refine zq_run 2 (pc' := 23) (L' := [(.ref (232)), (zq_vi (x1))]) (st' := [(.ref (232)), (zq_vi (0)), (zq_vi (10 + x1)), (.ref (232))]) (fun _ _ _ => rfl) ?_
    refine zq_getf_f (b := 256) rfl zq_a232 rfl rfl ?_
    refine zq_run 1 (pc' := 28) (L' := [(.ref (232)), (zq_vi (x1))]) (st' := [(zq_vi (6)), (.ref (256)), (zq_vi (0)), (zq_vi (10 + x1)), (.ref (232))]) (fun _ _ _ => rfl) ?_
    refine zq_call_i (i := .invokevirtual 275) (r := [1, 175, 4, 1, 9]) rfl rfl (fun h hp => zr_avv rfl (hp.obj zq_a232)) (of_decide_eq_false rfl) w (fun x_6 s_5 hx_7 w => ?_)
    refine zq_lt0 rfl hx_7 (fun hb_8 => ?_) (fun hb_8 => ?_)
    · rw [if_pos hb_8] at w
      refine zq_run 3 (pc' := 40) (L' := [(.ref (232)), (zq_vi (x1))]) (st' := [(zq_vi (x1)), (zq_vi (10)), (.ref (232))]) (fun _ _ _ => rfl) ?_
      refine zq_iadd rfl ?_
      refine zq_run 1 (pc' := 42) (L' := [(.ref (232)), (zq_vi (x1))]) (st' := [(zq_vi (0)), (zq_vi (10 + x1)), (.ref (232))]) (fun _ _ _ => rfl) ?_
      refine zq_call_v (i := .invokevirtual 266) (r := [1, 145, 2, 1, 9]) rfl rfl (fun h hp => zr_avv rfl (hp.obj zq_a232)) (of_decide_eq_false rfl) w (fun s_9 w => ?_)
      refine zq_run 1 (pc' := 46) (L' := [(.ref (232)), (zq_vi (x1))]) (st' := [(.ref (232))]) (fun _ _ _ => rfl) ?_
      refine zq_have (fun hR_10 => ?_)
      refine zq_getf_i (j := 27) (v := zq_i s_9 (232) (27)) rfl zq_a232 rfl rfl rfl ?_
      refine zq_run 1 (pc' := 51) (L' := [(.ref (232)), (zq_vi (x1))]) (st' := [(zq_vi (12)), (zq_vi (zq_i s_9 (232) (27)))]) (fun _ _ _ => rfl) ?_
      refine zq_ne rfl (hR_10.1 _ _) (of_decide_eq_true rfl) (fun hb_11 => ?_) (fun hb_11 => ?_)
      · rw [if_neg hb_11] at w
        refine zq_run 1 (pc' := 59) (L' := [(.ref (232)), (zq_vi (x1))]) (st' := [(zq_vi (0))]) (fun _ _ _ => rfl) ?_
        exact zq_iret rfl rfl rfl (⟨_, rfl, (of_decide_eq_true rfl), w⟩)
      · rw [if_pos hb_11] at w
        refine zq_run 2 (pc' := 59) (L' := [(.ref (232)), (zq_vi (x1))]) (st' := [(zq_vi (2))]) (fun _ _ _ => rfl) ?_
        exact zq_iret rfl rfl rfl (⟨_, rfl, (of_decide_eq_true rfl), w⟩)
    · rw [if_neg hb_8] at w
      refine zq_run 1 (pc' := 35) (L' := [(.ref (232)), (zq_vi (x1))]) (st' := [(zq_vi (0))]) (fun _ _ _ => rfl) ?_
      exact zq_iret rfl rfl rfl (⟨_, rfl, (of_decide_eq_true rfl), w⟩)
  · rw [if_neg hb_4] at w
    refine zq_run 1 (pc' := 15) (L' := [(.ref (232)), (zq_vi (x1))]) (st' := [(zq_vi (1))]) (fun _ _ _ => rfl) ?_
    exact zq_iret rfl rfl rfl (⟨_, rfl, (of_decide_eq_true rfl), w⟩)
set_option maxRecDepth 100000 in
/-- PaperObjectsModel.partWith(II[CI)I -/
theorem zw_175 {X : Nat × (Nat → Int32)} {s : zq_S} {K : Int → zq_S → Prop} {x1 : Int} (hx1 : zq_iv x1) {x2 : Int} (hx2 : zq_iv x2) {a3 m3 : Nat} (ha3 : zq_k a3 = (1, 1, m3)) {x4 : Int} (hx4 : zq_iv x4) (w : (zq_Ex X 176 0 [(.ref (232)), (zq_vi (x1)), (zq_vi (x2)), zz_no] [] s (zq_rp zq_iv fun x_2 s_1 => zq_Ex X 175 11 [(.ref (232)), (zq_vi (x1)), (zq_vi (x2)), (.ref (a3)), (zq_vi (x4)), (zq_vi (x_2)), (zq_vi (0)), zz_no, zz_no] [] s_1 (zq_rp zq_iv K)))) : zq_Ex X 175 0 [(.ref (232)), (zq_vi (x1)), (zq_vi (x2)), (.ref (a3)), (zq_vi (x4)), zz_no, zz_no, zz_no, zz_no] [] s (zq_rp zq_iv K) := by
  refine zq_run 3 (pc' := 3) (L' := [(.ref (232)), (zq_vi (x1)), (zq_vi (x2)), (.ref (a3)), (zq_vi (x4)), zz_no, zz_no, zz_no, zz_no]) (st' := [(zq_vi (x2)), (zq_vi (x1)), (.ref (232))]) (fun _ _ _ => rfl) ?_
  refine zq_call_i (i := .invokevirtual 227) (r := [1, 176, 2, 1, 9]) rfl rfl (fun h hp => zr_avv rfl (hp.obj zq_a232)) (of_decide_eq_false rfl) w (fun x_2 s_1 hx_3 w => ?_)
  refine zq_run 3 (pc' := 11) (L' := [(.ref (232)), (zq_vi (x1)), (zq_vi (x2)), (.ref (a3)), (zq_vi (x4)), (zq_vi (x_2)), (zq_vi (0)), zz_no, zz_no]) (st' := []) (fun _ _ _ => rfl) ?_
  exact w
set_option maxRecDepth 100000 in
/-- PaperObjectsModel.partWith at 11 -/
theorem zw_175_11 {X : Nat × (Nat → Int32)} {s : zq_S} {K : Int → zq_S → Prop} {x1 : Int} (hx1 : zq_iv x1) {x2 : Int} (hx2 : zq_iv x2) {a3 m3 : Nat} (ha3 : zq_k a3 = (1, 1, m3)) {x4 : Int} (hx4 : zq_iv x4) {x5 : Int} (hx5 : zq_iv x5) {x6 : Int} (hx6 : zq_iv x6) {v7 : Value} (hv7 : v7.category = 1) {v8 : Value} (hv8 : v8.category = 1) (w : (if x6 < x5 then (zq_Ex X 177 0 [(.ref (232)), (zq_vi (x1)), (zq_vi (x2)), (zq_vi (x6)), zz_no, zz_no, zz_no, zz_no] [] s (zq_rp zq_iv fun x_3 s_2 => zq_Ex X 175 34 [(.ref (232)), (zq_vi (x1)), (zq_vi (x2)), (.ref (a3)), (zq_vi (x4)), (zq_vi (x5)), (zq_vi (x6)), (zq_vi (x_3)), (zq_vi (x_3 - 2))] [] s_2 (zq_rp zq_iv K))) else K ((-1)) s)) : zq_Ex X 175 11 [(.ref (232)), (zq_vi (x1)), (zq_vi (x2)), (.ref (a3)), (zq_vi (x4)), (zq_vi (x5)), (zq_vi (x6)), v7, v8] [] s (zq_rp zq_iv K) := by
  refine zq_run 2 (pc' := 15) (L' := [(.ref (232)), (zq_vi (x1)), (zq_vi (x2)), (.ref (a3)), (zq_vi (x4)), (zq_vi (x5)), (zq_vi (x6)), v7, v8]) (st' := [(zq_vi (x5)), (zq_vi (x6))]) (fun _ _ _ => rfl) ?_
  refine zq_ge rfl hx6 hx5 (fun hb_1 => ?_) (fun hb_1 => ?_)
  · rw [if_neg hb_1] at w
    refine zq_run 1 (pc' := 75) (L' := [(.ref (232)), (zq_vi (x1)), (zq_vi (x2)), (.ref (a3)), (zq_vi (x4)), (zq_vi (x5)), (zq_vi (x6)), v7, v8]) (st' := [(zq_vi ((-1)))]) (fun _ _ _ => rfl) ?_
    exact zq_iret rfl rfl rfl (⟨_, rfl, (of_decide_eq_true rfl), w⟩)
  · rw [if_pos hb_1] at w
    refine zq_run 4 (pc' := 23) (L' := [(.ref (232)), (zq_vi (x1)), (zq_vi (x2)), (.ref (a3)), (zq_vi (x4)), (zq_vi (x5)), (zq_vi (x6)), v7, v8]) (st' := [(zq_vi (x6)), (zq_vi (x2)), (zq_vi (x1)), (.ref (232))]) (fun _ _ _ => rfl) ?_
    refine zq_call_i (i := .invokevirtual 224) (r := [1, 177, 3, 1, 9]) rfl rfl (fun h hp => zr_avv rfl (hp.obj zq_a232)) (of_decide_eq_false rfl) w (fun x_3 s_2 hx_4 w => ?_)
    refine zq_run 3 (pc' := 31) (L' := [(.ref (232)), (zq_vi (x1)), (zq_vi (x2)), (.ref (a3)), (zq_vi (x4)), (zq_vi (x5)), (zq_vi (x6)), (zq_vi (x_3)), v8]) (st' := [(zq_vi (2)), (zq_vi (x_3))]) (fun _ _ _ => rfl) ?_
    refine zq_isub rfl ?_
    refine zq_run 1 (pc' := 34) (L' := [(.ref (232)), (zq_vi (x1)), (zq_vi (x2)), (.ref (a3)), (zq_vi (x4)), (zq_vi (x5)), (zq_vi (x6)), (zq_vi (x_3)), (zq_vi (x_3 - 2))]) (st' := []) (fun _ _ _ => rfl) ?_
    exact w
set_option maxRecDepth 100000 in
/-- PaperObjectsModel.partWith at 34 -/
theorem zw_175_34 {X : Nat × (Nat → Int32)} {s : zq_S} {K : Int → zq_S → Prop} {x1 : Int} (hx1 : zq_iv x1) {x2 : Int} (hx2 : zq_iv x2) {a3 m3 : Nat} (ha3 : zq_k a3 = (1, 1, m3)) {x4 : Int} (hx4 : zq_iv x4) {x5 : Int} (hx5 : zq_iv x5) {x6 : Int} (hx6 : zq_iv x6) {x7 : Int} (hx7 : zq_iv x7) {x8 : Int} (hx8 : zq_iv x8) (w : (zq_Ex X 147 0 [(.ref (232)), (zq_vi (x1)), (zq_vi (x8))] [] s (zq_rp zq_ch fun x_2 s_1 => (if x_2 = 47 then (zq_Ex X 179 0 [(.ref (232)), (zq_vi (x1)), (zq_vi (x8)), (.ref (a3)), (zq_vi (x4)), zz_no, zz_no] [] s_1 (zq_rp zq_bo fun x_6 s_5 => (if x_6 = 0 then zq_Ex X 175 11 [(.ref (232)), (zq_vi (x1)), (zq_vi (x2)), (.ref (a3)), (zq_vi (x4)), (zq_vi (x5)), (zq_vi (x6 + 1)), (zq_vi (x7)), (zq_vi (x8))] [] s_5 (zq_rp zq_iv K) else K (x7) s_5))) else zq_Ex X 175 34 [(.ref (232)), (zq_vi (x1)), (zq_vi (x2)), (.ref (a3)), (zq_vi (x4)), (zq_vi (x5)), (zq_vi (x6)), (zq_vi (x7)), (zq_vi (x8 + (-1)))] [] s_1 (zq_rp zq_iv K))))) : zq_Ex X 175 34 [(.ref (232)), (zq_vi (x1)), (zq_vi (x2)), (.ref (a3)), (zq_vi (x4)), (zq_vi (x5)), (zq_vi (x6)), (zq_vi (x7)), (zq_vi (x8))] [] s (zq_rp zq_iv K) := by
  refine zq_run 3 (pc' := 38) (L' := [(.ref (232)), (zq_vi (x1)), (zq_vi (x2)), (.ref (a3)), (zq_vi (x4)), (zq_vi (x5)), (zq_vi (x6)), (zq_vi (x7)), (zq_vi (x8))]) (st' := [(zq_vi (x8)), (zq_vi (x1)), (.ref (232))]) (fun _ _ _ => rfl) ?_
  refine zq_call_i (i := .invokevirtual 119) (r := [1, 147, 2, 1, 9]) rfl rfl (fun h hp => zr_avv rfl (hp.obj zq_a232)) (of_decide_eq_false rfl) w (fun x_2 s_1 hx_3 w => ?_)
  refine zq_run 1 (pc' := 43) (L' := [(.ref (232)), (zq_vi (x1)), (zq_vi (x2)), (.ref (a3)), (zq_vi (x4)), (zq_vi (x5)), (zq_vi (x6)), (zq_vi (x7)), (zq_vi (x8))]) (st' := [(zq_vi (47)), (zq_vi (x_2))]) (fun _ _ _ => rfl) ?_
  refine zq_eq rfl (zq_ch_in hx_3) (of_decide_eq_true rfl) (fun hb_4 => ?_) (fun hb_4 => ?_)
  · rw [if_pos hb_4] at w
    refine zq_run 5 (pc' := 59) (L' := [(.ref (232)), (zq_vi (x1)), (zq_vi (x2)), (.ref (a3)), (zq_vi (x4)), (zq_vi (x5)), (zq_vi (x6)), (zq_vi (x7)), (zq_vi (x8))]) (st' := [(zq_vi (x4)), (.ref (a3)), (zq_vi (x8)), (zq_vi (x1)), (.ref (232))]) (fun _ _ _ => rfl) ?_
    refine zq_call_i (i := .invokevirtual 230) (r := [1, 179, 4, 1, 9]) rfl rfl (fun h hp => zr_avv rfl (hp.obj zq_a232)) (of_decide_eq_false rfl) w (fun x_6 s_5 hx_7 w => ?_)
    refine zq_eq0 rfl (zq_bo_in hx_7) (fun hb_8 => ?_) (fun hb_8 => ?_)
    · rw [if_pos hb_8] at w
      refine zq_iinc (L' := [(.ref (232)), (zq_vi (x1)), (zq_vi (x2)), (.ref (a3)), (zq_vi (x4)), (zq_vi (x5)), (zq_vi (x6 + 1)), (zq_vi (x7)), (zq_vi (x8))]) rfl rfl rfl ?_
      refine zq_run 1 (pc' := 11) (L' := [(.ref (232)), (zq_vi (x1)), (zq_vi (x2)), (.ref (a3)), (zq_vi (x4)), (zq_vi (x5)), (zq_vi (x6 + 1)), (zq_vi (x7)), (zq_vi (x8))]) (st' := []) (fun _ _ _ => rfl) ?_
      exact w
    · rw [if_neg hb_8] at w
      refine zq_run 1 (pc' := 67) (L' := [(.ref (232)), (zq_vi (x1)), (zq_vi (x2)), (.ref (a3)), (zq_vi (x4)), (zq_vi (x5)), (zq_vi (x6)), (zq_vi (x7)), (zq_vi (x8))]) (st' := [(zq_vi (x7))]) (fun _ _ _ => rfl) ?_
      exact zq_iret rfl rfl rfl (⟨_, rfl, hx7, w⟩)
  · rw [if_neg hb_4] at w
    refine zq_iinc (L' := [(.ref (232)), (zq_vi (x1)), (zq_vi (x2)), (.ref (a3)), (zq_vi (x4)), (zq_vi (x5)), (zq_vi (x6)), (zq_vi (x7)), (zq_vi (x8 + (-1)))]) rfl rfl rfl ?_
    refine zq_run 1 (pc' := 34) (L' := [(.ref (232)), (zq_vi (x1)), (zq_vi (x2)), (.ref (a3)), (zq_vi (x4)), (zq_vi (x5)), (zq_vi (x6)), (zq_vi (x7)), (zq_vi (x8 + (-1)))]) (st' := []) (fun _ _ _ => rfl) ?_
    exact w
set_option maxRecDepth 100000 in
/-- PaperObjectsModel.partsAt(II)I -/
theorem zw_176 {X : Nat × (Nat → Int32)} {s : zq_S} {K : Int → zq_S → Prop} {x1 : Int} (hx1 : zq_iv x1) {x2 : Int} (hx2 : zq_iv x2) (w : zq_Ex X 176 2 [(.ref (232)), (zq_vi (x1)), (zq_vi (x2)), (zq_vi (0))] [] s (zq_rp zq_iv K)) : zq_Ex X 176 0 [(.ref (232)), (zq_vi (x1)), (zq_vi (x2)), zz_no] [] s (zq_rp zq_iv K) := by
  refine zq_run 2 (pc' := 2) (L' := [(.ref (232)), (zq_vi (x1)), (zq_vi (x2)), (zq_vi (0))]) (st' := []) (fun _ _ _ => rfl) ?_
  exact w
set_option maxRecDepth 100000 in
/-- PaperObjectsModel.partsAt at 2 -/
theorem zw_176_2 {X : Nat × (Nat → Int32)} {s : zq_S} {K : Int → zq_S → Prop} {x1 : Int} (hx1 : zq_iv x1) {x2 : Int} (hx2 : zq_iv x2) {x3 : Int} (hx3 : zq_iv x3) (w : (zq_Ex X 177 0 [(.ref (232)), (zq_vi (x1)), (zq_vi (x2)), (zq_vi (x3)), zz_no, zz_no, zz_no, zz_no] [] s (zq_rp zq_iv fun x_2 s_1 => (if x_2 < 0 then K (x3) s_1 else zq_Ex X 176 2 [(.ref (232)), (zq_vi (x1)), (zq_vi (x2)), (zq_vi (x3 + 1))] [] s_1 (zq_rp zq_iv K))))) : zq_Ex X 176 2 [(.ref (232)), (zq_vi (x1)), (zq_vi (x2)), (zq_vi (x3))] [] s (zq_rp zq_iv K) := by
  refine zq_run 4 (pc' := 6) (L' := [(.ref (232)), (zq_vi (x1)), (zq_vi (x2)), (zq_vi (x3))]) (st' := [(zq_vi (x3)), (zq_vi (x2)), (zq_vi (x1)), (.ref (232))]) (fun _ _ _ => rfl) ?_
  refine zq_call_i (i := .invokevirtual 224) (r := [1, 177, 3, 1, 9]) rfl rfl (fun h hp => zr_avv rfl (hp.obj zq_a232)) (of_decide_eq_false rfl) w (fun x_2 s_1 hx_3 w => ?_)
  refine zq_lt0 rfl hx_3 (fun hb_4 => ?_) (fun hb_4 => ?_)
  · rw [if_pos hb_4] at w
    refine zq_run 1 (pc' := 19) (L' := [(.ref (232)), (zq_vi (x1)), (zq_vi (x2)), (zq_vi (x3))]) (st' := [(zq_vi (x3))]) (fun _ _ _ => rfl) ?_
    exact zq_iret rfl rfl rfl (⟨_, rfl, hx3, w⟩)
  · rw [if_neg hb_4] at w
    refine zq_iinc (L' := [(.ref (232)), (zq_vi (x1)), (zq_vi (x2)), (zq_vi (x3 + 1))]) rfl rfl rfl ?_
    refine zq_run 1 (pc' := 2) (L' := [(.ref (232)), (zq_vi (x1)), (zq_vi (x2)), (zq_vi (x3 + 1))]) (st' := []) (fun _ _ _ => rfl) ?_
    exact w
set_option maxRecDepth 100000 in
/-- PaperObjectsModel.partAt(III)I -/
theorem zw_177 {X : Nat × (Nat → Int32)} {s : zq_S} {K : Int → zq_S → Prop} {x1 : Int} (hx1 : zq_iv x1) {x2 : Int} (hx2 : zq_iv x2) {x3 : Int} (hx3 : zq_iv x3) (w : (zq_Ex X 147 0 [(.ref (232)), (zq_vi (x1)), (zq_vi (x2))] [] s (zq_rp zq_ch fun x_2 s_1 => (if x_2 = 91 then zq_Ex X 177 51 [(.ref (232)), (zq_vi (x1)), (zq_vi (x2)), (zq_vi (x3)), (zq_vi (1)), (zq_vi (x2 + 1)), (zq_vi (93)), (zq_vi (0))] [] s_1 (zq_rp zq_iv K) else zq_Ex X 177 51 [(.ref (232)), (zq_vi (x1)), (zq_vi (x2)), (zq_vi (x3)), (zq_vi (0)), (zq_vi (x2 + 2)), (zq_vi (62)), (zq_vi (0))] [] s_1 (zq_rp zq_iv K))))) : zq_Ex X 177 0 [(.ref (232)), (zq_vi (x1)), (zq_vi (x2)), (zq_vi (x3)), zz_no, zz_no, zz_no, zz_no] [] s (zq_rp zq_iv K) := by
  refine zq_run 3 (pc' := 3) (L' := [(.ref (232)), (zq_vi (x1)), (zq_vi (x2)), (zq_vi (x3)), zz_no, zz_no, zz_no, zz_no]) (st' := [(zq_vi (x2)), (zq_vi (x1)), (.ref (232))]) (fun _ _ _ => rfl) ?_
  refine zq_call_i (i := .invokevirtual 119) (r := [1, 147, 2, 1, 9]) rfl rfl (fun h hp => zr_avv rfl (hp.obj zq_a232)) (of_decide_eq_false rfl) w (fun x_2 s_1 hx_3 w => ?_)
  refine zq_run 1 (pc' := 8) (L' := [(.ref (232)), (zq_vi (x1)), (zq_vi (x2)), (zq_vi (x3)), zz_no, zz_no, zz_no, zz_no]) (st' := [(zq_vi (91)), (zq_vi (x_2))]) (fun _ _ _ => rfl) ?_
  refine zq_ne rfl (zq_ch_in hx_3) (of_decide_eq_true rfl) (fun hb_4 => ?_) (fun hb_4 => ?_)
  · rw [if_neg hb_4] at w
    refine zq_run 3 (pc' := 20) (L' := [(.ref (232)), (zq_vi (x1)), (zq_vi (x2)), (zq_vi (x3)), (zq_vi (0)), zz_no, zz_no, zz_no]) (st' := [(zq_vi (0))]) (fun _ _ _ => rfl) ?_
    refine zq_eq0 rfl (of_decide_eq_true rfl) (fun _ => ?_) (fun hb => absurd (by decide) hb)
    refine zq_run 2 (pc' := 31) (L' := [(.ref (232)), (zq_vi (x1)), (zq_vi (x2)), (zq_vi (x3)), (zq_vi (0)), zz_no, zz_no, zz_no]) (st' := [(zq_vi (2)), (zq_vi (x2))]) (fun _ _ _ => rfl) ?_
    refine zq_iadd rfl ?_
    refine zq_run 2 (pc' := 36) (L' := [(.ref (232)), (zq_vi (x1)), (zq_vi (x2)), (zq_vi (x3)), (zq_vi (0)), (zq_vi (x2 + 2)), zz_no, zz_no]) (st' := [(zq_vi (0))]) (fun _ _ _ => rfl) ?_
    refine zq_eq0 rfl (of_decide_eq_true rfl) (fun _ => ?_) (fun hb => absurd (by decide) hb)
    refine zq_run 4 (pc' := 51) (L' := [(.ref (232)), (zq_vi (x1)), (zq_vi (x2)), (zq_vi (x3)), (zq_vi (0)), (zq_vi (x2 + 2)), (zq_vi (62)), (zq_vi (0))]) (st' := []) (fun _ _ _ => rfl) ?_
    exact w
  · rw [if_pos hb_4] at w
    refine zq_run 4 (pc' := 20) (L' := [(.ref (232)), (zq_vi (x1)), (zq_vi (x2)), (zq_vi (x3)), (zq_vi (1)), zz_no, zz_no, zz_no]) (st' := [(zq_vi (1))]) (fun _ _ _ => rfl) ?_
    refine zq_eq0 rfl (of_decide_eq_true rfl) (fun hb => absurd hb (by decide)) (fun _ => ?_)
    refine zq_run 2 (pc' := 25) (L' := [(.ref (232)), (zq_vi (x1)), (zq_vi (x2)), (zq_vi (x3)), (zq_vi (1)), zz_no, zz_no, zz_no]) (st' := [(zq_vi (1)), (zq_vi (x2))]) (fun _ _ _ => rfl) ?_
    refine zq_iadd rfl ?_
    refine zq_run 3 (pc' := 36) (L' := [(.ref (232)), (zq_vi (x1)), (zq_vi (x2)), (zq_vi (x3)), (zq_vi (1)), (zq_vi (x2 + 1)), zz_no, zz_no]) (st' := [(zq_vi (1))]) (fun _ _ _ => rfl) ?_
    refine zq_eq0 rfl (of_decide_eq_true rfl) (fun hb => absurd hb (by decide)) (fun _ => ?_)
    refine zq_run 5 (pc' := 51) (L' := [(.ref (232)), (zq_vi (x1)), (zq_vi (x2)), (zq_vi (x3)), (zq_vi (1)), (zq_vi (x2 + 1)), (zq_vi (93)), (zq_vi (0))]) (st' := []) (fun _ _ _ => rfl) ?_
    exact w
set_option maxRecDepth 100000 in
/-- PaperObjectsModel.partAt at 51 -/
theorem zw_177_51 {X : Nat × (Nat → Int32)} {s : zq_S} {K : Int → zq_S → Prop} {x1 : Int} (hx1 : zq_iv x1) {x2 : Int} (hx2 : zq_iv x2) {x3 : Int} (hx3 : zq_iv x3) {x4 : Int} (hx4 : zq_bo x4) {x5 : Int} (hx5 : zq_iv x5) {x6 : Int} (hx6 : zq_iv x6) {x7 : Int} (hx7 : zq_iv x7) (w : (zq_Ex X 147 0 [(.ref (232)), (zq_vi (x1)), (zq_vi (x5))] [] s (zq_rp zq_ch fun x_2 s_1 => (if x_2 = x6 then K ((-1)) s_1 else (zq_Ex X 147 0 [(.ref (232)), (zq_vi (x1)), (zq_vi (x5))] [] s_1 (zq_rp zq_ch fun x_6 s_5 => (if x_6 = 32 then (if x4 = 0 then (zq_Ex X 153 0 [(.ref (232)), (zq_vi (x1)), (zq_vi (x5 + 1)), zz_no] [] s_5 (zq_rp zq_iv fun x_24 s_23 => (if x7 = x3 then (zq_iv (x_24 + 1) ∧ K (x_24 + 1) s_23) else (zq_Ex X 178 0 [(.ref (232)), (zq_vi (x1)), (zq_vi (x_24 + 1)), zz_no, zz_no, zz_no, zz_no, zz_no] [] s_23 (zq_rp zq_iv fun x_28 s_27 => zq_Ex X 177 51 [(.ref (232)), (zq_vi (x1)), (zq_vi (x2)), (zq_vi (x3)), (zq_vi (x4)), (zq_vi (x_28)), (zq_vi (x6)), (zq_vi (x7 + 1))] [] s_27 (zq_rp zq_iv K)))))) else (if x7 = x3 then (zq_iv (x5 + 1) ∧ K (x5 + 1) s_5) else (zq_Ex X 178 0 [(.ref (232)), (zq_vi (x1)), (zq_vi (x5 + 1)), zz_no, zz_no, zz_no, zz_no, zz_no] [] s_5 (zq_rp zq_iv fun x_33 s_32 => zq_Ex X 177 51 [(.ref (232)), (zq_vi (x1)), (zq_vi (x2)), (zq_vi (x3)), (zq_vi (x4)), (zq_vi (x_33)), (zq_vi (x6)), (zq_vi (x7 + 1))] [] s_32 (zq_rp zq_iv K))))) else (if x4 = 0 then (zq_Ex X 153 0 [(.ref (232)), (zq_vi (x1)), (zq_vi (x5)), zz_no] [] s_5 (zq_rp zq_iv fun x_11 s_10 => (if x7 = x3 then (zq_iv (x_11 + 1) ∧ K (x_11 + 1) s_10) else (zq_Ex X 178 0 [(.ref (232)), (zq_vi (x1)), (zq_vi (x_11 + 1)), zz_no, zz_no, zz_no, zz_no, zz_no] [] s_10 (zq_rp zq_iv fun x_15 s_14 => zq_Ex X 177 51 [(.ref (232)), (zq_vi (x1)), (zq_vi (x2)), (zq_vi (x3)), (zq_vi (x4)), (zq_vi (x_15)), (zq_vi (x6)), (zq_vi (x7 + 1))] [] s_14 (zq_rp zq_iv K)))))) else (if x7 = x3 then K (x5) s_5 else (zq_Ex X 178 0 [(.ref (232)), (zq_vi (x1)), (zq_vi (x5)), zz_no, zz_no, zz_no, zz_no, zz_no] [] s_5 (zq_rp zq_iv fun x_20 s_19 => zq_Ex X 177 51 [(.ref (232)), (zq_vi (x1)), (zq_vi (x2)), (zq_vi (x3)), (zq_vi (x4)), (zq_vi (x_20)), (zq_vi (x6)), (zq_vi (x7 + 1))] [] s_19 (zq_rp zq_iv K)))))))))))) : zq_Ex X 177 51 [(.ref (232)), (zq_vi (x1)), (zq_vi (x2)), (zq_vi (x3)), (zq_vi (x4)), (zq_vi (x5)), (zq_vi (x6)), (zq_vi (x7))] [] s (zq_rp zq_iv K) := by
  refine zq_run 3 (pc' := 55) (L' := [(.ref (232)), (zq_vi (x1)), (zq_vi (x2)), (zq_vi (x3)), (zq_vi (x4)), (zq_vi (x5)), (zq_vi (x6)), (zq_vi (x7))]) (st' := [(zq_vi (x5)), (zq_vi (x1)), (.ref (232))]) (fun _ _ _ => rfl) ?_
  refine zq_call_i (i := .invokevirtual 119) (r := [1, 147, 2, 1, 9]) rfl rfl (fun h hp => zr_avv rfl (hp.obj zq_a232)) (of_decide_eq_false rfl) w (fun x_2 s_1 hx_3 w => ?_)
  refine zq_run 1 (pc' := 60) (L' := [(.ref (232)), (zq_vi (x1)), (zq_vi (x2)), (zq_vi (x3)), (zq_vi (x4)), (zq_vi (x5)), (zq_vi (x6)), (zq_vi (x7))]) (st' := [(zq_vi (x6)), (zq_vi (x_2))]) (fun _ _ _ => rfl) ?_
  refine zq_eq rfl (zq_ch_in hx_3) hx6 (fun hb_4 => ?_) (fun hb_4 => ?_)
  · rw [if_pos hb_4] at w
    refine zq_run 1 (pc' := 132) (L' := [(.ref (232)), (zq_vi (x1)), (zq_vi (x2)), (zq_vi (x3)), (zq_vi (x4)), (zq_vi (x5)), (zq_vi (x6)), (zq_vi (x7))]) (st' := [(zq_vi ((-1)))]) (fun _ _ _ => rfl) ?_
    exact zq_iret rfl rfl rfl (⟨_, rfl, (of_decide_eq_true rfl), w⟩)
  · rw [if_neg hb_4] at w
    refine zq_run 3 (pc' := 67) (L' := [(.ref (232)), (zq_vi (x1)), (zq_vi (x2)), (zq_vi (x3)), (zq_vi (x4)), (zq_vi (x5)), (zq_vi (x6)), (zq_vi (x7))]) (st' := [(zq_vi (x5)), (zq_vi (x1)), (.ref (232))]) (fun _ _ _ => rfl) ?_
    refine zq_call_i (i := .invokevirtual 119) (r := [1, 147, 2, 1, 9]) rfl rfl (fun h hp => zr_avv rfl (hp.obj zq_a232)) (of_decide_eq_false rfl) w (fun x_6 s_5 hx_7 w => ?_)
    refine zq_run 1 (pc' := 72) (L' := [(.ref (232)), (zq_vi (x1)), (zq_vi (x2)), (zq_vi (x3)), (zq_vi (x4)), (zq_vi (x5)), (zq_vi (x6)), (zq_vi (x7))]) (st' := [(zq_vi (32)), (zq_vi (x_6))]) (fun _ _ _ => rfl) ?_
    refine zq_ne rfl (zq_ch_in hx_7) (of_decide_eq_true rfl) (fun hb_8 => ?_) (fun hb_8 => ?_)
    · rw [if_neg hb_8] at w
      refine zq_run 3 (pc' := 88) (L' := [(.ref (232)), (zq_vi (x1)), (zq_vi (x2)), (zq_vi (x3)), (zq_vi (x4)), (zq_vi (x5)), (zq_vi (x6)), (zq_vi (x7))]) (st' := [(zq_vi (x4))]) (fun _ _ _ => rfl) ?_
      refine zq_eq0 rfl (zq_bo_in hx4) (fun hb_9 => ?_) (fun hb_9 => ?_)
      · rw [if_pos hb_9] at w
        refine zq_run 3 (pc' := 100) (L' := [(.ref (232)), (zq_vi (x1)), (zq_vi (x2)), (zq_vi (x3)), (zq_vi (x4)), (zq_vi (x5)), (zq_vi (x6)), (zq_vi (x7))]) (st' := [(zq_vi (x5)), (zq_vi (x1)), (.ref (232))]) (fun _ _ _ => rfl) ?_
        refine zq_call_i (i := .invokevirtual 130) (r := [1, 153, 2, 1, 9]) rfl rfl (fun h hp => zr_avv rfl (hp.obj zq_a232)) (of_decide_eq_false rfl) w (fun x_11 s_10 hx_12 w => ?_)
        refine zq_run 1 (pc' := 104) (L' := [(.ref (232)), (zq_vi (x1)), (zq_vi (x2)), (zq_vi (x3)), (zq_vi (x4)), (zq_vi (x5)), (zq_vi (x6)), (zq_vi (x7))]) (st' := [(zq_vi (1)), (zq_vi (x_11))]) (fun _ _ _ => rfl) ?_
        refine zq_iadd rfl ?_
        refine zq_run 3 (pc' := 110) (L' := [(.ref (232)), (zq_vi (x1)), (zq_vi (x2)), (zq_vi (x3)), (zq_vi (x4)), (zq_vi (x_11 + 1)), (zq_vi (x6)), (zq_vi (x7))]) (st' := [(zq_vi (x3)), (zq_vi (x7))]) (fun _ _ _ => rfl) ?_
        refine zq_ne rfl hx7 hx3 (fun hb_13 => ?_) (fun hb_13 => ?_)
        · rw [if_neg hb_13] at w
          refine zq_run 3 (pc' := 120) (L' := [(.ref (232)), (zq_vi (x1)), (zq_vi (x2)), (zq_vi (x3)), (zq_vi (x4)), (zq_vi (x_11 + 1)), (zq_vi (x6)), (zq_vi (x7))]) (st' := [(zq_vi (x_11 + 1)), (zq_vi (x1)), (.ref (232))]) (fun _ _ _ => rfl) ?_
          refine zq_call_i (i := .invokevirtual 221) (r := [1, 178, 2, 1, 9]) rfl rfl (fun h hp => zr_avv rfl (hp.obj zq_a232)) (of_decide_eq_false rfl) w (fun x_15 s_14 hx_16 w => ?_)
          refine zq_run 1 (pc' := 125) (L' := [(.ref (232)), (zq_vi (x1)), (zq_vi (x2)), (zq_vi (x3)), (zq_vi (x4)), (zq_vi (x_15)), (zq_vi (x6)), (zq_vi (x7))]) (st' := []) (fun _ _ _ => rfl) ?_
          refine zq_iinc (L' := [(.ref (232)), (zq_vi (x1)), (zq_vi (x2)), (zq_vi (x3)), (zq_vi (x4)), (zq_vi (x_15)), (zq_vi (x6)), (zq_vi (x7 + 1))]) rfl rfl rfl ?_
          refine zq_run 1 (pc' := 51) (L' := [(.ref (232)), (zq_vi (x1)), (zq_vi (x2)), (zq_vi (x3)), (zq_vi (x4)), (zq_vi (x_15)), (zq_vi (x6)), (zq_vi (x7 + 1))]) (st' := []) (fun _ _ _ => rfl) ?_
          exact w
        · rw [if_pos hb_13] at w
          refine zq_run 1 (pc' := 115) (L' := [(.ref (232)), (zq_vi (x1)), (zq_vi (x2)), (zq_vi (x3)), (zq_vi (x4)), (zq_vi (x_11 + 1)), (zq_vi (x6)), (zq_vi (x7))]) (st' := [(zq_vi (x_11 + 1))]) (fun _ _ _ => rfl) ?_
          obtain ⟨g_17, w⟩ := w
          exact zq_iret rfl rfl rfl (⟨_, rfl, g_17, w⟩)
      · rw [if_neg hb_9] at w
        refine zq_run 5 (pc' := 110) (L' := [(.ref (232)), (zq_vi (x1)), (zq_vi (x2)), (zq_vi (x3)), (zq_vi (x4)), (zq_vi (x5)), (zq_vi (x6)), (zq_vi (x7))]) (st' := [(zq_vi (x3)), (zq_vi (x7))]) (fun _ _ _ => rfl) ?_
        refine zq_ne rfl hx7 hx3 (fun hb_18 => ?_) (fun hb_18 => ?_)
        · rw [if_neg hb_18] at w
          refine zq_run 3 (pc' := 120) (L' := [(.ref (232)), (zq_vi (x1)), (zq_vi (x2)), (zq_vi (x3)), (zq_vi (x4)), (zq_vi (x5)), (zq_vi (x6)), (zq_vi (x7))]) (st' := [(zq_vi (x5)), (zq_vi (x1)), (.ref (232))]) (fun _ _ _ => rfl) ?_
          refine zq_call_i (i := .invokevirtual 221) (r := [1, 178, 2, 1, 9]) rfl rfl (fun h hp => zr_avv rfl (hp.obj zq_a232)) (of_decide_eq_false rfl) w (fun x_20 s_19 hx_21 w => ?_)
          refine zq_run 1 (pc' := 125) (L' := [(.ref (232)), (zq_vi (x1)), (zq_vi (x2)), (zq_vi (x3)), (zq_vi (x4)), (zq_vi (x_20)), (zq_vi (x6)), (zq_vi (x7))]) (st' := []) (fun _ _ _ => rfl) ?_
          refine zq_iinc (L' := [(.ref (232)), (zq_vi (x1)), (zq_vi (x2)), (zq_vi (x3)), (zq_vi (x4)), (zq_vi (x_20)), (zq_vi (x6)), (zq_vi (x7 + 1))]) rfl rfl rfl ?_
          refine zq_run 1 (pc' := 51) (L' := [(.ref (232)), (zq_vi (x1)), (zq_vi (x2)), (zq_vi (x3)), (zq_vi (x4)), (zq_vi (x_20)), (zq_vi (x6)), (zq_vi (x7 + 1))]) (st' := []) (fun _ _ _ => rfl) ?_
          exact w
        · rw [if_pos hb_18] at w
          refine zq_run 1 (pc' := 115) (L' := [(.ref (232)), (zq_vi (x1)), (zq_vi (x2)), (zq_vi (x3)), (zq_vi (x4)), (zq_vi (x5)), (zq_vi (x6)), (zq_vi (x7))]) (st' := [(zq_vi (x5))]) (fun _ _ _ => rfl) ?_
          exact zq_iret rfl rfl rfl (⟨_, rfl, hx5, w⟩)
    · rw [if_pos hb_8] at w
      refine zq_run 2 (pc' := 78) (L' := [(.ref (232)), (zq_vi (x1)), (zq_vi (x2)), (zq_vi (x3)), (zq_vi (x4)), (zq_vi (x5)), (zq_vi (x6)), (zq_vi (x7))]) (st' := [(zq_vi (1)), (zq_vi (x5))]) (fun _ _ _ => rfl) ?_
      refine zq_iadd rfl ?_
      refine zq_run 3 (pc' := 88) (L' := [(.ref (232)), (zq_vi (x1)), (zq_vi (x2)), (zq_vi (x3)), (zq_vi (x4)), (zq_vi (x5 + 1)), (zq_vi (x6)), (zq_vi (x7))]) (st' := [(zq_vi (x4))]) (fun _ _ _ => rfl) ?_
      refine zq_eq0 rfl (zq_bo_in hx4) (fun hb_22 => ?_) (fun hb_22 => ?_)
      · rw [if_pos hb_22] at w
        refine zq_run 3 (pc' := 100) (L' := [(.ref (232)), (zq_vi (x1)), (zq_vi (x2)), (zq_vi (x3)), (zq_vi (x4)), (zq_vi (x5 + 1)), (zq_vi (x6)), (zq_vi (x7))]) (st' := [(zq_vi (x5 + 1)), (zq_vi (x1)), (.ref (232))]) (fun _ _ _ => rfl) ?_
        refine zq_call_i (i := .invokevirtual 130) (r := [1, 153, 2, 1, 9]) rfl rfl (fun h hp => zr_avv rfl (hp.obj zq_a232)) (of_decide_eq_false rfl) w (fun x_24 s_23 hx_25 w => ?_)
        refine zq_run 1 (pc' := 104) (L' := [(.ref (232)), (zq_vi (x1)), (zq_vi (x2)), (zq_vi (x3)), (zq_vi (x4)), (zq_vi (x5 + 1)), (zq_vi (x6)), (zq_vi (x7))]) (st' := [(zq_vi (1)), (zq_vi (x_24))]) (fun _ _ _ => rfl) ?_
        refine zq_iadd rfl ?_
        refine zq_run 3 (pc' := 110) (L' := [(.ref (232)), (zq_vi (x1)), (zq_vi (x2)), (zq_vi (x3)), (zq_vi (x4)), (zq_vi (x_24 + 1)), (zq_vi (x6)), (zq_vi (x7))]) (st' := [(zq_vi (x3)), (zq_vi (x7))]) (fun _ _ _ => rfl) ?_
        refine zq_ne rfl hx7 hx3 (fun hb_26 => ?_) (fun hb_26 => ?_)
        · rw [if_neg hb_26] at w
          refine zq_run 3 (pc' := 120) (L' := [(.ref (232)), (zq_vi (x1)), (zq_vi (x2)), (zq_vi (x3)), (zq_vi (x4)), (zq_vi (x_24 + 1)), (zq_vi (x6)), (zq_vi (x7))]) (st' := [(zq_vi (x_24 + 1)), (zq_vi (x1)), (.ref (232))]) (fun _ _ _ => rfl) ?_
          refine zq_call_i (i := .invokevirtual 221) (r := [1, 178, 2, 1, 9]) rfl rfl (fun h hp => zr_avv rfl (hp.obj zq_a232)) (of_decide_eq_false rfl) w (fun x_28 s_27 hx_29 w => ?_)
          refine zq_run 1 (pc' := 125) (L' := [(.ref (232)), (zq_vi (x1)), (zq_vi (x2)), (zq_vi (x3)), (zq_vi (x4)), (zq_vi (x_28)), (zq_vi (x6)), (zq_vi (x7))]) (st' := []) (fun _ _ _ => rfl) ?_
          refine zq_iinc (L' := [(.ref (232)), (zq_vi (x1)), (zq_vi (x2)), (zq_vi (x3)), (zq_vi (x4)), (zq_vi (x_28)), (zq_vi (x6)), (zq_vi (x7 + 1))]) rfl rfl rfl ?_
          refine zq_run 1 (pc' := 51) (L' := [(.ref (232)), (zq_vi (x1)), (zq_vi (x2)), (zq_vi (x3)), (zq_vi (x4)), (zq_vi (x_28)), (zq_vi (x6)), (zq_vi (x7 + 1))]) (st' := []) (fun _ _ _ => rfl) ?_
          exact w
        · rw [if_pos hb_26] at w
          refine zq_run 1 (pc' := 115) (L' := [(.ref (232)), (zq_vi (x1)), (zq_vi (x2)), (zq_vi (x3)), (zq_vi (x4)), (zq_vi (x_24 + 1)), (zq_vi (x6)), (zq_vi (x7))]) (st' := [(zq_vi (x_24 + 1))]) (fun _ _ _ => rfl) ?_
          obtain ⟨g_30, w⟩ := w
          exact zq_iret rfl rfl rfl (⟨_, rfl, g_30, w⟩)
      · rw [if_neg hb_22] at w
        refine zq_run 5 (pc' := 110) (L' := [(.ref (232)), (zq_vi (x1)), (zq_vi (x2)), (zq_vi (x3)), (zq_vi (x4)), (zq_vi (x5 + 1)), (zq_vi (x6)), (zq_vi (x7))]) (st' := [(zq_vi (x3)), (zq_vi (x7))]) (fun _ _ _ => rfl) ?_
        refine zq_ne rfl hx7 hx3 (fun hb_31 => ?_) (fun hb_31 => ?_)
        · rw [if_neg hb_31] at w
          refine zq_run 3 (pc' := 120) (L' := [(.ref (232)), (zq_vi (x1)), (zq_vi (x2)), (zq_vi (x3)), (zq_vi (x4)), (zq_vi (x5 + 1)), (zq_vi (x6)), (zq_vi (x7))]) (st' := [(zq_vi (x5 + 1)), (zq_vi (x1)), (.ref (232))]) (fun _ _ _ => rfl) ?_
          refine zq_call_i (i := .invokevirtual 221) (r := [1, 178, 2, 1, 9]) rfl rfl (fun h hp => zr_avv rfl (hp.obj zq_a232)) (of_decide_eq_false rfl) w (fun x_33 s_32 hx_34 w => ?_)
          refine zq_run 1 (pc' := 125) (L' := [(.ref (232)), (zq_vi (x1)), (zq_vi (x2)), (zq_vi (x3)), (zq_vi (x4)), (zq_vi (x_33)), (zq_vi (x6)), (zq_vi (x7))]) (st' := []) (fun _ _ _ => rfl) ?_
          refine zq_iinc (L' := [(.ref (232)), (zq_vi (x1)), (zq_vi (x2)), (zq_vi (x3)), (zq_vi (x4)), (zq_vi (x_33)), (zq_vi (x6)), (zq_vi (x7 + 1))]) rfl rfl rfl ?_
          refine zq_run 1 (pc' := 51) (L' := [(.ref (232)), (zq_vi (x1)), (zq_vi (x2)), (zq_vi (x3)), (zq_vi (x4)), (zq_vi (x_33)), (zq_vi (x6)), (zq_vi (x7 + 1))]) (st' := []) (fun _ _ _ => rfl) ?_
          exact w
        · rw [if_pos hb_31] at w
          refine zq_run 1 (pc' := 115) (L' := [(.ref (232)), (zq_vi (x1)), (zq_vi (x2)), (zq_vi (x3)), (zq_vi (x4)), (zq_vi (x5 + 1)), (zq_vi (x6)), (zq_vi (x7))]) (st' := [(zq_vi (x5 + 1))]) (fun _ _ _ => rfl) ?_
          obtain ⟨g_35, w⟩ := w
          exact zq_iret rfl rfl rfl (⟨_, rfl, g_35, w⟩)
set_option maxRecDepth 100000 in
/-- PaperObjectsModel.valueEnd(II)I -/
theorem zw_178 {X : Nat × (Nat → Int32)} {s : zq_S} {K : Int → zq_S → Prop} {x1 : Int} (hx1 : zq_iv x1) {x2 : Int} (hx2 : zq_iv x2) (w : zq_Ex X 178 8 [(.ref (232)), (zq_vi (x1)), (zq_vi (x2)), (zq_vi (0)), (zq_vi (x2)), (zq_vi (1)), zz_no, zz_no] [] s (zq_rp zq_iv K)) : zq_Ex X 178 0 [(.ref (232)), (zq_vi (x1)), (zq_vi (x2)), zz_no, zz_no, zz_no, zz_no, zz_no] [] s (zq_rp zq_iv K) := by
  refine zq_run 6 (pc' := 8) (L' := [(.ref (232)), (zq_vi (x1)), (zq_vi (x2)), (zq_vi (0)), (zq_vi (x2)), (zq_vi (1)), zz_no, zz_no]) (st' := []) (fun _ _ _ => rfl) ?_
  exact w
set_option maxRecDepth 100000 in
/-- PaperObjectsModel.valueEnd at 8 -/
theorem zw_178_8 {X : Nat × (Nat → Int32)} {s : zq_S} {K : Int → zq_S → Prop} {x1 : Int} (hx1 : zq_iv x1) {x2 : Int} (hx2 : zq_iv x2) {x3 : Int} (hx3 : zq_iv x3) {x4 : Int} (hx4 : zq_iv x4) {x5 : Int} (hx5 : zq_bo x5) {v6 : Value} (hv6 : v6.category = 1) {v7 : Value} (hv7 : v7.category = 1) (w : (if x5 = 0 then K (x4) s else (zq_Ex X 147 0 [(.ref (232)), (zq_vi (x1)), (zq_vi (x4))] [] s (zq_rp zq_ch fun x_3 s_2 => (if x_3 = 40 then (zq_Ex X 160 0 [(.ref (232)), (zq_vi (x1)), (zq_vi (x4)), zz_no, zz_no, zz_no, zz_no] [] s_2 (zq_rp zq_iv fun x_23 s_22 => zq_Ex X 178 165 [(.ref (232)), (zq_vi (x1)), (zq_vi (x2)), (zq_vi (x3)), (zq_vi (x_23)), (zq_vi (x5)), (zq_vi (x_3)), v7] [] s_22 (zq_rp zq_iv K))) else (if x_3 = 91 then zq_Ex X 178 165 [(.ref (232)), (zq_vi (x1)), (zq_vi (x2)), (zq_vi (x3 + 1)), (zq_vi (x4 + 1)), (zq_vi (x5)), (zq_vi (x_3)), v7] [] s_2 (zq_rp zq_iv K) else (if x_3 = 60 then zq_Ex X 178 165 [(.ref (232)), (zq_vi (x1)), (zq_vi (x2)), (zq_vi (x3 + 1)), (zq_vi (x4 + 2)), (zq_vi (x5)), (zq_vi (x_3)), v7] [] s_2 (zq_rp zq_iv K) else (if x_3 = 93 then zq_Ex X 178 165 [(.ref (232)), (zq_vi (x1)), (zq_vi (x2)), (zq_vi (x3 + (-1))), (zq_vi (x4 + 1)), (zq_vi (x5)), (zq_vi (x_3)), v7] [] s_2 (zq_rp zq_iv K) else (if x_3 = 62 then zq_Ex X 178 165 [(.ref (232)), (zq_vi (x1)), (zq_vi (x2)), (zq_vi (x3 + (-1))), (zq_vi (x4 + 2)), (zq_vi (x5)), (zq_vi (x_3)), v7] [] s_2 (zq_rp zq_iv K) else (if x_3 = 47 then (zq_Ex X 153 0 [(.ref (232)), (zq_vi (x1)), (zq_vi (x4)), zz_no] [] s_2 (zq_rp zq_iv fun x_20 s_19 => zq_Ex X 178 165 [(.ref (232)), (zq_vi (x1)), (zq_vi (x2)), (zq_vi (x3)), (zq_vi (x_20)), (zq_vi (x5)), (zq_vi (x_3)), v7] [] s_19 (zq_rp zq_iv K))) else (if x_3 = 32 then zq_Ex X 178 8 [(.ref (232)), (zq_vi (x1)), (zq_vi (x2)), (zq_vi (x3)), (zq_vi (x4 + 1)), (zq_vi (x5)), (zq_vi (x_3)), v7] [] s_2 (zq_rp zq_iv K) else (zq_Ex X 162 0 [(.ref (232)), (zq_vi (x1)), (zq_vi (x4)), zz_no, zz_no] [] s_2 (zq_rp zq_iv fun x_13 s_12 => (if x_13 < 0 then (zq_Ex X 161 0 [(.ref (232)), (zq_vi (x1)), (zq_vi (x4)), zz_no] [] s_12 (zq_rp zq_iv fun x_17 s_16 => zq_Ex X 178 165 [(.ref (232)), (zq_vi (x1)), (zq_vi (x2)), (zq_vi (x3)), (zq_vi (x_17)), (zq_vi (x5)), (zq_vi (x_3)), (zq_vi (x_13))] [] s_16 (zq_rp zq_iv K))) else zq_Ex X 178 165 [(.ref (232)), (zq_vi (x1)), (zq_vi (x2)), (zq_vi (x3)), (zq_vi (x_13)), (zq_vi (x5)), (zq_vi (x_3)), (zq_vi (x_13))] [] s_12 (zq_rp zq_iv K))))))))))))))) : zq_Ex X 178 8 [(.ref (232)), (zq_vi (x1)), (zq_vi (x2)), (zq_vi (x3)), (zq_vi (x4)), (zq_vi (x5)), v6, v7] [] s (zq_rp zq_iv K) := by
  refine zq_run 1 (pc' := 10) (L' := [(.ref (232)), (zq_vi (x1)), (zq_vi (x2)), (zq_vi (x3)), (zq_vi (x4)), (zq_vi (x5)), v6, v7]) (st' := [(zq_vi (x5))]) (fun _ _ _ => rfl) ?_
  refine zq_eq0 rfl (zq_bo_in hx5) (fun hb_1 => ?_) (fun hb_1 => ?_)
  · rw [if_pos hb_1] at w
    refine zq_run 1 (pc' := 181) (L' := [(.ref (232)), (zq_vi (x1)), (zq_vi (x2)), (zq_vi (x3)), (zq_vi (x4)), (zq_vi (x5)), v6, v7]) (st' := [(zq_vi (x4))]) (fun _ _ _ => rfl) ?_
    exact zq_iret rfl rfl rfl (⟨_, rfl, hx4, w⟩)
  · rw [if_neg hb_1] at w
    refine zq_run 3 (pc' := 17) (L' := [(.ref (232)), (zq_vi (x1)), (zq_vi (x2)), (zq_vi (x3)), (zq_vi (x4)), (zq_vi (x5)), v6, v7]) (st' := [(zq_vi (x4)), (zq_vi (x1)), (.ref (232))]) (fun _ _ _ => rfl) ?_
    refine zq_call_i (i := .invokevirtual 119) (r := [1, 147, 2, 1, 9]) rfl rfl (fun h hp => zr_avv rfl (hp.obj zq_a232)) (of_decide_eq_false rfl) w (fun x_3 s_2 hx_4 w => ?_)
    refine zq_run 3 (pc' := 26) (L' := [(.ref (232)), (zq_vi (x1)), (zq_vi (x2)), (zq_vi (x3)), (zq_vi (x4)), (zq_vi (x5)), (zq_vi (x_3)), v7]) (st' := [(zq_vi (40)), (zq_vi (x_3))]) (fun _ _ _ => rfl) ?_
    refine zq_ne rfl (zq_ch_in hx_4) (of_decide_eq_true rfl) (fun hb_5 => ?_) (fun hb_5 => ?_)
    · rw [if_neg hb_5] at w
      refine zq_run 2 (pc' := 45) (L' := [(.ref (232)), (zq_vi (x1)), (zq_vi (x2)), (zq_vi (x3)), (zq_vi (x4)), (zq_vi (x5)), (zq_vi (x_3)), v7]) (st' := [(zq_vi (91)), (zq_vi (x_3))]) (fun _ _ _ => rfl) ?_
      refine zq_ne rfl (zq_ch_in hx_4) (of_decide_eq_true rfl) (fun hb_6 => ?_) (fun hb_6 => ?_)
      · rw [if_neg hb_6] at w
        refine zq_run 2 (pc' := 61) (L' := [(.ref (232)), (zq_vi (x1)), (zq_vi (x2)), (zq_vi (x3)), (zq_vi (x4)), (zq_vi (x5)), (zq_vi (x_3)), v7]) (st' := [(zq_vi (60)), (zq_vi (x_3))]) (fun _ _ _ => rfl) ?_
        refine zq_ne rfl (zq_ch_in hx_4) (of_decide_eq_true rfl) (fun hb_7 => ?_) (fun hb_7 => ?_)
        · rw [if_neg hb_7] at w
          refine zq_run 2 (pc' := 77) (L' := [(.ref (232)), (zq_vi (x1)), (zq_vi (x2)), (zq_vi (x3)), (zq_vi (x4)), (zq_vi (x5)), (zq_vi (x_3)), v7]) (st' := [(zq_vi (93)), (zq_vi (x_3))]) (fun _ _ _ => rfl) ?_
          refine zq_ne rfl (zq_ch_in hx_4) (of_decide_eq_true rfl) (fun hb_8 => ?_) (fun hb_8 => ?_)
          · rw [if_neg hb_8] at w
            refine zq_run 2 (pc' := 93) (L' := [(.ref (232)), (zq_vi (x1)), (zq_vi (x2)), (zq_vi (x3)), (zq_vi (x4)), (zq_vi (x5)), (zq_vi (x_3)), v7]) (st' := [(zq_vi (62)), (zq_vi (x_3))]) (fun _ _ _ => rfl) ?_
            refine zq_ne rfl (zq_ch_in hx_4) (of_decide_eq_true rfl) (fun hb_9 => ?_) (fun hb_9 => ?_)
            · rw [if_neg hb_9] at w
              refine zq_run 2 (pc' := 109) (L' := [(.ref (232)), (zq_vi (x1)), (zq_vi (x2)), (zq_vi (x3)), (zq_vi (x4)), (zq_vi (x5)), (zq_vi (x_3)), v7]) (st' := [(zq_vi (47)), (zq_vi (x_3))]) (fun _ _ _ => rfl) ?_
              refine zq_ne rfl (zq_ch_in hx_4) (of_decide_eq_true rfl) (fun hb_10 => ?_) (fun hb_10 => ?_)
              · rw [if_neg hb_10] at w
                refine zq_run 2 (pc' := 128) (L' := [(.ref (232)), (zq_vi (x1)), (zq_vi (x2)), (zq_vi (x3)), (zq_vi (x4)), (zq_vi (x5)), (zq_vi (x_3)), v7]) (st' := [(zq_vi (32)), (zq_vi (x_3))]) (fun _ _ _ => rfl) ?_
                refine zq_ne rfl (zq_ch_in hx_4) (of_decide_eq_true rfl) (fun hb_11 => ?_) (fun hb_11 => ?_)
                · rw [if_neg hb_11] at w
                  refine zq_run 3 (pc' := 141) (L' := [(.ref (232)), (zq_vi (x1)), (zq_vi (x2)), (zq_vi (x3)), (zq_vi (x4)), (zq_vi (x5)), (zq_vi (x_3)), v7]) (st' := [(zq_vi (x4)), (zq_vi (x1)), (.ref (232))]) (fun _ _ _ => rfl) ?_
                  refine zq_call_i (i := .invokevirtual 151) (r := [1, 162, 2, 1, 9]) rfl rfl (fun h hp => zr_avv rfl (hp.obj zq_a232)) (of_decide_eq_false rfl) w (fun x_13 s_12 hx_14 w => ?_)
                  refine zq_run 2 (pc' := 148) (L' := [(.ref (232)), (zq_vi (x1)), (zq_vi (x2)), (zq_vi (x3)), (zq_vi (x4)), (zq_vi (x5)), (zq_vi (x_3)), (zq_vi (x_13))]) (st' := [(zq_vi (x_13))]) (fun _ _ _ => rfl) ?_
                  refine zq_lt0 rfl hx_14 (fun hb_15 => ?_) (fun hb_15 => ?_)
                  · rw [if_pos hb_15] at w
                    refine zq_run 3 (pc' := 160) (L' := [(.ref (232)), (zq_vi (x1)), (zq_vi (x2)), (zq_vi (x3)), (zq_vi (x4)), (zq_vi (x5)), (zq_vi (x_3)), (zq_vi (x_13))]) (st' := [(zq_vi (x4)), (zq_vi (x1)), (.ref (232))]) (fun _ _ _ => rfl) ?_
                    refine zq_call_i (i := .invokevirtual 134) (r := [1, 161, 2, 1, 9]) rfl rfl (fun h hp => zr_avv rfl (hp.obj zq_a232)) (of_decide_eq_false rfl) w (fun x_17 s_16 hx_18 w => ?_)
                    refine zq_run 1 (pc' := 165) (L' := [(.ref (232)), (zq_vi (x1)), (zq_vi (x2)), (zq_vi (x3)), (zq_vi (x_17)), (zq_vi (x5)), (zq_vi (x_3)), (zq_vi (x_13))]) (st' := []) (fun _ _ _ => rfl) ?_
                    exact w
                  · rw [if_neg hb_15] at w
                    refine zq_run 3 (pc' := 165) (L' := [(.ref (232)), (zq_vi (x1)), (zq_vi (x2)), (zq_vi (x3)), (zq_vi (x_13)), (zq_vi (x5)), (zq_vi (x_3)), (zq_vi (x_13))]) (st' := []) (fun _ _ _ => rfl) ?_
                    exact w
                · rw [if_pos hb_11] at w
                  refine zq_iinc (L' := [(.ref (232)), (zq_vi (x1)), (zq_vi (x2)), (zq_vi (x3)), (zq_vi (x4 + 1)), (zq_vi (x5)), (zq_vi (x_3)), v7]) rfl rfl rfl ?_
                  refine zq_run 1 (pc' := 8) (L' := [(.ref (232)), (zq_vi (x1)), (zq_vi (x2)), (zq_vi (x3)), (zq_vi (x4 + 1)), (zq_vi (x5)), (zq_vi (x_3)), v7]) (st' := []) (fun _ _ _ => rfl) ?_
                  exact w
              · rw [if_pos hb_10] at w
                refine zq_run 3 (pc' := 116) (L' := [(.ref (232)), (zq_vi (x1)), (zq_vi (x2)), (zq_vi (x3)), (zq_vi (x4)), (zq_vi (x5)), (zq_vi (x_3)), v7]) (st' := [(zq_vi (x4)), (zq_vi (x1)), (.ref (232))]) (fun _ _ _ => rfl) ?_
                refine zq_call_i (i := .invokevirtual 130) (r := [1, 153, 2, 1, 9]) rfl rfl (fun h hp => zr_avv rfl (hp.obj zq_a232)) (of_decide_eq_false rfl) w (fun x_20 s_19 hx_21 w => ?_)
                refine zq_run 2 (pc' := 165) (L' := [(.ref (232)), (zq_vi (x1)), (zq_vi (x2)), (zq_vi (x3)), (zq_vi (x_20)), (zq_vi (x5)), (zq_vi (x_3)), v7]) (st' := []) (fun _ _ _ => rfl) ?_
                exact w
            · rw [if_pos hb_9] at w
              refine zq_iinc (L' := [(.ref (232)), (zq_vi (x1)), (zq_vi (x2)), (zq_vi (x3 + (-1))), (zq_vi (x4)), (zq_vi (x5)), (zq_vi (x_3)), v7]) rfl rfl rfl ?_
              refine zq_iinc (L' := [(.ref (232)), (zq_vi (x1)), (zq_vi (x2)), (zq_vi (x3 + (-1))), (zq_vi (x4 + 2)), (zq_vi (x5)), (zq_vi (x_3)), v7]) rfl rfl rfl ?_
              refine zq_run 1 (pc' := 165) (L' := [(.ref (232)), (zq_vi (x1)), (zq_vi (x2)), (zq_vi (x3 + (-1))), (zq_vi (x4 + 2)), (zq_vi (x5)), (zq_vi (x_3)), v7]) (st' := []) (fun _ _ _ => rfl) ?_
              exact w
          · rw [if_pos hb_8] at w
            refine zq_iinc (L' := [(.ref (232)), (zq_vi (x1)), (zq_vi (x2)), (zq_vi (x3 + (-1))), (zq_vi (x4)), (zq_vi (x5)), (zq_vi (x_3)), v7]) rfl rfl rfl ?_
            refine zq_iinc (L' := [(.ref (232)), (zq_vi (x1)), (zq_vi (x2)), (zq_vi (x3 + (-1))), (zq_vi (x4 + 1)), (zq_vi (x5)), (zq_vi (x_3)), v7]) rfl rfl rfl ?_
            refine zq_run 1 (pc' := 165) (L' := [(.ref (232)), (zq_vi (x1)), (zq_vi (x2)), (zq_vi (x3 + (-1))), (zq_vi (x4 + 1)), (zq_vi (x5)), (zq_vi (x_3)), v7]) (st' := []) (fun _ _ _ => rfl) ?_
            exact w
        · rw [if_pos hb_7] at w
          refine zq_iinc (L' := [(.ref (232)), (zq_vi (x1)), (zq_vi (x2)), (zq_vi (x3 + 1)), (zq_vi (x4)), (zq_vi (x5)), (zq_vi (x_3)), v7]) rfl rfl rfl ?_
          refine zq_iinc (L' := [(.ref (232)), (zq_vi (x1)), (zq_vi (x2)), (zq_vi (x3 + 1)), (zq_vi (x4 + 2)), (zq_vi (x5)), (zq_vi (x_3)), v7]) rfl rfl rfl ?_
          refine zq_run 1 (pc' := 165) (L' := [(.ref (232)), (zq_vi (x1)), (zq_vi (x2)), (zq_vi (x3 + 1)), (zq_vi (x4 + 2)), (zq_vi (x5)), (zq_vi (x_3)), v7]) (st' := []) (fun _ _ _ => rfl) ?_
          exact w
      · rw [if_pos hb_6] at w
        refine zq_iinc (L' := [(.ref (232)), (zq_vi (x1)), (zq_vi (x2)), (zq_vi (x3 + 1)), (zq_vi (x4)), (zq_vi (x5)), (zq_vi (x_3)), v7]) rfl rfl rfl ?_
        refine zq_iinc (L' := [(.ref (232)), (zq_vi (x1)), (zq_vi (x2)), (zq_vi (x3 + 1)), (zq_vi (x4 + 1)), (zq_vi (x5)), (zq_vi (x_3)), v7]) rfl rfl rfl ?_
        refine zq_run 1 (pc' := 165) (L' := [(.ref (232)), (zq_vi (x1)), (zq_vi (x2)), (zq_vi (x3 + 1)), (zq_vi (x4 + 1)), (zq_vi (x5)), (zq_vi (x_3)), v7]) (st' := []) (fun _ _ _ => rfl) ?_
        exact w
    · rw [if_pos hb_5] at w
      refine zq_run 3 (pc' := 33) (L' := [(.ref (232)), (zq_vi (x1)), (zq_vi (x2)), (zq_vi (x3)), (zq_vi (x4)), (zq_vi (x5)), (zq_vi (x_3)), v7]) (st' := [(zq_vi (x4)), (zq_vi (x1)), (.ref (232))]) (fun _ _ _ => rfl) ?_
      refine zq_call_i (i := .invokevirtual 148) (r := [1, 160, 2, 1, 9]) rfl rfl (fun h hp => zr_avv rfl (hp.obj zq_a232)) (of_decide_eq_false rfl) w (fun x_23 s_22 hx_24 w => ?_)
      refine zq_run 2 (pc' := 165) (L' := [(.ref (232)), (zq_vi (x1)), (zq_vi (x2)), (zq_vi (x3)), (zq_vi (x_23)), (zq_vi (x5)), (zq_vi (x_3)), v7]) (st' := []) (fun _ _ _ => rfl) ?_
      exact w
set_option maxRecDepth 100000 in
/-- PaperObjectsModel.valueEnd at 165 -/
theorem zw_178_165 {X : Nat × (Nat → Int32)} {s : zq_S} {K : Int → zq_S → Prop} {x1 : Int} (hx1 : zq_iv x1) {x2 : Int} (hx2 : zq_iv x2) {x3 : Int} (hx3 : zq_iv x3) {x4 : Int} (hx4 : zq_iv x4) {x5 : Int} (hx5 : zq_bo x5) {x6 : Int} (hx6 : zq_ch x6) {v7 : Value} (hv7 : v7.category = 1) (w : (if x3 ≤ 0 then zq_Ex X 178 8 [(.ref (232)), (zq_vi (x1)), (zq_vi (x2)), (zq_vi (x3)), (zq_vi (x4)), (zq_vi (0)), (zq_vi (x6)), v7] [] s (zq_rp zq_iv K) else zq_Ex X 178 8 [(.ref (232)), (zq_vi (x1)), (zq_vi (x2)), (zq_vi (x3)), (zq_vi (x4)), (zq_vi (1)), (zq_vi (x6)), v7] [] s (zq_rp zq_iv K))) : zq_Ex X 178 165 [(.ref (232)), (zq_vi (x1)), (zq_vi (x2)), (zq_vi (x3)), (zq_vi (x4)), (zq_vi (x5)), (zq_vi (x6)), v7] [] s (zq_rp zq_iv K) := by
  refine zq_run 1 (pc' := 166) (L' := [(.ref (232)), (zq_vi (x1)), (zq_vi (x2)), (zq_vi (x3)), (zq_vi (x4)), (zq_vi (x5)), (zq_vi (x6)), v7]) (st' := [(zq_vi (x3))]) (fun _ _ _ => rfl) ?_
  refine zq_le0 rfl hx3 (fun hb_1 => ?_) (fun hb_1 => ?_)
  · rw [if_pos hb_1] at w
    refine zq_run 3 (pc' := 8) (L' := [(.ref (232)), (zq_vi (x1)), (zq_vi (x2)), (zq_vi (x3)), (zq_vi (x4)), (zq_vi (0)), (zq_vi (x6)), v7]) (st' := []) (fun _ _ _ => rfl) ?_
    exact w
  · rw [if_neg hb_1] at w
    refine zq_run 4 (pc' := 8) (L' := [(.ref (232)), (zq_vi (x1)), (zq_vi (x2)), (zq_vi (x3)), (zq_vi (x4)), (zq_vi (1)), (zq_vi (x6)), v7]) (st' := []) (fun _ _ _ => rfl) ?_
    exact w
set_option maxRecDepth 100000 in
/-- PaperObjectsModel.keyIs(II[CI)Z -/
theorem zw_179 {X : Nat × (Nat → Int32)} {s : zq_S} {K : Int → zq_S → Prop} {x1 : Int} (hx1 : zq_iv x1) {x2 : Int} (hx2 : zq_iv x2) {a3 m3 : Nat} (ha3 : zq_k a3 = (1, 1, m3)) {x4 : Int} (hx4 : zq_iv x4) (w : (zq_Ex X 153 0 [(.ref (232)), (zq_vi (x1)), (zq_vi (x2)), zz_no] [] s (zq_rp zq_iv fun x_2 s_1 => (zq_iv ((x_2 - x2) - 1) ∧ (if (x_2 - x2) - 1 = x4 then zq_Ex X 179 25 [(.ref (232)), (zq_vi (x1)), (zq_vi (x2)), (.ref (a3)), (zq_vi (x4)), (zq_vi (1)), (zq_vi (0))] [] s_1 (zq_rp zq_bo K) else zq_Ex X 179 25 [(.ref (232)), (zq_vi (x1)), (zq_vi (x2)), (.ref (a3)), (zq_vi (x4)), (zq_vi (0)), (zq_vi (0))] [] s_1 (zq_rp zq_bo K)))))) : zq_Ex X 179 0 [(.ref (232)), (zq_vi (x1)), (zq_vi (x2)), (.ref (a3)), (zq_vi (x4)), zz_no, zz_no] [] s (zq_rp zq_bo K) := by
  refine zq_run 3 (pc' := 3) (L' := [(.ref (232)), (zq_vi (x1)), (zq_vi (x2)), (.ref (a3)), (zq_vi (x4)), zz_no, zz_no]) (st' := [(zq_vi (x2)), (zq_vi (x1)), (.ref (232))]) (fun _ _ _ => rfl) ?_
  refine zq_call_i (i := .invokevirtual 130) (r := [1, 153, 2, 1, 9]) rfl rfl (fun h hp => zr_avv rfl (hp.obj zq_a232)) (of_decide_eq_false rfl) w (fun x_2 s_1 hx_3 w => ?_)
  refine zq_run 1 (pc' := 7) (L' := [(.ref (232)), (zq_vi (x1)), (zq_vi (x2)), (.ref (a3)), (zq_vi (x4)), zz_no, zz_no]) (st' := [(zq_vi (x2)), (zq_vi (x_2))]) (fun _ _ _ => rfl) ?_
  refine zq_isub rfl ?_
  refine zq_run 1 (pc' := 9) (L' := [(.ref (232)), (zq_vi (x1)), (zq_vi (x2)), (.ref (a3)), (zq_vi (x4)), zz_no, zz_no]) (st' := [(zq_vi (1)), (zq_vi (x_2 - x2))]) (fun _ _ _ => rfl) ?_
  refine zq_isub rfl ?_
  refine zq_run 1 (pc' := 12) (L' := [(.ref (232)), (zq_vi (x1)), (zq_vi (x2)), (.ref (a3)), (zq_vi (x4)), zz_no, zz_no]) (st' := [(zq_vi (x4)), (zq_vi ((x_2 - x2) - 1))]) (fun _ _ _ => rfl) ?_
  obtain ⟨g_4, w⟩ := w
  refine zq_ne rfl g_4 hx4 (fun hb_5 => ?_) (fun hb_5 => ?_)
  · rw [if_neg hb_5] at w
    refine zq_run 4 (pc' := 25) (L' := [(.ref (232)), (zq_vi (x1)), (zq_vi (x2)), (.ref (a3)), (zq_vi (x4)), (zq_vi (0)), (zq_vi (0))]) (st' := []) (fun _ _ _ => rfl) ?_
    exact w
  · rw [if_pos hb_5] at w
    refine zq_run 5 (pc' := 25) (L' := [(.ref (232)), (zq_vi (x1)), (zq_vi (x2)), (.ref (a3)), (zq_vi (x4)), (zq_vi (1)), (zq_vi (0))]) (st' := []) (fun _ _ _ => rfl) ?_
    exact w
set_option maxRecDepth 100000 in
/-- PaperObjectsModel.keyIs at 25 -/
theorem zw_179_25 {X : Nat × (Nat → Int32)} {s : zq_S} {K : Int → zq_S → Prop} {x1 : Int} (hx1 : zq_iv x1) {x2 : Int} (hx2 : zq_iv x2) {a3 m3 : Nat} (ha3 : zq_k a3 = (1, 1, m3)) {x4 : Int} (hx4 : zq_iv x4) {x5 : Int} (hx5 : zq_bo x5) {x6 : Int} (hx6 : zq_iv x6) (w : (if x6 < x4 then (if x5 = 0 then K (x5) s else (zq_Ex X 147 0 [(.ref (232)), (zq_vi (x1)), (zq_vi ((x2 + 1) + x6))] [] s (zq_rp zq_ch fun x_4 s_3 => (((0 : Int) ≤ x6 ∧ x6 < ((m3 : Nat) : Int)) ∧ (if x_4 = zq_i s_3 (a3) (x6) then zq_Ex X 179 25 [(.ref (232)), (zq_vi (x1)), (zq_vi (x2)), (.ref (a3)), (zq_vi (x4)), (zq_vi (1)), (zq_vi (x6 + 1))] [] s_3 (zq_rp zq_bo K) else zq_Ex X 179 25 [(.ref (232)), (zq_vi (x1)), (zq_vi (x2)), (.ref (a3)), (zq_vi (x4)), (zq_vi (0)), (zq_vi (x6 + 1))] [] s_3 (zq_rp zq_bo K)))))) else K (x5) s)) : zq_Ex X 179 25 [(.ref (232)), (zq_vi (x1)), (zq_vi (x2)), (.ref (a3)), (zq_vi (x4)), (zq_vi (x5)), (zq_vi (x6))] [] s (zq_rp zq_bo K) := by
  refine zq_run 2 (pc' := 29) (L' := [(.ref (232)), (zq_vi (x1)), (zq_vi (x2)), (.ref (a3)), (zq_vi (x4)), (zq_vi (x5)), (zq_vi (x6))]) (st' := [(zq_vi (x4)), (zq_vi (x6))]) (fun _ _ _ => rfl) ?_
  refine zq_ge rfl hx6 hx4 (fun hb_1 => ?_) (fun hb_1 => ?_)
  · rw [if_neg hb_1] at w
    refine zq_run 1 (pc' := 70) (L' := [(.ref (232)), (zq_vi (x1)), (zq_vi (x2)), (.ref (a3)), (zq_vi (x4)), (zq_vi (x5)), (zq_vi (x6))]) (st' := [(zq_vi (x5))]) (fun _ _ _ => rfl) ?_
    exact zq_iret rfl rfl (congrArg Value.int (zq_nb hx5)) (⟨_, rfl, hx5, w⟩)
  · rw [if_pos hb_1] at w
    refine zq_run 1 (pc' := 34) (L' := [(.ref (232)), (zq_vi (x1)), (zq_vi (x2)), (.ref (a3)), (zq_vi (x4)), (zq_vi (x5)), (zq_vi (x6))]) (st' := [(zq_vi (x5))]) (fun _ _ _ => rfl) ?_
    refine zq_eq0 rfl (zq_bo_in hx5) (fun hb_2 => ?_) (fun hb_2 => ?_)
    · rw [if_pos hb_2] at w
      refine zq_run 1 (pc' := 70) (L' := [(.ref (232)), (zq_vi (x1)), (zq_vi (x2)), (.ref (a3)), (zq_vi (x4)), (zq_vi (x5)), (zq_vi (x6))]) (st' := [(zq_vi (x5))]) (fun _ _ _ => rfl) ?_
      exact zq_iret rfl rfl (congrArg Value.int (zq_nb hx5)) (⟨_, rfl, hx5, w⟩)
    · rw [if_neg hb_2] at w
      refine zq_run 4 (pc' := 41) (L' := [(.ref (232)), (zq_vi (x1)), (zq_vi (x2)), (.ref (a3)), (zq_vi (x4)), (zq_vi (x5)), (zq_vi (x6))]) (st' := [(zq_vi (1)), (zq_vi (x2)), (zq_vi (x1)), (.ref (232))]) (fun _ _ _ => rfl) ?_
      refine zq_iadd rfl ?_
      refine zq_run 1 (pc' := 44) (L' := [(.ref (232)), (zq_vi (x1)), (zq_vi (x2)), (.ref (a3)), (zq_vi (x4)), (zq_vi (x5)), (zq_vi (x6))]) (st' := [(zq_vi (x6)), (zq_vi (x2 + 1)), (zq_vi (x1)), (.ref (232))]) (fun _ _ _ => rfl) ?_
      refine zq_iadd rfl ?_
      refine zq_call_i (i := .invokevirtual 119) (r := [1, 147, 2, 1, 9]) rfl rfl (fun h hp => zr_avv rfl (hp.obj zq_a232)) (of_decide_eq_false rfl) w (fun x_4 s_3 hx_5 w => ?_)
      refine zq_run 2 (pc' := 51) (L' := [(.ref (232)), (zq_vi (x1)), (zq_vi (x2)), (.ref (a3)), (zq_vi (x4)), (zq_vi (x5)), (zq_vi (x6))]) (st' := [(zq_vi (x6)), (.ref (a3)), (zq_vi (x_4))]) (fun _ _ _ => rfl) ?_
      obtain ⟨g_6, w⟩ := w
      refine zq_have (fun hR_7 => ?_)
      refine zq_ald_c (v := zq_i s_3 (a3) (x6)) rfl ha3 g_6.1 g_6.2 rfl ?_
      refine zq_ne rfl (zq_ch_in hx_5) (zq_ch_in (hR_7.2.1 _ _ _ ha3)) (fun hb_8 => ?_) (fun hb_8 => ?_)
      · rw [if_neg hb_8] at w
        refine zq_run 2 (pc' := 62) (L' := [(.ref (232)), (zq_vi (x1)), (zq_vi (x2)), (.ref (a3)), (zq_vi (x4)), (zq_vi (0)), (zq_vi (x6))]) (st' := []) (fun _ _ _ => rfl) ?_
        refine zq_iinc (L' := [(.ref (232)), (zq_vi (x1)), (zq_vi (x2)), (.ref (a3)), (zq_vi (x4)), (zq_vi (0)), (zq_vi (x6 + 1))]) rfl rfl rfl ?_
        refine zq_run 1 (pc' := 25) (L' := [(.ref (232)), (zq_vi (x1)), (zq_vi (x2)), (.ref (a3)), (zq_vi (x4)), (zq_vi (0)), (zq_vi (x6 + 1))]) (st' := []) (fun _ _ _ => rfl) ?_
        exact w
      · rw [if_pos hb_8] at w
        refine zq_run 3 (pc' := 62) (L' := [(.ref (232)), (zq_vi (x1)), (zq_vi (x2)), (.ref (a3)), (zq_vi (x4)), (zq_vi (1)), (zq_vi (x6))]) (st' := []) (fun _ _ _ => rfl) ?_
        refine zq_iinc (L' := [(.ref (232)), (zq_vi (x1)), (zq_vi (x2)), (.ref (a3)), (zq_vi (x4)), (zq_vi (1)), (zq_vi (x6 + 1))]) rfl rfl rfl ?_
        refine zq_run 1 (pc' := 25) (L' := [(.ref (232)), (zq_vi (x1)), (zq_vi (x2)), (.ref (a3)), (zq_vi (x4)), (zq_vi (1)), (zq_vi (x6 + 1))]) (st' := []) (fun _ _ _ => rfl) ?_
        exact w
set_option maxRecDepth 100000 in
/-- PaperObjectsModel.setLength(II)V -/
theorem zw_180 {X : Nat × (Nat → Int32)} {s : zq_S} {K : zq_S → Prop} {x1 : Int} (hx1 : zq_iv x1) {x2 : Int} (hx2 : zq_iv x2) (w : (zq_Ex X 175 0 [(.ref (232)), (zq_vi (10 + x1)), (zq_vi (0)), (.ref (256)), (zq_vi (6)), zz_no, zz_no, zz_no, zz_no] [] s (zq_rp zq_iv fun x_2 s_1 => (((0 : Int) ≤ x1 ∧ x1 < (10 : Int)) ∧ (if x_2 < 0 then (zq_Ex X 157 0 [(.ref (232)), (zq_vi (10 + x1)), (zq_vi (0)), (zq_vi ((zq_i s_1 (240) (x1)) - 2)), zz_no] [] (zq_si s_1 (232) (23) (0)) (zq_rv fun s_7 => (if zq_i s_1 (240) (x1) ≤ 4 then (zq_Ex X 150 0 [(.ref (232)), (zq_vi (47))] [] s_7 (zq_rv fun s_9 => zq_Ex X 180 107 [(.ref (232)), (zq_vi (x1)), (zq_vi (x2)), (zq_vi (10 + x1)), (zq_vi (x_2)), (zq_vi (zq_i s_1 (240) (x1))), (zq_vi (0))] [] s_9 (zq_rv K))) else (zq_Ex X 150 0 [(.ref (232)), (zq_vi (32))] [] s_7 (zq_rv fun s_10 => (zq_Ex X 150 0 [(.ref (232)), (zq_vi (47))] [] s_10 (zq_rv fun s_11 => zq_Ex X 180 107 [(.ref (232)), (zq_vi (x1)), (zq_vi (x2)), (zq_vi (10 + x1)), (zq_vi (x_2)), (zq_vi (zq_i s_1 (240) (x1))), (zq_vi (0))] [] s_11 (zq_rv K)))))))) else (zq_Ex X 159 0 [(.ref (232)), (zq_vi (10 + x1)), (zq_vi (x_2)), zz_no, zz_no] [] s_1 (zq_rp zq_iv fun x_13 s_12 => (if x_13 = 8 then K s_12 else (zq_Ex X 178 0 [(.ref (232)), (zq_vi (10 + x1)), (zq_vi (x_2)), zz_no, zz_no, zz_no, zz_no, zz_no] [] s_12 (zq_rp zq_iv fun x_17 s_16 => (zq_Ex X 181 0 [(.ref (232)), (zq_vi (10 + x1)), (zq_vi (x_2)), (zq_vi (x2)), (zq_vi (x_17)), (zq_vi (zq_i s_1 (240) (x1)))] [] s_16 (zq_rv fun s_19 => (zq_Ex X 170 0 [(.ref (232)), (zq_vi (x1)), zz_no] [] s_19 (zq_rv fun s_20 => K s_20)))))))))))))) : zq_Ex X 180 0 [(.ref (232)), (zq_vi (x1)), (zq_vi (x2)), zz_no, zz_no, zz_no, zz_no] [] s (zq_rv K) := by
  refine zq_run 2 (pc' := 3) (L' := [(.ref (232)), (zq_vi (x1)), (zq_vi (x2)), zz_no, zz_no, zz_no, zz_no]) (st' := [(zq_vi (x1)), (zq_vi (10))]) (fun _ _ _ => rfl) ?_
  refine zq_iadd rfl ?_
  refine zq_run 5 (pc' := 9) (L' := [(.ref (232)), (zq_vi (x1)), (zq_vi (x2)), (zq_vi (10 + x1)), zz_no, zz_no, zz_no]) (st' := [(.ref (232)), (zq_vi (0)), (zq_vi (10 + x1)), (.ref (232))]) (fun _ _ _ => rfl) ?_
  refine zq_getf_f (b := 256) rfl zq_a232 rfl rfl ?_
  refine zq_run 1 (pc' := 14) (L' := [(.ref (232)), (zq_vi (x1)), (zq_vi (x2)), (zq_vi (10 + x1)), zz_no, zz_no, zz_no]) (st' := [(zq_vi (6)), (.ref (256)), (zq_vi (0)), (zq_vi (10 + x1)), (.ref (232))]) (fun _ _ _ => rfl) ?_
  refine zq_call_i (i := .invokevirtual 275) (r := [1, 175, 4, 1, 9]) rfl rfl (fun h hp => zr_avv rfl (hp.obj zq_a232)) (of_decide_eq_false rfl) w (fun x_2 s_1 hx_3 w => ?_)
  refine zq_run 2 (pc' := 20) (L' := [(.ref (232)), (zq_vi (x1)), (zq_vi (x2)), (zq_vi (10 + x1)), (zq_vi (x_2)), zz_no, zz_no]) (st' := [(.ref (232))]) (fun _ _ _ => rfl) ?_
  refine zq_getf_f (b := 240) rfl zq_a232 rfl rfl ?_
  refine zq_run 1 (pc' := 24) (L' := [(.ref (232)), (zq_vi (x1)), (zq_vi (x2)), (zq_vi (10 + x1)), (zq_vi (x_2)), zz_no, zz_no]) (st' := [(zq_vi (x1)), (.ref (240))]) (fun _ _ _ => rfl) ?_
  obtain ⟨g_4, w⟩ := w
  refine zq_have (fun hR_5 => ?_)
  refine zq_ald_i (v := zq_i s_1 (240) (x1)) rfl zq_a240 g_4.1 g_4.2 rfl ?_
  refine zq_run 2 (pc' := 29) (L' := [(.ref (232)), (zq_vi (x1)), (zq_vi (x2)), (zq_vi (10 + x1)), (zq_vi (x_2)), (zq_vi (zq_i s_1 (240) (x1))), zz_no]) (st' := [(zq_vi (x_2))]) (fun _ _ _ => rfl) ?_
  refine zq_lt0 rfl hx_3 (fun hb_6 => ?_) (fun hb_6 => ?_)
  · rw [if_pos hb_6] at w
    refine zq_run 2 (pc' := 73) (L' := [(.ref (232)), (zq_vi (x1)), (zq_vi (x2)), (zq_vi (10 + x1)), (zq_vi (x_2)), (zq_vi (zq_i s_1 (240) (x1))), zz_no]) (st' := [(zq_vi (0)), (.ref (232))]) (fun _ _ _ => rfl) ?_
    refine zq_putf_i (j := 23) rfl zq_a232 rfl rfl rfl (of_decide_eq_true rfl) ?_
    refine zq_run 5 (pc' := 82) (L' := [(.ref (232)), (zq_vi (x1)), (zq_vi (x2)), (zq_vi (10 + x1)), (zq_vi (x_2)), (zq_vi (zq_i s_1 (240) (x1))), zz_no]) (st' := [(zq_vi (2)), (zq_vi (zq_i s_1 (240) (x1))), (zq_vi (0)), (zq_vi (10 + x1)), (.ref (232))]) (fun _ _ _ => rfl) ?_
    refine zq_isub rfl ?_
    refine zq_call_v (i := .invokevirtual 174) (r := [1, 157, 3, 1, 9]) rfl rfl (fun h hp => zr_avv rfl (hp.obj zq_a232)) (of_decide_eq_false rfl) w (fun s_7 w => ?_)
    refine zq_run 2 (pc' := 89) (L' := [(.ref (232)), (zq_vi (x1)), (zq_vi (x2)), (zq_vi (10 + x1)), (zq_vi (x_2)), (zq_vi (zq_i s_1 (240) (x1))), zz_no]) (st' := [(zq_vi (4)), (zq_vi (zq_i s_1 (240) (x1)))]) (fun _ _ _ => rfl) ?_
    refine zq_le rfl (hR_5.1 _ _) (of_decide_eq_true rfl) (fun hb_8 => ?_) (fun hb_8 => ?_)
    · rw [if_pos hb_8] at w
      refine zq_run 2 (pc' := 101) (L' := [(.ref (232)), (zq_vi (x1)), (zq_vi (x2)), (zq_vi (10 + x1)), (zq_vi (x_2)), (zq_vi (zq_i s_1 (240) (x1))), zz_no]) (st' := [(zq_vi (47)), (.ref (232))]) (fun _ _ _ => rfl) ?_
      refine zq_call_v (i := .invokevirtual 123) (r := [1, 150, 1, 1, 9]) rfl rfl (fun h hp => zr_avv rfl (hp.obj zq_a232)) (of_decide_eq_false rfl) w (fun s_9 w => ?_)
      refine zq_run 2 (pc' := 107) (L' := [(.ref (232)), (zq_vi (x1)), (zq_vi (x2)), (zq_vi (10 + x1)), (zq_vi (x_2)), (zq_vi (zq_i s_1 (240) (x1))), (zq_vi (0))]) (st' := []) (fun _ _ _ => rfl) ?_
      exact w
    · rw [if_neg hb_8] at w
      refine zq_run 2 (pc' := 95) (L' := [(.ref (232)), (zq_vi (x1)), (zq_vi (x2)), (zq_vi (10 + x1)), (zq_vi (x_2)), (zq_vi (zq_i s_1 (240) (x1))), zz_no]) (st' := [(zq_vi (32)), (.ref (232))]) (fun _ _ _ => rfl) ?_
      refine zq_call_v (i := .invokevirtual 123) (r := [1, 150, 1, 1, 9]) rfl rfl (fun h hp => zr_avv rfl (hp.obj zq_a232)) (of_decide_eq_false rfl) w (fun s_10 w => ?_)
      refine zq_run 2 (pc' := 101) (L' := [(.ref (232)), (zq_vi (x1)), (zq_vi (x2)), (zq_vi (10 + x1)), (zq_vi (x_2)), (zq_vi (zq_i s_1 (240) (x1))), zz_no]) (st' := [(zq_vi (47)), (.ref (232))]) (fun _ _ _ => rfl) ?_
      refine zq_call_v (i := .invokevirtual 123) (r := [1, 150, 1, 1, 9]) rfl rfl (fun h hp => zr_avv rfl (hp.obj zq_a232)) (of_decide_eq_false rfl) w (fun s_11 w => ?_)
      refine zq_run 2 (pc' := 107) (L' := [(.ref (232)), (zq_vi (x1)), (zq_vi (x2)), (zq_vi (10 + x1)), (zq_vi (x_2)), (zq_vi (zq_i s_1 (240) (x1))), (zq_vi (0))]) (st' := []) (fun _ _ _ => rfl) ?_
      exact w
  · rw [if_neg hb_6] at w
    refine zq_run 3 (pc' := 36) (L' := [(.ref (232)), (zq_vi (x1)), (zq_vi (x2)), (zq_vi (10 + x1)), (zq_vi (x_2)), (zq_vi (zq_i s_1 (240) (x1))), zz_no]) (st' := [(zq_vi (x_2)), (zq_vi (10 + x1)), (.ref (232))]) (fun _ _ _ => rfl) ?_
    refine zq_call_i (i := .invokevirtual 202) (r := [1, 159, 2, 1, 9]) rfl rfl (fun h hp => zr_avv rfl (hp.obj zq_a232)) (of_decide_eq_false rfl) w (fun x_13 s_12 hx_14 w => ?_)
    refine zq_run 1 (pc' := 41) (L' := [(.ref (232)), (zq_vi (x1)), (zq_vi (x2)), (zq_vi (10 + x1)), (zq_vi (x_2)), (zq_vi (zq_i s_1 (240) (x1))), zz_no]) (st' := [(zq_vi (8)), (zq_vi (x_13))]) (fun _ _ _ => rfl) ?_
    refine zq_eq rfl hx_14 (of_decide_eq_true rfl) (fun hb_15 => ?_) (fun hb_15 => ?_)
    · rw [if_pos hb_15] at w
      exact zq_vret rfl rfl (⟨rfl, w⟩)
    · rw [if_neg hb_15] at w
      refine zq_run 3 (pc' := 48) (L' := [(.ref (232)), (zq_vi (x1)), (zq_vi (x2)), (zq_vi (10 + x1)), (zq_vi (x_2)), (zq_vi (zq_i s_1 (240) (x1))), zz_no]) (st' := [(zq_vi (x_2)), (zq_vi (10 + x1)), (.ref (232))]) (fun _ _ _ => rfl) ?_
      refine zq_call_i (i := .invokevirtual 221) (r := [1, 178, 2, 1, 9]) rfl rfl (fun h hp => zr_avv rfl (hp.obj zq_a232)) (of_decide_eq_false rfl) w (fun x_17 s_16 hx_18 w => ?_)
      refine zq_run 7 (pc' := 62) (L' := [(.ref (232)), (zq_vi (x1)), (zq_vi (x2)), (zq_vi (10 + x1)), (zq_vi (x_2)), (zq_vi (zq_i s_1 (240) (x1))), (zq_vi (x_17))]) (st' := [(zq_vi (zq_i s_1 (240) (x1))), (zq_vi (x_17)), (zq_vi (x2)), (zq_vi (x_2)), (zq_vi (10 + x1)), (.ref (232))]) (fun _ _ _ => rfl) ?_
      refine zq_call_v (i := .invokevirtual 279) (r := [1, 181, 5, 1, 9]) rfl rfl (fun h hp => zr_avv rfl (hp.obj zq_a232)) (of_decide_eq_false rfl) w (fun s_19 w => ?_)
      refine zq_run 2 (pc' := 67) (L' := [(.ref (232)), (zq_vi (x1)), (zq_vi (x2)), (zq_vi (10 + x1)), (zq_vi (x_2)), (zq_vi (zq_i s_1 (240) (x1))), (zq_vi (x_17))]) (st' := [(zq_vi (x1)), (.ref (232))]) (fun _ _ _ => rfl) ?_
      refine zq_call_v (i := .invokevirtual 269) (r := [1, 170, 1, 1, 9]) rfl rfl (fun h hp => zr_avv rfl (hp.obj zq_a232)) (of_decide_eq_false rfl) w (fun s_20 w => ?_)
      exact zq_vret rfl rfl (⟨rfl, w⟩)
set_option maxRecDepth 100000 in
/-- PaperObjectsModel.setLength at 107 -/
theorem zw_180_107 {X : Nat × (Nat → Int32)} {s : zq_S} {K : zq_S → Prop} {x1 : Int} (hx1 : zq_iv x1) {x2 : Int} (hx2 : zq_iv x2) {x3 : Int} (hx3 : zq_iv x3) {x4 : Int} (hx4 : zq_iv x4) {x5 : Int} (hx5 : zq_iv x5) {x6 : Int} (hx6 : zq_iv x6) (w : (if x6 < 6 then (((0 : Int) ≤ x6 ∧ x6 < (6 : Int)) ∧ (zq_Ex X 150 0 [(.ref (232)), (zq_vi (zq_i s (256) (x6)))] [] s (zq_rv fun s_9 => zq_Ex X 180 107 [(.ref (232)), (zq_vi (x1)), (zq_vi (x2)), (zq_vi (x3)), (zq_vi (x4)), (zq_vi (x5)), (zq_vi (x6 + 1))] [] s_9 (zq_rv K)))) else (zq_Ex X 150 0 [(.ref (232)), (zq_vi (32))] [] s (zq_rv fun s_2 => (zq_Ex X 168 0 [(.ref (232)), (zq_vi (x2)), zz_no, zz_no, zz_no] [] s_2 (zq_rv fun s_3 => (zq_Ex X 150 0 [(.ref (232)), (zq_vi (62))] [] s_3 (zq_rv fun s_4 => (zq_Ex X 150 0 [(.ref (232)), (zq_vi (62))] [] s_4 (zq_rv fun s_5 => (zq_Ex X 170 0 [(.ref (232)), (zq_vi (x1)), zz_no] [] s_5 (zq_rv fun s_6 => K s_6)))))))))))) : zq_Ex X 180 107 [(.ref (232)), (zq_vi (x1)), (zq_vi (x2)), (zq_vi (x3)), (zq_vi (x4)), (zq_vi (x5)), (zq_vi (x6))] [] s (zq_rv K) := by
  refine zq_run 2 (pc' := 111) (L' := [(.ref (232)), (zq_vi (x1)), (zq_vi (x2)), (zq_vi (x3)), (zq_vi (x4)), (zq_vi (x5)), (zq_vi (x6))]) (st' := [(zq_vi (6)), (zq_vi (x6))]) (fun _ _ _ => rfl) ?_
  refine zq_ge rfl hx6 (of_decide_eq_true rfl) (fun hb_1 => ?_) (fun hb_1 => ?_)
  · rw [if_neg hb_1] at w
    refine zq_run 2 (pc' := 134) (L' := [(.ref (232)), (zq_vi (x1)), (zq_vi (x2)), (zq_vi (x3)), (zq_vi (x4)), (zq_vi (x5)), (zq_vi (x6))]) (st' := [(zq_vi (32)), (.ref (232))]) (fun _ _ _ => rfl) ?_
    refine zq_call_v (i := .invokevirtual 123) (r := [1, 150, 1, 1, 9]) rfl rfl (fun h hp => zr_avv rfl (hp.obj zq_a232)) (of_decide_eq_false rfl) w (fun s_2 w => ?_)
    refine zq_run 2 (pc' := 139) (L' := [(.ref (232)), (zq_vi (x1)), (zq_vi (x2)), (zq_vi (x3)), (zq_vi (x4)), (zq_vi (x5)), (zq_vi (x6))]) (st' := [(zq_vi (x2)), (.ref (232))]) (fun _ _ _ => rfl) ?_
    refine zq_call_v (i := .invokevirtual 166) (r := [1, 168, 1, 1, 9]) rfl rfl (fun h hp => zr_avv rfl (hp.obj zq_a232)) (of_decide_eq_false rfl) w (fun s_3 w => ?_)
    refine zq_run 2 (pc' := 145) (L' := [(.ref (232)), (zq_vi (x1)), (zq_vi (x2)), (zq_vi (x3)), (zq_vi (x4)), (zq_vi (x5)), (zq_vi (x6))]) (st' := [(zq_vi (62)), (.ref (232))]) (fun _ _ _ => rfl) ?_
    refine zq_call_v (i := .invokevirtual 123) (r := [1, 150, 1, 1, 9]) rfl rfl (fun h hp => zr_avv rfl (hp.obj zq_a232)) (of_decide_eq_false rfl) w (fun s_4 w => ?_)
    refine zq_run 2 (pc' := 151) (L' := [(.ref (232)), (zq_vi (x1)), (zq_vi (x2)), (zq_vi (x3)), (zq_vi (x4)), (zq_vi (x5)), (zq_vi (x6))]) (st' := [(zq_vi (62)), (.ref (232))]) (fun _ _ _ => rfl) ?_
    refine zq_call_v (i := .invokevirtual 123) (r := [1, 150, 1, 1, 9]) rfl rfl (fun h hp => zr_avv rfl (hp.obj zq_a232)) (of_decide_eq_false rfl) w (fun s_5 w => ?_)
    refine zq_run 2 (pc' := 156) (L' := [(.ref (232)), (zq_vi (x1)), (zq_vi (x2)), (zq_vi (x3)), (zq_vi (x4)), (zq_vi (x5)), (zq_vi (x6))]) (st' := [(zq_vi (x1)), (.ref (232))]) (fun _ _ _ => rfl) ?_
    refine zq_call_v (i := .invokevirtual 269) (r := [1, 170, 1, 1, 9]) rfl rfl (fun h hp => zr_avv rfl (hp.obj zq_a232)) (of_decide_eq_false rfl) w (fun s_6 w => ?_)
    exact zq_vret rfl rfl (⟨rfl, w⟩)
  · rw [if_pos hb_1] at w
    refine zq_run 2 (pc' := 116) (L' := [(.ref (232)), (zq_vi (x1)), (zq_vi (x2)), (zq_vi (x3)), (zq_vi (x4)), (zq_vi (x5)), (zq_vi (x6))]) (st' := [(.ref (232)), (.ref (232))]) (fun _ _ _ => rfl) ?_
    refine zq_getf_f (b := 256) rfl zq_a232 rfl rfl ?_
    refine zq_run 1 (pc' := 121) (L' := [(.ref (232)), (zq_vi (x1)), (zq_vi (x2)), (zq_vi (x3)), (zq_vi (x4)), (zq_vi (x5)), (zq_vi (x6))]) (st' := [(zq_vi (x6)), (.ref (256)), (.ref (232))]) (fun _ _ _ => rfl) ?_
    obtain ⟨g_7, w⟩ := w
    refine zq_have (fun hR_8 => ?_)
    refine zq_ald_c (v := zq_i s (256) (x6)) rfl zq_a256 g_7.1 g_7.2 rfl ?_
    refine zq_call_v (i := .invokevirtual 123) (r := [1, 150, 1, 1, 9]) rfl rfl (fun h hp => zr_avv rfl (hp.obj zq_a232)) (of_decide_eq_false rfl) w (fun s_9 w => ?_)
    refine zq_iinc (L' := [(.ref (232)), (zq_vi (x1)), (zq_vi (x2)), (zq_vi (x3)), (zq_vi (x4)), (zq_vi (x5)), (zq_vi (x6 + 1))]) rfl rfl rfl ?_
    refine zq_run 1 (pc' := 107) (L' := [(.ref (232)), (zq_vi (x1)), (zq_vi (x2)), (zq_vi (x3)), (zq_vi (x4)), (zq_vi (x5)), (zq_vi (x6 + 1))]) (st' := []) (fun _ _ _ => rfl) ?_
    exact w
set_option maxRecDepth 100000 in
/-- PaperObjectsModel.splice(IIIII)V -/
theorem zw_181 {X : Nat × (Nat → Int32)} {s : zq_S} {K : zq_S → Prop} {x1 : Int} (hx1 : zq_iv x1) {x2 : Int} (hx2 : zq_iv x2) {x3 : Int} (hx3 : zq_iv x3) {x4 : Int} (hx4 : zq_iv x4) {x5 : Int} (hx5 : zq_iv x5) (w : (zq_Ex X 157 0 [(.ref (232)), (zq_vi (x1)), (zq_vi (0)), (zq_vi (x2)), zz_no] [] (zq_si s (232) (23) (0)) (zq_rv fun s_1 => (zq_Ex X 168 0 [(.ref (232)), (zq_vi (x3)), zz_no, zz_no, zz_no] [] s_1 (zq_rv fun s_2 => (zq_Ex X 157 0 [(.ref (232)), (zq_vi (x1)), (zq_vi (x4)), (zq_vi (x5)), zz_no] [] s_2 (zq_rv fun s_3 => K s_3))))))) : zq_Ex X 181 0 [(.ref (232)), (zq_vi (x1)), (zq_vi (x2)), (zq_vi (x3)), (zq_vi (x4)), (zq_vi (x5))] [] s (zq_rv K) := by
  refine zq_run 2 (pc' := 2) (L' := [(.ref (232)), (zq_vi (x1)), (zq_vi (x2)), (zq_vi (x3)), (zq_vi (x4)), (zq_vi (x5))]) (st' := [(zq_vi (0)), (.ref (232))]) (fun _ _ _ => rfl) ?_
  refine zq_putf_i (j := 23) rfl zq_a232 rfl rfl rfl (of_decide_eq_true rfl) ?_
  refine zq_run 4 (pc' := 9) (L' := [(.ref (232)), (zq_vi (x1)), (zq_vi (x2)), (zq_vi (x3)), (zq_vi (x4)), (zq_vi (x5))]) (st' := [(zq_vi (x2)), (zq_vi (0)), (zq_vi (x1)), (.ref (232))]) (fun _ _ _ => rfl) ?_
  refine zq_call_v (i := .invokevirtual 174) (r := [1, 157, 3, 1, 9]) rfl rfl (fun h hp => zr_avv rfl (hp.obj zq_a232)) (of_decide_eq_false rfl) w (fun s_1 w => ?_)
  refine zq_run 2 (pc' := 14) (L' := [(.ref (232)), (zq_vi (x1)), (zq_vi (x2)), (zq_vi (x3)), (zq_vi (x4)), (zq_vi (x5))]) (st' := [(zq_vi (x3)), (.ref (232))]) (fun _ _ _ => rfl) ?_
  refine zq_call_v (i := .invokevirtual 166) (r := [1, 168, 1, 1, 9]) rfl rfl (fun h hp => zr_avv rfl (hp.obj zq_a232)) (of_decide_eq_false rfl) w (fun s_2 w => ?_)
  refine zq_run 4 (pc' := 23) (L' := [(.ref (232)), (zq_vi (x1)), (zq_vi (x2)), (zq_vi (x3)), (zq_vi (x4)), (zq_vi (x5))]) (st' := [(zq_vi (x5)), (zq_vi (x4)), (zq_vi (x1)), (.ref (232))]) (fun _ _ _ => rfl) ?_
  refine zq_call_v (i := .invokevirtual 174) (r := [1, 157, 3, 1, 9]) rfl rfl (fun h hp => zr_avv rfl (hp.obj zq_a232)) (of_decide_eq_false rfl) w (fun s_3 w => ?_)
  exact zq_vret rfl rfl (⟨rfl, w⟩)
set_option maxRecDepth 100000 in
/-- PaperObjectsModel.free(I)V -/
theorem zw_182 {X : Nat × (Nat → Int32)} {s : zq_S} {K : zq_S → Prop} {x1 : Int} (hx1 : zq_iv x1) (w : (zq_Ex X 173 0 [(.ref (232)), (zq_vi (x1))] [] s (zq_rp zq_bo fun x_2 s_1 => (if x_2 = 0 then K (zq_si s_1 (232) (0) (1)) else (zq_Ex X 183 0 [(.ref (232)), (zq_vi (x1))] [] (zq_si s_1 (232) (0) (0)) (zq_rv fun s_5 => (zq_Ex X 171 0 [(.ref (232)), (zq_vi (x1))] [] s_5 (zq_rv fun s_6 => K s_6)))))))) : zq_Ex X 182 0 [(.ref (232)), (zq_vi (x1))] [] s (zq_rv K) := by
  refine zq_run 3 (pc' := 3) (L' := [(.ref (232)), (zq_vi (x1))]) (st' := [(zq_vi (x1)), (.ref (232)), (.ref (232))]) (fun _ _ _ => rfl) ?_
  refine zq_call_i (i := .invokevirtual 234) (r := [1, 173, 1, 1, 9]) rfl rfl (fun h hp => zr_avv rfl (hp.obj zq_a232)) (of_decide_eq_false rfl) w (fun x_2 s_1 hx_3 w => ?_)
  refine zq_eq0 rfl (zq_bo_in hx_3) (fun hb_4 => ?_) (fun hb_4 => ?_)
  · rw [if_pos hb_4] at w
    refine zq_run 1 (pc' := 14) (L' := [(.ref (232)), (zq_vi (x1))]) (st' := [(zq_vi (1)), (.ref (232))]) (fun _ _ _ => rfl) ?_
    refine zq_putf_i (j := 0) rfl zq_a232 rfl rfl rfl (of_decide_eq_true rfl) ?_
    refine zq_run 1 (pc' := 18) (L' := [(.ref (232)), (zq_vi (x1))]) (st' := [(.ref (232))]) (fun _ _ _ => rfl) ?_
    refine zq_getf_i (j := 0) (v := 1) rfl zq_a232 rfl rfl rfl ?_
    refine zq_ne0 rfl (of_decide_eq_true rfl) (fun _ => ?_) (fun hb => absurd hb (by decide))
    exact zq_vret rfl rfl (⟨rfl, w⟩)
  · rw [if_neg hb_4] at w
    refine zq_run 2 (pc' := 14) (L' := [(.ref (232)), (zq_vi (x1))]) (st' := [(zq_vi (0)), (.ref (232))]) (fun _ _ _ => rfl) ?_
    refine zq_putf_i (j := 0) rfl zq_a232 rfl rfl rfl (of_decide_eq_true rfl) ?_
    refine zq_run 1 (pc' := 18) (L' := [(.ref (232)), (zq_vi (x1))]) (st' := [(.ref (232))]) (fun _ _ _ => rfl) ?_
    refine zq_getf_i (j := 0) (v := 0) rfl zq_a232 rfl rfl rfl ?_
    refine zq_ne0 rfl (of_decide_eq_true rfl) (fun hb => absurd (by decide) hb) (fun _ => ?_)
    refine zq_run 2 (pc' := 26) (L' := [(.ref (232)), (zq_vi (x1))]) (st' := [(zq_vi (x1)), (.ref (232))]) (fun _ _ _ => rfl) ?_
    refine zq_call_v (i := .invokevirtual 290) (r := [1, 183, 1, 1, 9]) rfl rfl (fun h hp => zr_avv rfl (hp.obj zq_a232)) (of_decide_eq_false rfl) w (fun s_5 w => ?_)
    refine zq_run 2 (pc' := 31) (L' := [(.ref (232)), (zq_vi (x1))]) (st' := [(zq_vi (x1)), (.ref (232))]) (fun _ _ _ => rfl) ?_
    refine zq_call_v (i := .invokevirtual 272) (r := [1, 171, 1, 1, 9]) rfl rfl (fun h hp => zr_avv rfl (hp.obj zq_a232)) (of_decide_eq_false rfl) w (fun s_6 w => ?_)
    exact zq_vret rfl rfl (⟨rfl, w⟩)
set_option maxRecDepth 100000 in
/-- PaperObjectsModel.release(I)V -/
theorem zw_183 {X : Nat × (Nat → Int32)} {s : zq_S} {K : zq_S → Prop} {x1 : Int} (hx1 : zq_iv x1) (w : (((0 : Int) ≤ x1 ∧ x1 < (10 : Int)) ∧ (((0 : Int) ≤ x1 ∧ x1 < (10 : Int)) ∧ (if zq_i s (238) (x1) < 9 then (((0 : Int) ≤ x1 ∧ x1 < (10 : Int)) ∧ (((0 : Int) ≤ x1 ∧ x1 < (10 : Int)) ∧ (zq_iv ((zq_i s (238) (x1)) + 1) ∧ (((0 : Int) ≤ x1 ∧ x1 < (10 : Int)) ∧ (((0 : Int) ≤ x1 ∧ x1 < (10 : Int)) ∧ (((0 : Int) ≤ x1 ∧ x1 < (10 : Int)) ∧ K (zq_si (zq_si (zq_si (zq_si (zq_si s (237) (x1) (0)) (238) (x1) ((zq_i s (238) (x1)) + 1)) (242) (x1) (0)) (243) (x1) (0)) (240) (x1) (0)))))))) else (((0 : Int) ≤ x1 ∧ x1 < (10 : Int)) ∧ (((0 : Int) ≤ x1 ∧ x1 < (10 : Int)) ∧ (((0 : Int) ≤ x1 ∧ x1 < (10 : Int)) ∧ (((0 : Int) ≤ x1 ∧ x1 < (10 : Int)) ∧ K (zq_si (zq_si (zq_si (zq_si (zq_si s (237) (x1) (0)) (238) (x1) (9)) (242) (x1) (0)) (243) (x1) (0)) (240) (x1) (0)))))))))) : zq_Ex X 183 0 [(.ref (232)), (zq_vi (x1))] [] s (zq_rv K) := by
  refine zq_run 1 (pc' := 1) (L' := [(.ref (232)), (zq_vi (x1))]) (st' := [(.ref (232))]) (fun _ _ _ => rfl) ?_
  refine zq_getf_f (b := 237) rfl zq_a232 rfl rfl ?_
  refine zq_run 2 (pc' := 6) (L' := [(.ref (232)), (zq_vi (x1))]) (st' := [(zq_vi (0)), (zq_vi (x1)), (.ref (237))]) (fun _ _ _ => rfl) ?_
  obtain ⟨g_1, w⟩ := w
  refine zq_ast_b rfl zq_a237 g_1.1 g_1.2 (of_decide_eq_true rfl) ?_
  refine zq_run 1 (pc' := 8) (L' := [(.ref (232)), (zq_vi (x1))]) (st' := [(.ref (232))]) (fun _ _ _ => rfl) ?_
  refine zq_getf_f (b := 238) rfl zq_a232 rfl rfl ?_
  refine zq_run 2 (pc' := 13) (L' := [(.ref (232)), (zq_vi (x1))]) (st' := [(.ref (232)), (zq_vi (x1)), (.ref (238))]) (fun _ _ _ => rfl) ?_
  refine zq_getf_f (b := 238) rfl zq_a232 rfl rfl ?_
  refine zq_run 1 (pc' := 17) (L' := [(.ref (232)), (zq_vi (x1))]) (st' := [(zq_vi (x1)), (.ref (238)), (zq_vi (x1)), (.ref (238))]) (fun _ _ _ => rfl) ?_
  obtain ⟨g_2, w⟩ := w
  have e_3 : zq_i (zq_si s (237) (x1) (0)) (238) (x1) = zq_i s (238) (x1) := by simp [zq_i_si, zq_i_sr, zq_i_sl]
  refine zq_have (fun hR_4 => ?_)
  have g_5 : zq_iv (zq_i (zq_si s (237) (x1) (0)) (238) (x1)) := (hR_4.1 _ _)
  rw [e_3] at g_5
  refine zq_ald_i (v := zq_i s (238) (x1)) rfl zq_a238 g_2.1 g_2.2 e_3 ?_
  refine zq_run 1 (pc' := 20) (L' := [(.ref (232)), (zq_vi (x1))]) (st' := [(zq_vi (9)), (zq_vi (zq_i s (238) (x1))), (zq_vi (x1)), (.ref (238))]) (fun _ _ _ => rfl) ?_
  refine zq_ge rfl g_5 (of_decide_eq_true rfl) (fun hb_6 => ?_) (fun hb_6 => ?_)
  · rw [if_neg hb_6] at w
    refine zq_run 1 (pc' := 36) (L' := [(.ref (232)), (zq_vi (x1))]) (st' := [(zq_vi (9)), (zq_vi (x1)), (.ref (238))]) (fun _ _ _ => rfl) ?_
    obtain ⟨g_7, w⟩ := w
    refine zq_ast_i rfl zq_a238 g_7.1 g_7.2 (of_decide_eq_true rfl) ?_
    refine zq_run 1 (pc' := 38) (L' := [(.ref (232)), (zq_vi (x1))]) (st' := [(.ref (232))]) (fun _ _ _ => rfl) ?_
    refine zq_getf_f (b := 242) rfl zq_a232 rfl rfl ?_
    refine zq_run 2 (pc' := 43) (L' := [(.ref (232)), (zq_vi (x1))]) (st' := [(zq_vi (0)), (zq_vi (x1)), (.ref (242))]) (fun _ _ _ => rfl) ?_
    obtain ⟨g_8, w⟩ := w
    refine zq_ast_b rfl zq_a242 g_8.1 g_8.2 (of_decide_eq_true rfl) ?_
    refine zq_run 1 (pc' := 45) (L' := [(.ref (232)), (zq_vi (x1))]) (st' := [(.ref (232))]) (fun _ _ _ => rfl) ?_
    refine zq_getf_f (b := 243) rfl zq_a232 rfl rfl ?_
    refine zq_run 2 (pc' := 50) (L' := [(.ref (232)), (zq_vi (x1))]) (st' := [(zq_vi (0)), (zq_vi (x1)), (.ref (243))]) (fun _ _ _ => rfl) ?_
    obtain ⟨g_9, w⟩ := w
    refine zq_ast_i rfl zq_a243 g_9.1 g_9.2 (of_decide_eq_true rfl) ?_
    refine zq_run 1 (pc' := 52) (L' := [(.ref (232)), (zq_vi (x1))]) (st' := [(.ref (232))]) (fun _ _ _ => rfl) ?_
    refine zq_getf_f (b := 240) rfl zq_a232 rfl rfl ?_
    refine zq_run 2 (pc' := 57) (L' := [(.ref (232)), (zq_vi (x1))]) (st' := [(zq_vi (0)), (zq_vi (x1)), (.ref (240))]) (fun _ _ _ => rfl) ?_
    obtain ⟨g_10, w⟩ := w
    refine zq_ast_i rfl zq_a240 g_10.1 g_10.2 (of_decide_eq_true rfl) ?_
    exact zq_vret rfl rfl (⟨rfl, w⟩)
  · rw [if_pos hb_6] at w
    refine zq_run 1 (pc' := 24) (L' := [(.ref (232)), (zq_vi (x1))]) (st' := [(.ref (232)), (zq_vi (x1)), (.ref (238))]) (fun _ _ _ => rfl) ?_
    refine zq_getf_f (b := 238) rfl zq_a232 rfl rfl ?_
    refine zq_run 1 (pc' := 28) (L' := [(.ref (232)), (zq_vi (x1))]) (st' := [(zq_vi (x1)), (.ref (238)), (zq_vi (x1)), (.ref (238))]) (fun _ _ _ => rfl) ?_
    obtain ⟨g_11, w⟩ := w
    have e_12 : zq_i (zq_si s (237) (x1) (0)) (238) (x1) = zq_i s (238) (x1) := by simp [zq_i_si, zq_i_sr, zq_i_sl]
    have g_13 : zq_iv (zq_i (zq_si s (237) (x1) (0)) (238) (x1)) := (hR_4.1 _ _)
    rw [e_12] at g_13
    refine zq_ald_i (v := zq_i s (238) (x1)) rfl zq_a238 g_11.1 g_11.2 e_12 ?_
    refine zq_run 1 (pc' := 30) (L' := [(.ref (232)), (zq_vi (x1))]) (st' := [(zq_vi (1)), (zq_vi (zq_i s (238) (x1))), (zq_vi (x1)), (.ref (238))]) (fun _ _ _ => rfl) ?_
    refine zq_iadd rfl ?_
    refine zq_run 1 (pc' := 36) (L' := [(.ref (232)), (zq_vi (x1))]) (st' := [(zq_vi ((zq_i s (238) (x1)) + 1)), (zq_vi (x1)), (.ref (238))]) (fun _ _ _ => rfl) ?_
    obtain ⟨g_14, w⟩ := w
    obtain ⟨g_15, w⟩ := w
    refine zq_ast_i rfl zq_a238 g_14.1 g_14.2 g_15 ?_
    refine zq_run 1 (pc' := 38) (L' := [(.ref (232)), (zq_vi (x1))]) (st' := [(.ref (232))]) (fun _ _ _ => rfl) ?_
    refine zq_getf_f (b := 242) rfl zq_a232 rfl rfl ?_
    refine zq_run 2 (pc' := 43) (L' := [(.ref (232)), (zq_vi (x1))]) (st' := [(zq_vi (0)), (zq_vi (x1)), (.ref (242))]) (fun _ _ _ => rfl) ?_
    obtain ⟨g_16, w⟩ := w
    refine zq_ast_b rfl zq_a242 g_16.1 g_16.2 (of_decide_eq_true rfl) ?_
    refine zq_run 1 (pc' := 45) (L' := [(.ref (232)), (zq_vi (x1))]) (st' := [(.ref (232))]) (fun _ _ _ => rfl) ?_
    refine zq_getf_f (b := 243) rfl zq_a232 rfl rfl ?_
    refine zq_run 2 (pc' := 50) (L' := [(.ref (232)), (zq_vi (x1))]) (st' := [(zq_vi (0)), (zq_vi (x1)), (.ref (243))]) (fun _ _ _ => rfl) ?_
    obtain ⟨g_17, w⟩ := w
    refine zq_ast_i rfl zq_a243 g_17.1 g_17.2 (of_decide_eq_true rfl) ?_
    refine zq_run 1 (pc' := 52) (L' := [(.ref (232)), (zq_vi (x1))]) (st' := [(.ref (232))]) (fun _ _ _ => rfl) ?_
    refine zq_getf_f (b := 240) rfl zq_a232 rfl rfl ?_
    refine zq_run 2 (pc' := 57) (L' := [(.ref (232)), (zq_vi (x1))]) (st' := [(zq_vi (0)), (zq_vi (x1)), (.ref (240))]) (fun _ _ _ => rfl) ?_
    obtain ⟨g_18, w⟩ := w
    refine zq_ast_i rfl zq_a240 g_18.1 g_18.2 (of_decide_eq_true rfl) ?_
    exact zq_vret rfl rfl (⟨rfl, w⟩)
set_option maxRecDepth 100000 in
/-- PaperObjectsModel.root(I)V -/
theorem zw_184 {X : Nat × (Nat → Int32)} {s : zq_S} {K : zq_S → Prop} {x1 : Int} (hx1 : zq_iv x1) (w : (zq_Ex X 173 0 [(.ref (232)), (zq_vi (x1))] [] s (zq_rp zq_bo fun x_2 s_1 => (if x_2 = 0 then K (zq_si s_1 (232) (0) (1)) else (((0 : Int) ≤ x1 ∧ x1 < (10 : Int)) ∧ K (zq_si (zq_si (zq_si s_1 (232) (0) (0)) (232) (17) (x1)) (232) (18) (zq_i s_1 (238) (x1)))))))) : zq_Ex X 184 0 [(.ref (232)), (zq_vi (x1))] [] s (zq_rv K) := by
  refine zq_run 3 (pc' := 3) (L' := [(.ref (232)), (zq_vi (x1))]) (st' := [(zq_vi (x1)), (.ref (232)), (.ref (232))]) (fun _ _ _ => rfl) ?_
  refine zq_call_i (i := .invokevirtual 234) (r := [1, 173, 1, 1, 9]) rfl rfl (fun h hp => zr_avv rfl (hp.obj zq_a232)) (of_decide_eq_false rfl) w (fun x_2 s_1 hx_3 w => ?_)
  refine zq_eq0 rfl (zq_bo_in hx_3) (fun hb_4 => ?_) (fun hb_4 => ?_)
  · rw [if_pos hb_4] at w
    refine zq_run 1 (pc' := 14) (L' := [(.ref (232)), (zq_vi (x1))]) (st' := [(zq_vi (1)), (.ref (232))]) (fun _ _ _ => rfl) ?_
    refine zq_putf_i (j := 0) rfl zq_a232 rfl rfl rfl (of_decide_eq_true rfl) ?_
    refine zq_run 1 (pc' := 18) (L' := [(.ref (232)), (zq_vi (x1))]) (st' := [(.ref (232))]) (fun _ _ _ => rfl) ?_
    refine zq_getf_i (j := 0) (v := 1) rfl zq_a232 rfl rfl rfl ?_
    refine zq_ne0 rfl (of_decide_eq_true rfl) (fun _ => ?_) (fun hb => absurd hb (by decide))
    exact zq_vret rfl rfl (⟨rfl, w⟩)
  · rw [if_neg hb_4] at w
    refine zq_run 2 (pc' := 14) (L' := [(.ref (232)), (zq_vi (x1))]) (st' := [(zq_vi (0)), (.ref (232))]) (fun _ _ _ => rfl) ?_
    refine zq_putf_i (j := 0) rfl zq_a232 rfl rfl rfl (of_decide_eq_true rfl) ?_
    refine zq_run 1 (pc' := 18) (L' := [(.ref (232)), (zq_vi (x1))]) (st' := [(.ref (232))]) (fun _ _ _ => rfl) ?_
    refine zq_getf_i (j := 0) (v := 0) rfl zq_a232 rfl rfl rfl ?_
    refine zq_ne0 rfl (of_decide_eq_true rfl) (fun hb => absurd (by decide) hb) (fun _ => ?_)
    refine zq_run 2 (pc' := 26) (L' := [(.ref (232)), (zq_vi (x1))]) (st' := [(zq_vi (x1)), (.ref (232))]) (fun _ _ _ => rfl) ?_
    refine zq_putf_i (j := 17) rfl zq_a232 rfl rfl rfl hx1 ?_
    refine zq_run 2 (pc' := 31) (L' := [(.ref (232)), (zq_vi (x1))]) (st' := [(.ref (232)), (.ref (232))]) (fun _ _ _ => rfl) ?_
    refine zq_getf_f (b := 238) rfl zq_a232 rfl rfl ?_
    refine zq_run 1 (pc' := 35) (L' := [(.ref (232)), (zq_vi (x1))]) (st' := [(zq_vi (x1)), (.ref (238)), (.ref (232))]) (fun _ _ _ => rfl) ?_
    obtain ⟨g_5, w⟩ := w
    have e_6 : zq_i (zq_si (zq_si s_1 (232) (0) (0)) (232) (17) (x1)) (238) (x1) = zq_i s_1 (238) (x1) := by simp [zq_i_si, zq_i_sr, zq_i_sl]
    refine zq_have (fun hR_7 => ?_)
    have g_8 : zq_iv (zq_i (zq_si (zq_si s_1 (232) (0) (0)) (232) (17) (x1)) (238) (x1)) := (hR_7.1 _ _)
    rw [e_6] at g_8
    refine zq_ald_i (v := zq_i s_1 (238) (x1)) rfl zq_a238 g_5.1 g_5.2 e_6 ?_
    refine zq_putf_i (j := 18) rfl zq_a232 rfl rfl rfl g_8 ?_
    exact zq_vret rfl rfl (⟨rfl, w⟩)
set_option maxRecDepth 100000 in
/-- PaperObjectsModel.save(Z)I -/
theorem zw_185 {X : Nat × (Nat → Int32)} {s : zq_S} {K : Int → zq_S → Prop} {x1 : Int} (hx1 : zq_bo x1) (w : (zq_Ex X 186 0 [(.ref (232)), zz_no, zz_no, zz_no] [] s (zq_rp zq_iv fun x_2 s_1 => (if zq_i s_1 (232) (17) = 0 then zq_Ex X 185 16 [(.ref (232)), (zq_vi (x1)), (zq_vi (x_2)), zz_no, zz_no, zz_no, zz_no, zz_no] [] s_1 (zq_rp zq_iv K) else (if x_2 < 0 then zq_Ex X 185 16 [(.ref (232)), (zq_vi (x1)), (zq_vi (x_2)), zz_no, zz_no, zz_no, zz_no, zz_no] [] s_1 (zq_rp zq_iv K) else (if x1 = 0 then (zq_Ex X 191 0 [(.ref (232)), zz_no, zz_no, zz_no, zz_no] [] s_1 (zq_rp zq_iv fun x_9 s_8 => (if x_9 < 0 then zq_Ex X 185 57 [(.ref (232)), (zq_vi (x1)), (zq_vi (x_2)), (zq_vi (1)), (zq_vi (x_9)), (zq_vi (0)), (zq_vi (1)), zz_no] [] s_8 (zq_rp zq_iv K) else zq_Ex X 185 57 [(.ref (232)), (zq_vi (x1)), (zq_vi (x_2)), (zq_vi (0)), (zq_vi (x_9)), (zq_vi (0)), (zq_vi (1)), zz_no] [] s_8 (zq_rp zq_iv K)))) else zq_Ex X 185 57 [(.ref (232)), (zq_vi (x1)), (zq_vi (x_2)), (zq_vi (0)), (zq_vi (0)), (zq_vi (0)), (zq_vi (1)), zz_no] [] s_1 (zq_rp zq_iv K))))))) : zq_Ex X 185 0 [(.ref (232)), (zq_vi (x1)), zz_no, zz_no, zz_no, zz_no, zz_no, zz_no] [] s (zq_rp zq_iv K) := by
  refine zq_run 1 (pc' := 1) (L' := [(.ref (232)), (zq_vi (x1)), zz_no, zz_no, zz_no, zz_no, zz_no, zz_no]) (st' := [(.ref (232))]) (fun _ _ _ => rfl) ?_
  refine zq_call_i (i := .invokevirtual 318) (r := [1, 186, 0, 1, 9]) rfl rfl (fun h hp => zr_avv rfl (hp.obj zq_a232)) (of_decide_eq_false rfl) w (fun x_2 s_1 hx_3 w => ?_)
  refine zq_run 2 (pc' := 6) (L' := [(.ref (232)), (zq_vi (x1)), (zq_vi (x_2)), zz_no, zz_no, zz_no, zz_no, zz_no]) (st' := [(.ref (232))]) (fun _ _ _ => rfl) ?_
  refine zq_have (fun hR_4 => ?_)
  refine zq_getf_i (j := 17) (v := zq_i s_1 (232) (17)) rfl zq_a232 rfl rfl rfl ?_
  refine zq_eq0 rfl (hR_4.1 _ _) (fun hb_5 => ?_) (fun hb_5 => ?_)
  · rw [if_pos hb_5] at w
    exact w
  · rw [if_neg hb_5] at w
    refine zq_run 1 (pc' := 13) (L' := [(.ref (232)), (zq_vi (x1)), (zq_vi (x_2)), zz_no, zz_no, zz_no, zz_no, zz_no]) (st' := [(zq_vi (x_2))]) (fun _ _ _ => rfl) ?_
    refine zq_ge0 rfl hx_3 (fun hb_6 => ?_) (fun hb_6 => ?_)
    · rw [if_neg hb_6] at w
      refine zq_run 3 (pc' := 23) (L' := [(.ref (232)), (zq_vi (x1)), (zq_vi (x_2)), (zq_vi (0)), zz_no, zz_no, zz_no, zz_no]) (st' := [(zq_vi (x1))]) (fun _ _ _ => rfl) ?_
      refine zq_eq0 rfl (zq_bo_in hx1) (fun hb_7 => ?_) (fun hb_7 => ?_)
      · rw [if_pos hb_7] at w
        refine zq_run 1 (pc' := 31) (L' := [(.ref (232)), (zq_vi (x1)), (zq_vi (x_2)), (zq_vi (0)), zz_no, zz_no, zz_no, zz_no]) (st' := [(.ref (232))]) (fun _ _ _ => rfl) ?_
        refine zq_call_i (i := .invokevirtual 322) (r := [1, 191, 0, 1, 9]) rfl rfl (fun h hp => zr_avv rfl (hp.obj zq_a232)) (of_decide_eq_false rfl) w (fun x_9 s_8 hx_10 w => ?_)
        refine zq_run 2 (pc' := 37) (L' := [(.ref (232)), (zq_vi (x1)), (zq_vi (x_2)), (zq_vi (0)), (zq_vi (x_9)), zz_no, zz_no, zz_no]) (st' := [(zq_vi (0))]) (fun _ _ _ => rfl) ?_
        refine zq_ne0 rfl (of_decide_eq_true rfl) (fun hb => absurd (by decide) hb) (fun _ => ?_)
        refine zq_run 1 (pc' := 42) (L' := [(.ref (232)), (zq_vi (x1)), (zq_vi (x_2)), (zq_vi (0)), (zq_vi (x_9)), zz_no, zz_no, zz_no]) (st' := [(zq_vi (x_9))]) (fun _ _ _ => rfl) ?_
        refine zq_ge0 rfl hx_10 (fun hb_11 => ?_) (fun hb_11 => ?_)
        · rw [if_neg hb_11] at w
          refine zq_run 6 (pc' := 57) (L' := [(.ref (232)), (zq_vi (x1)), (zq_vi (x_2)), (zq_vi (0)), (zq_vi (x_9)), (zq_vi (0)), (zq_vi (1)), zz_no]) (st' := []) (fun _ _ _ => rfl) ?_
          exact w
        · rw [if_pos hb_11] at w
          refine zq_run 7 (pc' := 57) (L' := [(.ref (232)), (zq_vi (x1)), (zq_vi (x_2)), (zq_vi (1)), (zq_vi (x_9)), (zq_vi (0)), (zq_vi (1)), zz_no]) (st' := []) (fun _ _ _ => rfl) ?_
          exact w
      · rw [if_neg hb_7] at w
        refine zq_run 4 (pc' := 37) (L' := [(.ref (232)), (zq_vi (x1)), (zq_vi (x_2)), (zq_vi (0)), (zq_vi (0)), zz_no, zz_no, zz_no]) (st' := [(zq_vi (0))]) (fun _ _ _ => rfl) ?_
        refine zq_ne0 rfl (of_decide_eq_true rfl) (fun hb => absurd (by decide) hb) (fun _ => ?_)
        refine zq_run 1 (pc' := 42) (L' := [(.ref (232)), (zq_vi (x1)), (zq_vi (x_2)), (zq_vi (0)), (zq_vi (0)), zz_no, zz_no, zz_no]) (st' := [(zq_vi (0))]) (fun _ _ _ => rfl) ?_
        refine zq_ge0 rfl (of_decide_eq_true rfl) (fun _ => ?_) (fun hb => absurd hb (by decide))
        refine zq_run 6 (pc' := 57) (L' := [(.ref (232)), (zq_vi (x1)), (zq_vi (x_2)), (zq_vi (0)), (zq_vi (0)), (zq_vi (0)), (zq_vi (1)), zz_no]) (st' := []) (fun _ _ _ => rfl) ?_
        exact w
    · rw [if_pos hb_6] at w
      exact w
set_option maxRecDepth 100000 in
/-- PaperObjectsModel.save at 16 -/
theorem zw_185_16 {X : Nat × (Nat → Int32)} {s : zq_S} {K : Int → zq_S → Prop} {x1 : Int} (hx1 : zq_bo x1) {x2 : Int} (hx2 : zq_iv x2) {v3 : Value} (hv3 : v3.category = 1) {v4 : Value} (hv4 : v4.category = 1) {v5 : Value} (hv5 : v5.category = 1) {v6 : Value} (hv6 : v6.category = 1) {v7 : Value} (hv7 : v7.category = 1) (w : (if x1 = 0 then (zq_Ex X 191 0 [(.ref (232)), zz_no, zz_no, zz_no, zz_no] [] s (zq_rp zq_iv fun x_3 s_2 => zq_Ex X 185 57 [(.ref (232)), (zq_vi (x1)), (zq_vi (x2)), (zq_vi (1)), (zq_vi (x_3)), (zq_vi (0)), (zq_vi (1)), v7] [] s_2 (zq_rp zq_iv K))) else zq_Ex X 185 57 [(.ref (232)), (zq_vi (x1)), (zq_vi (x2)), (zq_vi (1)), (zq_vi (0)), (zq_vi (0)), (zq_vi (1)), v7] [] s (zq_rp zq_iv K))) : zq_Ex X 185 16 [(.ref (232)), (zq_vi (x1)), (zq_vi (x2)), v3, v4, v5, v6, v7] [] s (zq_rp zq_iv K) := by
  refine zq_run 4 (pc' := 23) (L' := [(.ref (232)), (zq_vi (x1)), (zq_vi (x2)), (zq_vi (1)), v4, v5, v6, v7]) (st' := [(zq_vi (x1))]) (fun _ _ _ => rfl) ?_
  refine zq_eq0 rfl (zq_bo_in hx1) (fun hb_1 => ?_) (fun hb_1 => ?_)
  · rw [if_pos hb_1] at w
    refine zq_run 1 (pc' := 31) (L' := [(.ref (232)), (zq_vi (x1)), (zq_vi (x2)), (zq_vi (1)), v4, v5, v6, v7]) (st' := [(.ref (232))]) (fun _ _ _ => rfl) ?_
    refine zq_call_i (i := .invokevirtual 322) (r := [1, 191, 0, 1, 9]) rfl rfl (fun h hp => zr_avv rfl (hp.obj zq_a232)) (of_decide_eq_false rfl) w (fun x_3 s_2 hx_4 w => ?_)
    refine zq_run 2 (pc' := 37) (L' := [(.ref (232)), (zq_vi (x1)), (zq_vi (x2)), (zq_vi (1)), (zq_vi (x_3)), v5, v6, v7]) (st' := [(zq_vi (1))]) (fun _ _ _ => rfl) ?_
    refine zq_ne0 rfl (of_decide_eq_true rfl) (fun _ => ?_) (fun hb => absurd hb (by decide))
    refine zq_run 7 (pc' := 57) (L' := [(.ref (232)), (zq_vi (x1)), (zq_vi (x2)), (zq_vi (1)), (zq_vi (x_3)), (zq_vi (0)), (zq_vi (1)), v7]) (st' := []) (fun _ _ _ => rfl) ?_
    exact w
  · rw [if_neg hb_1] at w
    refine zq_run 4 (pc' := 37) (L' := [(.ref (232)), (zq_vi (x1)), (zq_vi (x2)), (zq_vi (1)), (zq_vi (0)), v5, v6, v7]) (st' := [(zq_vi (1))]) (fun _ _ _ => rfl) ?_
    refine zq_ne0 rfl (of_decide_eq_true rfl) (fun _ => ?_) (fun hb => absurd hb (by decide))
    refine zq_run 7 (pc' := 57) (L' := [(.ref (232)), (zq_vi (x1)), (zq_vi (x2)), (zq_vi (1)), (zq_vi (0)), (zq_vi (0)), (zq_vi (1)), v7]) (st' := []) (fun _ _ _ => rfl) ?_
    exact w
set_option maxRecDepth 100000 in
/-- PaperObjectsModel.save at 57 -/
theorem zw_185_57 {X : Nat × (Nat → Int32)} {s : zq_S} {K : Int → zq_S → Prop} {x1 : Int} (hx1 : zq_bo x1) {x2 : Int} (hx2 : zq_iv x2) {x3 : Int} (hx3 : zq_bo x3) {x4 : Int} (hx4 : zq_iv x4) {x5 : Int} (hx5 : zq_bo x5) {x6 : Int} (hx6 : zq_iv x6) {v7 : Value} (hv7 : v7.category = 1) (w : (if x6 ≤ 9 then (if x1 = 0 then (((0 : Int) ≤ x6 ∧ x6 < (10 : Int)) ∧ (((0 : Int) ≤ x6 ∧ x6 < (10 : Int)) ∧ (((0 : Int) ≤ x6 ∧ x6 < (10 : Int)) ∧ (if zq_i s (237) (x6) = 0 then zq_Ex X 185 120 [(.ref (232)), (zq_vi (x1)), (zq_vi (x2)), (zq_vi (x3)), (zq_vi (x4)), (zq_vi (x5)), (zq_vi (x6)), v7] [] (zq_si s (255) (x6) (zq_i s (237) (x6))) (zq_rp zq_iv K) else (if x1 = 0 then (((0 : Int) ≤ x6 ∧ x6 < (10 : Int)) ∧ (if zq_i s (239) (x6) = 0 then zq_Ex X 185 120 [(.ref (232)), (zq_vi (x1)), (zq_vi (x2)), (zq_vi (x3)), (zq_vi (x4)), (zq_vi (x5)), (zq_vi (x6)), v7] [] (zq_si s (255) (x6) (zq_i s (237) (x6))) (zq_rp zq_iv K) else zq_Ex X 185 116 [(.ref (232)), (zq_vi (x1)), (zq_vi (x2)), (zq_vi (x3)), (zq_vi (x4)), (zq_vi (x5)), (zq_vi (x6)), v7] [] (zq_si s (255) (x6) (zq_i s (237) (x6))) (zq_rp zq_iv K))) else zq_Ex X 185 116 [(.ref (232)), (zq_vi (x1)), (zq_vi (x2)), (zq_vi (x3)), (zq_vi (x4)), (zq_vi (x5)), (zq_vi (x6)), v7] [] (zq_si s (255) (x6) (zq_i s (237) (x6))) (zq_rp zq_iv K)))))) else (((0 : Int) ≤ x6 ∧ x6 < (10 : Int)) ∧ (((0 : Int) ≤ x6 ∧ x6 < (10 : Int)) ∧ (((0 : Int) ≤ x6 ∧ x6 < (10 : Int)) ∧ (if zq_i s (255) (x6) = 0 then zq_Ex X 185 120 [(.ref (232)), (zq_vi (x1)), (zq_vi (x2)), (zq_vi (x3)), (zq_vi (x4)), (zq_vi (x5)), (zq_vi (x6)), v7] [] (zq_si s (255) (x6) (zq_i s (255) (x6))) (zq_rp zq_iv K) else (if x1 = 0 then (((0 : Int) ≤ x6 ∧ x6 < (10 : Int)) ∧ (if zq_i s (239) (x6) = 0 then zq_Ex X 185 120 [(.ref (232)), (zq_vi (x1)), (zq_vi (x2)), (zq_vi (x3)), (zq_vi (x4)), (zq_vi (x5)), (zq_vi (x6)), v7] [] (zq_si s (255) (x6) (zq_i s (255) (x6))) (zq_rp zq_iv K) else zq_Ex X 185 116 [(.ref (232)), (zq_vi (x1)), (zq_vi (x2)), (zq_vi (x3)), (zq_vi (x4)), (zq_vi (x5)), (zq_vi (x6)), v7] [] (zq_si s (255) (x6) (zq_i s (255) (x6))) (zq_rp zq_iv K))) else zq_Ex X 185 116 [(.ref (232)), (zq_vi (x1)), (zq_vi (x2)), (zq_vi (x3)), (zq_vi (x4)), (zq_vi (x5)), (zq_vi (x6)), v7] [] (zq_si s (255) (x6) (zq_i s (255) (x6))) (zq_rp zq_iv K))))))) else (if x3 = 0 then (if x5 = 0 then (if x1 = 0 then zq_Ex X 185 234 [(.ref (232)), (zq_vi (x1)), (zq_vi (x2)), (zq_vi (0)), (zq_vi (x4)), (zq_vi (x5)), (zq_vi (0)), v7] [] (zq_si s (232) (7) (0)) (zq_rp zq_iv K) else (zq_Ex X 194 0 [(.ref (232)), (zq_vi (37)), (zq_vi (80)), (zq_vi (65)), (zq_vi (80))] [] (zq_si s (232) (7) (0)) (zq_rv fun s_5 => (zq_Ex X 194 0 [(.ref (232)), (zq_vi (69)), (zq_vi (82)), (zq_vi (10)), (zq_vi (32))] [] s_5 (zq_rv fun s_6 => (zq_iv ((zq_i s_6 (232) (7)) - 1) ∧ zq_Ex X 185 263 [(.ref (232)), (zq_vi (x1)), (zq_vi (x2)), (zq_vi (0)), (zq_vi (x4)), (zq_vi (x5)), (zq_vi (1)), v7] [] (zq_si s_6 (232) (7) ((zq_i s_6 (232) (7)) - 1)) (zq_rp zq_iv K))))))) else K (0) (zq_si s (232) (0) (1))) else K (0) (zq_si s (232) (0) (1))))) : zq_Ex X 185 57 [(.ref (232)), (zq_vi (x1)), (zq_vi (x2)), (zq_vi (x3)), (zq_vi (x4)), (zq_vi (x5)), (zq_vi (x6)), v7] [] s (zq_rp zq_iv K) := by
  refine zq_run 2 (pc' := 61) (L' := [(.ref (232)), (zq_vi (x1)), (zq_vi (x2)), (zq_vi (x3)), (zq_vi (x4)), (zq_vi (x5)), (zq_vi (x6)), v7]) (st' := [(zq_vi (9)), (zq_vi (x6))]) (fun _ _ _ => rfl) ?_
  refine zq_gt rfl hx6 (of_decide_eq_true rfl) (fun hb_1 => ?_) (fun hb_1 => ?_)
  · rw [if_neg hb_1] at w
    refine zq_run 1 (pc' := 160) (L' := [(.ref (232)), (zq_vi (x1)), (zq_vi (x2)), (zq_vi (x3)), (zq_vi (x4)), (zq_vi (x5)), (zq_vi (x6)), v7]) (st' := [(zq_vi (x3))]) (fun _ _ _ => rfl) ?_
    refine zq_ne0 rfl (zq_bo_in hx3) (fun hb_2 => ?_) (fun hb_2 => ?_)
    · rw [if_neg hb_2] at w
      refine zq_run 4 (pc' := 175) (L' := [(.ref (232)), (zq_vi (x1)), (zq_vi (x2)), (zq_vi (1)), (zq_vi (x4)), (zq_vi (x5)), (zq_vi (x6)), v7]) (st' := [(zq_vi (1))]) (fun _ _ _ => rfl) ?_
      refine zq_eq0 rfl (of_decide_eq_true rfl) (fun hb => absurd hb (by decide)) (fun _ => ?_)
      refine zq_run 2 (pc' := 180) (L' := [(.ref (232)), (zq_vi (x1)), (zq_vi (x2)), (zq_vi (1)), (zq_vi (x4)), (zq_vi (x5)), (zq_vi (x6)), v7]) (st' := [(zq_vi (1)), (.ref (232))]) (fun _ _ _ => rfl) ?_
      refine zq_putf_i (j := 0) rfl zq_a232 rfl rfl rfl (of_decide_eq_true rfl) ?_
      refine zq_run 1 (pc' := 184) (L' := [(.ref (232)), (zq_vi (x1)), (zq_vi (x2)), (zq_vi (1)), (zq_vi (x4)), (zq_vi (x5)), (zq_vi (x6)), v7]) (st' := [(zq_vi (0))]) (fun _ _ _ => rfl) ?_
      exact zq_iret rfl rfl rfl (⟨_, rfl, (of_decide_eq_true rfl), w⟩)
    · rw [if_pos hb_2] at w
      refine zq_run 1 (pc' := 165) (L' := [(.ref (232)), (zq_vi (x1)), (zq_vi (x2)), (zq_vi (x3)), (zq_vi (x4)), (zq_vi (x5)), (zq_vi (x6)), v7]) (st' := [(zq_vi (x5))]) (fun _ _ _ => rfl) ?_
      refine zq_eq0 rfl (zq_bo_in hx5) (fun hb_3 => ?_) (fun hb_3 => ?_)
      · rw [if_pos hb_3] at w
        refine zq_run 3 (pc' := 175) (L' := [(.ref (232)), (zq_vi (x1)), (zq_vi (x2)), (zq_vi (0)), (zq_vi (x4)), (zq_vi (x5)), (zq_vi (x6)), v7]) (st' := [(zq_vi (0))]) (fun _ _ _ => rfl) ?_
        refine zq_eq0 rfl (of_decide_eq_true rfl) (fun _ => ?_) (fun hb => absurd (by decide) hb)
        refine zq_run 2 (pc' := 187) (L' := [(.ref (232)), (zq_vi (x1)), (zq_vi (x2)), (zq_vi (0)), (zq_vi (x4)), (zq_vi (x5)), (zq_vi (x6)), v7]) (st' := [(zq_vi (0)), (.ref (232))]) (fun _ _ _ => rfl) ?_
        refine zq_putf_i (j := 7) rfl zq_a232 rfl rfl rfl (of_decide_eq_true rfl) ?_
        refine zq_run 1 (pc' := 191) (L' := [(.ref (232)), (zq_vi (x1)), (zq_vi (x2)), (zq_vi (0)), (zq_vi (x4)), (zq_vi (x5)), (zq_vi (x6)), v7]) (st' := [(zq_vi (x1))]) (fun _ _ _ => rfl) ?_
        refine zq_eq0 rfl (zq_bo_in hx1) (fun hb_4 => ?_) (fun hb_4 => ?_)
        · rw [if_pos hb_4] at w
          refine zq_run 2 (pc' := 234) (L' := [(.ref (232)), (zq_vi (x1)), (zq_vi (x2)), (zq_vi (0)), (zq_vi (x4)), (zq_vi (x5)), (zq_vi (0)), v7]) (st' := []) (fun _ _ _ => rfl) ?_
          exact w
        · rw [if_neg hb_4] at w
          refine zq_run 5 (pc' := 203) (L' := [(.ref (232)), (zq_vi (x1)), (zq_vi (x2)), (zq_vi (0)), (zq_vi (x4)), (zq_vi (x5)), (zq_vi (x6)), v7]) (st' := [(zq_vi (80)), (zq_vi (65)), (zq_vi (80)), (zq_vi (37)), (.ref (232))]) (fun _ _ _ => rfl) ?_
          refine zq_call_v (i := .invokevirtual 302) (r := [1, 194, 4, 1, 9]) rfl rfl (fun h hp => zr_avv rfl (hp.obj zq_a232)) (of_decide_eq_false rfl) w (fun s_5 w => ?_)
          refine zq_run 5 (pc' := 215) (L' := [(.ref (232)), (zq_vi (x1)), (zq_vi (x2)), (zq_vi (0)), (zq_vi (x4)), (zq_vi (x5)), (zq_vi (x6)), v7]) (st' := [(zq_vi (32)), (zq_vi (10)), (zq_vi (82)), (zq_vi (69)), (.ref (232))]) (fun _ _ _ => rfl) ?_
          refine zq_call_v (i := .invokevirtual 302) (r := [1, 194, 4, 1, 9]) rfl rfl (fun h hp => zr_avv rfl (hp.obj zq_a232)) (of_decide_eq_false rfl) w (fun s_6 w => ?_)
          refine zq_run 2 (pc' := 220) (L' := [(.ref (232)), (zq_vi (x1)), (zq_vi (x2)), (zq_vi (0)), (zq_vi (x4)), (zq_vi (x5)), (zq_vi (x6)), v7]) (st' := [(.ref (232)), (.ref (232))]) (fun _ _ _ => rfl) ?_
          refine zq_have (fun hR_7 => ?_)
          refine zq_getf_i (j := 7) (v := zq_i s_6 (232) (7)) rfl zq_a232 rfl rfl rfl ?_
          refine zq_run 1 (pc' := 224) (L' := [(.ref (232)), (zq_vi (x1)), (zq_vi (x2)), (zq_vi (0)), (zq_vi (x4)), (zq_vi (x5)), (zq_vi (x6)), v7]) (st' := [(zq_vi (1)), (zq_vi (zq_i s_6 (232) (7))), (.ref (232))]) (fun _ _ _ => rfl) ?_
          refine zq_isub rfl ?_
          obtain ⟨g_8, w⟩ := w
          refine zq_putf_i (j := 7) rfl zq_a232 rfl rfl rfl g_8 ?_
          refine zq_run 3 (pc' := 263) (L' := [(.ref (232)), (zq_vi (x1)), (zq_vi (x2)), (zq_vi (0)), (zq_vi (x4)), (zq_vi (x5)), (zq_vi (1)), v7]) (st' := []) (fun _ _ _ => rfl) ?_
          exact w
      · rw [if_neg hb_3] at w
        refine zq_run 4 (pc' := 175) (L' := [(.ref (232)), (zq_vi (x1)), (zq_vi (x2)), (zq_vi (1)), (zq_vi (x4)), (zq_vi (x5)), (zq_vi (x6)), v7]) (st' := [(zq_vi (1))]) (fun _ _ _ => rfl) ?_
        refine zq_eq0 rfl (of_decide_eq_true rfl) (fun hb => absurd hb (by decide)) (fun _ => ?_)
        refine zq_run 2 (pc' := 180) (L' := [(.ref (232)), (zq_vi (x1)), (zq_vi (x2)), (zq_vi (1)), (zq_vi (x4)), (zq_vi (x5)), (zq_vi (x6)), v7]) (st' := [(zq_vi (1)), (.ref (232))]) (fun _ _ _ => rfl) ?_
        refine zq_putf_i (j := 0) rfl zq_a232 rfl rfl rfl (of_decide_eq_true rfl) ?_
        refine zq_run 1 (pc' := 184) (L' := [(.ref (232)), (zq_vi (x1)), (zq_vi (x2)), (zq_vi (1)), (zq_vi (x4)), (zq_vi (x5)), (zq_vi (x6)), v7]) (st' := [(zq_vi (0))]) (fun _ _ _ => rfl) ?_
        exact zq_iret rfl rfl rfl (⟨_, rfl, (of_decide_eq_true rfl), w⟩)
  · rw [if_pos hb_1] at w
    refine zq_run 1 (pc' := 65) (L' := [(.ref (232)), (zq_vi (x1)), (zq_vi (x2)), (zq_vi (x3)), (zq_vi (x4)), (zq_vi (x5)), (zq_vi (x6)), v7]) (st' := [(.ref (232))]) (fun _ _ _ => rfl) ?_
    refine zq_getf_f (b := 255) rfl zq_a232 rfl rfl ?_
    refine zq_run 2 (pc' := 71) (L' := [(.ref (232)), (zq_vi (x1)), (zq_vi (x2)), (zq_vi (x3)), (zq_vi (x4)), (zq_vi (x5)), (zq_vi (x6)), v7]) (st' := [(zq_vi (x1)), (zq_vi (x6)), (.ref (255))]) (fun _ _ _ => rfl) ?_
    refine zq_eq0 rfl (zq_bo_in hx1) (fun hb_9 => ?_) (fun hb_9 => ?_)
    · rw [if_pos hb_9] at w
      refine zq_run 1 (pc' := 85) (L' := [(.ref (232)), (zq_vi (x1)), (zq_vi (x2)), (zq_vi (x3)), (zq_vi (x4)), (zq_vi (x5)), (zq_vi (x6)), v7]) (st' := [(.ref (232)), (zq_vi (x6)), (.ref (255))]) (fun _ _ _ => rfl) ?_
      refine zq_getf_f (b := 237) rfl zq_a232 rfl rfl ?_
      refine zq_run 1 (pc' := 90) (L' := [(.ref (232)), (zq_vi (x1)), (zq_vi (x2)), (zq_vi (x3)), (zq_vi (x4)), (zq_vi (x5)), (zq_vi (x6)), v7]) (st' := [(zq_vi (x6)), (.ref (237)), (zq_vi (x6)), (.ref (255))]) (fun _ _ _ => rfl) ?_
      obtain ⟨g_10, w⟩ := w
      refine zq_have (fun hR_11 => ?_)
      refine zq_ald_b (v := zq_i s (237) (x6)) rfl zq_a237 g_10.1 g_10.2 rfl ?_
      obtain ⟨g_12, w⟩ := w
      refine zq_ast_b rfl zq_a255 g_12.1 g_12.2 (hR_11.2.2.1 _ _ _ zq_a237) ?_
      refine zq_run 1 (pc' := 93) (L' := [(.ref (232)), (zq_vi (x1)), (zq_vi (x2)), (zq_vi (x3)), (zq_vi (x4)), (zq_vi (x5)), (zq_vi (x6)), v7]) (st' := [(.ref (232))]) (fun _ _ _ => rfl) ?_
      refine zq_getf_f (b := 255) rfl zq_a232 rfl rfl ?_
      refine zq_run 1 (pc' := 98) (L' := [(.ref (232)), (zq_vi (x1)), (zq_vi (x2)), (zq_vi (x3)), (zq_vi (x4)), (zq_vi (x5)), (zq_vi (x6)), v7]) (st' := [(zq_vi (x6)), (.ref (255))]) (fun _ _ _ => rfl) ?_
      obtain ⟨g_13, w⟩ := w
      refine zq_ald_b (v := zq_i s (237) (x6)) rfl zq_a255 g_13.1 g_13.2 (by simp [zq_i_si, zq_i_sr, zq_i_sl]) ?_
      refine zq_eq0 rfl (zq_bo_in (hR_11.2.2.1 _ _ _ zq_a237)) (fun hb_14 => ?_) (fun hb_14 => ?_)
      · rw [if_pos hb_14] at w
        exact w
      · rw [if_neg hb_14] at w
        refine zq_run 1 (pc' := 103) (L' := [(.ref (232)), (zq_vi (x1)), (zq_vi (x2)), (zq_vi (x3)), (zq_vi (x4)), (zq_vi (x5)), (zq_vi (x6)), v7]) (st' := [(zq_vi (x1))]) (fun _ _ _ => rfl) ?_
        refine zq_ne0 rfl (zq_bo_in hx1) (fun hb_15 => ?_) (fun hb_15 => ?_)
        · rw [if_neg hb_15] at w
          exact w
        · rw [if_pos hb_15] at w
          refine zq_run 1 (pc' := 107) (L' := [(.ref (232)), (zq_vi (x1)), (zq_vi (x2)), (zq_vi (x3)), (zq_vi (x4)), (zq_vi (x5)), (zq_vi (x6)), v7]) (st' := [(.ref (232))]) (fun _ _ _ => rfl) ?_
          refine zq_getf_f (b := 239) rfl zq_a232 rfl rfl ?_
          refine zq_run 1 (pc' := 112) (L' := [(.ref (232)), (zq_vi (x1)), (zq_vi (x2)), (zq_vi (x3)), (zq_vi (x4)), (zq_vi (x5)), (zq_vi (x6)), v7]) (st' := [(zq_vi (x6)), (.ref (239))]) (fun _ _ _ => rfl) ?_
          obtain ⟨g_16, w⟩ := w
          have e_17 : zq_i (zq_si s (255) (x6) (zq_i s (237) (x6))) (239) (x6) = zq_i s (239) (x6) := by simp [zq_i_si, zq_i_sr, zq_i_sl]
          refine zq_ald_b (v := zq_i s (239) (x6)) rfl zq_a239 g_16.1 g_16.2 e_17 ?_
          refine zq_eq0 rfl (zq_bo_in (hR_11.2.2.1 _ _ _ zq_a239)) (fun hb_18 => ?_) (fun hb_18 => ?_)
          · rw [if_pos hb_18] at w
            exact w
          · rw [if_neg hb_18] at w
            exact w
    · rw [if_neg hb_9] at w
      refine zq_run 1 (pc' := 75) (L' := [(.ref (232)), (zq_vi (x1)), (zq_vi (x2)), (zq_vi (x3)), (zq_vi (x4)), (zq_vi (x5)), (zq_vi (x6)), v7]) (st' := [(.ref (232)), (zq_vi (x6)), (.ref (255))]) (fun _ _ _ => rfl) ?_
      refine zq_getf_f (b := 255) rfl zq_a232 rfl rfl ?_
      refine zq_run 1 (pc' := 80) (L' := [(.ref (232)), (zq_vi (x1)), (zq_vi (x2)), (zq_vi (x3)), (zq_vi (x4)), (zq_vi (x5)), (zq_vi (x6)), v7]) (st' := [(zq_vi (x6)), (.ref (255)), (zq_vi (x6)), (.ref (255))]) (fun _ _ _ => rfl) ?_
      obtain ⟨g_19, w⟩ := w
      refine zq_have (fun hR_20 => ?_)
      refine zq_ald_b (v := zq_i s (255) (x6)) rfl zq_a255 g_19.1 g_19.2 rfl ?_
      refine zq_run 1 (pc' := 91) (L' := [(.ref (232)), (zq_vi (x1)), (zq_vi (x2)), (zq_vi (x3)), (zq_vi (x4)), (zq_vi (x5)), (zq_vi (x6)), v7]) (st' := [(zq_vi (zq_i s (255) (x6))), (zq_vi (x6)), (.ref (255))]) (fun _ _ _ => rfl) ?_
      obtain ⟨g_21, w⟩ := w
      refine zq_ast_b rfl zq_a255 g_21.1 g_21.2 (hR_20.2.2.1 _ _ _ zq_a255) ?_
      refine zq_run 1 (pc' := 93) (L' := [(.ref (232)), (zq_vi (x1)), (zq_vi (x2)), (zq_vi (x3)), (zq_vi (x4)), (zq_vi (x5)), (zq_vi (x6)), v7]) (st' := [(.ref (232))]) (fun _ _ _ => rfl) ?_
      refine zq_getf_f (b := 255) rfl zq_a232 rfl rfl ?_
      refine zq_run 1 (pc' := 98) (L' := [(.ref (232)), (zq_vi (x1)), (zq_vi (x2)), (zq_vi (x3)), (zq_vi (x4)), (zq_vi (x5)), (zq_vi (x6)), v7]) (st' := [(zq_vi (x6)), (.ref (255))]) (fun _ _ _ => rfl) ?_
      obtain ⟨g_22, w⟩ := w
      refine zq_ald_b (v := zq_i s (255) (x6)) rfl zq_a255 g_22.1 g_22.2 (by simp [zq_i_si, zq_i_sr, zq_i_sl]) ?_
      refine zq_eq0 rfl (zq_bo_in (hR_20.2.2.1 _ _ _ zq_a255)) (fun hb_23 => ?_) (fun hb_23 => ?_)
      · rw [if_pos hb_23] at w
        exact w
      · rw [if_neg hb_23] at w
        refine zq_run 1 (pc' := 103) (L' := [(.ref (232)), (zq_vi (x1)), (zq_vi (x2)), (zq_vi (x3)), (zq_vi (x4)), (zq_vi (x5)), (zq_vi (x6)), v7]) (st' := [(zq_vi (x1))]) (fun _ _ _ => rfl) ?_
        refine zq_ne0 rfl (zq_bo_in hx1) (fun hb_24 => ?_) (fun hb_24 => ?_)
        · rw [if_neg hb_24] at w
          exact w
        · rw [if_pos hb_24] at w
          refine zq_run 1 (pc' := 107) (L' := [(.ref (232)), (zq_vi (x1)), (zq_vi (x2)), (zq_vi (x3)), (zq_vi (x4)), (zq_vi (x5)), (zq_vi (x6)), v7]) (st' := [(.ref (232))]) (fun _ _ _ => rfl) ?_
          refine zq_getf_f (b := 239) rfl zq_a232 rfl rfl ?_
          refine zq_run 1 (pc' := 112) (L' := [(.ref (232)), (zq_vi (x1)), (zq_vi (x2)), (zq_vi (x3)), (zq_vi (x4)), (zq_vi (x5)), (zq_vi (x6)), v7]) (st' := [(zq_vi (x6)), (.ref (239))]) (fun _ _ _ => rfl) ?_
          obtain ⟨g_25, w⟩ := w
          have e_26 : zq_i (zq_si s (255) (x6) (zq_i s (255) (x6))) (239) (x6) = zq_i s (239) (x6) := by simp [zq_i_si, zq_i_sr, zq_i_sl]
          refine zq_ald_b (v := zq_i s (239) (x6)) rfl zq_a239 g_25.1 g_25.2 e_26 ?_
          refine zq_eq0 rfl (zq_bo_in (hR_20.2.2.1 _ _ _ zq_a239)) (fun hb_27 => ?_) (fun hb_27 => ?_)
          · rw [if_pos hb_27] at w
            exact w
          · rw [if_neg hb_27] at w
            exact w
set_option maxRecDepth 100000 in
/-- PaperObjectsModel.save at 116 -/
theorem zw_185_116 {X : Nat × (Nat → Int32)} {s : zq_S} {K : Int → zq_S → Prop} {x1 : Int} (hx1 : zq_bo x1) {x2 : Int} (hx2 : zq_iv x2) {x3 : Int} (hx3 : zq_bo x3) {x4 : Int} (hx4 : zq_iv x4) {x5 : Int} (hx5 : zq_bo x5) {x6 : Int} (hx6 : zq_iv x6) {v7 : Value} (hv7 : v7.category = 1) (w : (if x3 = 0 then (if x5 = 0 then (zq_Ex X 192 0 [(.ref (232)), (zq_vi (x6)), zz_no, zz_no] [] s (zq_rp zq_bo fun x_4 s_3 => (if x_4 = 0 then zq_Ex X 185 57 [(.ref (232)), (zq_vi (x1)), (zq_vi (x2)), (zq_vi (x3)), (zq_vi (x4)), (zq_vi (0)), (zq_vi (x6 + 1)), (zq_vi (1))] [] s_3 (zq_rp zq_iv K) else zq_Ex X 185 57 [(.ref (232)), (zq_vi (x1)), (zq_vi (x2)), (zq_vi (x3)), (zq_vi (x4)), (zq_vi (1)), (zq_vi (x6 + 1)), (zq_vi (1))] [] s_3 (zq_rp zq_iv K)))) else zq_Ex X 185 57 [(.ref (232)), (zq_vi (x1)), (zq_vi (x2)), (zq_vi (x3)), (zq_vi (x4)), (zq_vi (1)), (zq_vi (x6 + 1)), (zq_vi (1))] [] s (zq_rp zq_iv K)) else zq_Ex X 185 57 [(.ref (232)), (zq_vi (x1)), (zq_vi (x2)), (zq_vi (x3)), (zq_vi (x4)), (zq_vi (0)), (zq_vi (x6 + 1)), (zq_vi (1))] [] s (zq_rp zq_iv K))) : zq_Ex X 185 116 [(.ref (232)), (zq_vi (x1)), (zq_vi (x2)), (zq_vi (x3)), (zq_vi (x4)), (zq_vi (x5)), (zq_vi (x6)), v7] [] s (zq_rp zq_iv K) := by
  refine zq_run 4 (pc' := 124) (L' := [(.ref (232)), (zq_vi (x1)), (zq_vi (x2)), (zq_vi (x3)), (zq_vi (x4)), (zq_vi (x5)), (zq_vi (x6)), (zq_vi (1))]) (st' := [(zq_vi (x3))]) (fun _ _ _ => rfl) ?_
  refine zq_ne0 rfl (zq_bo_in hx3) (fun hb_1 => ?_) (fun hb_1 => ?_)
  · rw [if_neg hb_1] at w
    refine zq_run 2 (pc' := 153) (L' := [(.ref (232)), (zq_vi (x1)), (zq_vi (x2)), (zq_vi (x3)), (zq_vi (x4)), (zq_vi (0)), (zq_vi (x6)), (zq_vi (1))]) (st' := []) (fun _ _ _ => rfl) ?_
    refine zq_iinc (L' := [(.ref (232)), (zq_vi (x1)), (zq_vi (x2)), (zq_vi (x3)), (zq_vi (x4)), (zq_vi (0)), (zq_vi (x6 + 1)), (zq_vi (1))]) rfl rfl rfl ?_
    refine zq_run 1 (pc' := 57) (L' := [(.ref (232)), (zq_vi (x1)), (zq_vi (x2)), (zq_vi (x3)), (zq_vi (x4)), (zq_vi (0)), (zq_vi (x6 + 1)), (zq_vi (1))]) (st' := []) (fun _ _ _ => rfl) ?_
    exact w
  · rw [if_pos hb_1] at w
    refine zq_run 1 (pc' := 129) (L' := [(.ref (232)), (zq_vi (x1)), (zq_vi (x2)), (zq_vi (x3)), (zq_vi (x4)), (zq_vi (x5)), (zq_vi (x6)), (zq_vi (1))]) (st' := [(zq_vi (x5))]) (fun _ _ _ => rfl) ?_
    refine zq_ne0 rfl (zq_bo_in hx5) (fun hb_2 => ?_) (fun hb_2 => ?_)
    · rw [if_neg hb_2] at w
      refine zq_run 3 (pc' := 153) (L' := [(.ref (232)), (zq_vi (x1)), (zq_vi (x2)), (zq_vi (x3)), (zq_vi (x4)), (zq_vi (1)), (zq_vi (x6)), (zq_vi (1))]) (st' := []) (fun _ _ _ => rfl) ?_
      refine zq_iinc (L' := [(.ref (232)), (zq_vi (x1)), (zq_vi (x2)), (zq_vi (x3)), (zq_vi (x4)), (zq_vi (1)), (zq_vi (x6 + 1)), (zq_vi (1))]) rfl rfl rfl ?_
      refine zq_run 1 (pc' := 57) (L' := [(.ref (232)), (zq_vi (x1)), (zq_vi (x2)), (zq_vi (x3)), (zq_vi (x4)), (zq_vi (1)), (zq_vi (x6 + 1)), (zq_vi (1))]) (st' := []) (fun _ _ _ => rfl) ?_
      exact w
    · rw [if_pos hb_2] at w
      refine zq_run 1 (pc' := 134) (L' := [(.ref (232)), (zq_vi (x1)), (zq_vi (x2)), (zq_vi (x3)), (zq_vi (x4)), (zq_vi (x5)), (zq_vi (x6)), (zq_vi (1))]) (st' := [(zq_vi (1))]) (fun _ _ _ => rfl) ?_
      refine zq_eq0 rfl (of_decide_eq_true rfl) (fun hb => absurd hb (by decide)) (fun _ => ?_)
      refine zq_run 2 (pc' := 140) (L' := [(.ref (232)), (zq_vi (x1)), (zq_vi (x2)), (zq_vi (x3)), (zq_vi (x4)), (zq_vi (x5)), (zq_vi (x6)), (zq_vi (1))]) (st' := [(zq_vi (x6)), (.ref (232))]) (fun _ _ _ => rfl) ?_
      refine zq_call_i (i := .invokevirtual 325) (r := [1, 192, 1, 1, 9]) rfl rfl (fun h hp => zr_avv rfl (hp.obj zq_a232)) (of_decide_eq_false rfl) w (fun x_4 s_3 hx_5 w => ?_)
      refine zq_eq0 rfl (zq_bo_in hx_5) (fun hb_6 => ?_) (fun hb_6 => ?_)
      · rw [if_pos hb_6] at w
        refine zq_run 2 (pc' := 153) (L' := [(.ref (232)), (zq_vi (x1)), (zq_vi (x2)), (zq_vi (x3)), (zq_vi (x4)), (zq_vi (0)), (zq_vi (x6)), (zq_vi (1))]) (st' := []) (fun _ _ _ => rfl) ?_
        refine zq_iinc (L' := [(.ref (232)), (zq_vi (x1)), (zq_vi (x2)), (zq_vi (x3)), (zq_vi (x4)), (zq_vi (0)), (zq_vi (x6 + 1)), (zq_vi (1))]) rfl rfl rfl ?_
        refine zq_run 1 (pc' := 57) (L' := [(.ref (232)), (zq_vi (x1)), (zq_vi (x2)), (zq_vi (x3)), (zq_vi (x4)), (zq_vi (0)), (zq_vi (x6 + 1)), (zq_vi (1))]) (st' := []) (fun _ _ _ => rfl) ?_
        exact w
      · rw [if_neg hb_6] at w
        refine zq_run 3 (pc' := 153) (L' := [(.ref (232)), (zq_vi (x1)), (zq_vi (x2)), (zq_vi (x3)), (zq_vi (x4)), (zq_vi (1)), (zq_vi (x6)), (zq_vi (1))]) (st' := []) (fun _ _ _ => rfl) ?_
        refine zq_iinc (L' := [(.ref (232)), (zq_vi (x1)), (zq_vi (x2)), (zq_vi (x3)), (zq_vi (x4)), (zq_vi (1)), (zq_vi (x6 + 1)), (zq_vi (1))]) rfl rfl rfl ?_
        refine zq_run 1 (pc' := 57) (L' := [(.ref (232)), (zq_vi (x1)), (zq_vi (x2)), (zq_vi (x3)), (zq_vi (x4)), (zq_vi (1)), (zq_vi (x6 + 1)), (zq_vi (1))]) (st' := []) (fun _ _ _ => rfl) ?_
        exact w
set_option maxRecDepth 100000 in
/-- PaperObjectsModel.save at 120 -/
theorem zw_185_120 {X : Nat × (Nat → Int32)} {s : zq_S} {K : Int → zq_S → Prop} {x1 : Int} (hx1 : zq_bo x1) {x2 : Int} (hx2 : zq_iv x2) {x3 : Int} (hx3 : zq_bo x3) {x4 : Int} (hx4 : zq_iv x4) {x5 : Int} (hx5 : zq_bo x5) {x6 : Int} (hx6 : zq_iv x6) {v7 : Value} (hv7 : v7.category = 1) (w : (if x3 = 0 then (if x5 = 0 then zq_Ex X 185 57 [(.ref (232)), (zq_vi (x1)), (zq_vi (x2)), (zq_vi (x3)), (zq_vi (x4)), (zq_vi (0)), (zq_vi (x6 + 1)), (zq_vi (0))] [] s (zq_rp zq_iv K) else zq_Ex X 185 57 [(.ref (232)), (zq_vi (x1)), (zq_vi (x2)), (zq_vi (x3)), (zq_vi (x4)), (zq_vi (1)), (zq_vi (x6 + 1)), (zq_vi (0))] [] s (zq_rp zq_iv K)) else zq_Ex X 185 57 [(.ref (232)), (zq_vi (x1)), (zq_vi (x2)), (zq_vi (x3)), (zq_vi (x4)), (zq_vi (0)), (zq_vi (x6 + 1)), (zq_vi (0))] [] s (zq_rp zq_iv K))) : zq_Ex X 185 120 [(.ref (232)), (zq_vi (x1)), (zq_vi (x2)), (zq_vi (x3)), (zq_vi (x4)), (zq_vi (x5)), (zq_vi (x6)), v7] [] s (zq_rp zq_iv K) := by
  refine zq_run 3 (pc' := 124) (L' := [(.ref (232)), (zq_vi (x1)), (zq_vi (x2)), (zq_vi (x3)), (zq_vi (x4)), (zq_vi (x5)), (zq_vi (x6)), (zq_vi (0))]) (st' := [(zq_vi (x3))]) (fun _ _ _ => rfl) ?_
  refine zq_ne0 rfl (zq_bo_in hx3) (fun hb_1 => ?_) (fun hb_1 => ?_)
  · rw [if_neg hb_1] at w
    refine zq_run 2 (pc' := 153) (L' := [(.ref (232)), (zq_vi (x1)), (zq_vi (x2)), (zq_vi (x3)), (zq_vi (x4)), (zq_vi (0)), (zq_vi (x6)), (zq_vi (0))]) (st' := []) (fun _ _ _ => rfl) ?_
    refine zq_iinc (L' := [(.ref (232)), (zq_vi (x1)), (zq_vi (x2)), (zq_vi (x3)), (zq_vi (x4)), (zq_vi (0)), (zq_vi (x6 + 1)), (zq_vi (0))]) rfl rfl rfl ?_
    refine zq_run 1 (pc' := 57) (L' := [(.ref (232)), (zq_vi (x1)), (zq_vi (x2)), (zq_vi (x3)), (zq_vi (x4)), (zq_vi (0)), (zq_vi (x6 + 1)), (zq_vi (0))]) (st' := []) (fun _ _ _ => rfl) ?_
    exact w
  · rw [if_pos hb_1] at w
    refine zq_run 1 (pc' := 129) (L' := [(.ref (232)), (zq_vi (x1)), (zq_vi (x2)), (zq_vi (x3)), (zq_vi (x4)), (zq_vi (x5)), (zq_vi (x6)), (zq_vi (0))]) (st' := [(zq_vi (x5))]) (fun _ _ _ => rfl) ?_
    refine zq_ne0 rfl (zq_bo_in hx5) (fun hb_2 => ?_) (fun hb_2 => ?_)
    · rw [if_neg hb_2] at w
      refine zq_run 3 (pc' := 153) (L' := [(.ref (232)), (zq_vi (x1)), (zq_vi (x2)), (zq_vi (x3)), (zq_vi (x4)), (zq_vi (1)), (zq_vi (x6)), (zq_vi (0))]) (st' := []) (fun _ _ _ => rfl) ?_
      refine zq_iinc (L' := [(.ref (232)), (zq_vi (x1)), (zq_vi (x2)), (zq_vi (x3)), (zq_vi (x4)), (zq_vi (1)), (zq_vi (x6 + 1)), (zq_vi (0))]) rfl rfl rfl ?_
      refine zq_run 1 (pc' := 57) (L' := [(.ref (232)), (zq_vi (x1)), (zq_vi (x2)), (zq_vi (x3)), (zq_vi (x4)), (zq_vi (1)), (zq_vi (x6 + 1)), (zq_vi (0))]) (st' := []) (fun _ _ _ => rfl) ?_
      exact w
    · rw [if_pos hb_2] at w
      refine zq_run 1 (pc' := 134) (L' := [(.ref (232)), (zq_vi (x1)), (zq_vi (x2)), (zq_vi (x3)), (zq_vi (x4)), (zq_vi (x5)), (zq_vi (x6)), (zq_vi (0))]) (st' := [(zq_vi (0))]) (fun _ _ _ => rfl) ?_
      refine zq_eq0 rfl (of_decide_eq_true rfl) (fun _ => ?_) (fun hb => absurd (by decide) hb)
      refine zq_run 2 (pc' := 153) (L' := [(.ref (232)), (zq_vi (x1)), (zq_vi (x2)), (zq_vi (x3)), (zq_vi (x4)), (zq_vi (0)), (zq_vi (x6)), (zq_vi (0))]) (st' := []) (fun _ _ _ => rfl) ?_
      refine zq_iinc (L' := [(.ref (232)), (zq_vi (x1)), (zq_vi (x2)), (zq_vi (x3)), (zq_vi (x4)), (zq_vi (0)), (zq_vi (x6 + 1)), (zq_vi (0))]) rfl rfl rfl ?_
      refine zq_run 1 (pc' := 57) (L' := [(.ref (232)), (zq_vi (x1)), (zq_vi (x2)), (zq_vi (x3)), (zq_vi (x4)), (zq_vi (0)), (zq_vi (x6 + 1)), (zq_vi (0))]) (st' := []) (fun _ _ _ => rfl) ?_
      exact w
set_option maxRecDepth 100000 in
/-- PaperObjectsModel.save at 234 -/
theorem zw_185_234 {X : Nat × (Nat → Int32)} {s : zq_S} {K : Int → zq_S → Prop} {x1 : Int} (hx1 : zq_bo x1) {x2 : Int} (hx2 : zq_iv x2) {x3 : Int} (hx3 : zq_bo x3) {x4 : Int} (hx4 : zq_iv x4) {x5 : Int} (hx5 : zq_bo x5) {x6 : Int} (hx6 : zq_iv x6) {v7 : Value} (hv7 : v7.category = 1) (w : (if x6 < zq_i s (232) (3) then (((0 : Int) ≤ x6 ∧ x6 < (999 : Int)) ∧ (zq_Ex X 195 0 [(.ref (232)), (zq_vi (zq_i s (234) (x6)))] [] s (zq_rv fun s_4 => zq_Ex X 185 234 [(.ref (232)), (zq_vi (x1)), (zq_vi (x2)), (zq_vi (x3)), (zq_vi (x4)), (zq_vi (x5)), (zq_vi (x6 + 1)), v7] [] s_4 (zq_rp zq_iv K)))) else zq_Ex X 185 263 [(.ref (232)), (zq_vi (x1)), (zq_vi (x2)), (zq_vi (x3)), (zq_vi (x4)), (zq_vi (x5)), (zq_vi (1)), v7] [] s (zq_rp zq_iv K))) : zq_Ex X 185 234 [(.ref (232)), (zq_vi (x1)), (zq_vi (x2)), (zq_vi (x3)), (zq_vi (x4)), (zq_vi (x5)), (zq_vi (x6)), v7] [] s (zq_rp zq_iv K) := by
  refine zq_run 2 (pc' := 237) (L' := [(.ref (232)), (zq_vi (x1)), (zq_vi (x2)), (zq_vi (x3)), (zq_vi (x4)), (zq_vi (x5)), (zq_vi (x6)), v7]) (st' := [(.ref (232)), (zq_vi (x6))]) (fun _ _ _ => rfl) ?_
  refine zq_have (fun hR_1 => ?_)
  refine zq_getf_i (j := 3) (v := zq_i s (232) (3)) rfl zq_a232 rfl rfl rfl ?_
  refine zq_ge rfl hx6 (hR_1.1 _ _) (fun hb_2 => ?_) (fun hb_2 => ?_)
  · rw [if_neg hb_2] at w
    refine zq_run 2 (pc' := 263) (L' := [(.ref (232)), (zq_vi (x1)), (zq_vi (x2)), (zq_vi (x3)), (zq_vi (x4)), (zq_vi (x5)), (zq_vi (1)), v7]) (st' := []) (fun _ _ _ => rfl) ?_
    exact w
  · rw [if_pos hb_2] at w
    refine zq_run 2 (pc' := 245) (L' := [(.ref (232)), (zq_vi (x1)), (zq_vi (x2)), (zq_vi (x3)), (zq_vi (x4)), (zq_vi (x5)), (zq_vi (x6)), v7]) (st' := [(.ref (232)), (.ref (232))]) (fun _ _ _ => rfl) ?_
    refine zq_getf_f (b := 234) rfl zq_a232 rfl rfl ?_
    refine zq_run 1 (pc' := 250) (L' := [(.ref (232)), (zq_vi (x1)), (zq_vi (x2)), (zq_vi (x3)), (zq_vi (x4)), (zq_vi (x5)), (zq_vi (x6)), v7]) (st' := [(zq_vi (x6)), (.ref (234)), (.ref (232))]) (fun _ _ _ => rfl) ?_
    obtain ⟨g_3, w⟩ := w
    refine zq_ald_c (v := zq_i s (234) (x6)) rfl zq_a234 g_3.1 g_3.2 rfl ?_
    refine zq_call_v (i := .invokevirtual 296) (r := [1, 195, 1, 1, 9]) rfl rfl (fun h hp => zr_avv rfl (hp.obj zq_a232)) (of_decide_eq_false rfl) w (fun s_4 w => ?_)
    refine zq_iinc (L' := [(.ref (232)), (zq_vi (x1)), (zq_vi (x2)), (zq_vi (x3)), (zq_vi (x4)), (zq_vi (x5)), (zq_vi (x6 + 1)), v7]) rfl rfl rfl ?_
    refine zq_run 1 (pc' := 234) (L' := [(.ref (232)), (zq_vi (x1)), (zq_vi (x2)), (zq_vi (x3)), (zq_vi (x4)), (zq_vi (x5)), (zq_vi (x6 + 1)), v7]) (st' := []) (fun _ _ _ => rfl) ?_
    exact w
set_option maxRecDepth 100000 in
/-- PaperObjectsModel.save at 263 -/
theorem zw_185_263 {X : Nat × (Nat → Int32)} {s : zq_S} {K : Int → zq_S → Prop} {x1 : Int} (hx1 : zq_bo x1) {x2 : Int} (hx2 : zq_iv x2) {x3 : Int} (hx3 : zq_bo x3) {x4 : Int} (hx4 : zq_iv x4) {x5 : Int} (hx5 : zq_bo x5) {x6 : Int} (hx6 : zq_iv x6) {v7 : Value} (hv7 : v7.category = 1) (w : (if x6 ≤ 9 then (((0 : Int) ≤ x6 ∧ x6 < (10 : Int)) ∧ (if zq_i s (255) (x6) = 0 then zq_Ex X 185 263 [(.ref (232)), (zq_vi (x1)), (zq_vi (x2)), (zq_vi (x3)), (zq_vi (x4)), (zq_vi (x5)), (zq_vi (x6 + 1)), v7] [] s (zq_rp zq_iv K) else (if x1 = 0 then (((0 : Int) ≤ x6 ∧ x6 < (10 : Int)) ∧ (if zq_i s (239) (x6) = 0 then zq_Ex X 185 263 [(.ref (232)), (zq_vi (x1)), (zq_vi (x2)), (zq_vi (x3)), (zq_vi (x4)), (zq_vi (x5)), (zq_vi (x6 + 1)), v7] [] s (zq_rp zq_iv K) else zq_Ex X 185 294 [(.ref (232)), (zq_vi (x1)), (zq_vi (x2)), (zq_vi (x3)), (zq_vi (x4)), (zq_vi (x5)), (zq_vi (x6)), v7] [] s (zq_rp zq_iv K))) else zq_Ex X 185 294 [(.ref (232)), (zq_vi (x1)), (zq_vi (x2)), (zq_vi (x3)), (zq_vi (x4)), (zq_vi (x5)), (zq_vi (x6)), v7] [] s (zq_rp zq_iv K)))) else zq_Ex X 185 327 [(.ref (232)), (zq_vi (x1)), (zq_vi (x2)), (zq_vi (x3)), (zq_vi (x4)), (zq_vi (x5)), (zq_vi (1)), v7] [] (zq_si s (254) (0) (0)) (zq_rp zq_iv K))) : zq_Ex X 185 263 [(.ref (232)), (zq_vi (x1)), (zq_vi (x2)), (zq_vi (x3)), (zq_vi (x4)), (zq_vi (x5)), (zq_vi (x6)), v7] [] s (zq_rp zq_iv K) := by
  refine zq_run 2 (pc' := 267) (L' := [(.ref (232)), (zq_vi (x1)), (zq_vi (x2)), (zq_vi (x3)), (zq_vi (x4)), (zq_vi (x5)), (zq_vi (x6)), v7]) (st' := [(zq_vi (9)), (zq_vi (x6))]) (fun _ _ _ => rfl) ?_
  refine zq_gt rfl hx6 (of_decide_eq_true rfl) (fun hb_1 => ?_) (fun hb_1 => ?_)
  · rw [if_neg hb_1] at w
    refine zq_run 1 (pc' := 318) (L' := [(.ref (232)), (zq_vi (x1)), (zq_vi (x2)), (zq_vi (x3)), (zq_vi (x4)), (zq_vi (x5)), (zq_vi (x6)), v7]) (st' := [(.ref (232))]) (fun _ _ _ => rfl) ?_
    refine zq_getf_f (b := 254) rfl zq_a232 rfl rfl ?_
    refine zq_run 2 (pc' := 323) (L' := [(.ref (232)), (zq_vi (x1)), (zq_vi (x2)), (zq_vi (x3)), (zq_vi (x4)), (zq_vi (x5)), (zq_vi (x6)), v7]) (st' := [(zq_vi (0)), (zq_vi (0)), (.ref (254))]) (fun _ _ _ => rfl) ?_
    refine zq_ast_b rfl zq_a254 (of_decide_eq_true rfl) (of_decide_eq_true rfl) (of_decide_eq_true rfl) ?_
    refine zq_run 2 (pc' := 327) (L' := [(.ref (232)), (zq_vi (x1)), (zq_vi (x2)), (zq_vi (x3)), (zq_vi (x4)), (zq_vi (x5)), (zq_vi (1)), v7]) (st' := []) (fun _ _ _ => rfl) ?_
    exact w
  · rw [if_pos hb_1] at w
    refine zq_run 1 (pc' := 271) (L' := [(.ref (232)), (zq_vi (x1)), (zq_vi (x2)), (zq_vi (x3)), (zq_vi (x4)), (zq_vi (x5)), (zq_vi (x6)), v7]) (st' := [(.ref (232))]) (fun _ _ _ => rfl) ?_
    refine zq_getf_f (b := 255) rfl zq_a232 rfl rfl ?_
    refine zq_run 1 (pc' := 276) (L' := [(.ref (232)), (zq_vi (x1)), (zq_vi (x2)), (zq_vi (x3)), (zq_vi (x4)), (zq_vi (x5)), (zq_vi (x6)), v7]) (st' := [(zq_vi (x6)), (.ref (255))]) (fun _ _ _ => rfl) ?_
    obtain ⟨g_2, w⟩ := w
    refine zq_have (fun hR_3 => ?_)
    refine zq_ald_b (v := zq_i s (255) (x6)) rfl zq_a255 g_2.1 g_2.2 rfl ?_
    refine zq_eq0 rfl (zq_bo_in (hR_3.2.2.1 _ _ _ zq_a255)) (fun hb_4 => ?_) (fun hb_4 => ?_)
    · rw [if_pos hb_4] at w
      refine zq_iinc (L' := [(.ref (232)), (zq_vi (x1)), (zq_vi (x2)), (zq_vi (x3)), (zq_vi (x4)), (zq_vi (x5)), (zq_vi (x6 + 1)), v7]) rfl rfl rfl ?_
      refine zq_run 1 (pc' := 263) (L' := [(.ref (232)), (zq_vi (x1)), (zq_vi (x2)), (zq_vi (x3)), (zq_vi (x4)), (zq_vi (x5)), (zq_vi (x6 + 1)), v7]) (st' := []) (fun _ _ _ => rfl) ?_
      exact w
    · rw [if_neg hb_4] at w
      refine zq_run 1 (pc' := 281) (L' := [(.ref (232)), (zq_vi (x1)), (zq_vi (x2)), (zq_vi (x3)), (zq_vi (x4)), (zq_vi (x5)), (zq_vi (x6)), v7]) (st' := [(zq_vi (x1))]) (fun _ _ _ => rfl) ?_
      refine zq_ne0 rfl (zq_bo_in hx1) (fun hb_5 => ?_) (fun hb_5 => ?_)
      · rw [if_neg hb_5] at w
        exact w
      · rw [if_pos hb_5] at w
        refine zq_run 1 (pc' := 285) (L' := [(.ref (232)), (zq_vi (x1)), (zq_vi (x2)), (zq_vi (x3)), (zq_vi (x4)), (zq_vi (x5)), (zq_vi (x6)), v7]) (st' := [(.ref (232))]) (fun _ _ _ => rfl) ?_
        refine zq_getf_f (b := 239) rfl zq_a232 rfl rfl ?_
        refine zq_run 1 (pc' := 290) (L' := [(.ref (232)), (zq_vi (x1)), (zq_vi (x2)), (zq_vi (x3)), (zq_vi (x4)), (zq_vi (x5)), (zq_vi (x6)), v7]) (st' := [(zq_vi (x6)), (.ref (239))]) (fun _ _ _ => rfl) ?_
        obtain ⟨g_6, w⟩ := w
        refine zq_ald_b (v := zq_i s (239) (x6)) rfl zq_a239 g_6.1 g_6.2 rfl ?_
        refine zq_eq0 rfl (zq_bo_in (hR_3.2.2.1 _ _ _ zq_a239)) (fun hb_7 => ?_) (fun hb_7 => ?_)
        · rw [if_pos hb_7] at w
          refine zq_iinc (L' := [(.ref (232)), (zq_vi (x1)), (zq_vi (x2)), (zq_vi (x3)), (zq_vi (x4)), (zq_vi (x5)), (zq_vi (x6 + 1)), v7]) rfl rfl rfl ?_
          refine zq_run 1 (pc' := 263) (L' := [(.ref (232)), (zq_vi (x1)), (zq_vi (x2)), (zq_vi (x3)), (zq_vi (x4)), (zq_vi (x5)), (zq_vi (x6 + 1)), v7]) (st' := []) (fun _ _ _ => rfl) ?_
          exact w
        · rw [if_neg hb_7] at w
          exact w
set_option maxRecDepth 100000 in
/-- PaperObjectsModel.save at 294 -/
theorem zw_185_294 {X : Nat × (Nat → Int32)} {s : zq_S} {K : Int → zq_S → Prop} {x1 : Int} (hx1 : zq_bo x1) {x2 : Int} (hx2 : zq_iv x2) {x3 : Int} (hx3 : zq_bo x3) {x4 : Int} (hx4 : zq_iv x4) {x5 : Int} (hx5 : zq_bo x5) {x6 : Int} (hx6 : zq_iv x6) {v7 : Value} (hv7 : v7.category = 1) (w : (((0 : Int) ≤ x6 ∧ x6 < (10 : Int)) ∧ (zq_Ex X 196 0 [(.ref (232)), (zq_vi (x6)), zz_no] [] (zq_si s (251) (x6) (zq_i s (232) (7))) (zq_rv fun s_3 => zq_Ex X 185 263 [(.ref (232)), (zq_vi (x1)), (zq_vi (x2)), (zq_vi (x3)), (zq_vi (x4)), (zq_vi (x5)), (zq_vi (x6 + 1)), v7] [] s_3 (zq_rp zq_iv K))))) : zq_Ex X 185 294 [(.ref (232)), (zq_vi (x1)), (zq_vi (x2)), (zq_vi (x3)), (zq_vi (x4)), (zq_vi (x5)), (zq_vi (x6)), v7] [] s (zq_rp zq_iv K) := by
  refine zq_run 1 (pc' := 295) (L' := [(.ref (232)), (zq_vi (x1)), (zq_vi (x2)), (zq_vi (x3)), (zq_vi (x4)), (zq_vi (x5)), (zq_vi (x6)), v7]) (st' := [(.ref (232))]) (fun _ _ _ => rfl) ?_
  refine zq_getf_f (b := 251) rfl zq_a232 rfl rfl ?_
  refine zq_run 2 (pc' := 301) (L' := [(.ref (232)), (zq_vi (x1)), (zq_vi (x2)), (zq_vi (x3)), (zq_vi (x4)), (zq_vi (x5)), (zq_vi (x6)), v7]) (st' := [(.ref (232)), (zq_vi (x6)), (.ref (251))]) (fun _ _ _ => rfl) ?_
  refine zq_have (fun hR_1 => ?_)
  refine zq_getf_i (j := 7) (v := zq_i s (232) (7)) rfl zq_a232 rfl rfl rfl ?_
  obtain ⟨g_2, w⟩ := w
  refine zq_ast_i rfl zq_a251 g_2.1 g_2.2 (hR_1.1 _ _) ?_
  refine zq_run 2 (pc' := 308) (L' := [(.ref (232)), (zq_vi (x1)), (zq_vi (x2)), (zq_vi (x3)), (zq_vi (x4)), (zq_vi (x5)), (zq_vi (x6)), v7]) (st' := [(zq_vi (x6)), (.ref (232))]) (fun _ _ _ => rfl) ?_
  refine zq_call_v (i := .invokevirtual 328) (r := [1, 196, 1, 1, 9]) rfl rfl (fun h hp => zr_avv rfl (hp.obj zq_a232)) (of_decide_eq_false rfl) w (fun s_3 w => ?_)
  refine zq_iinc (L' := [(.ref (232)), (zq_vi (x1)), (zq_vi (x2)), (zq_vi (x3)), (zq_vi (x4)), (zq_vi (x5)), (zq_vi (x6 + 1)), v7]) rfl rfl rfl ?_
  refine zq_run 1 (pc' := 263) (L' := [(.ref (232)), (zq_vi (x1)), (zq_vi (x2)), (zq_vi (x3)), (zq_vi (x4)), (zq_vi (x5)), (zq_vi (x6 + 1)), v7]) (st' := []) (fun _ _ _ => rfl) ?_
  exact w
set_option maxRecDepth 100000 in
/-- PaperObjectsModel.save at 327 -/
theorem zw_185_327 {X : Nat × (Nat → Int32)} {s : zq_S} {K : Int → zq_S → Prop} {x1 : Int} (hx1 : zq_bo x1) {x2 : Int} (hx2 : zq_iv x2) {x3 : Int} (hx3 : zq_bo x3) {x4 : Int} (hx4 : zq_iv x4) {x5 : Int} (hx5 : zq_bo x5) {x6 : Int} (hx6 : zq_iv x6) {v7 : Value} (hv7 : v7.category = 1) (w : (if x6 ≤ 9 then (if x1 = 0 then (((0 : Int) ≤ x6 ∧ x6 < (10 : Int)) ∧ (if zq_i s (239) (x6) = 0 then (((0 : Int) ≤ x6 ∧ x6 < (10 : Int)) ∧ zq_Ex X 185 327 [(.ref (232)), (zq_vi (x1)), (zq_vi (x2)), (zq_vi (x3)), (zq_vi (x4)), (zq_vi (x5)), (zq_vi (x6 + 1)), v7] [] (zq_si s (254) (x6) (0)) (zq_rp zq_iv K)) else (((0 : Int) ≤ x6 ∧ x6 < (10 : Int)) ∧ zq_Ex X 185 327 [(.ref (232)), (zq_vi (x1)), (zq_vi (x2)), (zq_vi (x3)), (zq_vi (x4)), (zq_vi (x5)), (zq_vi (x6 + 1)), v7] [] (zq_si s (254) (x6) (1)) (zq_rp zq_iv K)))) else (((0 : Int) ≤ x6 ∧ x6 < (10 : Int)) ∧ zq_Ex X 185 327 [(.ref (232)), (zq_vi (x1)), (zq_vi (x2)), (zq_vi (x3)), (zq_vi (x4)), (zq_vi (x5)), (zq_vi (x6 + 1)), v7] [] (zq_si s (254) (x6) (1)) (zq_rp zq_iv K))) else (if x1 = 0 then (zq_Ex X 197 0 [(.ref (232)), (zq_vi (x4)), zz_no, zz_no, zz_no] [] s (zq_rv fun s_3 => (if zq_i s_3 (232) (7) ≤ 999 then (zq_Ex X 202 0 [(.ref (232)), zz_no] [] (zq_si s_3 (232) (0) (0)) (zq_rv fun s_6 => K (zq_i s_6 (232) (3)) s_6)) else K (0) (zq_si s_3 (232) (0) (2))))) else (zq_Ex X 197 0 [(.ref (232)), (zq_vi ((-1))), zz_no, zz_no, zz_no] [] s (zq_rv fun s_8 => (if zq_i s_8 (232) (7) ≤ 999 then (zq_Ex X 202 0 [(.ref (232)), zz_no] [] (zq_si s_8 (232) (0) (0)) (zq_rv fun s_11 => K (zq_i s_11 (232) (3)) s_11)) else K (0) (zq_si s_8 (232) (0) (2)))))))) : zq_Ex X 185 327 [(.ref (232)), (zq_vi (x1)), (zq_vi (x2)), (zq_vi (x3)), (zq_vi (x4)), (zq_vi (x5)), (zq_vi (x6)), v7] [] s (zq_rp zq_iv K) := by
  refine zq_run 2 (pc' := 331) (L' := [(.ref (232)), (zq_vi (x1)), (zq_vi (x2)), (zq_vi (x3)), (zq_vi (x4)), (zq_vi (x5)), (zq_vi (x6)), v7]) (st' := [(zq_vi (9)), (zq_vi (x6))]) (fun _ _ _ => rfl) ?_
  refine zq_gt rfl hx6 (of_decide_eq_true rfl) (fun hb_1 => ?_) (fun hb_1 => ?_)
  · rw [if_neg hb_1] at w
    refine zq_run 2 (pc' := 368) (L' := [(.ref (232)), (zq_vi (x1)), (zq_vi (x2)), (zq_vi (x3)), (zq_vi (x4)), (zq_vi (x5)), (zq_vi (x6)), v7]) (st' := [(zq_vi (x1)), (.ref (232))]) (fun _ _ _ => rfl) ?_
    refine zq_eq0 rfl (zq_bo_in hx1) (fun hb_2 => ?_) (fun hb_2 => ?_)
    · rw [if_pos hb_2] at w
      refine zq_run 1 (pc' := 377) (L' := [(.ref (232)), (zq_vi (x1)), (zq_vi (x2)), (zq_vi (x3)), (zq_vi (x4)), (zq_vi (x5)), (zq_vi (x6)), v7]) (st' := [(zq_vi (x4)), (.ref (232))]) (fun _ _ _ => rfl) ?_
      refine zq_call_v (i := .invokevirtual 331) (r := [1, 197, 1, 1, 9]) rfl rfl (fun h hp => zr_avv rfl (hp.obj zq_a232)) (of_decide_eq_false rfl) w (fun s_3 w => ?_)
      refine zq_run 2 (pc' := 382) (L' := [(.ref (232)), (zq_vi (x1)), (zq_vi (x2)), (zq_vi (x3)), (zq_vi (x4)), (zq_vi (x5)), (zq_vi (x6)), v7]) (st' := [(.ref (232)), (.ref (232))]) (fun _ _ _ => rfl) ?_
      refine zq_have (fun hR_4 => ?_)
      refine zq_getf_i (j := 7) (v := zq_i s_3 (232) (7)) rfl zq_a232 rfl rfl rfl ?_
      refine zq_run 1 (pc' := 388) (L' := [(.ref (232)), (zq_vi (x1)), (zq_vi (x2)), (zq_vi (x3)), (zq_vi (x4)), (zq_vi (x5)), (zq_vi (x6)), v7]) (st' := [(zq_vi (999)), (zq_vi (zq_i s_3 (232) (7))), (.ref (232))]) (fun _ _ _ => rfl) ?_
      refine zq_le rfl (hR_4.1 _ _) (of_decide_eq_true rfl) (fun hb_5 => ?_) (fun hb_5 => ?_)
      · rw [if_pos hb_5] at w
        refine zq_run 1 (pc' := 396) (L' := [(.ref (232)), (zq_vi (x1)), (zq_vi (x2)), (zq_vi (x3)), (zq_vi (x4)), (zq_vi (x5)), (zq_vi (x6)), v7]) (st' := [(zq_vi (0)), (.ref (232))]) (fun _ _ _ => rfl) ?_
        refine zq_putf_i (j := 0) rfl zq_a232 rfl rfl rfl (of_decide_eq_true rfl) ?_
        refine zq_run 1 (pc' := 400) (L' := [(.ref (232)), (zq_vi (x1)), (zq_vi (x2)), (zq_vi (x3)), (zq_vi (x4)), (zq_vi (x5)), (zq_vi (x6)), v7]) (st' := [(.ref (232))]) (fun _ _ _ => rfl) ?_
        refine zq_getf_i (j := 0) (v := 0) rfl zq_a232 rfl rfl rfl ?_
        refine zq_eq0 rfl (of_decide_eq_true rfl) (fun _ => ?_) (fun hb => absurd (by decide) hb)
        refine zq_run 1 (pc' := 409) (L' := [(.ref (232)), (zq_vi (x1)), (zq_vi (x2)), (zq_vi (x3)), (zq_vi (x4)), (zq_vi (x5)), (zq_vi (x6)), v7]) (st' := [(.ref (232))]) (fun _ _ _ => rfl) ?_
        refine zq_call_v (i := .invokevirtual 334) (r := [1, 202, 0, 1, 9]) rfl rfl (fun h hp => zr_avv rfl (hp.obj zq_a232)) (of_decide_eq_false rfl) w (fun s_6 w => ?_)
        refine zq_run 1 (pc' := 413) (L' := [(.ref (232)), (zq_vi (x1)), (zq_vi (x2)), (zq_vi (x3)), (zq_vi (x4)), (zq_vi (x5)), (zq_vi (x6)), v7]) (st' := [(.ref (232))]) (fun _ _ _ => rfl) ?_
        refine zq_have (fun hR_7 => ?_)
        refine zq_getf_i (j := 3) (v := zq_i s_6 (232) (3)) rfl zq_a232 rfl rfl rfl ?_
        exact zq_iret rfl rfl rfl (⟨_, rfl, (hR_7.1 _ _), w⟩)
      · rw [if_neg hb_5] at w
        refine zq_run 2 (pc' := 396) (L' := [(.ref (232)), (zq_vi (x1)), (zq_vi (x2)), (zq_vi (x3)), (zq_vi (x4)), (zq_vi (x5)), (zq_vi (x6)), v7]) (st' := [(zq_vi (2)), (.ref (232))]) (fun _ _ _ => rfl) ?_
        refine zq_putf_i (j := 0) rfl zq_a232 rfl rfl rfl (of_decide_eq_true rfl) ?_
        refine zq_run 1 (pc' := 400) (L' := [(.ref (232)), (zq_vi (x1)), (zq_vi (x2)), (zq_vi (x3)), (zq_vi (x4)), (zq_vi (x5)), (zq_vi (x6)), v7]) (st' := [(.ref (232))]) (fun _ _ _ => rfl) ?_
        refine zq_getf_i (j := 0) (v := 2) rfl zq_a232 rfl rfl rfl ?_
        refine zq_eq0 rfl (of_decide_eq_true rfl) (fun hb => absurd hb (by decide)) (fun _ => ?_)
        refine zq_run 1 (pc' := 407) (L' := [(.ref (232)), (zq_vi (x1)), (zq_vi (x2)), (zq_vi (x3)), (zq_vi (x4)), (zq_vi (x5)), (zq_vi (x6)), v7]) (st' := [(zq_vi (0))]) (fun _ _ _ => rfl) ?_
        exact zq_iret rfl rfl rfl (⟨_, rfl, (of_decide_eq_true rfl), w⟩)
    · rw [if_neg hb_2] at w
      refine zq_run 2 (pc' := 377) (L' := [(.ref (232)), (zq_vi (x1)), (zq_vi (x2)), (zq_vi (x3)), (zq_vi (x4)), (zq_vi (x5)), (zq_vi (x6)), v7]) (st' := [(zq_vi ((-1))), (.ref (232))]) (fun _ _ _ => rfl) ?_
      refine zq_call_v (i := .invokevirtual 331) (r := [1, 197, 1, 1, 9]) rfl rfl (fun h hp => zr_avv rfl (hp.obj zq_a232)) (of_decide_eq_false rfl) w (fun s_8 w => ?_)
      refine zq_run 2 (pc' := 382) (L' := [(.ref (232)), (zq_vi (x1)), (zq_vi (x2)), (zq_vi (x3)), (zq_vi (x4)), (zq_vi (x5)), (zq_vi (x6)), v7]) (st' := [(.ref (232)), (.ref (232))]) (fun _ _ _ => rfl) ?_
      refine zq_have (fun hR_9 => ?_)
      refine zq_getf_i (j := 7) (v := zq_i s_8 (232) (7)) rfl zq_a232 rfl rfl rfl ?_
      refine zq_run 1 (pc' := 388) (L' := [(.ref (232)), (zq_vi (x1)), (zq_vi (x2)), (zq_vi (x3)), (zq_vi (x4)), (zq_vi (x5)), (zq_vi (x6)), v7]) (st' := [(zq_vi (999)), (zq_vi (zq_i s_8 (232) (7))), (.ref (232))]) (fun _ _ _ => rfl) ?_
      refine zq_le rfl (hR_9.1 _ _) (of_decide_eq_true rfl) (fun hb_10 => ?_) (fun hb_10 => ?_)
      · rw [if_pos hb_10] at w
        refine zq_run 1 (pc' := 396) (L' := [(.ref (232)), (zq_vi (x1)), (zq_vi (x2)), (zq_vi (x3)), (zq_vi (x4)), (zq_vi (x5)), (zq_vi (x6)), v7]) (st' := [(zq_vi (0)), (.ref (232))]) (fun _ _ _ => rfl) ?_
        refine zq_putf_i (j := 0) rfl zq_a232 rfl rfl rfl (of_decide_eq_true rfl) ?_
        refine zq_run 1 (pc' := 400) (L' := [(.ref (232)), (zq_vi (x1)), (zq_vi (x2)), (zq_vi (x3)), (zq_vi (x4)), (zq_vi (x5)), (zq_vi (x6)), v7]) (st' := [(.ref (232))]) (fun _ _ _ => rfl) ?_
        refine zq_getf_i (j := 0) (v := 0) rfl zq_a232 rfl rfl rfl ?_
        refine zq_eq0 rfl (of_decide_eq_true rfl) (fun _ => ?_) (fun hb => absurd (by decide) hb)
        refine zq_run 1 (pc' := 409) (L' := [(.ref (232)), (zq_vi (x1)), (zq_vi (x2)), (zq_vi (x3)), (zq_vi (x4)), (zq_vi (x5)), (zq_vi (x6)), v7]) (st' := [(.ref (232))]) (fun _ _ _ => rfl) ?_
        refine zq_call_v (i := .invokevirtual 334) (r := [1, 202, 0, 1, 9]) rfl rfl (fun h hp => zr_avv rfl (hp.obj zq_a232)) (of_decide_eq_false rfl) w (fun s_11 w => ?_)
        refine zq_run 1 (pc' := 413) (L' := [(.ref (232)), (zq_vi (x1)), (zq_vi (x2)), (zq_vi (x3)), (zq_vi (x4)), (zq_vi (x5)), (zq_vi (x6)), v7]) (st' := [(.ref (232))]) (fun _ _ _ => rfl) ?_
        refine zq_have (fun hR_12 => ?_)
        refine zq_getf_i (j := 3) (v := zq_i s_11 (232) (3)) rfl zq_a232 rfl rfl rfl ?_
        exact zq_iret rfl rfl rfl (⟨_, rfl, (hR_12.1 _ _), w⟩)
      · rw [if_neg hb_10] at w
        refine zq_run 2 (pc' := 396) (L' := [(.ref (232)), (zq_vi (x1)), (zq_vi (x2)), (zq_vi (x3)), (zq_vi (x4)), (zq_vi (x5)), (zq_vi (x6)), v7]) (st' := [(zq_vi (2)), (.ref (232))]) (fun _ _ _ => rfl) ?_
        refine zq_putf_i (j := 0) rfl zq_a232 rfl rfl rfl (of_decide_eq_true rfl) ?_
        refine zq_run 1 (pc' := 400) (L' := [(.ref (232)), (zq_vi (x1)), (zq_vi (x2)), (zq_vi (x3)), (zq_vi (x4)), (zq_vi (x5)), (zq_vi (x6)), v7]) (st' := [(.ref (232))]) (fun _ _ _ => rfl) ?_
        refine zq_getf_i (j := 0) (v := 2) rfl zq_a232 rfl rfl rfl ?_
        refine zq_eq0 rfl (of_decide_eq_true rfl) (fun hb => absurd hb (by decide)) (fun _ => ?_)
        refine zq_run 1 (pc' := 407) (L' := [(.ref (232)), (zq_vi (x1)), (zq_vi (x2)), (zq_vi (x3)), (zq_vi (x4)), (zq_vi (x5)), (zq_vi (x6)), v7]) (st' := [(zq_vi (0))]) (fun _ _ _ => rfl) ?_
        exact zq_iret rfl rfl rfl (⟨_, rfl, (of_decide_eq_true rfl), w⟩)
  · rw [if_pos hb_1] at w
    refine zq_run 1 (pc' := 335) (L' := [(.ref (232)), (zq_vi (x1)), (zq_vi (x2)), (zq_vi (x3)), (zq_vi (x4)), (zq_vi (x5)), (zq_vi (x6)), v7]) (st' := [(.ref (232))]) (fun _ _ _ => rfl) ?_
    refine zq_getf_f (b := 254) rfl zq_a232 rfl rfl ?_
    refine zq_run 2 (pc' := 341) (L' := [(.ref (232)), (zq_vi (x1)), (zq_vi (x2)), (zq_vi (x3)), (zq_vi (x4)), (zq_vi (x5)), (zq_vi (x6)), v7]) (st' := [(zq_vi (x1)), (zq_vi (x6)), (.ref (254))]) (fun _ _ _ => rfl) ?_
    refine zq_ne0 rfl (zq_bo_in hx1) (fun hb_13 => ?_) (fun hb_13 => ?_)
    · rw [if_neg hb_13] at w
      refine zq_run 2 (pc' := 359) (L' := [(.ref (232)), (zq_vi (x1)), (zq_vi (x2)), (zq_vi (x3)), (zq_vi (x4)), (zq_vi (x5)), (zq_vi (x6)), v7]) (st' := [(zq_vi (1)), (zq_vi (x6)), (.ref (254))]) (fun _ _ _ => rfl) ?_
      obtain ⟨g_14, w⟩ := w
      refine zq_ast_b rfl zq_a254 g_14.1 g_14.2 (of_decide_eq_true rfl) ?_
      refine zq_iinc (L' := [(.ref (232)), (zq_vi (x1)), (zq_vi (x2)), (zq_vi (x3)), (zq_vi (x4)), (zq_vi (x5)), (zq_vi (x6 + 1)), v7]) rfl rfl rfl ?_
      refine zq_run 1 (pc' := 327) (L' := [(.ref (232)), (zq_vi (x1)), (zq_vi (x2)), (zq_vi (x3)), (zq_vi (x4)), (zq_vi (x5)), (zq_vi (x6 + 1)), v7]) (st' := []) (fun _ _ _ => rfl) ?_
      exact w
    · rw [if_pos hb_13] at w
      refine zq_run 1 (pc' := 345) (L' := [(.ref (232)), (zq_vi (x1)), (zq_vi (x2)), (zq_vi (x3)), (zq_vi (x4)), (zq_vi (x5)), (zq_vi (x6)), v7]) (st' := [(.ref (232)), (zq_vi (x6)), (.ref (254))]) (fun _ _ _ => rfl) ?_
      refine zq_getf_f (b := 239) rfl zq_a232 rfl rfl ?_
      refine zq_run 1 (pc' := 350) (L' := [(.ref (232)), (zq_vi (x1)), (zq_vi (x2)), (zq_vi (x3)), (zq_vi (x4)), (zq_vi (x5)), (zq_vi (x6)), v7]) (st' := [(zq_vi (x6)), (.ref (239)), (zq_vi (x6)), (.ref (254))]) (fun _ _ _ => rfl) ?_
      obtain ⟨g_15, w⟩ := w
      refine zq_have (fun hR_16 => ?_)
      refine zq_ald_b (v := zq_i s (239) (x6)) rfl zq_a239 g_15.1 g_15.2 rfl ?_
      refine zq_eq0 rfl (zq_bo_in (hR_16.2.2.1 _ _ _ zq_a239)) (fun hb_17 => ?_) (fun hb_17 => ?_)
      · rw [if_pos hb_17] at w
        refine zq_run 1 (pc' := 359) (L' := [(.ref (232)), (zq_vi (x1)), (zq_vi (x2)), (zq_vi (x3)), (zq_vi (x4)), (zq_vi (x5)), (zq_vi (x6)), v7]) (st' := [(zq_vi (0)), (zq_vi (x6)), (.ref (254))]) (fun _ _ _ => rfl) ?_
        obtain ⟨g_18, w⟩ := w
        refine zq_ast_b rfl zq_a254 g_18.1 g_18.2 (of_decide_eq_true rfl) ?_
        refine zq_iinc (L' := [(.ref (232)), (zq_vi (x1)), (zq_vi (x2)), (zq_vi (x3)), (zq_vi (x4)), (zq_vi (x5)), (zq_vi (x6 + 1)), v7]) rfl rfl rfl ?_
        refine zq_run 1 (pc' := 327) (L' := [(.ref (232)), (zq_vi (x1)), (zq_vi (x2)), (zq_vi (x3)), (zq_vi (x4)), (zq_vi (x5)), (zq_vi (x6 + 1)), v7]) (st' := []) (fun _ _ _ => rfl) ?_
        exact w
      · rw [if_neg hb_17] at w
        refine zq_run 2 (pc' := 359) (L' := [(.ref (232)), (zq_vi (x1)), (zq_vi (x2)), (zq_vi (x3)), (zq_vi (x4)), (zq_vi (x5)), (zq_vi (x6)), v7]) (st' := [(zq_vi (1)), (zq_vi (x6)), (.ref (254))]) (fun _ _ _ => rfl) ?_
        obtain ⟨g_19, w⟩ := w
        refine zq_ast_b rfl zq_a254 g_19.1 g_19.2 (of_decide_eq_true rfl) ?_
        refine zq_iinc (L' := [(.ref (232)), (zq_vi (x1)), (zq_vi (x2)), (zq_vi (x3)), (zq_vi (x4)), (zq_vi (x5)), (zq_vi (x6 + 1)), v7]) rfl rfl rfl ?_
        refine zq_run 1 (pc' := 327) (L' := [(.ref (232)), (zq_vi (x1)), (zq_vi (x2)), (zq_vi (x3)), (zq_vi (x4)), (zq_vi (x5)), (zq_vi (x6 + 1)), v7]) (st' := []) (fun _ _ _ => rfl) ?_
        exact w
set_option maxRecDepth 100000 in
/-- PaperObjectsModel.reach()I -/
theorem zw_186 {X : Nat × (Nat → Int32)} {s : zq_S} {K : Int → zq_S → Prop}  (w : zq_Ex X 186 2 [(.ref (232)), (zq_vi (0)), zz_no, zz_no] [] s (zq_rp zq_iv K)) : zq_Ex X 186 0 [(.ref (232)), zz_no, zz_no, zz_no] [] s (zq_rp zq_iv K) := by
  refine zq_run 2 (pc' := 2) (L' := [(.ref (232)), (zq_vi (0)), zz_no, zz_no]) (st' := []) (fun _ _ _ => rfl) ?_
  exact w
set_option maxRecDepth 100000 in
/-- PaperObjectsModel.reach at 2 -/
theorem zw_186_2 {X : Nat × (Nat → Int32)} {s : zq_S} {K : Int → zq_S → Prop} {x1 : Int} (hx1 : zq_iv x1) {v2 : Value} (hv2 : v2.category = 1) {v3 : Value} (hv3 : v3.category = 1) (w : (if x1 < 10 then (((0 : Int) ≤ x1 ∧ x1 < (10 : Int)) ∧ (((0 : Int) ≤ x1 ∧ x1 < (10 : Int)) ∧ zq_Ex X 186 2 [(.ref (232)), (zq_vi (x1 + 1)), v2, v3] [] (zq_si (zq_si s (255) (x1) (0)) (254) (x1) (0)) (zq_rp zq_iv K))) else (if zq_i s (232) (17) ≤ 0 then zq_Ex X 186 62 [(.ref (232)), (zq_vi (1)), v2, v3] [] s (zq_rp zq_iv K) else (zq_Ex X 187 0 [(.ref (232)), (zq_vi (zq_i s (232) (17))), (zq_vi (zq_i s (232) (18)))] [] s (zq_rp zq_bo fun x_5 s_4 => (if x_5 = 0 then zq_Ex X 186 62 [(.ref (232)), (zq_vi (1)), v2, v3] [] s_4 (zq_rp zq_iv K) else (((0 : Int) ≤ zq_i s_4 (232) (17) ∧ zq_i s_4 (232) (17) < (10 : Int)) ∧ zq_Ex X 186 62 [(.ref (232)), (zq_vi (1)), v2, v3] [] (zq_si s_4 (255) (zq_i s_4 (232) (17)) (1)) (zq_rp zq_iv K)))))))) : zq_Ex X 186 2 [(.ref (232)), (zq_vi (x1)), v2, v3] [] s (zq_rp zq_iv K) := by
  refine zq_run 2 (pc' := 5) (L' := [(.ref (232)), (zq_vi (x1)), v2, v3]) (st' := [(zq_vi (10)), (zq_vi (x1))]) (fun _ _ _ => rfl) ?_
  refine zq_ge rfl hx1 (of_decide_eq_true rfl) (fun hb_1 => ?_) (fun hb_1 => ?_)
  · rw [if_neg hb_1] at w
    refine zq_run 1 (pc' := 29) (L' := [(.ref (232)), (zq_vi (x1)), v2, v3]) (st' := [(.ref (232))]) (fun _ _ _ => rfl) ?_
    refine zq_have (fun hR_2 => ?_)
    refine zq_getf_i (j := 17) (v := zq_i s (232) (17)) rfl zq_a232 rfl rfl rfl ?_
    refine zq_le0 rfl (hR_2.1 _ _) (fun hb_3 => ?_) (fun hb_3 => ?_)
    · rw [if_pos hb_3] at w
      refine zq_run 2 (pc' := 62) (L' := [(.ref (232)), (zq_vi (1)), v2, v3]) (st' := []) (fun _ _ _ => rfl) ?_
      exact w
    · rw [if_neg hb_3] at w
      refine zq_run 2 (pc' := 37) (L' := [(.ref (232)), (zq_vi (x1)), v2, v3]) (st' := [(.ref (232)), (.ref (232))]) (fun _ _ _ => rfl) ?_
      refine zq_getf_i (j := 17) (v := zq_i s (232) (17)) rfl zq_a232 rfl rfl rfl ?_
      refine zq_run 1 (pc' := 41) (L' := [(.ref (232)), (zq_vi (x1)), v2, v3]) (st' := [(.ref (232)), (zq_vi (zq_i s (232) (17))), (.ref (232))]) (fun _ _ _ => rfl) ?_
      refine zq_getf_i (j := 18) (v := zq_i s (232) (18)) rfl zq_a232 rfl rfl rfl ?_
      refine zq_call_i (i := .invokevirtual 249) (r := [1, 187, 2, 1, 9]) rfl rfl (fun h hp => zr_avv rfl (hp.obj zq_a232)) (of_decide_eq_false rfl) w (fun x_5 s_4 hx_6 w => ?_)
      refine zq_eq0 rfl (zq_bo_in hx_6) (fun hb_7 => ?_) (fun hb_7 => ?_)
      · rw [if_pos hb_7] at w
        refine zq_run 2 (pc' := 62) (L' := [(.ref (232)), (zq_vi (1)), v2, v3]) (st' := []) (fun _ _ _ => rfl) ?_
        exact w
      · rw [if_neg hb_7] at w
        refine zq_run 1 (pc' := 51) (L' := [(.ref (232)), (zq_vi (x1)), v2, v3]) (st' := [(.ref (232))]) (fun _ _ _ => rfl) ?_
        refine zq_getf_f (b := 255) rfl zq_a232 rfl rfl ?_
        refine zq_run 1 (pc' := 55) (L' := [(.ref (232)), (zq_vi (x1)), v2, v3]) (st' := [(.ref (232)), (.ref (255))]) (fun _ _ _ => rfl) ?_
        refine zq_have (fun hR_8 => ?_)
        refine zq_getf_i (j := 17) (v := zq_i s_4 (232) (17)) rfl zq_a232 rfl rfl rfl ?_
        refine zq_run 1 (pc' := 59) (L' := [(.ref (232)), (zq_vi (x1)), v2, v3]) (st' := [(zq_vi (1)), (zq_vi (zq_i s_4 (232) (17))), (.ref (255))]) (fun _ _ _ => rfl) ?_
        obtain ⟨g_9, w⟩ := w
        refine zq_ast_b rfl zq_a255 g_9.1 g_9.2 (of_decide_eq_true rfl) ?_
        refine zq_run 2 (pc' := 62) (L' := [(.ref (232)), (zq_vi (1)), v2, v3]) (st' := []) (fun _ _ _ => rfl) ?_
        exact w
  · rw [if_pos hb_1] at w
    refine zq_run 1 (pc' := 9) (L' := [(.ref (232)), (zq_vi (x1)), v2, v3]) (st' := [(.ref (232))]) (fun _ _ _ => rfl) ?_
    refine zq_getf_f (b := 255) rfl zq_a232 rfl rfl ?_
    refine zq_run 2 (pc' := 14) (L' := [(.ref (232)), (zq_vi (x1)), v2, v3]) (st' := [(zq_vi (0)), (zq_vi (x1)), (.ref (255))]) (fun _ _ _ => rfl) ?_
    obtain ⟨g_10, w⟩ := w
    refine zq_ast_b rfl zq_a255 g_10.1 g_10.2 (of_decide_eq_true rfl) ?_
    refine zq_run 1 (pc' := 16) (L' := [(.ref (232)), (zq_vi (x1)), v2, v3]) (st' := [(.ref (232))]) (fun _ _ _ => rfl) ?_
    refine zq_getf_f (b := 254) rfl zq_a232 rfl rfl ?_
    refine zq_run 2 (pc' := 21) (L' := [(.ref (232)), (zq_vi (x1)), v2, v3]) (st' := [(zq_vi (0)), (zq_vi (x1)), (.ref (254))]) (fun _ _ _ => rfl) ?_
    obtain ⟨g_11, w⟩ := w
    refine zq_ast_b rfl zq_a254 g_11.1 g_11.2 (of_decide_eq_true rfl) ?_
    refine zq_iinc (L' := [(.ref (232)), (zq_vi (x1 + 1)), v2, v3]) rfl rfl rfl ?_
    refine zq_run 1 (pc' := 2) (L' := [(.ref (232)), (zq_vi (x1 + 1)), v2, v3]) (st' := []) (fun _ _ _ => rfl) ?_
    exact w
set_option maxRecDepth 100000 in
/-- PaperObjectsModel.reach at 62 -/
theorem zw_186_62 {X : Nat × (Nat → Int32)} {s : zq_S} {K : Int → zq_S → Prop} {x1 : Int} (hx1 : zq_bo x1) {v2 : Value} (hv2 : v2.category = 1) {v3 : Value} (hv3 : v3.category = 1) (w : (if x1 = 0 then zq_Ex X 186 121 [(.ref (232)), (zq_vi (x1)), (zq_vi (0)), (zq_vi (1))] [] s (zq_rp zq_iv K) else zq_Ex X 186 70 [(.ref (232)), (zq_vi (0)), (zq_vi (1)), v3] [] s (zq_rp zq_iv K))) : zq_Ex X 186 62 [(.ref (232)), (zq_vi (x1)), v2, v3] [] s (zq_rp zq_iv K) := by
  refine zq_run 1 (pc' := 63) (L' := [(.ref (232)), (zq_vi (x1)), v2, v3]) (st' := [(zq_vi (x1))]) (fun _ _ _ => rfl) ?_
  refine zq_eq0 rfl (zq_bo_in hx1) (fun hb_1 => ?_) (fun hb_1 => ?_)
  · rw [if_pos hb_1] at w
    refine zq_run 4 (pc' := 121) (L' := [(.ref (232)), (zq_vi (x1)), (zq_vi (0)), (zq_vi (1))]) (st' := []) (fun _ _ _ => rfl) ?_
    exact w
  · rw [if_neg hb_1] at w
    refine zq_run 4 (pc' := 70) (L' := [(.ref (232)), (zq_vi (0)), (zq_vi (1)), v3]) (st' := []) (fun _ _ _ => rfl) ?_
    exact w
set_option maxRecDepth 100000 in
/-- PaperObjectsModel.reach at 70 -/
theorem zw_186_70 {X : Nat × (Nat → Int32)} {s : zq_S} {K : Int → zq_S → Prop} {x1 : Int} (hx1 : zq_bo x1) {x2 : Int} (hx2 : zq_iv x2) {v3 : Value} (hv3 : v3.category = 1) (w : (if x2 < 10 then (((0 : Int) ≤ x2 ∧ x2 < (10 : Int)) ∧ (if zq_i s (255) (x2) = 0 then zq_Ex X 186 70 [(.ref (232)), (zq_vi (x1)), (zq_vi (x2 + 1)), v3] [] s (zq_rp zq_iv K) else (((0 : Int) ≤ x2 ∧ x2 < (10 : Int)) ∧ (if zq_i s (254) (x2) = 0 then (((0 : Int) ≤ x2 ∧ x2 < (10 : Int)) ∧ (zq_Ex X 188 0 [(.ref (232)), (zq_vi (x2)), zz_no, zz_no, zz_no, zz_no] [] (zq_si s (254) (x2) (1)) (zq_rv fun s_8 => zq_Ex X 186 70 [(.ref (232)), (zq_vi (1)), (zq_vi (x2 + 1)), v3] [] s_8 (zq_rp zq_iv K)))) else zq_Ex X 186 70 [(.ref (232)), (zq_vi (x1)), (zq_vi (x2 + 1)), v3] [] s (zq_rp zq_iv K))))) else zq_Ex X 186 62 [(.ref (232)), (zq_vi (x1)), (zq_vi (x2)), v3] [] s (zq_rp zq_iv K))) : zq_Ex X 186 70 [(.ref (232)), (zq_vi (x1)), (zq_vi (x2)), v3] [] s (zq_rp zq_iv K) := by
  refine zq_run 2 (pc' := 73) (L' := [(.ref (232)), (zq_vi (x1)), (zq_vi (x2)), v3]) (st' := [(zq_vi (10)), (zq_vi (x2))]) (fun _ _ _ => rfl) ?_
  refine zq_ge rfl hx2 (of_decide_eq_true rfl) (fun hb_1 => ?_) (fun hb_1 => ?_)
  · rw [if_neg hb_1] at w
    refine zq_run 1 (pc' := 62) (L' := [(.ref (232)), (zq_vi (x1)), (zq_vi (x2)), v3]) (st' := []) (fun _ _ _ => rfl) ?_
    exact w
  · rw [if_pos hb_1] at w
    refine zq_run 1 (pc' := 77) (L' := [(.ref (232)), (zq_vi (x1)), (zq_vi (x2)), v3]) (st' := [(.ref (232))]) (fun _ _ _ => rfl) ?_
    refine zq_getf_f (b := 255) rfl zq_a232 rfl rfl ?_
    refine zq_run 1 (pc' := 81) (L' := [(.ref (232)), (zq_vi (x1)), (zq_vi (x2)), v3]) (st' := [(zq_vi (x2)), (.ref (255))]) (fun _ _ _ => rfl) ?_
    obtain ⟨g_2, w⟩ := w
    refine zq_have (fun hR_3 => ?_)
    refine zq_ald_b (v := zq_i s (255) (x2)) rfl zq_a255 g_2.1 g_2.2 rfl ?_
    refine zq_eq0 rfl (zq_bo_in (hR_3.2.2.1 _ _ _ zq_a255)) (fun hb_4 => ?_) (fun hb_4 => ?_)
    · rw [if_pos hb_4] at w
      refine zq_iinc (L' := [(.ref (232)), (zq_vi (x1)), (zq_vi (x2 + 1)), v3]) rfl rfl rfl ?_
      refine zq_run 1 (pc' := 70) (L' := [(.ref (232)), (zq_vi (x1)), (zq_vi (x2 + 1)), v3]) (st' := []) (fun _ _ _ => rfl) ?_
      exact w
    · rw [if_neg hb_4] at w
      refine zq_run 1 (pc' := 86) (L' := [(.ref (232)), (zq_vi (x1)), (zq_vi (x2)), v3]) (st' := [(.ref (232))]) (fun _ _ _ => rfl) ?_
      refine zq_getf_f (b := 254) rfl zq_a232 rfl rfl ?_
      refine zq_run 1 (pc' := 90) (L' := [(.ref (232)), (zq_vi (x1)), (zq_vi (x2)), v3]) (st' := [(zq_vi (x2)), (.ref (254))]) (fun _ _ _ => rfl) ?_
      obtain ⟨g_5, w⟩ := w
      refine zq_ald_b (v := zq_i s (254) (x2)) rfl zq_a254 g_5.1 g_5.2 rfl ?_
      refine zq_ne0 rfl (zq_bo_in (hR_3.2.2.1 _ _ _ zq_a254)) (fun hb_6 => ?_) (fun hb_6 => ?_)
      · rw [if_neg hb_6] at w
        refine zq_iinc (L' := [(.ref (232)), (zq_vi (x1)), (zq_vi (x2 + 1)), v3]) rfl rfl rfl ?_
        refine zq_run 1 (pc' := 70) (L' := [(.ref (232)), (zq_vi (x1)), (zq_vi (x2 + 1)), v3]) (st' := []) (fun _ _ _ => rfl) ?_
        exact w
      · rw [if_pos hb_6] at w
        refine zq_run 1 (pc' := 95) (L' := [(.ref (232)), (zq_vi (x1)), (zq_vi (x2)), v3]) (st' := [(.ref (232))]) (fun _ _ _ => rfl) ?_
        refine zq_getf_f (b := 254) rfl zq_a232 rfl rfl ?_
        refine zq_run 2 (pc' := 100) (L' := [(.ref (232)), (zq_vi (x1)), (zq_vi (x2)), v3]) (st' := [(zq_vi (1)), (zq_vi (x2)), (.ref (254))]) (fun _ _ _ => rfl) ?_
        obtain ⟨g_7, w⟩ := w
        refine zq_ast_b rfl zq_a254 g_7.1 g_7.2 (of_decide_eq_true rfl) ?_
        refine zq_run 4 (pc' := 105) (L' := [(.ref (232)), (zq_vi (1)), (zq_vi (x2)), v3]) (st' := [(zq_vi (x2)), (.ref (232))]) (fun _ _ _ => rfl) ?_
        refine zq_call_v (i := .invokevirtual 258) (r := [1, 188, 1, 1, 9]) rfl rfl (fun h hp => zr_avv rfl (hp.obj zq_a232)) (of_decide_eq_false rfl) w (fun s_8 w => ?_)
        refine zq_iinc (L' := [(.ref (232)), (zq_vi (1)), (zq_vi (x2 + 1)), v3]) rfl rfl rfl ?_
        refine zq_run 1 (pc' := 70) (L' := [(.ref (232)), (zq_vi (1)), (zq_vi (x2 + 1)), v3]) (st' := []) (fun _ _ _ => rfl) ?_
        exact w
set_option maxRecDepth 100000 in
/-- PaperObjectsModel.reach at 121 -/
theorem zw_186_121 {X : Nat × (Nat → Int32)} {s : zq_S} {K : Int → zq_S → Prop} {x1 : Int} (hx1 : zq_bo x1) {x2 : Int} (hx2 : zq_iv x2) {x3 : Int} (hx3 : zq_iv x3) (w : (if x3 < 10 then (((0 : Int) ≤ x3 ∧ x3 < (10 : Int)) ∧ (if zq_i s (255) (x3) = 0 then zq_Ex X 186 121 [(.ref (232)), (zq_vi (x1)), (zq_vi (x2 + 0)), (zq_vi (x3 + 1))] [] s (zq_rp zq_iv K) else zq_Ex X 186 121 [(.ref (232)), (zq_vi (x1)), (zq_vi (x2 + 1)), (zq_vi (x3 + 1))] [] s (zq_rp zq_iv K))) else K (x2) s)) : zq_Ex X 186 121 [(.ref (232)), (zq_vi (x1)), (zq_vi (x2)), (zq_vi (x3))] [] s (zq_rp zq_iv K) := by
  refine zq_run 2 (pc' := 124) (L' := [(.ref (232)), (zq_vi (x1)), (zq_vi (x2)), (zq_vi (x3))]) (st' := [(zq_vi (10)), (zq_vi (x3))]) (fun _ _ _ => rfl) ?_
  refine zq_ge rfl hx3 (of_decide_eq_true rfl) (fun hb_1 => ?_) (fun hb_1 => ?_)
  · rw [if_neg hb_1] at w
    refine zq_run 1 (pc' := 151) (L' := [(.ref (232)), (zq_vi (x1)), (zq_vi (x2)), (zq_vi (x3))]) (st' := [(zq_vi (x2))]) (fun _ _ _ => rfl) ?_
    exact zq_iret rfl rfl rfl (⟨_, rfl, hx2, w⟩)
  · rw [if_pos hb_1] at w
    refine zq_run 2 (pc' := 129) (L' := [(.ref (232)), (zq_vi (x1)), (zq_vi (x2)), (zq_vi (x3))]) (st' := [(.ref (232)), (zq_vi (x2))]) (fun _ _ _ => rfl) ?_
    refine zq_getf_f (b := 255) rfl zq_a232 rfl rfl ?_
    refine zq_run 1 (pc' := 133) (L' := [(.ref (232)), (zq_vi (x1)), (zq_vi (x2)), (zq_vi (x3))]) (st' := [(zq_vi (x3)), (.ref (255)), (zq_vi (x2))]) (fun _ _ _ => rfl) ?_
    obtain ⟨g_2, w⟩ := w
    refine zq_have (fun hR_3 => ?_)
    refine zq_ald_b (v := zq_i s (255) (x3)) rfl zq_a255 g_2.1 g_2.2 rfl ?_
    refine zq_eq0 rfl (zq_bo_in (hR_3.2.2.1 _ _ _ zq_a255)) (fun hb_4 => ?_) (fun hb_4 => ?_)
    · rw [if_pos hb_4] at w
      refine zq_run 1 (pc' := 142) (L' := [(.ref (232)), (zq_vi (x1)), (zq_vi (x2)), (zq_vi (x3))]) (st' := [(zq_vi (0)), (zq_vi (x2))]) (fun _ _ _ => rfl) ?_
      refine zq_iadd rfl ?_
      refine zq_run 1 (pc' := 144) (L' := [(.ref (232)), (zq_vi (x1)), (zq_vi (x2 + 0)), (zq_vi (x3))]) (st' := []) (fun _ _ _ => rfl) ?_
      refine zq_iinc (L' := [(.ref (232)), (zq_vi (x1)), (zq_vi (x2 + 0)), (zq_vi (x3 + 1))]) rfl rfl rfl ?_
      refine zq_run 1 (pc' := 121) (L' := [(.ref (232)), (zq_vi (x1)), (zq_vi (x2 + 0)), (zq_vi (x3 + 1))]) (st' := []) (fun _ _ _ => rfl) ?_
      exact w
    · rw [if_neg hb_4] at w
      refine zq_run 2 (pc' := 142) (L' := [(.ref (232)), (zq_vi (x1)), (zq_vi (x2)), (zq_vi (x3))]) (st' := [(zq_vi (1)), (zq_vi (x2))]) (fun _ _ _ => rfl) ?_
      refine zq_iadd rfl ?_
      refine zq_run 1 (pc' := 144) (L' := [(.ref (232)), (zq_vi (x1)), (zq_vi (x2 + 1)), (zq_vi (x3))]) (st' := []) (fun _ _ _ => rfl) ?_
      refine zq_iinc (L' := [(.ref (232)), (zq_vi (x1)), (zq_vi (x2 + 1)), (zq_vi (x3 + 1))]) rfl rfl rfl ?_
      refine zq_run 1 (pc' := 121) (L' := [(.ref (232)), (zq_vi (x1)), (zq_vi (x2 + 1)), (zq_vi (x3 + 1))]) (st' := []) (fun _ _ _ => rfl) ?_
      exact w
set_option maxRecDepth 100000 in
/-- PaperObjectsModel.means(II)Z -/
theorem zw_187 {X : Nat × (Nat → Int32)} {s : zq_S} {K : Int → zq_S → Prop} {x1 : Int} (hx1 : zq_iv x1) {x2 : Int} (hx2 : zq_iv x2) (w : (zq_Ex X 173 0 [(.ref (232)), (zq_vi (x1))] [] s (zq_rp zq_bo fun x_2 s_1 => (if x_2 = 0 then K (0) s_1 else (((0 : Int) ≤ x1 ∧ x1 < (10 : Int)) ∧ (if zq_i s_1 (238) (x1) = x2 then K (1) s_1 else K (0) s_1)))))) : zq_Ex X 187 0 [(.ref (232)), (zq_vi (x1)), (zq_vi (x2))] [] s (zq_rp zq_bo K) := by
  refine zq_run 2 (pc' := 2) (L' := [(.ref (232)), (zq_vi (x1)), (zq_vi (x2))]) (st' := [(zq_vi (x1)), (.ref (232))]) (fun _ _ _ => rfl) ?_
  refine zq_call_i (i := .invokevirtual 234) (r := [1, 173, 1, 1, 9]) rfl rfl (fun h hp => zr_avv rfl (hp.obj zq_a232)) (of_decide_eq_false rfl) w (fun x_2 s_1 hx_3 w => ?_)
  refine zq_eq0 rfl (zq_bo_in hx_3) (fun hb_4 => ?_) (fun hb_4 => ?_)
  · rw [if_pos hb_4] at w
    refine zq_run 1 (pc' := 23) (L' := [(.ref (232)), (zq_vi (x1)), (zq_vi (x2))]) (st' := [(zq_vi (0))]) (fun _ _ _ => rfl) ?_
    exact zq_iret rfl rfl (congrArg Value.int (zq_nb (of_decide_eq_true rfl))) (⟨_, rfl, (of_decide_eq_true rfl), w⟩)
  · rw [if_neg hb_4] at w
    refine zq_run 1 (pc' := 9) (L' := [(.ref (232)), (zq_vi (x1)), (zq_vi (x2))]) (st' := [(.ref (232))]) (fun _ _ _ => rfl) ?_
    refine zq_getf_f (b := 238) rfl zq_a232 rfl rfl ?_
    refine zq_run 1 (pc' := 13) (L' := [(.ref (232)), (zq_vi (x1)), (zq_vi (x2))]) (st' := [(zq_vi (x1)), (.ref (238))]) (fun _ _ _ => rfl) ?_
    obtain ⟨g_5, w⟩ := w
    refine zq_have (fun hR_6 => ?_)
    refine zq_ald_i (v := zq_i s_1 (238) (x1)) rfl zq_a238 g_5.1 g_5.2 rfl ?_
    refine zq_run 1 (pc' := 15) (L' := [(.ref (232)), (zq_vi (x1)), (zq_vi (x2))]) (st' := [(zq_vi (x2)), (zq_vi (zq_i s_1 (238) (x1)))]) (fun _ _ _ => rfl) ?_
    refine zq_ne rfl (hR_6.1 _ _) hx2 (fun hb_7 => ?_) (fun hb_7 => ?_)
    · rw [if_neg hb_7] at w
      refine zq_run 1 (pc' := 23) (L' := [(.ref (232)), (zq_vi (x1)), (zq_vi (x2))]) (st' := [(zq_vi (0))]) (fun _ _ _ => rfl) ?_
      exact zq_iret rfl rfl (congrArg Value.int (zq_nb (of_decide_eq_true rfl))) (⟨_, rfl, (of_decide_eq_true rfl), w⟩)
    · rw [if_pos hb_7] at w
      refine zq_run 2 (pc' := 23) (L' := [(.ref (232)), (zq_vi (x1)), (zq_vi (x2))]) (st' := [(zq_vi (1))]) (fun _ _ _ => rfl) ?_
      exact zq_iret rfl rfl (congrArg Value.int (zq_nb (of_decide_eq_true rfl))) (⟨_, rfl, (of_decide_eq_true rfl), w⟩)
set_option maxRecDepth 100000 in
/-- PaperObjectsModel.reachFrom(I)V -/
theorem zw_188 {X : Nat × (Nat → Int32)} {s : zq_S} {K : zq_S → Prop} {x1 : Int} (hx1 : zq_iv x1) (w : zq_Ex X 188 2 [(.ref (232)), (zq_vi (x1)), (zq_vi (0)), zz_no, zz_no, zz_no] [] s (zq_rv K)) : zq_Ex X 188 0 [(.ref (232)), (zq_vi (x1)), zz_no, zz_no, zz_no, zz_no] [] s (zq_rv K) := by
  refine zq_run 2 (pc' := 2) (L' := [(.ref (232)), (zq_vi (x1)), (zq_vi (0)), zz_no, zz_no, zz_no]) (st' := []) (fun _ _ _ => rfl) ?_
  exact w
set_option maxRecDepth 100000 in
/-- PaperObjectsModel.reachFrom at 2 -/
theorem zw_188_2 {X : Nat × (Nat → Int32)} {s : zq_S} {K : zq_S → Prop} {x1 : Int} (hx1 : zq_iv x1) {x2 : Int} (hx2 : zq_iv x2) {v3 : Value} (hv3 : v3.category = 1) {v4 : Value} (hv4 : v4.category = 1) {v5 : Value} (hv5 : v5.category = 1) (w : (((0 : Int) ≤ x1 ∧ x1 < (10 : Int)) ∧ (if x2 < zq_i s (240) (x1) then (zq_Ex X 147 0 [(.ref (232)), (zq_vi (10 + x1)), (zq_vi (x2))] [] s (zq_rp zq_ch fun x_5 s_4 => (zq_Ex X 155 0 [(zq_vi (x_5))] [] s_4 (zq_rp zq_bo fun x_8 s_7 => (if x_8 = 0 then (if x_5 = 40 then (zq_Ex X 160 0 [(.ref (232)), (zq_vi (10 + x1)), (zq_vi (x2)), zz_no, zz_no, zz_no, zz_no] [] s_7 (zq_rp zq_iv fun x_28 s_27 => zq_Ex X 188 2 [(.ref (232)), (zq_vi (x1)), (zq_vi (x_28)), (zq_vi (x_5)), (zq_vi ((-1))), v5] [] s_27 (zq_rv K))) else (if x_5 = 47 then (zq_Ex X 153 0 [(.ref (232)), (zq_vi (10 + x1)), (zq_vi (x2)), zz_no] [] s_7 (zq_rp zq_iv fun x_25 s_24 => zq_Ex X 188 2 [(.ref (232)), (zq_vi (x1)), (zq_vi (x_25)), (zq_vi (x_5)), (zq_vi ((-1))), v5] [] s_24 (zq_rv K))) else (zq_Ex X 154 0 [(zq_vi (x_5))] [] s_7 (zq_rp zq_bo fun x_14 s_13 => (if x_14 = 0 then (if x_5 = 45 then (zq_Ex X 161 0 [(.ref (232)), (zq_vi (10 + x1)), (zq_vi (x2)), zz_no] [] s_13 (zq_rp zq_iv fun x_22 s_21 => zq_Ex X 188 2 [(.ref (232)), (zq_vi (x1)), (zq_vi (x_22)), (zq_vi (x_5)), (zq_vi ((-1))), v5] [] s_21 (zq_rv K))) else zq_Ex X 188 2 [(.ref (232)), (zq_vi (x1)), (zq_vi (x2 + 1)), (zq_vi (x_5)), (zq_vi ((-1))), v5] [] s_13 (zq_rv K)) else (zq_Ex X 161 0 [(.ref (232)), (zq_vi (10 + x1)), (zq_vi (x2)), zz_no] [] s_13 (zq_rp zq_iv fun x_18 s_17 => zq_Ex X 188 2 [(.ref (232)), (zq_vi (x1)), (zq_vi (x_18)), (zq_vi (x_5)), (zq_vi ((-1))), v5] [] s_17 (zq_rv K)))))))) else (zq_Ex X 162 0 [(.ref (232)), (zq_vi (10 + x1)), (zq_vi (x2)), zz_no, zz_no] [] s_7 (zq_rp zq_iv fun x_31 s_30 => (if x_5 = 40 then (zq_Ex X 160 0 [(.ref (232)), (zq_vi (10 + x1)), (zq_vi (x2)), zz_no, zz_no, zz_no, zz_no] [] s_30 (zq_rp zq_iv fun x_67 s_66 => zq_Ex X 188 2 [(.ref (232)), (zq_vi (x1)), (zq_vi (x_67)), (zq_vi (x_5)), (zq_vi (x_31)), v5] [] s_66 (zq_rv K))) else (if x_5 = 47 then (zq_Ex X 153 0 [(.ref (232)), (zq_vi (10 + x1)), (zq_vi (x2)), zz_no] [] s_30 (zq_rp zq_iv fun x_64 s_63 => zq_Ex X 188 2 [(.ref (232)), (zq_vi (x1)), (zq_vi (x_64)), (zq_vi (x_5)), (zq_vi (x_31)), v5] [] s_63 (zq_rv K))) else (if x_31 < 0 then (zq_Ex X 154 0 [(zq_vi (x_5))] [] s_30 (zq_rp zq_bo fun x_37 s_36 => (if x_37 = 0 then (if x_5 = 45 then (zq_Ex X 161 0 [(.ref (232)), (zq_vi (10 + x1)), (zq_vi (x2)), zz_no] [] s_36 (zq_rp zq_iv fun x_45 s_44 => zq_Ex X 188 2 [(.ref (232)), (zq_vi (x1)), (zq_vi (x_45)), (zq_vi (x_5)), (zq_vi (x_31)), v5] [] s_44 (zq_rv K))) else zq_Ex X 188 2 [(.ref (232)), (zq_vi (x1)), (zq_vi (x2 + 1)), (zq_vi (x_5)), (zq_vi (x_31)), v5] [] s_36 (zq_rv K)) else (zq_Ex X 161 0 [(.ref (232)), (zq_vi (10 + x1)), (zq_vi (x2)), zz_no] [] s_36 (zq_rp zq_iv fun x_41 s_40 => zq_Ex X 188 2 [(.ref (232)), (zq_vi (x1)), (zq_vi (x_41)), (zq_vi (x_5)), (zq_vi (x_31)), v5] [] s_40 (zq_rv K)))))) else (zq_Ex X 189 0 [(.ref (232)), (zq_vi (10 + x1)), (zq_vi (x2))] [] s_30 (zq_rp zq_iv fun x_48 s_47 => (((0 : Int) ≤ x_48 ∧ x_48 < (10 : Int)) ∧ (if zq_i s_47 (255) (x_48) = 0 then (zq_Ex X 190 0 [(.ref (232)), (zq_vi (10 + x1)), (zq_vi (x2))] [] s_47 (zq_rp zq_iv fun x_55 s_54 => (zq_Ex X 187 0 [(.ref (232)), (zq_vi (x_48)), (zq_vi (x_55))] [] s_54 (zq_rp zq_bo fun x_58 s_57 => (if x_58 = 0 then (((0 : Int) ≤ x_48 ∧ x_48 < (10 : Int)) ∧ zq_Ex X 188 2 [(.ref (232)), (zq_vi (x1)), (zq_vi (x_31)), (zq_vi (x_5)), (zq_vi (x_31)), (zq_vi (x_48))] [] (zq_si s_57 (255) (x_48) (0)) (zq_rv K)) else (((0 : Int) ≤ x_48 ∧ x_48 < (10 : Int)) ∧ zq_Ex X 188 2 [(.ref (232)), (zq_vi (x1)), (zq_vi (x_31)), (zq_vi (x_5)), (zq_vi (x_31)), (zq_vi (x_48))] [] (zq_si s_57 (255) (x_48) (1)) (zq_rv K))))))) else (((0 : Int) ≤ x_48 ∧ x_48 < (10 : Int)) ∧ zq_Ex X 188 2 [(.ref (232)), (zq_vi (x1)), (zq_vi (x_31)), (zq_vi (x_5)), (zq_vi (x_31)), (zq_vi (x_48))] [] (zq_si s_47 (255) (x_48) (1)) (zq_rv K)))))))))))))))) else K s))) : zq_Ex X 188 2 [(.ref (232)), (zq_vi (x1)), (zq_vi (x2)), v3, v4, v5] [] s (zq_rv K) := by
  refine zq_run 2 (pc' := 4) (L' := [(.ref (232)), (zq_vi (x1)), (zq_vi (x2)), v3, v4, v5]) (st' := [(.ref (232)), (zq_vi (x2))]) (fun _ _ _ => rfl) ?_
  refine zq_getf_f (b := 240) rfl zq_a232 rfl rfl ?_
  refine zq_run 1 (pc' := 8) (L' := [(.ref (232)), (zq_vi (x1)), (zq_vi (x2)), v3, v4, v5]) (st' := [(zq_vi (x1)), (.ref (240)), (zq_vi (x2))]) (fun _ _ _ => rfl) ?_
  obtain ⟨g_1, w⟩ := w
  refine zq_have (fun hR_2 => ?_)
  refine zq_ald_i (v := zq_i s (240) (x1)) rfl zq_a240 g_1.1 g_1.2 rfl ?_
  refine zq_ge rfl hx2 (hR_2.1 _ _) (fun hb_3 => ?_) (fun hb_3 => ?_)
  · rw [if_neg hb_3] at w
    exact zq_vret rfl rfl (⟨rfl, w⟩)
  · rw [if_pos hb_3] at w
    refine zq_run 3 (pc' := 16) (L' := [(.ref (232)), (zq_vi (x1)), (zq_vi (x2)), v3, v4, v5]) (st' := [(zq_vi (x1)), (zq_vi (10)), (.ref (232))]) (fun _ _ _ => rfl) ?_
    refine zq_iadd rfl ?_
    refine zq_run 1 (pc' := 18) (L' := [(.ref (232)), (zq_vi (x1)), (zq_vi (x2)), v3, v4, v5]) (st' := [(zq_vi (x2)), (zq_vi (10 + x1)), (.ref (232))]) (fun _ _ _ => rfl) ?_
    refine zq_call_i (i := .invokevirtual 119) (r := [1, 147, 2, 1, 9]) rfl rfl (fun h hp => zr_avv rfl (hp.obj zq_a232)) (of_decide_eq_false rfl) w (fun x_5 s_4 hx_6 w => ?_)
    refine zq_run 2 (pc' := 23) (L' := [(.ref (232)), (zq_vi (x1)), (zq_vi (x2)), (zq_vi (x_5)), v4, v5]) (st' := [(zq_vi (x_5))]) (fun _ _ _ => rfl) ?_
    refine zq_call_i (i := .invokestatic 103) (r := [1, 155, 1, 0, 9]) rfl rfl (fun _ _ => rfl) (of_decide_eq_false rfl) w (fun x_8 s_7 hx_9 w => ?_)
    refine zq_eq0 rfl (zq_bo_in hx_9) (fun hb_10 => ?_) (fun hb_10 => ?_)
    · rw [if_pos hb_10] at w
      refine zq_run 4 (pc' := 47) (L' := [(.ref (232)), (zq_vi (x1)), (zq_vi (x2)), (zq_vi (x_5)), (zq_vi ((-1))), v5]) (st' := [(zq_vi (40)), (zq_vi (x_5))]) (fun _ _ _ => rfl) ?_
      refine zq_ne rfl (zq_ch_in hx_6) (of_decide_eq_true rfl) (fun hb_11 => ?_) (fun hb_11 => ?_)
      · rw [if_neg hb_11] at w
        refine zq_run 2 (pc' := 66) (L' := [(.ref (232)), (zq_vi (x1)), (zq_vi (x2)), (zq_vi (x_5)), (zq_vi ((-1))), v5]) (st' := [(zq_vi (47)), (zq_vi (x_5))]) (fun _ _ _ => rfl) ?_
        refine zq_ne rfl (zq_ch_in hx_6) (of_decide_eq_true rfl) (fun hb_12 => ?_) (fun hb_12 => ?_)
        · rw [if_neg hb_12] at w
          refine zq_run 1 (pc' := 84) (L' := [(.ref (232)), (zq_vi (x1)), (zq_vi (x2)), (zq_vi (x_5)), (zq_vi ((-1))), v5]) (st' := [(zq_vi ((-1)))]) (fun _ _ _ => rfl) ?_
          refine zq_lt0 rfl (of_decide_eq_true rfl) (fun _ => ?_) (fun hb => absurd (by decide) hb)
          refine zq_run 1 (pc' := 145) (L' := [(.ref (232)), (zq_vi (x1)), (zq_vi (x2)), (zq_vi (x_5)), (zq_vi ((-1))), v5]) (st' := [(zq_vi (x_5))]) (fun _ _ _ => rfl) ?_
          refine zq_call_i (i := .invokestatic 127) (r := [1, 154, 1, 0, 9]) rfl rfl (fun _ _ => rfl) (of_decide_eq_false rfl) w (fun x_14 s_13 hx_15 w => ?_)
          refine zq_ne0 rfl (zq_bo_in hx_15) (fun hb_16 => ?_) (fun hb_16 => ?_)
          · rw [if_neg hb_16] at w
            refine zq_run 3 (pc' := 161) (L' := [(.ref (232)), (zq_vi (x1)), (zq_vi (x2)), (zq_vi (x_5)), (zq_vi ((-1))), v5]) (st' := [(zq_vi (x1)), (zq_vi (10)), (.ref (232))]) (fun _ _ _ => rfl) ?_
            refine zq_iadd rfl ?_
            refine zq_run 1 (pc' := 163) (L' := [(.ref (232)), (zq_vi (x1)), (zq_vi (x2)), (zq_vi (x_5)), (zq_vi ((-1))), v5]) (st' := [(zq_vi (x2)), (zq_vi (10 + x1)), (.ref (232))]) (fun _ _ _ => rfl) ?_
            refine zq_call_i (i := .invokevirtual 134) (r := [1, 161, 2, 1, 9]) rfl rfl (fun h hp => zr_avv rfl (hp.obj zq_a232)) (of_decide_eq_false rfl) w (fun x_18 s_17 hx_19 w => ?_)
            refine zq_run 3 (pc' := 2) (L' := [(.ref (232)), (zq_vi (x1)), (zq_vi (x_18)), (zq_vi (x_5)), (zq_vi ((-1))), v5]) (st' := []) (fun _ _ _ => rfl) ?_
            exact w
          · rw [if_pos hb_16] at w
            refine zq_run 2 (pc' := 154) (L' := [(.ref (232)), (zq_vi (x1)), (zq_vi (x2)), (zq_vi (x_5)), (zq_vi ((-1))), v5]) (st' := [(zq_vi (45)), (zq_vi (x_5))]) (fun _ _ _ => rfl) ?_
            refine zq_ne rfl (zq_ch_in hx_6) (of_decide_eq_true rfl) (fun hb_20 => ?_) (fun hb_20 => ?_)
            · rw [if_neg hb_20] at w
              refine zq_run 2 (pc' := 171) (L' := [(.ref (232)), (zq_vi (x1)), (zq_vi (x2)), (zq_vi (x_5)), (zq_vi ((-1))), v5]) (st' := [(zq_vi (1)), (zq_vi (x2))]) (fun _ _ _ => rfl) ?_
              refine zq_iadd rfl ?_
              refine zq_run 2 (pc' := 2) (L' := [(.ref (232)), (zq_vi (x1)), (zq_vi (x2 + 1)), (zq_vi (x_5)), (zq_vi ((-1))), v5]) (st' := []) (fun _ _ _ => rfl) ?_
              exact w
            · rw [if_pos hb_20] at w
              refine zq_run 3 (pc' := 161) (L' := [(.ref (232)), (zq_vi (x1)), (zq_vi (x2)), (zq_vi (x_5)), (zq_vi ((-1))), v5]) (st' := [(zq_vi (x1)), (zq_vi (10)), (.ref (232))]) (fun _ _ _ => rfl) ?_
              refine zq_iadd rfl ?_
              refine zq_run 1 (pc' := 163) (L' := [(.ref (232)), (zq_vi (x1)), (zq_vi (x2)), (zq_vi (x_5)), (zq_vi ((-1))), v5]) (st' := [(zq_vi (x2)), (zq_vi (10 + x1)), (.ref (232))]) (fun _ _ _ => rfl) ?_
              refine zq_call_i (i := .invokevirtual 134) (r := [1, 161, 2, 1, 9]) rfl rfl (fun h hp => zr_avv rfl (hp.obj zq_a232)) (of_decide_eq_false rfl) w (fun x_22 s_21 hx_23 w => ?_)
              refine zq_run 3 (pc' := 2) (L' := [(.ref (232)), (zq_vi (x1)), (zq_vi (x_22)), (zq_vi (x_5)), (zq_vi ((-1))), v5]) (st' := []) (fun _ _ _ => rfl) ?_
              exact w
        · rw [if_pos hb_12] at w
          refine zq_run 3 (pc' := 73) (L' := [(.ref (232)), (zq_vi (x1)), (zq_vi (x2)), (zq_vi (x_5)), (zq_vi ((-1))), v5]) (st' := [(zq_vi (x1)), (zq_vi (10)), (.ref (232))]) (fun _ _ _ => rfl) ?_
          refine zq_iadd rfl ?_
          refine zq_run 1 (pc' := 75) (L' := [(.ref (232)), (zq_vi (x1)), (zq_vi (x2)), (zq_vi (x_5)), (zq_vi ((-1))), v5]) (st' := [(zq_vi (x2)), (zq_vi (10 + x1)), (.ref (232))]) (fun _ _ _ => rfl) ?_
          refine zq_call_i (i := .invokevirtual 130) (r := [1, 153, 2, 1, 9]) rfl rfl (fun h hp => zr_avv rfl (hp.obj zq_a232)) (of_decide_eq_false rfl) w (fun x_25 s_24 hx_26 w => ?_)
          refine zq_run 3 (pc' := 2) (L' := [(.ref (232)), (zq_vi (x1)), (zq_vi (x_25)), (zq_vi (x_5)), (zq_vi ((-1))), v5]) (st' := []) (fun _ _ _ => rfl) ?_
          exact w
      · rw [if_pos hb_11] at w
        refine zq_run 3 (pc' := 54) (L' := [(.ref (232)), (zq_vi (x1)), (zq_vi (x2)), (zq_vi (x_5)), (zq_vi ((-1))), v5]) (st' := [(zq_vi (x1)), (zq_vi (10)), (.ref (232))]) (fun _ _ _ => rfl) ?_
        refine zq_iadd rfl ?_
        refine zq_run 1 (pc' := 56) (L' := [(.ref (232)), (zq_vi (x1)), (zq_vi (x2)), (zq_vi (x_5)), (zq_vi ((-1))), v5]) (st' := [(zq_vi (x2)), (zq_vi (10 + x1)), (.ref (232))]) (fun _ _ _ => rfl) ?_
        refine zq_call_i (i := .invokevirtual 148) (r := [1, 160, 2, 1, 9]) rfl rfl (fun h hp => zr_avv rfl (hp.obj zq_a232)) (of_decide_eq_false rfl) w (fun x_28 s_27 hx_29 w => ?_)
        refine zq_run 3 (pc' := 2) (L' := [(.ref (232)), (zq_vi (x1)), (zq_vi (x_28)), (zq_vi (x_5)), (zq_vi ((-1))), v5]) (st' := []) (fun _ _ _ => rfl) ?_
        exact w
    · rw [if_neg hb_10] at w
      refine zq_run 3 (pc' := 33) (L' := [(.ref (232)), (zq_vi (x1)), (zq_vi (x2)), (zq_vi (x_5)), v4, v5]) (st' := [(zq_vi (x1)), (zq_vi (10)), (.ref (232))]) (fun _ _ _ => rfl) ?_
      refine zq_iadd rfl ?_
      refine zq_run 1 (pc' := 35) (L' := [(.ref (232)), (zq_vi (x1)), (zq_vi (x2)), (zq_vi (x_5)), v4, v5]) (st' := [(zq_vi (x2)), (zq_vi (10 + x1)), (.ref (232))]) (fun _ _ _ => rfl) ?_
      refine zq_call_i (i := .invokevirtual 151) (r := [1, 162, 2, 1, 9]) rfl rfl (fun h hp => zr_avv rfl (hp.obj zq_a232)) (of_decide_eq_false rfl) w (fun x_31 s_30 hx_32 w => ?_)
      refine zq_run 4 (pc' := 47) (L' := [(.ref (232)), (zq_vi (x1)), (zq_vi (x2)), (zq_vi (x_5)), (zq_vi (x_31)), v5]) (st' := [(zq_vi (40)), (zq_vi (x_5))]) (fun _ _ _ => rfl) ?_
      refine zq_ne rfl (zq_ch_in hx_6) (of_decide_eq_true rfl) (fun hb_33 => ?_) (fun hb_33 => ?_)
      · rw [if_neg hb_33] at w
        refine zq_run 2 (pc' := 66) (L' := [(.ref (232)), (zq_vi (x1)), (zq_vi (x2)), (zq_vi (x_5)), (zq_vi (x_31)), v5]) (st' := [(zq_vi (47)), (zq_vi (x_5))]) (fun _ _ _ => rfl) ?_
        refine zq_ne rfl (zq_ch_in hx_6) (of_decide_eq_true rfl) (fun hb_34 => ?_) (fun hb_34 => ?_)
        · rw [if_neg hb_34] at w
          refine zq_run 1 (pc' := 84) (L' := [(.ref (232)), (zq_vi (x1)), (zq_vi (x2)), (zq_vi (x_5)), (zq_vi (x_31)), v5]) (st' := [(zq_vi (x_31))]) (fun _ _ _ => rfl) ?_
          refine zq_lt0 rfl hx_32 (fun hb_35 => ?_) (fun hb_35 => ?_)
          · rw [if_pos hb_35] at w
            refine zq_run 1 (pc' := 145) (L' := [(.ref (232)), (zq_vi (x1)), (zq_vi (x2)), (zq_vi (x_5)), (zq_vi (x_31)), v5]) (st' := [(zq_vi (x_5))]) (fun _ _ _ => rfl) ?_
            refine zq_call_i (i := .invokestatic 127) (r := [1, 154, 1, 0, 9]) rfl rfl (fun _ _ => rfl) (of_decide_eq_false rfl) w (fun x_37 s_36 hx_38 w => ?_)
            refine zq_ne0 rfl (zq_bo_in hx_38) (fun hb_39 => ?_) (fun hb_39 => ?_)
            · rw [if_neg hb_39] at w
              refine zq_run 3 (pc' := 161) (L' := [(.ref (232)), (zq_vi (x1)), (zq_vi (x2)), (zq_vi (x_5)), (zq_vi (x_31)), v5]) (st' := [(zq_vi (x1)), (zq_vi (10)), (.ref (232))]) (fun _ _ _ => rfl) ?_
              refine zq_iadd rfl ?_
              refine zq_run 1 (pc' := 163) (L' := [(.ref (232)), (zq_vi (x1)), (zq_vi (x2)), (zq_vi (x_5)), (zq_vi (x_31)), v5]) (st' := [(zq_vi (x2)), (zq_vi (10 + x1)), (.ref (232))]) (fun _ _ _ => rfl) ?_
              refine zq_call_i (i := .invokevirtual 134) (r := [1, 161, 2, 1, 9]) rfl rfl (fun h hp => zr_avv rfl (hp.obj zq_a232)) (of_decide_eq_false rfl) w (fun x_41 s_40 hx_42 w => ?_)
              refine zq_run 3 (pc' := 2) (L' := [(.ref (232)), (zq_vi (x1)), (zq_vi (x_41)), (zq_vi (x_5)), (zq_vi (x_31)), v5]) (st' := []) (fun _ _ _ => rfl) ?_
              exact w
            · rw [if_pos hb_39] at w
              refine zq_run 2 (pc' := 154) (L' := [(.ref (232)), (zq_vi (x1)), (zq_vi (x2)), (zq_vi (x_5)), (zq_vi (x_31)), v5]) (st' := [(zq_vi (45)), (zq_vi (x_5))]) (fun _ _ _ => rfl) ?_
              refine zq_ne rfl (zq_ch_in hx_6) (of_decide_eq_true rfl) (fun hb_43 => ?_) (fun hb_43 => ?_)
              · rw [if_neg hb_43] at w
                refine zq_run 2 (pc' := 171) (L' := [(.ref (232)), (zq_vi (x1)), (zq_vi (x2)), (zq_vi (x_5)), (zq_vi (x_31)), v5]) (st' := [(zq_vi (1)), (zq_vi (x2))]) (fun _ _ _ => rfl) ?_
                refine zq_iadd rfl ?_
                refine zq_run 2 (pc' := 2) (L' := [(.ref (232)), (zq_vi (x1)), (zq_vi (x2 + 1)), (zq_vi (x_5)), (zq_vi (x_31)), v5]) (st' := []) (fun _ _ _ => rfl) ?_
                exact w
              · rw [if_pos hb_43] at w
                refine zq_run 3 (pc' := 161) (L' := [(.ref (232)), (zq_vi (x1)), (zq_vi (x2)), (zq_vi (x_5)), (zq_vi (x_31)), v5]) (st' := [(zq_vi (x1)), (zq_vi (10)), (.ref (232))]) (fun _ _ _ => rfl) ?_
                refine zq_iadd rfl ?_
                refine zq_run 1 (pc' := 163) (L' := [(.ref (232)), (zq_vi (x1)), (zq_vi (x2)), (zq_vi (x_5)), (zq_vi (x_31)), v5]) (st' := [(zq_vi (x2)), (zq_vi (10 + x1)), (.ref (232))]) (fun _ _ _ => rfl) ?_
                refine zq_call_i (i := .invokevirtual 134) (r := [1, 161, 2, 1, 9]) rfl rfl (fun h hp => zr_avv rfl (hp.obj zq_a232)) (of_decide_eq_false rfl) w (fun x_45 s_44 hx_46 w => ?_)
                refine zq_run 3 (pc' := 2) (L' := [(.ref (232)), (zq_vi (x1)), (zq_vi (x_45)), (zq_vi (x_5)), (zq_vi (x_31)), v5]) (st' := []) (fun _ _ _ => rfl) ?_
                exact w
          · rw [if_neg hb_35] at w
            refine zq_run 3 (pc' := 91) (L' := [(.ref (232)), (zq_vi (x1)), (zq_vi (x2)), (zq_vi (x_5)), (zq_vi (x_31)), v5]) (st' := [(zq_vi (x1)), (zq_vi (10)), (.ref (232))]) (fun _ _ _ => rfl) ?_
            refine zq_iadd rfl ?_
            refine zq_run 1 (pc' := 93) (L' := [(.ref (232)), (zq_vi (x1)), (zq_vi (x2)), (zq_vi (x_5)), (zq_vi (x_31)), v5]) (st' := [(zq_vi (x2)), (zq_vi (10 + x1)), (.ref (232))]) (fun _ _ _ => rfl) ?_
            refine zq_call_i (i := .invokevirtual 243) (r := [1, 189, 2, 1, 9]) rfl rfl (fun h hp => zr_avv rfl (hp.obj zq_a232)) (of_decide_eq_false rfl) w (fun x_48 s_47 hx_49 w => ?_)
            refine zq_run 2 (pc' := 99) (L' := [(.ref (232)), (zq_vi (x1)), (zq_vi (x2)), (zq_vi (x_5)), (zq_vi (x_31)), (zq_vi (x_48))]) (st' := [(.ref (232))]) (fun _ _ _ => rfl) ?_
            refine zq_getf_f (b := 255) rfl zq_a232 rfl rfl ?_
            refine zq_run 2 (pc' := 105) (L' := [(.ref (232)), (zq_vi (x1)), (zq_vi (x2)), (zq_vi (x_5)), (zq_vi (x_31)), (zq_vi (x_48))]) (st' := [(.ref (232)), (zq_vi (x_48)), (.ref (255))]) (fun _ _ _ => rfl) ?_
            refine zq_getf_f (b := 255) rfl zq_a232 rfl rfl ?_
            refine zq_run 1 (pc' := 110) (L' := [(.ref (232)), (zq_vi (x1)), (zq_vi (x2)), (zq_vi (x_5)), (zq_vi (x_31)), (zq_vi (x_48))]) (st' := [(zq_vi (x_48)), (.ref (255)), (zq_vi (x_48)), (.ref (255))]) (fun _ _ _ => rfl) ?_
            obtain ⟨g_50, w⟩ := w
            refine zq_have (fun hR_51 => ?_)
            refine zq_ald_b (v := zq_i s_47 (255) (x_48)) rfl zq_a255 g_50.1 g_50.2 rfl ?_
            refine zq_ne0 rfl (zq_bo_in (hR_51.2.2.1 _ _ _ zq_a255)) (fun hb_52 => ?_) (fun hb_52 => ?_)
            · rw [if_neg hb_52] at w
              refine zq_run 2 (pc' := 137) (L' := [(.ref (232)), (zq_vi (x1)), (zq_vi (x2)), (zq_vi (x_5)), (zq_vi (x_31)), (zq_vi (x_48))]) (st' := [(zq_vi (1)), (zq_vi (x_48)), (.ref (255))]) (fun _ _ _ => rfl) ?_
              obtain ⟨g_53, w⟩ := w
              refine zq_ast_b rfl zq_a255 g_53.1 g_53.2 (of_decide_eq_true rfl) ?_
              refine zq_run 4 (pc' := 2) (L' := [(.ref (232)), (zq_vi (x1)), (zq_vi (x_31)), (zq_vi (x_5)), (zq_vi (x_31)), (zq_vi (x_48))]) (st' := []) (fun _ _ _ => rfl) ?_
              exact w
            · rw [if_pos hb_52] at w
              refine zq_run 5 (pc' := 121) (L' := [(.ref (232)), (zq_vi (x1)), (zq_vi (x2)), (zq_vi (x_5)), (zq_vi (x_31)), (zq_vi (x_48))]) (st' := [(zq_vi (x1)), (zq_vi (10)), (.ref (232)), (zq_vi (x_48)), (.ref (232)), (zq_vi (x_48)), (.ref (255))]) (fun _ _ _ => rfl) ?_
              refine zq_iadd rfl ?_
              refine zq_run 1 (pc' := 123) (L' := [(.ref (232)), (zq_vi (x1)), (zq_vi (x2)), (zq_vi (x_5)), (zq_vi (x_31)), (zq_vi (x_48))]) (st' := [(zq_vi (x2)), (zq_vi (10 + x1)), (.ref (232)), (zq_vi (x_48)), (.ref (232)), (zq_vi (x_48)), (.ref (255))]) (fun _ _ _ => rfl) ?_
              refine zq_call_i (i := .invokevirtual 246) (r := [1, 190, 2, 1, 9]) rfl rfl (fun h hp => zr_avv rfl (hp.obj zq_a232)) (of_decide_eq_false rfl) w (fun x_55 s_54 hx_56 w => ?_)
              refine zq_call_i (i := .invokevirtual 249) (r := [1, 187, 2, 1, 9]) rfl rfl (fun h hp => zr_avv rfl (hp.obj zq_a232)) (of_decide_eq_false rfl) w (fun x_58 s_57 hx_59 w => ?_)
              refine zq_eq0 rfl (zq_bo_in hx_59) (fun hb_60 => ?_) (fun hb_60 => ?_)
              · rw [if_pos hb_60] at w
                refine zq_run 1 (pc' := 137) (L' := [(.ref (232)), (zq_vi (x1)), (zq_vi (x2)), (zq_vi (x_5)), (zq_vi (x_31)), (zq_vi (x_48))]) (st' := [(zq_vi (0)), (zq_vi (x_48)), (.ref (255))]) (fun _ _ _ => rfl) ?_
                obtain ⟨g_61, w⟩ := w
                refine zq_ast_b rfl zq_a255 g_61.1 g_61.2 (of_decide_eq_true rfl) ?_
                refine zq_run 4 (pc' := 2) (L' := [(.ref (232)), (zq_vi (x1)), (zq_vi (x_31)), (zq_vi (x_5)), (zq_vi (x_31)), (zq_vi (x_48))]) (st' := []) (fun _ _ _ => rfl) ?_
                exact w
              · rw [if_neg hb_60] at w
                refine zq_run 2 (pc' := 137) (L' := [(.ref (232)), (zq_vi (x1)), (zq_vi (x2)), (zq_vi (x_5)), (zq_vi (x_31)), (zq_vi (x_48))]) (st' := [(zq_vi (1)), (zq_vi (x_48)), (.ref (255))]) (fun _ _ _ => rfl) ?_
                obtain ⟨g_62, w⟩ := w
                refine zq_ast_b rfl zq_a255 g_62.1 g_62.2 (of_decide_eq_true rfl) ?_
                refine zq_run 4 (pc' := 2) (L' := [(.ref (232)), (zq_vi (x1)), (zq_vi (x_31)), (zq_vi (x_5)), (zq_vi (x_31)), (zq_vi (x_48))]) (st' := []) (fun _ _ _ => rfl) ?_
                exact w
        · rw [if_pos hb_34] at w
          refine zq_run 3 (pc' := 73) (L' := [(.ref (232)), (zq_vi (x1)), (zq_vi (x2)), (zq_vi (x_5)), (zq_vi (x_31)), v5]) (st' := [(zq_vi (x1)), (zq_vi (10)), (.ref (232))]) (fun _ _ _ => rfl) ?_
          refine zq_iadd rfl ?_
          refine zq_run 1 (pc' := 75) (L' := [(.ref (232)), (zq_vi (x1)), (zq_vi (x2)), (zq_vi (x_5)), (zq_vi (x_31)), v5]) (st' := [(zq_vi (x2)), (zq_vi (10 + x1)), (.ref (232))]) (fun _ _ _ => rfl) ?_
          refine zq_call_i (i := .invokevirtual 130) (r := [1, 153, 2, 1, 9]) rfl rfl (fun h hp => zr_avv rfl (hp.obj zq_a232)) (of_decide_eq_false rfl) w (fun x_64 s_63 hx_65 w => ?_)
          refine zq_run 3 (pc' := 2) (L' := [(.ref (232)), (zq_vi (x1)), (zq_vi (x_64)), (zq_vi (x_5)), (zq_vi (x_31)), v5]) (st' := []) (fun _ _ _ => rfl) ?_
          exact w
      · rw [if_pos hb_33] at w
        refine zq_run 3 (pc' := 54) (L' := [(.ref (232)), (zq_vi (x1)), (zq_vi (x2)), (zq_vi (x_5)), (zq_vi (x_31)), v5]) (st' := [(zq_vi (x1)), (zq_vi (10)), (.ref (232))]) (fun _ _ _ => rfl) ?_
        refine zq_iadd rfl ?_
        refine zq_run 1 (pc' := 56) (L' := [(.ref (232)), (zq_vi (x1)), (zq_vi (x2)), (zq_vi (x_5)), (zq_vi (x_31)), v5]) (st' := [(zq_vi (x2)), (zq_vi (10 + x1)), (.ref (232))]) (fun _ _ _ => rfl) ?_
        refine zq_call_i (i := .invokevirtual 148) (r := [1, 160, 2, 1, 9]) rfl rfl (fun h hp => zr_avv rfl (hp.obj zq_a232)) (of_decide_eq_false rfl) w (fun x_67 s_66 hx_68 w => ?_)
        refine zq_run 3 (pc' := 2) (L' := [(.ref (232)), (zq_vi (x1)), (zq_vi (x_67)), (zq_vi (x_5)), (zq_vi (x_31)), v5]) (st' := []) (fun _ _ _ => rfl) ?_
        exact w
set_option maxRecDepth 100000 in
/-- PaperObjectsModel.refNumber(II)I -/
theorem zw_189 {X : Nat × (Nat → Int32)} {s : zq_S} {K : Int → zq_S → Prop} {x1 : Int} (hx1 : zq_iv x1) {x2 : Int} (hx2 : zq_iv x2) (w : (zq_Ex X 147 0 [(.ref (232)), (zq_vi (x1)), (zq_vi (x2))] [] s (zq_rp zq_ch fun x_2 s_1 => (zq_iv (x_2 - 48) ∧ K (x_2 - 48) s_1)))) : zq_Ex X 189 0 [(.ref (232)), (zq_vi (x1)), (zq_vi (x2))] [] s (zq_rp zq_iv K) := by
  refine zq_run 3 (pc' := 3) (L' := [(.ref (232)), (zq_vi (x1)), (zq_vi (x2))]) (st' := [(zq_vi (x2)), (zq_vi (x1)), (.ref (232))]) (fun _ _ _ => rfl) ?_
  refine zq_call_i (i := .invokevirtual 119) (r := [1, 147, 2, 1, 9]) rfl rfl (fun h hp => zr_avv rfl (hp.obj zq_a232)) (of_decide_eq_false rfl) w (fun x_2 s_1 hx_3 w => ?_)
  refine zq_run 1 (pc' := 8) (L' := [(.ref (232)), (zq_vi (x1)), (zq_vi (x2))]) (st' := [(zq_vi (48)), (zq_vi (x_2))]) (fun _ _ _ => rfl) ?_
  refine zq_isub rfl ?_
  obtain ⟨g_4, w⟩ := w
  exact zq_iret rfl rfl rfl (⟨_, rfl, g_4, w⟩)
set_option maxRecDepth 100000 in
/-- PaperObjectsModel.refGen(II)I -/
theorem zw_190 {X : Nat × (Nat → Int32)} {s : zq_S} {K : Int → zq_S → Prop} {x1 : Int} (hx1 : zq_iv x1) {x2 : Int} (hx2 : zq_iv x2) (w : (zq_Ex X 147 0 [(.ref (232)), (zq_vi (x1)), (zq_vi (x2 + 2))] [] s (zq_rp zq_ch fun x_2 s_1 => (zq_iv (x_2 - 48) ∧ K (x_2 - 48) s_1)))) : zq_Ex X 190 0 [(.ref (232)), (zq_vi (x1)), (zq_vi (x2))] [] s (zq_rp zq_iv K) := by
  refine zq_run 4 (pc' := 4) (L' := [(.ref (232)), (zq_vi (x1)), (zq_vi (x2))]) (st' := [(zq_vi (2)), (zq_vi (x2)), (zq_vi (x1)), (.ref (232))]) (fun _ _ _ => rfl) ?_
  refine zq_iadd rfl ?_
  refine zq_call_i (i := .invokevirtual 119) (r := [1, 147, 2, 1, 9]) rfl rfl (fun h hp => zr_avv rfl (hp.obj zq_a232)) (of_decide_eq_false rfl) w (fun x_2 s_1 hx_3 w => ?_)
  refine zq_run 1 (pc' := 10) (L' := [(.ref (232)), (zq_vi (x1)), (zq_vi (x2))]) (st' := [(zq_vi (48)), (zq_vi (x_2))]) (fun _ _ _ => rfl) ?_
  refine zq_isub rfl ?_
  obtain ⟨g_4, w⟩ := w
  exact zq_iret rfl rfl rfl (⟨_, rfl, g_4, w⟩)
set_option maxRecDepth 100000 in
/-- PaperObjectsModel.tail()I -/
theorem zw_191 {X : Nat × (Nat → Int32)} {s : zq_S} {K : Int → zq_S → Prop}  (w : (zq_iv ((zq_i s (232) (3)) - 7) ∧ (if (zq_i s (232) (3)) - 7 < 0 then zq_Ex X 191 77 [(.ref (232)), (zq_vi ((zq_i s (232) (3)) - 7)), (zq_vi (0)), (zq_vi ((zq_i s (232) (3)) - 7)), zz_no] [] s (zq_rp zq_iv K) else (zq_Ex X 147 0 [(.ref (232)), (zq_vi (1)), (zq_vi ((zq_i s (232) (3)) - 7))] [] s (zq_rp zq_ch fun x_5 s_4 => (if x_5 = 10 then (zq_Ex X 164 0 [(.ref (232)), (zq_vi (1)), (zq_vi (((zq_i s (232) (3)) - 7) + 1)), (zq_vi (37)), (zq_vi (37)), (zq_vi (69)), (zq_vi (79))] [] s_4 (zq_rp zq_bo fun x_9 s_8 => (if x_9 = 0 then zq_Ex X 191 77 [(.ref (232)), (zq_vi ((zq_i s (232) (3)) - 7)), (zq_vi (0)), (zq_vi ((zq_i s (232) (3)) - 7)), zz_no] [] s_8 (zq_rp zq_iv K) else (zq_Ex X 147 0 [(.ref (232)), (zq_vi (1)), (zq_vi (((zq_i s (232) (3)) - 7) + 5))] [] s_8 (zq_rp zq_ch fun x_13 s_12 => (if x_13 = 70 then (zq_Ex X 147 0 [(.ref (232)), (zq_vi (1)), (zq_vi (((zq_i s (232) (3)) - 7) + 6))] [] s_12 (zq_rp zq_ch fun x_17 s_16 => (if x_17 = 10 then zq_Ex X 191 77 [(.ref (232)), (zq_vi ((zq_i s (232) (3)) - 7)), (zq_vi (1)), (zq_vi ((zq_i s (232) (3)) - 7)), zz_no] [] s_16 (zq_rp zq_iv K) else zq_Ex X 191 77 [(.ref (232)), (zq_vi ((zq_i s (232) (3)) - 7)), (zq_vi (0)), (zq_vi ((zq_i s (232) (3)) - 7)), zz_no] [] s_16 (zq_rp zq_iv K)))) else zq_Ex X 191 77 [(.ref (232)), (zq_vi ((zq_i s (232) (3)) - 7)), (zq_vi (0)), (zq_vi ((zq_i s (232) (3)) - 7)), zz_no] [] s_12 (zq_rp zq_iv K))))))) else zq_Ex X 191 77 [(.ref (232)), (zq_vi ((zq_i s (232) (3)) - 7)), (zq_vi (0)), (zq_vi ((zq_i s (232) (3)) - 7)), zz_no] [] s_4 (zq_rp zq_iv K))))))) : zq_Ex X 191 0 [(.ref (232)), zz_no, zz_no, zz_no, zz_no] [] s (zq_rp zq_iv K) := by
  refine zq_run 1 (pc' := 1) (L' := [(.ref (232)), zz_no, zz_no, zz_no, zz_no]) (st' := [(.ref (232))]) (fun _ _ _ => rfl) ?_
  refine zq_have (fun hR_1 => ?_)
  refine zq_getf_i (j := 3) (v := zq_i s (232) (3)) rfl zq_a232 rfl rfl rfl ?_
  refine zq_run 1 (pc' := 6) (L' := [(.ref (232)), zz_no, zz_no, zz_no, zz_no]) (st' := [(zq_vi (7)), (zq_vi (zq_i s (232) (3)))]) (fun _ _ _ => rfl) ?_
  refine zq_isub rfl ?_
  refine zq_run 2 (pc' := 9) (L' := [(.ref (232)), (zq_vi ((zq_i s (232) (3)) - 7)), zz_no, zz_no, zz_no]) (st' := [(zq_vi ((zq_i s (232) (3)) - 7))]) (fun _ _ _ => rfl) ?_
  obtain ⟨g_2, w⟩ := w
  refine zq_lt0 rfl g_2 (fun hb_3 => ?_) (fun hb_3 => ?_)
  · rw [if_pos hb_3] at w
    refine zq_run 4 (pc' := 77) (L' := [(.ref (232)), (zq_vi ((zq_i s (232) (3)) - 7)), (zq_vi (0)), (zq_vi ((zq_i s (232) (3)) - 7)), zz_no]) (st' := []) (fun _ _ _ => rfl) ?_
    exact w
  · rw [if_neg hb_3] at w
    refine zq_run 3 (pc' := 15) (L' := [(.ref (232)), (zq_vi ((zq_i s (232) (3)) - 7)), zz_no, zz_no, zz_no]) (st' := [(zq_vi ((zq_i s (232) (3)) - 7)), (zq_vi (1)), (.ref (232))]) (fun _ _ _ => rfl) ?_
    refine zq_call_i (i := .invokevirtual 119) (r := [1, 147, 2, 1, 9]) rfl rfl (fun h hp => zr_avv rfl (hp.obj zq_a232)) (of_decide_eq_false rfl) w (fun x_5 s_4 hx_6 w => ?_)
    refine zq_run 1 (pc' := 20) (L' := [(.ref (232)), (zq_vi ((zq_i s (232) (3)) - 7)), zz_no, zz_no, zz_no]) (st' := [(zq_vi (10)), (zq_vi (x_5))]) (fun _ _ _ => rfl) ?_
    refine zq_ne rfl (zq_ch_in hx_6) (of_decide_eq_true rfl) (fun hb_7 => ?_) (fun hb_7 => ?_)
    · rw [if_neg hb_7] at w
      refine zq_run 4 (pc' := 77) (L' := [(.ref (232)), (zq_vi ((zq_i s (232) (3)) - 7)), (zq_vi (0)), (zq_vi ((zq_i s (232) (3)) - 7)), zz_no]) (st' := []) (fun _ _ _ => rfl) ?_
      exact w
    · rw [if_pos hb_7] at w
      refine zq_run 4 (pc' := 27) (L' := [(.ref (232)), (zq_vi ((zq_i s (232) (3)) - 7)), zz_no, zz_no, zz_no]) (st' := [(zq_vi (1)), (zq_vi ((zq_i s (232) (3)) - 7)), (zq_vi (1)), (.ref (232))]) (fun _ _ _ => rfl) ?_
      refine zq_iadd rfl ?_
      refine zq_run 4 (pc' := 36) (L' := [(.ref (232)), (zq_vi ((zq_i s (232) (3)) - 7)), zz_no, zz_no, zz_no]) (st' := [(zq_vi (79)), (zq_vi (69)), (zq_vi (37)), (zq_vi (37)), (zq_vi (((zq_i s (232) (3)) - 7) + 1)), (zq_vi (1)), (.ref (232))]) (fun _ _ _ => rfl) ?_
      refine zq_call_i (i := .invokevirtual 154) (r := [1, 164, 6, 1, 9]) rfl rfl (fun h hp => zr_avv rfl (hp.obj zq_a232)) (of_decide_eq_false rfl) w (fun x_9 s_8 hx_10 w => ?_)
      refine zq_eq0 rfl (zq_bo_in hx_10) (fun hb_11 => ?_) (fun hb_11 => ?_)
      · rw [if_pos hb_11] at w
        refine zq_run 4 (pc' := 77) (L' := [(.ref (232)), (zq_vi ((zq_i s (232) (3)) - 7)), (zq_vi (0)), (zq_vi ((zq_i s (232) (3)) - 7)), zz_no]) (st' := []) (fun _ _ _ => rfl) ?_
        exact w
      · rw [if_neg hb_11] at w
        refine zq_run 4 (pc' := 46) (L' := [(.ref (232)), (zq_vi ((zq_i s (232) (3)) - 7)), zz_no, zz_no, zz_no]) (st' := [(zq_vi (5)), (zq_vi ((zq_i s (232) (3)) - 7)), (zq_vi (1)), (.ref (232))]) (fun _ _ _ => rfl) ?_
        refine zq_iadd rfl ?_
        refine zq_call_i (i := .invokevirtual 119) (r := [1, 147, 2, 1, 9]) rfl rfl (fun h hp => zr_avv rfl (hp.obj zq_a232)) (of_decide_eq_false rfl) w (fun x_13 s_12 hx_14 w => ?_)
        refine zq_run 1 (pc' := 52) (L' := [(.ref (232)), (zq_vi ((zq_i s (232) (3)) - 7)), zz_no, zz_no, zz_no]) (st' := [(zq_vi (70)), (zq_vi (x_13))]) (fun _ _ _ => rfl) ?_
        refine zq_ne rfl (zq_ch_in hx_14) (of_decide_eq_true rfl) (fun hb_15 => ?_) (fun hb_15 => ?_)
        · rw [if_neg hb_15] at w
          refine zq_run 4 (pc' := 77) (L' := [(.ref (232)), (zq_vi ((zq_i s (232) (3)) - 7)), (zq_vi (0)), (zq_vi ((zq_i s (232) (3)) - 7)), zz_no]) (st' := []) (fun _ _ _ => rfl) ?_
          exact w
        · rw [if_pos hb_15] at w
          refine zq_run 4 (pc' := 60) (L' := [(.ref (232)), (zq_vi ((zq_i s (232) (3)) - 7)), zz_no, zz_no, zz_no]) (st' := [(zq_vi (6)), (zq_vi ((zq_i s (232) (3)) - 7)), (zq_vi (1)), (.ref (232))]) (fun _ _ _ => rfl) ?_
          refine zq_iadd rfl ?_
          refine zq_call_i (i := .invokevirtual 119) (r := [1, 147, 2, 1, 9]) rfl rfl (fun h hp => zr_avv rfl (hp.obj zq_a232)) (of_decide_eq_false rfl) w (fun x_17 s_16 hx_18 w => ?_)
          refine zq_run 1 (pc' := 66) (L' := [(.ref (232)), (zq_vi ((zq_i s (232) (3)) - 7)), zz_no, zz_no, zz_no]) (st' := [(zq_vi (10)), (zq_vi (x_17))]) (fun _ _ _ => rfl) ?_
          refine zq_ne rfl (zq_ch_in hx_18) (of_decide_eq_true rfl) (fun hb_19 => ?_) (fun hb_19 => ?_)
          · rw [if_neg hb_19] at w
            refine zq_run 4 (pc' := 77) (L' := [(.ref (232)), (zq_vi ((zq_i s (232) (3)) - 7)), (zq_vi (0)), (zq_vi ((zq_i s (232) (3)) - 7)), zz_no]) (st' := []) (fun _ _ _ => rfl) ?_
            exact w
          · rw [if_pos hb_19] at w
            refine zq_run 5 (pc' := 77) (L' := [(.ref (232)), (zq_vi ((zq_i s (232) (3)) - 7)), (zq_vi (1)), (zq_vi ((zq_i s (232) (3)) - 7)), zz_no]) (st' := []) (fun _ _ _ => rfl) ?_
            exact w
set_option maxRecDepth 100000 in
/-- PaperObjectsModel.tail at 77 -/
theorem zw_191_77 {X : Nat × (Nat → Int32)} {s : zq_S} {K : Int → zq_S → Prop} {x1 : Int} (hx1 : zq_iv x1) {x2 : Int} (hx2 : zq_bo x2) {x3 : Int} (hx3 : zq_iv x3) {v4 : Value} (hv4 : v4.category = 1) (w : (if x2 = 0 then zq_Ex X 191 112 [(.ref (232)), (zq_vi (x1)), (zq_vi (x2)), (zq_vi (x3)), v4] [] s (zq_rp zq_iv K) else (if x3 ≤ 0 then zq_Ex X 191 112 [(.ref (232)), (zq_vi (x1)), (zq_vi (x2)), (zq_vi (x3)), v4] [] s (zq_rp zq_iv K) else (zq_Ex X 147 0 [(.ref (232)), (zq_vi (1)), (zq_vi (x3 - 1))] [] s (zq_rp zq_ch fun x_4 s_3 => (zq_Ex X 155 0 [(zq_vi (x_4))] [] s_3 (zq_rp zq_bo fun x_7 s_6 => (if x_7 = 0 then zq_Ex X 191 112 [(.ref (232)), (zq_vi (x1)), (zq_vi (x2)), (zq_vi (x3)), v4] [] s_6 (zq_rp zq_iv K) else (zq_iv (x1 - x3) ∧ (if x1 - x3 < 4 then zq_Ex X 191 77 [(.ref (232)), (zq_vi (x1)), (zq_vi (x2)), (zq_vi (x3 + (-1))), v4] [] s_6 (zq_rp zq_iv K) else zq_Ex X 191 112 [(.ref (232)), (zq_vi (x1)), (zq_vi (x2)), (zq_vi (x3)), v4] [] s_6 (zq_rp zq_iv K))))))))))) : zq_Ex X 191 77 [(.ref (232)), (zq_vi (x1)), (zq_vi (x2)), (zq_vi (x3)), v4] [] s (zq_rp zq_iv K) := by
  refine zq_run 1 (pc' := 78) (L' := [(.ref (232)), (zq_vi (x1)), (zq_vi (x2)), (zq_vi (x3)), v4]) (st' := [(zq_vi (x2))]) (fun _ _ _ => rfl) ?_
  refine zq_eq0 rfl (zq_bo_in hx2) (fun hb_1 => ?_) (fun hb_1 => ?_)
  · rw [if_pos hb_1] at w
    exact w
  · rw [if_neg hb_1] at w
    refine zq_run 1 (pc' := 82) (L' := [(.ref (232)), (zq_vi (x1)), (zq_vi (x2)), (zq_vi (x3)), v4]) (st' := [(zq_vi (x3))]) (fun _ _ _ => rfl) ?_
    refine zq_le0 rfl hx3 (fun hb_2 => ?_) (fun hb_2 => ?_)
    · rw [if_pos hb_2] at w
      exact w
    · rw [if_neg hb_2] at w
      refine zq_run 4 (pc' := 89) (L' := [(.ref (232)), (zq_vi (x1)), (zq_vi (x2)), (zq_vi (x3)), v4]) (st' := [(zq_vi (1)), (zq_vi (x3)), (zq_vi (1)), (.ref (232))]) (fun _ _ _ => rfl) ?_
      refine zq_isub rfl ?_
      refine zq_call_i (i := .invokevirtual 119) (r := [1, 147, 2, 1, 9]) rfl rfl (fun h hp => zr_avv rfl (hp.obj zq_a232)) (of_decide_eq_false rfl) w (fun x_4 s_3 hx_5 w => ?_)
      refine zq_call_i (i := .invokestatic 103) (r := [1, 155, 1, 0, 9]) rfl rfl (fun _ _ => rfl) (of_decide_eq_false rfl) w (fun x_7 s_6 hx_8 w => ?_)
      refine zq_eq0 rfl (zq_bo_in hx_8) (fun hb_9 => ?_) (fun hb_9 => ?_)
      · rw [if_pos hb_9] at w
        exact w
      · rw [if_neg hb_9] at w
        refine zq_run 2 (pc' := 101) (L' := [(.ref (232)), (zq_vi (x1)), (zq_vi (x2)), (zq_vi (x3)), v4]) (st' := [(zq_vi (x3)), (zq_vi (x1))]) (fun _ _ _ => rfl) ?_
        refine zq_isub rfl ?_
        refine zq_run 1 (pc' := 103) (L' := [(.ref (232)), (zq_vi (x1)), (zq_vi (x2)), (zq_vi (x3)), v4]) (st' := [(zq_vi (4)), (zq_vi (x1 - x3))]) (fun _ _ _ => rfl) ?_
        obtain ⟨g_10, w⟩ := w
        refine zq_ge rfl g_10 (of_decide_eq_true rfl) (fun hb_11 => ?_) (fun hb_11 => ?_)
        · rw [if_neg hb_11] at w
          exact w
        · rw [if_pos hb_11] at w
          refine zq_iinc (L' := [(.ref (232)), (zq_vi (x1)), (zq_vi (x2)), (zq_vi (x3 + (-1))), v4]) rfl rfl rfl ?_
          refine zq_run 1 (pc' := 77) (L' := [(.ref (232)), (zq_vi (x1)), (zq_vi (x2)), (zq_vi (x3 + (-1))), v4]) (st' := []) (fun _ _ _ => rfl) ?_
          exact w
set_option maxRecDepth 100000 in
/-- PaperObjectsModel.tail at 112 -/
theorem zw_191_112 {X : Nat × (Nat → Int32)} {s : zq_S} {K : Int → zq_S → Prop} {x1 : Int} (hx1 : zq_iv x1) {x2 : Int} (hx2 : zq_bo x2) {x3 : Int} (hx3 : zq_iv x3) {v4 : Value} (hv4 : v4.category = 1) (w : (if x2 = 0 then K ((-1)) s else (if x1 ≤ x3 then K ((-1)) s else (zq_iv (x1 - x3) ∧ (if x1 - x3 < 4 then (zq_iv (x3 - 10) ∧ (if x3 - 10 < 0 then K ((-1)) s else (zq_Ex X 164 0 [(.ref (232)), (zq_vi (1)), (zq_vi (x3 - 10)), (zq_vi (115)), (zq_vi (116)), (zq_vi (97)), (zq_vi (114))] [] s (zq_rp zq_bo fun x_8 s_7 => (if x_8 = 0 then K ((-1)) s_7 else (zq_Ex X 164 0 [(.ref (232)), (zq_vi (1)), (zq_vi ((x3 - 10) + 4)), (zq_vi (116)), (zq_vi (120)), (zq_vi (114)), (zq_vi (101))] [] s_7 (zq_rp zq_bo fun x_12 s_11 => (if x_12 = 0 then K ((-1)) s_11 else (zq_Ex X 147 0 [(.ref (232)), (zq_vi (1)), (zq_vi ((x3 - 10) + 8))] [] s_11 (zq_rp zq_ch fun x_16 s_15 => (if x_16 = 102 then (zq_Ex X 147 0 [(.ref (232)), (zq_vi (1)), (zq_vi ((x3 - 10) + 9))] [] s_15 (zq_rp zq_ch fun x_20 s_19 => (if x_20 = 10 then (zq_Ex X 167 0 [(.ref (232)), (zq_vi (1)), (zq_vi (x3)), (zq_vi (x1)), zz_no, zz_no, zz_no] [] s_19 (zq_rp zq_iv fun x_24 s_23 => K (x_24) s_23)) else K ((-1)) s_19))) else K ((-1)) s_15))))))))))) else K ((-1)) s))))) : zq_Ex X 191 112 [(.ref (232)), (zq_vi (x1)), (zq_vi (x2)), (zq_vi (x3)), v4] [] s (zq_rp zq_iv K) := by
  refine zq_run 2 (pc' := 115) (L' := [(.ref (232)), (zq_vi (x1)), (zq_vi (x2)), (zq_vi (x3)), v4]) (st' := [(zq_vi (10)), (zq_vi (x3))]) (fun _ _ _ => rfl) ?_
  refine zq_isub rfl ?_
  refine zq_run 2 (pc' := 119) (L' := [(.ref (232)), (zq_vi (x1)), (zq_vi (x2)), (zq_vi (x3)), (zq_vi (x3 - 10))]) (st' := [(zq_vi (x2))]) (fun _ _ _ => rfl) ?_
  refine zq_eq0 rfl (zq_bo_in hx2) (fun hb_1 => ?_) (fun hb_1 => ?_)
  · rw [if_pos hb_1] at w
    refine zq_run 3 (pc' := 214) (L' := [(.ref (232)), (zq_vi (x1)), (zq_vi (0)), (zq_vi (x3)), (zq_vi (x3 - 10))]) (st' := [(zq_vi (0))]) (fun _ _ _ => rfl) ?_
    refine zq_eq0 rfl (of_decide_eq_true rfl) (fun _ => ?_) (fun hb => absurd (by decide) hb)
    refine zq_run 1 (pc' := 228) (L' := [(.ref (232)), (zq_vi (x1)), (zq_vi (0)), (zq_vi (x3)), (zq_vi (x3 - 10))]) (st' := [(zq_vi ((-1)))]) (fun _ _ _ => rfl) ?_
    exact zq_iret rfl rfl rfl (⟨_, rfl, (of_decide_eq_true rfl), w⟩)
  · rw [if_neg hb_1] at w
    refine zq_run 2 (pc' := 124) (L' := [(.ref (232)), (zq_vi (x1)), (zq_vi (x2)), (zq_vi (x3)), (zq_vi (x3 - 10))]) (st' := [(zq_vi (x3)), (zq_vi (x1))]) (fun _ _ _ => rfl) ?_
    refine zq_le rfl hx1 hx3 (fun hb_2 => ?_) (fun hb_2 => ?_)
    · rw [if_pos hb_2] at w
      refine zq_run 3 (pc' := 214) (L' := [(.ref (232)), (zq_vi (x1)), (zq_vi (0)), (zq_vi (x3)), (zq_vi (x3 - 10))]) (st' := [(zq_vi (0))]) (fun _ _ _ => rfl) ?_
      refine zq_eq0 rfl (of_decide_eq_true rfl) (fun _ => ?_) (fun hb => absurd (by decide) hb)
      refine zq_run 1 (pc' := 228) (L' := [(.ref (232)), (zq_vi (x1)), (zq_vi (0)), (zq_vi (x3)), (zq_vi (x3 - 10))]) (st' := [(zq_vi ((-1)))]) (fun _ _ _ => rfl) ?_
      exact zq_iret rfl rfl rfl (⟨_, rfl, (of_decide_eq_true rfl), w⟩)
    · rw [if_neg hb_2] at w
      refine zq_run 2 (pc' := 129) (L' := [(.ref (232)), (zq_vi (x1)), (zq_vi (x2)), (zq_vi (x3)), (zq_vi (x3 - 10))]) (st' := [(zq_vi (x3)), (zq_vi (x1))]) (fun _ _ _ => rfl) ?_
      refine zq_isub rfl ?_
      refine zq_run 1 (pc' := 131) (L' := [(.ref (232)), (zq_vi (x1)), (zq_vi (x2)), (zq_vi (x3)), (zq_vi (x3 - 10))]) (st' := [(zq_vi (4)), (zq_vi (x1 - x3))]) (fun _ _ _ => rfl) ?_
      obtain ⟨g_3, w⟩ := w
      refine zq_ge rfl g_3 (of_decide_eq_true rfl) (fun hb_4 => ?_) (fun hb_4 => ?_)
      · rw [if_neg hb_4] at w
        refine zq_run 3 (pc' := 214) (L' := [(.ref (232)), (zq_vi (x1)), (zq_vi (0)), (zq_vi (x3)), (zq_vi (x3 - 10))]) (st' := [(zq_vi (0))]) (fun _ _ _ => rfl) ?_
        refine zq_eq0 rfl (of_decide_eq_true rfl) (fun _ => ?_) (fun hb => absurd (by decide) hb)
        refine zq_run 1 (pc' := 228) (L' := [(.ref (232)), (zq_vi (x1)), (zq_vi (0)), (zq_vi (x3)), (zq_vi (x3 - 10))]) (st' := [(zq_vi ((-1)))]) (fun _ _ _ => rfl) ?_
        exact zq_iret rfl rfl rfl (⟨_, rfl, (of_decide_eq_true rfl), w⟩)
      · rw [if_pos hb_4] at w
        refine zq_run 1 (pc' := 136) (L' := [(.ref (232)), (zq_vi (x1)), (zq_vi (x2)), (zq_vi (x3)), (zq_vi (x3 - 10))]) (st' := [(zq_vi (x3 - 10))]) (fun _ _ _ => rfl) ?_
        obtain ⟨g_5, w⟩ := w
        refine zq_lt0 rfl g_5 (fun hb_6 => ?_) (fun hb_6 => ?_)
        · rw [if_pos hb_6] at w
          refine zq_run 3 (pc' := 214) (L' := [(.ref (232)), (zq_vi (x1)), (zq_vi (0)), (zq_vi (x3)), (zq_vi (x3 - 10))]) (st' := [(zq_vi (0))]) (fun _ _ _ => rfl) ?_
          refine zq_eq0 rfl (of_decide_eq_true rfl) (fun _ => ?_) (fun hb => absurd (by decide) hb)
          refine zq_run 1 (pc' := 228) (L' := [(.ref (232)), (zq_vi (x1)), (zq_vi (0)), (zq_vi (x3)), (zq_vi (x3 - 10))]) (st' := [(zq_vi ((-1)))]) (fun _ _ _ => rfl) ?_
          exact zq_iret rfl rfl rfl (⟨_, rfl, (of_decide_eq_true rfl), w⟩)
        · rw [if_neg hb_6] at w
          refine zq_run 7 (pc' := 151) (L' := [(.ref (232)), (zq_vi (x1)), (zq_vi (x2)), (zq_vi (x3)), (zq_vi (x3 - 10))]) (st' := [(zq_vi (114)), (zq_vi (97)), (zq_vi (116)), (zq_vi (115)), (zq_vi (x3 - 10)), (zq_vi (1)), (.ref (232))]) (fun _ _ _ => rfl) ?_
          refine zq_call_i (i := .invokevirtual 154) (r := [1, 164, 6, 1, 9]) rfl rfl (fun h hp => zr_avv rfl (hp.obj zq_a232)) (of_decide_eq_false rfl) w (fun x_8 s_7 hx_9 w => ?_)
          refine zq_eq0 rfl (zq_bo_in hx_9) (fun hb_10 => ?_) (fun hb_10 => ?_)
          · rw [if_pos hb_10] at w
            refine zq_run 3 (pc' := 214) (L' := [(.ref (232)), (zq_vi (x1)), (zq_vi (0)), (zq_vi (x3)), (zq_vi (x3 - 10))]) (st' := [(zq_vi (0))]) (fun _ _ _ => rfl) ?_
            refine zq_eq0 rfl (of_decide_eq_true rfl) (fun _ => ?_) (fun hb => absurd (by decide) hb)
            refine zq_run 1 (pc' := 228) (L' := [(.ref (232)), (zq_vi (x1)), (zq_vi (0)), (zq_vi (x3)), (zq_vi (x3 - 10))]) (st' := [(zq_vi ((-1)))]) (fun _ _ _ => rfl) ?_
            exact zq_iret rfl rfl rfl (⟨_, rfl, (of_decide_eq_true rfl), w⟩)
          · rw [if_neg hb_10] at w
            refine zq_run 4 (pc' := 162) (L' := [(.ref (232)), (zq_vi (x1)), (zq_vi (x2)), (zq_vi (x3)), (zq_vi (x3 - 10))]) (st' := [(zq_vi (4)), (zq_vi (x3 - 10)), (zq_vi (1)), (.ref (232))]) (fun _ _ _ => rfl) ?_
            refine zq_iadd rfl ?_
            refine zq_run 4 (pc' := 171) (L' := [(.ref (232)), (zq_vi (x1)), (zq_vi (x2)), (zq_vi (x3)), (zq_vi (x3 - 10))]) (st' := [(zq_vi (101)), (zq_vi (114)), (zq_vi (120)), (zq_vi (116)), (zq_vi ((x3 - 10) + 4)), (zq_vi (1)), (.ref (232))]) (fun _ _ _ => rfl) ?_
            refine zq_call_i (i := .invokevirtual 154) (r := [1, 164, 6, 1, 9]) rfl rfl (fun h hp => zr_avv rfl (hp.obj zq_a232)) (of_decide_eq_false rfl) w (fun x_12 s_11 hx_13 w => ?_)
            refine zq_eq0 rfl (zq_bo_in hx_13) (fun hb_14 => ?_) (fun hb_14 => ?_)
            · rw [if_pos hb_14] at w
              refine zq_run 3 (pc' := 214) (L' := [(.ref (232)), (zq_vi (x1)), (zq_vi (0)), (zq_vi (x3)), (zq_vi (x3 - 10))]) (st' := [(zq_vi (0))]) (fun _ _ _ => rfl) ?_
              refine zq_eq0 rfl (of_decide_eq_true rfl) (fun _ => ?_) (fun hb => absurd (by decide) hb)
              refine zq_run 1 (pc' := 228) (L' := [(.ref (232)), (zq_vi (x1)), (zq_vi (0)), (zq_vi (x3)), (zq_vi (x3 - 10))]) (st' := [(zq_vi ((-1)))]) (fun _ _ _ => rfl) ?_
              exact zq_iret rfl rfl rfl (⟨_, rfl, (of_decide_eq_true rfl), w⟩)
            · rw [if_neg hb_14] at w
              refine zq_run 4 (pc' := 183) (L' := [(.ref (232)), (zq_vi (x1)), (zq_vi (x2)), (zq_vi (x3)), (zq_vi (x3 - 10))]) (st' := [(zq_vi (8)), (zq_vi (x3 - 10)), (zq_vi (1)), (.ref (232))]) (fun _ _ _ => rfl) ?_
              refine zq_iadd rfl ?_
              refine zq_call_i (i := .invokevirtual 119) (r := [1, 147, 2, 1, 9]) rfl rfl (fun h hp => zr_avv rfl (hp.obj zq_a232)) (of_decide_eq_false rfl) w (fun x_16 s_15 hx_17 w => ?_)
              refine zq_run 1 (pc' := 189) (L' := [(.ref (232)), (zq_vi (x1)), (zq_vi (x2)), (zq_vi (x3)), (zq_vi (x3 - 10))]) (st' := [(zq_vi (102)), (zq_vi (x_16))]) (fun _ _ _ => rfl) ?_
              refine zq_ne rfl (zq_ch_in hx_17) (of_decide_eq_true rfl) (fun hb_18 => ?_) (fun hb_18 => ?_)
              · rw [if_neg hb_18] at w
                refine zq_run 3 (pc' := 214) (L' := [(.ref (232)), (zq_vi (x1)), (zq_vi (0)), (zq_vi (x3)), (zq_vi (x3 - 10))]) (st' := [(zq_vi (0))]) (fun _ _ _ => rfl) ?_
                refine zq_eq0 rfl (of_decide_eq_true rfl) (fun _ => ?_) (fun hb => absurd (by decide) hb)
                refine zq_run 1 (pc' := 228) (L' := [(.ref (232)), (zq_vi (x1)), (zq_vi (0)), (zq_vi (x3)), (zq_vi (x3 - 10))]) (st' := [(zq_vi ((-1)))]) (fun _ _ _ => rfl) ?_
                exact zq_iret rfl rfl rfl (⟨_, rfl, (of_decide_eq_true rfl), w⟩)
              · rw [if_pos hb_18] at w
                refine zq_run 4 (pc' := 198) (L' := [(.ref (232)), (zq_vi (x1)), (zq_vi (x2)), (zq_vi (x3)), (zq_vi (x3 - 10))]) (st' := [(zq_vi (9)), (zq_vi (x3 - 10)), (zq_vi (1)), (.ref (232))]) (fun _ _ _ => rfl) ?_
                refine zq_iadd rfl ?_
                refine zq_call_i (i := .invokevirtual 119) (r := [1, 147, 2, 1, 9]) rfl rfl (fun h hp => zr_avv rfl (hp.obj zq_a232)) (of_decide_eq_false rfl) w (fun x_20 s_19 hx_21 w => ?_)
                refine zq_run 1 (pc' := 204) (L' := [(.ref (232)), (zq_vi (x1)), (zq_vi (x2)), (zq_vi (x3)), (zq_vi (x3 - 10))]) (st' := [(zq_vi (10)), (zq_vi (x_20))]) (fun _ _ _ => rfl) ?_
                refine zq_ne rfl (zq_ch_in hx_21) (of_decide_eq_true rfl) (fun hb_22 => ?_) (fun hb_22 => ?_)
                · rw [if_neg hb_22] at w
                  refine zq_run 3 (pc' := 214) (L' := [(.ref (232)), (zq_vi (x1)), (zq_vi (0)), (zq_vi (x3)), (zq_vi (x3 - 10))]) (st' := [(zq_vi (0))]) (fun _ _ _ => rfl) ?_
                  refine zq_eq0 rfl (of_decide_eq_true rfl) (fun _ => ?_) (fun hb => absurd (by decide) hb)
                  refine zq_run 1 (pc' := 228) (L' := [(.ref (232)), (zq_vi (x1)), (zq_vi (0)), (zq_vi (x3)), (zq_vi (x3 - 10))]) (st' := [(zq_vi ((-1)))]) (fun _ _ _ => rfl) ?_
                  exact zq_iret rfl rfl rfl (⟨_, rfl, (of_decide_eq_true rfl), w⟩)
                · rw [if_pos hb_22] at w
                  refine zq_run 4 (pc' := 214) (L' := [(.ref (232)), (zq_vi (x1)), (zq_vi (1)), (zq_vi (x3)), (zq_vi (x3 - 10))]) (st' := [(zq_vi (1))]) (fun _ _ _ => rfl) ?_
                  refine zq_eq0 rfl (of_decide_eq_true rfl) (fun hb => absurd hb (by decide)) (fun _ => ?_)
                  refine zq_run 4 (pc' := 221) (L' := [(.ref (232)), (zq_vi (x1)), (zq_vi (1)), (zq_vi (x3)), (zq_vi (x3 - 10))]) (st' := [(zq_vi (x1)), (zq_vi (x3)), (zq_vi (1)), (.ref (232))]) (fun _ _ _ => rfl) ?_
                  refine zq_call_i (i := .invokevirtual 162) (r := [1, 167, 3, 1, 9]) rfl rfl (fun h hp => zr_avv rfl (hp.obj zq_a232)) (of_decide_eq_false rfl) w (fun x_24 s_23 hx_25 w => ?_)
                  refine zq_run 1 (pc' := 228) (L' := [(.ref (232)), (zq_vi (x1)), (zq_vi (1)), (zq_vi (x3)), (zq_vi (x3 - 10))]) (st' := [(zq_vi (x_24))]) (fun _ _ _ => rfl) ?_
                  exact zq_iret rfl rfl rfl (⟨_, rfl, hx_25, w⟩)
set_option maxRecDepth 100000 in
/-- PaperObjectsModel.badLength(I)Z -/
theorem zw_192 {X : Nat × (Nat → Int32)} {s : zq_S} {K : Int → zq_S → Prop} {x1 : Int} (hx1 : zq_iv x1) (w : (((0 : Int) ≤ x1 ∧ x1 < (10 : Int)) ∧ (if zq_i s (242) (x1) = 0 then K (0) s else (zq_Ex X 175 0 [(.ref (232)), (zq_vi (10 + x1)), (zq_vi (0)), (.ref (256)), (zq_vi (6)), zz_no, zz_no, zz_no, zz_no] [] s (zq_rp zq_iv fun x_5 s_4 => (if x_5 < 0 then K (1) s_4 else (zq_Ex X 193 0 [(.ref (232)), (zq_vi (10 + x1)), (zq_vi (x_5)), zz_no, zz_no] [] s_4 (zq_rv fun s_8 => (if zq_i s_8 (232) (47) < 0 then K (1) s_8 else (zq_Ex X 159 0 [(.ref (232)), (zq_vi (zq_i s_8 (232) (47))), (zq_vi (zq_i s_8 (232) (48))), zz_no, zz_no] [] s_8 (zq_rp zq_iv fun x_12 s_11 => (if x_12 = 3 then (zq_Ex X 161 0 [(.ref (232)), (zq_vi (zq_i s_11 (232) (47))), (zq_vi (zq_i s_11 (232) (48))), zz_no] [] s_11 (zq_rp zq_iv fun x_17 s_16 => (zq_Ex X 167 0 [(.ref (232)), (zq_vi (zq_i s_16 (232) (47))), (zq_vi (zq_i s_16 (232) (48))), (zq_vi (x_17)), zz_no, zz_no, zz_no] [] s_16 (zq_rp zq_iv fun x_21 s_20 => (((0 : Int) ≤ x1 ∧ x1 < (10 : Int)) ∧ (if x_21 = zq_i s_20 (243) (x1) then K (0) s_20 else K (1) s_20)))))) else K (1) s_11)))))))))))) : zq_Ex X 192 0 [(.ref (232)), (zq_vi (x1)), zz_no, zz_no] [] s (zq_rp zq_bo K) := by
  refine zq_run 1 (pc' := 1) (L' := [(.ref (232)), (zq_vi (x1)), zz_no, zz_no]) (st' := [(.ref (232))]) (fun _ _ _ => rfl) ?_
  refine zq_getf_f (b := 242) rfl zq_a232 rfl rfl ?_
  refine zq_run 1 (pc' := 5) (L' := [(.ref (232)), (zq_vi (x1)), zz_no, zz_no]) (st' := [(zq_vi (x1)), (.ref (242))]) (fun _ _ _ => rfl) ?_
  obtain ⟨g_1, w⟩ := w
  refine zq_have (fun hR_2 => ?_)
  refine zq_ald_b (v := zq_i s (242) (x1)) rfl zq_a242 g_1.1 g_1.2 rfl ?_
  refine zq_ne0 rfl (zq_bo_in (hR_2.2.2.1 _ _ _ zq_a242)) (fun hb_3 => ?_) (fun hb_3 => ?_)
  · rw [if_neg hb_3] at w
    refine zq_run 3 (pc' := 15) (L' := [(.ref (232)), (zq_vi (x1)), zz_no, zz_no]) (st' := [(zq_vi (x1)), (zq_vi (10)), (.ref (232))]) (fun _ _ _ => rfl) ?_
    refine zq_iadd rfl ?_
    refine zq_run 2 (pc' := 18) (L' := [(.ref (232)), (zq_vi (x1)), zz_no, zz_no]) (st' := [(.ref (232)), (zq_vi (0)), (zq_vi (10 + x1)), (.ref (232))]) (fun _ _ _ => rfl) ?_
    refine zq_getf_f (b := 256) rfl zq_a232 rfl rfl ?_
    refine zq_run 1 (pc' := 23) (L' := [(.ref (232)), (zq_vi (x1)), zz_no, zz_no]) (st' := [(zq_vi (6)), (.ref (256)), (zq_vi (0)), (zq_vi (10 + x1)), (.ref (232))]) (fun _ _ _ => rfl) ?_
    refine zq_call_i (i := .invokevirtual 275) (r := [1, 175, 4, 1, 9]) rfl rfl (fun h hp => zr_avv rfl (hp.obj zq_a232)) (of_decide_eq_false rfl) w (fun x_5 s_4 hx_6 w => ?_)
    refine zq_run 2 (pc' := 28) (L' := [(.ref (232)), (zq_vi (x1)), (zq_vi (x_5)), zz_no]) (st' := [(zq_vi (x_5))]) (fun _ _ _ => rfl) ?_
    refine zq_ge0 rfl hx_6 (fun hb_7 => ?_) (fun hb_7 => ?_)
    · rw [if_neg hb_7] at w
      refine zq_run 3 (pc' := 37) (L' := [(.ref (232)), (zq_vi (x1)), (zq_vi (x_5)), zz_no]) (st' := [(zq_vi (x1)), (zq_vi (10)), (.ref (232))]) (fun _ _ _ => rfl) ?_
      refine zq_iadd rfl ?_
      refine zq_run 1 (pc' := 39) (L' := [(.ref (232)), (zq_vi (x1)), (zq_vi (x_5)), zz_no]) (st' := [(zq_vi (x_5)), (zq_vi (10 + x1)), (.ref (232))]) (fun _ _ _ => rfl) ?_
      refine zq_call_v (i := .invokevirtual 315) (r := [1, 193, 2, 1, 9]) rfl rfl (fun h hp => zr_avv rfl (hp.obj zq_a232)) (of_decide_eq_false rfl) w (fun s_8 w => ?_)
      refine zq_run 1 (pc' := 43) (L' := [(.ref (232)), (zq_vi (x1)), (zq_vi (x_5)), zz_no]) (st' := [(.ref (232))]) (fun _ _ _ => rfl) ?_
      refine zq_have (fun hR_9 => ?_)
      refine zq_getf_i (j := 47) (v := zq_i s_8 (232) (47)) rfl zq_a232 rfl rfl rfl ?_
      refine zq_lt0 rfl (hR_9.1 _ _) (fun hb_10 => ?_) (fun hb_10 => ?_)
      · rw [if_pos hb_10] at w
        refine zq_run 1 (pc' := 66) (L' := [(.ref (232)), (zq_vi (x1)), (zq_vi (x_5)), zz_no]) (st' := [(zq_vi (1))]) (fun _ _ _ => rfl) ?_
        exact zq_iret rfl rfl (congrArg Value.int (zq_nb (of_decide_eq_true rfl))) (⟨_, rfl, (of_decide_eq_true rfl), w⟩)
      · rw [if_neg hb_10] at w
        refine zq_run 2 (pc' := 51) (L' := [(.ref (232)), (zq_vi (x1)), (zq_vi (x_5)), zz_no]) (st' := [(.ref (232)), (.ref (232))]) (fun _ _ _ => rfl) ?_
        refine zq_getf_i (j := 47) (v := zq_i s_8 (232) (47)) rfl zq_a232 rfl rfl rfl ?_
        refine zq_run 1 (pc' := 55) (L' := [(.ref (232)), (zq_vi (x1)), (zq_vi (x_5)), zz_no]) (st' := [(.ref (232)), (zq_vi (zq_i s_8 (232) (47))), (.ref (232))]) (fun _ _ _ => rfl) ?_
        refine zq_getf_i (j := 48) (v := zq_i s_8 (232) (48)) rfl zq_a232 rfl rfl rfl ?_
        refine zq_call_i (i := .invokevirtual 202) (r := [1, 159, 2, 1, 9]) rfl rfl (fun h hp => zr_avv rfl (hp.obj zq_a232)) (of_decide_eq_false rfl) w (fun x_12 s_11 hx_13 w => ?_)
        refine zq_run 1 (pc' := 62) (L' := [(.ref (232)), (zq_vi (x1)), (zq_vi (x_5)), zz_no]) (st' := [(zq_vi (3)), (zq_vi (x_12))]) (fun _ _ _ => rfl) ?_
        refine zq_eq rfl hx_13 (of_decide_eq_true rfl) (fun hb_14 => ?_) (fun hb_14 => ?_)
        · rw [if_pos hb_14] at w
          refine zq_run 2 (pc' := 69) (L' := [(.ref (232)), (zq_vi (x1)), (zq_vi (x_5)), zz_no]) (st' := [(.ref (232)), (.ref (232))]) (fun _ _ _ => rfl) ?_
          refine zq_have (fun hR_15 => ?_)
          refine zq_getf_i (j := 47) (v := zq_i s_11 (232) (47)) rfl zq_a232 rfl rfl rfl ?_
          refine zq_run 1 (pc' := 73) (L' := [(.ref (232)), (zq_vi (x1)), (zq_vi (x_5)), zz_no]) (st' := [(.ref (232)), (zq_vi (zq_i s_11 (232) (47))), (.ref (232))]) (fun _ _ _ => rfl) ?_
          refine zq_getf_i (j := 48) (v := zq_i s_11 (232) (48)) rfl zq_a232 rfl rfl rfl ?_
          refine zq_call_i (i := .invokevirtual 134) (r := [1, 161, 2, 1, 9]) rfl rfl (fun h hp => zr_avv rfl (hp.obj zq_a232)) (of_decide_eq_false rfl) w (fun x_17 s_16 hx_18 w => ?_)
          refine zq_run 3 (pc' := 82) (L' := [(.ref (232)), (zq_vi (x1)), (zq_vi (x_5)), (zq_vi (x_17))]) (st' := [(.ref (232)), (.ref (232))]) (fun _ _ _ => rfl) ?_
          refine zq_have (fun hR_19 => ?_)
          refine zq_getf_i (j := 47) (v := zq_i s_16 (232) (47)) rfl zq_a232 rfl rfl rfl ?_
          refine zq_run 1 (pc' := 86) (L' := [(.ref (232)), (zq_vi (x1)), (zq_vi (x_5)), (zq_vi (x_17))]) (st' := [(.ref (232)), (zq_vi (zq_i s_16 (232) (47))), (.ref (232))]) (fun _ _ _ => rfl) ?_
          refine zq_getf_i (j := 48) (v := zq_i s_16 (232) (48)) rfl zq_a232 rfl rfl rfl ?_
          refine zq_run 1 (pc' := 90) (L' := [(.ref (232)), (zq_vi (x1)), (zq_vi (x_5)), (zq_vi (x_17))]) (st' := [(zq_vi (x_17)), (zq_vi (zq_i s_16 (232) (48))), (zq_vi (zq_i s_16 (232) (47))), (.ref (232))]) (fun _ _ _ => rfl) ?_
          refine zq_call_i (i := .invokevirtual 162) (r := [1, 167, 3, 1, 9]) rfl rfl (fun h hp => zr_avv rfl (hp.obj zq_a232)) (of_decide_eq_false rfl) w (fun x_21 s_20 hx_22 w => ?_)
          refine zq_run 1 (pc' := 94) (L' := [(.ref (232)), (zq_vi (x1)), (zq_vi (x_5)), (zq_vi (x_17))]) (st' := [(.ref (232)), (zq_vi (x_21))]) (fun _ _ _ => rfl) ?_
          refine zq_getf_f (b := 243) rfl zq_a232 rfl rfl ?_
          refine zq_run 1 (pc' := 98) (L' := [(.ref (232)), (zq_vi (x1)), (zq_vi (x_5)), (zq_vi (x_17))]) (st' := [(zq_vi (x1)), (.ref (243)), (zq_vi (x_21))]) (fun _ _ _ => rfl) ?_
          obtain ⟨g_23, w⟩ := w
          refine zq_have (fun hR_24 => ?_)
          refine zq_ald_i (v := zq_i s_20 (243) (x1)) rfl zq_a243 g_23.1 g_23.2 rfl ?_
          refine zq_eq rfl hx_22 (hR_24.1 _ _) (fun hb_25 => ?_) (fun hb_25 => ?_)
          · rw [if_pos hb_25] at w
            refine zq_run 1 (pc' := 107) (L' := [(.ref (232)), (zq_vi (x1)), (zq_vi (x_5)), (zq_vi (x_17))]) (st' := [(zq_vi (0))]) (fun _ _ _ => rfl) ?_
            exact zq_iret rfl rfl (congrArg Value.int (zq_nb (of_decide_eq_true rfl))) (⟨_, rfl, (of_decide_eq_true rfl), w⟩)
          · rw [if_neg hb_25] at w
            refine zq_run 2 (pc' := 107) (L' := [(.ref (232)), (zq_vi (x1)), (zq_vi (x_5)), (zq_vi (x_17))]) (st' := [(zq_vi (1))]) (fun _ _ _ => rfl) ?_
            exact zq_iret rfl rfl (congrArg Value.int (zq_nb (of_decide_eq_true rfl))) (⟨_, rfl, (of_decide_eq_true rfl), w⟩)
        · rw [if_neg hb_14] at w
          refine zq_run 1 (pc' := 66) (L' := [(.ref (232)), (zq_vi (x1)), (zq_vi (x_5)), zz_no]) (st' := [(zq_vi (1))]) (fun _ _ _ => rfl) ?_
          exact zq_iret rfl rfl (congrArg Value.int (zq_nb (of_decide_eq_true rfl))) (⟨_, rfl, (of_decide_eq_true rfl), w⟩)
    · rw [if_pos hb_7] at w
      refine zq_run 1 (pc' := 32) (L' := [(.ref (232)), (zq_vi (x1)), (zq_vi (x_5)), zz_no]) (st' := [(zq_vi (1))]) (fun _ _ _ => rfl) ?_
      exact zq_iret rfl rfl (congrArg Value.int (zq_nb (of_decide_eq_true rfl))) (⟨_, rfl, (of_decide_eq_true rfl), w⟩)
  · rw [if_pos hb_3] at w
    refine zq_run 1 (pc' := 10) (L' := [(.ref (232)), (zq_vi (x1)), zz_no, zz_no]) (st' := [(zq_vi (0))]) (fun _ _ _ => rfl) ?_
    exact zq_iret rfl rfl (congrArg Value.int (zq_nb (of_decide_eq_true rfl))) (⟨_, rfl, (of_decide_eq_true rfl), w⟩)
set_option maxRecDepth 100000 in
/-- PaperObjectsModel.resolve(II)V -/
theorem zw_193 {X : Nat × (Nat → Int32)} {s : zq_S} {K : zq_S → Prop} {x1 : Int} (hx1 : zq_iv x1) {x2 : Int} (hx2 : zq_iv x2) (w : zq_Ex X 193 2 [(.ref (232)), (zq_vi (x1)), (zq_vi (x2)), (zq_vi (0)), zz_no] [] s (zq_rv K)) : zq_Ex X 193 0 [(.ref (232)), (zq_vi (x1)), (zq_vi (x2)), zz_no, zz_no] [] s (zq_rv K) := by
  refine zq_run 2 (pc' := 2) (L' := [(.ref (232)), (zq_vi (x1)), (zq_vi (x2)), (zq_vi (0)), zz_no]) (st' := []) (fun _ _ _ => rfl) ?_
  exact w
set_option maxRecDepth 100000 in
/-- PaperObjectsModel.resolve at 2 -/
theorem zw_193_2 {X : Nat × (Nat → Int32)} {s : zq_S} {K : zq_S → Prop} {x1 : Int} (hx1 : zq_iv x1) {x2 : Int} (hx2 : zq_iv x2) {x3 : Int} (hx3 : zq_iv x3) {v4 : Value} (hv4 : v4.category = 1) (w : (if x3 < 10 then (((0 : Int) ≤ x3 ∧ x3 < (10 : Int)) ∧ zq_Ex X 193 2 [(.ref (232)), (zq_vi (x1)), (zq_vi (x2)), (zq_vi (x3 + 1)), v4] [] (zq_si s (254) (x3) (0)) (zq_rv K)) else zq_Ex X 193 31 [(.ref (232)), (zq_vi (x1)), (zq_vi (x2)), (zq_vi (x3)), v4] [] (zq_si (zq_si s (232) (47) (x1)) (232) (48) (x2)) (zq_rv K))) : zq_Ex X 193 2 [(.ref (232)), (zq_vi (x1)), (zq_vi (x2)), (zq_vi (x3)), v4] [] s (zq_rv K) := by
  refine zq_run 2 (pc' := 5) (L' := [(.ref (232)), (zq_vi (x1)), (zq_vi (x2)), (zq_vi (x3)), v4]) (st' := [(zq_vi (10)), (zq_vi (x3))]) (fun _ _ _ => rfl) ?_
  refine zq_ge rfl hx3 (of_decide_eq_true rfl) (fun hb_1 => ?_) (fun hb_1 => ?_)
  · rw [if_neg hb_1] at w
    refine zq_run 2 (pc' := 23) (L' := [(.ref (232)), (zq_vi (x1)), (zq_vi (x2)), (zq_vi (x3)), v4]) (st' := [(zq_vi (x1)), (.ref (232))]) (fun _ _ _ => rfl) ?_
    refine zq_putf_i (j := 47) rfl zq_a232 rfl rfl rfl hx1 ?_
    refine zq_run 2 (pc' := 28) (L' := [(.ref (232)), (zq_vi (x1)), (zq_vi (x2)), (zq_vi (x3)), v4]) (st' := [(zq_vi (x2)), (.ref (232))]) (fun _ _ _ => rfl) ?_
    refine zq_putf_i (j := 48) rfl zq_a232 rfl rfl rfl hx2 ?_
    exact w
  · rw [if_pos hb_1] at w
    refine zq_run 1 (pc' := 9) (L' := [(.ref (232)), (zq_vi (x1)), (zq_vi (x2)), (zq_vi (x3)), v4]) (st' := [(.ref (232))]) (fun _ _ _ => rfl) ?_
    refine zq_getf_f (b := 254) rfl zq_a232 rfl rfl ?_
    refine zq_run 2 (pc' := 14) (L' := [(.ref (232)), (zq_vi (x1)), (zq_vi (x2)), (zq_vi (x3)), v4]) (st' := [(zq_vi (0)), (zq_vi (x3)), (.ref (254))]) (fun _ _ _ => rfl) ?_
    obtain ⟨g_2, w⟩ := w
    refine zq_ast_b rfl zq_a254 g_2.1 g_2.2 (of_decide_eq_true rfl) ?_
    refine zq_iinc (L' := [(.ref (232)), (zq_vi (x1)), (zq_vi (x2)), (zq_vi (x3 + 1)), v4]) rfl rfl rfl ?_
    refine zq_run 1 (pc' := 2) (L' := [(.ref (232)), (zq_vi (x1)), (zq_vi (x2)), (zq_vi (x3 + 1)), v4]) (st' := []) (fun _ _ _ => rfl) ?_
    exact w
set_option maxRecDepth 100000 in
/-- PaperObjectsModel.resolve at 31 -/
theorem zw_193_31 {X : Nat × (Nat → Int32)} {s : zq_S} {K : zq_S → Prop} {x1 : Int} (hx1 : zq_iv x1) {x2 : Int} (hx2 : zq_iv x2) {x3 : Int} (hx3 : zq_iv x3) {v4 : Value} (hv4 : v4.category = 1) (w : (if zq_i s (232) (47) < 0 then K s else (zq_Ex X 159 0 [(.ref (232)), (zq_vi (zq_i s (232) (47))), (zq_vi (zq_i s (232) (48))), zz_no, zz_no] [] s (zq_rp zq_iv fun x_4 s_3 => (if x_4 = 8 then (zq_Ex X 189 0 [(.ref (232)), (zq_vi (zq_i s_3 (232) (47))), (zq_vi (zq_i s_3 (232) (48)))] [] s_3 (zq_rp zq_iv fun x_9 s_8 => (zq_Ex X 190 0 [(.ref (232)), (zq_vi (zq_i s_8 (232) (47))), (zq_vi (zq_i s_8 (232) (48)))] [] s_8 (zq_rp zq_iv fun x_13 s_12 => (zq_Ex X 187 0 [(.ref (232)), (zq_vi (x_9)), (zq_vi (x_13))] [] s_12 (zq_rp zq_bo fun x_16 s_15 => (if x_16 = 0 then zq_Ex X 193 31 [(.ref (232)), (zq_vi (x1)), (zq_vi (x2)), (zq_vi (x_9)), (zq_vi (x_13))] [] (zq_si (zq_si s_15 (232) (47) (10)) (232) (48) (0)) (zq_rv K) else (((0 : Int) ≤ x_9 ∧ x_9 < (10 : Int)) ∧ (if zq_i s_15 (254) (x_9) = 0 then (((0 : Int) ≤ x_9 ∧ x_9 < (10 : Int)) ∧ (zq_iv (10 + x_9) ∧ zq_Ex X 193 31 [(.ref (232)), (zq_vi (x1)), (zq_vi (x2)), (zq_vi (x_9)), (zq_vi (x_13))] [] (zq_si (zq_si (zq_si s_15 (254) (x_9) (1)) (232) (47) (10 + x_9)) (232) (48) (0)) (zq_rv K))) else zq_Ex X 193 31 [(.ref (232)), (zq_vi (x1)), (zq_vi (x2)), (zq_vi (x_9)), (zq_vi (x_13))] [] (zq_si s_15 (232) (47) ((-1))) (zq_rv K)))))))))) else K s_3))))) : zq_Ex X 193 31 [(.ref (232)), (zq_vi (x1)), (zq_vi (x2)), (zq_vi (x3)), v4] [] s (zq_rv K) := by
  refine zq_run 1 (pc' := 32) (L' := [(.ref (232)), (zq_vi (x1)), (zq_vi (x2)), (zq_vi (x3)), v4]) (st' := [(.ref (232))]) (fun _ _ _ => rfl) ?_
  refine zq_have (fun hR_1 => ?_)
  refine zq_getf_i (j := 47) (v := zq_i s (232) (47)) rfl zq_a232 rfl rfl rfl ?_
  refine zq_lt0 rfl (hR_1.1 _ _) (fun hb_2 => ?_) (fun hb_2 => ?_)
  · rw [if_pos hb_2] at w
    exact zq_vret rfl rfl (⟨rfl, w⟩)
  · rw [if_neg hb_2] at w
    refine zq_run 2 (pc' := 40) (L' := [(.ref (232)), (zq_vi (x1)), (zq_vi (x2)), (zq_vi (x3)), v4]) (st' := [(.ref (232)), (.ref (232))]) (fun _ _ _ => rfl) ?_
    refine zq_getf_i (j := 47) (v := zq_i s (232) (47)) rfl zq_a232 rfl rfl rfl ?_
    refine zq_run 1 (pc' := 44) (L' := [(.ref (232)), (zq_vi (x1)), (zq_vi (x2)), (zq_vi (x3)), v4]) (st' := [(.ref (232)), (zq_vi (zq_i s (232) (47))), (.ref (232))]) (fun _ _ _ => rfl) ?_
    refine zq_getf_i (j := 48) (v := zq_i s (232) (48)) rfl zq_a232 rfl rfl rfl ?_
    refine zq_call_i (i := .invokevirtual 202) (r := [1, 159, 2, 1, 9]) rfl rfl (fun h hp => zr_avv rfl (hp.obj zq_a232)) (of_decide_eq_false rfl) w (fun x_4 s_3 hx_5 w => ?_)
    refine zq_run 1 (pc' := 52) (L' := [(.ref (232)), (zq_vi (x1)), (zq_vi (x2)), (zq_vi (x3)), v4]) (st' := [(zq_vi (8)), (zq_vi (x_4))]) (fun _ _ _ => rfl) ?_
    refine zq_ne rfl hx_5 (of_decide_eq_true rfl) (fun hb_6 => ?_) (fun hb_6 => ?_)
    · rw [if_neg hb_6] at w
      exact zq_vret rfl rfl (⟨rfl, w⟩)
    · rw [if_pos hb_6] at w
      refine zq_run 2 (pc' := 57) (L' := [(.ref (232)), (zq_vi (x1)), (zq_vi (x2)), (zq_vi (x3)), v4]) (st' := [(.ref (232)), (.ref (232))]) (fun _ _ _ => rfl) ?_
      refine zq_have (fun hR_7 => ?_)
      refine zq_getf_i (j := 47) (v := zq_i s_3 (232) (47)) rfl zq_a232 rfl rfl rfl ?_
      refine zq_run 1 (pc' := 61) (L' := [(.ref (232)), (zq_vi (x1)), (zq_vi (x2)), (zq_vi (x3)), v4]) (st' := [(.ref (232)), (zq_vi (zq_i s_3 (232) (47))), (.ref (232))]) (fun _ _ _ => rfl) ?_
      refine zq_getf_i (j := 48) (v := zq_i s_3 (232) (48)) rfl zq_a232 rfl rfl rfl ?_
      refine zq_call_i (i := .invokevirtual 243) (r := [1, 189, 2, 1, 9]) rfl rfl (fun h hp => zr_avv rfl (hp.obj zq_a232)) (of_decide_eq_false rfl) w (fun x_9 s_8 hx_10 w => ?_)
      refine zq_run 3 (pc' := 70) (L' := [(.ref (232)), (zq_vi (x1)), (zq_vi (x2)), (zq_vi (x_9)), v4]) (st' := [(.ref (232)), (.ref (232))]) (fun _ _ _ => rfl) ?_
      refine zq_have (fun hR_11 => ?_)
      refine zq_getf_i (j := 47) (v := zq_i s_8 (232) (47)) rfl zq_a232 rfl rfl rfl ?_
      refine zq_run 1 (pc' := 74) (L' := [(.ref (232)), (zq_vi (x1)), (zq_vi (x2)), (zq_vi (x_9)), v4]) (st' := [(.ref (232)), (zq_vi (zq_i s_8 (232) (47))), (.ref (232))]) (fun _ _ _ => rfl) ?_
      refine zq_getf_i (j := 48) (v := zq_i s_8 (232) (48)) rfl zq_a232 rfl rfl rfl ?_
      refine zq_call_i (i := .invokevirtual 246) (r := [1, 190, 2, 1, 9]) rfl rfl (fun h hp => zr_avv rfl (hp.obj zq_a232)) (of_decide_eq_false rfl) w (fun x_13 s_12 hx_14 w => ?_)
      refine zq_run 4 (pc' := 86) (L' := [(.ref (232)), (zq_vi (x1)), (zq_vi (x2)), (zq_vi (x_9)), (zq_vi (x_13))]) (st' := [(zq_vi (x_13)), (zq_vi (x_9)), (.ref (232))]) (fun _ _ _ => rfl) ?_
      refine zq_call_i (i := .invokevirtual 249) (r := [1, 187, 2, 1, 9]) rfl rfl (fun h hp => zr_avv rfl (hp.obj zq_a232)) (of_decide_eq_false rfl) w (fun x_16 s_15 hx_17 w => ?_)
      refine zq_ne0 rfl (zq_bo_in hx_17) (fun hb_18 => ?_) (fun hb_18 => ?_)
      · rw [if_neg hb_18] at w
        refine zq_run 1 (pc' := 107) (L' := [(.ref (232)), (zq_vi (x1)), (zq_vi (x2)), (zq_vi (x_9)), (zq_vi (x_13))]) (st' := [(.ref (232))]) (fun _ _ _ => rfl) ?_
        refine zq_getf_f (b := 254) rfl zq_a232 rfl rfl ?_
        refine zq_run 1 (pc' := 111) (L' := [(.ref (232)), (zq_vi (x1)), (zq_vi (x2)), (zq_vi (x_9)), (zq_vi (x_13))]) (st' := [(zq_vi (x_9)), (.ref (254))]) (fun _ _ _ => rfl) ?_
        obtain ⟨g_19, w⟩ := w
        refine zq_have (fun hR_20 => ?_)
        refine zq_ald_b (v := zq_i s_15 (254) (x_9)) rfl zq_a254 g_19.1 g_19.2 rfl ?_
        refine zq_eq0 rfl (zq_bo_in (hR_20.2.2.1 _ _ _ zq_a254)) (fun hb_21 => ?_) (fun hb_21 => ?_)
        · rw [if_pos hb_21] at w
          refine zq_run 1 (pc' := 124) (L' := [(.ref (232)), (zq_vi (x1)), (zq_vi (x2)), (zq_vi (x_9)), (zq_vi (x_13))]) (st' := [(.ref (232))]) (fun _ _ _ => rfl) ?_
          refine zq_getf_f (b := 254) rfl zq_a232 rfl rfl ?_
          refine zq_run 2 (pc' := 129) (L' := [(.ref (232)), (zq_vi (x1)), (zq_vi (x2)), (zq_vi (x_9)), (zq_vi (x_13))]) (st' := [(zq_vi (1)), (zq_vi (x_9)), (.ref (254))]) (fun _ _ _ => rfl) ?_
          obtain ⟨g_22, w⟩ := w
          refine zq_ast_b rfl zq_a254 g_22.1 g_22.2 (of_decide_eq_true rfl) ?_
          refine zq_run 3 (pc' := 134) (L' := [(.ref (232)), (zq_vi (x1)), (zq_vi (x2)), (zq_vi (x_9)), (zq_vi (x_13))]) (st' := [(zq_vi (x_9)), (zq_vi (10)), (.ref (232))]) (fun _ _ _ => rfl) ?_
          refine zq_iadd rfl ?_
          obtain ⟨g_23, w⟩ := w
          refine zq_putf_i (j := 47) rfl zq_a232 rfl rfl rfl g_23 ?_
          refine zq_run 2 (pc' := 140) (L' := [(.ref (232)), (zq_vi (x1)), (zq_vi (x2)), (zq_vi (x_9)), (zq_vi (x_13))]) (st' := [(zq_vi (0)), (.ref (232))]) (fun _ _ _ => rfl) ?_
          refine zq_putf_i (j := 48) rfl zq_a232 rfl rfl rfl (of_decide_eq_true rfl) ?_
          refine zq_run 1 (pc' := 31) (L' := [(.ref (232)), (zq_vi (x1)), (zq_vi (x2)), (zq_vi (x_9)), (zq_vi (x_13))]) (st' := []) (fun _ _ _ => rfl) ?_
          exact w
        · rw [if_neg hb_21] at w
          refine zq_run 2 (pc' := 117) (L' := [(.ref (232)), (zq_vi (x1)), (zq_vi (x2)), (zq_vi (x_9)), (zq_vi (x_13))]) (st' := [(zq_vi ((-1))), (.ref (232))]) (fun _ _ _ => rfl) ?_
          refine zq_putf_i (j := 47) rfl zq_a232 rfl rfl rfl (of_decide_eq_true rfl) ?_
          refine zq_run 2 (pc' := 31) (L' := [(.ref (232)), (zq_vi (x1)), (zq_vi (x2)), (zq_vi (x_9)), (zq_vi (x_13))]) (st' := []) (fun _ _ _ => rfl) ?_
          exact w
      · rw [if_pos hb_18] at w
        refine zq_run 2 (pc' := 95) (L' := [(.ref (232)), (zq_vi (x1)), (zq_vi (x2)), (zq_vi (x_9)), (zq_vi (x_13))]) (st' := [(zq_vi (10)), (.ref (232))]) (fun _ _ _ => rfl) ?_
        refine zq_putf_i (j := 47) rfl zq_a232 rfl rfl rfl (of_decide_eq_true rfl) ?_
        refine zq_run 2 (pc' := 100) (L' := [(.ref (232)), (zq_vi (x1)), (zq_vi (x2)), (zq_vi (x_9)), (zq_vi (x_13))]) (st' := [(zq_vi (0)), (.ref (232))]) (fun _ _ _ => rfl) ?_
        refine zq_putf_i (j := 48) rfl zq_a232 rfl rfl rfl (of_decide_eq_true rfl) ?_
        refine zq_run 2 (pc' := 31) (L' := [(.ref (232)), (zq_vi (x1)), (zq_vi (x2)), (zq_vi (x_9)), (zq_vi (x_13))]) (st' := []) (fun _ _ _ => rfl) ?_
        exact w
set_option maxRecDepth 100000 in
/-- PaperObjectsModel.out4(CCCC)V -/
theorem zw_194 {X : Nat × (Nat → Int32)} {s : zq_S} {K : zq_S → Prop} {x1 : Int} (hx1 : zq_ch x1) {x2 : Int} (hx2 : zq_ch x2) {x3 : Int} (hx3 : zq_ch x3) {x4 : Int} (hx4 : zq_ch x4) (w : (zq_Ex X 195 0 [(.ref (232)), (zq_vi (x1))] [] s (zq_rv fun s_1 => (zq_Ex X 195 0 [(.ref (232)), (zq_vi (x2))] [] s_1 (zq_rv fun s_2 => (zq_Ex X 195 0 [(.ref (232)), (zq_vi (x3))] [] s_2 (zq_rv fun s_3 => (zq_Ex X 195 0 [(.ref (232)), (zq_vi (x4))] [] s_3 (zq_rv fun s_4 => K s_4))))))))) : zq_Ex X 194 0 [(.ref (232)), (zq_vi (x1)), (zq_vi (x2)), (zq_vi (x3)), (zq_vi (x4))] [] s (zq_rv K) := by
  refine zq_run 2 (pc' := 2) (L' := [(.ref (232)), (zq_vi (x1)), (zq_vi (x2)), (zq_vi (x3)), (zq_vi (x4))]) (st' := [(zq_vi (x1)), (.ref (232))]) (fun _ _ _ => rfl) ?_
  refine zq_call_v (i := .invokevirtual 296) (r := [1, 195, 1, 1, 9]) rfl rfl (fun h hp => zr_avv rfl (hp.obj zq_a232)) (of_decide_eq_false rfl) w (fun s_1 w => ?_)
  refine zq_run 2 (pc' := 7) (L' := [(.ref (232)), (zq_vi (x1)), (zq_vi (x2)), (zq_vi (x3)), (zq_vi (x4))]) (st' := [(zq_vi (x2)), (.ref (232))]) (fun _ _ _ => rfl) ?_
  refine zq_call_v (i := .invokevirtual 296) (r := [1, 195, 1, 1, 9]) rfl rfl (fun h hp => zr_avv rfl (hp.obj zq_a232)) (of_decide_eq_false rfl) w (fun s_2 w => ?_)
  refine zq_run 2 (pc' := 12) (L' := [(.ref (232)), (zq_vi (x1)), (zq_vi (x2)), (zq_vi (x3)), (zq_vi (x4))]) (st' := [(zq_vi (x3)), (.ref (232))]) (fun _ _ _ => rfl) ?_
  refine zq_call_v (i := .invokevirtual 296) (r := [1, 195, 1, 1, 9]) rfl rfl (fun h hp => zr_avv rfl (hp.obj zq_a232)) (of_decide_eq_false rfl) w (fun s_3 w => ?_)
  refine zq_run 2 (pc' := 18) (L' := [(.ref (232)), (zq_vi (x1)), (zq_vi (x2)), (zq_vi (x3)), (zq_vi (x4))]) (st' := [(zq_vi (x4)), (.ref (232))]) (fun _ _ _ => rfl) ?_
  refine zq_call_v (i := .invokevirtual 296) (r := [1, 195, 1, 1, 9]) rfl rfl (fun h hp => zr_avv rfl (hp.obj zq_a232)) (of_decide_eq_false rfl) w (fun s_4 w => ?_)
  exact zq_vret rfl rfl (⟨rfl, w⟩)
set_option maxRecDepth 100000 in
/-- PaperObjectsModel.out(C)V -/
theorem zw_195 {X : Nat × (Nat → Int32)} {s : zq_S} {K : zq_S → Prop} {x1 : Int} (hx1 : zq_ch x1) (w : (((0 : Int) ≤ zq_i s (232) (7) ∧ zq_i s (232) (7) < (6500 : Int)) ∧ (zq_iv ((zq_i s (232) (7)) + 1) ∧ K (zq_si (zq_si s (236) (zq_i s (232) (7)) (x1)) (232) (7) ((zq_i s (232) (7)) + 1))))) : zq_Ex X 195 0 [(.ref (232)), (zq_vi (x1))] [] s (zq_rv K) := by
  refine zq_run 1 (pc' := 1) (L' := [(.ref (232)), (zq_vi (x1))]) (st' := [(.ref (232))]) (fun _ _ _ => rfl) ?_
  refine zq_getf_f (b := 236) rfl zq_a232 rfl rfl ?_
  refine zq_run 1 (pc' := 5) (L' := [(.ref (232)), (zq_vi (x1))]) (st' := [(.ref (232)), (.ref (236))]) (fun _ _ _ => rfl) ?_
  refine zq_have (fun hR_1 => ?_)
  refine zq_getf_i (j := 7) (v := zq_i s (232) (7)) rfl zq_a232 rfl rfl rfl ?_
  refine zq_run 1 (pc' := 9) (L' := [(.ref (232)), (zq_vi (x1))]) (st' := [(zq_vi (x1)), (zq_vi (zq_i s (232) (7))), (.ref (236))]) (fun _ _ _ => rfl) ?_
  obtain ⟨g_2, w⟩ := w
  refine zq_ast_c rfl zq_a236 g_2.1 g_2.2 hx1 ?_
  refine zq_run 2 (pc' := 12) (L' := [(.ref (232)), (zq_vi (x1))]) (st' := [(.ref (232)), (.ref (232))]) (fun _ _ _ => rfl) ?_
  have e_3 : zq_i (zq_si s (236) (zq_i s (232) (7)) (x1)) (232) (7) = zq_i s (232) (7) := by simp [zq_i_si, zq_i_sr, zq_i_sl]
  refine zq_getf_i (j := 7) (v := zq_i s (232) (7)) rfl zq_a232 rfl rfl e_3 ?_
  refine zq_run 1 (pc' := 16) (L' := [(.ref (232)), (zq_vi (x1))]) (st' := [(zq_vi (1)), (zq_vi (zq_i s (232) (7))), (.ref (232))]) (fun _ _ _ => rfl) ?_
  refine zq_iadd rfl ?_
  obtain ⟨g_4, w⟩ := w
  refine zq_putf_i (j := 7) rfl zq_a232 rfl rfl rfl g_4 ?_
  exact zq_vret rfl rfl (⟨rfl, w⟩)
set_option maxRecDepth 100000 in
/-- PaperObjectsModel.outObject(I)V -/
theorem zw_196 {X : Nat × (Nat → Int32)} {s : zq_S} {K : zq_S → Prop} {x1 : Int} (hx1 : zq_iv x1) (w : (zq_Ex X 195 0 [(.ref (232)), (zq_vi ((48 + x1) % 65536))] [] s (zq_rv fun s_1 => (zq_Ex X 195 0 [(.ref (232)), (zq_vi (32))] [] s_1 (zq_rv fun s_2 => (((0 : Int) ≤ x1 ∧ x1 < (10 : Int)) ∧ (zq_Ex X 195 0 [(.ref (232)), (zq_vi ((48 + (zq_i s_2 (238) (x1))) % 65536))] [] s_2 (zq_rv fun s_5 => (zq_Ex X 194 0 [(.ref (232)), (zq_vi (32)), (zq_vi (111)), (zq_vi (98)), (zq_vi (106))] [] s_5 (zq_rv fun s_6 => (zq_Ex X 195 0 [(.ref (232)), (zq_vi (10))] [] s_6 (zq_rv fun s_7 => zq_Ex X 196 49 [(.ref (232)), (zq_vi (x1)), (zq_vi (0))] [] s_7 (zq_rv K))))))))))))) : zq_Ex X 196 0 [(.ref (232)), (zq_vi (x1)), zz_no] [] s (zq_rv K) := by
  refine zq_run 3 (pc' := 4) (L' := [(.ref (232)), (zq_vi (x1)), zz_no]) (st' := [(zq_vi (x1)), (zq_vi (48)), (.ref (232))]) (fun _ _ _ => rfl) ?_
  refine zq_iadd rfl ?_
  refine zq_i2c rfl ?_
  refine zq_call_v (i := .invokevirtual 296) (r := [1, 195, 1, 1, 9]) rfl rfl (fun h hp => zr_avv rfl (hp.obj zq_a232)) (of_decide_eq_false rfl) w (fun s_1 w => ?_)
  refine zq_run 2 (pc' := 12) (L' := [(.ref (232)), (zq_vi (x1)), zz_no]) (st' := [(zq_vi (32)), (.ref (232))]) (fun _ _ _ => rfl) ?_
  refine zq_call_v (i := .invokevirtual 296) (r := [1, 195, 1, 1, 9]) rfl rfl (fun h hp => zr_avv rfl (hp.obj zq_a232)) (of_decide_eq_false rfl) w (fun s_2 w => ?_)
  refine zq_run 3 (pc' := 19) (L' := [(.ref (232)), (zq_vi (x1)), zz_no]) (st' := [(.ref (232)), (zq_vi (48)), (.ref (232))]) (fun _ _ _ => rfl) ?_
  refine zq_getf_f (b := 238) rfl zq_a232 rfl rfl ?_
  refine zq_run 1 (pc' := 23) (L' := [(.ref (232)), (zq_vi (x1)), zz_no]) (st' := [(zq_vi (x1)), (.ref (238)), (zq_vi (48)), (.ref (232))]) (fun _ _ _ => rfl) ?_
  obtain ⟨g_3, w⟩ := w
  refine zq_have (fun hR_4 => ?_)
  refine zq_ald_i (v := zq_i s_2 (238) (x1)) rfl zq_a238 g_3.1 g_3.2 rfl ?_
  refine zq_iadd rfl ?_
  refine zq_i2c rfl ?_
  refine zq_call_v (i := .invokevirtual 296) (r := [1, 195, 1, 1, 9]) rfl rfl (fun h hp => zr_avv rfl (hp.obj zq_a232)) (of_decide_eq_false rfl) w (fun s_5 w => ?_)
  refine zq_run 5 (pc' := 38) (L' := [(.ref (232)), (zq_vi (x1)), zz_no]) (st' := [(zq_vi (106)), (zq_vi (98)), (zq_vi (111)), (zq_vi (32)), (.ref (232))]) (fun _ _ _ => rfl) ?_
  refine zq_call_v (i := .invokevirtual 302) (r := [1, 194, 4, 1, 9]) rfl rfl (fun h hp => zr_avv rfl (hp.obj zq_a232)) (of_decide_eq_false rfl) w (fun s_6 w => ?_)
  refine zq_run 2 (pc' := 44) (L' := [(.ref (232)), (zq_vi (x1)), zz_no]) (st' := [(zq_vi (10)), (.ref (232))]) (fun _ _ _ => rfl) ?_
  refine zq_call_v (i := .invokevirtual 296) (r := [1, 195, 1, 1, 9]) rfl rfl (fun h hp => zr_avv rfl (hp.obj zq_a232)) (of_decide_eq_false rfl) w (fun s_7 w => ?_)
  refine zq_run 2 (pc' := 49) (L' := [(.ref (232)), (zq_vi (x1)), (zq_vi (0))]) (st' := []) (fun _ _ _ => rfl) ?_
  exact w
set_option maxRecDepth 100000 in
/-- PaperObjectsModel.outObject at 49 -/
theorem zw_196_49 {X : Nat × (Nat → Int32)} {s : zq_S} {K : zq_S → Prop} {x1 : Int} (hx1 : zq_iv x1) {x2 : Int} (hx2 : zq_iv x2) (w : (((0 : Int) ≤ x1 ∧ x1 < (10 : Int)) ∧ (if x2 < zq_i s (240) (x1) then (((0 : Int) ≤ (500 * x1) + x2 ∧ (500 * x1) + x2 < (5000 : Int)) ∧ (zq_Ex X 195 0 [(.ref (232)), (zq_vi (zq_i s (241) ((500 * x1) + x2)))] [] s (zq_rv fun s_17 => zq_Ex X 196 49 [(.ref (232)), (zq_vi (x1)), (zq_vi (x2 + 1))] [] s_17 (zq_rv K)))) else (zq_Ex X 195 0 [(.ref (232)), (zq_vi (10))] [] s (zq_rv fun s_4 => (((0 : Int) ≤ x1 ∧ x1 < (10 : Int)) ∧ (if zq_i s_4 (242) (x1) = 0 then (zq_Ex X 194 0 [(.ref (232)), (zq_vi (101)), (zq_vi (110)), (zq_vi (100)), (zq_vi (111))] [] s_4 (zq_rv fun s_8 => (zq_Ex X 195 0 [(.ref (232)), (zq_vi (98))] [] s_8 (zq_rv fun s_9 => (zq_Ex X 195 0 [(.ref (232)), (zq_vi (106))] [] s_9 (zq_rv fun s_10 => (zq_Ex X 195 0 [(.ref (232)), (zq_vi (10))] [] s_10 (zq_rv fun s_11 => K s_11)))))))) else (zq_Ex X 194 0 [(.ref (232)), (zq_vi (115)), (zq_vi (116)), (zq_vi (114)), (zq_vi (101))] [] s_4 (zq_rv fun s_12 => (zq_Ex X 195 0 [(.ref (232)), (zq_vi (97))] [] s_12 (zq_rv fun s_13 => (zq_Ex X 195 0 [(.ref (232)), (zq_vi (109))] [] s_13 (zq_rv fun s_14 => (zq_Ex X 195 0 [(.ref (232)), (zq_vi (10))] [] s_14 (zq_rv fun s_15 => zq_Ex X 196 128 [(.ref (232)), (zq_vi (x1)), (zq_vi (0))] [] s_15 (zq_rv K)))))))))))))))) : zq_Ex X 196 49 [(.ref (232)), (zq_vi (x1)), (zq_vi (x2))] [] s (zq_rv K) := by
  refine zq_run 2 (pc' := 51) (L' := [(.ref (232)), (zq_vi (x1)), (zq_vi (x2))]) (st' := [(.ref (232)), (zq_vi (x2))]) (fun _ _ _ => rfl) ?_
  refine zq_getf_f (b := 240) rfl zq_a232 rfl rfl ?_
  refine zq_run 1 (pc' := 55) (L' := [(.ref (232)), (zq_vi (x1)), (zq_vi (x2))]) (st' := [(zq_vi (x1)), (.ref (240)), (zq_vi (x2))]) (fun _ _ _ => rfl) ?_
  obtain ⟨g_1, w⟩ := w
  refine zq_have (fun hR_2 => ?_)
  refine zq_ald_i (v := zq_i s (240) (x1)) rfl zq_a240 g_1.1 g_1.2 rfl ?_
  refine zq_ge rfl hx2 (hR_2.1 _ _) (fun hb_3 => ?_) (fun hb_3 => ?_)
  · rw [if_neg hb_3] at w
    refine zq_run 2 (pc' := 84) (L' := [(.ref (232)), (zq_vi (x1)), (zq_vi (x2))]) (st' := [(zq_vi (10)), (.ref (232))]) (fun _ _ _ => rfl) ?_
    refine zq_call_v (i := .invokevirtual 296) (r := [1, 195, 1, 1, 9]) rfl rfl (fun h hp => zr_avv rfl (hp.obj zq_a232)) (of_decide_eq_false rfl) w (fun s_4 w => ?_)
    refine zq_run 1 (pc' := 88) (L' := [(.ref (232)), (zq_vi (x1)), (zq_vi (x2))]) (st' := [(.ref (232))]) (fun _ _ _ => rfl) ?_
    refine zq_getf_f (b := 242) rfl zq_a232 rfl rfl ?_
    refine zq_run 1 (pc' := 92) (L' := [(.ref (232)), (zq_vi (x1)), (zq_vi (x2))]) (st' := [(zq_vi (x1)), (.ref (242))]) (fun _ _ _ => rfl) ?_
    obtain ⟨g_5, w⟩ := w
    refine zq_have (fun hR_6 => ?_)
    refine zq_ald_b (v := zq_i s_4 (242) (x1)) rfl zq_a242 g_5.1 g_5.2 rfl ?_
    refine zq_eq0 rfl (zq_bo_in (hR_6.2.2.1 _ _ _ zq_a242)) (fun hb_7 => ?_) (fun hb_7 => ?_)
    · rw [if_pos hb_7] at w
      refine zq_run 5 (pc' := 210) (L' := [(.ref (232)), (zq_vi (x1)), (zq_vi (x2))]) (st' := [(zq_vi (111)), (zq_vi (100)), (zq_vi (110)), (zq_vi (101)), (.ref (232))]) (fun _ _ _ => rfl) ?_
      refine zq_call_v (i := .invokevirtual 302) (r := [1, 194, 4, 1, 9]) rfl rfl (fun h hp => zr_avv rfl (hp.obj zq_a232)) (of_decide_eq_false rfl) w (fun s_8 w => ?_)
      refine zq_run 2 (pc' := 216) (L' := [(.ref (232)), (zq_vi (x1)), (zq_vi (x2))]) (st' := [(zq_vi (98)), (.ref (232))]) (fun _ _ _ => rfl) ?_
      refine zq_call_v (i := .invokevirtual 296) (r := [1, 195, 1, 1, 9]) rfl rfl (fun h hp => zr_avv rfl (hp.obj zq_a232)) (of_decide_eq_false rfl) w (fun s_9 w => ?_)
      refine zq_run 2 (pc' := 222) (L' := [(.ref (232)), (zq_vi (x1)), (zq_vi (x2))]) (st' := [(zq_vi (106)), (.ref (232))]) (fun _ _ _ => rfl) ?_
      refine zq_call_v (i := .invokevirtual 296) (r := [1, 195, 1, 1, 9]) rfl rfl (fun h hp => zr_avv rfl (hp.obj zq_a232)) (of_decide_eq_false rfl) w (fun s_10 w => ?_)
      refine zq_run 2 (pc' := 228) (L' := [(.ref (232)), (zq_vi (x1)), (zq_vi (x2))]) (st' := [(zq_vi (10)), (.ref (232))]) (fun _ _ _ => rfl) ?_
      refine zq_call_v (i := .invokevirtual 296) (r := [1, 195, 1, 1, 9]) rfl rfl (fun h hp => zr_avv rfl (hp.obj zq_a232)) (of_decide_eq_false rfl) w (fun s_11 w => ?_)
      exact zq_vret rfl rfl (⟨rfl, w⟩)
    · rw [if_neg hb_7] at w
      refine zq_run 5 (pc' := 105) (L' := [(.ref (232)), (zq_vi (x1)), (zq_vi (x2))]) (st' := [(zq_vi (101)), (zq_vi (114)), (zq_vi (116)), (zq_vi (115)), (.ref (232))]) (fun _ _ _ => rfl) ?_
      refine zq_call_v (i := .invokevirtual 302) (r := [1, 194, 4, 1, 9]) rfl rfl (fun h hp => zr_avv rfl (hp.obj zq_a232)) (of_decide_eq_false rfl) w (fun s_12 w => ?_)
      refine zq_run 2 (pc' := 111) (L' := [(.ref (232)), (zq_vi (x1)), (zq_vi (x2))]) (st' := [(zq_vi (97)), (.ref (232))]) (fun _ _ _ => rfl) ?_
      refine zq_call_v (i := .invokevirtual 296) (r := [1, 195, 1, 1, 9]) rfl rfl (fun h hp => zr_avv rfl (hp.obj zq_a232)) (of_decide_eq_false rfl) w (fun s_13 w => ?_)
      refine zq_run 2 (pc' := 117) (L' := [(.ref (232)), (zq_vi (x1)), (zq_vi (x2))]) (st' := [(zq_vi (109)), (.ref (232))]) (fun _ _ _ => rfl) ?_
      refine zq_call_v (i := .invokevirtual 296) (r := [1, 195, 1, 1, 9]) rfl rfl (fun h hp => zr_avv rfl (hp.obj zq_a232)) (of_decide_eq_false rfl) w (fun s_14 w => ?_)
      refine zq_run 2 (pc' := 123) (L' := [(.ref (232)), (zq_vi (x1)), (zq_vi (x2))]) (st' := [(zq_vi (10)), (.ref (232))]) (fun _ _ _ => rfl) ?_
      refine zq_call_v (i := .invokevirtual 296) (r := [1, 195, 1, 1, 9]) rfl rfl (fun h hp => zr_avv rfl (hp.obj zq_a232)) (of_decide_eq_false rfl) w (fun s_15 w => ?_)
      refine zq_run 2 (pc' := 128) (L' := [(.ref (232)), (zq_vi (x1)), (zq_vi (0))]) (st' := []) (fun _ _ _ => rfl) ?_
      exact w
  · rw [if_pos hb_3] at w
    refine zq_run 2 (pc' := 61) (L' := [(.ref (232)), (zq_vi (x1)), (zq_vi (x2))]) (st' := [(.ref (232)), (.ref (232))]) (fun _ _ _ => rfl) ?_
    refine zq_getf_f (b := 241) rfl zq_a232 rfl rfl ?_
    refine zq_run 2 (pc' := 68) (L' := [(.ref (232)), (zq_vi (x1)), (zq_vi (x2))]) (st' := [(zq_vi (x1)), (zq_vi (500)), (.ref (241)), (.ref (232))]) (fun _ _ _ => rfl) ?_
    refine zq_imul rfl ?_
    refine zq_run 1 (pc' := 70) (L' := [(.ref (232)), (zq_vi (x1)), (zq_vi (x2))]) (st' := [(zq_vi (x2)), (zq_vi (500 * x1)), (.ref (241)), (.ref (232))]) (fun _ _ _ => rfl) ?_
    refine zq_iadd rfl ?_
    obtain ⟨g_16, w⟩ := w
    refine zq_ald_c (v := zq_i s (241) ((500 * x1) + x2)) rfl zq_a241 g_16.1 g_16.2 rfl ?_
    refine zq_call_v (i := .invokevirtual 296) (r := [1, 195, 1, 1, 9]) rfl rfl (fun h hp => zr_avv rfl (hp.obj zq_a232)) (of_decide_eq_false rfl) w (fun s_17 w => ?_)
    refine zq_iinc (L' := [(.ref (232)), (zq_vi (x1)), (zq_vi (x2 + 1))]) rfl rfl rfl ?_
    refine zq_run 1 (pc' := 49) (L' := [(.ref (232)), (zq_vi (x1)), (zq_vi (x2 + 1))]) (st' := []) (fun _ _ _ => rfl) ?_
    exact w
set_option maxRecDepth 100000 in
/-- PaperObjectsModel.outObject at 128 -/
theorem zw_196_128 {X : Nat × (Nat → Int32)} {s : zq_S} {K : zq_S → Prop} {x1 : Int} (hx1 : zq_iv x1) {x2 : Int} (hx2 : zq_iv x2) (w : (((0 : Int) ≤ x1 ∧ x1 < (10 : Int)) ∧ (if x2 < zq_i s (243) (x1) then (((0 : Int) ≤ (12 * x1) + x2 ∧ (12 * x1) + x2 < (120 : Int)) ∧ (zq_Ex X 195 0 [(.ref (232)), (zq_vi (zq_i s (244) ((12 * x1) + x2)))] [] s (zq_rv fun s_14 => zq_Ex X 196 128 [(.ref (232)), (zq_vi (x1)), (zq_vi (x2 + 1))] [] s_14 (zq_rv K)))) else (zq_Ex X 195 0 [(.ref (232)), (zq_vi (10))] [] s (zq_rv fun s_4 => (zq_Ex X 194 0 [(.ref (232)), (zq_vi (101)), (zq_vi (110)), (zq_vi (100)), (zq_vi (115))] [] s_4 (zq_rv fun s_5 => (zq_Ex X 194 0 [(.ref (232)), (zq_vi (116)), (zq_vi (114)), (zq_vi (101)), (zq_vi (97))] [] s_5 (zq_rv fun s_6 => (zq_Ex X 195 0 [(.ref (232)), (zq_vi (109))] [] s_6 (zq_rv fun s_7 => (zq_Ex X 195 0 [(.ref (232)), (zq_vi (10))] [] s_7 (zq_rv fun s_8 => (zq_Ex X 194 0 [(.ref (232)), (zq_vi (101)), (zq_vi (110)), (zq_vi (100)), (zq_vi (111))] [] s_8 (zq_rv fun s_9 => (zq_Ex X 195 0 [(.ref (232)), (zq_vi (98))] [] s_9 (zq_rv fun s_10 => (zq_Ex X 195 0 [(.ref (232)), (zq_vi (106))] [] s_10 (zq_rv fun s_11 => (zq_Ex X 195 0 [(.ref (232)), (zq_vi (10))] [] s_11 (zq_rv fun s_12 => K s_12))))))))))))))))))))) : zq_Ex X 196 128 [(.ref (232)), (zq_vi (x1)), (zq_vi (x2))] [] s (zq_rv K) := by
  refine zq_run 2 (pc' := 130) (L' := [(.ref (232)), (zq_vi (x1)), (zq_vi (x2))]) (st' := [(.ref (232)), (zq_vi (x2))]) (fun _ _ _ => rfl) ?_
  refine zq_getf_f (b := 243) rfl zq_a232 rfl rfl ?_
  refine zq_run 1 (pc' := 134) (L' := [(.ref (232)), (zq_vi (x1)), (zq_vi (x2))]) (st' := [(zq_vi (x1)), (.ref (243)), (zq_vi (x2))]) (fun _ _ _ => rfl) ?_
  obtain ⟨g_1, w⟩ := w
  refine zq_have (fun hR_2 => ?_)
  refine zq_ald_i (v := zq_i s (243) (x1)) rfl zq_a243 g_1.1 g_1.2 rfl ?_
  refine zq_ge rfl hx2 (hR_2.1 _ _) (fun hb_3 => ?_) (fun hb_3 => ?_)
  · rw [if_neg hb_3] at w
    refine zq_run 2 (pc' := 162) (L' := [(.ref (232)), (zq_vi (x1)), (zq_vi (x2))]) (st' := [(zq_vi (10)), (.ref (232))]) (fun _ _ _ => rfl) ?_
    refine zq_call_v (i := .invokevirtual 296) (r := [1, 195, 1, 1, 9]) rfl rfl (fun h hp => zr_avv rfl (hp.obj zq_a232)) (of_decide_eq_false rfl) w (fun s_4 w => ?_)
    refine zq_run 5 (pc' := 174) (L' := [(.ref (232)), (zq_vi (x1)), (zq_vi (x2))]) (st' := [(zq_vi (115)), (zq_vi (100)), (zq_vi (110)), (zq_vi (101)), (.ref (232))]) (fun _ _ _ => rfl) ?_
    refine zq_call_v (i := .invokevirtual 302) (r := [1, 194, 4, 1, 9]) rfl rfl (fun h hp => zr_avv rfl (hp.obj zq_a232)) (of_decide_eq_false rfl) w (fun s_5 w => ?_)
    refine zq_run 5 (pc' := 186) (L' := [(.ref (232)), (zq_vi (x1)), (zq_vi (x2))]) (st' := [(zq_vi (97)), (zq_vi (101)), (zq_vi (114)), (zq_vi (116)), (.ref (232))]) (fun _ _ _ => rfl) ?_
    refine zq_call_v (i := .invokevirtual 302) (r := [1, 194, 4, 1, 9]) rfl rfl (fun h hp => zr_avv rfl (hp.obj zq_a232)) (of_decide_eq_false rfl) w (fun s_6 w => ?_)
    refine zq_run 2 (pc' := 192) (L' := [(.ref (232)), (zq_vi (x1)), (zq_vi (x2))]) (st' := [(zq_vi (109)), (.ref (232))]) (fun _ _ _ => rfl) ?_
    refine zq_call_v (i := .invokevirtual 296) (r := [1, 195, 1, 1, 9]) rfl rfl (fun h hp => zr_avv rfl (hp.obj zq_a232)) (of_decide_eq_false rfl) w (fun s_7 w => ?_)
    refine zq_run 2 (pc' := 198) (L' := [(.ref (232)), (zq_vi (x1)), (zq_vi (x2))]) (st' := [(zq_vi (10)), (.ref (232))]) (fun _ _ _ => rfl) ?_
    refine zq_call_v (i := .invokevirtual 296) (r := [1, 195, 1, 1, 9]) rfl rfl (fun h hp => zr_avv rfl (hp.obj zq_a232)) (of_decide_eq_false rfl) w (fun s_8 w => ?_)
    refine zq_run 5 (pc' := 210) (L' := [(.ref (232)), (zq_vi (x1)), (zq_vi (x2))]) (st' := [(zq_vi (111)), (zq_vi (100)), (zq_vi (110)), (zq_vi (101)), (.ref (232))]) (fun _ _ _ => rfl) ?_
    refine zq_call_v (i := .invokevirtual 302) (r := [1, 194, 4, 1, 9]) rfl rfl (fun h hp => zr_avv rfl (hp.obj zq_a232)) (of_decide_eq_false rfl) w (fun s_9 w => ?_)
    refine zq_run 2 (pc' := 216) (L' := [(.ref (232)), (zq_vi (x1)), (zq_vi (x2))]) (st' := [(zq_vi (98)), (.ref (232))]) (fun _ _ _ => rfl) ?_
    refine zq_call_v (i := .invokevirtual 296) (r := [1, 195, 1, 1, 9]) rfl rfl (fun h hp => zr_avv rfl (hp.obj zq_a232)) (of_decide_eq_false rfl) w (fun s_10 w => ?_)
    refine zq_run 2 (pc' := 222) (L' := [(.ref (232)), (zq_vi (x1)), (zq_vi (x2))]) (st' := [(zq_vi (106)), (.ref (232))]) (fun _ _ _ => rfl) ?_
    refine zq_call_v (i := .invokevirtual 296) (r := [1, 195, 1, 1, 9]) rfl rfl (fun h hp => zr_avv rfl (hp.obj zq_a232)) (of_decide_eq_false rfl) w (fun s_11 w => ?_)
    refine zq_run 2 (pc' := 228) (L' := [(.ref (232)), (zq_vi (x1)), (zq_vi (x2))]) (st' := [(zq_vi (10)), (.ref (232))]) (fun _ _ _ => rfl) ?_
    refine zq_call_v (i := .invokevirtual 296) (r := [1, 195, 1, 1, 9]) rfl rfl (fun h hp => zr_avv rfl (hp.obj zq_a232)) (of_decide_eq_false rfl) w (fun s_12 w => ?_)
    exact zq_vret rfl rfl (⟨rfl, w⟩)
  · rw [if_pos hb_3] at w
    refine zq_run 2 (pc' := 140) (L' := [(.ref (232)), (zq_vi (x1)), (zq_vi (x2))]) (st' := [(.ref (232)), (.ref (232))]) (fun _ _ _ => rfl) ?_
    refine zq_getf_f (b := 244) rfl zq_a232 rfl rfl ?_
    refine zq_run 2 (pc' := 146) (L' := [(.ref (232)), (zq_vi (x1)), (zq_vi (x2))]) (st' := [(zq_vi (x1)), (zq_vi (12)), (.ref (244)), (.ref (232))]) (fun _ _ _ => rfl) ?_
    refine zq_imul rfl ?_
    refine zq_run 1 (pc' := 148) (L' := [(.ref (232)), (zq_vi (x1)), (zq_vi (x2))]) (st' := [(zq_vi (x2)), (zq_vi (12 * x1)), (.ref (244)), (.ref (232))]) (fun _ _ _ => rfl) ?_
    refine zq_iadd rfl ?_
    obtain ⟨g_13, w⟩ := w
    refine zq_ald_c (v := zq_i s (244) ((12 * x1) + x2)) rfl zq_a244 g_13.1 g_13.2 rfl ?_
    refine zq_call_v (i := .invokevirtual 296) (r := [1, 195, 1, 1, 9]) rfl rfl (fun h hp => zr_avv rfl (hp.obj zq_a232)) (of_decide_eq_false rfl) w (fun s_14 w => ?_)
    refine zq_iinc (L' := [(.ref (232)), (zq_vi (x1)), (zq_vi (x2 + 1))]) rfl rfl rfl ?_
    refine zq_run 1 (pc' := 128) (L' := [(.ref (232)), (zq_vi (x1)), (zq_vi (x2 + 1))]) (st' := []) (fun _ _ _ => rfl) ?_
    exact w
set_option maxRecDepth 100000 in
/-- PaperObjectsModel.outTable(I)V -/
theorem zw_197 {X : Nat × (Nat → Int32)} {s : zq_S} {K : zq_S → Prop} {x1 : Int} (hx1 : zq_iv x1) (w : (zq_Ex X 194 0 [(.ref (232)), (zq_vi (120)), (zq_vi (114)), (zq_vi (101)), (zq_vi (102))] [] s (zq_rv fun s_2 => (zq_Ex X 195 0 [(.ref (232)), (zq_vi (10))] [] s_2 (zq_rv fun s_3 => zq_Ex X 197 25 [(.ref (232)), (zq_vi (x1)), (zq_vi (zq_i s (232) (7))), (zq_vi (1)), zz_no] [] s_3 (zq_rv K)))))) : zq_Ex X 197 0 [(.ref (232)), (zq_vi (x1)), zz_no, zz_no, zz_no] [] s (zq_rv K) := by
  refine zq_run 1 (pc' := 1) (L' := [(.ref (232)), (zq_vi (x1)), zz_no, zz_no, zz_no]) (st' := [(.ref (232))]) (fun _ _ _ => rfl) ?_
  refine zq_have (fun hR_1 => ?_)
  refine zq_getf_i (j := 7) (v := zq_i s (232) (7)) rfl zq_a232 rfl rfl rfl ?_
  refine zq_run 6 (pc' := 14) (L' := [(.ref (232)), (zq_vi (x1)), (zq_vi (zq_i s (232) (7))), zz_no, zz_no]) (st' := [(zq_vi (102)), (zq_vi (101)), (zq_vi (114)), (zq_vi (120)), (.ref (232))]) (fun _ _ _ => rfl) ?_
  refine zq_call_v (i := .invokevirtual 302) (r := [1, 194, 4, 1, 9]) rfl rfl (fun h hp => zr_avv rfl (hp.obj zq_a232)) (of_decide_eq_false rfl) w (fun s_2 w => ?_)
  refine zq_run 2 (pc' := 20) (L' := [(.ref (232)), (zq_vi (x1)), (zq_vi (zq_i s (232) (7))), zz_no, zz_no]) (st' := [(zq_vi (10)), (.ref (232))]) (fun _ _ _ => rfl) ?_
  refine zq_call_v (i := .invokevirtual 296) (r := [1, 195, 1, 1, 9]) rfl rfl (fun h hp => zr_avv rfl (hp.obj zq_a232)) (of_decide_eq_false rfl) w (fun s_3 w => ?_)
  refine zq_run 2 (pc' := 25) (L' := [(.ref (232)), (zq_vi (x1)), (zq_vi (zq_i s (232) (7))), (zq_vi (1)), zz_no]) (st' := []) (fun _ _ _ => rfl) ?_
  exact w
set_option maxRecDepth 100000 in
/-- PaperObjectsModel.outTable at 25 -/
theorem zw_197_25 {X : Nat × (Nat → Int32)} {s : zq_S} {K : zq_S → Prop} {x1 : Int} (hx1 : zq_iv x1) {x2 : Int} (hx2 : zq_iv x2) {x3 : Int} (hx3 : zq_iv x3) {v4 : Value} (hv4 : v4.category = 1) (w : (if x3 ≤ 9 then (((0 : Int) ≤ x3 ∧ x3 < (10 : Int)) ∧ (if zq_i s (254) (x3) = 0 then zq_Ex X 197 112 [(.ref (232)), (zq_vi (x1)), (zq_vi (x2)), (zq_vi (x3)), v4] [] s (zq_rv K) else (((0 : Int) ≤ x3 - 1 ∧ x3 - 1 < (10 : Int)) ∧ (if zq_i s (254) (x3 - 1) = 0 then zq_Ex X 197 54 [(.ref (232)), (zq_vi (x1)), (zq_vi (x2)), (zq_vi (x3)), (zq_vi (0))] [] s (zq_rv K) else zq_Ex X 197 112 [(.ref (232)), (zq_vi (x1)), (zq_vi (x2)), (zq_vi (x3)), v4] [] s (zq_rv K))))) else (zq_Ex X 194 0 [(.ref (232)), (zq_vi (116)), (zq_vi (114)), (zq_vi (97)), (zq_vi (105))] [] s (zq_rv fun s_2 => (zq_Ex X 194 0 [(.ref (232)), (zq_vi (108)), (zq_vi (101)), (zq_vi (114)), (zq_vi (10))] [] s_2 (zq_rv fun s_3 => (zq_Ex X 194 0 [(.ref (232)), (zq_vi (60)), (zq_vi (60)), (zq_vi (47)), (zq_vi (82))] [] s_3 (zq_rv fun s_4 => (zq_Ex X 194 0 [(.ref (232)), (zq_vi (111)), (zq_vi (111)), (zq_vi (116)), (zq_vi (32))] [] s_4 (zq_rv fun s_5 => (zq_Ex X 199 0 [(.ref (232)), (zq_vi (zq_i s_5 (232) (17))), (zq_vi (zq_i s_5 (232) (18)))] [] s_5 (zq_rv fun s_7 => (if x1 < 0 then zq_Ex X 197 235 [(.ref (232)), (zq_vi (x1)), (zq_vi (x2)), (zq_vi (x3)), v4] [] s_7 (zq_rv K) else (zq_Ex X 194 0 [(.ref (232)), (zq_vi (32)), (zq_vi (47)), (zq_vi (80)), (zq_vi (114))] [] s_7 (zq_rv fun s_9 => (zq_Ex X 194 0 [(.ref (232)), (zq_vi (101)), (zq_vi (118)), (zq_vi (32)), (zq_vi (32))] [] s_9 (zq_rv fun s_10 => (zq_iv ((zq_i s_10 (232) (7)) - 1) ∧ (zq_Ex X 200 0 [(.ref (232)), (zq_vi (x1))] [] (zq_si s_10 (232) (7) ((zq_i s_10 (232) (7)) - 1)) (zq_rv fun s_13 => zq_Ex X 197 235 [(.ref (232)), (zq_vi (x1)), (zq_vi (x2)), (zq_vi (x3)), v4] [] s_13 (zq_rv K))))))))))))))))))))) : zq_Ex X 197 25 [(.ref (232)), (zq_vi (x1)), (zq_vi (x2)), (zq_vi (x3)), v4] [] s (zq_rv K) := by
  refine zq_run 2 (pc' := 28) (L' := [(.ref (232)), (zq_vi (x1)), (zq_vi (x2)), (zq_vi (x3)), v4]) (st' := [(zq_vi (9)), (zq_vi (x3))]) (fun _ _ _ => rfl) ?_
  refine zq_gt rfl hx3 (of_decide_eq_true rfl) (fun hb_1 => ?_) (fun hb_1 => ?_)
  · rw [if_neg hb_1] at w
    refine zq_run 5 (pc' := 141) (L' := [(.ref (232)), (zq_vi (x1)), (zq_vi (x2)), (zq_vi (x3)), v4]) (st' := [(zq_vi (105)), (zq_vi (97)), (zq_vi (114)), (zq_vi (116)), (.ref (232))]) (fun _ _ _ => rfl) ?_
    refine zq_call_v (i := .invokevirtual 302) (r := [1, 194, 4, 1, 9]) rfl rfl (fun h hp => zr_avv rfl (hp.obj zq_a232)) (of_decide_eq_false rfl) w (fun s_2 w => ?_)
    refine zq_run 5 (pc' := 153) (L' := [(.ref (232)), (zq_vi (x1)), (zq_vi (x2)), (zq_vi (x3)), v4]) (st' := [(zq_vi (10)), (zq_vi (114)), (zq_vi (101)), (zq_vi (108)), (.ref (232))]) (fun _ _ _ => rfl) ?_
    refine zq_call_v (i := .invokevirtual 302) (r := [1, 194, 4, 1, 9]) rfl rfl (fun h hp => zr_avv rfl (hp.obj zq_a232)) (of_decide_eq_false rfl) w (fun s_3 w => ?_)
    refine zq_run 5 (pc' := 165) (L' := [(.ref (232)), (zq_vi (x1)), (zq_vi (x2)), (zq_vi (x3)), v4]) (st' := [(zq_vi (82)), (zq_vi (47)), (zq_vi (60)), (zq_vi (60)), (.ref (232))]) (fun _ _ _ => rfl) ?_
    refine zq_call_v (i := .invokevirtual 302) (r := [1, 194, 4, 1, 9]) rfl rfl (fun h hp => zr_avv rfl (hp.obj zq_a232)) (of_decide_eq_false rfl) w (fun s_4 w => ?_)
    refine zq_run 5 (pc' := 177) (L' := [(.ref (232)), (zq_vi (x1)), (zq_vi (x2)), (zq_vi (x3)), v4]) (st' := [(zq_vi (32)), (zq_vi (116)), (zq_vi (111)), (zq_vi (111)), (.ref (232))]) (fun _ _ _ => rfl) ?_
    refine zq_call_v (i := .invokevirtual 302) (r := [1, 194, 4, 1, 9]) rfl rfl (fun h hp => zr_avv rfl (hp.obj zq_a232)) (of_decide_eq_false rfl) w (fun s_5 w => ?_)
    refine zq_run 2 (pc' := 182) (L' := [(.ref (232)), (zq_vi (x1)), (zq_vi (x2)), (zq_vi (x3)), v4]) (st' := [(.ref (232)), (.ref (232))]) (fun _ _ _ => rfl) ?_
    refine zq_have (fun hR_6 => ?_)
    refine zq_getf_i (j := 17) (v := zq_i s_5 (232) (17)) rfl zq_a232 rfl rfl rfl ?_
    refine zq_run 1 (pc' := 186) (L' := [(.ref (232)), (zq_vi (x1)), (zq_vi (x2)), (zq_vi (x3)), v4]) (st' := [(.ref (232)), (zq_vi (zq_i s_5 (232) (17))), (.ref (232))]) (fun _ _ _ => rfl) ?_
    refine zq_getf_i (j := 18) (v := zq_i s_5 (232) (18)) rfl zq_a232 rfl rfl rfl ?_
    refine zq_call_v (i := .invokevirtual 309) (r := [1, 199, 2, 1, 9]) rfl rfl (fun h hp => zr_avv rfl (hp.obj zq_a232)) (of_decide_eq_false rfl) w (fun s_7 w => ?_)
    refine zq_run 1 (pc' := 193) (L' := [(.ref (232)), (zq_vi (x1)), (zq_vi (x2)), (zq_vi (x3)), v4]) (st' := [(zq_vi (x1))]) (fun _ _ _ => rfl) ?_
    refine zq_lt0 rfl hx1 (fun hb_8 => ?_) (fun hb_8 => ?_)
    · rw [if_pos hb_8] at w
      exact w
    · rw [if_neg hb_8] at w
      refine zq_run 5 (pc' := 205) (L' := [(.ref (232)), (zq_vi (x1)), (zq_vi (x2)), (zq_vi (x3)), v4]) (st' := [(zq_vi (114)), (zq_vi (80)), (zq_vi (47)), (zq_vi (32)), (.ref (232))]) (fun _ _ _ => rfl) ?_
      refine zq_call_v (i := .invokevirtual 302) (r := [1, 194, 4, 1, 9]) rfl rfl (fun h hp => zr_avv rfl (hp.obj zq_a232)) (of_decide_eq_false rfl) w (fun s_9 w => ?_)
      refine zq_run 5 (pc' := 217) (L' := [(.ref (232)), (zq_vi (x1)), (zq_vi (x2)), (zq_vi (x3)), v4]) (st' := [(zq_vi (32)), (zq_vi (32)), (zq_vi (118)), (zq_vi (101)), (.ref (232))]) (fun _ _ _ => rfl) ?_
      refine zq_call_v (i := .invokevirtual 302) (r := [1, 194, 4, 1, 9]) rfl rfl (fun h hp => zr_avv rfl (hp.obj zq_a232)) (of_decide_eq_false rfl) w (fun s_10 w => ?_)
      refine zq_run 2 (pc' := 222) (L' := [(.ref (232)), (zq_vi (x1)), (zq_vi (x2)), (zq_vi (x3)), v4]) (st' := [(.ref (232)), (.ref (232))]) (fun _ _ _ => rfl) ?_
      refine zq_have (fun hR_11 => ?_)
      refine zq_getf_i (j := 7) (v := zq_i s_10 (232) (7)) rfl zq_a232 rfl rfl rfl ?_
      refine zq_run 1 (pc' := 226) (L' := [(.ref (232)), (zq_vi (x1)), (zq_vi (x2)), (zq_vi (x3)), v4]) (st' := [(zq_vi (1)), (zq_vi (zq_i s_10 (232) (7))), (.ref (232))]) (fun _ _ _ => rfl) ?_
      refine zq_isub rfl ?_
      obtain ⟨g_12, w⟩ := w
      refine zq_putf_i (j := 7) rfl zq_a232 rfl rfl rfl g_12 ?_
      refine zq_run 2 (pc' := 232) (L' := [(.ref (232)), (zq_vi (x1)), (zq_vi (x2)), (zq_vi (x3)), v4]) (st' := [(zq_vi (x1)), (.ref (232))]) (fun _ _ _ => rfl) ?_
      refine zq_call_v (i := .invokevirtual 312) (r := [1, 200, 1, 1, 9]) rfl rfl (fun h hp => zr_avv rfl (hp.obj zq_a232)) (of_decide_eq_false rfl) w (fun s_13 w => ?_)
      exact w
  · rw [if_pos hb_1] at w
    refine zq_run 1 (pc' := 32) (L' := [(.ref (232)), (zq_vi (x1)), (zq_vi (x2)), (zq_vi (x3)), v4]) (st' := [(.ref (232))]) (fun _ _ _ => rfl) ?_
    refine zq_getf_f (b := 254) rfl zq_a232 rfl rfl ?_
    refine zq_run 1 (pc' := 36) (L' := [(.ref (232)), (zq_vi (x1)), (zq_vi (x2)), (zq_vi (x3)), v4]) (st' := [(zq_vi (x3)), (.ref (254))]) (fun _ _ _ => rfl) ?_
    obtain ⟨g_14, w⟩ := w
    refine zq_have (fun hR_15 => ?_)
    refine zq_ald_b (v := zq_i s (254) (x3)) rfl zq_a254 g_14.1 g_14.2 rfl ?_
    refine zq_eq0 rfl (zq_bo_in (hR_15.2.2.1 _ _ _ zq_a254)) (fun hb_16 => ?_) (fun hb_16 => ?_)
    · rw [if_pos hb_16] at w
      exact w
    · rw [if_neg hb_16] at w
      refine zq_run 1 (pc' := 41) (L' := [(.ref (232)), (zq_vi (x1)), (zq_vi (x2)), (zq_vi (x3)), v4]) (st' := [(.ref (232))]) (fun _ _ _ => rfl) ?_
      refine zq_getf_f (b := 254) rfl zq_a232 rfl rfl ?_
      refine zq_run 2 (pc' := 46) (L' := [(.ref (232)), (zq_vi (x1)), (zq_vi (x2)), (zq_vi (x3)), v4]) (st' := [(zq_vi (1)), (zq_vi (x3)), (.ref (254))]) (fun _ _ _ => rfl) ?_
      refine zq_isub rfl ?_
      obtain ⟨g_17, w⟩ := w
      refine zq_ald_b (v := zq_i s (254) (x3 - 1)) rfl zq_a254 g_17.1 g_17.2 rfl ?_
      refine zq_ne0 rfl (zq_bo_in (hR_15.2.2.1 _ _ _ zq_a254)) (fun hb_18 => ?_) (fun hb_18 => ?_)
      · rw [if_neg hb_18] at w
        exact w
      · rw [if_pos hb_18] at w
        refine zq_run 2 (pc' := 54) (L' := [(.ref (232)), (zq_vi (x1)), (zq_vi (x2)), (zq_vi (x3)), (zq_vi (0))]) (st' := []) (fun _ _ _ => rfl) ?_
        exact w
set_option maxRecDepth 100000 in
/-- PaperObjectsModel.outTable at 54 -/
theorem zw_197_54 {X : Nat × (Nat → Int32)} {s : zq_S} {K : zq_S → Prop} {x1 : Int} (hx1 : zq_iv x1) {x2 : Int} (hx2 : zq_iv x2) {x3 : Int} (hx3 : zq_iv x3) {x4 : Int} (hx4 : zq_iv x4) (w : (zq_iv (x3 + x4) ∧ (if x3 + x4 ≤ 9 then (((0 : Int) ≤ x3 + x4 ∧ x3 + x4 < (10 : Int)) ∧ (if zq_i s (254) (x3 + x4) = 0 then zq_Ex X 197 81 [(.ref (232)), (zq_vi (x1)), (zq_vi (x2)), (zq_vi (x3)), (zq_vi (x4))] [] s (zq_rv K) else zq_Ex X 197 54 [(.ref (232)), (zq_vi (x1)), (zq_vi (x2)), (zq_vi (x3)), (zq_vi (x4 + 1))] [] s (zq_rv K))) else zq_Ex X 197 81 [(.ref (232)), (zq_vi (x1)), (zq_vi (x2)), (zq_vi (x3)), (zq_vi (x4))] [] s (zq_rv K)))) : zq_Ex X 197 54 [(.ref (232)), (zq_vi (x1)), (zq_vi (x2)), (zq_vi (x3)), (zq_vi (x4))] [] s (zq_rv K) := by
  refine zq_run 2 (pc' := 57) (L' := [(.ref (232)), (zq_vi (x1)), (zq_vi (x2)), (zq_vi (x3)), (zq_vi (x4))]) (st' := [(zq_vi (x4)), (zq_vi (x3))]) (fun _ _ _ => rfl) ?_
  refine zq_iadd rfl ?_
  refine zq_run 1 (pc' := 60) (L' := [(.ref (232)), (zq_vi (x1)), (zq_vi (x2)), (zq_vi (x3)), (zq_vi (x4))]) (st' := [(zq_vi (9)), (zq_vi (x3 + x4))]) (fun _ _ _ => rfl) ?_
  obtain ⟨g_1, w⟩ := w
  refine zq_gt rfl g_1 (of_decide_eq_true rfl) (fun hb_2 => ?_) (fun hb_2 => ?_)
  · rw [if_neg hb_2] at w
    exact w
  · rw [if_pos hb_2] at w
    refine zq_run 1 (pc' := 64) (L' := [(.ref (232)), (zq_vi (x1)), (zq_vi (x2)), (zq_vi (x3)), (zq_vi (x4))]) (st' := [(.ref (232))]) (fun _ _ _ => rfl) ?_
    refine zq_getf_f (b := 254) rfl zq_a232 rfl rfl ?_
    refine zq_run 2 (pc' := 70) (L' := [(.ref (232)), (zq_vi (x1)), (zq_vi (x2)), (zq_vi (x3)), (zq_vi (x4))]) (st' := [(zq_vi (x4)), (zq_vi (x3)), (.ref (254))]) (fun _ _ _ => rfl) ?_
    refine zq_iadd rfl ?_
    obtain ⟨g_3, w⟩ := w
    refine zq_have (fun hR_4 => ?_)
    refine zq_ald_b (v := zq_i s (254) (x3 + x4)) rfl zq_a254 g_3.1 g_3.2 rfl ?_
    refine zq_eq0 rfl (zq_bo_in (hR_4.2.2.1 _ _ _ zq_a254)) (fun hb_5 => ?_) (fun hb_5 => ?_)
    · rw [if_pos hb_5] at w
      exact w
    · rw [if_neg hb_5] at w
      refine zq_iinc (L' := [(.ref (232)), (zq_vi (x1)), (zq_vi (x2)), (zq_vi (x3)), (zq_vi (x4 + 1))]) rfl rfl rfl ?_
      refine zq_run 1 (pc' := 54) (L' := [(.ref (232)), (zq_vi (x1)), (zq_vi (x2)), (zq_vi (x3)), (zq_vi (x4 + 1))]) (st' := []) (fun _ _ _ => rfl) ?_
      exact w
set_option maxRecDepth 100000 in
/-- PaperObjectsModel.outTable at 81 -/
theorem zw_197_81 {X : Nat × (Nat → Int32)} {s : zq_S} {K : zq_S → Prop} {x1 : Int} (hx1 : zq_iv x1) {x2 : Int} (hx2 : zq_iv x2) {x3 : Int} (hx3 : zq_iv x3) {x4 : Int} (hx4 : zq_iv x4) (w : (zq_Ex X 195 0 [(.ref (232)), (zq_vi ((48 + x3) % 65536))] [] s (zq_rv fun s_1 => (zq_Ex X 195 0 [(.ref (232)), (zq_vi (32))] [] s_1 (zq_rv fun s_2 => (zq_Ex X 195 0 [(.ref (232)), (zq_vi ((48 + x4) % 65536))] [] s_2 (zq_rv fun s_3 => (zq_Ex X 195 0 [(.ref (232)), (zq_vi (10))] [] s_3 (zq_rv fun s_4 => zq_Ex X 197 112 [(.ref (232)), (zq_vi (x1)), (zq_vi (x2)), (zq_vi (x3)), (zq_vi (x4))] [] s_4 (zq_rv K)))))))))) : zq_Ex X 197 81 [(.ref (232)), (zq_vi (x1)), (zq_vi (x2)), (zq_vi (x3)), (zq_vi (x4))] [] s (zq_rv K) := by
  refine zq_run 3 (pc' := 85) (L' := [(.ref (232)), (zq_vi (x1)), (zq_vi (x2)), (zq_vi (x3)), (zq_vi (x4))]) (st' := [(zq_vi (x3)), (zq_vi (48)), (.ref (232))]) (fun _ _ _ => rfl) ?_
  refine zq_iadd rfl ?_
  refine zq_i2c rfl ?_
  refine zq_call_v (i := .invokevirtual 296) (r := [1, 195, 1, 1, 9]) rfl rfl (fun h hp => zr_avv rfl (hp.obj zq_a232)) (of_decide_eq_false rfl) w (fun s_1 w => ?_)
  refine zq_run 2 (pc' := 93) (L' := [(.ref (232)), (zq_vi (x1)), (zq_vi (x2)), (zq_vi (x3)), (zq_vi (x4))]) (st' := [(zq_vi (32)), (.ref (232))]) (fun _ _ _ => rfl) ?_
  refine zq_call_v (i := .invokevirtual 296) (r := [1, 195, 1, 1, 9]) rfl rfl (fun h hp => zr_avv rfl (hp.obj zq_a232)) (of_decide_eq_false rfl) w (fun s_2 w => ?_)
  refine zq_run 3 (pc' := 101) (L' := [(.ref (232)), (zq_vi (x1)), (zq_vi (x2)), (zq_vi (x3)), (zq_vi (x4))]) (st' := [(zq_vi (x4)), (zq_vi (48)), (.ref (232))]) (fun _ _ _ => rfl) ?_
  refine zq_iadd rfl ?_
  refine zq_i2c rfl ?_
  refine zq_call_v (i := .invokevirtual 296) (r := [1, 195, 1, 1, 9]) rfl rfl (fun h hp => zr_avv rfl (hp.obj zq_a232)) (of_decide_eq_false rfl) w (fun s_3 w => ?_)
  refine zq_run 2 (pc' := 109) (L' := [(.ref (232)), (zq_vi (x1)), (zq_vi (x2)), (zq_vi (x3)), (zq_vi (x4))]) (st' := [(zq_vi (10)), (.ref (232))]) (fun _ _ _ => rfl) ?_
  refine zq_call_v (i := .invokevirtual 296) (r := [1, 195, 1, 1, 9]) rfl rfl (fun h hp => zr_avv rfl (hp.obj zq_a232)) (of_decide_eq_false rfl) w (fun s_4 w => ?_)
  exact w
set_option maxRecDepth 100000 in
/-- PaperObjectsModel.outTable at 112 -/
theorem zw_197_112 {X : Nat × (Nat → Int32)} {s : zq_S} {K : zq_S → Prop} {x1 : Int} (hx1 : zq_iv x1) {x2 : Int} (hx2 : zq_iv x2) {x3 : Int} (hx3 : zq_iv x3) {v4 : Value} (hv4 : v4.category = 1) (w : (((0 : Int) ≤ x3 ∧ x3 < (10 : Int)) ∧ (if zq_i s (254) (x3) = 0 then zq_Ex X 197 25 [(.ref (232)), (zq_vi (x1)), (zq_vi (x2)), (zq_vi (x3 + 1)), v4] [] s (zq_rv K) else (zq_Ex X 198 0 [(.ref (232)), (zq_vi (x3)), zz_no, zz_no, zz_no] [] s (zq_rv fun s_4 => zq_Ex X 197 25 [(.ref (232)), (zq_vi (x1)), (zq_vi (x2)), (zq_vi (x3 + 1)), v4] [] s_4 (zq_rv K)))))) : zq_Ex X 197 112 [(.ref (232)), (zq_vi (x1)), (zq_vi (x2)), (zq_vi (x3)), v4] [] s (zq_rv K) := by
  refine zq_run 1 (pc' := 113) (L' := [(.ref (232)), (zq_vi (x1)), (zq_vi (x2)), (zq_vi (x3)), v4]) (st' := [(.ref (232))]) (fun _ _ _ => rfl) ?_
  refine zq_getf_f (b := 254) rfl zq_a232 rfl rfl ?_
  refine zq_run 1 (pc' := 117) (L' := [(.ref (232)), (zq_vi (x1)), (zq_vi (x2)), (zq_vi (x3)), v4]) (st' := [(zq_vi (x3)), (.ref (254))]) (fun _ _ _ => rfl) ?_
  obtain ⟨g_1, w⟩ := w
  refine zq_have (fun hR_2 => ?_)
  refine zq_ald_b (v := zq_i s (254) (x3)) rfl zq_a254 g_1.1 g_1.2 rfl ?_
  refine zq_eq0 rfl (zq_bo_in (hR_2.2.2.1 _ _ _ zq_a254)) (fun hb_3 => ?_) (fun hb_3 => ?_)
  · rw [if_pos hb_3] at w
    refine zq_iinc (L' := [(.ref (232)), (zq_vi (x1)), (zq_vi (x2)), (zq_vi (x3 + 1)), v4]) rfl rfl rfl ?_
    refine zq_run 1 (pc' := 25) (L' := [(.ref (232)), (zq_vi (x1)), (zq_vi (x2)), (zq_vi (x3 + 1)), v4]) (st' := []) (fun _ _ _ => rfl) ?_
    exact w
  · rw [if_neg hb_3] at w
    refine zq_run 2 (pc' := 123) (L' := [(.ref (232)), (zq_vi (x1)), (zq_vi (x2)), (zq_vi (x3)), v4]) (st' := [(zq_vi (x3)), (.ref (232))]) (fun _ _ _ => rfl) ?_
    refine zq_call_v (i := .invokevirtual 306) (r := [1, 198, 1, 1, 9]) rfl rfl (fun h hp => zr_avv rfl (hp.obj zq_a232)) (of_decide_eq_false rfl) w (fun s_4 w => ?_)
    refine zq_iinc (L' := [(.ref (232)), (zq_vi (x1)), (zq_vi (x2)), (zq_vi (x3 + 1)), v4]) rfl rfl rfl ?_
    refine zq_run 1 (pc' := 25) (L' := [(.ref (232)), (zq_vi (x1)), (zq_vi (x2)), (zq_vi (x3 + 1)), v4]) (st' := []) (fun _ _ _ => rfl) ?_
    exact w
set_option maxRecDepth 100000 in
/-- PaperObjectsModel.outTable at 235 -/
theorem zw_197_235 {X : Nat × (Nat → Int32)} {s : zq_S} {K : zq_S → Prop} {x1 : Int} (hx1 : zq_iv x1) {x2 : Int} (hx2 : zq_iv x2) {x3 : Int} (hx3 : zq_iv x3) {v4 : Value} (hv4 : v4.category = 1) (w : (zq_Ex X 194 0 [(.ref (232)), (zq_vi (62)), (zq_vi (62)), (zq_vi (10)), (zq_vi (115))] [] s (zq_rv fun s_1 => (zq_Ex X 194 0 [(.ref (232)), (zq_vi (116)), (zq_vi (97)), (zq_vi (114)), (zq_vi (116))] [] s_1 (zq_rv fun s_2 => (zq_Ex X 194 0 [(.ref (232)), (zq_vi (120)), (zq_vi (114)), (zq_vi (101)), (zq_vi (102))] [] s_2 (zq_rv fun s_3 => (zq_Ex X 195 0 [(.ref (232)), (zq_vi (10))] [] s_3 (zq_rv fun s_4 => (zq_Ex X 200 0 [(.ref (232)), (zq_vi (x2))] [] s_4 (zq_rv fun s_5 => (zq_Ex X 195 0 [(.ref (232)), (zq_vi (10))] [] s_5 (zq_rv fun s_6 => (zq_Ex X 194 0 [(.ref (232)), (zq_vi (37)), (zq_vi (37)), (zq_vi (69)), (zq_vi (79))] [] s_6 (zq_rv fun s_7 => (zq_Ex X 195 0 [(.ref (232)), (zq_vi (70))] [] s_7 (zq_rv fun s_8 => (zq_Ex X 195 0 [(.ref (232)), (zq_vi (10))] [] s_8 (zq_rv fun s_9 => K s_9))))))))))))))))))) : zq_Ex X 197 235 [(.ref (232)), (zq_vi (x1)), (zq_vi (x2)), (zq_vi (x3)), v4] [] s (zq_rv K) := by
  refine zq_run 5 (pc' := 244) (L' := [(.ref (232)), (zq_vi (x1)), (zq_vi (x2)), (zq_vi (x3)), v4]) (st' := [(zq_vi (115)), (zq_vi (10)), (zq_vi (62)), (zq_vi (62)), (.ref (232))]) (fun _ _ _ => rfl) ?_
  refine zq_call_v (i := .invokevirtual 302) (r := [1, 194, 4, 1, 9]) rfl rfl (fun h hp => zr_avv rfl (hp.obj zq_a232)) (of_decide_eq_false rfl) w (fun s_1 w => ?_)
  refine zq_run 5 (pc' := 256) (L' := [(.ref (232)), (zq_vi (x1)), (zq_vi (x2)), (zq_vi (x3)), v4]) (st' := [(zq_vi (116)), (zq_vi (114)), (zq_vi (97)), (zq_vi (116)), (.ref (232))]) (fun _ _ _ => rfl) ?_
  refine zq_call_v (i := .invokevirtual 302) (r := [1, 194, 4, 1, 9]) rfl rfl (fun h hp => zr_avv rfl (hp.obj zq_a232)) (of_decide_eq_false rfl) w (fun s_2 w => ?_)
  refine zq_run 5 (pc' := 268) (L' := [(.ref (232)), (zq_vi (x1)), (zq_vi (x2)), (zq_vi (x3)), v4]) (st' := [(zq_vi (102)), (zq_vi (101)), (zq_vi (114)), (zq_vi (120)), (.ref (232))]) (fun _ _ _ => rfl) ?_
  refine zq_call_v (i := .invokevirtual 302) (r := [1, 194, 4, 1, 9]) rfl rfl (fun h hp => zr_avv rfl (hp.obj zq_a232)) (of_decide_eq_false rfl) w (fun s_3 w => ?_)
  refine zq_run 2 (pc' := 274) (L' := [(.ref (232)), (zq_vi (x1)), (zq_vi (x2)), (zq_vi (x3)), v4]) (st' := [(zq_vi (10)), (.ref (232))]) (fun _ _ _ => rfl) ?_
  refine zq_call_v (i := .invokevirtual 296) (r := [1, 195, 1, 1, 9]) rfl rfl (fun h hp => zr_avv rfl (hp.obj zq_a232)) (of_decide_eq_false rfl) w (fun s_4 w => ?_)
  refine zq_run 2 (pc' := 279) (L' := [(.ref (232)), (zq_vi (x1)), (zq_vi (x2)), (zq_vi (x3)), v4]) (st' := [(zq_vi (x2)), (.ref (232))]) (fun _ _ _ => rfl) ?_
  refine zq_call_v (i := .invokevirtual 312) (r := [1, 200, 1, 1, 9]) rfl rfl (fun h hp => zr_avv rfl (hp.obj zq_a232)) (of_decide_eq_false rfl) w (fun s_5 w => ?_)
  refine zq_run 2 (pc' := 285) (L' := [(.ref (232)), (zq_vi (x1)), (zq_vi (x2)), (zq_vi (x3)), v4]) (st' := [(zq_vi (10)), (.ref (232))]) (fun _ _ _ => rfl) ?_
  refine zq_call_v (i := .invokevirtual 296) (r := [1, 195, 1, 1, 9]) rfl rfl (fun h hp => zr_avv rfl (hp.obj zq_a232)) (of_decide_eq_false rfl) w (fun s_6 w => ?_)
  refine zq_run 5 (pc' := 297) (L' := [(.ref (232)), (zq_vi (x1)), (zq_vi (x2)), (zq_vi (x3)), v4]) (st' := [(zq_vi (79)), (zq_vi (69)), (zq_vi (37)), (zq_vi (37)), (.ref (232))]) (fun _ _ _ => rfl) ?_
  refine zq_call_v (i := .invokevirtual 302) (r := [1, 194, 4, 1, 9]) rfl rfl (fun h hp => zr_avv rfl (hp.obj zq_a232)) (of_decide_eq_false rfl) w (fun s_7 w => ?_)
  refine zq_run 2 (pc' := 303) (L' := [(.ref (232)), (zq_vi (x1)), (zq_vi (x2)), (zq_vi (x3)), v4]) (st' := [(zq_vi (70)), (.ref (232))]) (fun _ _ _ => rfl) ?_
  refine zq_call_v (i := .invokevirtual 296) (r := [1, 195, 1, 1, 9]) rfl rfl (fun h hp => zr_avv rfl (hp.obj zq_a232)) (of_decide_eq_false rfl) w (fun s_8 w => ?_)
  refine zq_run 2 (pc' := 309) (L' := [(.ref (232)), (zq_vi (x1)), (zq_vi (x2)), (zq_vi (x3)), v4]) (st' := [(zq_vi (10)), (.ref (232))]) (fun _ _ _ => rfl) ?_
  refine zq_call_v (i := .invokevirtual 296) (r := [1, 195, 1, 1, 9]) rfl rfl (fun h hp => zr_avv rfl (hp.obj zq_a232)) (of_decide_eq_false rfl) w (fun s_9 w => ?_)
  exact zq_vret rfl rfl (⟨rfl, w⟩)
set_option maxRecDepth 100000 in
/-- PaperObjectsModel.outEntry(I)V -/
theorem zw_198 {X : Nat × (Nat → Int32)} {s : zq_S} {K : zq_S → Prop} {x1 : Int} (hx1 : zq_iv x1) (w : (((0 : Int) ≤ x1 ∧ x1 < (10 : Int)) ∧ (if zq_i s (237) (x1) = 0 then zq_Ex X 198 27 [(.ref (232)), (zq_vi (x1)), zz_no, zz_no, zz_no] [] s (zq_rv K) else (((0 : Int) ≤ x1 ∧ x1 < (10 : Int)) ∧ (if zq_i s (255) (x1) = 0 then zq_Ex X 198 27 [(.ref (232)), (zq_vi (x1)), zz_no, zz_no, zz_no] [] s (zq_rv K) else (((0 : Int) ≤ x1 ∧ x1 < (10 : Int)) ∧ (zq_Ex X 195 0 [(.ref (232)), (zq_vi ((48 + (zq_rem (zq_div (zq_i s (251) (x1)) (100)) (10))) % 65536))] [] s (zq_rv fun s_7 => (zq_Ex X 195 0 [(.ref (232)), (zq_vi ((48 + (zq_rem (zq_div (zq_i s (251) (x1)) (10)) (10))) % 65536))] [] s_7 (zq_rv fun s_8 => (zq_Ex X 195 0 [(.ref (232)), (zq_vi ((48 + (zq_rem (zq_i s (251) (x1)) (10))) % 65536))] [] s_8 (zq_rv fun s_9 => (zq_Ex X 195 0 [(.ref (232)), (zq_vi (32))] [] s_9 (zq_rv fun s_10 => (((0 : Int) ≤ x1 ∧ x1 < (10 : Int)) ∧ (if zq_i s_10 (237) (x1) = 0 then zq_Ex X 198 127 [(.ref (232)), (zq_vi (x1)), (zq_vi (zq_i s (251) (x1))), (zq_vi (0)), zz_no] [] s_10 (zq_rv K) else (((0 : Int) ≤ x1 ∧ x1 < (10 : Int)) ∧ (if zq_i s_10 (255) (x1) = 0 then (((0 : Int) ≤ x1 ∧ x1 < (10 : Int)) ∧ (if zq_i s_10 (238) (x1) < 9 then (((0 : Int) ≤ x1 ∧ x1 < (10 : Int)) ∧ (zq_Ex X 195 0 [(.ref (232)), (zq_vi ((48 + ((zq_i s_10 (238) (x1)) + 1)) % 65536))] [] s_10 (zq_rv fun s_19 => (zq_Ex X 195 0 [(.ref (232)), (zq_vi (32))] [] s_19 (zq_rv fun s_20 => (((0 : Int) ≤ x1 ∧ x1 < (10 : Int)) ∧ (if zq_i s_20 (237) (x1) = 0 then (zq_Ex X 195 0 [(.ref (232)), (zq_vi (102))] [] s_20 (zq_rv fun s_24 => (zq_Ex X 195 0 [(.ref (232)), (zq_vi (10))] [] s_24 (zq_rv fun s_25 => K s_25)))) else (((0 : Int) ≤ x1 ∧ x1 < (10 : Int)) ∧ (if zq_i s_20 (255) (x1) = 0 then (zq_Ex X 195 0 [(.ref (232)), (zq_vi (102))] [] s_20 (zq_rv fun s_28 => (zq_Ex X 195 0 [(.ref (232)), (zq_vi (10))] [] s_28 (zq_rv fun s_29 => K s_29)))) else (zq_Ex X 195 0 [(.ref (232)), (zq_vi (110))] [] s_20 (zq_rv fun s_30 => (zq_Ex X 195 0 [(.ref (232)), (zq_vi (10))] [] s_30 (zq_rv fun s_31 => K s_31))))))))))))) else zq_Ex X 198 127 [(.ref (232)), (zq_vi (x1)), (zq_vi (zq_i s (251) (x1))), (zq_vi (1)), zz_no] [] s_10 (zq_rv K))) else zq_Ex X 198 127 [(.ref (232)), (zq_vi (x1)), (zq_vi (zq_i s (251) (x1))), (zq_vi (0)), zz_no] [] s_10 (zq_rv K))))))))))))))))))) : zq_Ex X 198 0 [(.ref (232)), (zq_vi (x1)), zz_no, zz_no, zz_no] [] s (zq_rv K) := by
  refine zq_run 1 (pc' := 1) (L' := [(.ref (232)), (zq_vi (x1)), zz_no, zz_no, zz_no]) (st' := [(.ref (232))]) (fun _ _ _ => rfl) ?_
  refine zq_getf_f (b := 237) rfl zq_a232 rfl rfl ?_
  refine zq_run 1 (pc' := 5) (L' := [(.ref (232)), (zq_vi (x1)), zz_no, zz_no, zz_no]) (st' := [(zq_vi (x1)), (.ref (237))]) (fun _ _ _ => rfl) ?_
  obtain ⟨g_1, w⟩ := w
  refine zq_have (fun hR_2 => ?_)
  refine zq_ald_b (v := zq_i s (237) (x1)) rfl zq_a237 g_1.1 g_1.2 rfl ?_
  refine zq_eq0 rfl (zq_bo_in (hR_2.2.2.1 _ _ _ zq_a237)) (fun hb_3 => ?_) (fun hb_3 => ?_)
  · rw [if_pos hb_3] at w
    exact w
  · rw [if_neg hb_3] at w
    refine zq_run 1 (pc' := 10) (L' := [(.ref (232)), (zq_vi (x1)), zz_no, zz_no, zz_no]) (st' := [(.ref (232))]) (fun _ _ _ => rfl) ?_
    refine zq_getf_f (b := 255) rfl zq_a232 rfl rfl ?_
    refine zq_run 1 (pc' := 14) (L' := [(.ref (232)), (zq_vi (x1)), zz_no, zz_no, zz_no]) (st' := [(zq_vi (x1)), (.ref (255))]) (fun _ _ _ => rfl) ?_
    obtain ⟨g_4, w⟩ := w
    refine zq_ald_b (v := zq_i s (255) (x1)) rfl zq_a255 g_4.1 g_4.2 rfl ?_
    refine zq_eq0 rfl (zq_bo_in (hR_2.2.2.1 _ _ _ zq_a255)) (fun hb_5 => ?_) (fun hb_5 => ?_)
    · rw [if_pos hb_5] at w
      exact w
    · rw [if_neg hb_5] at w
      refine zq_run 1 (pc' := 19) (L' := [(.ref (232)), (zq_vi (x1)), zz_no, zz_no, zz_no]) (st' := [(.ref (232))]) (fun _ _ _ => rfl) ?_
      refine zq_getf_f (b := 251) rfl zq_a232 rfl rfl ?_
      refine zq_run 1 (pc' := 23) (L' := [(.ref (232)), (zq_vi (x1)), zz_no, zz_no, zz_no]) (st' := [(zq_vi (x1)), (.ref (251))]) (fun _ _ _ => rfl) ?_
      obtain ⟨g_6, w⟩ := w
      refine zq_ald_i (v := zq_i s (251) (x1)) rfl zq_a251 g_6.1 g_6.2 rfl ?_
      refine zq_run 6 (pc' := 35) (L' := [(.ref (232)), (zq_vi (x1)), (zq_vi (zq_i s (251) (x1))), zz_no, zz_no]) (st' := [(zq_vi (100)), (zq_vi (zq_i s (251) (x1))), (zq_vi (48)), (.ref (232))]) (fun _ _ _ => rfl) ?_
      refine zq_idiv rfl (of_decide_eq_true rfl) (of_decide_eq_true rfl) ?_
      refine zq_run 1 (pc' := 38) (L' := [(.ref (232)), (zq_vi (x1)), (zq_vi (zq_i s (251) (x1))), zz_no, zz_no]) (st' := [(zq_vi (10)), (zq_vi (zq_div (zq_i s (251) (x1)) (100))), (zq_vi (48)), (.ref (232))]) (fun _ _ _ => rfl) ?_
      refine zq_irem rfl (of_decide_eq_true rfl) (of_decide_eq_true rfl) ?_
      refine zq_iadd rfl ?_
      refine zq_i2c rfl ?_
      refine zq_call_v (i := .invokevirtual 296) (r := [1, 195, 1, 1, 9]) rfl rfl (fun h hp => zr_avv rfl (hp.obj zq_a232)) (of_decide_eq_false rfl) w (fun s_7 w => ?_)
      refine zq_run 4 (pc' := 50) (L' := [(.ref (232)), (zq_vi (x1)), (zq_vi (zq_i s (251) (x1))), zz_no, zz_no]) (st' := [(zq_vi (10)), (zq_vi (zq_i s (251) (x1))), (zq_vi (48)), (.ref (232))]) (fun _ _ _ => rfl) ?_
      refine zq_idiv rfl (of_decide_eq_true rfl) (of_decide_eq_true rfl) ?_
      refine zq_run 1 (pc' := 53) (L' := [(.ref (232)), (zq_vi (x1)), (zq_vi (zq_i s (251) (x1))), zz_no, zz_no]) (st' := [(zq_vi (10)), (zq_vi (zq_div (zq_i s (251) (x1)) (10))), (zq_vi (48)), (.ref (232))]) (fun _ _ _ => rfl) ?_
      refine zq_irem rfl (of_decide_eq_true rfl) (of_decide_eq_true rfl) ?_
      refine zq_iadd rfl ?_
      refine zq_i2c rfl ?_
      refine zq_call_v (i := .invokevirtual 296) (r := [1, 195, 1, 1, 9]) rfl rfl (fun h hp => zr_avv rfl (hp.obj zq_a232)) (of_decide_eq_false rfl) w (fun s_8 w => ?_)
      refine zq_run 4 (pc' := 65) (L' := [(.ref (232)), (zq_vi (x1)), (zq_vi (zq_i s (251) (x1))), zz_no, zz_no]) (st' := [(zq_vi (10)), (zq_vi (zq_i s (251) (x1))), (zq_vi (48)), (.ref (232))]) (fun _ _ _ => rfl) ?_
      refine zq_irem rfl (of_decide_eq_true rfl) (of_decide_eq_true rfl) ?_
      refine zq_iadd rfl ?_
      refine zq_i2c rfl ?_
      refine zq_call_v (i := .invokevirtual 296) (r := [1, 195, 1, 1, 9]) rfl rfl (fun h hp => zr_avv rfl (hp.obj zq_a232)) (of_decide_eq_false rfl) w (fun s_9 w => ?_)
      refine zq_run 2 (pc' := 74) (L' := [(.ref (232)), (zq_vi (x1)), (zq_vi (zq_i s (251) (x1))), zz_no, zz_no]) (st' := [(zq_vi (32)), (.ref (232))]) (fun _ _ _ => rfl) ?_
      refine zq_call_v (i := .invokevirtual 296) (r := [1, 195, 1, 1, 9]) rfl rfl (fun h hp => zr_avv rfl (hp.obj zq_a232)) (of_decide_eq_false rfl) w (fun s_10 w => ?_)
      refine zq_run 1 (pc' := 78) (L' := [(.ref (232)), (zq_vi (x1)), (zq_vi (zq_i s (251) (x1))), zz_no, zz_no]) (st' := [(.ref (232))]) (fun _ _ _ => rfl) ?_
      refine zq_getf_f (b := 237) rfl zq_a232 rfl rfl ?_
      refine zq_run 1 (pc' := 82) (L' := [(.ref (232)), (zq_vi (x1)), (zq_vi (zq_i s (251) (x1))), zz_no, zz_no]) (st' := [(zq_vi (x1)), (.ref (237))]) (fun _ _ _ => rfl) ?_
      obtain ⟨g_11, w⟩ := w
      refine zq_have (fun hR_12 => ?_)
      refine zq_ald_b (v := zq_i s_10 (237) (x1)) rfl zq_a237 g_11.1 g_11.2 rfl ?_
      refine zq_eq0 rfl (zq_bo_in (hR_12.2.2.1 _ _ _ zq_a237)) (fun hb_13 => ?_) (fun hb_13 => ?_)
      · rw [if_pos hb_13] at w
        refine zq_run 3 (pc' := 102) (L' := [(.ref (232)), (zq_vi (x1)), (zq_vi (zq_i s (251) (x1))), (zq_vi (0)), zz_no]) (st' := [(zq_vi (0))]) (fun _ _ _ => rfl) ?_
        refine zq_eq0 rfl (of_decide_eq_true rfl) (fun _ => ?_) (fun hb => absurd (by decide) hb)
        exact w
      · rw [if_neg hb_13] at w
        refine zq_run 1 (pc' := 87) (L' := [(.ref (232)), (zq_vi (x1)), (zq_vi (zq_i s (251) (x1))), zz_no, zz_no]) (st' := [(.ref (232))]) (fun _ _ _ => rfl) ?_
        refine zq_getf_f (b := 255) rfl zq_a232 rfl rfl ?_
        refine zq_run 1 (pc' := 91) (L' := [(.ref (232)), (zq_vi (x1)), (zq_vi (zq_i s (251) (x1))), zz_no, zz_no]) (st' := [(zq_vi (x1)), (.ref (255))]) (fun _ _ _ => rfl) ?_
        obtain ⟨g_14, w⟩ := w
        refine zq_ald_b (v := zq_i s_10 (255) (x1)) rfl zq_a255 g_14.1 g_14.2 rfl ?_
        refine zq_ne0 rfl (zq_bo_in (hR_12.2.2.1 _ _ _ zq_a255)) (fun hb_15 => ?_) (fun hb_15 => ?_)
        · rw [if_neg hb_15] at w
          refine zq_run 3 (pc' := 102) (L' := [(.ref (232)), (zq_vi (x1)), (zq_vi (zq_i s (251) (x1))), (zq_vi (0)), zz_no]) (st' := [(zq_vi (0))]) (fun _ _ _ => rfl) ?_
          refine zq_eq0 rfl (of_decide_eq_true rfl) (fun _ => ?_) (fun hb => absurd (by decide) hb)
          exact w
        · rw [if_pos hb_15] at w
          refine zq_run 4 (pc' := 102) (L' := [(.ref (232)), (zq_vi (x1)), (zq_vi (zq_i s (251) (x1))), (zq_vi (1)), zz_no]) (st' := [(zq_vi (1))]) (fun _ _ _ => rfl) ?_
          refine zq_eq0 rfl (of_decide_eq_true rfl) (fun hb => absurd hb (by decide)) (fun _ => ?_)
          refine zq_run 1 (pc' := 106) (L' := [(.ref (232)), (zq_vi (x1)), (zq_vi (zq_i s (251) (x1))), (zq_vi (1)), zz_no]) (st' := [(.ref (232))]) (fun _ _ _ => rfl) ?_
          refine zq_getf_f (b := 238) rfl zq_a232 rfl rfl ?_
          refine zq_run 1 (pc' := 110) (L' := [(.ref (232)), (zq_vi (x1)), (zq_vi (zq_i s (251) (x1))), (zq_vi (1)), zz_no]) (st' := [(zq_vi (x1)), (.ref (238))]) (fun _ _ _ => rfl) ?_
          obtain ⟨g_16, w⟩ := w
          refine zq_ald_i (v := zq_i s_10 (238) (x1)) rfl zq_a238 g_16.1 g_16.2 rfl ?_
          refine zq_run 1 (pc' := 113) (L' := [(.ref (232)), (zq_vi (x1)), (zq_vi (zq_i s (251) (x1))), (zq_vi (1)), zz_no]) (st' := [(zq_vi (9)), (zq_vi (zq_i s_10 (238) (x1)))]) (fun _ _ _ => rfl) ?_
          refine zq_ge rfl (hR_12.1 _ _) (of_decide_eq_true rfl) (fun hb_17 => ?_) (fun hb_17 => ?_)
          · rw [if_neg hb_17] at w
            exact w
          · rw [if_pos hb_17] at w
            refine zq_run 1 (pc' := 117) (L' := [(.ref (232)), (zq_vi (x1)), (zq_vi (zq_i s (251) (x1))), (zq_vi (1)), zz_no]) (st' := [(.ref (232))]) (fun _ _ _ => rfl) ?_
            refine zq_getf_f (b := 238) rfl zq_a232 rfl rfl ?_
            refine zq_run 1 (pc' := 121) (L' := [(.ref (232)), (zq_vi (x1)), (zq_vi (zq_i s (251) (x1))), (zq_vi (1)), zz_no]) (st' := [(zq_vi (x1)), (.ref (238))]) (fun _ _ _ => rfl) ?_
            obtain ⟨g_18, w⟩ := w
            refine zq_ald_i (v := zq_i s_10 (238) (x1)) rfl zq_a238 g_18.1 g_18.2 rfl ?_
            refine zq_run 1 (pc' := 123) (L' := [(.ref (232)), (zq_vi (x1)), (zq_vi (zq_i s (251) (x1))), (zq_vi (1)), zz_no]) (st' := [(zq_vi (1)), (zq_vi (zq_i s_10 (238) (x1)))]) (fun _ _ _ => rfl) ?_
            refine zq_iadd rfl ?_
            refine zq_run 5 (pc' := 140) (L' := [(.ref (232)), (zq_vi (x1)), (zq_vi (zq_i s (251) (x1))), (zq_vi (1)), (zq_vi ((zq_i s_10 (238) (x1)) + 1))]) (st' := [(zq_vi ((zq_i s_10 (238) (x1)) + 1)), (zq_vi (48)), (.ref (232))]) (fun _ _ _ => rfl) ?_
            refine zq_iadd rfl ?_
            refine zq_i2c rfl ?_
            refine zq_call_v (i := .invokevirtual 296) (r := [1, 195, 1, 1, 9]) rfl rfl (fun h hp => zr_avv rfl (hp.obj zq_a232)) (of_decide_eq_false rfl) w (fun s_19 w => ?_)
            refine zq_run 2 (pc' := 148) (L' := [(.ref (232)), (zq_vi (x1)), (zq_vi (zq_i s (251) (x1))), (zq_vi (1)), (zq_vi ((zq_i s_10 (238) (x1)) + 1))]) (st' := [(zq_vi (32)), (.ref (232))]) (fun _ _ _ => rfl) ?_
            refine zq_call_v (i := .invokevirtual 296) (r := [1, 195, 1, 1, 9]) rfl rfl (fun h hp => zr_avv rfl (hp.obj zq_a232)) (of_decide_eq_false rfl) w (fun s_20 w => ?_)
            refine zq_run 2 (pc' := 153) (L' := [(.ref (232)), (zq_vi (x1)), (zq_vi (zq_i s (251) (x1))), (zq_vi (1)), (zq_vi ((zq_i s_10 (238) (x1)) + 1))]) (st' := [(.ref (232)), (.ref (232))]) (fun _ _ _ => rfl) ?_
            refine zq_getf_f (b := 237) rfl zq_a232 rfl rfl ?_
            refine zq_run 1 (pc' := 157) (L' := [(.ref (232)), (zq_vi (x1)), (zq_vi (zq_i s (251) (x1))), (zq_vi (1)), (zq_vi ((zq_i s_10 (238) (x1)) + 1))]) (st' := [(zq_vi (x1)), (.ref (237)), (.ref (232))]) (fun _ _ _ => rfl) ?_
            obtain ⟨g_21, w⟩ := w
            refine zq_have (fun hR_22 => ?_)
            refine zq_ald_b (v := zq_i s_20 (237) (x1)) rfl zq_a237 g_21.1 g_21.2 rfl ?_
            refine zq_eq0 rfl (zq_bo_in (hR_22.2.2.1 _ _ _ zq_a237)) (fun hb_23 => ?_) (fun hb_23 => ?_)
            · rw [if_pos hb_23] at w
              refine zq_run 1 (pc' := 177) (L' := [(.ref (232)), (zq_vi (x1)), (zq_vi (zq_i s (251) (x1))), (zq_vi (1)), (zq_vi ((zq_i s_10 (238) (x1)) + 1))]) (st' := [(zq_vi (102)), (.ref (232))]) (fun _ _ _ => rfl) ?_
              refine zq_call_v (i := .invokevirtual 296) (r := [1, 195, 1, 1, 9]) rfl rfl (fun h hp => zr_avv rfl (hp.obj zq_a232)) (of_decide_eq_false rfl) w (fun s_24 w => ?_)
              refine zq_run 2 (pc' := 183) (L' := [(.ref (232)), (zq_vi (x1)), (zq_vi (zq_i s (251) (x1))), (zq_vi (1)), (zq_vi ((zq_i s_10 (238) (x1)) + 1))]) (st' := [(zq_vi (10)), (.ref (232))]) (fun _ _ _ => rfl) ?_
              refine zq_call_v (i := .invokevirtual 296) (r := [1, 195, 1, 1, 9]) rfl rfl (fun h hp => zr_avv rfl (hp.obj zq_a232)) (of_decide_eq_false rfl) w (fun s_25 w => ?_)
              exact zq_vret rfl rfl (⟨rfl, w⟩)
            · rw [if_neg hb_23] at w
              refine zq_run 1 (pc' := 162) (L' := [(.ref (232)), (zq_vi (x1)), (zq_vi (zq_i s (251) (x1))), (zq_vi (1)), (zq_vi ((zq_i s_10 (238) (x1)) + 1))]) (st' := [(.ref (232)), (.ref (232))]) (fun _ _ _ => rfl) ?_
              refine zq_getf_f (b := 255) rfl zq_a232 rfl rfl ?_
              refine zq_run 1 (pc' := 166) (L' := [(.ref (232)), (zq_vi (x1)), (zq_vi (zq_i s (251) (x1))), (zq_vi (1)), (zq_vi ((zq_i s_10 (238) (x1)) + 1))]) (st' := [(zq_vi (x1)), (.ref (255)), (.ref (232))]) (fun _ _ _ => rfl) ?_
              obtain ⟨g_26, w⟩ := w
              refine zq_ald_b (v := zq_i s_20 (255) (x1)) rfl zq_a255 g_26.1 g_26.2 rfl ?_
              refine zq_eq0 rfl (zq_bo_in (hR_22.2.2.1 _ _ _ zq_a255)) (fun hb_27 => ?_) (fun hb_27 => ?_)
              · rw [if_pos hb_27] at w
                refine zq_run 1 (pc' := 177) (L' := [(.ref (232)), (zq_vi (x1)), (zq_vi (zq_i s (251) (x1))), (zq_vi (1)), (zq_vi ((zq_i s_10 (238) (x1)) + 1))]) (st' := [(zq_vi (102)), (.ref (232))]) (fun _ _ _ => rfl) ?_
                refine zq_call_v (i := .invokevirtual 296) (r := [1, 195, 1, 1, 9]) rfl rfl (fun h hp => zr_avv rfl (hp.obj zq_a232)) (of_decide_eq_false rfl) w (fun s_28 w => ?_)
                refine zq_run 2 (pc' := 183) (L' := [(.ref (232)), (zq_vi (x1)), (zq_vi (zq_i s (251) (x1))), (zq_vi (1)), (zq_vi ((zq_i s_10 (238) (x1)) + 1))]) (st' := [(zq_vi (10)), (.ref (232))]) (fun _ _ _ => rfl) ?_
                refine zq_call_v (i := .invokevirtual 296) (r := [1, 195, 1, 1, 9]) rfl rfl (fun h hp => zr_avv rfl (hp.obj zq_a232)) (of_decide_eq_false rfl) w (fun s_29 w => ?_)
                exact zq_vret rfl rfl (⟨rfl, w⟩)
              · rw [if_neg hb_27] at w
                refine zq_run 2 (pc' := 177) (L' := [(.ref (232)), (zq_vi (x1)), (zq_vi (zq_i s (251) (x1))), (zq_vi (1)), (zq_vi ((zq_i s_10 (238) (x1)) + 1))]) (st' := [(zq_vi (110)), (.ref (232))]) (fun _ _ _ => rfl) ?_
                refine zq_call_v (i := .invokevirtual 296) (r := [1, 195, 1, 1, 9]) rfl rfl (fun h hp => zr_avv rfl (hp.obj zq_a232)) (of_decide_eq_false rfl) w (fun s_30 w => ?_)
                refine zq_run 2 (pc' := 183) (L' := [(.ref (232)), (zq_vi (x1)), (zq_vi (zq_i s (251) (x1))), (zq_vi (1)), (zq_vi ((zq_i s_10 (238) (x1)) + 1))]) (st' := [(zq_vi (10)), (.ref (232))]) (fun _ _ _ => rfl) ?_
                refine zq_call_v (i := .invokevirtual 296) (r := [1, 195, 1, 1, 9]) rfl rfl (fun h hp => zr_avv rfl (hp.obj zq_a232)) (of_decide_eq_false rfl) w (fun s_31 w => ?_)
                exact zq_vret rfl rfl (⟨rfl, w⟩)
set_option maxRecDepth 100000 in
/-- PaperObjectsModel.outEntry at 27 -/
theorem zw_198_27 {X : Nat × (Nat → Int32)} {s : zq_S} {K : zq_S → Prop} {x1 : Int} (hx1 : zq_iv x1) {v2 : Value} (hv2 : v2.category = 1) {v3 : Value} (hv3 : v3.category = 1) {v4 : Value} (hv4 : v4.category = 1) (w : (zq_Ex X 195 0 [(.ref (232)), (zq_vi ((48 + (zq_rem (zq_div (0) (100)) (10))) % 65536))] [] s (zq_rv fun s_1 => (zq_Ex X 195 0 [(.ref (232)), (zq_vi ((48 + (zq_rem (zq_div (0) (10)) (10))) % 65536))] [] s_1 (zq_rv fun s_2 => (zq_Ex X 195 0 [(.ref (232)), (zq_vi ((48 + (zq_rem (0) (10))) % 65536))] [] s_2 (zq_rv fun s_3 => (zq_Ex X 195 0 [(.ref (232)), (zq_vi (32))] [] s_3 (zq_rv fun s_4 => (((0 : Int) ≤ x1 ∧ x1 < (10 : Int)) ∧ (if zq_i s_4 (237) (x1) = 0 then zq_Ex X 198 127 [(.ref (232)), (zq_vi (x1)), (zq_vi (0)), (zq_vi (0)), v4] [] s_4 (zq_rv K) else (((0 : Int) ≤ x1 ∧ x1 < (10 : Int)) ∧ (if zq_i s_4 (255) (x1) = 0 then (((0 : Int) ≤ x1 ∧ x1 < (10 : Int)) ∧ (if zq_i s_4 (238) (x1) < 9 then (((0 : Int) ≤ x1 ∧ x1 < (10 : Int)) ∧ (zq_Ex X 195 0 [(.ref (232)), (zq_vi ((48 + ((zq_i s_4 (238) (x1)) + 1)) % 65536))] [] s_4 (zq_rv fun s_13 => (zq_Ex X 195 0 [(.ref (232)), (zq_vi (32))] [] s_13 (zq_rv fun s_14 => (((0 : Int) ≤ x1 ∧ x1 < (10 : Int)) ∧ (if zq_i s_14 (237) (x1) = 0 then (zq_Ex X 195 0 [(.ref (232)), (zq_vi (102))] [] s_14 (zq_rv fun s_18 => (zq_Ex X 195 0 [(.ref (232)), (zq_vi (10))] [] s_18 (zq_rv fun s_19 => K s_19)))) else (((0 : Int) ≤ x1 ∧ x1 < (10 : Int)) ∧ (if zq_i s_14 (255) (x1) = 0 then (zq_Ex X 195 0 [(.ref (232)), (zq_vi (102))] [] s_14 (zq_rv fun s_22 => (zq_Ex X 195 0 [(.ref (232)), (zq_vi (10))] [] s_22 (zq_rv fun s_23 => K s_23)))) else (zq_Ex X 195 0 [(.ref (232)), (zq_vi (110))] [] s_14 (zq_rv fun s_24 => (zq_Ex X 195 0 [(.ref (232)), (zq_vi (10))] [] s_24 (zq_rv fun s_25 => K s_25))))))))))))) else zq_Ex X 198 127 [(.ref (232)), (zq_vi (x1)), (zq_vi (0)), (zq_vi (1)), v4] [] s_4 (zq_rv K))) else zq_Ex X 198 127 [(.ref (232)), (zq_vi (x1)), (zq_vi (0)), (zq_vi (0)), v4] [] s_4 (zq_rv K)))))))))))))) : zq_Ex X 198 27 [(.ref (232)), (zq_vi (x1)), v2, v3, v4] [] s (zq_rv K) := by
  refine zq_run 6 (pc' := 35) (L' := [(.ref (232)), (zq_vi (x1)), (zq_vi (0)), v3, v4]) (st' := [(zq_vi (100)), (zq_vi (0)), (zq_vi (48)), (.ref (232))]) (fun _ _ _ => rfl) ?_
  refine zq_idiv rfl (of_decide_eq_true rfl) (of_decide_eq_true rfl) ?_
  refine zq_run 1 (pc' := 38) (L' := [(.ref (232)), (zq_vi (x1)), (zq_vi (0)), v3, v4]) (st' := [(zq_vi (10)), (zq_vi (zq_div (0) (100))), (zq_vi (48)), (.ref (232))]) (fun _ _ _ => rfl) ?_
  refine zq_irem rfl (of_decide_eq_true rfl) (of_decide_eq_true rfl) ?_
  refine zq_iadd rfl ?_
  refine zq_i2c rfl ?_
  refine zq_call_v (i := .invokevirtual 296) (r := [1, 195, 1, 1, 9]) rfl rfl (fun h hp => zr_avv rfl (hp.obj zq_a232)) (of_decide_eq_false rfl) w (fun s_1 w => ?_)
  refine zq_run 4 (pc' := 50) (L' := [(.ref (232)), (zq_vi (x1)), (zq_vi (0)), v3, v4]) (st' := [(zq_vi (10)), (zq_vi (0)), (zq_vi (48)), (.ref (232))]) (fun _ _ _ => rfl) ?_
  refine zq_idiv rfl (of_decide_eq_true rfl) (of_decide_eq_true rfl) ?_
  refine zq_run 1 (pc' := 53) (L' := [(.ref (232)), (zq_vi (x1)), (zq_vi (0)), v3, v4]) (st' := [(zq_vi (10)), (zq_vi (zq_div (0) (10))), (zq_vi (48)), (.ref (232))]) (fun _ _ _ => rfl) ?_
  refine zq_irem rfl (of_decide_eq_true rfl) (of_decide_eq_true rfl) ?_
  refine zq_iadd rfl ?_
  refine zq_i2c rfl ?_
  refine zq_call_v (i := .invokevirtual 296) (r := [1, 195, 1, 1, 9]) rfl rfl (fun h hp => zr_avv rfl (hp.obj zq_a232)) (of_decide_eq_false rfl) w (fun s_2 w => ?_)
  refine zq_run 4 (pc' := 65) (L' := [(.ref (232)), (zq_vi (x1)), (zq_vi (0)), v3, v4]) (st' := [(zq_vi (10)), (zq_vi (0)), (zq_vi (48)), (.ref (232))]) (fun _ _ _ => rfl) ?_
  refine zq_irem rfl (of_decide_eq_true rfl) (of_decide_eq_true rfl) ?_
  refine zq_iadd rfl ?_
  refine zq_i2c rfl ?_
  refine zq_call_v (i := .invokevirtual 296) (r := [1, 195, 1, 1, 9]) rfl rfl (fun h hp => zr_avv rfl (hp.obj zq_a232)) (of_decide_eq_false rfl) w (fun s_3 w => ?_)
  refine zq_run 2 (pc' := 74) (L' := [(.ref (232)), (zq_vi (x1)), (zq_vi (0)), v3, v4]) (st' := [(zq_vi (32)), (.ref (232))]) (fun _ _ _ => rfl) ?_
  refine zq_call_v (i := .invokevirtual 296) (r := [1, 195, 1, 1, 9]) rfl rfl (fun h hp => zr_avv rfl (hp.obj zq_a232)) (of_decide_eq_false rfl) w (fun s_4 w => ?_)
  refine zq_run 1 (pc' := 78) (L' := [(.ref (232)), (zq_vi (x1)), (zq_vi (0)), v3, v4]) (st' := [(.ref (232))]) (fun _ _ _ => rfl) ?_
  refine zq_getf_f (b := 237) rfl zq_a232 rfl rfl ?_
  refine zq_run 1 (pc' := 82) (L' := [(.ref (232)), (zq_vi (x1)), (zq_vi (0)), v3, v4]) (st' := [(zq_vi (x1)), (.ref (237))]) (fun _ _ _ => rfl) ?_
  obtain ⟨g_5, w⟩ := w
  refine zq_have (fun hR_6 => ?_)
  refine zq_ald_b (v := zq_i s_4 (237) (x1)) rfl zq_a237 g_5.1 g_5.2 rfl ?_
  refine zq_eq0 rfl (zq_bo_in (hR_6.2.2.1 _ _ _ zq_a237)) (fun hb_7 => ?_) (fun hb_7 => ?_)
  · rw [if_pos hb_7] at w
    refine zq_run 3 (pc' := 102) (L' := [(.ref (232)), (zq_vi (x1)), (zq_vi (0)), (zq_vi (0)), v4]) (st' := [(zq_vi (0))]) (fun _ _ _ => rfl) ?_
    refine zq_eq0 rfl (of_decide_eq_true rfl) (fun _ => ?_) (fun hb => absurd (by decide) hb)
    exact w
  · rw [if_neg hb_7] at w
    refine zq_run 1 (pc' := 87) (L' := [(.ref (232)), (zq_vi (x1)), (zq_vi (0)), v3, v4]) (st' := [(.ref (232))]) (fun _ _ _ => rfl) ?_
    refine zq_getf_f (b := 255) rfl zq_a232 rfl rfl ?_
    refine zq_run 1 (pc' := 91) (L' := [(.ref (232)), (zq_vi (x1)), (zq_vi (0)), v3, v4]) (st' := [(zq_vi (x1)), (.ref (255))]) (fun _ _ _ => rfl) ?_
    obtain ⟨g_8, w⟩ := w
    refine zq_ald_b (v := zq_i s_4 (255) (x1)) rfl zq_a255 g_8.1 g_8.2 rfl ?_
    refine zq_ne0 rfl (zq_bo_in (hR_6.2.2.1 _ _ _ zq_a255)) (fun hb_9 => ?_) (fun hb_9 => ?_)
    · rw [if_neg hb_9] at w
      refine zq_run 3 (pc' := 102) (L' := [(.ref (232)), (zq_vi (x1)), (zq_vi (0)), (zq_vi (0)), v4]) (st' := [(zq_vi (0))]) (fun _ _ _ => rfl) ?_
      refine zq_eq0 rfl (of_decide_eq_true rfl) (fun _ => ?_) (fun hb => absurd (by decide) hb)
      exact w
    · rw [if_pos hb_9] at w
      refine zq_run 4 (pc' := 102) (L' := [(.ref (232)), (zq_vi (x1)), (zq_vi (0)), (zq_vi (1)), v4]) (st' := [(zq_vi (1))]) (fun _ _ _ => rfl) ?_
      refine zq_eq0 rfl (of_decide_eq_true rfl) (fun hb => absurd hb (by decide)) (fun _ => ?_)
      refine zq_run 1 (pc' := 106) (L' := [(.ref (232)), (zq_vi (x1)), (zq_vi (0)), (zq_vi (1)), v4]) (st' := [(.ref (232))]) (fun _ _ _ => rfl) ?_
      refine zq_getf_f (b := 238) rfl zq_a232 rfl rfl ?_
      refine zq_run 1 (pc' := 110) (L' := [(.ref (232)), (zq_vi (x1)), (zq_vi (0)), (zq_vi (1)), v4]) (st' := [(zq_vi (x1)), (.ref (238))]) (fun _ _ _ => rfl) ?_
      obtain ⟨g_10, w⟩ := w
      refine zq_ald_i (v := zq_i s_4 (238) (x1)) rfl zq_a238 g_10.1 g_10.2 rfl ?_
      refine zq_run 1 (pc' := 113) (L' := [(.ref (232)), (zq_vi (x1)), (zq_vi (0)), (zq_vi (1)), v4]) (st' := [(zq_vi (9)), (zq_vi (zq_i s_4 (238) (x1)))]) (fun _ _ _ => rfl) ?_
      refine zq_ge rfl (hR_6.1 _ _) (of_decide_eq_true rfl) (fun hb_11 => ?_) (fun hb_11 => ?_)
      · rw [if_neg hb_11] at w
        exact w
      · rw [if_pos hb_11] at w
        refine zq_run 1 (pc' := 117) (L' := [(.ref (232)), (zq_vi (x1)), (zq_vi (0)), (zq_vi (1)), v4]) (st' := [(.ref (232))]) (fun _ _ _ => rfl) ?_
        refine zq_getf_f (b := 238) rfl zq_a232 rfl rfl ?_
        refine zq_run 1 (pc' := 121) (L' := [(.ref (232)), (zq_vi (x1)), (zq_vi (0)), (zq_vi (1)), v4]) (st' := [(zq_vi (x1)), (.ref (238))]) (fun _ _ _ => rfl) ?_
        obtain ⟨g_12, w⟩ := w
        refine zq_ald_i (v := zq_i s_4 (238) (x1)) rfl zq_a238 g_12.1 g_12.2 rfl ?_
        refine zq_run 1 (pc' := 123) (L' := [(.ref (232)), (zq_vi (x1)), (zq_vi (0)), (zq_vi (1)), v4]) (st' := [(zq_vi (1)), (zq_vi (zq_i s_4 (238) (x1)))]) (fun _ _ _ => rfl) ?_
        refine zq_iadd rfl ?_
        refine zq_run 5 (pc' := 140) (L' := [(.ref (232)), (zq_vi (x1)), (zq_vi (0)), (zq_vi (1)), (zq_vi ((zq_i s_4 (238) (x1)) + 1))]) (st' := [(zq_vi ((zq_i s_4 (238) (x1)) + 1)), (zq_vi (48)), (.ref (232))]) (fun _ _ _ => rfl) ?_
        refine zq_iadd rfl ?_
        refine zq_i2c rfl ?_
        refine zq_call_v (i := .invokevirtual 296) (r := [1, 195, 1, 1, 9]) rfl rfl (fun h hp => zr_avv rfl (hp.obj zq_a232)) (of_decide_eq_false rfl) w (fun s_13 w => ?_)
        refine zq_run 2 (pc' := 148) (L' := [(.ref (232)), (zq_vi (x1)), (zq_vi (0)), (zq_vi (1)), (zq_vi ((zq_i s_4 (238) (x1)) + 1))]) (st' := [(zq_vi (32)), (.ref (232))]) (fun _ _ _ => rfl) ?_
        refine zq_call_v (i := .invokevirtual 296) (r := [1, 195, 1, 1, 9]) rfl rfl (fun h hp => zr_avv rfl (hp.obj zq_a232)) (of_decide_eq_false rfl) w (fun s_14 w => ?_)
        refine zq_run 2 (pc' := 153) (L' := [(.ref (232)), (zq_vi (x1)), (zq_vi (0)), (zq_vi (1)), (zq_vi ((zq_i s_4 (238) (x1)) + 1))]) (st' := [(.ref (232)), (.ref (232))]) (fun _ _ _ => rfl) ?_
        refine zq_getf_f (b := 237) rfl zq_a232 rfl rfl ?_
        refine zq_run 1 (pc' := 157) (L' := [(.ref (232)), (zq_vi (x1)), (zq_vi (0)), (zq_vi (1)), (zq_vi ((zq_i s_4 (238) (x1)) + 1))]) (st' := [(zq_vi (x1)), (.ref (237)), (.ref (232))]) (fun _ _ _ => rfl) ?_
        obtain ⟨g_15, w⟩ := w
        refine zq_have (fun hR_16 => ?_)
        refine zq_ald_b (v := zq_i s_14 (237) (x1)) rfl zq_a237 g_15.1 g_15.2 rfl ?_
        refine zq_eq0 rfl (zq_bo_in (hR_16.2.2.1 _ _ _ zq_a237)) (fun hb_17 => ?_) (fun hb_17 => ?_)
        · rw [if_pos hb_17] at w
          refine zq_run 1 (pc' := 177) (L' := [(.ref (232)), (zq_vi (x1)), (zq_vi (0)), (zq_vi (1)), (zq_vi ((zq_i s_4 (238) (x1)) + 1))]) (st' := [(zq_vi (102)), (.ref (232))]) (fun _ _ _ => rfl) ?_
          refine zq_call_v (i := .invokevirtual 296) (r := [1, 195, 1, 1, 9]) rfl rfl (fun h hp => zr_avv rfl (hp.obj zq_a232)) (of_decide_eq_false rfl) w (fun s_18 w => ?_)
          refine zq_run 2 (pc' := 183) (L' := [(.ref (232)), (zq_vi (x1)), (zq_vi (0)), (zq_vi (1)), (zq_vi ((zq_i s_4 (238) (x1)) + 1))]) (st' := [(zq_vi (10)), (.ref (232))]) (fun _ _ _ => rfl) ?_
          refine zq_call_v (i := .invokevirtual 296) (r := [1, 195, 1, 1, 9]) rfl rfl (fun h hp => zr_avv rfl (hp.obj zq_a232)) (of_decide_eq_false rfl) w (fun s_19 w => ?_)
          exact zq_vret rfl rfl (⟨rfl, w⟩)
        · rw [if_neg hb_17] at w
          refine zq_run 1 (pc' := 162) (L' := [(.ref (232)), (zq_vi (x1)), (zq_vi (0)), (zq_vi (1)), (zq_vi ((zq_i s_4 (238) (x1)) + 1))]) (st' := [(.ref (232)), (.ref (232))]) (fun _ _ _ => rfl) ?_
          refine zq_getf_f (b := 255) rfl zq_a232 rfl rfl ?_
          refine zq_run 1 (pc' := 166) (L' := [(.ref (232)), (zq_vi (x1)), (zq_vi (0)), (zq_vi (1)), (zq_vi ((zq_i s_4 (238) (x1)) + 1))]) (st' := [(zq_vi (x1)), (.ref (255)), (.ref (232))]) (fun _ _ _ => rfl) ?_
          obtain ⟨g_20, w⟩ := w
          refine zq_ald_b (v := zq_i s_14 (255) (x1)) rfl zq_a255 g_20.1 g_20.2 rfl ?_
          refine zq_eq0 rfl (zq_bo_in (hR_16.2.2.1 _ _ _ zq_a255)) (fun hb_21 => ?_) (fun hb_21 => ?_)
          · rw [if_pos hb_21] at w
            refine zq_run 1 (pc' := 177) (L' := [(.ref (232)), (zq_vi (x1)), (zq_vi (0)), (zq_vi (1)), (zq_vi ((zq_i s_4 (238) (x1)) + 1))]) (st' := [(zq_vi (102)), (.ref (232))]) (fun _ _ _ => rfl) ?_
            refine zq_call_v (i := .invokevirtual 296) (r := [1, 195, 1, 1, 9]) rfl rfl (fun h hp => zr_avv rfl (hp.obj zq_a232)) (of_decide_eq_false rfl) w (fun s_22 w => ?_)
            refine zq_run 2 (pc' := 183) (L' := [(.ref (232)), (zq_vi (x1)), (zq_vi (0)), (zq_vi (1)), (zq_vi ((zq_i s_4 (238) (x1)) + 1))]) (st' := [(zq_vi (10)), (.ref (232))]) (fun _ _ _ => rfl) ?_
            refine zq_call_v (i := .invokevirtual 296) (r := [1, 195, 1, 1, 9]) rfl rfl (fun h hp => zr_avv rfl (hp.obj zq_a232)) (of_decide_eq_false rfl) w (fun s_23 w => ?_)
            exact zq_vret rfl rfl (⟨rfl, w⟩)
          · rw [if_neg hb_21] at w
            refine zq_run 2 (pc' := 177) (L' := [(.ref (232)), (zq_vi (x1)), (zq_vi (0)), (zq_vi (1)), (zq_vi ((zq_i s_4 (238) (x1)) + 1))]) (st' := [(zq_vi (110)), (.ref (232))]) (fun _ _ _ => rfl) ?_
            refine zq_call_v (i := .invokevirtual 296) (r := [1, 195, 1, 1, 9]) rfl rfl (fun h hp => zr_avv rfl (hp.obj zq_a232)) (of_decide_eq_false rfl) w (fun s_24 w => ?_)
            refine zq_run 2 (pc' := 183) (L' := [(.ref (232)), (zq_vi (x1)), (zq_vi (0)), (zq_vi (1)), (zq_vi ((zq_i s_4 (238) (x1)) + 1))]) (st' := [(zq_vi (10)), (.ref (232))]) (fun _ _ _ => rfl) ?_
            refine zq_call_v (i := .invokevirtual 296) (r := [1, 195, 1, 1, 9]) rfl rfl (fun h hp => zr_avv rfl (hp.obj zq_a232)) (of_decide_eq_false rfl) w (fun s_25 w => ?_)
            exact zq_vret rfl rfl (⟨rfl, w⟩)
set_option maxRecDepth 100000 in
/-- PaperObjectsModel.outEntry at 127 -/
theorem zw_198_127 {X : Nat × (Nat → Int32)} {s : zq_S} {K : zq_S → Prop} {x1 : Int} (hx1 : zq_iv x1) {x2 : Int} (hx2 : zq_iv x2) {x3 : Int} (hx3 : zq_bo x3) {v4 : Value} (hv4 : v4.category = 1) (w : (((0 : Int) ≤ x1 ∧ x1 < (10 : Int)) ∧ (zq_Ex X 195 0 [(.ref (232)), (zq_vi ((48 + (zq_i s (238) (x1))) % 65536))] [] s (zq_rv fun s_3 => (zq_Ex X 195 0 [(.ref (232)), (zq_vi (32))] [] s_3 (zq_rv fun s_4 => (((0 : Int) ≤ x1 ∧ x1 < (10 : Int)) ∧ (if zq_i s_4 (237) (x1) = 0 then (zq_Ex X 195 0 [(.ref (232)), (zq_vi (102))] [] s_4 (zq_rv fun s_8 => (zq_Ex X 195 0 [(.ref (232)), (zq_vi (10))] [] s_8 (zq_rv fun s_9 => K s_9)))) else (((0 : Int) ≤ x1 ∧ x1 < (10 : Int)) ∧ (if zq_i s_4 (255) (x1) = 0 then (zq_Ex X 195 0 [(.ref (232)), (zq_vi (102))] [] s_4 (zq_rv fun s_12 => (zq_Ex X 195 0 [(.ref (232)), (zq_vi (10))] [] s_12 (zq_rv fun s_13 => K s_13)))) else (zq_Ex X 195 0 [(.ref (232)), (zq_vi (110))] [] s_4 (zq_rv fun s_14 => (zq_Ex X 195 0 [(.ref (232)), (zq_vi (10))] [] s_14 (zq_rv fun s_15 => K s_15)))))))))))))) : zq_Ex X 198 127 [(.ref (232)), (zq_vi (x1)), (zq_vi (x2)), (zq_vi (x3)), v4] [] s (zq_rv K) := by
  refine zq_run 1 (pc' := 128) (L' := [(.ref (232)), (zq_vi (x1)), (zq_vi (x2)), (zq_vi (x3)), v4]) (st' := [(.ref (232))]) (fun _ _ _ => rfl) ?_
  refine zq_getf_f (b := 238) rfl zq_a232 rfl rfl ?_
  refine zq_run 1 (pc' := 132) (L' := [(.ref (232)), (zq_vi (x1)), (zq_vi (x2)), (zq_vi (x3)), v4]) (st' := [(zq_vi (x1)), (.ref (238))]) (fun _ _ _ => rfl) ?_
  obtain ⟨g_1, w⟩ := w
  refine zq_have (fun hR_2 => ?_)
  refine zq_ald_i (v := zq_i s (238) (x1)) rfl zq_a238 g_1.1 g_1.2 rfl ?_
  refine zq_run 4 (pc' := 140) (L' := [(.ref (232)), (zq_vi (x1)), (zq_vi (x2)), (zq_vi (x3)), (zq_vi (zq_i s (238) (x1)))]) (st' := [(zq_vi (zq_i s (238) (x1))), (zq_vi (48)), (.ref (232))]) (fun _ _ _ => rfl) ?_
  refine zq_iadd rfl ?_
  refine zq_i2c rfl ?_
  refine zq_call_v (i := .invokevirtual 296) (r := [1, 195, 1, 1, 9]) rfl rfl (fun h hp => zr_avv rfl (hp.obj zq_a232)) (of_decide_eq_false rfl) w (fun s_3 w => ?_)
  refine zq_run 2 (pc' := 148) (L' := [(.ref (232)), (zq_vi (x1)), (zq_vi (x2)), (zq_vi (x3)), (zq_vi (zq_i s (238) (x1)))]) (st' := [(zq_vi (32)), (.ref (232))]) (fun _ _ _ => rfl) ?_
  refine zq_call_v (i := .invokevirtual 296) (r := [1, 195, 1, 1, 9]) rfl rfl (fun h hp => zr_avv rfl (hp.obj zq_a232)) (of_decide_eq_false rfl) w (fun s_4 w => ?_)
  refine zq_run 2 (pc' := 153) (L' := [(.ref (232)), (zq_vi (x1)), (zq_vi (x2)), (zq_vi (x3)), (zq_vi (zq_i s (238) (x1)))]) (st' := [(.ref (232)), (.ref (232))]) (fun _ _ _ => rfl) ?_
  refine zq_getf_f (b := 237) rfl zq_a232 rfl rfl ?_
  refine zq_run 1 (pc' := 157) (L' := [(.ref (232)), (zq_vi (x1)), (zq_vi (x2)), (zq_vi (x3)), (zq_vi (zq_i s (238) (x1)))]) (st' := [(zq_vi (x1)), (.ref (237)), (.ref (232))]) (fun _ _ _ => rfl) ?_
  obtain ⟨g_5, w⟩ := w
  refine zq_have (fun hR_6 => ?_)
  refine zq_ald_b (v := zq_i s_4 (237) (x1)) rfl zq_a237 g_5.1 g_5.2 rfl ?_
  refine zq_eq0 rfl (zq_bo_in (hR_6.2.2.1 _ _ _ zq_a237)) (fun hb_7 => ?_) (fun hb_7 => ?_)
  · rw [if_pos hb_7] at w
    refine zq_run 1 (pc' := 177) (L' := [(.ref (232)), (zq_vi (x1)), (zq_vi (x2)), (zq_vi (x3)), (zq_vi (zq_i s (238) (x1)))]) (st' := [(zq_vi (102)), (.ref (232))]) (fun _ _ _ => rfl) ?_
    refine zq_call_v (i := .invokevirtual 296) (r := [1, 195, 1, 1, 9]) rfl rfl (fun h hp => zr_avv rfl (hp.obj zq_a232)) (of_decide_eq_false rfl) w (fun s_8 w => ?_)
    refine zq_run 2 (pc' := 183) (L' := [(.ref (232)), (zq_vi (x1)), (zq_vi (x2)), (zq_vi (x3)), (zq_vi (zq_i s (238) (x1)))]) (st' := [(zq_vi (10)), (.ref (232))]) (fun _ _ _ => rfl) ?_
    refine zq_call_v (i := .invokevirtual 296) (r := [1, 195, 1, 1, 9]) rfl rfl (fun h hp => zr_avv rfl (hp.obj zq_a232)) (of_decide_eq_false rfl) w (fun s_9 w => ?_)
    exact zq_vret rfl rfl (⟨rfl, w⟩)
  · rw [if_neg hb_7] at w
    refine zq_run 1 (pc' := 162) (L' := [(.ref (232)), (zq_vi (x1)), (zq_vi (x2)), (zq_vi (x3)), (zq_vi (zq_i s (238) (x1)))]) (st' := [(.ref (232)), (.ref (232))]) (fun _ _ _ => rfl) ?_
    refine zq_getf_f (b := 255) rfl zq_a232 rfl rfl ?_
    refine zq_run 1 (pc' := 166) (L' := [(.ref (232)), (zq_vi (x1)), (zq_vi (x2)), (zq_vi (x3)), (zq_vi (zq_i s (238) (x1)))]) (st' := [(zq_vi (x1)), (.ref (255)), (.ref (232))]) (fun _ _ _ => rfl) ?_
    obtain ⟨g_10, w⟩ := w
    refine zq_ald_b (v := zq_i s_4 (255) (x1)) rfl zq_a255 g_10.1 g_10.2 rfl ?_
    refine zq_eq0 rfl (zq_bo_in (hR_6.2.2.1 _ _ _ zq_a255)) (fun hb_11 => ?_) (fun hb_11 => ?_)
    · rw [if_pos hb_11] at w
      refine zq_run 1 (pc' := 177) (L' := [(.ref (232)), (zq_vi (x1)), (zq_vi (x2)), (zq_vi (x3)), (zq_vi (zq_i s (238) (x1)))]) (st' := [(zq_vi (102)), (.ref (232))]) (fun _ _ _ => rfl) ?_
      refine zq_call_v (i := .invokevirtual 296) (r := [1, 195, 1, 1, 9]) rfl rfl (fun h hp => zr_avv rfl (hp.obj zq_a232)) (of_decide_eq_false rfl) w (fun s_12 w => ?_)
      refine zq_run 2 (pc' := 183) (L' := [(.ref (232)), (zq_vi (x1)), (zq_vi (x2)), (zq_vi (x3)), (zq_vi (zq_i s (238) (x1)))]) (st' := [(zq_vi (10)), (.ref (232))]) (fun _ _ _ => rfl) ?_
      refine zq_call_v (i := .invokevirtual 296) (r := [1, 195, 1, 1, 9]) rfl rfl (fun h hp => zr_avv rfl (hp.obj zq_a232)) (of_decide_eq_false rfl) w (fun s_13 w => ?_)
      exact zq_vret rfl rfl (⟨rfl, w⟩)
    · rw [if_neg hb_11] at w
      refine zq_run 2 (pc' := 177) (L' := [(.ref (232)), (zq_vi (x1)), (zq_vi (x2)), (zq_vi (x3)), (zq_vi (zq_i s (238) (x1)))]) (st' := [(zq_vi (110)), (.ref (232))]) (fun _ _ _ => rfl) ?_
      refine zq_call_v (i := .invokevirtual 296) (r := [1, 195, 1, 1, 9]) rfl rfl (fun h hp => zr_avv rfl (hp.obj zq_a232)) (of_decide_eq_false rfl) w (fun s_14 w => ?_)
      refine zq_run 2 (pc' := 183) (L' := [(.ref (232)), (zq_vi (x1)), (zq_vi (x2)), (zq_vi (x3)), (zq_vi (zq_i s (238) (x1)))]) (st' := [(zq_vi (10)), (.ref (232))]) (fun _ _ _ => rfl) ?_
      refine zq_call_v (i := .invokevirtual 296) (r := [1, 195, 1, 1, 9]) rfl rfl (fun h hp => zr_avv rfl (hp.obj zq_a232)) (of_decide_eq_false rfl) w (fun s_15 w => ?_)
      exact zq_vret rfl rfl (⟨rfl, w⟩)
set_option maxRecDepth 100000 in
/-- PaperObjectsModel.outReference(II)V -/
theorem zw_199 {X : Nat × (Nat → Int32)} {s : zq_S} {K : zq_S → Prop} {x1 : Int} (hx1 : zq_iv x1) {x2 : Int} (hx2 : zq_iv x2) (w : (zq_Ex X 195 0 [(.ref (232)), (zq_vi ((48 + x1) % 65536))] [] s (zq_rv fun s_1 => (zq_Ex X 195 0 [(.ref (232)), (zq_vi (32))] [] s_1 (zq_rv fun s_2 => (zq_Ex X 195 0 [(.ref (232)), (zq_vi ((48 + x2) % 65536))] [] s_2 (zq_rv fun s_3 => (zq_Ex X 195 0 [(.ref (232)), (zq_vi (32))] [] s_3 (zq_rv fun s_4 => (zq_Ex X 195 0 [(.ref (232)), (zq_vi (82))] [] s_4 (zq_rv fun s_5 => K s_5))))))))))) : zq_Ex X 199 0 [(.ref (232)), (zq_vi (x1)), (zq_vi (x2))] [] s (zq_rv K) := by
  refine zq_run 3 (pc' := 4) (L' := [(.ref (232)), (zq_vi (x1)), (zq_vi (x2))]) (st' := [(zq_vi (x1)), (zq_vi (48)), (.ref (232))]) (fun _ _ _ => rfl) ?_
  refine zq_iadd rfl ?_
  refine zq_i2c rfl ?_
  refine zq_call_v (i := .invokevirtual 296) (r := [1, 195, 1, 1, 9]) rfl rfl (fun h hp => zr_avv rfl (hp.obj zq_a232)) (of_decide_eq_false rfl) w (fun s_1 w => ?_)
  refine zq_run 2 (pc' := 12) (L' := [(.ref (232)), (zq_vi (x1)), (zq_vi (x2))]) (st' := [(zq_vi (32)), (.ref (232))]) (fun _ _ _ => rfl) ?_
  refine zq_call_v (i := .invokevirtual 296) (r := [1, 195, 1, 1, 9]) rfl rfl (fun h hp => zr_avv rfl (hp.obj zq_a232)) (of_decide_eq_false rfl) w (fun s_2 w => ?_)
  refine zq_run 3 (pc' := 19) (L' := [(.ref (232)), (zq_vi (x1)), (zq_vi (x2))]) (st' := [(zq_vi (x2)), (zq_vi (48)), (.ref (232))]) (fun _ _ _ => rfl) ?_
  refine zq_iadd rfl ?_
  refine zq_i2c rfl ?_
  refine zq_call_v (i := .invokevirtual 296) (r := [1, 195, 1, 1, 9]) rfl rfl (fun h hp => zr_avv rfl (hp.obj zq_a232)) (of_decide_eq_false rfl) w (fun s_3 w => ?_)
  refine zq_run 2 (pc' := 27) (L' := [(.ref (232)), (zq_vi (x1)), (zq_vi (x2))]) (st' := [(zq_vi (32)), (.ref (232))]) (fun _ _ _ => rfl) ?_
  refine zq_call_v (i := .invokevirtual 296) (r := [1, 195, 1, 1, 9]) rfl rfl (fun h hp => zr_avv rfl (hp.obj zq_a232)) (of_decide_eq_false rfl) w (fun s_4 w => ?_)
  refine zq_run 2 (pc' := 33) (L' := [(.ref (232)), (zq_vi (x1)), (zq_vi (x2))]) (st' := [(zq_vi (82)), (.ref (232))]) (fun _ _ _ => rfl) ?_
  refine zq_call_v (i := .invokevirtual 296) (r := [1, 195, 1, 1, 9]) rfl rfl (fun h hp => zr_avv rfl (hp.obj zq_a232)) (of_decide_eq_false rfl) w (fun s_5 w => ?_)
  exact zq_vret rfl rfl (⟨rfl, w⟩)
set_option maxRecDepth 100000 in
/-- PaperObjectsModel.outNumber(I)V -/
theorem zw_200 {X : Nat × (Nat → Int32)} {s : zq_S} {K : zq_S → Prop} {x1 : Int} (hx1 : zq_iv x1) (w : (zq_Ex X 168 0 [(.ref (232)), (zq_vi (x1)), zz_no, zz_no, zz_no] [] (zq_si s (232) (23) (0)) (zq_rv fun s_1 => (zq_Ex X 201 0 [(.ref (232)), zz_no] [] s_1 (zq_rv fun s_2 => K s_2))))) : zq_Ex X 200 0 [(.ref (232)), (zq_vi (x1))] [] s (zq_rv K) := by
  refine zq_run 2 (pc' := 2) (L' := [(.ref (232)), (zq_vi (x1))]) (st' := [(zq_vi (0)), (.ref (232))]) (fun _ _ _ => rfl) ?_
  refine zq_putf_i (j := 23) rfl zq_a232 rfl rfl rfl (of_decide_eq_true rfl) ?_
  refine zq_run 2 (pc' := 7) (L' := [(.ref (232)), (zq_vi (x1))]) (st' := [(zq_vi (x1)), (.ref (232))]) (fun _ _ _ => rfl) ?_
  refine zq_call_v (i := .invokevirtual 166) (r := [1, 168, 1, 1, 9]) rfl rfl (fun h hp => zr_avv rfl (hp.obj zq_a232)) (of_decide_eq_false rfl) w (fun s_1 w => ?_)
  refine zq_run 1 (pc' := 11) (L' := [(.ref (232)), (zq_vi (x1))]) (st' := [(.ref (232))]) (fun _ _ _ => rfl) ?_
  refine zq_call_v (i := .invokevirtual 299) (r := [1, 201, 0, 1, 9]) rfl rfl (fun h hp => zr_avv rfl (hp.obj zq_a232)) (of_decide_eq_false rfl) w (fun s_2 w => ?_)
  exact zq_vret rfl rfl (⟨rfl, w⟩)
