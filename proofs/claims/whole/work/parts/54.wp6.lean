/-! weakest preconditions of methods 201-231: printed by program (genW.py) -/
set_option maxRecDepth 100000 in
/-- PaperObjectsModel.outMade()V -/
theorem zw_201 {X : Nat × (Nat → Int32)} {s : zq_S} {K : zq_S → Prop}  (w : zq_Ex X 201 2 [(.ref (232)), (zq_vi (0))] [] s (zq_rv K)) : zq_Ex X 201 0 [(.ref (232)), zz_no] [] s (zq_rv K) := by
  refine zq_run 2 (pc' := 2) (L' := [(.ref (232)), (zq_vi (0))]) (st' := []) (fun _ _ _ => rfl) ?_
  exact w
set_option maxRecDepth 100000 in
/-- PaperObjectsModel.outMade at 2 -/
theorem zw_201_2 {X : Nat × (Nat → Int32)} {s : zq_S} {K : zq_S → Prop} {x1 : Int} (hx1 : zq_iv x1) (w : (if x1 < zq_i s (232) (23) then (((0 : Int) ≤ x1 ∧ x1 < (700 : Int)) ∧ (zq_Ex X 195 0 [(.ref (232)), (zq_vi (zq_i s (245) (x1)))] [] s (zq_rv fun s_4 => zq_Ex X 201 2 [(.ref (232)), (zq_vi (x1 + 1))] [] s_4 (zq_rv K)))) else K s)) : zq_Ex X 201 2 [(.ref (232)), (zq_vi (x1))] [] s (zq_rv K) := by
  refine zq_run 2 (pc' := 4) (L' := [(.ref (232)), (zq_vi (x1))]) (st' := [(.ref (232)), (zq_vi (x1))]) (fun _ _ _ => rfl) ?_
  refine zq_have (fun hR_1 => ?_)
  refine zq_getf_i (j := 23) (v := zq_i s (232) (23)) rfl zq_a232 rfl rfl rfl ?_
  refine zq_ge rfl hx1 (hR_1.1 _ _) (fun hb_2 => ?_) (fun hb_2 => ?_)
  · rw [if_neg hb_2] at w
    exact zq_vret rfl rfl (⟨rfl, w⟩)
  · rw [if_pos hb_2] at w
    refine zq_run 2 (pc' := 12) (L' := [(.ref (232)), (zq_vi (x1))]) (st' := [(.ref (232)), (.ref (232))]) (fun _ _ _ => rfl) ?_
    refine zq_getf_f (b := 245) rfl zq_a232 rfl rfl ?_
    refine zq_run 1 (pc' := 16) (L' := [(.ref (232)), (zq_vi (x1))]) (st' := [(zq_vi (x1)), (.ref (245)), (.ref (232))]) (fun _ _ _ => rfl) ?_
    obtain ⟨g_3, w⟩ := w
    refine zq_ald_c (v := zq_i s (245) (x1)) rfl zq_a245 g_3.1 g_3.2 rfl ?_
    refine zq_call_v (i := .invokevirtual 296) (r := [1, 195, 1, 1, 9]) rfl rfl (fun h hp => zr_avv rfl (hp.obj zq_a232)) (of_decide_eq_false rfl) w (fun s_4 w => ?_)
    refine zq_iinc (L' := [(.ref (232)), (zq_vi (x1 + 1))]) rfl rfl rfl ?_
    refine zq_run 1 (pc' := 2) (L' := [(.ref (232)), (zq_vi (x1 + 1))]) (st' := []) (fun _ _ _ => rfl) ?_
    exact w
set_option maxRecDepth 100000 in
/-- PaperObjectsModel.settle()V -/
theorem zw_202 {X : Nat × (Nat → Int32)} {s : zq_S} {K : zq_S → Prop}  (w : zq_Ex X 202 2 [(.ref (232)), (zq_vi (0))] [] s (zq_rv K)) : zq_Ex X 202 0 [(.ref (232)), zz_no] [] s (zq_rv K) := by
  refine zq_run 2 (pc' := 2) (L' := [(.ref (232)), (zq_vi (0))]) (st' := []) (fun _ _ _ => rfl) ?_
  exact w
set_option maxRecDepth 100000 in
/-- PaperObjectsModel.settle at 2 -/
theorem zw_202_2 {X : Nat × (Nat → Int32)} {s : zq_S} {K : zq_S → Prop} {x1 : Int} (hx1 : zq_iv x1) (w : (if x1 < zq_i s (232) (7) then (((0 : Int) ≤ x1 ∧ x1 < (6500 : Int)) ∧ (((0 : Int) ≤ x1 ∧ x1 < (999 : Int)) ∧ zq_Ex X 202 2 [(.ref (232)), (zq_vi (x1 + 1))] [] (zq_si s (234) (x1) (zq_i s (236) (x1))) (zq_rv K))) else zq_Ex X 202 38 [(.ref (232)), (zq_vi (1))] [] (zq_si s (232) (3) (zq_i s (232) (7))) (zq_rv K))) : zq_Ex X 202 2 [(.ref (232)), (zq_vi (x1))] [] s (zq_rv K) := by
  refine zq_run 2 (pc' := 4) (L' := [(.ref (232)), (zq_vi (x1))]) (st' := [(.ref (232)), (zq_vi (x1))]) (fun _ _ _ => rfl) ?_
  refine zq_have (fun hR_1 => ?_)
  refine zq_getf_i (j := 7) (v := zq_i s (232) (7)) rfl zq_a232 rfl rfl rfl ?_
  refine zq_ge rfl hx1 (hR_1.1 _ _) (fun hb_2 => ?_) (fun hb_2 => ?_)
  · rw [if_neg hb_2] at w
    refine zq_run 2 (pc' := 30) (L' := [(.ref (232)), (zq_vi (x1))]) (st' := [(.ref (232)), (.ref (232))]) (fun _ _ _ => rfl) ?_
    refine zq_getf_i (j := 7) (v := zq_i s (232) (7)) rfl zq_a232 rfl rfl rfl ?_
    refine zq_putf_i (j := 3) rfl zq_a232 rfl rfl rfl (hR_1.1 _ _) ?_
    refine zq_run 2 (pc' := 38) (L' := [(.ref (232)), (zq_vi (1))]) (st' := []) (fun _ _ _ => rfl) ?_
    exact w
  · rw [if_pos hb_2] at w
    refine zq_run 1 (pc' := 11) (L' := [(.ref (232)), (zq_vi (x1))]) (st' := [(.ref (232))]) (fun _ _ _ => rfl) ?_
    refine zq_getf_f (b := 234) rfl zq_a232 rfl rfl ?_
    refine zq_run 2 (pc' := 16) (L' := [(.ref (232)), (zq_vi (x1))]) (st' := [(.ref (232)), (zq_vi (x1)), (.ref (234))]) (fun _ _ _ => rfl) ?_
    refine zq_getf_f (b := 236) rfl zq_a232 rfl rfl ?_
    refine zq_run 1 (pc' := 20) (L' := [(.ref (232)), (zq_vi (x1))]) (st' := [(zq_vi (x1)), (.ref (236)), (zq_vi (x1)), (.ref (234))]) (fun _ _ _ => rfl) ?_
    obtain ⟨g_3, w⟩ := w
    refine zq_ald_c (v := zq_i s (236) (x1)) rfl zq_a236 g_3.1 g_3.2 rfl ?_
    obtain ⟨g_4, w⟩ := w
    refine zq_ast_c rfl zq_a234 g_4.1 g_4.2 (hR_1.2.1 _ _ _ zq_a236) ?_
    refine zq_iinc (L' := [(.ref (232)), (zq_vi (x1 + 1))]) rfl rfl rfl ?_
    refine zq_run 1 (pc' := 2) (L' := [(.ref (232)), (zq_vi (x1 + 1))]) (st' := []) (fun _ _ _ => rfl) ?_
    exact w
set_option maxRecDepth 100000 in
/-- PaperObjectsModel.settle at 38 -/
theorem zw_202_38 {X : Nat × (Nat → Int32)} {s : zq_S} {K : zq_S → Prop} {x1 : Int} (hx1 : zq_iv x1) (w : (if x1 ≤ 9 then (((0 : Int) ≤ x1 ∧ x1 < (10 : Int)) ∧ (if zq_i s (237) (x1) = 0 then (((0 : Int) ≤ x1 ∧ x1 < (10 : Int)) ∧ zq_Ex X 202 38 [(.ref (232)), (zq_vi (x1 + 1))] [] (zq_si s (239) (x1) (0)) (zq_rv K)) else (((0 : Int) ≤ x1 ∧ x1 < (10 : Int)) ∧ (if zq_i s (255) (x1) = 0 then (zq_Ex X 183 0 [(.ref (232)), (zq_vi (x1))] [] s (zq_rv fun s_9 => (((0 : Int) ≤ x1 ∧ x1 < (10 : Int)) ∧ zq_Ex X 202 38 [(.ref (232)), (zq_vi (x1 + 1))] [] (zq_si s_9 (239) (x1) (0)) (zq_rv K)))) else (((0 : Int) ≤ x1 ∧ x1 < (10 : Int)) ∧ zq_Ex X 202 38 [(.ref (232)), (zq_vi (x1 + 1))] [] (zq_si s (239) (x1) (0)) (zq_rv K)))))) else K (zq_si s (232) (19) ((-1))))) : zq_Ex X 202 38 [(.ref (232)), (zq_vi (x1))] [] s (zq_rv K) := by
  refine zq_run 2 (pc' := 41) (L' := [(.ref (232)), (zq_vi (x1))]) (st' := [(zq_vi (9)), (zq_vi (x1))]) (fun _ _ _ => rfl) ?_
  refine zq_gt rfl hx1 (of_decide_eq_true rfl) (fun hb_1 => ?_) (fun hb_1 => ?_)
  · rw [if_neg hb_1] at w
    refine zq_run 2 (pc' := 82) (L' := [(.ref (232)), (zq_vi (x1))]) (st' := [(zq_vi ((-1))), (.ref (232))]) (fun _ _ _ => rfl) ?_
    refine zq_putf_i (j := 19) rfl zq_a232 rfl rfl rfl (of_decide_eq_true rfl) ?_
    exact zq_vret rfl rfl (⟨rfl, w⟩)
  · rw [if_pos hb_1] at w
    refine zq_run 1 (pc' := 45) (L' := [(.ref (232)), (zq_vi (x1))]) (st' := [(.ref (232))]) (fun _ _ _ => rfl) ?_
    refine zq_getf_f (b := 237) rfl zq_a232 rfl rfl ?_
    refine zq_run 1 (pc' := 49) (L' := [(.ref (232)), (zq_vi (x1))]) (st' := [(zq_vi (x1)), (.ref (237))]) (fun _ _ _ => rfl) ?_
    obtain ⟨g_2, w⟩ := w
    refine zq_have (fun hR_3 => ?_)
    refine zq_ald_b (v := zq_i s (237) (x1)) rfl zq_a237 g_2.1 g_2.2 rfl ?_
    refine zq_eq0 rfl (zq_bo_in (hR_3.2.2.1 _ _ _ zq_a237)) (fun hb_4 => ?_) (fun hb_4 => ?_)
    · rw [if_pos hb_4] at w
      refine zq_run 1 (pc' := 68) (L' := [(.ref (232)), (zq_vi (x1))]) (st' := [(.ref (232))]) (fun _ _ _ => rfl) ?_
      refine zq_getf_f (b := 239) rfl zq_a232 rfl rfl ?_
      refine zq_run 2 (pc' := 73) (L' := [(.ref (232)), (zq_vi (x1))]) (st' := [(zq_vi (0)), (zq_vi (x1)), (.ref (239))]) (fun _ _ _ => rfl) ?_
      obtain ⟨g_5, w⟩ := w
      refine zq_ast_b rfl zq_a239 g_5.1 g_5.2 (of_decide_eq_true rfl) ?_
      refine zq_iinc (L' := [(.ref (232)), (zq_vi (x1 + 1))]) rfl rfl rfl ?_
      refine zq_run 1 (pc' := 38) (L' := [(.ref (232)), (zq_vi (x1 + 1))]) (st' := []) (fun _ _ _ => rfl) ?_
      exact w
    · rw [if_neg hb_4] at w
      refine zq_run 1 (pc' := 54) (L' := [(.ref (232)), (zq_vi (x1))]) (st' := [(.ref (232))]) (fun _ _ _ => rfl) ?_
      refine zq_getf_f (b := 255) rfl zq_a232 rfl rfl ?_
      refine zq_run 1 (pc' := 58) (L' := [(.ref (232)), (zq_vi (x1))]) (st' := [(zq_vi (x1)), (.ref (255))]) (fun _ _ _ => rfl) ?_
      obtain ⟨g_6, w⟩ := w
      refine zq_ald_b (v := zq_i s (255) (x1)) rfl zq_a255 g_6.1 g_6.2 rfl ?_
      refine zq_ne0 rfl (zq_bo_in (hR_3.2.2.1 _ _ _ zq_a255)) (fun hb_7 => ?_) (fun hb_7 => ?_)
      · rw [if_neg hb_7] at w
        refine zq_run 1 (pc' := 68) (L' := [(.ref (232)), (zq_vi (x1))]) (st' := [(.ref (232))]) (fun _ _ _ => rfl) ?_
        refine zq_getf_f (b := 239) rfl zq_a232 rfl rfl ?_
        refine zq_run 2 (pc' := 73) (L' := [(.ref (232)), (zq_vi (x1))]) (st' := [(zq_vi (0)), (zq_vi (x1)), (.ref (239))]) (fun _ _ _ => rfl) ?_
        obtain ⟨g_8, w⟩ := w
        refine zq_ast_b rfl zq_a239 g_8.1 g_8.2 (of_decide_eq_true rfl) ?_
        refine zq_iinc (L' := [(.ref (232)), (zq_vi (x1 + 1))]) rfl rfl rfl ?_
        refine zq_run 1 (pc' := 38) (L' := [(.ref (232)), (zq_vi (x1 + 1))]) (st' := []) (fun _ _ _ => rfl) ?_
        exact w
      · rw [if_pos hb_7] at w
        refine zq_run 2 (pc' := 64) (L' := [(.ref (232)), (zq_vi (x1))]) (st' := [(zq_vi (x1)), (.ref (232))]) (fun _ _ _ => rfl) ?_
        refine zq_call_v (i := .invokevirtual 290) (r := [1, 183, 1, 1, 9]) rfl rfl (fun h hp => zr_avv rfl (hp.obj zq_a232)) (of_decide_eq_false rfl) w (fun s_9 w => ?_)
        refine zq_run 1 (pc' := 68) (L' := [(.ref (232)), (zq_vi (x1))]) (st' := [(.ref (232))]) (fun _ _ _ => rfl) ?_
        refine zq_getf_f (b := 239) rfl zq_a232 rfl rfl ?_
        refine zq_run 2 (pc' := 73) (L' := [(.ref (232)), (zq_vi (x1))]) (st' := [(zq_vi (0)), (zq_vi (x1)), (.ref (239))]) (fun _ _ _ => rfl) ?_
        obtain ⟨g_10, w⟩ := w
        refine zq_ast_b rfl zq_a239 g_10.1 g_10.2 (of_decide_eq_true rfl) ?_
        refine zq_iinc (L' := [(.ref (232)), (zq_vi (x1 + 1))]) rfl rfl rfl ?_
        refine zq_run 1 (pc' := 38) (L' := [(.ref (232)), (zq_vi (x1 + 1))]) (st' := []) (fun _ _ _ => rfl) ?_
        exact w
set_option maxRecDepth 100000 in
/-- PaperObjectsModel.load()I -/
theorem zw_203 {X : Nat × (Nat → Int32)} {s : zq_S} {K : Int → zq_S → Prop}  (w : zq_Ex X 203 7 [(.ref (232)), (zq_vi (0)), zz_no, zz_no, zz_no] [] (zq_si s (232) (44) (0)) (zq_rp zq_iv K)) : zq_Ex X 203 0 [(.ref (232)), zz_no, zz_no, zz_no, zz_no] [] s (zq_rp zq_iv K) := by
  refine zq_run 2 (pc' := 2) (L' := [(.ref (232)), zz_no, zz_no, zz_no, zz_no]) (st' := [(zq_vi (0)), (.ref (232))]) (fun _ _ _ => rfl) ?_
  refine zq_putf_i (j := 44) rfl zq_a232 rfl rfl rfl (of_decide_eq_true rfl) ?_
  refine zq_run 2 (pc' := 7) (L' := [(.ref (232)), (zq_vi (0)), zz_no, zz_no, zz_no]) (st' := []) (fun _ _ _ => rfl) ?_
  exact w
set_option maxRecDepth 100000 in
/-- PaperObjectsModel.load at 7 -/
theorem zw_203_7 {X : Nat × (Nat → Int32)} {s : zq_S} {K : Int → zq_S → Prop} {x1 : Int} (hx1 : zq_iv x1) {v2 : Value} (hv2 : v2.category = 1) {v3 : Value} (hv3 : v3.category = 1) {v4 : Value} (hv4 : v4.category = 1) (w : (if x1 < 10 then (((0 : Int) ≤ x1 ∧ x1 < (10 : Int)) ∧ (((0 : Int) ≤ x1 ∧ x1 < (10 : Int)) ∧ zq_Ex X 203 7 [(.ref (232)), (zq_vi (x1 + 1)), v2, v3, v4] [] (zq_si (zq_si s (250) (x1) (0)) (252) (x1) (0)) (zq_rp zq_iv K))) else (zq_Ex X 191 0 [(.ref (232)), zz_no, zz_no, zz_no, zz_no] [] s (zq_rp zq_iv fun x_3 s_2 => (if x_3 < 0 then (zq_Ex X 206 0 [(.ref (232)), (zq_vi (1)), (zq_vi (0))] [] s_2 (zq_rp zq_bo fun x_7 s_6 => zq_Ex X 203 59 [(.ref (232)), (zq_vi (x_3)), (zq_vi (x_7)), (zq_vi (1)), v4] [] s_6 (zq_rp zq_iv K))) else (zq_Ex X 204 0 [(.ref (232)), (zq_vi (x_3)), zz_no, zz_no] [] s_2 (zq_rp zq_bo fun x_10 s_9 => zq_Ex X 203 59 [(.ref (232)), (zq_vi (x_3)), (zq_vi (x_10)), (zq_vi (1)), v4] [] s_9 (zq_rp zq_iv K)))))))) : zq_Ex X 203 7 [(.ref (232)), (zq_vi (x1)), v2, v3, v4] [] s (zq_rp zq_iv K) := by
  refine zq_run 2 (pc' := 10) (L' := [(.ref (232)), (zq_vi (x1)), v2, v3, v4]) (st' := [(zq_vi (10)), (zq_vi (x1))]) (fun _ _ _ => rfl) ?_
  refine zq_ge rfl hx1 (of_decide_eq_true rfl) (fun hb_1 => ?_) (fun hb_1 => ?_)
  · rw [if_neg hb_1] at w
    refine zq_run 1 (pc' := 34) (L' := [(.ref (232)), (zq_vi (x1)), v2, v3, v4]) (st' := [(.ref (232))]) (fun _ _ _ => rfl) ?_
    refine zq_call_i (i := .invokevirtual 322) (r := [1, 191, 0, 1, 9]) rfl rfl (fun h hp => zr_avv rfl (hp.obj zq_a232)) (of_decide_eq_false rfl) w (fun x_3 s_2 hx_4 w => ?_)
    refine zq_run 2 (pc' := 39) (L' := [(.ref (232)), (zq_vi (x_3)), v2, v3, v4]) (st' := [(zq_vi (x_3))]) (fun _ _ _ => rfl) ?_
    refine zq_lt0 rfl hx_4 (fun hb_5 => ?_) (fun hb_5 => ?_)
    · rw [if_pos hb_5] at w
      refine zq_run 3 (pc' := 53) (L' := [(.ref (232)), (zq_vi (x_3)), v2, v3, v4]) (st' := [(zq_vi (0)), (zq_vi (1)), (.ref (232))]) (fun _ _ _ => rfl) ?_
      refine zq_call_i (i := .invokevirtual 367) (r := [1, 206, 2, 1, 9]) rfl rfl (fun h hp => zr_avv rfl (hp.obj zq_a232)) (of_decide_eq_false rfl) w (fun x_7 s_6 hx_8 w => ?_)
      refine zq_run 3 (pc' := 59) (L' := [(.ref (232)), (zq_vi (x_3)), (zq_vi (x_7)), (zq_vi (1)), v4]) (st' := []) (fun _ _ _ => rfl) ?_
      exact w
    · rw [if_neg hb_5] at w
      refine zq_run 2 (pc' := 44) (L' := [(.ref (232)), (zq_vi (x_3)), v2, v3, v4]) (st' := [(zq_vi (x_3)), (.ref (232))]) (fun _ _ _ => rfl) ?_
      refine zq_call_i (i := .invokevirtual 386) (r := [1, 204, 1, 1, 9]) rfl rfl (fun h hp => zr_avv rfl (hp.obj zq_a232)) (of_decide_eq_false rfl) w (fun x_10 s_9 hx_11 w => ?_)
      refine zq_run 4 (pc' := 59) (L' := [(.ref (232)), (zq_vi (x_3)), (zq_vi (x_10)), (zq_vi (1)), v4]) (st' := []) (fun _ _ _ => rfl) ?_
      exact w
  · rw [if_pos hb_1] at w
    refine zq_run 1 (pc' := 14) (L' := [(.ref (232)), (zq_vi (x1)), v2, v3, v4]) (st' := [(.ref (232))]) (fun _ _ _ => rfl) ?_
    refine zq_getf_f (b := 250) rfl zq_a232 rfl rfl ?_
    refine zq_run 2 (pc' := 19) (L' := [(.ref (232)), (zq_vi (x1)), v2, v3, v4]) (st' := [(zq_vi (0)), (zq_vi (x1)), (.ref (250))]) (fun _ _ _ => rfl) ?_
    obtain ⟨g_12, w⟩ := w
    refine zq_ast_i rfl zq_a250 g_12.1 g_12.2 (of_decide_eq_true rfl) ?_
    refine zq_run 1 (pc' := 21) (L' := [(.ref (232)), (zq_vi (x1)), v2, v3, v4]) (st' := [(.ref (232))]) (fun _ _ _ => rfl) ?_
    refine zq_getf_f (b := 252) rfl zq_a232 rfl rfl ?_
    refine zq_run 2 (pc' := 26) (L' := [(.ref (232)), (zq_vi (x1)), v2, v3, v4]) (st' := [(zq_vi (0)), (zq_vi (x1)), (.ref (252))]) (fun _ _ _ => rfl) ?_
    obtain ⟨g_13, w⟩ := w
    refine zq_ast_i rfl zq_a252 g_13.1 g_13.2 (of_decide_eq_true rfl) ?_
    refine zq_iinc (L' := [(.ref (232)), (zq_vi (x1 + 1)), v2, v3, v4]) rfl rfl rfl ?_
    refine zq_run 1 (pc' := 7) (L' := [(.ref (232)), (zq_vi (x1 + 1)), v2, v3, v4]) (st' := []) (fun _ _ _ => rfl) ?_
    exact w
set_option maxRecDepth 100000 in
/-- PaperObjectsModel.load at 59 -/
theorem zw_203_59 {X : Nat × (Nat → Int32)} {s : zq_S} {K : Int → zq_S → Prop} {x1 : Int} (hx1 : zq_iv x1) {x2 : Int} (hx2 : zq_bo x2) {x3 : Int} (hx3 : zq_iv x3) {v4 : Value} (hv4 : v4.category = 1) (w : (if x3 ≤ 9 then (if x2 = 0 then zq_Ex X 203 59 [(.ref (232)), (zq_vi (x1)), (zq_vi (0)), (zq_vi (x3 + 1)), v4] [] s (zq_rp zq_iv K) else (((0 : Int) ≤ x3 ∧ x3 < (10 : Int)) ∧ (if zq_i s (250) (x3) = 2 then (zq_Ex X 211 0 [(.ref (232)), (zq_vi (x3)), zz_no, zz_no, zz_no, zz_no, zz_no] [] s (zq_rp zq_bo fun x_52 s_51 => (if x_52 = 0 then zq_Ex X 203 59 [(.ref (232)), (zq_vi (x1)), (zq_vi (0)), (zq_vi (x3 + 1)), v4] [] s_51 (zq_rp zq_iv K) else zq_Ex X 203 59 [(.ref (232)), (zq_vi (x1)), (zq_vi (1)), (zq_vi (x3 + 1)), v4] [] s_51 (zq_rp zq_iv K)))) else zq_Ex X 203 59 [(.ref (232)), (zq_vi (x1)), (zq_vi (1)), (zq_vi (x3 + 1)), v4] [] s (zq_rp zq_iv K)))) else (if x2 = 0 then (if x2 = 0 then (if x2 = 0 then (if x2 = 0 then K (0) (zq_si (zq_si (zq_si s (232) (0) (1)) (232) (21) (zq_i s (232) (43))) (232) (22) (zq_i s (232) (44))) else zq_Ex X 203 158 [(.ref (232)), (zq_vi (x1)), (zq_vi (x2)), (zq_vi (0)), (zq_vi (1))] [] (zq_si (zq_si (zq_si s (232) (0) (1)) (232) (21) (zq_i s (232) (43))) (232) (22) (zq_i s (232) (44))) (zq_rp zq_iv K)) else (if x2 = 0 then K (0) (zq_si (zq_si (zq_si s (232) (0) (1)) (232) (21) (zq_i s (232) (43))) (232) (22) (zq_i s (232) (22))) else zq_Ex X 203 158 [(.ref (232)), (zq_vi (x1)), (zq_vi (x2)), (zq_vi (0)), (zq_vi (1))] [] (zq_si (zq_si (zq_si s (232) (0) (1)) (232) (21) (zq_i s (232) (43))) (232) (22) (zq_i s (232) (22))) (zq_rp zq_iv K))) else (if x2 = 0 then (if x2 = 0 then K (0) (zq_si (zq_si (zq_si s (232) (0) (1)) (232) (21) ((-1))) (232) (22) (zq_i s (232) (44))) else zq_Ex X 203 158 [(.ref (232)), (zq_vi (x1)), (zq_vi (x2)), (zq_vi (0)), (zq_vi (1))] [] (zq_si (zq_si (zq_si s (232) (0) (1)) (232) (21) ((-1))) (232) (22) (zq_i s (232) (44))) (zq_rp zq_iv K)) else (if x2 = 0 then K (0) (zq_si (zq_si (zq_si s (232) (0) (1)) (232) (21) ((-1))) (232) (22) (zq_i s (232) (22))) else zq_Ex X 203 158 [(.ref (232)), (zq_vi (x1)), (zq_vi (x2)), (zq_vi (0)), (zq_vi (1))] [] (zq_si (zq_si (zq_si s (232) (0) (1)) (232) (21) ((-1))) (232) (22) (zq_i s (232) (22))) (zq_rp zq_iv K)))) else (if x2 = 0 then (if x2 = 0 then (if x2 = 0 then K (0) (zq_si (zq_si (zq_si s (232) (0) (0)) (232) (21) (zq_i s (232) (43))) (232) (22) (zq_i s (232) (44))) else zq_Ex X 203 158 [(.ref (232)), (zq_vi (x1)), (zq_vi (x2)), (zq_vi (0)), (zq_vi (1))] [] (zq_si (zq_si (zq_si s (232) (0) (0)) (232) (21) (zq_i s (232) (43))) (232) (22) (zq_i s (232) (44))) (zq_rp zq_iv K)) else (if x2 = 0 then K (0) (zq_si (zq_si (zq_si s (232) (0) (0)) (232) (21) (zq_i s (232) (43))) (232) (22) (zq_i s (232) (22))) else zq_Ex X 203 158 [(.ref (232)), (zq_vi (x1)), (zq_vi (x2)), (zq_vi (0)), (zq_vi (1))] [] (zq_si (zq_si (zq_si s (232) (0) (0)) (232) (21) (zq_i s (232) (43))) (232) (22) (zq_i s (232) (22))) (zq_rp zq_iv K))) else (if x2 = 0 then (if x2 = 0 then K (0) (zq_si (zq_si (zq_si s (232) (0) (0)) (232) (21) ((-1))) (232) (22) (zq_i s (232) (44))) else zq_Ex X 203 158 [(.ref (232)), (zq_vi (x1)), (zq_vi (x2)), (zq_vi (0)), (zq_vi (1))] [] (zq_si (zq_si (zq_si s (232) (0) (0)) (232) (21) ((-1))) (232) (22) (zq_i s (232) (44))) (zq_rp zq_iv K)) else (if x2 = 0 then K (0) (zq_si (zq_si (zq_si s (232) (0) (0)) (232) (21) ((-1))) (232) (22) (zq_i s (232) (22))) else zq_Ex X 203 158 [(.ref (232)), (zq_vi (x1)), (zq_vi (x2)), (zq_vi (0)), (zq_vi (1))] [] (zq_si (zq_si (zq_si s (232) (0) (0)) (232) (21) ((-1))) (232) (22) (zq_i s (232) (22))) (zq_rp zq_iv K))))))) : zq_Ex X 203 59 [(.ref (232)), (zq_vi (x1)), (zq_vi (x2)), (zq_vi (x3)), v4] [] s (zq_rp zq_iv K) := by
  refine zq_run 2 (pc' := 62) (L' := [(.ref (232)), (zq_vi (x1)), (zq_vi (x2)), (zq_vi (x3)), v4]) (st' := [(zq_vi (9)), (zq_vi (x3))]) (fun _ _ _ => rfl) ?_
  refine zq_gt rfl hx3 (of_decide_eq_true rfl) (fun hb_1 => ?_) (fun hb_1 => ?_)
  · rw [if_neg hb_1] at w
    refine zq_run 2 (pc' := 101) (L' := [(.ref (232)), (zq_vi (x1)), (zq_vi (x2)), (zq_vi (x3)), v4]) (st' := [(zq_vi (x2)), (.ref (232))]) (fun _ _ _ => rfl) ?_
    refine zq_eq0 rfl (zq_bo_in hx2) (fun hb_2 => ?_) (fun hb_2 => ?_)
    · rw [if_pos hb_2] at w
      refine zq_run 1 (pc' := 109) (L' := [(.ref (232)), (zq_vi (x1)), (zq_vi (x2)), (zq_vi (x3)), v4]) (st' := [(zq_vi (1)), (.ref (232))]) (fun _ _ _ => rfl) ?_
      refine zq_putf_i (j := 0) rfl zq_a232 rfl rfl rfl (of_decide_eq_true rfl) ?_
      refine zq_run 2 (pc' := 114) (L' := [(.ref (232)), (zq_vi (x1)), (zq_vi (x2)), (zq_vi (x3)), v4]) (st' := [(zq_vi (x2)), (.ref (232))]) (fun _ _ _ => rfl) ?_
      refine zq_eq0 rfl (zq_bo_in hx2) (fun hb_3 => ?_) (fun hb_3 => ?_)
      · rw [if_pos hb_3] at w
        refine zq_run 1 (pc' := 122) (L' := [(.ref (232)), (zq_vi (x1)), (zq_vi (x2)), (zq_vi (x3)), v4]) (st' := [(.ref (232)), (.ref (232))]) (fun _ _ _ => rfl) ?_
        have e_4 : zq_i (zq_si s (232) (0) (1)) (232) (43) = zq_i s (232) (43) := by simp [zq_i_si, zq_i_sr, zq_i_sl]
        refine zq_have (fun hR_5 => ?_)
        have g_6 : zq_iv (zq_i (zq_si s (232) (0) (1)) (232) (43)) := (hR_5.1 _ _)
        rw [e_4] at g_6
        refine zq_getf_i (j := 43) (v := zq_i s (232) (43)) rfl zq_a232 rfl rfl e_4 ?_
        refine zq_putf_i (j := 21) rfl zq_a232 rfl rfl rfl g_6 ?_
        refine zq_run 2 (pc' := 130) (L' := [(.ref (232)), (zq_vi (x1)), (zq_vi (x2)), (zq_vi (x3)), v4]) (st' := [(zq_vi (x2)), (.ref (232))]) (fun _ _ _ => rfl) ?_
        refine zq_eq0 rfl (zq_bo_in hx2) (fun hb_7 => ?_) (fun hb_7 => ?_)
        · rw [if_pos hb_7] at w
          refine zq_run 1 (pc' := 141) (L' := [(.ref (232)), (zq_vi (x1)), (zq_vi (x2)), (zq_vi (x3)), v4]) (st' := [(.ref (232)), (.ref (232))]) (fun _ _ _ => rfl) ?_
          have e_8 : zq_i (zq_si (zq_si s (232) (0) (1)) (232) (21) (zq_i s (232) (43))) (232) (44) = zq_i s (232) (44) := by simp [zq_i_si, zq_i_sr, zq_i_sl]
          refine zq_have (fun hR_9 => ?_)
          have g_10 : zq_iv (zq_i (zq_si (zq_si s (232) (0) (1)) (232) (21) (zq_i s (232) (43))) (232) (44)) := (hR_9.1 _ _)
          rw [e_8] at g_10
          refine zq_getf_i (j := 44) (v := zq_i s (232) (44)) rfl zq_a232 rfl rfl e_8 ?_
          refine zq_putf_i (j := 22) rfl zq_a232 rfl rfl rfl g_10 ?_
          refine zq_run 1 (pc' := 148) (L' := [(.ref (232)), (zq_vi (x1)), (zq_vi (x2)), (zq_vi (x3)), v4]) (st' := [(zq_vi (x2))]) (fun _ _ _ => rfl) ?_
          refine zq_ne0 rfl (zq_bo_in hx2) (fun hb_11 => ?_) (fun hb_11 => ?_)
          · rw [if_neg hb_11] at w
            refine zq_run 4 (pc' := 158) (L' := [(.ref (232)), (zq_vi (x1)), (zq_vi (x2)), (zq_vi (0)), (zq_vi (1))]) (st' := []) (fun _ _ _ => rfl) ?_
            exact w
          · rw [if_pos hb_11] at w
            refine zq_run 1 (pc' := 152) (L' := [(.ref (232)), (zq_vi (x1)), (zq_vi (x2)), (zq_vi (x3)), v4]) (st' := [(zq_vi (0))]) (fun _ _ _ => rfl) ?_
            exact zq_iret rfl rfl rfl (⟨_, rfl, (of_decide_eq_true rfl), w⟩)
        · rw [if_neg hb_7] at w
          refine zq_run 1 (pc' := 134) (L' := [(.ref (232)), (zq_vi (x1)), (zq_vi (x2)), (zq_vi (x3)), v4]) (st' := [(.ref (232)), (.ref (232))]) (fun _ _ _ => rfl) ?_
          have e_12 : zq_i (zq_si (zq_si s (232) (0) (1)) (232) (21) (zq_i s (232) (43))) (232) (22) = zq_i s (232) (22) := by simp [zq_i_si, zq_i_sr, zq_i_sl]
          refine zq_have (fun hR_13 => ?_)
          have g_14 : zq_iv (zq_i (zq_si (zq_si s (232) (0) (1)) (232) (21) (zq_i s (232) (43))) (232) (22)) := (hR_13.1 _ _)
          rw [e_12] at g_14
          refine zq_getf_i (j := 22) (v := zq_i s (232) (22)) rfl zq_a232 rfl rfl e_12 ?_
          refine zq_run 1 (pc' := 144) (L' := [(.ref (232)), (zq_vi (x1)), (zq_vi (x2)), (zq_vi (x3)), v4]) (st' := [(zq_vi (zq_i s (232) (22))), (.ref (232))]) (fun _ _ _ => rfl) ?_
          refine zq_putf_i (j := 22) rfl zq_a232 rfl rfl rfl g_14 ?_
          refine zq_run 1 (pc' := 148) (L' := [(.ref (232)), (zq_vi (x1)), (zq_vi (x2)), (zq_vi (x3)), v4]) (st' := [(zq_vi (x2))]) (fun _ _ _ => rfl) ?_
          refine zq_ne0 rfl (zq_bo_in hx2) (fun hb_15 => ?_) (fun hb_15 => ?_)
          · rw [if_neg hb_15] at w
            refine zq_run 4 (pc' := 158) (L' := [(.ref (232)), (zq_vi (x1)), (zq_vi (x2)), (zq_vi (0)), (zq_vi (1))]) (st' := []) (fun _ _ _ => rfl) ?_
            exact w
          · rw [if_pos hb_15] at w
            refine zq_run 1 (pc' := 152) (L' := [(.ref (232)), (zq_vi (x1)), (zq_vi (x2)), (zq_vi (x3)), v4]) (st' := [(zq_vi (0))]) (fun _ _ _ => rfl) ?_
            exact zq_iret rfl rfl rfl (⟨_, rfl, (of_decide_eq_true rfl), w⟩)
      · rw [if_neg hb_3] at w
        refine zq_run 2 (pc' := 125) (L' := [(.ref (232)), (zq_vi (x1)), (zq_vi (x2)), (zq_vi (x3)), v4]) (st' := [(zq_vi ((-1))), (.ref (232))]) (fun _ _ _ => rfl) ?_
        refine zq_putf_i (j := 21) rfl zq_a232 rfl rfl rfl (of_decide_eq_true rfl) ?_
        refine zq_run 2 (pc' := 130) (L' := [(.ref (232)), (zq_vi (x1)), (zq_vi (x2)), (zq_vi (x3)), v4]) (st' := [(zq_vi (x2)), (.ref (232))]) (fun _ _ _ => rfl) ?_
        refine zq_eq0 rfl (zq_bo_in hx2) (fun hb_16 => ?_) (fun hb_16 => ?_)
        · rw [if_pos hb_16] at w
          refine zq_run 1 (pc' := 141) (L' := [(.ref (232)), (zq_vi (x1)), (zq_vi (x2)), (zq_vi (x3)), v4]) (st' := [(.ref (232)), (.ref (232))]) (fun _ _ _ => rfl) ?_
          have e_17 : zq_i (zq_si (zq_si s (232) (0) (1)) (232) (21) ((-1))) (232) (44) = zq_i s (232) (44) := by simp [zq_i_si, zq_i_sr, zq_i_sl]
          refine zq_have (fun hR_18 => ?_)
          have g_19 : zq_iv (zq_i (zq_si (zq_si s (232) (0) (1)) (232) (21) ((-1))) (232) (44)) := (hR_18.1 _ _)
          rw [e_17] at g_19
          refine zq_getf_i (j := 44) (v := zq_i s (232) (44)) rfl zq_a232 rfl rfl e_17 ?_
          refine zq_putf_i (j := 22) rfl zq_a232 rfl rfl rfl g_19 ?_
          refine zq_run 1 (pc' := 148) (L' := [(.ref (232)), (zq_vi (x1)), (zq_vi (x2)), (zq_vi (x3)), v4]) (st' := [(zq_vi (x2))]) (fun _ _ _ => rfl) ?_
          refine zq_ne0 rfl (zq_bo_in hx2) (fun hb_20 => ?_) (fun hb_20 => ?_)
          · rw [if_neg hb_20] at w
            refine zq_run 4 (pc' := 158) (L' := [(.ref (232)), (zq_vi (x1)), (zq_vi (x2)), (zq_vi (0)), (zq_vi (1))]) (st' := []) (fun _ _ _ => rfl) ?_
            exact w
          · rw [if_pos hb_20] at w
            refine zq_run 1 (pc' := 152) (L' := [(.ref (232)), (zq_vi (x1)), (zq_vi (x2)), (zq_vi (x3)), v4]) (st' := [(zq_vi (0))]) (fun _ _ _ => rfl) ?_
            exact zq_iret rfl rfl rfl (⟨_, rfl, (of_decide_eq_true rfl), w⟩)
        · rw [if_neg hb_16] at w
          refine zq_run 1 (pc' := 134) (L' := [(.ref (232)), (zq_vi (x1)), (zq_vi (x2)), (zq_vi (x3)), v4]) (st' := [(.ref (232)), (.ref (232))]) (fun _ _ _ => rfl) ?_
          have e_21 : zq_i (zq_si (zq_si s (232) (0) (1)) (232) (21) ((-1))) (232) (22) = zq_i s (232) (22) := by simp [zq_i_si, zq_i_sr, zq_i_sl]
          refine zq_have (fun hR_22 => ?_)
          have g_23 : zq_iv (zq_i (zq_si (zq_si s (232) (0) (1)) (232) (21) ((-1))) (232) (22)) := (hR_22.1 _ _)
          rw [e_21] at g_23
          refine zq_getf_i (j := 22) (v := zq_i s (232) (22)) rfl zq_a232 rfl rfl e_21 ?_
          refine zq_run 1 (pc' := 144) (L' := [(.ref (232)), (zq_vi (x1)), (zq_vi (x2)), (zq_vi (x3)), v4]) (st' := [(zq_vi (zq_i s (232) (22))), (.ref (232))]) (fun _ _ _ => rfl) ?_
          refine zq_putf_i (j := 22) rfl zq_a232 rfl rfl rfl g_23 ?_
          refine zq_run 1 (pc' := 148) (L' := [(.ref (232)), (zq_vi (x1)), (zq_vi (x2)), (zq_vi (x3)), v4]) (st' := [(zq_vi (x2))]) (fun _ _ _ => rfl) ?_
          refine zq_ne0 rfl (zq_bo_in hx2) (fun hb_24 => ?_) (fun hb_24 => ?_)
          · rw [if_neg hb_24] at w
            refine zq_run 4 (pc' := 158) (L' := [(.ref (232)), (zq_vi (x1)), (zq_vi (x2)), (zq_vi (0)), (zq_vi (1))]) (st' := []) (fun _ _ _ => rfl) ?_
            exact w
          · rw [if_pos hb_24] at w
            refine zq_run 1 (pc' := 152) (L' := [(.ref (232)), (zq_vi (x1)), (zq_vi (x2)), (zq_vi (x3)), v4]) (st' := [(zq_vi (0))]) (fun _ _ _ => rfl) ?_
            exact zq_iret rfl rfl rfl (⟨_, rfl, (of_decide_eq_true rfl), w⟩)
    · rw [if_neg hb_2] at w
      refine zq_run 2 (pc' := 109) (L' := [(.ref (232)), (zq_vi (x1)), (zq_vi (x2)), (zq_vi (x3)), v4]) (st' := [(zq_vi (0)), (.ref (232))]) (fun _ _ _ => rfl) ?_
      refine zq_putf_i (j := 0) rfl zq_a232 rfl rfl rfl (of_decide_eq_true rfl) ?_
      refine zq_run 2 (pc' := 114) (L' := [(.ref (232)), (zq_vi (x1)), (zq_vi (x2)), (zq_vi (x3)), v4]) (st' := [(zq_vi (x2)), (.ref (232))]) (fun _ _ _ => rfl) ?_
      refine zq_eq0 rfl (zq_bo_in hx2) (fun hb_25 => ?_) (fun hb_25 => ?_)
      · rw [if_pos hb_25] at w
        refine zq_run 1 (pc' := 122) (L' := [(.ref (232)), (zq_vi (x1)), (zq_vi (x2)), (zq_vi (x3)), v4]) (st' := [(.ref (232)), (.ref (232))]) (fun _ _ _ => rfl) ?_
        have e_26 : zq_i (zq_si s (232) (0) (0)) (232) (43) = zq_i s (232) (43) := by simp [zq_i_si, zq_i_sr, zq_i_sl]
        refine zq_have (fun hR_27 => ?_)
        have g_28 : zq_iv (zq_i (zq_si s (232) (0) (0)) (232) (43)) := (hR_27.1 _ _)
        rw [e_26] at g_28
        refine zq_getf_i (j := 43) (v := zq_i s (232) (43)) rfl zq_a232 rfl rfl e_26 ?_
        refine zq_putf_i (j := 21) rfl zq_a232 rfl rfl rfl g_28 ?_
        refine zq_run 2 (pc' := 130) (L' := [(.ref (232)), (zq_vi (x1)), (zq_vi (x2)), (zq_vi (x3)), v4]) (st' := [(zq_vi (x2)), (.ref (232))]) (fun _ _ _ => rfl) ?_
        refine zq_eq0 rfl (zq_bo_in hx2) (fun hb_29 => ?_) (fun hb_29 => ?_)
        · rw [if_pos hb_29] at w
          refine zq_run 1 (pc' := 141) (L' := [(.ref (232)), (zq_vi (x1)), (zq_vi (x2)), (zq_vi (x3)), v4]) (st' := [(.ref (232)), (.ref (232))]) (fun _ _ _ => rfl) ?_
          have e_30 : zq_i (zq_si (zq_si s (232) (0) (0)) (232) (21) (zq_i s (232) (43))) (232) (44) = zq_i s (232) (44) := by simp [zq_i_si, zq_i_sr, zq_i_sl]
          refine zq_have (fun hR_31 => ?_)
          have g_32 : zq_iv (zq_i (zq_si (zq_si s (232) (0) (0)) (232) (21) (zq_i s (232) (43))) (232) (44)) := (hR_31.1 _ _)
          rw [e_30] at g_32
          refine zq_getf_i (j := 44) (v := zq_i s (232) (44)) rfl zq_a232 rfl rfl e_30 ?_
          refine zq_putf_i (j := 22) rfl zq_a232 rfl rfl rfl g_32 ?_
          refine zq_run 1 (pc' := 148) (L' := [(.ref (232)), (zq_vi (x1)), (zq_vi (x2)), (zq_vi (x3)), v4]) (st' := [(zq_vi (x2))]) (fun _ _ _ => rfl) ?_
          refine zq_ne0 rfl (zq_bo_in hx2) (fun hb_33 => ?_) (fun hb_33 => ?_)
          · rw [if_neg hb_33] at w
            refine zq_run 4 (pc' := 158) (L' := [(.ref (232)), (zq_vi (x1)), (zq_vi (x2)), (zq_vi (0)), (zq_vi (1))]) (st' := []) (fun _ _ _ => rfl) ?_
            exact w
          · rw [if_pos hb_33] at w
            refine zq_run 1 (pc' := 152) (L' := [(.ref (232)), (zq_vi (x1)), (zq_vi (x2)), (zq_vi (x3)), v4]) (st' := [(zq_vi (0))]) (fun _ _ _ => rfl) ?_
            exact zq_iret rfl rfl rfl (⟨_, rfl, (of_decide_eq_true rfl), w⟩)
        · rw [if_neg hb_29] at w
          refine zq_run 1 (pc' := 134) (L' := [(.ref (232)), (zq_vi (x1)), (zq_vi (x2)), (zq_vi (x3)), v4]) (st' := [(.ref (232)), (.ref (232))]) (fun _ _ _ => rfl) ?_
          have e_34 : zq_i (zq_si (zq_si s (232) (0) (0)) (232) (21) (zq_i s (232) (43))) (232) (22) = zq_i s (232) (22) := by simp [zq_i_si, zq_i_sr, zq_i_sl]
          refine zq_have (fun hR_35 => ?_)
          have g_36 : zq_iv (zq_i (zq_si (zq_si s (232) (0) (0)) (232) (21) (zq_i s (232) (43))) (232) (22)) := (hR_35.1 _ _)
          rw [e_34] at g_36
          refine zq_getf_i (j := 22) (v := zq_i s (232) (22)) rfl zq_a232 rfl rfl e_34 ?_
          refine zq_run 1 (pc' := 144) (L' := [(.ref (232)), (zq_vi (x1)), (zq_vi (x2)), (zq_vi (x3)), v4]) (st' := [(zq_vi (zq_i s (232) (22))), (.ref (232))]) (fun _ _ _ => rfl) ?_
          refine zq_putf_i (j := 22) rfl zq_a232 rfl rfl rfl g_36 ?_
          refine zq_run 1 (pc' := 148) (L' := [(.ref (232)), (zq_vi (x1)), (zq_vi (x2)), (zq_vi (x3)), v4]) (st' := [(zq_vi (x2))]) (fun _ _ _ => rfl) ?_
          refine zq_ne0 rfl (zq_bo_in hx2) (fun hb_37 => ?_) (fun hb_37 => ?_)
          · rw [if_neg hb_37] at w
            refine zq_run 4 (pc' := 158) (L' := [(.ref (232)), (zq_vi (x1)), (zq_vi (x2)), (zq_vi (0)), (zq_vi (1))]) (st' := []) (fun _ _ _ => rfl) ?_
            exact w
          · rw [if_pos hb_37] at w
            refine zq_run 1 (pc' := 152) (L' := [(.ref (232)), (zq_vi (x1)), (zq_vi (x2)), (zq_vi (x3)), v4]) (st' := [(zq_vi (0))]) (fun _ _ _ => rfl) ?_
            exact zq_iret rfl rfl rfl (⟨_, rfl, (of_decide_eq_true rfl), w⟩)
      · rw [if_neg hb_25] at w
        refine zq_run 2 (pc' := 125) (L' := [(.ref (232)), (zq_vi (x1)), (zq_vi (x2)), (zq_vi (x3)), v4]) (st' := [(zq_vi ((-1))), (.ref (232))]) (fun _ _ _ => rfl) ?_
        refine zq_putf_i (j := 21) rfl zq_a232 rfl rfl rfl (of_decide_eq_true rfl) ?_
        refine zq_run 2 (pc' := 130) (L' := [(.ref (232)), (zq_vi (x1)), (zq_vi (x2)), (zq_vi (x3)), v4]) (st' := [(zq_vi (x2)), (.ref (232))]) (fun _ _ _ => rfl) ?_
        refine zq_eq0 rfl (zq_bo_in hx2) (fun hb_38 => ?_) (fun hb_38 => ?_)
        · rw [if_pos hb_38] at w
          refine zq_run 1 (pc' := 141) (L' := [(.ref (232)), (zq_vi (x1)), (zq_vi (x2)), (zq_vi (x3)), v4]) (st' := [(.ref (232)), (.ref (232))]) (fun _ _ _ => rfl) ?_
          have e_39 : zq_i (zq_si (zq_si s (232) (0) (0)) (232) (21) ((-1))) (232) (44) = zq_i s (232) (44) := by simp [zq_i_si, zq_i_sr, zq_i_sl]
          refine zq_have (fun hR_40 => ?_)
          have g_41 : zq_iv (zq_i (zq_si (zq_si s (232) (0) (0)) (232) (21) ((-1))) (232) (44)) := (hR_40.1 _ _)
          rw [e_39] at g_41
          refine zq_getf_i (j := 44) (v := zq_i s (232) (44)) rfl zq_a232 rfl rfl e_39 ?_
          refine zq_putf_i (j := 22) rfl zq_a232 rfl rfl rfl g_41 ?_
          refine zq_run 1 (pc' := 148) (L' := [(.ref (232)), (zq_vi (x1)), (zq_vi (x2)), (zq_vi (x3)), v4]) (st' := [(zq_vi (x2))]) (fun _ _ _ => rfl) ?_
          refine zq_ne0 rfl (zq_bo_in hx2) (fun hb_42 => ?_) (fun hb_42 => ?_)
          · rw [if_neg hb_42] at w
            refine zq_run 4 (pc' := 158) (L' := [(.ref (232)), (zq_vi (x1)), (zq_vi (x2)), (zq_vi (0)), (zq_vi (1))]) (st' := []) (fun _ _ _ => rfl) ?_
            exact w
          · rw [if_pos hb_42] at w
            refine zq_run 1 (pc' := 152) (L' := [(.ref (232)), (zq_vi (x1)), (zq_vi (x2)), (zq_vi (x3)), v4]) (st' := [(zq_vi (0))]) (fun _ _ _ => rfl) ?_
            exact zq_iret rfl rfl rfl (⟨_, rfl, (of_decide_eq_true rfl), w⟩)
        · rw [if_neg hb_38] at w
          refine zq_run 1 (pc' := 134) (L' := [(.ref (232)), (zq_vi (x1)), (zq_vi (x2)), (zq_vi (x3)), v4]) (st' := [(.ref (232)), (.ref (232))]) (fun _ _ _ => rfl) ?_
          have e_43 : zq_i (zq_si (zq_si s (232) (0) (0)) (232) (21) ((-1))) (232) (22) = zq_i s (232) (22) := by simp [zq_i_si, zq_i_sr, zq_i_sl]
          refine zq_have (fun hR_44 => ?_)
          have g_45 : zq_iv (zq_i (zq_si (zq_si s (232) (0) (0)) (232) (21) ((-1))) (232) (22)) := (hR_44.1 _ _)
          rw [e_43] at g_45
          refine zq_getf_i (j := 22) (v := zq_i s (232) (22)) rfl zq_a232 rfl rfl e_43 ?_
          refine zq_run 1 (pc' := 144) (L' := [(.ref (232)), (zq_vi (x1)), (zq_vi (x2)), (zq_vi (x3)), v4]) (st' := [(zq_vi (zq_i s (232) (22))), (.ref (232))]) (fun _ _ _ => rfl) ?_
          refine zq_putf_i (j := 22) rfl zq_a232 rfl rfl rfl g_45 ?_
          refine zq_run 1 (pc' := 148) (L' := [(.ref (232)), (zq_vi (x1)), (zq_vi (x2)), (zq_vi (x3)), v4]) (st' := [(zq_vi (x2))]) (fun _ _ _ => rfl) ?_
          refine zq_ne0 rfl (zq_bo_in hx2) (fun hb_46 => ?_) (fun hb_46 => ?_)
          · rw [if_neg hb_46] at w
            refine zq_run 4 (pc' := 158) (L' := [(.ref (232)), (zq_vi (x1)), (zq_vi (x2)), (zq_vi (0)), (zq_vi (1))]) (st' := []) (fun _ _ _ => rfl) ?_
            exact w
          · rw [if_pos hb_46] at w
            refine zq_run 1 (pc' := 152) (L' := [(.ref (232)), (zq_vi (x1)), (zq_vi (x2)), (zq_vi (x3)), v4]) (st' := [(zq_vi (0))]) (fun _ _ _ => rfl) ?_
            exact zq_iret rfl rfl rfl (⟨_, rfl, (of_decide_eq_true rfl), w⟩)
  · rw [if_pos hb_1] at w
    refine zq_run 1 (pc' := 66) (L' := [(.ref (232)), (zq_vi (x1)), (zq_vi (x2)), (zq_vi (x3)), v4]) (st' := [(zq_vi (x2))]) (fun _ _ _ => rfl) ?_
    refine zq_eq0 rfl (zq_bo_in hx2) (fun hb_47 => ?_) (fun hb_47 => ?_)
    · rw [if_pos hb_47] at w
      refine zq_run 2 (pc' := 93) (L' := [(.ref (232)), (zq_vi (x1)), (zq_vi (0)), (zq_vi (x3)), v4]) (st' := []) (fun _ _ _ => rfl) ?_
      refine zq_iinc (L' := [(.ref (232)), (zq_vi (x1)), (zq_vi (0)), (zq_vi (x3 + 1)), v4]) rfl rfl rfl ?_
      refine zq_run 1 (pc' := 59) (L' := [(.ref (232)), (zq_vi (x1)), (zq_vi (0)), (zq_vi (x3 + 1)), v4]) (st' := []) (fun _ _ _ => rfl) ?_
      exact w
    · rw [if_neg hb_47] at w
      refine zq_run 1 (pc' := 70) (L' := [(.ref (232)), (zq_vi (x1)), (zq_vi (x2)), (zq_vi (x3)), v4]) (st' := [(.ref (232))]) (fun _ _ _ => rfl) ?_
      refine zq_getf_f (b := 250) rfl zq_a232 rfl rfl ?_
      refine zq_run 1 (pc' := 74) (L' := [(.ref (232)), (zq_vi (x1)), (zq_vi (x2)), (zq_vi (x3)), v4]) (st' := [(zq_vi (x3)), (.ref (250))]) (fun _ _ _ => rfl) ?_
      obtain ⟨g_48, w⟩ := w
      refine zq_have (fun hR_49 => ?_)
      refine zq_ald_i (v := zq_i s (250) (x3)) rfl zq_a250 g_48.1 g_48.2 rfl ?_
      refine zq_run 1 (pc' := 76) (L' := [(.ref (232)), (zq_vi (x1)), (zq_vi (x2)), (zq_vi (x3)), v4]) (st' := [(zq_vi (2)), (zq_vi (zq_i s (250) (x3)))]) (fun _ _ _ => rfl) ?_
      refine zq_ne rfl (hR_49.1 _ _) (of_decide_eq_true rfl) (fun hb_50 => ?_) (fun hb_50 => ?_)
      · rw [if_neg hb_50] at w
        refine zq_run 3 (pc' := 93) (L' := [(.ref (232)), (zq_vi (x1)), (zq_vi (1)), (zq_vi (x3)), v4]) (st' := []) (fun _ _ _ => rfl) ?_
        refine zq_iinc (L' := [(.ref (232)), (zq_vi (x1)), (zq_vi (1)), (zq_vi (x3 + 1)), v4]) rfl rfl rfl ?_
        refine zq_run 1 (pc' := 59) (L' := [(.ref (232)), (zq_vi (x1)), (zq_vi (1)), (zq_vi (x3 + 1)), v4]) (st' := []) (fun _ _ _ => rfl) ?_
        exact w
      · rw [if_pos hb_50] at w
        refine zq_run 2 (pc' := 81) (L' := [(.ref (232)), (zq_vi (x1)), (zq_vi (x2)), (zq_vi (x3)), v4]) (st' := [(zq_vi (x3)), (.ref (232))]) (fun _ _ _ => rfl) ?_
        refine zq_call_i (i := .invokevirtual 389) (r := [1, 211, 1, 1, 9]) rfl rfl (fun h hp => zr_avv rfl (hp.obj zq_a232)) (of_decide_eq_false rfl) w (fun x_52 s_51 hx_53 w => ?_)
        refine zq_eq0 rfl (zq_bo_in hx_53) (fun hb_54 => ?_) (fun hb_54 => ?_)
        · rw [if_pos hb_54] at w
          refine zq_run 2 (pc' := 93) (L' := [(.ref (232)), (zq_vi (x1)), (zq_vi (0)), (zq_vi (x3)), v4]) (st' := []) (fun _ _ _ => rfl) ?_
          refine zq_iinc (L' := [(.ref (232)), (zq_vi (x1)), (zq_vi (0)), (zq_vi (x3 + 1)), v4]) rfl rfl rfl ?_
          refine zq_run 1 (pc' := 59) (L' := [(.ref (232)), (zq_vi (x1)), (zq_vi (0)), (zq_vi (x3 + 1)), v4]) (st' := []) (fun _ _ _ => rfl) ?_
          exact w
        · rw [if_neg hb_54] at w
          refine zq_run 3 (pc' := 93) (L' := [(.ref (232)), (zq_vi (x1)), (zq_vi (1)), (zq_vi (x3)), v4]) (st' := []) (fun _ _ _ => rfl) ?_
          refine zq_iinc (L' := [(.ref (232)), (zq_vi (x1)), (zq_vi (1)), (zq_vi (x3 + 1)), v4]) rfl rfl rfl ?_
          refine zq_run 1 (pc' := 59) (L' := [(.ref (232)), (zq_vi (x1)), (zq_vi (1)), (zq_vi (x3 + 1)), v4]) (st' := []) (fun _ _ _ => rfl) ?_
          exact w
set_option maxRecDepth 100000 in
/-- PaperObjectsModel.load at 158 -/
theorem zw_203_158 {X : Nat × (Nat → Int32)} {s : zq_S} {K : Int → zq_S → Prop} {x1 : Int} (hx1 : zq_iv x1) {x2 : Int} (hx2 : zq_bo x2) {x3 : Int} (hx3 : zq_iv x3) {x4 : Int} (hx4 : zq_iv x4) (w : (if x4 ≤ 9 then (zq_Ex X 216 0 [(.ref (232)), (zq_vi (x4)), zz_no, zz_no, zz_no, zz_no] [] s (zq_rv fun s_4 => (((0 : Int) ≤ x4 ∧ x4 < (10 : Int)) ∧ (if zq_i s_4 (237) (x4) = 0 then zq_Ex X 203 158 [(.ref (232)), (zq_vi (x1)), (zq_vi (x2)), (zq_vi (x3 + 0)), (zq_vi (x4 + 1))] [] s_4 (zq_rp zq_iv K) else zq_Ex X 203 158 [(.ref (232)), (zq_vi (x1)), (zq_vi (x2)), (zq_vi (x3 + 1)), (zq_vi (x4 + 1))] [] s_4 (zq_rp zq_iv K))))) else K (x3) (zq_si (zq_si (zq_si s (232) (17) (zq_i s (232) (41))) (232) (18) (zq_i s (232) (42))) (232) (19) ((-1))))) : zq_Ex X 203 158 [(.ref (232)), (zq_vi (x1)), (zq_vi (x2)), (zq_vi (x3)), (zq_vi (x4))] [] s (zq_rp zq_iv K) := by
  refine zq_run 2 (pc' := 162) (L' := [(.ref (232)), (zq_vi (x1)), (zq_vi (x2)), (zq_vi (x3)), (zq_vi (x4))]) (st' := [(zq_vi (9)), (zq_vi (x4))]) (fun _ _ _ => rfl) ?_
  refine zq_gt rfl hx4 (of_decide_eq_true rfl) (fun hb_1 => ?_) (fun hb_1 => ?_)
  · rw [if_neg hb_1] at w
    refine zq_run 2 (pc' := 197) (L' := [(.ref (232)), (zq_vi (x1)), (zq_vi (x2)), (zq_vi (x3)), (zq_vi (x4))]) (st' := [(.ref (232)), (.ref (232))]) (fun _ _ _ => rfl) ?_
    refine zq_have (fun hR_2 => ?_)
    refine zq_getf_i (j := 41) (v := zq_i s (232) (41)) rfl zq_a232 rfl rfl rfl ?_
    refine zq_putf_i (j := 17) rfl zq_a232 rfl rfl rfl (hR_2.1 _ _) ?_
    refine zq_run 2 (pc' := 205) (L' := [(.ref (232)), (zq_vi (x1)), (zq_vi (x2)), (zq_vi (x3)), (zq_vi (x4))]) (st' := [(.ref (232)), (.ref (232))]) (fun _ _ _ => rfl) ?_
    have e_3 : zq_i (zq_si s (232) (17) (zq_i s (232) (41))) (232) (42) = zq_i s (232) (42) := by simp [zq_i_si, zq_i_sr, zq_i_sl]
    refine zq_getf_i (j := 42) (v := zq_i s (232) (42)) rfl zq_a232 rfl rfl e_3 ?_
    refine zq_putf_i (j := 18) rfl zq_a232 rfl rfl rfl (hR_2.1 _ _) ?_
    refine zq_run 2 (pc' := 213) (L' := [(.ref (232)), (zq_vi (x1)), (zq_vi (x2)), (zq_vi (x3)), (zq_vi (x4))]) (st' := [(zq_vi ((-1))), (.ref (232))]) (fun _ _ _ => rfl) ?_
    refine zq_putf_i (j := 19) rfl zq_a232 rfl rfl rfl (of_decide_eq_true rfl) ?_
    refine zq_run 1 (pc' := 217) (L' := [(.ref (232)), (zq_vi (x1)), (zq_vi (x2)), (zq_vi (x3)), (zq_vi (x4))]) (st' := [(zq_vi (x3))]) (fun _ _ _ => rfl) ?_
    exact zq_iret rfl rfl rfl (⟨_, rfl, hx3, w⟩)
  · rw [if_pos hb_1] at w
    refine zq_run 2 (pc' := 168) (L' := [(.ref (232)), (zq_vi (x1)), (zq_vi (x2)), (zq_vi (x3)), (zq_vi (x4))]) (st' := [(zq_vi (x4)), (.ref (232))]) (fun _ _ _ => rfl) ?_
    refine zq_call_v (i := .invokevirtual 395) (r := [1, 216, 1, 1, 9]) rfl rfl (fun h hp => zr_avv rfl (hp.obj zq_a232)) (of_decide_eq_false rfl) w (fun s_4 w => ?_)
    refine zq_run 2 (pc' := 173) (L' := [(.ref (232)), (zq_vi (x1)), (zq_vi (x2)), (zq_vi (x3)), (zq_vi (x4))]) (st' := [(.ref (232)), (zq_vi (x3))]) (fun _ _ _ => rfl) ?_
    refine zq_getf_f (b := 237) rfl zq_a232 rfl rfl ?_
    refine zq_run 1 (pc' := 178) (L' := [(.ref (232)), (zq_vi (x1)), (zq_vi (x2)), (zq_vi (x3)), (zq_vi (x4))]) (st' := [(zq_vi (x4)), (.ref (237)), (zq_vi (x3))]) (fun _ _ _ => rfl) ?_
    obtain ⟨g_5, w⟩ := w
    refine zq_have (fun hR_6 => ?_)
    refine zq_ald_b (v := zq_i s_4 (237) (x4)) rfl zq_a237 g_5.1 g_5.2 rfl ?_
    refine zq_eq0 rfl (zq_bo_in (hR_6.2.2.1 _ _ _ zq_a237)) (fun hb_7 => ?_) (fun hb_7 => ?_)
    · rw [if_pos hb_7] at w
      refine zq_run 1 (pc' := 187) (L' := [(.ref (232)), (zq_vi (x1)), (zq_vi (x2)), (zq_vi (x3)), (zq_vi (x4))]) (st' := [(zq_vi (0)), (zq_vi (x3))]) (fun _ _ _ => rfl) ?_
      refine zq_iadd rfl ?_
      refine zq_run 1 (pc' := 189) (L' := [(.ref (232)), (zq_vi (x1)), (zq_vi (x2)), (zq_vi (x3 + 0)), (zq_vi (x4))]) (st' := []) (fun _ _ _ => rfl) ?_
      refine zq_iinc (L' := [(.ref (232)), (zq_vi (x1)), (zq_vi (x2)), (zq_vi (x3 + 0)), (zq_vi (x4 + 1))]) rfl rfl rfl ?_
      refine zq_run 1 (pc' := 158) (L' := [(.ref (232)), (zq_vi (x1)), (zq_vi (x2)), (zq_vi (x3 + 0)), (zq_vi (x4 + 1))]) (st' := []) (fun _ _ _ => rfl) ?_
      exact w
    · rw [if_neg hb_7] at w
      refine zq_run 2 (pc' := 187) (L' := [(.ref (232)), (zq_vi (x1)), (zq_vi (x2)), (zq_vi (x3)), (zq_vi (x4))]) (st' := [(zq_vi (1)), (zq_vi (x3))]) (fun _ _ _ => rfl) ?_
      refine zq_iadd rfl ?_
      refine zq_run 1 (pc' := 189) (L' := [(.ref (232)), (zq_vi (x1)), (zq_vi (x2)), (zq_vi (x3 + 1)), (zq_vi (x4))]) (st' := []) (fun _ _ _ => rfl) ?_
      refine zq_iinc (L' := [(.ref (232)), (zq_vi (x1)), (zq_vi (x2)), (zq_vi (x3 + 1)), (zq_vi (x4 + 1))]) rfl rfl rfl ?_
      refine zq_run 1 (pc' := 158) (L' := [(.ref (232)), (zq_vi (x1)), (zq_vi (x2)), (zq_vi (x3 + 1)), (zq_vi (x4 + 1))]) (st' := []) (fun _ _ _ => rfl) ?_
      exact w
set_option maxRecDepth 100000 in
/-- PaperObjectsModel.readTables(I)Z -/
theorem zw_204 {X : Nat × (Nat → Int32)} {s : zq_S} {K : Int → zq_S → Prop} {x1 : Int} (hx1 : zq_iv x1) (w : zq_Ex X 204 7 [(.ref (232)), (zq_vi (x1)), (zq_vi (x1)), zz_no] [] (zq_si s (232) (39) (0)) (zq_rp zq_bo K)) : zq_Ex X 204 0 [(.ref (232)), (zq_vi (x1)), zz_no, zz_no] [] s (zq_rp zq_bo K) := by
  refine zq_run 2 (pc' := 2) (L' := [(.ref (232)), (zq_vi (x1)), zz_no, zz_no]) (st' := [(zq_vi (0)), (.ref (232))]) (fun _ _ _ => rfl) ?_
  refine zq_putf_i (j := 39) rfl zq_a232 rfl rfl rfl (of_decide_eq_true rfl) ?_
  refine zq_run 2 (pc' := 7) (L' := [(.ref (232)), (zq_vi (x1)), (zq_vi (x1)), zz_no]) (st' := []) (fun _ _ _ => rfl) ?_
  exact w
set_option maxRecDepth 100000 in
/-- PaperObjectsModel.readTables at 7 -/
theorem zw_204_7 {X : Nat × (Nat → Int32)} {s : zq_S} {K : Int → zq_S → Prop} {x1 : Int} (hx1 : zq_iv x1) {x2 : Int} (hx2 : zq_iv x2) {v3 : Value} (hv3 : v3.category = 1) (w : (if x2 = (-1000001) then K (1) s else (if x2 < 0 then (zq_Ex X 206 0 [(.ref (232)), (zq_vi (2)), (zq_vi (x2))] [] s (zq_rp zq_bo fun x_4 s_3 => K (x_4) s_3)) else (if x2 < zq_i s (232) (3) then (zq_Ex X 205 0 [(.ref (232)), (zq_vi (x2)), zz_no, zz_no] [] s (zq_rp zq_bo fun x_12 s_11 => (if x_12 = 0 then (if zq_i s_11 (232) (39) = 0 then (zq_Ex X 207 0 [(.ref (232)), (zq_vi (x2)), (zq_vi (1)), zz_no, zz_no, zz_no, zz_no] [] s_11 (zq_rp zq_iv fun x_29 s_28 => (if x_29 = (-2000000) then (zq_Ex X 206 0 [(.ref (232)), (zq_vi (2)), (zq_vi (x2))] [] s_28 (zq_rp zq_bo fun x_37 s_36 => K (x_37) s_36)) else (((0 : Int) ≤ zq_i s_28 (232) (39) ∧ zq_i s_28 (232) (39) < (200 : Int)) ∧ (zq_iv ((zq_i s_28 (232) (39)) + 1) ∧ zq_Ex X 204 7 [(.ref (232)), (zq_vi (x1)), (zq_vi (x_29)), (zq_vi (x_29))] [] (zq_si (zq_si s_28 (253) (zq_i s_28 (232) (39)) (x2)) (232) (39) ((zq_i s_28 (232) (39)) + 1)) (zq_rp zq_bo K)))))) else (zq_Ex X 207 0 [(.ref (232)), (zq_vi (x2)), (zq_vi (0)), zz_no, zz_no, zz_no, zz_no] [] s_11 (zq_rp zq_iv fun x_18 s_17 => (if x_18 = (-2000000) then (zq_Ex X 206 0 [(.ref (232)), (zq_vi (2)), (zq_vi (x2))] [] s_17 (zq_rp zq_bo fun x_26 s_25 => K (x_26) s_25)) else (((0 : Int) ≤ zq_i s_17 (232) (39) ∧ zq_i s_17 (232) (39) < (200 : Int)) ∧ (zq_iv ((zq_i s_17 (232) (39)) + 1) ∧ zq_Ex X 204 7 [(.ref (232)), (zq_vi (x1)), (zq_vi (x_18)), (zq_vi (x_18))] [] (zq_si (zq_si s_17 (253) (zq_i s_17 (232) (39)) (x2)) (232) (39) ((zq_i s_17 (232) (39)) + 1)) (zq_rp zq_bo K))))))) else (zq_Ex X 206 0 [(.ref (232)), (zq_vi (2)), (zq_vi (x2))] [] s_11 (zq_rp zq_bo fun x_40 s_39 => K (x_40) s_39))))) else (zq_Ex X 206 0 [(.ref (232)), (zq_vi (2)), (zq_vi (x2))] [] s (zq_rp zq_bo fun x_9 s_8 => K (x_9) s_8)))))) : zq_Ex X 204 7 [(.ref (232)), (zq_vi (x1)), (zq_vi (x2)), v3] [] s (zq_rp zq_bo K) := by
  refine zq_run 2 (pc' := 11) (L' := [(.ref (232)), (zq_vi (x1)), (zq_vi (x2)), v3]) (st' := [(zq_vi ((-1000001))), (zq_vi (x2))]) (fun _ _ _ => rfl) ?_
  refine zq_eq rfl hx2 (of_decide_eq_true rfl) (fun hb_1 => ?_) (fun hb_1 => ?_)
  · rw [if_pos hb_1] at w
    refine zq_run 1 (pc' := 99) (L' := [(.ref (232)), (zq_vi (x1)), (zq_vi (x2)), v3]) (st' := [(zq_vi (1))]) (fun _ _ _ => rfl) ?_
    exact zq_iret rfl rfl (congrArg Value.int (zq_nb (of_decide_eq_true rfl))) (⟨_, rfl, (of_decide_eq_true rfl), w⟩)
  · rw [if_neg hb_1] at w
    refine zq_run 1 (pc' := 15) (L' := [(.ref (232)), (zq_vi (x1)), (zq_vi (x2)), v3]) (st' := [(zq_vi (x2))]) (fun _ _ _ => rfl) ?_
    refine zq_lt0 rfl hx2 (fun hb_2 => ?_) (fun hb_2 => ?_)
    · rw [if_pos hb_2] at w
      refine zq_run 3 (pc' := 37) (L' := [(.ref (232)), (zq_vi (x1)), (zq_vi (x2)), v3]) (st' := [(zq_vi (x2)), (zq_vi (2)), (.ref (232))]) (fun _ _ _ => rfl) ?_
      refine zq_call_i (i := .invokevirtual 367) (r := [1, 206, 2, 1, 9]) rfl rfl (fun h hp => zr_avv rfl (hp.obj zq_a232)) (of_decide_eq_false rfl) w (fun x_4 s_3 hx_5 w => ?_)
      exact zq_iret rfl rfl (congrArg Value.int (zq_nb hx_5)) (⟨_, rfl, hx_5, w⟩)
    · rw [if_neg hb_2] at w
      refine zq_run 2 (pc' := 20) (L' := [(.ref (232)), (zq_vi (x1)), (zq_vi (x2)), v3]) (st' := [(.ref (232)), (zq_vi (x2))]) (fun _ _ _ => rfl) ?_
      refine zq_have (fun hR_6 => ?_)
      refine zq_getf_i (j := 3) (v := zq_i s (232) (3)) rfl zq_a232 rfl rfl rfl ?_
      refine zq_ge rfl hx2 (hR_6.1 _ _) (fun hb_7 => ?_) (fun hb_7 => ?_)
      · rw [if_neg hb_7] at w
        refine zq_run 3 (pc' := 37) (L' := [(.ref (232)), (zq_vi (x1)), (zq_vi (x2)), v3]) (st' := [(zq_vi (x2)), (zq_vi (2)), (.ref (232))]) (fun _ _ _ => rfl) ?_
        refine zq_call_i (i := .invokevirtual 367) (r := [1, 206, 2, 1, 9]) rfl rfl (fun h hp => zr_avv rfl (hp.obj zq_a232)) (of_decide_eq_false rfl) w (fun x_9 s_8 hx_10 w => ?_)
        exact zq_iret rfl rfl (congrArg Value.int (zq_nb hx_10)) (⟨_, rfl, hx_10, w⟩)
      · rw [if_pos hb_7] at w
        refine zq_run 2 (pc' := 28) (L' := [(.ref (232)), (zq_vi (x1)), (zq_vi (x2)), v3]) (st' := [(zq_vi (x2)), (.ref (232))]) (fun _ _ _ => rfl) ?_
        refine zq_call_i (i := .invokevirtual 364) (r := [1, 205, 1, 1, 9]) rfl rfl (fun h hp => zr_avv rfl (hp.obj zq_a232)) (of_decide_eq_false rfl) w (fun x_12 s_11 hx_13 w => ?_)
        refine zq_eq0 rfl (zq_bo_in hx_13) (fun hb_14 => ?_) (fun hb_14 => ?_)
        · rw [if_pos hb_14] at w
          refine zq_run 3 (pc' := 44) (L' := [(.ref (232)), (zq_vi (x1)), (zq_vi (x2)), v3]) (st' := [(.ref (232)), (zq_vi (x2)), (.ref (232))]) (fun _ _ _ => rfl) ?_
          refine zq_have (fun hR_15 => ?_)
          refine zq_getf_i (j := 39) (v := zq_i s_11 (232) (39)) rfl zq_a232 rfl rfl rfl ?_
          refine zq_ne0 rfl (hR_15.1 _ _) (fun hb_16 => ?_) (fun hb_16 => ?_)
          · rw [if_neg hb_16] at w
            refine zq_run 1 (pc' := 55) (L' := [(.ref (232)), (zq_vi (x1)), (zq_vi (x2)), v3]) (st' := [(zq_vi (0)), (zq_vi (x2)), (.ref (232))]) (fun _ _ _ => rfl) ?_
            refine zq_call_i (i := .invokevirtual 370) (r := [1, 207, 2, 1, 9]) rfl rfl (fun h hp => zr_avv rfl (hp.obj zq_a232)) (of_decide_eq_false rfl) w (fun x_18 s_17 hx_19 w => ?_)
            refine zq_run 3 (pc' := 63) (L' := [(.ref (232)), (zq_vi (x1)), (zq_vi (x2)), (zq_vi (x_18))]) (st' := [(zq_vi ((-2000000))), (zq_vi (x_18))]) (fun _ _ _ => rfl) ?_
            refine zq_ne rfl hx_19 (of_decide_eq_true rfl) (fun hb_20 => ?_) (fun hb_20 => ?_)
            · rw [if_neg hb_20] at w
              refine zq_run 1 (pc' := 74) (L' := [(.ref (232)), (zq_vi (x1)), (zq_vi (x2)), (zq_vi (x_18))]) (st' := [(.ref (232))]) (fun _ _ _ => rfl) ?_
              refine zq_getf_f (b := 253) rfl zq_a232 rfl rfl ?_
              refine zq_run 1 (pc' := 78) (L' := [(.ref (232)), (zq_vi (x1)), (zq_vi (x2)), (zq_vi (x_18))]) (st' := [(.ref (232)), (.ref (253))]) (fun _ _ _ => rfl) ?_
              refine zq_have (fun hR_21 => ?_)
              refine zq_getf_i (j := 39) (v := zq_i s_17 (232) (39)) rfl zq_a232 rfl rfl rfl ?_
              refine zq_run 1 (pc' := 82) (L' := [(.ref (232)), (zq_vi (x1)), (zq_vi (x2)), (zq_vi (x_18))]) (st' := [(zq_vi (x2)), (zq_vi (zq_i s_17 (232) (39))), (.ref (253))]) (fun _ _ _ => rfl) ?_
              obtain ⟨g_22, w⟩ := w
              refine zq_ast_i rfl zq_a253 g_22.1 g_22.2 hx2 ?_
              refine zq_run 2 (pc' := 85) (L' := [(.ref (232)), (zq_vi (x1)), (zq_vi (x2)), (zq_vi (x_18))]) (st' := [(.ref (232)), (.ref (232))]) (fun _ _ _ => rfl) ?_
              have e_23 : zq_i (zq_si s_17 (253) (zq_i s_17 (232) (39)) (x2)) (232) (39) = zq_i s_17 (232) (39) := by simp [zq_i_si, zq_i_sr, zq_i_sl]
              refine zq_getf_i (j := 39) (v := zq_i s_17 (232) (39)) rfl zq_a232 rfl rfl e_23 ?_
              refine zq_run 1 (pc' := 89) (L' := [(.ref (232)), (zq_vi (x1)), (zq_vi (x2)), (zq_vi (x_18))]) (st' := [(zq_vi (1)), (zq_vi (zq_i s_17 (232) (39))), (.ref (232))]) (fun _ _ _ => rfl) ?_
              refine zq_iadd rfl ?_
              obtain ⟨g_24, w⟩ := w
              refine zq_putf_i (j := 39) rfl zq_a232 rfl rfl rfl g_24 ?_
              refine zq_run 3 (pc' := 7) (L' := [(.ref (232)), (zq_vi (x1)), (zq_vi (x_18)), (zq_vi (x_18))]) (st' := []) (fun _ _ _ => rfl) ?_
              exact w
            · rw [if_pos hb_20] at w
              refine zq_run 3 (pc' := 69) (L' := [(.ref (232)), (zq_vi (x1)), (zq_vi (x2)), (zq_vi (x_18))]) (st' := [(zq_vi (x2)), (zq_vi (2)), (.ref (232))]) (fun _ _ _ => rfl) ?_
              refine zq_call_i (i := .invokevirtual 367) (r := [1, 206, 2, 1, 9]) rfl rfl (fun h hp => zr_avv rfl (hp.obj zq_a232)) (of_decide_eq_false rfl) w (fun x_26 s_25 hx_27 w => ?_)
              exact zq_iret rfl rfl (congrArg Value.int (zq_nb hx_27)) (⟨_, rfl, hx_27, w⟩)
          · rw [if_pos hb_16] at w
            refine zq_run 2 (pc' := 55) (L' := [(.ref (232)), (zq_vi (x1)), (zq_vi (x2)), v3]) (st' := [(zq_vi (1)), (zq_vi (x2)), (.ref (232))]) (fun _ _ _ => rfl) ?_
            refine zq_call_i (i := .invokevirtual 370) (r := [1, 207, 2, 1, 9]) rfl rfl (fun h hp => zr_avv rfl (hp.obj zq_a232)) (of_decide_eq_false rfl) w (fun x_29 s_28 hx_30 w => ?_)
            refine zq_run 3 (pc' := 63) (L' := [(.ref (232)), (zq_vi (x1)), (zq_vi (x2)), (zq_vi (x_29))]) (st' := [(zq_vi ((-2000000))), (zq_vi (x_29))]) (fun _ _ _ => rfl) ?_
            refine zq_ne rfl hx_30 (of_decide_eq_true rfl) (fun hb_31 => ?_) (fun hb_31 => ?_)
            · rw [if_neg hb_31] at w
              refine zq_run 1 (pc' := 74) (L' := [(.ref (232)), (zq_vi (x1)), (zq_vi (x2)), (zq_vi (x_29))]) (st' := [(.ref (232))]) (fun _ _ _ => rfl) ?_
              refine zq_getf_f (b := 253) rfl zq_a232 rfl rfl ?_
              refine zq_run 1 (pc' := 78) (L' := [(.ref (232)), (zq_vi (x1)), (zq_vi (x2)), (zq_vi (x_29))]) (st' := [(.ref (232)), (.ref (253))]) (fun _ _ _ => rfl) ?_
              refine zq_have (fun hR_32 => ?_)
              refine zq_getf_i (j := 39) (v := zq_i s_28 (232) (39)) rfl zq_a232 rfl rfl rfl ?_
              refine zq_run 1 (pc' := 82) (L' := [(.ref (232)), (zq_vi (x1)), (zq_vi (x2)), (zq_vi (x_29))]) (st' := [(zq_vi (x2)), (zq_vi (zq_i s_28 (232) (39))), (.ref (253))]) (fun _ _ _ => rfl) ?_
              obtain ⟨g_33, w⟩ := w
              refine zq_ast_i rfl zq_a253 g_33.1 g_33.2 hx2 ?_
              refine zq_run 2 (pc' := 85) (L' := [(.ref (232)), (zq_vi (x1)), (zq_vi (x2)), (zq_vi (x_29))]) (st' := [(.ref (232)), (.ref (232))]) (fun _ _ _ => rfl) ?_
              have e_34 : zq_i (zq_si s_28 (253) (zq_i s_28 (232) (39)) (x2)) (232) (39) = zq_i s_28 (232) (39) := by simp [zq_i_si, zq_i_sr, zq_i_sl]
              refine zq_getf_i (j := 39) (v := zq_i s_28 (232) (39)) rfl zq_a232 rfl rfl e_34 ?_
              refine zq_run 1 (pc' := 89) (L' := [(.ref (232)), (zq_vi (x1)), (zq_vi (x2)), (zq_vi (x_29))]) (st' := [(zq_vi (1)), (zq_vi (zq_i s_28 (232) (39))), (.ref (232))]) (fun _ _ _ => rfl) ?_
              refine zq_iadd rfl ?_
              obtain ⟨g_35, w⟩ := w
              refine zq_putf_i (j := 39) rfl zq_a232 rfl rfl rfl g_35 ?_
              refine zq_run 3 (pc' := 7) (L' := [(.ref (232)), (zq_vi (x1)), (zq_vi (x_29)), (zq_vi (x_29))]) (st' := []) (fun _ _ _ => rfl) ?_
              exact w
            · rw [if_pos hb_31] at w
              refine zq_run 3 (pc' := 69) (L' := [(.ref (232)), (zq_vi (x1)), (zq_vi (x2)), (zq_vi (x_29))]) (st' := [(zq_vi (x2)), (zq_vi (2)), (.ref (232))]) (fun _ _ _ => rfl) ?_
              refine zq_call_i (i := .invokevirtual 367) (r := [1, 206, 2, 1, 9]) rfl rfl (fun h hp => zr_avv rfl (hp.obj zq_a232)) (of_decide_eq_false rfl) w (fun x_37 s_36 hx_38 w => ?_)
              exact zq_iret rfl rfl (congrArg Value.int (zq_nb hx_38)) (⟨_, rfl, hx_38, w⟩)
        · rw [if_neg hb_14] at w
          refine zq_run 3 (pc' := 37) (L' := [(.ref (232)), (zq_vi (x1)), (zq_vi (x2)), v3]) (st' := [(zq_vi (x2)), (zq_vi (2)), (.ref (232))]) (fun _ _ _ => rfl) ?_
          refine zq_call_i (i := .invokevirtual 367) (r := [1, 206, 2, 1, 9]) rfl rfl (fun h hp => zr_avv rfl (hp.obj zq_a232)) (of_decide_eq_false rfl) w (fun x_40 s_39 hx_41 w => ?_)
          exact zq_iret rfl rfl (congrArg Value.int (zq_nb hx_41)) (⟨_, rfl, hx_41, w⟩)
set_option maxRecDepth 100000 in
/-- PaperObjectsModel.seenTable(I)Z -/
theorem zw_205 {X : Nat × (Nat → Int32)} {s : zq_S} {K : Int → zq_S → Prop} {x1 : Int} (hx1 : zq_iv x1) (w : zq_Ex X 205 4 [(.ref (232)), (zq_vi (x1)), (zq_vi (0)), (zq_vi (0))] [] s (zq_rp zq_bo K)) : zq_Ex X 205 0 [(.ref (232)), (zq_vi (x1)), zz_no, zz_no] [] s (zq_rp zq_bo K) := by
  refine zq_run 4 (pc' := 4) (L' := [(.ref (232)), (zq_vi (x1)), (zq_vi (0)), (zq_vi (0))]) (st' := []) (fun _ _ _ => rfl) ?_
  exact w
set_option maxRecDepth 100000 in
/-- PaperObjectsModel.seenTable at 4 -/
theorem zw_205_4 {X : Nat × (Nat → Int32)} {s : zq_S} {K : Int → zq_S → Prop} {x1 : Int} (hx1 : zq_iv x1) {x2 : Int} (hx2 : zq_bo x2) {x3 : Int} (hx3 : zq_iv x3) (w : (if x3 < zq_i s (232) (39) then (if x2 = 0 then (((0 : Int) ≤ x3 ∧ x3 < (200 : Int)) ∧ (if zq_i s (253) (x3) = x1 then zq_Ex X 205 4 [(.ref (232)), (zq_vi (x1)), (zq_vi (1)), (zq_vi (x3 + 1))] [] s (zq_rp zq_bo K) else zq_Ex X 205 4 [(.ref (232)), (zq_vi (x1)), (zq_vi (0)), (zq_vi (x3 + 1))] [] s (zq_rp zq_bo K))) else zq_Ex X 205 4 [(.ref (232)), (zq_vi (x1)), (zq_vi (1)), (zq_vi (x3 + 1))] [] s (zq_rp zq_bo K)) else K (x2) s)) : zq_Ex X 205 4 [(.ref (232)), (zq_vi (x1)), (zq_vi (x2)), (zq_vi (x3))] [] s (zq_rp zq_bo K) := by
  refine zq_run 2 (pc' := 6) (L' := [(.ref (232)), (zq_vi (x1)), (zq_vi (x2)), (zq_vi (x3))]) (st' := [(.ref (232)), (zq_vi (x3))]) (fun _ _ _ => rfl) ?_
  refine zq_have (fun hR_1 => ?_)
  refine zq_getf_i (j := 39) (v := zq_i s (232) (39)) rfl zq_a232 rfl rfl rfl ?_
  refine zq_ge rfl hx3 (hR_1.1 _ _) (fun hb_2 => ?_) (fun hb_2 => ?_)
  · rw [if_neg hb_2] at w
    refine zq_run 1 (pc' := 39) (L' := [(.ref (232)), (zq_vi (x1)), (zq_vi (x2)), (zq_vi (x3))]) (st' := [(zq_vi (x2))]) (fun _ _ _ => rfl) ?_
    exact zq_iret rfl rfl (congrArg Value.int (zq_nb hx2)) (⟨_, rfl, hx2, w⟩)
  · rw [if_pos hb_2] at w
    refine zq_run 1 (pc' := 13) (L' := [(.ref (232)), (zq_vi (x1)), (zq_vi (x2)), (zq_vi (x3))]) (st' := [(zq_vi (x2))]) (fun _ _ _ => rfl) ?_
    refine zq_ne0 rfl (zq_bo_in hx2) (fun hb_3 => ?_) (fun hb_3 => ?_)
    · rw [if_neg hb_3] at w
      refine zq_run 3 (pc' := 32) (L' := [(.ref (232)), (zq_vi (x1)), (zq_vi (1)), (zq_vi (x3))]) (st' := []) (fun _ _ _ => rfl) ?_
      refine zq_iinc (L' := [(.ref (232)), (zq_vi (x1)), (zq_vi (1)), (zq_vi (x3 + 1))]) rfl rfl rfl ?_
      refine zq_run 1 (pc' := 4) (L' := [(.ref (232)), (zq_vi (x1)), (zq_vi (1)), (zq_vi (x3 + 1))]) (st' := []) (fun _ _ _ => rfl) ?_
      exact w
    · rw [if_pos hb_3] at w
      refine zq_run 1 (pc' := 17) (L' := [(.ref (232)), (zq_vi (x1)), (zq_vi (x2)), (zq_vi (x3))]) (st' := [(.ref (232))]) (fun _ _ _ => rfl) ?_
      refine zq_getf_f (b := 253) rfl zq_a232 rfl rfl ?_
      refine zq_run 1 (pc' := 21) (L' := [(.ref (232)), (zq_vi (x1)), (zq_vi (x2)), (zq_vi (x3))]) (st' := [(zq_vi (x3)), (.ref (253))]) (fun _ _ _ => rfl) ?_
      obtain ⟨g_4, w⟩ := w
      refine zq_ald_i (v := zq_i s (253) (x3)) rfl zq_a253 g_4.1 g_4.2 rfl ?_
      refine zq_run 1 (pc' := 23) (L' := [(.ref (232)), (zq_vi (x1)), (zq_vi (x2)), (zq_vi (x3))]) (st' := [(zq_vi (x1)), (zq_vi (zq_i s (253) (x3)))]) (fun _ _ _ => rfl) ?_
      refine zq_ne rfl (hR_1.1 _ _) hx1 (fun hb_5 => ?_) (fun hb_5 => ?_)
      · rw [if_neg hb_5] at w
        refine zq_run 2 (pc' := 32) (L' := [(.ref (232)), (zq_vi (x1)), (zq_vi (0)), (zq_vi (x3))]) (st' := []) (fun _ _ _ => rfl) ?_
        refine zq_iinc (L' := [(.ref (232)), (zq_vi (x1)), (zq_vi (0)), (zq_vi (x3 + 1))]) rfl rfl rfl ?_
        refine zq_run 1 (pc' := 4) (L' := [(.ref (232)), (zq_vi (x1)), (zq_vi (0)), (zq_vi (x3 + 1))]) (st' := []) (fun _ _ _ => rfl) ?_
        exact w
      · rw [if_pos hb_5] at w
        refine zq_run 3 (pc' := 32) (L' := [(.ref (232)), (zq_vi (x1)), (zq_vi (1)), (zq_vi (x3))]) (st' := []) (fun _ _ _ => rfl) ?_
        refine zq_iinc (L' := [(.ref (232)), (zq_vi (x1)), (zq_vi (1)), (zq_vi (x3 + 1))]) rfl rfl rfl ?_
        refine zq_run 1 (pc' := 4) (L' := [(.ref (232)), (zq_vi (x1)), (zq_vi (1)), (zq_vi (x3 + 1))]) (st' := []) (fun _ _ _ => rfl) ?_
        exact w
set_option maxRecDepth 100000 in
/-- PaperObjectsModel.bad(II)Z -/
theorem zw_206 {X : Nat × (Nat → Int32)} {s : zq_S} {K : Int → zq_S → Prop} {x1 : Int} (hx1 : zq_iv x1) {x2 : Int} (hx2 : zq_iv x2) (w : (if zq_i s (232) (44) = 0 then K (0) (zq_si (zq_si s (232) (44) (x1)) (232) (43) (x2)) else K (0) s)) : zq_Ex X 206 0 [(.ref (232)), (zq_vi (x1)), (zq_vi (x2))] [] s (zq_rp zq_bo K) := by
  refine zq_run 1 (pc' := 1) (L' := [(.ref (232)), (zq_vi (x1)), (zq_vi (x2))]) (st' := [(.ref (232))]) (fun _ _ _ => rfl) ?_
  refine zq_have (fun hR_1 => ?_)
  refine zq_getf_i (j := 44) (v := zq_i s (232) (44)) rfl zq_a232 rfl rfl rfl ?_
  refine zq_ne0 rfl (hR_1.1 _ _) (fun hb_2 => ?_) (fun hb_2 => ?_)
  · rw [if_neg hb_2] at w
    refine zq_run 1 (pc' := 18) (L' := [(.ref (232)), (zq_vi (x1)), (zq_vi (x2))]) (st' := [(zq_vi (0))]) (fun _ _ _ => rfl) ?_
    exact zq_iret rfl rfl (congrArg Value.int (zq_nb (of_decide_eq_true rfl))) (⟨_, rfl, (of_decide_eq_true rfl), w⟩)
  · rw [if_pos hb_2] at w
    refine zq_run 2 (pc' := 9) (L' := [(.ref (232)), (zq_vi (x1)), (zq_vi (x2))]) (st' := [(zq_vi (x1)), (.ref (232))]) (fun _ _ _ => rfl) ?_
    refine zq_putf_i (j := 44) rfl zq_a232 rfl rfl rfl hx1 ?_
    refine zq_run 2 (pc' := 14) (L' := [(.ref (232)), (zq_vi (x1)), (zq_vi (x2))]) (st' := [(zq_vi (x2)), (.ref (232))]) (fun _ _ _ => rfl) ?_
    refine zq_putf_i (j := 43) rfl zq_a232 rfl rfl rfl hx2 ?_
    refine zq_run 1 (pc' := 18) (L' := [(.ref (232)), (zq_vi (x1)), (zq_vi (x2))]) (st' := [(zq_vi (0))]) (fun _ _ _ => rfl) ?_
    exact zq_iret rfl rfl (congrArg Value.int (zq_nb (of_decide_eq_true rfl))) (⟨_, rfl, (of_decide_eq_true rfl), w⟩)
set_option maxRecDepth 100000 in
/-- PaperObjectsModel.readTable(IZ)I -/
theorem zw_207 {X : Nat × (Nat → Int32)} {s : zq_S} {K : Int → zq_S → Prop} {x1 : Int} (hx1 : zq_iv x1) {x2 : Int} (hx2 : zq_bo x2) (w : (zq_iv (x1 + 5) ∧ (zq_Ex X 164 0 [(.ref (232)), (zq_vi (1)), (zq_vi (x1)), (zq_vi (120)), (zq_vi (114)), (zq_vi (101)), (zq_vi (102))] [] (zq_si s (232) (25) (x1 + 5)) (zq_rp zq_bo fun x_3 s_2 => (if x_3 = 0 then K ((-2000000)) s_2 else (zq_Ex X 147 0 [(.ref (232)), (zq_vi (1)), (zq_vi (x1 + 4))] [] s_2 (zq_rp zq_ch fun x_7 s_6 => (if x_7 = 10 then (zq_Ex X 208 0 [(.ref (232)), zz_no, zz_no, zz_no] [] s_6 (zq_rp zq_bo fun x_11 s_10 => (if x_11 = 0 then K ((-2000000)) s_10 else (zq_Ex X 164 0 [(.ref (232)), (zq_vi (1)), (zq_vi (zq_i s_10 (232) (25))), (zq_vi (116)), (zq_vi (114)), (zq_vi (97)), (zq_vi (105))] [] s_10 (zq_rp zq_bo fun x_16 s_15 => (if x_16 = 0 then K ((-2000000)) s_15 else (zq_Ex X 164 0 [(.ref (232)), (zq_vi (1)), (zq_vi ((zq_i s_15 (232) (25)) + 4)), (zq_vi (108)), (zq_vi (101)), (zq_vi (114)), (zq_vi (10))] [] s_15 (zq_rp zq_bo fun x_21 s_20 => (if x_21 = 0 then K ((-2000000)) s_20 else (zq_Ex X 145 0 [(.ref (232)), (zq_vi (1)), (zq_vi ((zq_i s_20 (232) (25)) + 8)), zz_no, zz_no] [] s_20 (zq_rv fun s_25 => (zq_Ex X 210 0 [(.ref (232)), zz_no] [] s_25 (zq_rv fun s_26 => (if zq_i s_26 (232) (26) < 0 then (zq_Ex X 159 0 [(.ref (232)), (zq_vi (2)), (zq_vi (0)), zz_no, zz_no] [] s_26 (zq_rp zq_iv fun x_30 s_29 => (if x_30 = 7 then (zq_Ex X 175 0 [(.ref (232)), (zq_vi (2)), (zq_vi (0)), (.ref (257)), (zq_vi (4)), zz_no, zz_no, zz_no, zz_no] [] s_29 (zq_rp zq_iv fun x_34 s_33 => (zq_Ex X 175 0 [(.ref (232)), (zq_vi (2)), (zq_vi (0)), (.ref (258)), (zq_vi (4)), zz_no, zz_no, zz_no, zz_no] [] s_33 (zq_rp zq_iv fun x_37 s_36 => (if x_34 < 0 then K ((-2000000)) s_36 else (zq_Ex X 159 0 [(.ref (232)), (zq_vi (2)), (zq_vi (x_34)), zz_no, zz_no] [] s_36 (zq_rp zq_iv fun x_41 s_40 => (if x_41 = 8 then (if x_37 < 0 then zq_Ex X 207 211 [(.ref (232)), (zq_vi (x1)), (zq_vi (x2)), (zq_vi (1)), (zq_vi (x_34)), (zq_vi (x_37)), zz_no] [] s_40 (zq_rp zq_iv K) else (zq_Ex X 159 0 [(.ref (232)), (zq_vi (2)), (zq_vi (x_37)), zz_no, zz_no] [] s_40 (zq_rp zq_iv fun x_46 s_45 => (if x_46 = 3 then zq_Ex X 207 211 [(.ref (232)), (zq_vi (x1)), (zq_vi (x2)), (zq_vi (1)), (zq_vi (x_34)), (zq_vi (x_37)), zz_no] [] s_45 (zq_rp zq_iv K) else K ((-2000000)) s_45)))) else K ((-2000000)) s_40)))))))) else K ((-2000000)) s_29))) else K ((-2000000)) s_26)))))))))))))) else K ((-2000000)) s_6)))))))) : zq_Ex X 207 0 [(.ref (232)), (zq_vi (x1)), (zq_vi (x2)), zz_no, zz_no, zz_no, zz_no] [] s (zq_rp zq_iv K) := by
  refine zq_run 3 (pc' := 3) (L' := [(.ref (232)), (zq_vi (x1)), (zq_vi (x2)), zz_no, zz_no, zz_no, zz_no]) (st' := [(zq_vi (5)), (zq_vi (x1)), (.ref (232))]) (fun _ _ _ => rfl) ?_
  refine zq_iadd rfl ?_
  obtain ⟨g_1, w⟩ := w
  refine zq_putf_i (j := 25) rfl zq_a232 rfl rfl rfl g_1 ?_
  refine zq_run 7 (pc' := 18) (L' := [(.ref (232)), (zq_vi (x1)), (zq_vi (x2)), zz_no, zz_no, zz_no, zz_no]) (st' := [(zq_vi (102)), (zq_vi (101)), (zq_vi (114)), (zq_vi (120)), (zq_vi (x1)), (zq_vi (1)), (.ref (232))]) (fun _ _ _ => rfl) ?_
  refine zq_call_i (i := .invokevirtual 154) (r := [1, 164, 6, 1, 9]) rfl rfl (fun h hp => zr_avv rfl (hp.obj zq_a232)) (of_decide_eq_false rfl) w (fun x_3 s_2 hx_4 w => ?_)
  refine zq_eq0 rfl (zq_bo_in hx_4) (fun hb_5 => ?_) (fun hb_5 => ?_)
  · rw [if_pos hb_5] at w
    refine zq_run 3 (pc' := 51) (L' := [(.ref (232)), (zq_vi (x1)), (zq_vi (x2)), (zq_vi (0)), zz_no, zz_no, zz_no]) (st' := [(zq_vi (0))]) (fun _ _ _ => rfl) ?_
    refine zq_eq0 rfl (of_decide_eq_true rfl) (fun _ => ?_) (fun hb => absurd (by decide) hb)
    refine zq_run 3 (pc' := 103) (L' := [(.ref (232)), (zq_vi (x1)), (zq_vi (x2)), (zq_vi (0)), zz_no, zz_no, zz_no]) (st' := [(zq_vi (0))]) (fun _ _ _ => rfl) ?_
    refine zq_ne0 rfl (of_decide_eq_true rfl) (fun hb => absurd (by decide) hb) (fun _ => ?_)
    refine zq_run 1 (pc' := 109) (L' := [(.ref (232)), (zq_vi (x1)), (zq_vi (x2)), (zq_vi (0)), zz_no, zz_no, zz_no]) (st' := [(zq_vi ((-2000000)))]) (fun _ _ _ => rfl) ?_
    exact zq_iret rfl rfl rfl (⟨_, rfl, (of_decide_eq_true rfl), w⟩)
  · rw [if_neg hb_5] at w
    refine zq_run 4 (pc' := 28) (L' := [(.ref (232)), (zq_vi (x1)), (zq_vi (x2)), zz_no, zz_no, zz_no, zz_no]) (st' := [(zq_vi (4)), (zq_vi (x1)), (zq_vi (1)), (.ref (232))]) (fun _ _ _ => rfl) ?_
    refine zq_iadd rfl ?_
    refine zq_call_i (i := .invokevirtual 119) (r := [1, 147, 2, 1, 9]) rfl rfl (fun h hp => zr_avv rfl (hp.obj zq_a232)) (of_decide_eq_false rfl) w (fun x_7 s_6 hx_8 w => ?_)
    refine zq_run 1 (pc' := 34) (L' := [(.ref (232)), (zq_vi (x1)), (zq_vi (x2)), zz_no, zz_no, zz_no, zz_no]) (st' := [(zq_vi (10)), (zq_vi (x_7))]) (fun _ _ _ => rfl) ?_
    refine zq_ne rfl (zq_ch_in hx_8) (of_decide_eq_true rfl) (fun hb_9 => ?_) (fun hb_9 => ?_)
    · rw [if_neg hb_9] at w
      refine zq_run 3 (pc' := 51) (L' := [(.ref (232)), (zq_vi (x1)), (zq_vi (x2)), (zq_vi (0)), zz_no, zz_no, zz_no]) (st' := [(zq_vi (0))]) (fun _ _ _ => rfl) ?_
      refine zq_eq0 rfl (of_decide_eq_true rfl) (fun _ => ?_) (fun hb => absurd (by decide) hb)
      refine zq_run 3 (pc' := 103) (L' := [(.ref (232)), (zq_vi (x1)), (zq_vi (x2)), (zq_vi (0)), zz_no, zz_no, zz_no]) (st' := [(zq_vi (0))]) (fun _ _ _ => rfl) ?_
      refine zq_ne0 rfl (of_decide_eq_true rfl) (fun hb => absurd (by decide) hb) (fun _ => ?_)
      refine zq_run 1 (pc' := 109) (L' := [(.ref (232)), (zq_vi (x1)), (zq_vi (x2)), (zq_vi (0)), zz_no, zz_no, zz_no]) (st' := [(zq_vi ((-2000000)))]) (fun _ _ _ => rfl) ?_
      exact zq_iret rfl rfl rfl (⟨_, rfl, (of_decide_eq_true rfl), w⟩)
    · rw [if_pos hb_9] at w
      refine zq_run 1 (pc' := 38) (L' := [(.ref (232)), (zq_vi (x1)), (zq_vi (x2)), zz_no, zz_no, zz_no, zz_no]) (st' := [(.ref (232))]) (fun _ _ _ => rfl) ?_
      refine zq_call_i (i := .invokevirtual 346) (r := [1, 208, 0, 1, 9]) rfl rfl (fun h hp => zr_avv rfl (hp.obj zq_a232)) (of_decide_eq_false rfl) w (fun x_11 s_10 hx_12 w => ?_)
      refine zq_eq0 rfl (zq_bo_in hx_12) (fun hb_13 => ?_) (fun hb_13 => ?_)
      · rw [if_pos hb_13] at w
        refine zq_run 3 (pc' := 51) (L' := [(.ref (232)), (zq_vi (x1)), (zq_vi (x2)), (zq_vi (0)), zz_no, zz_no, zz_no]) (st' := [(zq_vi (0))]) (fun _ _ _ => rfl) ?_
        refine zq_eq0 rfl (of_decide_eq_true rfl) (fun _ => ?_) (fun hb => absurd (by decide) hb)
        refine zq_run 3 (pc' := 103) (L' := [(.ref (232)), (zq_vi (x1)), (zq_vi (x2)), (zq_vi (0)), zz_no, zz_no, zz_no]) (st' := [(zq_vi (0))]) (fun _ _ _ => rfl) ?_
        refine zq_ne0 rfl (of_decide_eq_true rfl) (fun hb => absurd (by decide) hb) (fun _ => ?_)
        refine zq_run 1 (pc' := 109) (L' := [(.ref (232)), (zq_vi (x1)), (zq_vi (x2)), (zq_vi (0)), zz_no, zz_no, zz_no]) (st' := [(zq_vi ((-2000000)))]) (fun _ _ _ => rfl) ?_
        exact zq_iret rfl rfl rfl (⟨_, rfl, (of_decide_eq_true rfl), w⟩)
      · rw [if_neg hb_13] at w
        refine zq_run 4 (pc' := 51) (L' := [(.ref (232)), (zq_vi (x1)), (zq_vi (x2)), (zq_vi (1)), zz_no, zz_no, zz_no]) (st' := [(zq_vi (1))]) (fun _ _ _ => rfl) ?_
        refine zq_eq0 rfl (of_decide_eq_true rfl) (fun hb => absurd hb (by decide)) (fun _ => ?_)
        refine zq_run 3 (pc' := 57) (L' := [(.ref (232)), (zq_vi (x1)), (zq_vi (x2)), (zq_vi (1)), zz_no, zz_no, zz_no]) (st' := [(.ref (232)), (zq_vi (1)), (.ref (232))]) (fun _ _ _ => rfl) ?_
        refine zq_have (fun hR_14 => ?_)
        refine zq_getf_i (j := 25) (v := zq_i s_10 (232) (25)) rfl zq_a232 rfl rfl rfl ?_
        refine zq_run 4 (pc' := 68) (L' := [(.ref (232)), (zq_vi (x1)), (zq_vi (x2)), (zq_vi (1)), zz_no, zz_no, zz_no]) (st' := [(zq_vi (105)), (zq_vi (97)), (zq_vi (114)), (zq_vi (116)), (zq_vi (zq_i s_10 (232) (25))), (zq_vi (1)), (.ref (232))]) (fun _ _ _ => rfl) ?_
        refine zq_call_i (i := .invokevirtual 154) (r := [1, 164, 6, 1, 9]) rfl rfl (fun h hp => zr_avv rfl (hp.obj zq_a232)) (of_decide_eq_false rfl) w (fun x_16 s_15 hx_17 w => ?_)
        refine zq_eq0 rfl (zq_bo_in hx_17) (fun hb_18 => ?_) (fun hb_18 => ?_)
        · rw [if_pos hb_18] at w
          refine zq_run 3 (pc' := 103) (L' := [(.ref (232)), (zq_vi (x1)), (zq_vi (x2)), (zq_vi (0)), zz_no, zz_no, zz_no]) (st' := [(zq_vi (0))]) (fun _ _ _ => rfl) ?_
          refine zq_ne0 rfl (of_decide_eq_true rfl) (fun hb => absurd (by decide) hb) (fun _ => ?_)
          refine zq_run 1 (pc' := 109) (L' := [(.ref (232)), (zq_vi (x1)), (zq_vi (x2)), (zq_vi (0)), zz_no, zz_no, zz_no]) (st' := [(zq_vi ((-2000000)))]) (fun _ _ _ => rfl) ?_
          exact zq_iret rfl rfl rfl (⟨_, rfl, (of_decide_eq_true rfl), w⟩)
        · rw [if_neg hb_18] at w
          refine zq_run 3 (pc' := 77) (L' := [(.ref (232)), (zq_vi (x1)), (zq_vi (x2)), (zq_vi (1)), zz_no, zz_no, zz_no]) (st' := [(.ref (232)), (zq_vi (1)), (.ref (232))]) (fun _ _ _ => rfl) ?_
          refine zq_have (fun hR_19 => ?_)
          refine zq_getf_i (j := 25) (v := zq_i s_15 (232) (25)) rfl zq_a232 rfl rfl rfl ?_
          refine zq_run 1 (pc' := 81) (L' := [(.ref (232)), (zq_vi (x1)), (zq_vi (x2)), (zq_vi (1)), zz_no, zz_no, zz_no]) (st' := [(zq_vi (4)), (zq_vi (zq_i s_15 (232) (25))), (zq_vi (1)), (.ref (232))]) (fun _ _ _ => rfl) ?_
          refine zq_iadd rfl ?_
          refine zq_run 4 (pc' := 90) (L' := [(.ref (232)), (zq_vi (x1)), (zq_vi (x2)), (zq_vi (1)), zz_no, zz_no, zz_no]) (st' := [(zq_vi (10)), (zq_vi (114)), (zq_vi (101)), (zq_vi (108)), (zq_vi ((zq_i s_15 (232) (25)) + 4)), (zq_vi (1)), (.ref (232))]) (fun _ _ _ => rfl) ?_
          refine zq_call_i (i := .invokevirtual 154) (r := [1, 164, 6, 1, 9]) rfl rfl (fun h hp => zr_avv rfl (hp.obj zq_a232)) (of_decide_eq_false rfl) w (fun x_21 s_20 hx_22 w => ?_)
          refine zq_eq0 rfl (zq_bo_in hx_22) (fun hb_23 => ?_) (fun hb_23 => ?_)
          · rw [if_pos hb_23] at w
            refine zq_run 3 (pc' := 103) (L' := [(.ref (232)), (zq_vi (x1)), (zq_vi (x2)), (zq_vi (0)), zz_no, zz_no, zz_no]) (st' := [(zq_vi (0))]) (fun _ _ _ => rfl) ?_
            refine zq_ne0 rfl (of_decide_eq_true rfl) (fun hb => absurd (by decide) hb) (fun _ => ?_)
            refine zq_run 1 (pc' := 109) (L' := [(.ref (232)), (zq_vi (x1)), (zq_vi (x2)), (zq_vi (0)), zz_no, zz_no, zz_no]) (st' := [(zq_vi ((-2000000)))]) (fun _ _ _ => rfl) ?_
            exact zq_iret rfl rfl rfl (⟨_, rfl, (of_decide_eq_true rfl), w⟩)
          · rw [if_neg hb_23] at w
            refine zq_run 4 (pc' := 103) (L' := [(.ref (232)), (zq_vi (x1)), (zq_vi (x2)), (zq_vi (1)), zz_no, zz_no, zz_no]) (st' := [(zq_vi (1))]) (fun _ _ _ => rfl) ?_
            refine zq_ne0 rfl (of_decide_eq_true rfl) (fun _ => ?_) (fun hb => absurd hb (by decide))
            refine zq_run 3 (pc' := 113) (L' := [(.ref (232)), (zq_vi (x1)), (zq_vi (x2)), (zq_vi (1)), zz_no, zz_no, zz_no]) (st' := [(.ref (232)), (zq_vi (1)), (.ref (232))]) (fun _ _ _ => rfl) ?_
            refine zq_have (fun hR_24 => ?_)
            refine zq_getf_i (j := 25) (v := zq_i s_20 (232) (25)) rfl zq_a232 rfl rfl rfl ?_
            refine zq_run 1 (pc' := 118) (L' := [(.ref (232)), (zq_vi (x1)), (zq_vi (x2)), (zq_vi (1)), zz_no, zz_no, zz_no]) (st' := [(zq_vi (8)), (zq_vi (zq_i s_20 (232) (25))), (zq_vi (1)), (.ref (232))]) (fun _ _ _ => rfl) ?_
            refine zq_iadd rfl ?_
            refine zq_call_v (i := .invokevirtual 266) (r := [1, 145, 2, 1, 9]) rfl rfl (fun h hp => zr_avv rfl (hp.obj zq_a232)) (of_decide_eq_false rfl) w (fun s_25 w => ?_)
            refine zq_run 1 (pc' := 123) (L' := [(.ref (232)), (zq_vi (x1)), (zq_vi (x2)), (zq_vi (1)), zz_no, zz_no, zz_no]) (st' := [(.ref (232))]) (fun _ _ _ => rfl) ?_
            refine zq_call_v (i := .invokevirtual 351) (r := [1, 210, 0, 1, 9]) rfl rfl (fun h hp => zr_avv rfl (hp.obj zq_a232)) (of_decide_eq_false rfl) w (fun s_26 w => ?_)
            refine zq_run 1 (pc' := 127) (L' := [(.ref (232)), (zq_vi (x1)), (zq_vi (x2)), (zq_vi (1)), zz_no, zz_no, zz_no]) (st' := [(.ref (232))]) (fun _ _ _ => rfl) ?_
            refine zq_have (fun hR_27 => ?_)
            refine zq_getf_i (j := 26) (v := zq_i s_26 (232) (26)) rfl zq_a232 rfl rfl rfl ?_
            refine zq_ge0 rfl (hR_27.1 _ _) (fun hb_28 => ?_) (fun hb_28 => ?_)
            · rw [if_neg hb_28] at w
              refine zq_run 1 (pc' := 147) (L' := [(.ref (232)), (zq_vi (x1)), (zq_vi (x2)), (zq_vi (1)), zz_no, zz_no, zz_no]) (st' := [(zq_vi ((-2000000)))]) (fun _ _ _ => rfl) ?_
              exact zq_iret rfl rfl rfl (⟨_, rfl, (of_decide_eq_true rfl), w⟩)
            · rw [if_pos hb_28] at w
              refine zq_run 3 (pc' := 136) (L' := [(.ref (232)), (zq_vi (x1)), (zq_vi (x2)), (zq_vi (1)), zz_no, zz_no, zz_no]) (st' := [(zq_vi (0)), (zq_vi (2)), (.ref (232))]) (fun _ _ _ => rfl) ?_
              refine zq_call_i (i := .invokevirtual 202) (r := [1, 159, 2, 1, 9]) rfl rfl (fun h hp => zr_avv rfl (hp.obj zq_a232)) (of_decide_eq_false rfl) w (fun x_30 s_29 hx_31 w => ?_)
              refine zq_run 1 (pc' := 141) (L' := [(.ref (232)), (zq_vi (x1)), (zq_vi (x2)), (zq_vi (1)), zz_no, zz_no, zz_no]) (st' := [(zq_vi (7)), (zq_vi (x_30))]) (fun _ _ _ => rfl) ?_
              refine zq_eq rfl hx_31 (of_decide_eq_true rfl) (fun hb_32 => ?_) (fun hb_32 => ?_)
              · rw [if_pos hb_32] at w
                refine zq_run 4 (pc' := 152) (L' := [(.ref (232)), (zq_vi (x1)), (zq_vi (x2)), (zq_vi (1)), zz_no, zz_no, zz_no]) (st' := [(.ref (232)), (zq_vi (0)), (zq_vi (2)), (.ref (232))]) (fun _ _ _ => rfl) ?_
                refine zq_getf_f (b := 257) rfl zq_a232 rfl rfl ?_
                refine zq_run 1 (pc' := 156) (L' := [(.ref (232)), (zq_vi (x1)), (zq_vi (x2)), (zq_vi (1)), zz_no, zz_no, zz_no]) (st' := [(zq_vi (4)), (.ref (257)), (zq_vi (0)), (zq_vi (2)), (.ref (232))]) (fun _ _ _ => rfl) ?_
                refine zq_call_i (i := .invokevirtual 275) (r := [1, 175, 4, 1, 9]) rfl rfl (fun h hp => zr_avv rfl (hp.obj zq_a232)) (of_decide_eq_false rfl) w (fun x_34 s_33 hx_35 w => ?_)
                refine zq_run 5 (pc' := 165) (L' := [(.ref (232)), (zq_vi (x1)), (zq_vi (x2)), (zq_vi (1)), (zq_vi (x_34)), zz_no, zz_no]) (st' := [(.ref (232)), (zq_vi (0)), (zq_vi (2)), (.ref (232))]) (fun _ _ _ => rfl) ?_
                refine zq_getf_f (b := 258) rfl zq_a232 rfl rfl ?_
                refine zq_run 1 (pc' := 169) (L' := [(.ref (232)), (zq_vi (x1)), (zq_vi (x2)), (zq_vi (1)), (zq_vi (x_34)), zz_no, zz_no]) (st' := [(zq_vi (4)), (.ref (258)), (zq_vi (0)), (zq_vi (2)), (.ref (232))]) (fun _ _ _ => rfl) ?_
                refine zq_call_i (i := .invokevirtual 275) (r := [1, 175, 4, 1, 9]) rfl rfl (fun h hp => zr_avv rfl (hp.obj zq_a232)) (of_decide_eq_false rfl) w (fun x_37 s_36 hx_38 w => ?_)
                refine zq_run 2 (pc' := 176) (L' := [(.ref (232)), (zq_vi (x1)), (zq_vi (x2)), (zq_vi (1)), (zq_vi (x_34)), (zq_vi (x_37)), zz_no]) (st' := [(zq_vi (x_34))]) (fun _ _ _ => rfl) ?_
                refine zq_lt0 rfl hx_35 (fun hb_39 => ?_) (fun hb_39 => ?_)
                · rw [if_pos hb_39] at w
                  refine zq_run 1 (pc' := 210) (L' := [(.ref (232)), (zq_vi (x1)), (zq_vi (x2)), (zq_vi (1)), (zq_vi (x_34)), (zq_vi (x_37)), zz_no]) (st' := [(zq_vi ((-2000000)))]) (fun _ _ _ => rfl) ?_
                  exact zq_iret rfl rfl rfl (⟨_, rfl, (of_decide_eq_true rfl), w⟩)
                · rw [if_neg hb_39] at w
                  refine zq_run 3 (pc' := 183) (L' := [(.ref (232)), (zq_vi (x1)), (zq_vi (x2)), (zq_vi (1)), (zq_vi (x_34)), (zq_vi (x_37)), zz_no]) (st' := [(zq_vi (x_34)), (zq_vi (2)), (.ref (232))]) (fun _ _ _ => rfl) ?_
                  refine zq_call_i (i := .invokevirtual 202) (r := [1, 159, 2, 1, 9]) rfl rfl (fun h hp => zr_avv rfl (hp.obj zq_a232)) (of_decide_eq_false rfl) w (fun x_41 s_40 hx_42 w => ?_)
                  refine zq_run 1 (pc' := 188) (L' := [(.ref (232)), (zq_vi (x1)), (zq_vi (x2)), (zq_vi (1)), (zq_vi (x_34)), (zq_vi (x_37)), zz_no]) (st' := [(zq_vi (8)), (zq_vi (x_41))]) (fun _ _ _ => rfl) ?_
                  refine zq_ne rfl hx_42 (of_decide_eq_true rfl) (fun hb_43 => ?_) (fun hb_43 => ?_)
                  · rw [if_neg hb_43] at w
                    refine zq_run 1 (pc' := 210) (L' := [(.ref (232)), (zq_vi (x1)), (zq_vi (x2)), (zq_vi (1)), (zq_vi (x_34)), (zq_vi (x_37)), zz_no]) (st' := [(zq_vi ((-2000000)))]) (fun _ _ _ => rfl) ?_
                    exact zq_iret rfl rfl rfl (⟨_, rfl, (of_decide_eq_true rfl), w⟩)
                  · rw [if_pos hb_43] at w
                    refine zq_run 1 (pc' := 193) (L' := [(.ref (232)), (zq_vi (x1)), (zq_vi (x2)), (zq_vi (1)), (zq_vi (x_34)), (zq_vi (x_37)), zz_no]) (st' := [(zq_vi (x_37))]) (fun _ _ _ => rfl) ?_
                    refine zq_lt0 rfl hx_38 (fun hb_44 => ?_) (fun hb_44 => ?_)
                    · rw [if_pos hb_44] at w
                      exact w
                    · rw [if_neg hb_44] at w
                      refine zq_run 3 (pc' := 200) (L' := [(.ref (232)), (zq_vi (x1)), (zq_vi (x2)), (zq_vi (1)), (zq_vi (x_34)), (zq_vi (x_37)), zz_no]) (st' := [(zq_vi (x_37)), (zq_vi (2)), (.ref (232))]) (fun _ _ _ => rfl) ?_
                      refine zq_call_i (i := .invokevirtual 202) (r := [1, 159, 2, 1, 9]) rfl rfl (fun h hp => zr_avv rfl (hp.obj zq_a232)) (of_decide_eq_false rfl) w (fun x_46 s_45 hx_47 w => ?_)
                      refine zq_run 1 (pc' := 204) (L' := [(.ref (232)), (zq_vi (x1)), (zq_vi (x2)), (zq_vi (1)), (zq_vi (x_34)), (zq_vi (x_37)), zz_no]) (st' := [(zq_vi (3)), (zq_vi (x_46))]) (fun _ _ _ => rfl) ?_
                      refine zq_eq rfl hx_47 (of_decide_eq_true rfl) (fun hb_48 => ?_) (fun hb_48 => ?_)
                      · rw [if_pos hb_48] at w
                        exact w
                      · rw [if_neg hb_48] at w
                        refine zq_run 1 (pc' := 210) (L' := [(.ref (232)), (zq_vi (x1)), (zq_vi (x2)), (zq_vi (1)), (zq_vi (x_34)), (zq_vi (x_37)), zz_no]) (st' := [(zq_vi ((-2000000)))]) (fun _ _ _ => rfl) ?_
                        exact zq_iret rfl rfl rfl (⟨_, rfl, (of_decide_eq_true rfl), w⟩)
              · rw [if_neg hb_32] at w
                refine zq_run 1 (pc' := 147) (L' := [(.ref (232)), (zq_vi (x1)), (zq_vi (x2)), (zq_vi (1)), zz_no, zz_no, zz_no]) (st' := [(zq_vi ((-2000000)))]) (fun _ _ _ => rfl) ?_
                exact zq_iret rfl rfl rfl (⟨_, rfl, (of_decide_eq_true rfl), w⟩)
set_option maxRecDepth 100000 in
/-- PaperObjectsModel.readTable at 211 -/
theorem zw_207_211 {X : Nat × (Nat → Int32)} {s : zq_S} {K : Int → zq_S → Prop} {x1 : Int} (hx1 : zq_iv x1) {x2 : Int} (hx2 : zq_bo x2) {x3 : Int} (hx3 : zq_bo x3) {x4 : Int} (hx4 : zq_iv x4) {x5 : Int} (hx5 : zq_iv x5) {v6 : Value} (hv6 : v6.category = 1) (w : (if x2 = 0 then zq_Ex X 207 237 [(.ref (232)), (zq_vi (x1)), (zq_vi (x2)), (zq_vi (x3)), (zq_vi (x4)), (zq_vi (x5)), v6] [] s (zq_rp zq_iv K) else (zq_Ex X 189 0 [(.ref (232)), (zq_vi (2)), (zq_vi (x4))] [] s (zq_rp zq_iv fun x_3 s_2 => (zq_Ex X 190 0 [(.ref (232)), (zq_vi (2)), (zq_vi (x4))] [] (zq_si s_2 (232) (41) (x_3)) (zq_rp zq_iv fun x_6 s_5 => zq_Ex X 207 237 [(.ref (232)), (zq_vi (x1)), (zq_vi (x2)), (zq_vi (x3)), (zq_vi (x4)), (zq_vi (x5)), v6] [] (zq_si s_5 (232) (42) (x_6)) (zq_rp zq_iv K))))))) : zq_Ex X 207 211 [(.ref (232)), (zq_vi (x1)), (zq_vi (x2)), (zq_vi (x3)), (zq_vi (x4)), (zq_vi (x5)), v6] [] s (zq_rp zq_iv K) := by
  refine zq_run 1 (pc' := 212) (L' := [(.ref (232)), (zq_vi (x1)), (zq_vi (x2)), (zq_vi (x3)), (zq_vi (x4)), (zq_vi (x5)), v6]) (st' := [(zq_vi (x2))]) (fun _ _ _ => rfl) ?_
  refine zq_eq0 rfl (zq_bo_in hx2) (fun hb_1 => ?_) (fun hb_1 => ?_)
  · rw [if_pos hb_1] at w
    exact w
  · rw [if_neg hb_1] at w
    refine zq_run 4 (pc' := 220) (L' := [(.ref (232)), (zq_vi (x1)), (zq_vi (x2)), (zq_vi (x3)), (zq_vi (x4)), (zq_vi (x5)), v6]) (st' := [(zq_vi (x4)), (zq_vi (2)), (.ref (232)), (.ref (232))]) (fun _ _ _ => rfl) ?_
    refine zq_call_i (i := .invokevirtual 243) (r := [1, 189, 2, 1, 9]) rfl rfl (fun h hp => zr_avv rfl (hp.obj zq_a232)) (of_decide_eq_false rfl) w (fun x_3 s_2 hx_4 w => ?_)
    refine zq_putf_i (j := 41) rfl zq_a232 rfl rfl rfl hx_4 ?_
    refine zq_run 4 (pc' := 231) (L' := [(.ref (232)), (zq_vi (x1)), (zq_vi (x2)), (zq_vi (x3)), (zq_vi (x4)), (zq_vi (x5)), v6]) (st' := [(zq_vi (x4)), (zq_vi (2)), (.ref (232)), (.ref (232))]) (fun _ _ _ => rfl) ?_
    refine zq_call_i (i := .invokevirtual 246) (r := [1, 190, 2, 1, 9]) rfl rfl (fun h hp => zr_avv rfl (hp.obj zq_a232)) (of_decide_eq_false rfl) w (fun x_6 s_5 hx_7 w => ?_)
    refine zq_putf_i (j := 42) rfl zq_a232 rfl rfl rfl hx_7 ?_
    exact w
set_option maxRecDepth 100000 in
/-- PaperObjectsModel.readTable at 237 -/
theorem zw_207_237 {X : Nat × (Nat → Int32)} {s : zq_S} {K : Int → zq_S → Prop} {x1 : Int} (hx1 : zq_iv x1) {x2 : Int} (hx2 : zq_bo x2) {x3 : Int} (hx3 : zq_bo x3) {x4 : Int} (hx4 : zq_iv x4) {x5 : Int} (hx5 : zq_iv x5) {v6 : Value} (hv6 : v6.category = 1) (w : (if x5 < 0 then K ((-1000001)) s else (zq_Ex X 161 0 [(.ref (232)), (zq_vi (2)), (zq_vi (x5)), zz_no] [] s (zq_rp zq_iv fun x_3 s_2 => (zq_Ex X 167 0 [(.ref (232)), (zq_vi (2)), (zq_vi (x5)), (zq_vi (x_3)), zz_no, zz_no, zz_no] [] s_2 (zq_rp zq_iv fun x_6 s_5 => K (x_6) s_5)))))) : zq_Ex X 207 237 [(.ref (232)), (zq_vi (x1)), (zq_vi (x2)), (zq_vi (x3)), (zq_vi (x4)), (zq_vi (x5)), v6] [] s (zq_rp zq_iv K) := by
  refine zq_run 1 (pc' := 239) (L' := [(.ref (232)), (zq_vi (x1)), (zq_vi (x2)), (zq_vi (x3)), (zq_vi (x4)), (zq_vi (x5)), v6]) (st' := [(zq_vi (x5))]) (fun _ _ _ => rfl) ?_
  refine zq_ge0 rfl hx5 (fun hb_1 => ?_) (fun hb_1 => ?_)
  · rw [if_neg hb_1] at w
    refine zq_run 3 (pc' := 250) (L' := [(.ref (232)), (zq_vi (x1)), (zq_vi (x2)), (zq_vi (x3)), (zq_vi (x4)), (zq_vi (x5)), v6]) (st' := [(zq_vi (x5)), (zq_vi (2)), (.ref (232))]) (fun _ _ _ => rfl) ?_
    refine zq_call_i (i := .invokevirtual 134) (r := [1, 161, 2, 1, 9]) rfl rfl (fun h hp => zr_avv rfl (hp.obj zq_a232)) (of_decide_eq_false rfl) w (fun x_3 s_2 hx_4 w => ?_)
    refine zq_run 5 (pc' := 261) (L' := [(.ref (232)), (zq_vi (x1)), (zq_vi (x2)), (zq_vi (x3)), (zq_vi (x4)), (zq_vi (x5)), (zq_vi (x_3))]) (st' := [(zq_vi (x_3)), (zq_vi (x5)), (zq_vi (2)), (.ref (232))]) (fun _ _ _ => rfl) ?_
    refine zq_call_i (i := .invokevirtual 162) (r := [1, 167, 3, 1, 9]) rfl rfl (fun h hp => zr_avv rfl (hp.obj zq_a232)) (of_decide_eq_false rfl) w (fun x_6 s_5 hx_7 w => ?_)
    exact zq_iret rfl rfl rfl (⟨_, rfl, hx_7, w⟩)
  · rw [if_pos hb_1] at w
    refine zq_run 1 (pc' := 245) (L' := [(.ref (232)), (zq_vi (x1)), (zq_vi (x2)), (zq_vi (x3)), (zq_vi (x4)), (zq_vi (x5)), v6]) (st' := [(zq_vi ((-1000001)))]) (fun _ _ _ => rfl) ?_
    exact zq_iret rfl rfl rfl (⟨_, rfl, (of_decide_eq_true rfl), w⟩)
set_option maxRecDepth 100000 in
/-- PaperObjectsModel.readSections()Z -/
theorem zw_208 {X : Nat × (Nat → Int32)} {s : zq_S} {K : Int → zq_S → Prop} {x1 : Int} (hx1 : zq_iv x1) {x2 : Int} (hx2 : zq_iv x2) {x3 : Int} (hx3 : zq_iv x3) (w : (zq_Ex X 147 0 [(.ref (232)), (zq_vi (1)), (zq_vi (zq_i s (232) (25)))] [] s (zq_rp zq_ch fun x_3 s_2 => (zq_Ex X 155 0 [(zq_vi (x_3))] [] s_2 (zq_rp zq_bo fun x_6 s_5 => (if x_6 = 0 then K (1) s_5 else (zq_Ex X 147 0 [(.ref (232)), (zq_vi (1)), (zq_vi (zq_i s_5 (232) (25)))] [] s_5 (zq_rp zq_ch fun x_11 s_10 => (zq_Ex X 147 0 [(.ref (232)), (zq_vi (1)), (zq_vi ((zq_i s_10 (232) (25)) + 2))] [] s_10 (zq_rp zq_ch fun x_15 s_14 => (zq_iv (x_11 - 48) ∧ (if x_11 - 48 < 1 then K (0) s_14 else (zq_Ex X 147 0 [(.ref (232)), (zq_vi (1)), (zq_vi ((zq_i s_14 (232) (25)) + 1))] [] s_14 (zq_rp zq_ch fun x_21 s_20 => (if x_21 = 32 then (zq_iv (x_15 - 48) ∧ (if x_15 - 48 < 1 then K (0) s_20 else (if x_15 - 48 ≤ 9 then (zq_Ex X 147 0 [(.ref (232)), (zq_vi (1)), (zq_vi ((zq_i s_20 (232) (25)) + 3))] [] s_20 (zq_rp zq_ch fun x_29 s_28 => (if x_29 = 10 then (zq_iv ((x_11 - 48) + (x_15 - 48)) ∧ (if (x_11 - 48) + (x_15 - 48) ≤ 10 then (zq_iv ((zq_i s_28 (232) (25)) + 4) ∧ zq_Ex X 208 113 [(.ref (232)), (zq_vi (x_11 - 48)), (zq_vi (x_15 - 48)), (zq_vi (x_11 - 48))] [] (zq_si s_28 (232) (25) ((zq_i s_28 (232) (25)) + 4)) (zq_rp zq_bo K)) else K (0) s_28)) else K (0) s_28))) else K (0) s_20))) else K (0) s_20))))))))))))))) : zq_Ex X 208 0 [(.ref (232)), (zq_vi (x1)), (zq_vi (x2)), (zq_vi (x3))] [] s (zq_rp zq_bo K) := by
  refine zq_run 3 (pc' := 3) (L' := [(.ref (232)), (zq_vi (x1)), (zq_vi (x2)), (zq_vi (x3))]) (st' := [(.ref (232)), (zq_vi (1)), (.ref (232))]) (fun _ _ _ => rfl) ?_
  refine zq_have (fun hR_1 => ?_)
  refine zq_getf_i (j := 25) (v := zq_i s (232) (25)) rfl zq_a232 rfl rfl rfl ?_
  refine zq_call_i (i := .invokevirtual 119) (r := [1, 147, 2, 1, 9]) rfl rfl (fun h hp => zr_avv rfl (hp.obj zq_a232)) (of_decide_eq_false rfl) w (fun x_3 s_2 hx_4 w => ?_)
  refine zq_call_i (i := .invokestatic 103) (r := [1, 155, 1, 0, 9]) rfl rfl (fun _ _ => rfl) (of_decide_eq_false rfl) w (fun x_6 s_5 hx_7 w => ?_)
  refine zq_eq0 rfl (zq_bo_in hx_7) (fun hb_8 => ?_) (fun hb_8 => ?_)
  · rw [if_pos hb_8] at w
    refine zq_run 1 (pc' := 140) (L' := [(.ref (232)), (zq_vi (x1)), (zq_vi (x2)), (zq_vi (x3))]) (st' := [(zq_vi (1))]) (fun _ _ _ => rfl) ?_
    exact zq_iret rfl rfl (congrArg Value.int (zq_nb (of_decide_eq_true rfl))) (⟨_, rfl, (of_decide_eq_true rfl), w⟩)
  · rw [if_neg hb_8] at w
    refine zq_run 3 (pc' := 18) (L' := [(.ref (232)), (zq_vi (x1)), (zq_vi (x2)), (zq_vi (x3))]) (st' := [(.ref (232)), (zq_vi (1)), (.ref (232))]) (fun _ _ _ => rfl) ?_
    refine zq_have (fun hR_9 => ?_)
    refine zq_getf_i (j := 25) (v := zq_i s_5 (232) (25)) rfl zq_a232 rfl rfl rfl ?_
    refine zq_call_i (i := .invokevirtual 119) (r := [1, 147, 2, 1, 9]) rfl rfl (fun h hp => zr_avv rfl (hp.obj zq_a232)) (of_decide_eq_false rfl) w (fun x_11 s_10 hx_12 w => ?_)
    refine zq_run 1 (pc' := 26) (L' := [(.ref (232)), (zq_vi (x1)), (zq_vi (x2)), (zq_vi (x3))]) (st' := [(zq_vi (48)), (zq_vi (x_11))]) (fun _ _ _ => rfl) ?_
    refine zq_isub rfl ?_
    refine zq_run 4 (pc' := 31) (L' := [(.ref (232)), (zq_vi (x_11 - 48)), (zq_vi (x2)), (zq_vi (x3))]) (st' := [(.ref (232)), (zq_vi (1)), (.ref (232))]) (fun _ _ _ => rfl) ?_
    refine zq_have (fun hR_13 => ?_)
    refine zq_getf_i (j := 25) (v := zq_i s_10 (232) (25)) rfl zq_a232 rfl rfl rfl ?_
    refine zq_run 1 (pc' := 35) (L' := [(.ref (232)), (zq_vi (x_11 - 48)), (zq_vi (x2)), (zq_vi (x3))]) (st' := [(zq_vi (2)), (zq_vi (zq_i s_10 (232) (25))), (zq_vi (1)), (.ref (232))]) (fun _ _ _ => rfl) ?_
    refine zq_iadd rfl ?_
    refine zq_call_i (i := .invokevirtual 119) (r := [1, 147, 2, 1, 9]) rfl rfl (fun h hp => zr_avv rfl (hp.obj zq_a232)) (of_decide_eq_false rfl) w (fun x_15 s_14 hx_16 w => ?_)
    refine zq_run 1 (pc' := 41) (L' := [(.ref (232)), (zq_vi (x_11 - 48)), (zq_vi (x2)), (zq_vi (x3))]) (st' := [(zq_vi (48)), (zq_vi (x_15))]) (fun _ _ _ => rfl) ?_
    refine zq_isub rfl ?_
    refine zq_run 3 (pc' := 45) (L' := [(.ref (232)), (zq_vi (x_11 - 48)), (zq_vi (x_15 - 48)), (zq_vi (x3))]) (st' := [(zq_vi (1)), (zq_vi (x_11 - 48))]) (fun _ _ _ => rfl) ?_
    obtain ⟨g_17, w⟩ := w
    refine zq_lt rfl g_17 (of_decide_eq_true rfl) (fun hb_18 => ?_) (fun hb_18 => ?_)
    · rw [if_pos hb_18] at w
      refine zq_run 1 (pc' := 100) (L' := [(.ref (232)), (zq_vi (x_11 - 48)), (zq_vi (x_15 - 48)), (zq_vi (x3))]) (st' := [(zq_vi (0))]) (fun _ _ _ => rfl) ?_
      exact zq_iret rfl rfl (congrArg Value.int (zq_nb (of_decide_eq_true rfl))) (⟨_, rfl, (of_decide_eq_true rfl), w⟩)
    · rw [if_neg hb_18] at w
      refine zq_run 3 (pc' := 51) (L' := [(.ref (232)), (zq_vi (x_11 - 48)), (zq_vi (x_15 - 48)), (zq_vi (x3))]) (st' := [(.ref (232)), (zq_vi (1)), (.ref (232))]) (fun _ _ _ => rfl) ?_
      refine zq_have (fun hR_19 => ?_)
      refine zq_getf_i (j := 25) (v := zq_i s_14 (232) (25)) rfl zq_a232 rfl rfl rfl ?_
      refine zq_run 1 (pc' := 55) (L' := [(.ref (232)), (zq_vi (x_11 - 48)), (zq_vi (x_15 - 48)), (zq_vi (x3))]) (st' := [(zq_vi (1)), (zq_vi (zq_i s_14 (232) (25))), (zq_vi (1)), (.ref (232))]) (fun _ _ _ => rfl) ?_
      refine zq_iadd rfl ?_
      refine zq_call_i (i := .invokevirtual 119) (r := [1, 147, 2, 1, 9]) rfl rfl (fun h hp => zr_avv rfl (hp.obj zq_a232)) (of_decide_eq_false rfl) w (fun x_21 s_20 hx_22 w => ?_)
      refine zq_run 1 (pc' := 61) (L' := [(.ref (232)), (zq_vi (x_11 - 48)), (zq_vi (x_15 - 48)), (zq_vi (x3))]) (st' := [(zq_vi (32)), (zq_vi (x_21))]) (fun _ _ _ => rfl) ?_
      refine zq_ne rfl (zq_ch_in hx_22) (of_decide_eq_true rfl) (fun hb_23 => ?_) (fun hb_23 => ?_)
      · rw [if_neg hb_23] at w
        refine zq_run 1 (pc' := 100) (L' := [(.ref (232)), (zq_vi (x_11 - 48)), (zq_vi (x_15 - 48)), (zq_vi (x3))]) (st' := [(zq_vi (0))]) (fun _ _ _ => rfl) ?_
        exact zq_iret rfl rfl (congrArg Value.int (zq_nb (of_decide_eq_true rfl))) (⟨_, rfl, (of_decide_eq_true rfl), w⟩)
      · rw [if_pos hb_23] at w
        refine zq_run 2 (pc' := 66) (L' := [(.ref (232)), (zq_vi (x_11 - 48)), (zq_vi (x_15 - 48)), (zq_vi (x3))]) (st' := [(zq_vi (1)), (zq_vi (x_15 - 48))]) (fun _ _ _ => rfl) ?_
        obtain ⟨g_24, w⟩ := w
        refine zq_lt rfl g_24 (of_decide_eq_true rfl) (fun hb_25 => ?_) (fun hb_25 => ?_)
        · rw [if_pos hb_25] at w
          refine zq_run 1 (pc' := 100) (L' := [(.ref (232)), (zq_vi (x_11 - 48)), (zq_vi (x_15 - 48)), (zq_vi (x3))]) (st' := [(zq_vi (0))]) (fun _ _ _ => rfl) ?_
          exact zq_iret rfl rfl (congrArg Value.int (zq_nb (of_decide_eq_true rfl))) (⟨_, rfl, (of_decide_eq_true rfl), w⟩)
        · rw [if_neg hb_25] at w
          refine zq_run 2 (pc' := 72) (L' := [(.ref (232)), (zq_vi (x_11 - 48)), (zq_vi (x_15 - 48)), (zq_vi (x3))]) (st' := [(zq_vi (9)), (zq_vi (x_15 - 48))]) (fun _ _ _ => rfl) ?_
          refine zq_gt rfl g_24 (of_decide_eq_true rfl) (fun hb_26 => ?_) (fun hb_26 => ?_)
          · rw [if_neg hb_26] at w
            refine zq_run 1 (pc' := 100) (L' := [(.ref (232)), (zq_vi (x_11 - 48)), (zq_vi (x_15 - 48)), (zq_vi (x3))]) (st' := [(zq_vi (0))]) (fun _ _ _ => rfl) ?_
            exact zq_iret rfl rfl (congrArg Value.int (zq_nb (of_decide_eq_true rfl))) (⟨_, rfl, (of_decide_eq_true rfl), w⟩)
          · rw [if_pos hb_26] at w
            refine zq_run 3 (pc' := 78) (L' := [(.ref (232)), (zq_vi (x_11 - 48)), (zq_vi (x_15 - 48)), (zq_vi (x3))]) (st' := [(.ref (232)), (zq_vi (1)), (.ref (232))]) (fun _ _ _ => rfl) ?_
            refine zq_have (fun hR_27 => ?_)
            refine zq_getf_i (j := 25) (v := zq_i s_20 (232) (25)) rfl zq_a232 rfl rfl rfl ?_
            refine zq_run 1 (pc' := 82) (L' := [(.ref (232)), (zq_vi (x_11 - 48)), (zq_vi (x_15 - 48)), (zq_vi (x3))]) (st' := [(zq_vi (3)), (zq_vi (zq_i s_20 (232) (25))), (zq_vi (1)), (.ref (232))]) (fun _ _ _ => rfl) ?_
            refine zq_iadd rfl ?_
            refine zq_call_i (i := .invokevirtual 119) (r := [1, 147, 2, 1, 9]) rfl rfl (fun h hp => zr_avv rfl (hp.obj zq_a232)) (of_decide_eq_false rfl) w (fun x_29 s_28 hx_30 w => ?_)
            refine zq_run 1 (pc' := 88) (L' := [(.ref (232)), (zq_vi (x_11 - 48)), (zq_vi (x_15 - 48)), (zq_vi (x3))]) (st' := [(zq_vi (10)), (zq_vi (x_29))]) (fun _ _ _ => rfl) ?_
            refine zq_ne rfl (zq_ch_in hx_30) (of_decide_eq_true rfl) (fun hb_31 => ?_) (fun hb_31 => ?_)
            · rw [if_neg hb_31] at w
              refine zq_run 1 (pc' := 100) (L' := [(.ref (232)), (zq_vi (x_11 - 48)), (zq_vi (x_15 - 48)), (zq_vi (x3))]) (st' := [(zq_vi (0))]) (fun _ _ _ => rfl) ?_
              exact zq_iret rfl rfl (congrArg Value.int (zq_nb (of_decide_eq_true rfl))) (⟨_, rfl, (of_decide_eq_true rfl), w⟩)
            · rw [if_pos hb_31] at w
              refine zq_run 2 (pc' := 93) (L' := [(.ref (232)), (zq_vi (x_11 - 48)), (zq_vi (x_15 - 48)), (zq_vi (x3))]) (st' := [(zq_vi (x_15 - 48)), (zq_vi (x_11 - 48))]) (fun _ _ _ => rfl) ?_
              refine zq_iadd rfl ?_
              refine zq_run 1 (pc' := 96) (L' := [(.ref (232)), (zq_vi (x_11 - 48)), (zq_vi (x_15 - 48)), (zq_vi (x3))]) (st' := [(zq_vi (10)), (zq_vi ((x_11 - 48) + (x_15 - 48)))]) (fun _ _ _ => rfl) ?_
              obtain ⟨g_32, w⟩ := w
              refine zq_le rfl g_32 (of_decide_eq_true rfl) (fun hb_33 => ?_) (fun hb_33 => ?_)
              · rw [if_pos hb_33] at w
                refine zq_run 2 (pc' := 103) (L' := [(.ref (232)), (zq_vi (x_11 - 48)), (zq_vi (x_15 - 48)), (zq_vi (x3))]) (st' := [(.ref (232)), (.ref (232))]) (fun _ _ _ => rfl) ?_
                refine zq_have (fun hR_34 => ?_)
                refine zq_getf_i (j := 25) (v := zq_i s_28 (232) (25)) rfl zq_a232 rfl rfl rfl ?_
                refine zq_run 1 (pc' := 107) (L' := [(.ref (232)), (zq_vi (x_11 - 48)), (zq_vi (x_15 - 48)), (zq_vi (x3))]) (st' := [(zq_vi (4)), (zq_vi (zq_i s_28 (232) (25))), (.ref (232))]) (fun _ _ _ => rfl) ?_
                refine zq_iadd rfl ?_
                obtain ⟨g_35, w⟩ := w
                refine zq_putf_i (j := 25) rfl zq_a232 rfl rfl rfl g_35 ?_
                refine zq_run 2 (pc' := 113) (L' := [(.ref (232)), (zq_vi (x_11 - 48)), (zq_vi (x_15 - 48)), (zq_vi (x_11 - 48))]) (st' := []) (fun _ _ _ => rfl) ?_
                exact w
              · rw [if_neg hb_33] at w
                refine zq_run 1 (pc' := 100) (L' := [(.ref (232)), (zq_vi (x_11 - 48)), (zq_vi (x_15 - 48)), (zq_vi (x3))]) (st' := [(zq_vi (0))]) (fun _ _ _ => rfl) ?_
                exact zq_iret rfl rfl (congrArg Value.int (zq_nb (of_decide_eq_true rfl))) (⟨_, rfl, (of_decide_eq_true rfl), w⟩)
set_option maxRecDepth 100000 in
/-- PaperObjectsModel.readSections at 113 -/
theorem zw_208_113 {X : Nat × (Nat → Int32)} {s : zq_S} {K : Int → zq_S → Prop} {x1 : Int} (hx1 : zq_iv x1) {x2 : Int} (hx2 : zq_iv x2) {x3 : Int} (hx3 : zq_iv x3) (w : (zq_iv (x1 + x2) ∧ (if x3 < x1 + x2 then (zq_Ex X 209 0 [(.ref (232)), (zq_vi (x3)), zz_no, zz_no, zz_no] [] s (zq_rp zq_bo fun x_4 s_3 => (if x_4 = 0 then K (0) s_3 else zq_Ex X 208 113 [(.ref (232)), (zq_vi (x1)), (zq_vi (x2)), (zq_vi (x3 + 1))] [] s_3 (zq_rp zq_bo K)))) else zq_Ex X 208 0 [(.ref (232)), (zq_vi (x1)), (zq_vi (x2)), (zq_vi (x3))] [] s (zq_rp zq_bo K)))) : zq_Ex X 208 113 [(.ref (232)), (zq_vi (x1)), (zq_vi (x2)), (zq_vi (x3))] [] s (zq_rp zq_bo K) := by
  refine zq_run 3 (pc' := 116) (L' := [(.ref (232)), (zq_vi (x1)), (zq_vi (x2)), (zq_vi (x3))]) (st' := [(zq_vi (x2)), (zq_vi (x1)), (zq_vi (x3))]) (fun _ _ _ => rfl) ?_
  refine zq_iadd rfl ?_
  obtain ⟨g_1, w⟩ := w
  refine zq_ge rfl hx3 g_1 (fun hb_2 => ?_) (fun hb_2 => ?_)
  · rw [if_neg hb_2] at w
    refine zq_run 1 (pc' := 0) (L' := [(.ref (232)), (zq_vi (x1)), (zq_vi (x2)), (zq_vi (x3))]) (st' := []) (fun _ _ _ => rfl) ?_
    exact w
  · rw [if_pos hb_2] at w
    refine zq_run 2 (pc' := 122) (L' := [(.ref (232)), (zq_vi (x1)), (zq_vi (x2)), (zq_vi (x3))]) (st' := [(zq_vi (x3)), (.ref (232))]) (fun _ _ _ => rfl) ?_
    refine zq_call_i (i := .invokevirtual 343) (r := [1, 209, 1, 1, 9]) rfl rfl (fun h hp => zr_avv rfl (hp.obj zq_a232)) (of_decide_eq_false rfl) w (fun x_4 s_3 hx_5 w => ?_)
    refine zq_ne0 rfl (zq_bo_in hx_5) (fun hb_6 => ?_) (fun hb_6 => ?_)
    · rw [if_neg hb_6] at w
      refine zq_iinc (L' := [(.ref (232)), (zq_vi (x1)), (zq_vi (x2)), (zq_vi (x3 + 1))]) rfl rfl rfl ?_
      refine zq_run 1 (pc' := 113) (L' := [(.ref (232)), (zq_vi (x1)), (zq_vi (x2)), (zq_vi (x3 + 1))]) (st' := []) (fun _ _ _ => rfl) ?_
      exact w
    · rw [if_pos hb_6] at w
      refine zq_run 1 (pc' := 129) (L' := [(.ref (232)), (zq_vi (x1)), (zq_vi (x2)), (zq_vi (x3))]) (st' := [(zq_vi (0))]) (fun _ _ _ => rfl) ?_
      exact zq_iret rfl rfl (congrArg Value.int (zq_nb (of_decide_eq_true rfl))) (⟨_, rfl, (of_decide_eq_true rfl), w⟩)
set_option maxRecDepth 100000 in
/-- PaperObjectsModel.readEntry(I)Z -/
theorem zw_209 {X : Nat × (Nat → Int32)} {s : zq_S} {K : Int → zq_S → Prop} {x1 : Int} (hx1 : zq_iv x1) (w : (zq_Ex X 147 0 [(.ref (232)), (zq_vi (1)), (zq_vi (zq_i s (232) (25)))] [] s (zq_rp zq_ch fun x_3 s_2 => (zq_Ex X 155 0 [(zq_vi (x_3))] [] s_2 (zq_rp zq_bo fun x_6 s_5 => (if x_6 = 0 then (zq_Ex X 147 0 [(.ref (232)), (zq_vi (1)), (zq_vi ((zq_i s_5 (232) (25)) + 6))] [] s_5 (zq_rp zq_ch fun x_11 s_10 => K (0) s_10)) else (zq_Ex X 147 0 [(.ref (232)), (zq_vi (1)), (zq_vi ((zq_i s_5 (232) (25)) + 1))] [] s_5 (zq_rp zq_ch fun x_15 s_14 => (zq_Ex X 155 0 [(zq_vi (x_15))] [] s_14 (zq_rp zq_bo fun x_18 s_17 => (if x_18 = 0 then (zq_Ex X 147 0 [(.ref (232)), (zq_vi (1)), (zq_vi ((zq_i s_17 (232) (25)) + 6))] [] s_17 (zq_rp zq_ch fun x_23 s_22 => K (0) s_22)) else (zq_Ex X 147 0 [(.ref (232)), (zq_vi (1)), (zq_vi ((zq_i s_17 (232) (25)) + 2))] [] s_17 (zq_rp zq_ch fun x_27 s_26 => (zq_Ex X 155 0 [(zq_vi (x_27))] [] s_26 (zq_rp zq_bo fun x_30 s_29 => (if x_30 = 0 then (zq_Ex X 147 0 [(.ref (232)), (zq_vi (1)), (zq_vi ((zq_i s_29 (232) (25)) + 6))] [] s_29 (zq_rp zq_ch fun x_35 s_34 => K (0) s_34)) else (zq_Ex X 147 0 [(.ref (232)), (zq_vi (1)), (zq_vi ((zq_i s_29 (232) (25)) + 6))] [] s_29 (zq_rp zq_ch fun x_39 s_38 => (zq_Ex X 147 0 [(.ref (232)), (zq_vi (1)), (zq_vi ((zq_i s_38 (232) (25)) + 3))] [] s_38 (zq_rp zq_ch fun x_43 s_42 => (if x_43 = 32 then (zq_Ex X 147 0 [(.ref (232)), (zq_vi (1)), (zq_vi ((zq_i s_42 (232) (25)) + 4))] [] s_42 (zq_rp zq_ch fun x_48 s_47 => (zq_Ex X 155 0 [(zq_vi (x_48))] [] s_47 (zq_rp zq_bo fun x_51 s_50 => (if x_51 = 0 then K (0) s_50 else (zq_Ex X 147 0 [(.ref (232)), (zq_vi (1)), (zq_vi ((zq_i s_50 (232) (25)) + 5))] [] s_50 (zq_rp zq_ch fun x_56 s_55 => (if x_56 = 32 then (if x_39 = 110 then zq_Ex X 209 133 [(.ref (232)), (zq_vi (x1)), (zq_vi (1)), (zq_vi (x_39)), zz_no] [] s_55 (zq_rp zq_bo K) else (if x_39 = 102 then zq_Ex X 209 133 [(.ref (232)), (zq_vi (x1)), (zq_vi (1)), (zq_vi (x_39)), zz_no] [] s_55 (zq_rp zq_bo K) else K (0) s_55)) else K (0) s_55)))))))) else K (0) s_42))))))))))))))))))))) : zq_Ex X 209 0 [(.ref (232)), (zq_vi (x1)), zz_no, zz_no, zz_no] [] s (zq_rp zq_bo K) := by
  refine zq_run 3 (pc' := 3) (L' := [(.ref (232)), (zq_vi (x1)), zz_no, zz_no, zz_no]) (st' := [(.ref (232)), (zq_vi (1)), (.ref (232))]) (fun _ _ _ => rfl) ?_
  refine zq_have (fun hR_1 => ?_)
  refine zq_getf_i (j := 25) (v := zq_i s (232) (25)) rfl zq_a232 rfl rfl rfl ?_
  refine zq_call_i (i := .invokevirtual 119) (r := [1, 147, 2, 1, 9]) rfl rfl (fun h hp => zr_avv rfl (hp.obj zq_a232)) (of_decide_eq_false rfl) w (fun x_3 s_2 hx_4 w => ?_)
  refine zq_call_i (i := .invokestatic 103) (r := [1, 155, 1, 0, 9]) rfl rfl (fun _ _ => rfl) (of_decide_eq_false rfl) w (fun x_6 s_5 hx_7 w => ?_)
  refine zq_eq0 rfl (zq_bo_in hx_7) (fun hb_8 => ?_) (fun hb_8 => ?_)
  · rw [if_pos hb_8] at w
    refine zq_run 5 (pc' := 58) (L' := [(.ref (232)), (zq_vi (x1)), (zq_vi (0)), zz_no, zz_no]) (st' := [(.ref (232)), (zq_vi (1)), (.ref (232))]) (fun _ _ _ => rfl) ?_
    refine zq_have (fun hR_9 => ?_)
    refine zq_getf_i (j := 25) (v := zq_i s_5 (232) (25)) rfl zq_a232 rfl rfl rfl ?_
    refine zq_run 1 (pc' := 63) (L' := [(.ref (232)), (zq_vi (x1)), (zq_vi (0)), zz_no, zz_no]) (st' := [(zq_vi (6)), (zq_vi (zq_i s_5 (232) (25))), (zq_vi (1)), (.ref (232))]) (fun _ _ _ => rfl) ?_
    refine zq_iadd rfl ?_
    refine zq_call_i (i := .invokevirtual 119) (r := [1, 147, 2, 1, 9]) rfl rfl (fun h hp => zr_avv rfl (hp.obj zq_a232)) (of_decide_eq_false rfl) w (fun x_11 s_10 hx_12 w => ?_)
    refine zq_run 2 (pc' := 69) (L' := [(.ref (232)), (zq_vi (x1)), (zq_vi (0)), (zq_vi (x_11)), zz_no]) (st' := [(zq_vi (0))]) (fun _ _ _ => rfl) ?_
    refine zq_eq0 rfl (of_decide_eq_true rfl) (fun _ => ?_) (fun hb => absurd (by decide) hb)
    refine zq_run 1 (pc' := 151) (L' := [(.ref (232)), (zq_vi (x1)), (zq_vi (0)), (zq_vi (x_11)), zz_no]) (st' := [(zq_vi (0))]) (fun _ _ _ => rfl) ?_
    exact zq_iret rfl rfl (congrArg Value.int (zq_nb (of_decide_eq_true rfl))) (⟨_, rfl, (of_decide_eq_true rfl), w⟩)
  · rw [if_neg hb_8] at w
    refine zq_run 3 (pc' := 18) (L' := [(.ref (232)), (zq_vi (x1)), zz_no, zz_no, zz_no]) (st' := [(.ref (232)), (zq_vi (1)), (.ref (232))]) (fun _ _ _ => rfl) ?_
    refine zq_have (fun hR_13 => ?_)
    refine zq_getf_i (j := 25) (v := zq_i s_5 (232) (25)) rfl zq_a232 rfl rfl rfl ?_
    refine zq_run 1 (pc' := 22) (L' := [(.ref (232)), (zq_vi (x1)), zz_no, zz_no, zz_no]) (st' := [(zq_vi (1)), (zq_vi (zq_i s_5 (232) (25))), (zq_vi (1)), (.ref (232))]) (fun _ _ _ => rfl) ?_
    refine zq_iadd rfl ?_
    refine zq_call_i (i := .invokevirtual 119) (r := [1, 147, 2, 1, 9]) rfl rfl (fun h hp => zr_avv rfl (hp.obj zq_a232)) (of_decide_eq_false rfl) w (fun x_15 s_14 hx_16 w => ?_)
    refine zq_call_i (i := .invokestatic 103) (r := [1, 155, 1, 0, 9]) rfl rfl (fun _ _ => rfl) (of_decide_eq_false rfl) w (fun x_18 s_17 hx_19 w => ?_)
    refine zq_eq0 rfl (zq_bo_in hx_19) (fun hb_20 => ?_) (fun hb_20 => ?_)
    · rw [if_pos hb_20] at w
      refine zq_run 5 (pc' := 58) (L' := [(.ref (232)), (zq_vi (x1)), (zq_vi (0)), zz_no, zz_no]) (st' := [(.ref (232)), (zq_vi (1)), (.ref (232))]) (fun _ _ _ => rfl) ?_
      refine zq_have (fun hR_21 => ?_)
      refine zq_getf_i (j := 25) (v := zq_i s_17 (232) (25)) rfl zq_a232 rfl rfl rfl ?_
      refine zq_run 1 (pc' := 63) (L' := [(.ref (232)), (zq_vi (x1)), (zq_vi (0)), zz_no, zz_no]) (st' := [(zq_vi (6)), (zq_vi (zq_i s_17 (232) (25))), (zq_vi (1)), (.ref (232))]) (fun _ _ _ => rfl) ?_
      refine zq_iadd rfl ?_
      refine zq_call_i (i := .invokevirtual 119) (r := [1, 147, 2, 1, 9]) rfl rfl (fun h hp => zr_avv rfl (hp.obj zq_a232)) (of_decide_eq_false rfl) w (fun x_23 s_22 hx_24 w => ?_)
      refine zq_run 2 (pc' := 69) (L' := [(.ref (232)), (zq_vi (x1)), (zq_vi (0)), (zq_vi (x_23)), zz_no]) (st' := [(zq_vi (0))]) (fun _ _ _ => rfl) ?_
      refine zq_eq0 rfl (of_decide_eq_true rfl) (fun _ => ?_) (fun hb => absurd (by decide) hb)
      refine zq_run 1 (pc' := 151) (L' := [(.ref (232)), (zq_vi (x1)), (zq_vi (0)), (zq_vi (x_23)), zz_no]) (st' := [(zq_vi (0))]) (fun _ _ _ => rfl) ?_
      exact zq_iret rfl rfl (congrArg Value.int (zq_nb (of_decide_eq_true rfl))) (⟨_, rfl, (of_decide_eq_true rfl), w⟩)
    · rw [if_neg hb_20] at w
      refine zq_run 3 (pc' := 35) (L' := [(.ref (232)), (zq_vi (x1)), zz_no, zz_no, zz_no]) (st' := [(.ref (232)), (zq_vi (1)), (.ref (232))]) (fun _ _ _ => rfl) ?_
      refine zq_have (fun hR_25 => ?_)
      refine zq_getf_i (j := 25) (v := zq_i s_17 (232) (25)) rfl zq_a232 rfl rfl rfl ?_
      refine zq_run 1 (pc' := 39) (L' := [(.ref (232)), (zq_vi (x1)), zz_no, zz_no, zz_no]) (st' := [(zq_vi (2)), (zq_vi (zq_i s_17 (232) (25))), (zq_vi (1)), (.ref (232))]) (fun _ _ _ => rfl) ?_
      refine zq_iadd rfl ?_
      refine zq_call_i (i := .invokevirtual 119) (r := [1, 147, 2, 1, 9]) rfl rfl (fun h hp => zr_avv rfl (hp.obj zq_a232)) (of_decide_eq_false rfl) w (fun x_27 s_26 hx_28 w => ?_)
      refine zq_call_i (i := .invokestatic 103) (r := [1, 155, 1, 0, 9]) rfl rfl (fun _ _ => rfl) (of_decide_eq_false rfl) w (fun x_30 s_29 hx_31 w => ?_)
      refine zq_eq0 rfl (zq_bo_in hx_31) (fun hb_32 => ?_) (fun hb_32 => ?_)
      · rw [if_pos hb_32] at w
        refine zq_run 5 (pc' := 58) (L' := [(.ref (232)), (zq_vi (x1)), (zq_vi (0)), zz_no, zz_no]) (st' := [(.ref (232)), (zq_vi (1)), (.ref (232))]) (fun _ _ _ => rfl) ?_
        refine zq_have (fun hR_33 => ?_)
        refine zq_getf_i (j := 25) (v := zq_i s_29 (232) (25)) rfl zq_a232 rfl rfl rfl ?_
        refine zq_run 1 (pc' := 63) (L' := [(.ref (232)), (zq_vi (x1)), (zq_vi (0)), zz_no, zz_no]) (st' := [(zq_vi (6)), (zq_vi (zq_i s_29 (232) (25))), (zq_vi (1)), (.ref (232))]) (fun _ _ _ => rfl) ?_
        refine zq_iadd rfl ?_
        refine zq_call_i (i := .invokevirtual 119) (r := [1, 147, 2, 1, 9]) rfl rfl (fun h hp => zr_avv rfl (hp.obj zq_a232)) (of_decide_eq_false rfl) w (fun x_35 s_34 hx_36 w => ?_)
        refine zq_run 2 (pc' := 69) (L' := [(.ref (232)), (zq_vi (x1)), (zq_vi (0)), (zq_vi (x_35)), zz_no]) (st' := [(zq_vi (0))]) (fun _ _ _ => rfl) ?_
        refine zq_eq0 rfl (of_decide_eq_true rfl) (fun _ => ?_) (fun hb => absurd (by decide) hb)
        refine zq_run 1 (pc' := 151) (L' := [(.ref (232)), (zq_vi (x1)), (zq_vi (0)), (zq_vi (x_35)), zz_no]) (st' := [(zq_vi (0))]) (fun _ _ _ => rfl) ?_
        exact zq_iret rfl rfl (congrArg Value.int (zq_nb (of_decide_eq_true rfl))) (⟨_, rfl, (of_decide_eq_true rfl), w⟩)
      · rw [if_neg hb_32] at w
        refine zq_run 6 (pc' := 58) (L' := [(.ref (232)), (zq_vi (x1)), (zq_vi (1)), zz_no, zz_no]) (st' := [(.ref (232)), (zq_vi (1)), (.ref (232))]) (fun _ _ _ => rfl) ?_
        refine zq_have (fun hR_37 => ?_)
        refine zq_getf_i (j := 25) (v := zq_i s_29 (232) (25)) rfl zq_a232 rfl rfl rfl ?_
        refine zq_run 1 (pc' := 63) (L' := [(.ref (232)), (zq_vi (x1)), (zq_vi (1)), zz_no, zz_no]) (st' := [(zq_vi (6)), (zq_vi (zq_i s_29 (232) (25))), (zq_vi (1)), (.ref (232))]) (fun _ _ _ => rfl) ?_
        refine zq_iadd rfl ?_
        refine zq_call_i (i := .invokevirtual 119) (r := [1, 147, 2, 1, 9]) rfl rfl (fun h hp => zr_avv rfl (hp.obj zq_a232)) (of_decide_eq_false rfl) w (fun x_39 s_38 hx_40 w => ?_)
        refine zq_run 2 (pc' := 69) (L' := [(.ref (232)), (zq_vi (x1)), (zq_vi (1)), (zq_vi (x_39)), zz_no]) (st' := [(zq_vi (1))]) (fun _ _ _ => rfl) ?_
        refine zq_eq0 rfl (of_decide_eq_true rfl) (fun hb => absurd hb (by decide)) (fun _ => ?_)
        refine zq_run 3 (pc' := 75) (L' := [(.ref (232)), (zq_vi (x1)), (zq_vi (1)), (zq_vi (x_39)), zz_no]) (st' := [(.ref (232)), (zq_vi (1)), (.ref (232))]) (fun _ _ _ => rfl) ?_
        refine zq_have (fun hR_41 => ?_)
        refine zq_getf_i (j := 25) (v := zq_i s_38 (232) (25)) rfl zq_a232 rfl rfl rfl ?_
        refine zq_run 1 (pc' := 79) (L' := [(.ref (232)), (zq_vi (x1)), (zq_vi (1)), (zq_vi (x_39)), zz_no]) (st' := [(zq_vi (3)), (zq_vi (zq_i s_38 (232) (25))), (zq_vi (1)), (.ref (232))]) (fun _ _ _ => rfl) ?_
        refine zq_iadd rfl ?_
        refine zq_call_i (i := .invokevirtual 119) (r := [1, 147, 2, 1, 9]) rfl rfl (fun h hp => zr_avv rfl (hp.obj zq_a232)) (of_decide_eq_false rfl) w (fun x_43 s_42 hx_44 w => ?_)
        refine zq_run 1 (pc' := 85) (L' := [(.ref (232)), (zq_vi (x1)), (zq_vi (1)), (zq_vi (x_39)), zz_no]) (st' := [(zq_vi (32)), (zq_vi (x_43))]) (fun _ _ _ => rfl) ?_
        refine zq_ne rfl (zq_ch_in hx_44) (of_decide_eq_true rfl) (fun hb_45 => ?_) (fun hb_45 => ?_)
        · rw [if_neg hb_45] at w
          refine zq_run 1 (pc' := 151) (L' := [(.ref (232)), (zq_vi (x1)), (zq_vi (1)), (zq_vi (x_39)), zz_no]) (st' := [(zq_vi (0))]) (fun _ _ _ => rfl) ?_
          exact zq_iret rfl rfl (congrArg Value.int (zq_nb (of_decide_eq_true rfl))) (⟨_, rfl, (of_decide_eq_true rfl), w⟩)
        · rw [if_pos hb_45] at w
          refine zq_run 3 (pc' := 91) (L' := [(.ref (232)), (zq_vi (x1)), (zq_vi (1)), (zq_vi (x_39)), zz_no]) (st' := [(.ref (232)), (zq_vi (1)), (.ref (232))]) (fun _ _ _ => rfl) ?_
          refine zq_have (fun hR_46 => ?_)
          refine zq_getf_i (j := 25) (v := zq_i s_42 (232) (25)) rfl zq_a232 rfl rfl rfl ?_
          refine zq_run 1 (pc' := 95) (L' := [(.ref (232)), (zq_vi (x1)), (zq_vi (1)), (zq_vi (x_39)), zz_no]) (st' := [(zq_vi (4)), (zq_vi (zq_i s_42 (232) (25))), (zq_vi (1)), (.ref (232))]) (fun _ _ _ => rfl) ?_
          refine zq_iadd rfl ?_
          refine zq_call_i (i := .invokevirtual 119) (r := [1, 147, 2, 1, 9]) rfl rfl (fun h hp => zr_avv rfl (hp.obj zq_a232)) (of_decide_eq_false rfl) w (fun x_48 s_47 hx_49 w => ?_)
          refine zq_call_i (i := .invokestatic 103) (r := [1, 155, 1, 0, 9]) rfl rfl (fun _ _ => rfl) (of_decide_eq_false rfl) w (fun x_51 s_50 hx_52 w => ?_)
          refine zq_eq0 rfl (zq_bo_in hx_52) (fun hb_53 => ?_) (fun hb_53 => ?_)
          · rw [if_pos hb_53] at w
            refine zq_run 1 (pc' := 151) (L' := [(.ref (232)), (zq_vi (x1)), (zq_vi (1)), (zq_vi (x_39)), zz_no]) (st' := [(zq_vi (0))]) (fun _ _ _ => rfl) ?_
            exact zq_iret rfl rfl (congrArg Value.int (zq_nb (of_decide_eq_true rfl))) (⟨_, rfl, (of_decide_eq_true rfl), w⟩)
          · rw [if_neg hb_53] at w
            refine zq_run 3 (pc' := 108) (L' := [(.ref (232)), (zq_vi (x1)), (zq_vi (1)), (zq_vi (x_39)), zz_no]) (st' := [(.ref (232)), (zq_vi (1)), (.ref (232))]) (fun _ _ _ => rfl) ?_
            refine zq_have (fun hR_54 => ?_)
            refine zq_getf_i (j := 25) (v := zq_i s_50 (232) (25)) rfl zq_a232 rfl rfl rfl ?_
            refine zq_run 1 (pc' := 112) (L' := [(.ref (232)), (zq_vi (x1)), (zq_vi (1)), (zq_vi (x_39)), zz_no]) (st' := [(zq_vi (5)), (zq_vi (zq_i s_50 (232) (25))), (zq_vi (1)), (.ref (232))]) (fun _ _ _ => rfl) ?_
            refine zq_iadd rfl ?_
            refine zq_call_i (i := .invokevirtual 119) (r := [1, 147, 2, 1, 9]) rfl rfl (fun h hp => zr_avv rfl (hp.obj zq_a232)) (of_decide_eq_false rfl) w (fun x_56 s_55 hx_57 w => ?_)
            refine zq_run 1 (pc' := 118) (L' := [(.ref (232)), (zq_vi (x1)), (zq_vi (1)), (zq_vi (x_39)), zz_no]) (st' := [(zq_vi (32)), (zq_vi (x_56))]) (fun _ _ _ => rfl) ?_
            refine zq_ne rfl (zq_ch_in hx_57) (of_decide_eq_true rfl) (fun hb_58 => ?_) (fun hb_58 => ?_)
            · rw [if_neg hb_58] at w
              refine zq_run 1 (pc' := 151) (L' := [(.ref (232)), (zq_vi (x1)), (zq_vi (1)), (zq_vi (x_39)), zz_no]) (st' := [(zq_vi (0))]) (fun _ _ _ => rfl) ?_
              exact zq_iret rfl rfl (congrArg Value.int (zq_nb (of_decide_eq_true rfl))) (⟨_, rfl, (of_decide_eq_true rfl), w⟩)
            · rw [if_pos hb_58] at w
              refine zq_run 2 (pc' := 124) (L' := [(.ref (232)), (zq_vi (x1)), (zq_vi (1)), (zq_vi (x_39)), zz_no]) (st' := [(zq_vi (110)), (zq_vi (x_39))]) (fun _ _ _ => rfl) ?_
              refine zq_eq rfl (zq_ch_in hx_40) (of_decide_eq_true rfl) (fun hb_59 => ?_) (fun hb_59 => ?_)
              · rw [if_pos hb_59] at w
                exact w
              · rw [if_neg hb_59] at w
                refine zq_run 2 (pc' := 130) (L' := [(.ref (232)), (zq_vi (x1)), (zq_vi (1)), (zq_vi (x_39)), zz_no]) (st' := [(zq_vi (102)), (zq_vi (x_39))]) (fun _ _ _ => rfl) ?_
                refine zq_ne rfl (zq_ch_in hx_40) (of_decide_eq_true rfl) (fun hb_60 => ?_) (fun hb_60 => ?_)
                · rw [if_neg hb_60] at w
                  refine zq_run 1 (pc' := 151) (L' := [(.ref (232)), (zq_vi (x1)), (zq_vi (1)), (zq_vi (x_39)), zz_no]) (st' := [(zq_vi (0))]) (fun _ _ _ => rfl) ?_
                  exact zq_iret rfl rfl (congrArg Value.int (zq_nb (of_decide_eq_true rfl))) (⟨_, rfl, (of_decide_eq_true rfl), w⟩)
                · rw [if_pos hb_60] at w
                  exact w
set_option maxRecDepth 100000 in
/-- PaperObjectsModel.readEntry at 133 -/
theorem zw_209_133 {X : Nat × (Nat → Int32)} {s : zq_S} {K : Int → zq_S → Prop} {x1 : Int} (hx1 : zq_iv x1) {x2 : Int} (hx2 : zq_bo x2) {x3 : Int} (hx3 : zq_ch x3) {v4 : Value} (hv4 : v4.category = 1) (w : (zq_Ex X 147 0 [(.ref (232)), (zq_vi (1)), (zq_vi ((zq_i s (232) (25)) + 7))] [] s (zq_rp zq_ch fun x_3 s_2 => (if x_3 = 10 then (zq_Ex X 167 0 [(.ref (232)), (zq_vi (1)), (zq_vi (zq_i s_2 (232) (25))), (zq_vi ((zq_i s_2 (232) (25)) + 3)), zz_no, zz_no, zz_no] [] s_2 (zq_rp zq_iv fun x_8 s_7 => (((0 : Int) ≤ x1 ∧ x1 < (10 : Int)) ∧ (if zq_i s_7 (250) (x1) = 0 then (if x3 = 110 then (((0 : Int) ≤ x1 ∧ x1 < (10 : Int)) ∧ (((0 : Int) ≤ x1 ∧ x1 < (10 : Int)) ∧ (zq_Ex X 147 0 [(.ref (232)), (zq_vi (1)), (zq_vi ((zq_i s_7 (232) (25)) + 4))] [] (zq_si (zq_si s_7 (250) (x1) (2)) (251) (x1) (x_8)) (zq_rp zq_ch fun x_31 s_30 => (((0 : Int) ≤ x1 ∧ x1 < (10 : Int)) ∧ (zq_iv (x_31 - 48) ∧ (zq_iv ((zq_i s_30 (232) (25)) + 8) ∧ K (1) (zq_si (zq_si s_30 (252) (x1) (x_31 - 48)) (232) (25) ((zq_i s_30 (232) (25)) + 8))))))))) else (((0 : Int) ≤ x1 ∧ x1 < (10 : Int)) ∧ (((0 : Int) ≤ x1 ∧ x1 < (10 : Int)) ∧ (zq_Ex X 147 0 [(.ref (232)), (zq_vi (1)), (zq_vi ((zq_i s_7 (232) (25)) + 4))] [] (zq_si (zq_si s_7 (250) (x1) (1)) (251) (x1) (x_8)) (zq_rp zq_ch fun x_19 s_18 => (((0 : Int) ≤ x1 ∧ x1 < (10 : Int)) ∧ (zq_iv (x_19 - 48) ∧ (zq_iv ((zq_i s_18 (232) (25)) + 8) ∧ K (1) (zq_si (zq_si s_18 (252) (x1) (x_19 - 48)) (232) (25) ((zq_i s_18 (232) (25)) + 8)))))))))) else (zq_iv ((zq_i s_7 (232) (25)) + 8) ∧ K (1) (zq_si s_7 (232) (25) ((zq_i s_7 (232) (25)) + 8))))))) else K (0) s_2)))) : zq_Ex X 209 133 [(.ref (232)), (zq_vi (x1)), (zq_vi (x2)), (zq_vi (x3)), v4] [] s (zq_rp zq_bo K) := by
  refine zq_run 3 (pc' := 136) (L' := [(.ref (232)), (zq_vi (x1)), (zq_vi (x2)), (zq_vi (x3)), v4]) (st' := [(.ref (232)), (zq_vi (1)), (.ref (232))]) (fun _ _ _ => rfl) ?_
  refine zq_have (fun hR_1 => ?_)
  refine zq_getf_i (j := 25) (v := zq_i s (232) (25)) rfl zq_a232 rfl rfl rfl ?_
  refine zq_run 1 (pc' := 141) (L' := [(.ref (232)), (zq_vi (x1)), (zq_vi (x2)), (zq_vi (x3)), v4]) (st' := [(zq_vi (7)), (zq_vi (zq_i s (232) (25))), (zq_vi (1)), (.ref (232))]) (fun _ _ _ => rfl) ?_
  refine zq_iadd rfl ?_
  refine zq_call_i (i := .invokevirtual 119) (r := [1, 147, 2, 1, 9]) rfl rfl (fun h hp => zr_avv rfl (hp.obj zq_a232)) (of_decide_eq_false rfl) w (fun x_3 s_2 hx_4 w => ?_)
  refine zq_run 1 (pc' := 147) (L' := [(.ref (232)), (zq_vi (x1)), (zq_vi (x2)), (zq_vi (x3)), v4]) (st' := [(zq_vi (10)), (zq_vi (x_3))]) (fun _ _ _ => rfl) ?_
  refine zq_eq rfl (zq_ch_in hx_4) (of_decide_eq_true rfl) (fun hb_5 => ?_) (fun hb_5 => ?_)
  · rw [if_pos hb_5] at w
    refine zq_run 3 (pc' := 155) (L' := [(.ref (232)), (zq_vi (x1)), (zq_vi (x2)), (zq_vi (x3)), v4]) (st' := [(.ref (232)), (zq_vi (1)), (.ref (232))]) (fun _ _ _ => rfl) ?_
    refine zq_have (fun hR_6 => ?_)
    refine zq_getf_i (j := 25) (v := zq_i s_2 (232) (25)) rfl zq_a232 rfl rfl rfl ?_
    refine zq_run 1 (pc' := 159) (L' := [(.ref (232)), (zq_vi (x1)), (zq_vi (x2)), (zq_vi (x3)), v4]) (st' := [(.ref (232)), (zq_vi (zq_i s_2 (232) (25))), (zq_vi (1)), (.ref (232))]) (fun _ _ _ => rfl) ?_
    refine zq_getf_i (j := 25) (v := zq_i s_2 (232) (25)) rfl zq_a232 rfl rfl rfl ?_
    refine zq_run 1 (pc' := 163) (L' := [(.ref (232)), (zq_vi (x1)), (zq_vi (x2)), (zq_vi (x3)), v4]) (st' := [(zq_vi (3)), (zq_vi (zq_i s_2 (232) (25))), (zq_vi (zq_i s_2 (232) (25))), (zq_vi (1)), (.ref (232))]) (fun _ _ _ => rfl) ?_
    refine zq_iadd rfl ?_
    refine zq_call_i (i := .invokevirtual 162) (r := [1, 167, 3, 1, 9]) rfl rfl (fun h hp => zr_avv rfl (hp.obj zq_a232)) (of_decide_eq_false rfl) w (fun x_8 s_7 hx_9 w => ?_)
    refine zq_run 2 (pc' := 170) (L' := [(.ref (232)), (zq_vi (x1)), (zq_vi (x2)), (zq_vi (x3)), (zq_vi (x_8))]) (st' := [(.ref (232))]) (fun _ _ _ => rfl) ?_
    refine zq_getf_f (b := 250) rfl zq_a232 rfl rfl ?_
    refine zq_run 1 (pc' := 174) (L' := [(.ref (232)), (zq_vi (x1)), (zq_vi (x2)), (zq_vi (x3)), (zq_vi (x_8))]) (st' := [(zq_vi (x1)), (.ref (250))]) (fun _ _ _ => rfl) ?_
    obtain ⟨g_10, w⟩ := w
    refine zq_have (fun hR_11 => ?_)
    refine zq_ald_i (v := zq_i s_7 (250) (x1)) rfl zq_a250 g_10.1 g_10.2 rfl ?_
    refine zq_ne0 rfl (hR_11.1 _ _) (fun hb_12 => ?_) (fun hb_12 => ?_)
    · rw [if_neg hb_12] at w
      refine zq_run 2 (pc' := 225) (L' := [(.ref (232)), (zq_vi (x1)), (zq_vi (x2)), (zq_vi (x3)), (zq_vi (x_8))]) (st' := [(.ref (232)), (.ref (232))]) (fun _ _ _ => rfl) ?_
      refine zq_getf_i (j := 25) (v := zq_i s_7 (232) (25)) rfl zq_a232 rfl rfl rfl ?_
      refine zq_run 1 (pc' := 230) (L' := [(.ref (232)), (zq_vi (x1)), (zq_vi (x2)), (zq_vi (x3)), (zq_vi (x_8))]) (st' := [(zq_vi (8)), (zq_vi (zq_i s_7 (232) (25))), (.ref (232))]) (fun _ _ _ => rfl) ?_
      refine zq_iadd rfl ?_
      obtain ⟨g_13, w⟩ := w
      refine zq_putf_i (j := 25) rfl zq_a232 rfl rfl rfl g_13 ?_
      refine zq_run 1 (pc' := 235) (L' := [(.ref (232)), (zq_vi (x1)), (zq_vi (x2)), (zq_vi (x3)), (zq_vi (x_8))]) (st' := [(zq_vi (1))]) (fun _ _ _ => rfl) ?_
      exact zq_iret rfl rfl (congrArg Value.int (zq_nb (of_decide_eq_true rfl))) (⟨_, rfl, (of_decide_eq_true rfl), w⟩)
    · rw [if_pos hb_12] at w
      refine zq_run 1 (pc' := 179) (L' := [(.ref (232)), (zq_vi (x1)), (zq_vi (x2)), (zq_vi (x3)), (zq_vi (x_8))]) (st' := [(.ref (232))]) (fun _ _ _ => rfl) ?_
      refine zq_getf_f (b := 250) rfl zq_a232 rfl rfl ?_
      refine zq_run 3 (pc' := 186) (L' := [(.ref (232)), (zq_vi (x1)), (zq_vi (x2)), (zq_vi (x3)), (zq_vi (x_8))]) (st' := [(zq_vi (110)), (zq_vi (x3)), (zq_vi (x1)), (.ref (250))]) (fun _ _ _ => rfl) ?_
      refine zq_ne rfl (zq_ch_in hx3) (of_decide_eq_true rfl) (fun hb_14 => ?_) (fun hb_14 => ?_)
      · rw [if_neg hb_14] at w
        refine zq_run 1 (pc' := 194) (L' := [(.ref (232)), (zq_vi (x1)), (zq_vi (x2)), (zq_vi (x3)), (zq_vi (x_8))]) (st' := [(zq_vi (1)), (zq_vi (x1)), (.ref (250))]) (fun _ _ _ => rfl) ?_
        obtain ⟨g_15, w⟩ := w
        refine zq_ast_i rfl zq_a250 g_15.1 g_15.2 (of_decide_eq_true rfl) ?_
        refine zq_run 1 (pc' := 196) (L' := [(.ref (232)), (zq_vi (x1)), (zq_vi (x2)), (zq_vi (x3)), (zq_vi (x_8))]) (st' := [(.ref (232))]) (fun _ _ _ => rfl) ?_
        refine zq_getf_f (b := 251) rfl zq_a232 rfl rfl ?_
        refine zq_run 2 (pc' := 202) (L' := [(.ref (232)), (zq_vi (x1)), (zq_vi (x2)), (zq_vi (x3)), (zq_vi (x_8))]) (st' := [(zq_vi (x_8)), (zq_vi (x1)), (.ref (251))]) (fun _ _ _ => rfl) ?_
        obtain ⟨g_16, w⟩ := w
        refine zq_ast_i rfl zq_a251 g_16.1 g_16.2 hx_9 ?_
        refine zq_run 1 (pc' := 204) (L' := [(.ref (232)), (zq_vi (x1)), (zq_vi (x2)), (zq_vi (x3)), (zq_vi (x_8))]) (st' := [(.ref (232))]) (fun _ _ _ => rfl) ?_
        refine zq_getf_f (b := 252) rfl zq_a232 rfl rfl ?_
        refine zq_run 4 (pc' := 211) (L' := [(.ref (232)), (zq_vi (x1)), (zq_vi (x2)), (zq_vi (x3)), (zq_vi (x_8))]) (st' := [(.ref (232)), (zq_vi (1)), (.ref (232)), (zq_vi (x1)), (.ref (252))]) (fun _ _ _ => rfl) ?_
        have e_17 : zq_i (zq_si (zq_si s_7 (250) (x1) (1)) (251) (x1) (x_8)) (232) (25) = zq_i s_7 (232) (25) := by simp [zq_i_si, zq_i_sr, zq_i_sl]
        refine zq_getf_i (j := 25) (v := zq_i s_7 (232) (25)) rfl zq_a232 rfl rfl e_17 ?_
        refine zq_run 1 (pc' := 215) (L' := [(.ref (232)), (zq_vi (x1)), (zq_vi (x2)), (zq_vi (x3)), (zq_vi (x_8))]) (st' := [(zq_vi (4)), (zq_vi (zq_i s_7 (232) (25))), (zq_vi (1)), (.ref (232)), (zq_vi (x1)), (.ref (252))]) (fun _ _ _ => rfl) ?_
        refine zq_iadd rfl ?_
        refine zq_call_i (i := .invokevirtual 119) (r := [1, 147, 2, 1, 9]) rfl rfl (fun h hp => zr_avv rfl (hp.obj zq_a232)) (of_decide_eq_false rfl) w (fun x_19 s_18 hx_20 w => ?_)
        refine zq_run 1 (pc' := 221) (L' := [(.ref (232)), (zq_vi (x1)), (zq_vi (x2)), (zq_vi (x3)), (zq_vi (x_8))]) (st' := [(zq_vi (48)), (zq_vi (x_19)), (zq_vi (x1)), (.ref (252))]) (fun _ _ _ => rfl) ?_
        refine zq_isub rfl ?_
        obtain ⟨g_21, w⟩ := w
        obtain ⟨g_22, w⟩ := w
        refine zq_ast_i rfl zq_a252 g_21.1 g_21.2 g_22 ?_
        refine zq_run 2 (pc' := 225) (L' := [(.ref (232)), (zq_vi (x1)), (zq_vi (x2)), (zq_vi (x3)), (zq_vi (x_8))]) (st' := [(.ref (232)), (.ref (232))]) (fun _ _ _ => rfl) ?_
        have e_23 : zq_i (zq_si s_18 (252) (x1) (x_19 - 48)) (232) (25) = zq_i s_18 (232) (25) := by simp [zq_i_si, zq_i_sr, zq_i_sl]
        refine zq_have (fun hR_24 => ?_)
        have g_25 : zq_iv (zq_i (zq_si s_18 (252) (x1) (x_19 - 48)) (232) (25)) := (hR_24.1 _ _)
        rw [e_23] at g_25
        refine zq_getf_i (j := 25) (v := zq_i s_18 (232) (25)) rfl zq_a232 rfl rfl e_23 ?_
        refine zq_run 1 (pc' := 230) (L' := [(.ref (232)), (zq_vi (x1)), (zq_vi (x2)), (zq_vi (x3)), (zq_vi (x_8))]) (st' := [(zq_vi (8)), (zq_vi (zq_i s_18 (232) (25))), (.ref (232))]) (fun _ _ _ => rfl) ?_
        refine zq_iadd rfl ?_
        obtain ⟨g_26, w⟩ := w
        refine zq_putf_i (j := 25) rfl zq_a232 rfl rfl rfl g_26 ?_
        refine zq_run 1 (pc' := 235) (L' := [(.ref (232)), (zq_vi (x1)), (zq_vi (x2)), (zq_vi (x3)), (zq_vi (x_8))]) (st' := [(zq_vi (1))]) (fun _ _ _ => rfl) ?_
        exact zq_iret rfl rfl (congrArg Value.int (zq_nb (of_decide_eq_true rfl))) (⟨_, rfl, (of_decide_eq_true rfl), w⟩)
      · rw [if_pos hb_14] at w
        refine zq_run 2 (pc' := 194) (L' := [(.ref (232)), (zq_vi (x1)), (zq_vi (x2)), (zq_vi (x3)), (zq_vi (x_8))]) (st' := [(zq_vi (2)), (zq_vi (x1)), (.ref (250))]) (fun _ _ _ => rfl) ?_
        obtain ⟨g_27, w⟩ := w
        refine zq_ast_i rfl zq_a250 g_27.1 g_27.2 (of_decide_eq_true rfl) ?_
        refine zq_run 1 (pc' := 196) (L' := [(.ref (232)), (zq_vi (x1)), (zq_vi (x2)), (zq_vi (x3)), (zq_vi (x_8))]) (st' := [(.ref (232))]) (fun _ _ _ => rfl) ?_
        refine zq_getf_f (b := 251) rfl zq_a232 rfl rfl ?_
        refine zq_run 2 (pc' := 202) (L' := [(.ref (232)), (zq_vi (x1)), (zq_vi (x2)), (zq_vi (x3)), (zq_vi (x_8))]) (st' := [(zq_vi (x_8)), (zq_vi (x1)), (.ref (251))]) (fun _ _ _ => rfl) ?_
        obtain ⟨g_28, w⟩ := w
        refine zq_ast_i rfl zq_a251 g_28.1 g_28.2 hx_9 ?_
        refine zq_run 1 (pc' := 204) (L' := [(.ref (232)), (zq_vi (x1)), (zq_vi (x2)), (zq_vi (x3)), (zq_vi (x_8))]) (st' := [(.ref (232))]) (fun _ _ _ => rfl) ?_
        refine zq_getf_f (b := 252) rfl zq_a232 rfl rfl ?_
        refine zq_run 4 (pc' := 211) (L' := [(.ref (232)), (zq_vi (x1)), (zq_vi (x2)), (zq_vi (x3)), (zq_vi (x_8))]) (st' := [(.ref (232)), (zq_vi (1)), (.ref (232)), (zq_vi (x1)), (.ref (252))]) (fun _ _ _ => rfl) ?_
        have e_29 : zq_i (zq_si (zq_si s_7 (250) (x1) (2)) (251) (x1) (x_8)) (232) (25) = zq_i s_7 (232) (25) := by simp [zq_i_si, zq_i_sr, zq_i_sl]
        refine zq_getf_i (j := 25) (v := zq_i s_7 (232) (25)) rfl zq_a232 rfl rfl e_29 ?_
        refine zq_run 1 (pc' := 215) (L' := [(.ref (232)), (zq_vi (x1)), (zq_vi (x2)), (zq_vi (x3)), (zq_vi (x_8))]) (st' := [(zq_vi (4)), (zq_vi (zq_i s_7 (232) (25))), (zq_vi (1)), (.ref (232)), (zq_vi (x1)), (.ref (252))]) (fun _ _ _ => rfl) ?_
        refine zq_iadd rfl ?_
        refine zq_call_i (i := .invokevirtual 119) (r := [1, 147, 2, 1, 9]) rfl rfl (fun h hp => zr_avv rfl (hp.obj zq_a232)) (of_decide_eq_false rfl) w (fun x_31 s_30 hx_32 w => ?_)
        refine zq_run 1 (pc' := 221) (L' := [(.ref (232)), (zq_vi (x1)), (zq_vi (x2)), (zq_vi (x3)), (zq_vi (x_8))]) (st' := [(zq_vi (48)), (zq_vi (x_31)), (zq_vi (x1)), (.ref (252))]) (fun _ _ _ => rfl) ?_
        refine zq_isub rfl ?_
        obtain ⟨g_33, w⟩ := w
        obtain ⟨g_34, w⟩ := w
        refine zq_ast_i rfl zq_a252 g_33.1 g_33.2 g_34 ?_
        refine zq_run 2 (pc' := 225) (L' := [(.ref (232)), (zq_vi (x1)), (zq_vi (x2)), (zq_vi (x3)), (zq_vi (x_8))]) (st' := [(.ref (232)), (.ref (232))]) (fun _ _ _ => rfl) ?_
        have e_35 : zq_i (zq_si s_30 (252) (x1) (x_31 - 48)) (232) (25) = zq_i s_30 (232) (25) := by simp [zq_i_si, zq_i_sr, zq_i_sl]
        refine zq_have (fun hR_36 => ?_)
        have g_37 : zq_iv (zq_i (zq_si s_30 (252) (x1) (x_31 - 48)) (232) (25)) := (hR_36.1 _ _)
        rw [e_35] at g_37
        refine zq_getf_i (j := 25) (v := zq_i s_30 (232) (25)) rfl zq_a232 rfl rfl e_35 ?_
        refine zq_run 1 (pc' := 230) (L' := [(.ref (232)), (zq_vi (x1)), (zq_vi (x2)), (zq_vi (x3)), (zq_vi (x_8))]) (st' := [(zq_vi (8)), (zq_vi (zq_i s_30 (232) (25))), (.ref (232))]) (fun _ _ _ => rfl) ?_
        refine zq_iadd rfl ?_
        obtain ⟨g_38, w⟩ := w
        refine zq_putf_i (j := 25) rfl zq_a232 rfl rfl rfl g_38 ?_
        refine zq_run 1 (pc' := 235) (L' := [(.ref (232)), (zq_vi (x1)), (zq_vi (x2)), (zq_vi (x3)), (zq_vi (x_8))]) (st' := [(zq_vi (1))]) (fun _ _ _ => rfl) ?_
        exact zq_iret rfl rfl (congrArg Value.int (zq_nb (of_decide_eq_true rfl))) (⟨_, rfl, (of_decide_eq_true rfl), w⟩)
  · rw [if_neg hb_5] at w
    refine zq_run 1 (pc' := 151) (L' := [(.ref (232)), (zq_vi (x1)), (zq_vi (x2)), (zq_vi (x3)), v4]) (st' := [(zq_vi (0))]) (fun _ _ _ => rfl) ?_
    exact zq_iret rfl rfl (congrArg Value.int (zq_nb (of_decide_eq_true rfl))) (⟨_, rfl, (of_decide_eq_true rfl), w⟩)
set_option maxRecDepth 100000 in
/-- PaperObjectsModel.copyScratch()V -/
theorem zw_210 {X : Nat × (Nat → Int32)} {s : zq_S} {K : zq_S → Prop}  (w : zq_Ex X 210 2 [(.ref (232)), (zq_vi (0))] [] s (zq_rv K)) : zq_Ex X 210 0 [(.ref (232)), zz_no] [] s (zq_rv K) := by
  refine zq_run 2 (pc' := 2) (L' := [(.ref (232)), (zq_vi (0))]) (st' := []) (fun _ _ _ => rfl) ?_
  exact w
set_option maxRecDepth 100000 in
/-- PaperObjectsModel.copyScratch at 2 -/
theorem zw_210_2 {X : Nat × (Nat → Int32)} {s : zq_S} {K : zq_S → Prop} {x1 : Int} (hx1 : zq_iv x1) (w : (if x1 < zq_i s (232) (23) then (if x1 < 500 then (((0 : Int) ≤ x1 ∧ x1 < (700 : Int)) ∧ (((0 : Int) ≤ x1 ∧ x1 < (500 : Int)) ∧ zq_Ex X 210 2 [(.ref (232)), (zq_vi (x1 + 1))] [] (zq_si s (235) (x1) (zq_i s (245) (x1))) (zq_rv K))) else K (zq_si s (232) (5) (zq_i s (232) (23)))) else K (zq_si s (232) (5) (zq_i s (232) (23))))) : zq_Ex X 210 2 [(.ref (232)), (zq_vi (x1))] [] s (zq_rv K) := by
  refine zq_run 2 (pc' := 4) (L' := [(.ref (232)), (zq_vi (x1))]) (st' := [(.ref (232)), (zq_vi (x1))]) (fun _ _ _ => rfl) ?_
  refine zq_have (fun hR_1 => ?_)
  refine zq_getf_i (j := 23) (v := zq_i s (232) (23)) rfl zq_a232 rfl rfl rfl ?_
  refine zq_ge rfl hx1 (hR_1.1 _ _) (fun hb_2 => ?_) (fun hb_2 => ?_)
  · rw [if_neg hb_2] at w
    refine zq_run 2 (pc' := 37) (L' := [(.ref (232)), (zq_vi (x1))]) (st' := [(.ref (232)), (.ref (232))]) (fun _ _ _ => rfl) ?_
    refine zq_getf_i (j := 23) (v := zq_i s (232) (23)) rfl zq_a232 rfl rfl rfl ?_
    refine zq_putf_i (j := 5) rfl zq_a232 rfl rfl rfl (hR_1.1 _ _) ?_
    exact zq_vret rfl rfl (⟨rfl, w⟩)
  · rw [if_pos hb_2] at w
    refine zq_run 2 (pc' := 14) (L' := [(.ref (232)), (zq_vi (x1))]) (st' := [(zq_vi (500)), (zq_vi (x1))]) (fun _ _ _ => rfl) ?_
    refine zq_ge rfl hx1 (of_decide_eq_true rfl) (fun hb_3 => ?_) (fun hb_3 => ?_)
    · rw [if_neg hb_3] at w
      refine zq_run 2 (pc' := 37) (L' := [(.ref (232)), (zq_vi (x1))]) (st' := [(.ref (232)), (.ref (232))]) (fun _ _ _ => rfl) ?_
      refine zq_getf_i (j := 23) (v := zq_i s (232) (23)) rfl zq_a232 rfl rfl rfl ?_
      refine zq_putf_i (j := 5) rfl zq_a232 rfl rfl rfl (hR_1.1 _ _) ?_
      exact zq_vret rfl rfl (⟨rfl, w⟩)
    · rw [if_pos hb_3] at w
      refine zq_run 1 (pc' := 18) (L' := [(.ref (232)), (zq_vi (x1))]) (st' := [(.ref (232))]) (fun _ _ _ => rfl) ?_
      refine zq_getf_f (b := 235) rfl zq_a232 rfl rfl ?_
      refine zq_run 2 (pc' := 23) (L' := [(.ref (232)), (zq_vi (x1))]) (st' := [(.ref (232)), (zq_vi (x1)), (.ref (235))]) (fun _ _ _ => rfl) ?_
      refine zq_getf_f (b := 245) rfl zq_a232 rfl rfl ?_
      refine zq_run 1 (pc' := 27) (L' := [(.ref (232)), (zq_vi (x1))]) (st' := [(zq_vi (x1)), (.ref (245)), (zq_vi (x1)), (.ref (235))]) (fun _ _ _ => rfl) ?_
      obtain ⟨g_4, w⟩ := w
      refine zq_ald_c (v := zq_i s (245) (x1)) rfl zq_a245 g_4.1 g_4.2 rfl ?_
      obtain ⟨g_5, w⟩ := w
      refine zq_ast_c rfl zq_a235 g_5.1 g_5.2 (hR_1.2.1 _ _ _ zq_a245) ?_
      refine zq_iinc (L' := [(.ref (232)), (zq_vi (x1 + 1))]) rfl rfl rfl ?_
      refine zq_run 1 (pc' := 2) (L' := [(.ref (232)), (zq_vi (x1 + 1))]) (st' := []) (fun _ _ _ => rfl) ?_
      exact w
set_option maxRecDepth 100000 in
/-- PaperObjectsModel.readObject(I)Z -/
theorem zw_211 {X : Nat × (Nat → Int32)} {s : zq_S} {K : Int → zq_S → Prop} {x1 : Int} (hx1 : zq_iv x1) (w : (zq_Ex X 212 0 [(.ref (232)), (zq_vi (x1)), zz_no, zz_no] [] s (zq_rp zq_bo fun x_2 s_1 => (if x_2 = 0 then (((0 : Int) ≤ x1 ∧ x1 < (10 : Int)) ∧ (zq_Ex X 206 0 [(.ref (232)), (zq_vi (3)), (zq_vi (zq_i s_1 (251) (x1)))] [] s_1 (zq_rp zq_bo fun x_79 s_78 => K (x_79) s_78))) else (zq_Ex X 147 0 [(.ref (232)), (zq_vi (1)), (zq_vi (zq_i s_1 (232) (25)))] [] s_1 (zq_rp zq_ch fun x_7 s_6 => (if x_7 = 10 then (zq_Ex X 213 0 [(.ref (232)), (zq_vi ((zq_i s_1 (232) (25)) + 1))] [] s_6 (zq_rp zq_bo fun x_11 s_10 => (if x_11 = 0 then (zq_Ex X 164 0 [(.ref (232)), (zq_vi (1)), (zq_vi ((zq_i s_1 (232) (25)) + 1)), (zq_vi (115)), (zq_vi (116)), (zq_vi (114)), (zq_vi (101))] [] s_10 (zq_rp zq_bo fun x_15 s_14 => (if x_15 = 0 then (zq_Ex X 210 0 [(.ref (232)), zz_no] [] s_14 (zq_rv fun s_18 => (((0 : Int) ≤ x1 ∧ x1 < (10 : Int)) ∧ (zq_Ex X 206 0 [(.ref (232)), (zq_vi (3)), (zq_vi (zq_i s_18 (251) (x1)))] [] s_18 (zq_rp zq_bo fun x_22 s_21 => K (x_22) s_21))))) else (zq_Ex X 147 0 [(.ref (232)), (zq_vi (1)), (zq_vi ((zq_i s_1 (232) (25)) + 5))] [] s_14 (zq_rp zq_ch fun x_25 s_24 => (if x_25 = 97 then (zq_Ex X 147 0 [(.ref (232)), (zq_vi (1)), (zq_vi ((zq_i s_1 (232) (25)) + 6))] [] s_24 (zq_rp zq_ch fun x_35 s_34 => (if x_35 = 109 then (zq_Ex X 147 0 [(.ref (232)), (zq_vi (1)), (zq_vi ((zq_i s_1 (232) (25)) + 7))] [] s_34 (zq_rp zq_ch fun x_45 s_44 => (if x_45 = 10 then (zq_Ex X 210 0 [(.ref (232)), zz_no] [] s_44 (zq_rv fun s_54 => (zq_Ex X 159 0 [(.ref (232)), (zq_vi (2)), (zq_vi (0)), zz_no, zz_no] [] s_54 (zq_rp zq_iv fun x_56 s_55 => (if x_56 = 7 then (zq_Ex X 214 0 [(.ref (232)), (zq_vi (x1)), zz_no, zz_no, zz_no, zz_no] [] s_55 (zq_rp zq_iv fun x_60 s_59 => (if x_60 < 0 then K (0) s_59 else (zq_Ex X 215 0 [(.ref (232)), (zq_vi (((zq_i s_1 (232) (25)) + 8) + x_60))] [] s_59 (zq_rp zq_bo fun x_64 s_63 => zq_Ex X 211 192 [(.ref (232)), (zq_vi (x1)), (zq_vi (zq_i s_1 (232) (25))), (zq_vi (1)), (zq_vi (x_60)), (zq_vi (x_64)), (zq_vi (0))] [] s_63 (zq_rp zq_bo K)))))) else (((0 : Int) ≤ x1 ∧ x1 < (10 : Int)) ∧ (zq_Ex X 206 0 [(.ref (232)), (zq_vi (3)), (zq_vi (zq_i s_55 (251) (x1)))] [] s_55 (zq_rp zq_bo fun x_69 s_68 => K (x_69) s_68)))))))) else (zq_Ex X 210 0 [(.ref (232)), zz_no] [] s_44 (zq_rv fun s_48 => (((0 : Int) ≤ x1 ∧ x1 < (10 : Int)) ∧ (zq_Ex X 206 0 [(.ref (232)), (zq_vi (3)), (zq_vi (zq_i s_48 (251) (x1)))] [] s_48 (zq_rp zq_bo fun x_52 s_51 => K (x_52) s_51)))))))) else (zq_Ex X 210 0 [(.ref (232)), zz_no] [] s_34 (zq_rv fun s_38 => (((0 : Int) ≤ x1 ∧ x1 < (10 : Int)) ∧ (zq_Ex X 206 0 [(.ref (232)), (zq_vi (3)), (zq_vi (zq_i s_38 (251) (x1)))] [] s_38 (zq_rp zq_bo fun x_42 s_41 => K (x_42) s_41)))))))) else (zq_Ex X 210 0 [(.ref (232)), zz_no] [] s_24 (zq_rv fun s_28 => (((0 : Int) ≤ x1 ∧ x1 < (10 : Int)) ∧ (zq_Ex X 206 0 [(.ref (232)), (zq_vi (3)), (zq_vi (zq_i s_28 (251) (x1)))] [] s_28 (zq_rp zq_bo fun x_32 s_31 => K (x_32) s_31))))))))))) else K (1) (zq_si s_10 (232) (27) ((-1)))))) else (((0 : Int) ≤ x1 ∧ x1 < (10 : Int)) ∧ (zq_Ex X 206 0 [(.ref (232)), (zq_vi (3)), (zq_vi (zq_i s_6 (251) (x1)))] [] s_6 (zq_rp zq_bo fun x_74 s_73 => K (x_74) s_73)))))))))) : zq_Ex X 211 0 [(.ref (232)), (zq_vi (x1)), zz_no, zz_no, zz_no, zz_no, zz_no] [] s (zq_rp zq_bo K) := by
  refine zq_run 2 (pc' := 2) (L' := [(.ref (232)), (zq_vi (x1)), zz_no, zz_no, zz_no, zz_no, zz_no]) (st' := [(zq_vi (x1)), (.ref (232))]) (fun _ _ _ => rfl) ?_
  refine zq_call_i (i := .invokevirtual 374) (r := [1, 212, 1, 1, 9]) rfl rfl (fun h hp => zr_avv rfl (hp.obj zq_a232)) (of_decide_eq_false rfl) w (fun x_2 s_1 hx_3 w => ?_)
  refine zq_ne0 rfl (zq_bo_in hx_3) (fun hb_4 => ?_) (fun hb_4 => ?_)
  · rw [if_neg hb_4] at w
    refine zq_run 1 (pc' := 21) (L' := [(.ref (232)), (zq_vi (x1)), zz_no, zz_no, zz_no, zz_no, zz_no]) (st' := [(.ref (232))]) (fun _ _ _ => rfl) ?_
    refine zq_have (fun hR_5 => ?_)
    refine zq_getf_i (j := 25) (v := zq_i s_1 (232) (25)) rfl zq_a232 rfl rfl rfl ?_
    refine zq_run 4 (pc' := 28) (L' := [(.ref (232)), (zq_vi (x1)), (zq_vi (zq_i s_1 (232) (25))), zz_no, zz_no, zz_no, zz_no]) (st' := [(zq_vi (zq_i s_1 (232) (25))), (zq_vi (1)), (.ref (232))]) (fun _ _ _ => rfl) ?_
    refine zq_call_i (i := .invokevirtual 119) (r := [1, 147, 2, 1, 9]) rfl rfl (fun h hp => zr_avv rfl (hp.obj zq_a232)) (of_decide_eq_false rfl) w (fun x_7 s_6 hx_8 w => ?_)
    refine zq_run 1 (pc' := 33) (L' := [(.ref (232)), (zq_vi (x1)), (zq_vi (zq_i s_1 (232) (25))), zz_no, zz_no, zz_no, zz_no]) (st' := [(zq_vi (10)), (zq_vi (x_7))]) (fun _ _ _ => rfl) ?_
    refine zq_eq rfl (zq_ch_in hx_8) (of_decide_eq_true rfl) (fun hb_9 => ?_) (fun hb_9 => ?_)
    · rw [if_pos hb_9] at w
      refine zq_run 3 (pc' := 51) (L' := [(.ref (232)), (zq_vi (x1)), (zq_vi (zq_i s_1 (232) (25))), zz_no, zz_no, zz_no, zz_no]) (st' := [(zq_vi (1)), (zq_vi (zq_i s_1 (232) (25))), (.ref (232))]) (fun _ _ _ => rfl) ?_
      refine zq_iadd rfl ?_
      refine zq_call_i (i := .invokevirtual 377) (r := [1, 213, 1, 1, 9]) rfl rfl (fun h hp => zr_avv rfl (hp.obj zq_a232)) (of_decide_eq_false rfl) w (fun x_11 s_10 hx_12 w => ?_)
      refine zq_eq0 rfl (zq_bo_in hx_12) (fun hb_13 => ?_) (fun hb_13 => ?_)
      · rw [if_pos hb_13] at w
        refine zq_run 4 (pc' := 69) (L' := [(.ref (232)), (zq_vi (x1)), (zq_vi (zq_i s_1 (232) (25))), zz_no, zz_no, zz_no, zz_no]) (st' := [(zq_vi (1)), (zq_vi (zq_i s_1 (232) (25))), (zq_vi (1)), (.ref (232))]) (fun _ _ _ => rfl) ?_
        refine zq_iadd rfl ?_
        refine zq_run 4 (pc' := 78) (L' := [(.ref (232)), (zq_vi (x1)), (zq_vi (zq_i s_1 (232) (25))), zz_no, zz_no, zz_no, zz_no]) (st' := [(zq_vi (101)), (zq_vi (114)), (zq_vi (116)), (zq_vi (115)), (zq_vi ((zq_i s_1 (232) (25)) + 1)), (zq_vi (1)), (.ref (232))]) (fun _ _ _ => rfl) ?_
        refine zq_call_i (i := .invokevirtual 154) (r := [1, 164, 6, 1, 9]) rfl rfl (fun h hp => zr_avv rfl (hp.obj zq_a232)) (of_decide_eq_false rfl) w (fun x_15 s_14 hx_16 w => ?_)
        refine zq_eq0 rfl (zq_bo_in hx_16) (fun hb_17 => ?_) (fun hb_17 => ?_)
        · rw [if_pos hb_17] at w
          refine zq_run 3 (pc' := 132) (L' := [(.ref (232)), (zq_vi (x1)), (zq_vi (zq_i s_1 (232) (25))), (zq_vi (0)), zz_no, zz_no, zz_no]) (st' := [(.ref (232))]) (fun _ _ _ => rfl) ?_
          refine zq_call_v (i := .invokevirtual 351) (r := [1, 210, 0, 1, 9]) rfl rfl (fun h hp => zr_avv rfl (hp.obj zq_a232)) (of_decide_eq_false rfl) w (fun s_18 w => ?_)
          refine zq_run 1 (pc' := 136) (L' := [(.ref (232)), (zq_vi (x1)), (zq_vi (zq_i s_1 (232) (25))), (zq_vi (0)), zz_no, zz_no, zz_no]) (st' := [(zq_vi (0))]) (fun _ _ _ => rfl) ?_
          refine zq_eq0 rfl (of_decide_eq_true rfl) (fun _ => ?_) (fun hb => absurd (by decide) hb)
          refine zq_run 3 (pc' := 153) (L' := [(.ref (232)), (zq_vi (x1)), (zq_vi (zq_i s_1 (232) (25))), (zq_vi (0)), zz_no, zz_no, zz_no]) (st' := [(.ref (232)), (zq_vi (3)), (.ref (232))]) (fun _ _ _ => rfl) ?_
          refine zq_getf_f (b := 251) rfl zq_a232 rfl rfl ?_
          refine zq_run 1 (pc' := 157) (L' := [(.ref (232)), (zq_vi (x1)), (zq_vi (zq_i s_1 (232) (25))), (zq_vi (0)), zz_no, zz_no, zz_no]) (st' := [(zq_vi (x1)), (.ref (251)), (zq_vi (3)), (.ref (232))]) (fun _ _ _ => rfl) ?_
          obtain ⟨g_19, w⟩ := w
          refine zq_have (fun hR_20 => ?_)
          refine zq_ald_i (v := zq_i s_18 (251) (x1)) rfl zq_a251 g_19.1 g_19.2 rfl ?_
          refine zq_call_i (i := .invokevirtual 367) (r := [1, 206, 2, 1, 9]) rfl rfl (fun h hp => zr_avv rfl (hp.obj zq_a232)) (of_decide_eq_false rfl) w (fun x_22 s_21 hx_23 w => ?_)
          exact zq_iret rfl rfl (congrArg Value.int (zq_nb hx_23)) (⟨_, rfl, hx_23, w⟩)
        · rw [if_neg hb_17] at w
          refine zq_run 4 (pc' := 88) (L' := [(.ref (232)), (zq_vi (x1)), (zq_vi (zq_i s_1 (232) (25))), zz_no, zz_no, zz_no, zz_no]) (st' := [(zq_vi (5)), (zq_vi (zq_i s_1 (232) (25))), (zq_vi (1)), (.ref (232))]) (fun _ _ _ => rfl) ?_
          refine zq_iadd rfl ?_
          refine zq_call_i (i := .invokevirtual 119) (r := [1, 147, 2, 1, 9]) rfl rfl (fun h hp => zr_avv rfl (hp.obj zq_a232)) (of_decide_eq_false rfl) w (fun x_25 s_24 hx_26 w => ?_)
          refine zq_run 1 (pc' := 94) (L' := [(.ref (232)), (zq_vi (x1)), (zq_vi (zq_i s_1 (232) (25))), zz_no, zz_no, zz_no, zz_no]) (st' := [(zq_vi (97)), (zq_vi (x_25))]) (fun _ _ _ => rfl) ?_
          refine zq_ne rfl (zq_ch_in hx_26) (of_decide_eq_true rfl) (fun hb_27 => ?_) (fun hb_27 => ?_)
          · rw [if_neg hb_27] at w
            refine zq_run 3 (pc' := 132) (L' := [(.ref (232)), (zq_vi (x1)), (zq_vi (zq_i s_1 (232) (25))), (zq_vi (0)), zz_no, zz_no, zz_no]) (st' := [(.ref (232))]) (fun _ _ _ => rfl) ?_
            refine zq_call_v (i := .invokevirtual 351) (r := [1, 210, 0, 1, 9]) rfl rfl (fun h hp => zr_avv rfl (hp.obj zq_a232)) (of_decide_eq_false rfl) w (fun s_28 w => ?_)
            refine zq_run 1 (pc' := 136) (L' := [(.ref (232)), (zq_vi (x1)), (zq_vi (zq_i s_1 (232) (25))), (zq_vi (0)), zz_no, zz_no, zz_no]) (st' := [(zq_vi (0))]) (fun _ _ _ => rfl) ?_
            refine zq_eq0 rfl (of_decide_eq_true rfl) (fun _ => ?_) (fun hb => absurd (by decide) hb)
            refine zq_run 3 (pc' := 153) (L' := [(.ref (232)), (zq_vi (x1)), (zq_vi (zq_i s_1 (232) (25))), (zq_vi (0)), zz_no, zz_no, zz_no]) (st' := [(.ref (232)), (zq_vi (3)), (.ref (232))]) (fun _ _ _ => rfl) ?_
            refine zq_getf_f (b := 251) rfl zq_a232 rfl rfl ?_
            refine zq_run 1 (pc' := 157) (L' := [(.ref (232)), (zq_vi (x1)), (zq_vi (zq_i s_1 (232) (25))), (zq_vi (0)), zz_no, zz_no, zz_no]) (st' := [(zq_vi (x1)), (.ref (251)), (zq_vi (3)), (.ref (232))]) (fun _ _ _ => rfl) ?_
            obtain ⟨g_29, w⟩ := w
            refine zq_have (fun hR_30 => ?_)
            refine zq_ald_i (v := zq_i s_28 (251) (x1)) rfl zq_a251 g_29.1 g_29.2 rfl ?_
            refine zq_call_i (i := .invokevirtual 367) (r := [1, 206, 2, 1, 9]) rfl rfl (fun h hp => zr_avv rfl (hp.obj zq_a232)) (of_decide_eq_false rfl) w (fun x_32 s_31 hx_33 w => ?_)
            exact zq_iret rfl rfl (congrArg Value.int (zq_nb hx_33)) (⟨_, rfl, hx_33, w⟩)
          · rw [if_pos hb_27] at w
            refine zq_run 4 (pc' := 102) (L' := [(.ref (232)), (zq_vi (x1)), (zq_vi (zq_i s_1 (232) (25))), zz_no, zz_no, zz_no, zz_no]) (st' := [(zq_vi (6)), (zq_vi (zq_i s_1 (232) (25))), (zq_vi (1)), (.ref (232))]) (fun _ _ _ => rfl) ?_
            refine zq_iadd rfl ?_
            refine zq_call_i (i := .invokevirtual 119) (r := [1, 147, 2, 1, 9]) rfl rfl (fun h hp => zr_avv rfl (hp.obj zq_a232)) (of_decide_eq_false rfl) w (fun x_35 s_34 hx_36 w => ?_)
            refine zq_run 1 (pc' := 108) (L' := [(.ref (232)), (zq_vi (x1)), (zq_vi (zq_i s_1 (232) (25))), zz_no, zz_no, zz_no, zz_no]) (st' := [(zq_vi (109)), (zq_vi (x_35))]) (fun _ _ _ => rfl) ?_
            refine zq_ne rfl (zq_ch_in hx_36) (of_decide_eq_true rfl) (fun hb_37 => ?_) (fun hb_37 => ?_)
            · rw [if_neg hb_37] at w
              refine zq_run 3 (pc' := 132) (L' := [(.ref (232)), (zq_vi (x1)), (zq_vi (zq_i s_1 (232) (25))), (zq_vi (0)), zz_no, zz_no, zz_no]) (st' := [(.ref (232))]) (fun _ _ _ => rfl) ?_
              refine zq_call_v (i := .invokevirtual 351) (r := [1, 210, 0, 1, 9]) rfl rfl (fun h hp => zr_avv rfl (hp.obj zq_a232)) (of_decide_eq_false rfl) w (fun s_38 w => ?_)
              refine zq_run 1 (pc' := 136) (L' := [(.ref (232)), (zq_vi (x1)), (zq_vi (zq_i s_1 (232) (25))), (zq_vi (0)), zz_no, zz_no, zz_no]) (st' := [(zq_vi (0))]) (fun _ _ _ => rfl) ?_
              refine zq_eq0 rfl (of_decide_eq_true rfl) (fun _ => ?_) (fun hb => absurd (by decide) hb)
              refine zq_run 3 (pc' := 153) (L' := [(.ref (232)), (zq_vi (x1)), (zq_vi (zq_i s_1 (232) (25))), (zq_vi (0)), zz_no, zz_no, zz_no]) (st' := [(.ref (232)), (zq_vi (3)), (.ref (232))]) (fun _ _ _ => rfl) ?_
              refine zq_getf_f (b := 251) rfl zq_a232 rfl rfl ?_
              refine zq_run 1 (pc' := 157) (L' := [(.ref (232)), (zq_vi (x1)), (zq_vi (zq_i s_1 (232) (25))), (zq_vi (0)), zz_no, zz_no, zz_no]) (st' := [(zq_vi (x1)), (.ref (251)), (zq_vi (3)), (.ref (232))]) (fun _ _ _ => rfl) ?_
              obtain ⟨g_39, w⟩ := w
              refine zq_have (fun hR_40 => ?_)
              refine zq_ald_i (v := zq_i s_38 (251) (x1)) rfl zq_a251 g_39.1 g_39.2 rfl ?_
              refine zq_call_i (i := .invokevirtual 367) (r := [1, 206, 2, 1, 9]) rfl rfl (fun h hp => zr_avv rfl (hp.obj zq_a232)) (of_decide_eq_false rfl) w (fun x_42 s_41 hx_43 w => ?_)
              exact zq_iret rfl rfl (congrArg Value.int (zq_nb hx_43)) (⟨_, rfl, hx_43, w⟩)
            · rw [if_pos hb_37] at w
              refine zq_run 4 (pc' := 116) (L' := [(.ref (232)), (zq_vi (x1)), (zq_vi (zq_i s_1 (232) (25))), zz_no, zz_no, zz_no, zz_no]) (st' := [(zq_vi (7)), (zq_vi (zq_i s_1 (232) (25))), (zq_vi (1)), (.ref (232))]) (fun _ _ _ => rfl) ?_
              refine zq_iadd rfl ?_
              refine zq_call_i (i := .invokevirtual 119) (r := [1, 147, 2, 1, 9]) rfl rfl (fun h hp => zr_avv rfl (hp.obj zq_a232)) (of_decide_eq_false rfl) w (fun x_45 s_44 hx_46 w => ?_)
              refine zq_run 1 (pc' := 122) (L' := [(.ref (232)), (zq_vi (x1)), (zq_vi (zq_i s_1 (232) (25))), zz_no, zz_no, zz_no, zz_no]) (st' := [(zq_vi (10)), (zq_vi (x_45))]) (fun _ _ _ => rfl) ?_
              refine zq_ne rfl (zq_ch_in hx_46) (of_decide_eq_true rfl) (fun hb_47 => ?_) (fun hb_47 => ?_)
              · rw [if_neg hb_47] at w
                refine zq_run 3 (pc' := 132) (L' := [(.ref (232)), (zq_vi (x1)), (zq_vi (zq_i s_1 (232) (25))), (zq_vi (0)), zz_no, zz_no, zz_no]) (st' := [(.ref (232))]) (fun _ _ _ => rfl) ?_
                refine zq_call_v (i := .invokevirtual 351) (r := [1, 210, 0, 1, 9]) rfl rfl (fun h hp => zr_avv rfl (hp.obj zq_a232)) (of_decide_eq_false rfl) w (fun s_48 w => ?_)
                refine zq_run 1 (pc' := 136) (L' := [(.ref (232)), (zq_vi (x1)), (zq_vi (zq_i s_1 (232) (25))), (zq_vi (0)), zz_no, zz_no, zz_no]) (st' := [(zq_vi (0))]) (fun _ _ _ => rfl) ?_
                refine zq_eq0 rfl (of_decide_eq_true rfl) (fun _ => ?_) (fun hb => absurd (by decide) hb)
                refine zq_run 3 (pc' := 153) (L' := [(.ref (232)), (zq_vi (x1)), (zq_vi (zq_i s_1 (232) (25))), (zq_vi (0)), zz_no, zz_no, zz_no]) (st' := [(.ref (232)), (zq_vi (3)), (.ref (232))]) (fun _ _ _ => rfl) ?_
                refine zq_getf_f (b := 251) rfl zq_a232 rfl rfl ?_
                refine zq_run 1 (pc' := 157) (L' := [(.ref (232)), (zq_vi (x1)), (zq_vi (zq_i s_1 (232) (25))), (zq_vi (0)), zz_no, zz_no, zz_no]) (st' := [(zq_vi (x1)), (.ref (251)), (zq_vi (3)), (.ref (232))]) (fun _ _ _ => rfl) ?_
                obtain ⟨g_49, w⟩ := w
                refine zq_have (fun hR_50 => ?_)
                refine zq_ald_i (v := zq_i s_48 (251) (x1)) rfl zq_a251 g_49.1 g_49.2 rfl ?_
                refine zq_call_i (i := .invokevirtual 367) (r := [1, 206, 2, 1, 9]) rfl rfl (fun h hp => zr_avv rfl (hp.obj zq_a232)) (of_decide_eq_false rfl) w (fun x_52 s_51 hx_53 w => ?_)
                exact zq_iret rfl rfl (congrArg Value.int (zq_nb hx_53)) (⟨_, rfl, hx_53, w⟩)
              · rw [if_pos hb_47] at w
                refine zq_run 4 (pc' := 132) (L' := [(.ref (232)), (zq_vi (x1)), (zq_vi (zq_i s_1 (232) (25))), (zq_vi (1)), zz_no, zz_no, zz_no]) (st' := [(.ref (232))]) (fun _ _ _ => rfl) ?_
                refine zq_call_v (i := .invokevirtual 351) (r := [1, 210, 0, 1, 9]) rfl rfl (fun h hp => zr_avv rfl (hp.obj zq_a232)) (of_decide_eq_false rfl) w (fun s_54 w => ?_)
                refine zq_run 1 (pc' := 136) (L' := [(.ref (232)), (zq_vi (x1)), (zq_vi (zq_i s_1 (232) (25))), (zq_vi (1)), zz_no, zz_no, zz_no]) (st' := [(zq_vi (1))]) (fun _ _ _ => rfl) ?_
                refine zq_eq0 rfl (of_decide_eq_true rfl) (fun hb => absurd hb (by decide)) (fun _ => ?_)
                refine zq_run 3 (pc' := 142) (L' := [(.ref (232)), (zq_vi (x1)), (zq_vi (zq_i s_1 (232) (25))), (zq_vi (1)), zz_no, zz_no, zz_no]) (st' := [(zq_vi (0)), (zq_vi (2)), (.ref (232))]) (fun _ _ _ => rfl) ?_
                refine zq_call_i (i := .invokevirtual 202) (r := [1, 159, 2, 1, 9]) rfl rfl (fun h hp => zr_avv rfl (hp.obj zq_a232)) (of_decide_eq_false rfl) w (fun x_56 s_55 hx_57 w => ?_)
                refine zq_run 1 (pc' := 147) (L' := [(.ref (232)), (zq_vi (x1)), (zq_vi (zq_i s_1 (232) (25))), (zq_vi (1)), zz_no, zz_no, zz_no]) (st' := [(zq_vi (7)), (zq_vi (x_56))]) (fun _ _ _ => rfl) ?_
                refine zq_eq rfl hx_57 (of_decide_eq_true rfl) (fun hb_58 => ?_) (fun hb_58 => ?_)
                · rw [if_pos hb_58] at w
                  refine zq_run 2 (pc' := 164) (L' := [(.ref (232)), (zq_vi (x1)), (zq_vi (zq_i s_1 (232) (25))), (zq_vi (1)), zz_no, zz_no, zz_no]) (st' := [(zq_vi (x1)), (.ref (232))]) (fun _ _ _ => rfl) ?_
                  refine zq_call_i (i := .invokevirtual 380) (r := [1, 214, 1, 1, 9]) rfl rfl (fun h hp => zr_avv rfl (hp.obj zq_a232)) (of_decide_eq_false rfl) w (fun x_60 s_59 hx_61 w => ?_)
                  refine zq_run 2 (pc' := 171) (L' := [(.ref (232)), (zq_vi (x1)), (zq_vi (zq_i s_1 (232) (25))), (zq_vi (1)), (zq_vi (x_60)), zz_no, zz_no]) (st' := [(zq_vi (x_60))]) (fun _ _ _ => rfl) ?_
                  refine zq_ge0 rfl hx_61 (fun hb_62 => ?_) (fun hb_62 => ?_)
                  · rw [if_neg hb_62] at w
                    refine zq_run 3 (pc' := 180) (L' := [(.ref (232)), (zq_vi (x1)), (zq_vi (zq_i s_1 (232) (25))), (zq_vi (1)), (zq_vi (x_60)), zz_no, zz_no]) (st' := [(zq_vi (8)), (zq_vi (zq_i s_1 (232) (25))), (.ref (232))]) (fun _ _ _ => rfl) ?_
                    refine zq_iadd rfl ?_
                    refine zq_run 1 (pc' := 183) (L' := [(.ref (232)), (zq_vi (x1)), (zq_vi (zq_i s_1 (232) (25))), (zq_vi (1)), (zq_vi (x_60)), zz_no, zz_no]) (st' := [(zq_vi (x_60)), (zq_vi ((zq_i s_1 (232) (25)) + 8)), (.ref (232))]) (fun _ _ _ => rfl) ?_
                    refine zq_iadd rfl ?_
                    refine zq_call_i (i := .invokevirtual 383) (r := [1, 215, 1, 1, 9]) rfl rfl (fun h hp => zr_avv rfl (hp.obj zq_a232)) (of_decide_eq_false rfl) w (fun x_64 s_63 hx_65 w => ?_)
                    refine zq_run 3 (pc' := 192) (L' := [(.ref (232)), (zq_vi (x1)), (zq_vi (zq_i s_1 (232) (25))), (zq_vi (1)), (zq_vi (x_60)), (zq_vi (x_64)), (zq_vi (0))]) (st' := []) (fun _ _ _ => rfl) ?_
                    exact w
                  · rw [if_pos hb_62] at w
                    refine zq_run 1 (pc' := 175) (L' := [(.ref (232)), (zq_vi (x1)), (zq_vi (zq_i s_1 (232) (25))), (zq_vi (1)), (zq_vi (x_60)), zz_no, zz_no]) (st' := [(zq_vi (0))]) (fun _ _ _ => rfl) ?_
                    exact zq_iret rfl rfl (congrArg Value.int (zq_nb (of_decide_eq_true rfl))) (⟨_, rfl, (of_decide_eq_true rfl), w⟩)
                · rw [if_neg hb_58] at w
                  refine zq_run 3 (pc' := 153) (L' := [(.ref (232)), (zq_vi (x1)), (zq_vi (zq_i s_1 (232) (25))), (zq_vi (1)), zz_no, zz_no, zz_no]) (st' := [(.ref (232)), (zq_vi (3)), (.ref (232))]) (fun _ _ _ => rfl) ?_
                  refine zq_getf_f (b := 251) rfl zq_a232 rfl rfl ?_
                  refine zq_run 1 (pc' := 157) (L' := [(.ref (232)), (zq_vi (x1)), (zq_vi (zq_i s_1 (232) (25))), (zq_vi (1)), zz_no, zz_no, zz_no]) (st' := [(zq_vi (x1)), (.ref (251)), (zq_vi (3)), (.ref (232))]) (fun _ _ _ => rfl) ?_
                  obtain ⟨g_66, w⟩ := w
                  refine zq_have (fun hR_67 => ?_)
                  refine zq_ald_i (v := zq_i s_55 (251) (x1)) rfl zq_a251 g_66.1 g_66.2 rfl ?_
                  refine zq_call_i (i := .invokevirtual 367) (r := [1, 206, 2, 1, 9]) rfl rfl (fun h hp => zr_avv rfl (hp.obj zq_a232)) (of_decide_eq_false rfl) w (fun x_69 s_68 hx_70 w => ?_)
                  exact zq_iret rfl rfl (congrArg Value.int (zq_nb hx_70)) (⟨_, rfl, hx_70, w⟩)
      · rw [if_neg hb_13] at w
        refine zq_run 2 (pc' := 60) (L' := [(.ref (232)), (zq_vi (x1)), (zq_vi (zq_i s_1 (232) (25))), zz_no, zz_no, zz_no, zz_no]) (st' := [(zq_vi ((-1))), (.ref (232))]) (fun _ _ _ => rfl) ?_
        refine zq_putf_i (j := 27) rfl zq_a232 rfl rfl rfl (of_decide_eq_true rfl) ?_
        refine zq_run 1 (pc' := 64) (L' := [(.ref (232)), (zq_vi (x1)), (zq_vi (zq_i s_1 (232) (25))), zz_no, zz_no, zz_no, zz_no]) (st' := [(zq_vi (1))]) (fun _ _ _ => rfl) ?_
        exact zq_iret rfl rfl (congrArg Value.int (zq_nb (of_decide_eq_true rfl))) (⟨_, rfl, (of_decide_eq_true rfl), w⟩)
    · rw [if_neg hb_9] at w
      refine zq_run 3 (pc' := 39) (L' := [(.ref (232)), (zq_vi (x1)), (zq_vi (zq_i s_1 (232) (25))), zz_no, zz_no, zz_no, zz_no]) (st' := [(.ref (232)), (zq_vi (3)), (.ref (232))]) (fun _ _ _ => rfl) ?_
      refine zq_getf_f (b := 251) rfl zq_a232 rfl rfl ?_
      refine zq_run 1 (pc' := 43) (L' := [(.ref (232)), (zq_vi (x1)), (zq_vi (zq_i s_1 (232) (25))), zz_no, zz_no, zz_no, zz_no]) (st' := [(zq_vi (x1)), (.ref (251)), (zq_vi (3)), (.ref (232))]) (fun _ _ _ => rfl) ?_
      obtain ⟨g_71, w⟩ := w
      refine zq_have (fun hR_72 => ?_)
      refine zq_ald_i (v := zq_i s_6 (251) (x1)) rfl zq_a251 g_71.1 g_71.2 rfl ?_
      refine zq_call_i (i := .invokevirtual 367) (r := [1, 206, 2, 1, 9]) rfl rfl (fun h hp => zr_avv rfl (hp.obj zq_a232)) (of_decide_eq_false rfl) w (fun x_74 s_73 hx_75 w => ?_)
      exact zq_iret rfl rfl (congrArg Value.int (zq_nb hx_75)) (⟨_, rfl, hx_75, w⟩)
  · rw [if_pos hb_4] at w
    refine zq_run 3 (pc' := 11) (L' := [(.ref (232)), (zq_vi (x1)), zz_no, zz_no, zz_no, zz_no, zz_no]) (st' := [(.ref (232)), (zq_vi (3)), (.ref (232))]) (fun _ _ _ => rfl) ?_
    refine zq_getf_f (b := 251) rfl zq_a232 rfl rfl ?_
    refine zq_run 1 (pc' := 15) (L' := [(.ref (232)), (zq_vi (x1)), zz_no, zz_no, zz_no, zz_no, zz_no]) (st' := [(zq_vi (x1)), (.ref (251)), (zq_vi (3)), (.ref (232))]) (fun _ _ _ => rfl) ?_
    obtain ⟨g_76, w⟩ := w
    refine zq_have (fun hR_77 => ?_)
    refine zq_ald_i (v := zq_i s_1 (251) (x1)) rfl zq_a251 g_76.1 g_76.2 rfl ?_
    refine zq_call_i (i := .invokevirtual 367) (r := [1, 206, 2, 1, 9]) rfl rfl (fun h hp => zr_avv rfl (hp.obj zq_a232)) (of_decide_eq_false rfl) w (fun x_79 s_78 hx_80 w => ?_)
    exact zq_iret rfl rfl (congrArg Value.int (zq_nb hx_80)) (⟨_, rfl, hx_80, w⟩)
set_option maxRecDepth 100000 in
/-- PaperObjectsModel.readObject at 192 -/
theorem zw_211_192 {X : Nat × (Nat → Int32)} {s : zq_S} {K : Int → zq_S → Prop} {x1 : Int} (hx1 : zq_iv x1) {x2 : Int} (hx2 : zq_iv x2) {x3 : Int} (hx3 : zq_bo x3) {x4 : Int} (hx4 : zq_iv x4) {x5 : Int} (hx5 : zq_bo x5) {x6 : Int} (hx6 : zq_iv x6) (w : (if x6 < x4 then (if x5 = 0 then zq_Ex X 211 192 [(.ref (232)), (zq_vi (x1)), (zq_vi (x2)), (zq_vi (x3)), (zq_vi (x4)), (zq_vi (0)), (zq_vi (x6 + 1))] [] s (zq_rp zq_bo K) else (zq_Ex X 147 0 [(.ref (232)), (zq_vi (1)), (zq_vi ((x2 + 8) + x6))] [] s (zq_rp zq_ch fun x_14 s_13 => (if x_14 < 32 then zq_Ex X 211 192 [(.ref (232)), (zq_vi (x1)), (zq_vi (x2)), (zq_vi (x3)), (zq_vi (x4)), (zq_vi (0)), (zq_vi (x6 + 1))] [] s_13 (zq_rp zq_bo K) else zq_Ex X 211 192 [(.ref (232)), (zq_vi (x1)), (zq_vi (x2)), (zq_vi (x3)), (zq_vi (x4)), (zq_vi (1)), (zq_vi (x6 + 1))] [] s_13 (zq_rp zq_bo K))))) else (zq_iv (x2 + 8) ∧ (if x5 = 0 then (((0 : Int) ≤ x1 ∧ x1 < (10 : Int)) ∧ (zq_Ex X 206 0 [(.ref (232)), (zq_vi (3)), (zq_vi (zq_i s (251) (x1)))] [] (zq_si (zq_si s (232) (25) (x2 + 8)) (232) (27) (x4)) (zq_rp zq_bo fun x_9 s_8 => (if x_9 = 0 then K (0) s_8 else K (1) s_8)))) else K (1) (zq_si (zq_si s (232) (25) (x2 + 8)) (232) (27) (x4)))))) : zq_Ex X 211 192 [(.ref (232)), (zq_vi (x1)), (zq_vi (x2)), (zq_vi (x3)), (zq_vi (x4)), (zq_vi (x5)), (zq_vi (x6))] [] s (zq_rp zq_bo K) := by
  refine zq_run 2 (pc' := 196) (L' := [(.ref (232)), (zq_vi (x1)), (zq_vi (x2)), (zq_vi (x3)), (zq_vi (x4)), (zq_vi (x5)), (zq_vi (x6))]) (st' := [(zq_vi (x4)), (zq_vi (x6))]) (fun _ _ _ => rfl) ?_
  refine zq_ge rfl hx6 hx4 (fun hb_1 => ?_) (fun hb_1 => ?_)
  · rw [if_neg hb_1] at w
    refine zq_run 3 (pc' := 238) (L' := [(.ref (232)), (zq_vi (x1)), (zq_vi (x2)), (zq_vi (x3)), (zq_vi (x4)), (zq_vi (x5)), (zq_vi (x6))]) (st' := [(zq_vi (8)), (zq_vi (x2)), (.ref (232))]) (fun _ _ _ => rfl) ?_
    refine zq_iadd rfl ?_
    obtain ⟨g_2, w⟩ := w
    refine zq_putf_i (j := 25) rfl zq_a232 rfl rfl rfl g_2 ?_
    refine zq_run 2 (pc' := 245) (L' := [(.ref (232)), (zq_vi (x1)), (zq_vi (x2)), (zq_vi (x3)), (zq_vi (x4)), (zq_vi (x5)), (zq_vi (x6))]) (st' := [(zq_vi (x4)), (.ref (232))]) (fun _ _ _ => rfl) ?_
    refine zq_putf_i (j := 27) rfl zq_a232 rfl rfl rfl hx4 ?_
    refine zq_run 1 (pc' := 250) (L' := [(.ref (232)), (zq_vi (x1)), (zq_vi (x2)), (zq_vi (x3)), (zq_vi (x4)), (zq_vi (x5)), (zq_vi (x6))]) (st' := [(zq_vi (x5))]) (fun _ _ _ => rfl) ?_
    refine zq_ne0 rfl (zq_bo_in hx5) (fun hb_3 => ?_) (fun hb_3 => ?_)
    · rw [if_neg hb_3] at w
      refine zq_run 2 (pc' := 272) (L' := [(.ref (232)), (zq_vi (x1)), (zq_vi (x2)), (zq_vi (x3)), (zq_vi (x4)), (zq_vi (x5)), (zq_vi (x6))]) (st' := [(zq_vi (1))]) (fun _ _ _ => rfl) ?_
      exact zq_iret rfl rfl (congrArg Value.int (zq_nb (of_decide_eq_true rfl))) (⟨_, rfl, (of_decide_eq_true rfl), w⟩)
    · rw [if_pos hb_3] at w
      refine zq_run 3 (pc' := 256) (L' := [(.ref (232)), (zq_vi (x1)), (zq_vi (x2)), (zq_vi (x3)), (zq_vi (x4)), (zq_vi (x5)), (zq_vi (x6))]) (st' := [(.ref (232)), (zq_vi (3)), (.ref (232))]) (fun _ _ _ => rfl) ?_
      refine zq_getf_f (b := 251) rfl zq_a232 rfl rfl ?_
      refine zq_run 1 (pc' := 260) (L' := [(.ref (232)), (zq_vi (x1)), (zq_vi (x2)), (zq_vi (x3)), (zq_vi (x4)), (zq_vi (x5)), (zq_vi (x6))]) (st' := [(zq_vi (x1)), (.ref (251)), (zq_vi (3)), (.ref (232))]) (fun _ _ _ => rfl) ?_
      obtain ⟨g_4, w⟩ := w
      have e_5 : zq_i (zq_si (zq_si s (232) (25) (x2 + 8)) (232) (27) (x4)) (251) (x1) = zq_i s (251) (x1) := by simp [zq_i_si, zq_i_sr, zq_i_sl]
      refine zq_have (fun hR_6 => ?_)
      have g_7 : zq_iv (zq_i (zq_si (zq_si s (232) (25) (x2 + 8)) (232) (27) (x4)) (251) (x1)) := (hR_6.1 _ _)
      rw [e_5] at g_7
      refine zq_ald_i (v := zq_i s (251) (x1)) rfl zq_a251 g_4.1 g_4.2 e_5 ?_
      refine zq_call_i (i := .invokevirtual 367) (r := [1, 206, 2, 1, 9]) rfl rfl (fun h hp => zr_avv rfl (hp.obj zq_a232)) (of_decide_eq_false rfl) w (fun x_9 s_8 hx_10 w => ?_)
      refine zq_eq0 rfl (zq_bo_in hx_10) (fun hb_11 => ?_) (fun hb_11 => ?_)
      · rw [if_pos hb_11] at w
        refine zq_run 1 (pc' := 272) (L' := [(.ref (232)), (zq_vi (x1)), (zq_vi (x2)), (zq_vi (x3)), (zq_vi (x4)), (zq_vi (x5)), (zq_vi (x6))]) (st' := [(zq_vi (0))]) (fun _ _ _ => rfl) ?_
        exact zq_iret rfl rfl (congrArg Value.int (zq_nb (of_decide_eq_true rfl))) (⟨_, rfl, (of_decide_eq_true rfl), w⟩)
      · rw [if_neg hb_11] at w
        refine zq_run 2 (pc' := 272) (L' := [(.ref (232)), (zq_vi (x1)), (zq_vi (x2)), (zq_vi (x3)), (zq_vi (x4)), (zq_vi (x5)), (zq_vi (x6))]) (st' := [(zq_vi (1))]) (fun _ _ _ => rfl) ?_
        exact zq_iret rfl rfl (congrArg Value.int (zq_nb (of_decide_eq_true rfl))) (⟨_, rfl, (of_decide_eq_true rfl), w⟩)
  · rw [if_pos hb_1] at w
    refine zq_run 1 (pc' := 201) (L' := [(.ref (232)), (zq_vi (x1)), (zq_vi (x2)), (zq_vi (x3)), (zq_vi (x4)), (zq_vi (x5)), (zq_vi (x6))]) (st' := [(zq_vi (x5))]) (fun _ _ _ => rfl) ?_
    refine zq_eq0 rfl (zq_bo_in hx5) (fun hb_12 => ?_) (fun hb_12 => ?_)
    · rw [if_pos hb_12] at w
      refine zq_run 2 (pc' := 228) (L' := [(.ref (232)), (zq_vi (x1)), (zq_vi (x2)), (zq_vi (x3)), (zq_vi (x4)), (zq_vi (0)), (zq_vi (x6))]) (st' := []) (fun _ _ _ => rfl) ?_
      refine zq_iinc (L' := [(.ref (232)), (zq_vi (x1)), (zq_vi (x2)), (zq_vi (x3)), (zq_vi (x4)), (zq_vi (0)), (zq_vi (x6 + 1))]) rfl rfl rfl ?_
      refine zq_run 1 (pc' := 192) (L' := [(.ref (232)), (zq_vi (x1)), (zq_vi (x2)), (zq_vi (x3)), (zq_vi (x4)), (zq_vi (0)), (zq_vi (x6 + 1))]) (st' := []) (fun _ _ _ => rfl) ?_
      exact w
    · rw [if_neg hb_12] at w
      refine zq_run 4 (pc' := 209) (L' := [(.ref (232)), (zq_vi (x1)), (zq_vi (x2)), (zq_vi (x3)), (zq_vi (x4)), (zq_vi (x5)), (zq_vi (x6))]) (st' := [(zq_vi (8)), (zq_vi (x2)), (zq_vi (1)), (.ref (232))]) (fun _ _ _ => rfl) ?_
      refine zq_iadd rfl ?_
      refine zq_run 1 (pc' := 212) (L' := [(.ref (232)), (zq_vi (x1)), (zq_vi (x2)), (zq_vi (x3)), (zq_vi (x4)), (zq_vi (x5)), (zq_vi (x6))]) (st' := [(zq_vi (x6)), (zq_vi (x2 + 8)), (zq_vi (1)), (.ref (232))]) (fun _ _ _ => rfl) ?_
      refine zq_iadd rfl ?_
      refine zq_call_i (i := .invokevirtual 119) (r := [1, 147, 2, 1, 9]) rfl rfl (fun h hp => zr_avv rfl (hp.obj zq_a232)) (of_decide_eq_false rfl) w (fun x_14 s_13 hx_15 w => ?_)
      refine zq_run 1 (pc' := 218) (L' := [(.ref (232)), (zq_vi (x1)), (zq_vi (x2)), (zq_vi (x3)), (zq_vi (x4)), (zq_vi (x5)), (zq_vi (x6))]) (st' := [(zq_vi (32)), (zq_vi (x_14))]) (fun _ _ _ => rfl) ?_
      refine zq_lt rfl (zq_ch_in hx_15) (of_decide_eq_true rfl) (fun hb_16 => ?_) (fun hb_16 => ?_)
      · rw [if_pos hb_16] at w
        refine zq_run 2 (pc' := 228) (L' := [(.ref (232)), (zq_vi (x1)), (zq_vi (x2)), (zq_vi (x3)), (zq_vi (x4)), (zq_vi (0)), (zq_vi (x6))]) (st' := []) (fun _ _ _ => rfl) ?_
        refine zq_iinc (L' := [(.ref (232)), (zq_vi (x1)), (zq_vi (x2)), (zq_vi (x3)), (zq_vi (x4)), (zq_vi (0)), (zq_vi (x6 + 1))]) rfl rfl rfl ?_
        refine zq_run 1 (pc' := 192) (L' := [(.ref (232)), (zq_vi (x1)), (zq_vi (x2)), (zq_vi (x3)), (zq_vi (x4)), (zq_vi (0)), (zq_vi (x6 + 1))]) (st' := []) (fun _ _ _ => rfl) ?_
        exact w
      · rw [if_neg hb_16] at w
        refine zq_run 3 (pc' := 228) (L' := [(.ref (232)), (zq_vi (x1)), (zq_vi (x2)), (zq_vi (x3)), (zq_vi (x4)), (zq_vi (1)), (zq_vi (x6))]) (st' := []) (fun _ _ _ => rfl) ?_
        refine zq_iinc (L' := [(.ref (232)), (zq_vi (x1)), (zq_vi (x2)), (zq_vi (x3)), (zq_vi (x4)), (zq_vi (1)), (zq_vi (x6 + 1))]) rfl rfl rfl ?_
        refine zq_run 1 (pc' := 192) (L' := [(.ref (232)), (zq_vi (x1)), (zq_vi (x2)), (zq_vi (x3)), (zq_vi (x4)), (zq_vi (1)), (zq_vi (x6 + 1))]) (st' := []) (fun _ _ _ => rfl) ?_
        exact w
set_option maxRecDepth 100000 in
/-- PaperObjectsModel.readHead(I)Z -/
theorem zw_212 {X : Nat × (Nat → Int32)} {s : zq_S} {K : Int → zq_S → Prop} {x1 : Int} (hx1 : zq_iv x1) (w : (((0 : Int) ≤ x1 ∧ x1 < (10 : Int)) ∧ (zq_Ex X 147 0 [(.ref (232)), (zq_vi (1)), (zq_vi (zq_i s (251) (x1)))] [] s (zq_rp zq_ch fun x_4 s_3 => (zq_iv (48 + x1) ∧ (if x_4 = 48 + x1 then (zq_Ex X 147 0 [(.ref (232)), (zq_vi (1)), (zq_vi ((zq_i s (251) (x1)) + 1))] [] s_3 (zq_rp zq_ch fun x_9 s_8 => (if x_9 = 32 then (zq_Ex X 147 0 [(.ref (232)), (zq_vi (1)), (zq_vi ((zq_i s (251) (x1)) + 2))] [] s_8 (zq_rp zq_ch fun x_13 s_12 => (((0 : Int) ≤ x1 ∧ x1 < (10 : Int)) ∧ (zq_iv (48 + (zq_i s_12 (252) (x1))) ∧ (if x_13 = 48 + (zq_i s_12 (252) (x1)) then (zq_Ex X 164 0 [(.ref (232)), (zq_vi (1)), (zq_vi ((zq_i s (251) (x1)) + 3)), (zq_vi (32)), (zq_vi (111)), (zq_vi (98)), (zq_vi (106))] [] s_12 (zq_rp zq_bo fun x_20 s_19 => (if x_20 = 0 then K (0) s_19 else (zq_Ex X 147 0 [(.ref (232)), (zq_vi (1)), (zq_vi ((zq_i s (251) (x1)) + 7))] [] s_19 (zq_rp zq_ch fun x_24 s_23 => (if x_24 = 10 then (zq_Ex X 145 0 [(.ref (232)), (zq_vi (1)), (zq_vi ((zq_i s (251) (x1)) + 8)), zz_no, zz_no] [] s_23 (zq_rv fun s_27 => (if zq_i s_27 (232) (26) < 0 then K (1) s_27 else K (0) s_27))) else K (0) s_23)))))) else K (0) s_12))))) else K (0) s_8))) else K (0) s_3)))))) : zq_Ex X 212 0 [(.ref (232)), (zq_vi (x1)), zz_no, zz_no] [] s (zq_rp zq_bo K) := by
  refine zq_run 1 (pc' := 1) (L' := [(.ref (232)), (zq_vi (x1)), zz_no, zz_no]) (st' := [(.ref (232))]) (fun _ _ _ => rfl) ?_
  refine zq_getf_f (b := 251) rfl zq_a232 rfl rfl ?_
  refine zq_run 1 (pc' := 5) (L' := [(.ref (232)), (zq_vi (x1)), zz_no, zz_no]) (st' := [(zq_vi (x1)), (.ref (251))]) (fun _ _ _ => rfl) ?_
  obtain ⟨g_1, w⟩ := w
  refine zq_have (fun hR_2 => ?_)
  refine zq_ald_i (v := zq_i s (251) (x1)) rfl zq_a251 g_1.1 g_1.2 rfl ?_
  refine zq_run 4 (pc' := 10) (L' := [(.ref (232)), (zq_vi (x1)), (zq_vi (zq_i s (251) (x1))), zz_no]) (st' := [(zq_vi (zq_i s (251) (x1))), (zq_vi (1)), (.ref (232))]) (fun _ _ _ => rfl) ?_
  refine zq_call_i (i := .invokevirtual 119) (r := [1, 147, 2, 1, 9]) rfl rfl (fun h hp => zr_avv rfl (hp.obj zq_a232)) (of_decide_eq_false rfl) w (fun x_4 s_3 hx_5 w => ?_)
  refine zq_run 2 (pc' := 16) (L' := [(.ref (232)), (zq_vi (x1)), (zq_vi (zq_i s (251) (x1))), zz_no]) (st' := [(zq_vi (x1)), (zq_vi (48)), (zq_vi (x_4))]) (fun _ _ _ => rfl) ?_
  refine zq_iadd rfl ?_
  obtain ⟨g_6, w⟩ := w
  refine zq_ne rfl (zq_ch_in hx_5) g_6 (fun hb_7 => ?_) (fun hb_7 => ?_)
  · rw [if_neg hb_7] at w
    refine zq_run 3 (pc' := 93) (L' := [(.ref (232)), (zq_vi (x1)), (zq_vi (zq_i s (251) (x1))), (zq_vi (0))]) (st' := [(zq_vi (0))]) (fun _ _ _ => rfl) ?_
    refine zq_ne0 rfl (of_decide_eq_true rfl) (fun hb => absurd (by decide) hb) (fun _ => ?_)
    refine zq_run 1 (pc' := 97) (L' := [(.ref (232)), (zq_vi (x1)), (zq_vi (zq_i s (251) (x1))), (zq_vi (0))]) (st' := [(zq_vi (0))]) (fun _ _ _ => rfl) ?_
    exact zq_iret rfl rfl (congrArg Value.int (zq_nb (of_decide_eq_true rfl))) (⟨_, rfl, (of_decide_eq_true rfl), w⟩)
  · rw [if_pos hb_7] at w
    refine zq_run 4 (pc' := 24) (L' := [(.ref (232)), (zq_vi (x1)), (zq_vi (zq_i s (251) (x1))), zz_no]) (st' := [(zq_vi (1)), (zq_vi (zq_i s (251) (x1))), (zq_vi (1)), (.ref (232))]) (fun _ _ _ => rfl) ?_
    refine zq_iadd rfl ?_
    refine zq_call_i (i := .invokevirtual 119) (r := [1, 147, 2, 1, 9]) rfl rfl (fun h hp => zr_avv rfl (hp.obj zq_a232)) (of_decide_eq_false rfl) w (fun x_9 s_8 hx_10 w => ?_)
    refine zq_run 1 (pc' := 30) (L' := [(.ref (232)), (zq_vi (x1)), (zq_vi (zq_i s (251) (x1))), zz_no]) (st' := [(zq_vi (32)), (zq_vi (x_9))]) (fun _ _ _ => rfl) ?_
    refine zq_ne rfl (zq_ch_in hx_10) (of_decide_eq_true rfl) (fun hb_11 => ?_) (fun hb_11 => ?_)
    · rw [if_neg hb_11] at w
      refine zq_run 3 (pc' := 93) (L' := [(.ref (232)), (zq_vi (x1)), (zq_vi (zq_i s (251) (x1))), (zq_vi (0))]) (st' := [(zq_vi (0))]) (fun _ _ _ => rfl) ?_
      refine zq_ne0 rfl (of_decide_eq_true rfl) (fun hb => absurd (by decide) hb) (fun _ => ?_)
      refine zq_run 1 (pc' := 97) (L' := [(.ref (232)), (zq_vi (x1)), (zq_vi (zq_i s (251) (x1))), (zq_vi (0))]) (st' := [(zq_vi (0))]) (fun _ _ _ => rfl) ?_
      exact zq_iret rfl rfl (congrArg Value.int (zq_nb (of_decide_eq_true rfl))) (⟨_, rfl, (of_decide_eq_true rfl), w⟩)
    · rw [if_pos hb_11] at w
      refine zq_run 4 (pc' := 37) (L' := [(.ref (232)), (zq_vi (x1)), (zq_vi (zq_i s (251) (x1))), zz_no]) (st' := [(zq_vi (2)), (zq_vi (zq_i s (251) (x1))), (zq_vi (1)), (.ref (232))]) (fun _ _ _ => rfl) ?_
      refine zq_iadd rfl ?_
      refine zq_call_i (i := .invokevirtual 119) (r := [1, 147, 2, 1, 9]) rfl rfl (fun h hp => zr_avv rfl (hp.obj zq_a232)) (of_decide_eq_false rfl) w (fun x_13 s_12 hx_14 w => ?_)
      refine zq_run 2 (pc' := 44) (L' := [(.ref (232)), (zq_vi (x1)), (zq_vi (zq_i s (251) (x1))), zz_no]) (st' := [(.ref (232)), (zq_vi (48)), (zq_vi (x_13))]) (fun _ _ _ => rfl) ?_
      refine zq_getf_f (b := 252) rfl zq_a232 rfl rfl ?_
      refine zq_run 1 (pc' := 48) (L' := [(.ref (232)), (zq_vi (x1)), (zq_vi (zq_i s (251) (x1))), zz_no]) (st' := [(zq_vi (x1)), (.ref (252)), (zq_vi (48)), (zq_vi (x_13))]) (fun _ _ _ => rfl) ?_
      obtain ⟨g_15, w⟩ := w
      refine zq_have (fun hR_16 => ?_)
      refine zq_ald_i (v := zq_i s_12 (252) (x1)) rfl zq_a252 g_15.1 g_15.2 rfl ?_
      refine zq_iadd rfl ?_
      obtain ⟨g_17, w⟩ := w
      refine zq_ne rfl (zq_ch_in hx_14) g_17 (fun hb_18 => ?_) (fun hb_18 => ?_)
      · rw [if_neg hb_18] at w
        refine zq_run 3 (pc' := 93) (L' := [(.ref (232)), (zq_vi (x1)), (zq_vi (zq_i s (251) (x1))), (zq_vi (0))]) (st' := [(zq_vi (0))]) (fun _ _ _ => rfl) ?_
        refine zq_ne0 rfl (of_decide_eq_true rfl) (fun hb => absurd (by decide) hb) (fun _ => ?_)
        refine zq_run 1 (pc' := 97) (L' := [(.ref (232)), (zq_vi (x1)), (zq_vi (zq_i s (251) (x1))), (zq_vi (0))]) (st' := [(zq_vi (0))]) (fun _ _ _ => rfl) ?_
        exact zq_iret rfl rfl (congrArg Value.int (zq_nb (of_decide_eq_true rfl))) (⟨_, rfl, (of_decide_eq_true rfl), w⟩)
      · rw [if_pos hb_18] at w
        refine zq_run 4 (pc' := 57) (L' := [(.ref (232)), (zq_vi (x1)), (zq_vi (zq_i s (251) (x1))), zz_no]) (st' := [(zq_vi (3)), (zq_vi (zq_i s (251) (x1))), (zq_vi (1)), (.ref (232))]) (fun _ _ _ => rfl) ?_
        refine zq_iadd rfl ?_
        refine zq_run 4 (pc' := 66) (L' := [(.ref (232)), (zq_vi (x1)), (zq_vi (zq_i s (251) (x1))), zz_no]) (st' := [(zq_vi (106)), (zq_vi (98)), (zq_vi (111)), (zq_vi (32)), (zq_vi ((zq_i s (251) (x1)) + 3)), (zq_vi (1)), (.ref (232))]) (fun _ _ _ => rfl) ?_
        refine zq_call_i (i := .invokevirtual 154) (r := [1, 164, 6, 1, 9]) rfl rfl (fun h hp => zr_avv rfl (hp.obj zq_a232)) (of_decide_eq_false rfl) w (fun x_20 s_19 hx_21 w => ?_)
        refine zq_eq0 rfl (zq_bo_in hx_21) (fun hb_22 => ?_) (fun hb_22 => ?_)
        · rw [if_pos hb_22] at w
          refine zq_run 3 (pc' := 93) (L' := [(.ref (232)), (zq_vi (x1)), (zq_vi (zq_i s (251) (x1))), (zq_vi (0))]) (st' := [(zq_vi (0))]) (fun _ _ _ => rfl) ?_
          refine zq_ne0 rfl (of_decide_eq_true rfl) (fun hb => absurd (by decide) hb) (fun _ => ?_)
          refine zq_run 1 (pc' := 97) (L' := [(.ref (232)), (zq_vi (x1)), (zq_vi (zq_i s (251) (x1))), (zq_vi (0))]) (st' := [(zq_vi (0))]) (fun _ _ _ => rfl) ?_
          exact zq_iret rfl rfl (congrArg Value.int (zq_nb (of_decide_eq_true rfl))) (⟨_, rfl, (of_decide_eq_true rfl), w⟩)
        · rw [if_neg hb_22] at w
          refine zq_run 4 (pc' := 77) (L' := [(.ref (232)), (zq_vi (x1)), (zq_vi (zq_i s (251) (x1))), zz_no]) (st' := [(zq_vi (7)), (zq_vi (zq_i s (251) (x1))), (zq_vi (1)), (.ref (232))]) (fun _ _ _ => rfl) ?_
          refine zq_iadd rfl ?_
          refine zq_call_i (i := .invokevirtual 119) (r := [1, 147, 2, 1, 9]) rfl rfl (fun h hp => zr_avv rfl (hp.obj zq_a232)) (of_decide_eq_false rfl) w (fun x_24 s_23 hx_25 w => ?_)
          refine zq_run 1 (pc' := 83) (L' := [(.ref (232)), (zq_vi (x1)), (zq_vi (zq_i s (251) (x1))), zz_no]) (st' := [(zq_vi (10)), (zq_vi (x_24))]) (fun _ _ _ => rfl) ?_
          refine zq_ne rfl (zq_ch_in hx_25) (of_decide_eq_true rfl) (fun hb_26 => ?_) (fun hb_26 => ?_)
          · rw [if_neg hb_26] at w
            refine zq_run 3 (pc' := 93) (L' := [(.ref (232)), (zq_vi (x1)), (zq_vi (zq_i s (251) (x1))), (zq_vi (0))]) (st' := [(zq_vi (0))]) (fun _ _ _ => rfl) ?_
            refine zq_ne0 rfl (of_decide_eq_true rfl) (fun hb => absurd (by decide) hb) (fun _ => ?_)
            refine zq_run 1 (pc' := 97) (L' := [(.ref (232)), (zq_vi (x1)), (zq_vi (zq_i s (251) (x1))), (zq_vi (0))]) (st' := [(zq_vi (0))]) (fun _ _ _ => rfl) ?_
            exact zq_iret rfl rfl (congrArg Value.int (zq_nb (of_decide_eq_true rfl))) (⟨_, rfl, (of_decide_eq_true rfl), w⟩)
          · rw [if_pos hb_26] at w
            refine zq_run 4 (pc' := 93) (L' := [(.ref (232)), (zq_vi (x1)), (zq_vi (zq_i s (251) (x1))), (zq_vi (1))]) (st' := [(zq_vi (1))]) (fun _ _ _ => rfl) ?_
            refine zq_ne0 rfl (of_decide_eq_true rfl) (fun _ => ?_) (fun hb => absurd hb (by decide))
            refine zq_run 4 (pc' := 103) (L' := [(.ref (232)), (zq_vi (x1)), (zq_vi (zq_i s (251) (x1))), (zq_vi (1))]) (st' := [(zq_vi (8)), (zq_vi (zq_i s (251) (x1))), (zq_vi (1)), (.ref (232))]) (fun _ _ _ => rfl) ?_
            refine zq_iadd rfl ?_
            refine zq_call_v (i := .invokevirtual 266) (r := [1, 145, 2, 1, 9]) rfl rfl (fun h hp => zr_avv rfl (hp.obj zq_a232)) (of_decide_eq_false rfl) w (fun s_27 w => ?_)
            refine zq_run 1 (pc' := 108) (L' := [(.ref (232)), (zq_vi (x1)), (zq_vi (zq_i s (251) (x1))), (zq_vi (1))]) (st' := [(.ref (232))]) (fun _ _ _ => rfl) ?_
            refine zq_have (fun hR_28 => ?_)
            refine zq_getf_i (j := 26) (v := zq_i s_27 (232) (26)) rfl zq_a232 rfl rfl rfl ?_
            refine zq_ge0 rfl (hR_28.1 _ _) (fun hb_29 => ?_) (fun hb_29 => ?_)
            · rw [if_neg hb_29] at w
              refine zq_run 1 (pc' := 119) (L' := [(.ref (232)), (zq_vi (x1)), (zq_vi (zq_i s (251) (x1))), (zq_vi (1))]) (st' := [(zq_vi (0))]) (fun _ _ _ => rfl) ?_
              exact zq_iret rfl rfl (congrArg Value.int (zq_nb (of_decide_eq_true rfl))) (⟨_, rfl, (of_decide_eq_true rfl), w⟩)
            · rw [if_pos hb_29] at w
              refine zq_run 2 (pc' := 119) (L' := [(.ref (232)), (zq_vi (x1)), (zq_vi (zq_i s (251) (x1))), (zq_vi (1))]) (st' := [(zq_vi (1))]) (fun _ _ _ => rfl) ?_
              exact zq_iret rfl rfl (congrArg Value.int (zq_nb (of_decide_eq_true rfl))) (⟨_, rfl, (of_decide_eq_true rfl), w⟩)
set_option maxRecDepth 100000 in
/-- PaperObjectsModel.endsObject(I)Z -/
theorem zw_213 {X : Nat × (Nat → Int32)} {s : zq_S} {K : Int → zq_S → Prop} {x1 : Int} (hx1 : zq_iv x1) (w : (zq_Ex X 164 0 [(.ref (232)), (zq_vi (1)), (zq_vi (x1)), (zq_vi (101)), (zq_vi (110)), (zq_vi (100)), (zq_vi (111))] [] s (zq_rp zq_bo fun x_2 s_1 => (if x_2 = 0 then K (0) s_1 else (zq_Ex X 147 0 [(.ref (232)), (zq_vi (1)), (zq_vi (x1 + 4))] [] s_1 (zq_rp zq_ch fun x_6 s_5 => (if x_6 = 98 then (zq_Ex X 147 0 [(.ref (232)), (zq_vi (1)), (zq_vi (x1 + 5))] [] s_5 (zq_rp zq_ch fun x_10 s_9 => (if x_10 = 106 then (zq_Ex X 147 0 [(.ref (232)), (zq_vi (1)), (zq_vi (x1 + 6))] [] s_9 (zq_rp zq_ch fun x_14 s_13 => (if x_14 = 10 then K (1) s_13 else K (0) s_13))) else K (0) s_9))) else K (0) s_5))))))) : zq_Ex X 213 0 [(.ref (232)), (zq_vi (x1))] [] s (zq_rp zq_bo K) := by
  refine zq_run 7 (pc' := 11) (L' := [(.ref (232)), (zq_vi (x1))]) (st' := [(zq_vi (111)), (zq_vi (100)), (zq_vi (110)), (zq_vi (101)), (zq_vi (x1)), (zq_vi (1)), (.ref (232))]) (fun _ _ _ => rfl) ?_
  refine zq_call_i (i := .invokevirtual 154) (r := [1, 164, 6, 1, 9]) rfl rfl (fun h hp => zr_avv rfl (hp.obj zq_a232)) (of_decide_eq_false rfl) w (fun x_2 s_1 hx_3 w => ?_)
  refine zq_eq0 rfl (zq_bo_in hx_3) (fun hb_4 => ?_) (fun hb_4 => ?_)
  · rw [if_pos hb_4] at w
    refine zq_run 1 (pc' := 62) (L' := [(.ref (232)), (zq_vi (x1))]) (st' := [(zq_vi (0))]) (fun _ _ _ => rfl) ?_
    exact zq_iret rfl rfl (congrArg Value.int (zq_nb (of_decide_eq_true rfl))) (⟨_, rfl, (of_decide_eq_true rfl), w⟩)
  · rw [if_neg hb_4] at w
    refine zq_run 4 (pc' := 21) (L' := [(.ref (232)), (zq_vi (x1))]) (st' := [(zq_vi (4)), (zq_vi (x1)), (zq_vi (1)), (.ref (232))]) (fun _ _ _ => rfl) ?_
    refine zq_iadd rfl ?_
    refine zq_call_i (i := .invokevirtual 119) (r := [1, 147, 2, 1, 9]) rfl rfl (fun h hp => zr_avv rfl (hp.obj zq_a232)) (of_decide_eq_false rfl) w (fun x_6 s_5 hx_7 w => ?_)
    refine zq_run 1 (pc' := 27) (L' := [(.ref (232)), (zq_vi (x1))]) (st' := [(zq_vi (98)), (zq_vi (x_6))]) (fun _ _ _ => rfl) ?_
    refine zq_ne rfl (zq_ch_in hx_7) (of_decide_eq_true rfl) (fun hb_8 => ?_) (fun hb_8 => ?_)
    · rw [if_neg hb_8] at w
      refine zq_run 1 (pc' := 62) (L' := [(.ref (232)), (zq_vi (x1))]) (st' := [(zq_vi (0))]) (fun _ _ _ => rfl) ?_
      exact zq_iret rfl rfl (congrArg Value.int (zq_nb (of_decide_eq_true rfl))) (⟨_, rfl, (of_decide_eq_true rfl), w⟩)
    · rw [if_pos hb_8] at w
      refine zq_run 4 (pc' := 34) (L' := [(.ref (232)), (zq_vi (x1))]) (st' := [(zq_vi (5)), (zq_vi (x1)), (zq_vi (1)), (.ref (232))]) (fun _ _ _ => rfl) ?_
      refine zq_iadd rfl ?_
      refine zq_call_i (i := .invokevirtual 119) (r := [1, 147, 2, 1, 9]) rfl rfl (fun h hp => zr_avv rfl (hp.obj zq_a232)) (of_decide_eq_false rfl) w (fun x_10 s_9 hx_11 w => ?_)
      refine zq_run 1 (pc' := 40) (L' := [(.ref (232)), (zq_vi (x1))]) (st' := [(zq_vi (106)), (zq_vi (x_10))]) (fun _ _ _ => rfl) ?_
      refine zq_ne rfl (zq_ch_in hx_11) (of_decide_eq_true rfl) (fun hb_12 => ?_) (fun hb_12 => ?_)
      · rw [if_neg hb_12] at w
        refine zq_run 1 (pc' := 62) (L' := [(.ref (232)), (zq_vi (x1))]) (st' := [(zq_vi (0))]) (fun _ _ _ => rfl) ?_
        exact zq_iret rfl rfl (congrArg Value.int (zq_nb (of_decide_eq_true rfl))) (⟨_, rfl, (of_decide_eq_true rfl), w⟩)
      · rw [if_pos hb_12] at w
        refine zq_run 4 (pc' := 48) (L' := [(.ref (232)), (zq_vi (x1))]) (st' := [(zq_vi (6)), (zq_vi (x1)), (zq_vi (1)), (.ref (232))]) (fun _ _ _ => rfl) ?_
        refine zq_iadd rfl ?_
        refine zq_call_i (i := .invokevirtual 119) (r := [1, 147, 2, 1, 9]) rfl rfl (fun h hp => zr_avv rfl (hp.obj zq_a232)) (of_decide_eq_false rfl) w (fun x_14 s_13 hx_15 w => ?_)
        refine zq_run 1 (pc' := 54) (L' := [(.ref (232)), (zq_vi (x1))]) (st' := [(zq_vi (10)), (zq_vi (x_14))]) (fun _ _ _ => rfl) ?_
        refine zq_ne rfl (zq_ch_in hx_15) (of_decide_eq_true rfl) (fun hb_16 => ?_) (fun hb_16 => ?_)
        · rw [if_neg hb_16] at w
          refine zq_run 1 (pc' := 62) (L' := [(.ref (232)), (zq_vi (x1))]) (st' := [(zq_vi (0))]) (fun _ _ _ => rfl) ?_
          exact zq_iret rfl rfl (congrArg Value.int (zq_nb (of_decide_eq_true rfl))) (⟨_, rfl, (of_decide_eq_true rfl), w⟩)
        · rw [if_pos hb_16] at w
          refine zq_run 2 (pc' := 62) (L' := [(.ref (232)), (zq_vi (x1))]) (st' := [(zq_vi (1))]) (fun _ _ _ => rfl) ?_
          exact zq_iret rfl rfl (congrArg Value.int (zq_nb (of_decide_eq_true rfl))) (⟨_, rfl, (of_decide_eq_true rfl), w⟩)
set_option maxRecDepth 100000 in
/-- PaperObjectsModel.lengthBy(I)I -/
theorem zw_214 {X : Nat × (Nat → Int32)} {s : zq_S} {K : Int → zq_S → Prop} {x1 : Int} (hx1 : zq_iv x1) (w : (zq_Ex X 175 0 [(.ref (232)), (zq_vi (2)), (zq_vi (0)), (.ref (256)), (zq_vi (6)), zz_no, zz_no, zz_no, zz_no] [] s (zq_rp zq_iv fun x_2 s_1 => zq_Ex X 214 15 [(.ref (232)), (zq_vi (x1)), (zq_vi (x_2)), (zq_vi (0)), zz_no, zz_no] [] s_1 (zq_rp zq_iv K)))) : zq_Ex X 214 0 [(.ref (232)), (zq_vi (x1)), zz_no, zz_no, zz_no, zz_no] [] s (zq_rp zq_iv K) := by
  refine zq_run 4 (pc' := 4) (L' := [(.ref (232)), (zq_vi (x1)), zz_no, zz_no, zz_no, zz_no]) (st' := [(.ref (232)), (zq_vi (0)), (zq_vi (2)), (.ref (232))]) (fun _ _ _ => rfl) ?_
  refine zq_getf_f (b := 256) rfl zq_a232 rfl rfl ?_
  refine zq_run 1 (pc' := 9) (L' := [(.ref (232)), (zq_vi (x1)), zz_no, zz_no, zz_no, zz_no]) (st' := [(zq_vi (6)), (.ref (256)), (zq_vi (0)), (zq_vi (2)), (.ref (232))]) (fun _ _ _ => rfl) ?_
  refine zq_call_i (i := .invokevirtual 275) (r := [1, 175, 4, 1, 9]) rfl rfl (fun h hp => zr_avv rfl (hp.obj zq_a232)) (of_decide_eq_false rfl) w (fun x_2 s_1 hx_3 w => ?_)
  refine zq_run 3 (pc' := 15) (L' := [(.ref (232)), (zq_vi (x1)), (zq_vi (x_2)), (zq_vi (0)), zz_no, zz_no]) (st' := []) (fun _ _ _ => rfl) ?_
  exact w
set_option maxRecDepth 100000 in
/-- PaperObjectsModel.lengthBy at 15 -/
theorem zw_214_15 {X : Nat × (Nat → Int32)} {s : zq_S} {K : Int → zq_S → Prop} {x1 : Int} (hx1 : zq_iv x1) {x2 : Int} (hx2 : zq_iv x2) {x3 : Int} (hx3 : zq_iv x3) {v4 : Value} (hv4 : v4.category = 1) {v5 : Value} (hv5 : v5.category = 1) (w : (if x3 < 10 then (((0 : Int) ≤ x3 ∧ x3 < (10 : Int)) ∧ zq_Ex X 214 15 [(.ref (232)), (zq_vi (x1)), (zq_vi (x2)), (zq_vi (x3 + 1)), v4, v5] [] (zq_si s (254) (x3) (0)) (zq_rp zq_iv K)) else zq_Ex X 214 34 [(.ref (232)), (zq_vi (x1)), (zq_vi (x2)), (zq_vi (x3)), v4, v5] [] s (zq_rp zq_iv K))) : zq_Ex X 214 15 [(.ref (232)), (zq_vi (x1)), (zq_vi (x2)), (zq_vi (x3)), v4, v5] [] s (zq_rp zq_iv K) := by
  refine zq_run 2 (pc' := 18) (L' := [(.ref (232)), (zq_vi (x1)), (zq_vi (x2)), (zq_vi (x3)), v4, v5]) (st' := [(zq_vi (10)), (zq_vi (x3))]) (fun _ _ _ => rfl) ?_
  refine zq_ge rfl hx3 (of_decide_eq_true rfl) (fun hb_1 => ?_) (fun hb_1 => ?_)
  · rw [if_neg hb_1] at w
    exact w
  · rw [if_pos hb_1] at w
    refine zq_run 1 (pc' := 22) (L' := [(.ref (232)), (zq_vi (x1)), (zq_vi (x2)), (zq_vi (x3)), v4, v5]) (st' := [(.ref (232))]) (fun _ _ _ => rfl) ?_
    refine zq_getf_f (b := 254) rfl zq_a232 rfl rfl ?_
    refine zq_run 2 (pc' := 27) (L' := [(.ref (232)), (zq_vi (x1)), (zq_vi (x2)), (zq_vi (x3)), v4, v5]) (st' := [(zq_vi (0)), (zq_vi (x3)), (.ref (254))]) (fun _ _ _ => rfl) ?_
    obtain ⟨g_2, w⟩ := w
    refine zq_ast_b rfl zq_a254 g_2.1 g_2.2 (of_decide_eq_true rfl) ?_
    refine zq_iinc (L' := [(.ref (232)), (zq_vi (x1)), (zq_vi (x2)), (zq_vi (x3 + 1)), v4, v5]) rfl rfl rfl ?_
    refine zq_run 1 (pc' := 15) (L' := [(.ref (232)), (zq_vi (x1)), (zq_vi (x2)), (zq_vi (x3 + 1)), v4, v5]) (st' := []) (fun _ _ _ => rfl) ?_
    exact w
set_option maxRecDepth 100000 in
/-- PaperObjectsModel.lengthBy at 34 -/
theorem zw_214_34 {X : Nat × (Nat → Int32)} {s : zq_S} {K : Int → zq_S → Prop} {x1 : Int} (hx1 : zq_iv x1) {x2 : Int} (hx2 : zq_iv x2) {x3 : Int} (hx3 : zq_iv x3) {v4 : Value} (hv4 : v4.category = 1) {v5 : Value} (hv5 : v5.category = 1) (w : (if x2 < 0 then zq_Ex X 214 155 [(.ref (232)), (zq_vi (x1)), (zq_vi (x2)), (zq_vi (x3)), v4, v5] [] s (zq_rp zq_iv K) else (zq_Ex X 159 0 [(.ref (232)), (zq_vi (2)), (zq_vi (x2)), zz_no, zz_no] [] s (zq_rp zq_iv fun x_3 s_2 => (if x_3 = 8 then (zq_Ex X 189 0 [(.ref (232)), (zq_vi (2)), (zq_vi (x2))] [] s_2 (zq_rp zq_iv fun x_7 s_6 => (((0 : Int) ≤ x_7 ∧ x_7 < (10 : Int)) ∧ (if zq_i s_6 (250) (x_7) = 2 then (((0 : Int) ≤ x_7 ∧ x_7 < (10 : Int)) ∧ (zq_Ex X 190 0 [(.ref (232)), (zq_vi (2)), (zq_vi (x2))] [] s_6 (zq_rp zq_iv fun x_14 s_13 => (if zq_i s_6 (252) (x_7) = x_14 then (((0 : Int) ≤ x_7 ∧ x_7 < (10 : Int)) ∧ (if zq_i s_13 (254) (x_7) = 0 then (((0 : Int) ≤ x_7 ∧ x_7 < (10 : Int)) ∧ (zq_Ex X 212 0 [(.ref (232)), (zq_vi (x_7)), zz_no, zz_no] [] (zq_si s_13 (254) (x_7) (1)) (zq_rp zq_bo fun x_22 s_21 => (if x_22 = 0 then (((0 : Int) ≤ x_7 ∧ x_7 < (10 : Int)) ∧ (zq_Ex X 206 0 [(.ref (232)), (zq_vi (3)), (zq_vi (zq_i s_21 (251) (x_7)))] [] s_21 (zq_rp zq_bo fun x_29 s_28 => (if x_29 = 0 then K ((-1)) s_28 else K (0) s_28)))) else (zq_Ex X 210 0 [(.ref (232)), zz_no] [] s_21 (zq_rv fun s_25 => zq_Ex X 214 34 [(.ref (232)), (zq_vi (x1)), (zq_vi (0)), (zq_vi (x_7)), (zq_vi (1)), v5] [] s_25 (zq_rp zq_iv K))))))) else zq_Ex X 214 34 [(.ref (232)), (zq_vi (x1)), (zq_vi ((-1))), (zq_vi (x_7)), (zq_vi (1)), v5] [] s_13 (zq_rp zq_iv K))) else zq_Ex X 214 34 [(.ref (232)), (zq_vi (x1)), (zq_vi ((-1))), (zq_vi (x_7)), (zq_vi (0)), v5] [] s_13 (zq_rp zq_iv K))))) else zq_Ex X 214 34 [(.ref (232)), (zq_vi (x1)), (zq_vi ((-1))), (zq_vi (x_7)), (zq_vi (0)), v5] [] s_6 (zq_rp zq_iv K))))) else zq_Ex X 214 155 [(.ref (232)), (zq_vi (x1)), (zq_vi (x2)), (zq_vi (x3)), v4, v5] [] s_2 (zq_rp zq_iv K)))))) : zq_Ex X 214 34 [(.ref (232)), (zq_vi (x1)), (zq_vi (x2)), (zq_vi (x3)), v4, v5] [] s (zq_rp zq_iv K) := by
  refine zq_run 1 (pc' := 35) (L' := [(.ref (232)), (zq_vi (x1)), (zq_vi (x2)), (zq_vi (x3)), v4, v5]) (st' := [(zq_vi (x2))]) (fun _ _ _ => rfl) ?_
  refine zq_lt0 rfl hx2 (fun hb_1 => ?_) (fun hb_1 => ?_)
  · rw [if_pos hb_1] at w
    exact w
  · rw [if_neg hb_1] at w
    refine zq_run 3 (pc' := 41) (L' := [(.ref (232)), (zq_vi (x1)), (zq_vi (x2)), (zq_vi (x3)), v4, v5]) (st' := [(zq_vi (x2)), (zq_vi (2)), (.ref (232))]) (fun _ _ _ => rfl) ?_
    refine zq_call_i (i := .invokevirtual 202) (r := [1, 159, 2, 1, 9]) rfl rfl (fun h hp => zr_avv rfl (hp.obj zq_a232)) (of_decide_eq_false rfl) w (fun x_3 s_2 hx_4 w => ?_)
    refine zq_run 1 (pc' := 46) (L' := [(.ref (232)), (zq_vi (x1)), (zq_vi (x2)), (zq_vi (x3)), v4, v5]) (st' := [(zq_vi (8)), (zq_vi (x_3))]) (fun _ _ _ => rfl) ?_
    refine zq_ne rfl hx_4 (of_decide_eq_true rfl) (fun hb_5 => ?_) (fun hb_5 => ?_)
    · rw [if_neg hb_5] at w
      exact w
    · rw [if_pos hb_5] at w
      refine zq_run 3 (pc' := 52) (L' := [(.ref (232)), (zq_vi (x1)), (zq_vi (x2)), (zq_vi (x3)), v4, v5]) (st' := [(zq_vi (x2)), (zq_vi (2)), (.ref (232))]) (fun _ _ _ => rfl) ?_
      refine zq_call_i (i := .invokevirtual 243) (r := [1, 189, 2, 1, 9]) rfl rfl (fun h hp => zr_avv rfl (hp.obj zq_a232)) (of_decide_eq_false rfl) w (fun x_7 s_6 hx_8 w => ?_)
      refine zq_run 2 (pc' := 57) (L' := [(.ref (232)), (zq_vi (x1)), (zq_vi (x2)), (zq_vi (x_7)), v4, v5]) (st' := [(.ref (232))]) (fun _ _ _ => rfl) ?_
      refine zq_getf_f (b := 250) rfl zq_a232 rfl rfl ?_
      refine zq_run 1 (pc' := 61) (L' := [(.ref (232)), (zq_vi (x1)), (zq_vi (x2)), (zq_vi (x_7)), v4, v5]) (st' := [(zq_vi (x_7)), (.ref (250))]) (fun _ _ _ => rfl) ?_
      obtain ⟨g_9, w⟩ := w
      refine zq_have (fun hR_10 => ?_)
      refine zq_ald_i (v := zq_i s_6 (250) (x_7)) rfl zq_a250 g_9.1 g_9.2 rfl ?_
      refine zq_run 1 (pc' := 63) (L' := [(.ref (232)), (zq_vi (x1)), (zq_vi (x2)), (zq_vi (x_7)), v4, v5]) (st' := [(zq_vi (2)), (zq_vi (zq_i s_6 (250) (x_7)))]) (fun _ _ _ => rfl) ?_
      refine zq_ne rfl (hR_10.1 _ _) (of_decide_eq_true rfl) (fun hb_11 => ?_) (fun hb_11 => ?_)
      · rw [if_neg hb_11] at w
        refine zq_run 3 (pc' := 90) (L' := [(.ref (232)), (zq_vi (x1)), (zq_vi (x2)), (zq_vi (x_7)), (zq_vi (0)), v5]) (st' := [(zq_vi (0))]) (fun _ _ _ => rfl) ?_
        refine zq_eq0 rfl (of_decide_eq_true rfl) (fun _ => ?_) (fun hb => absurd (by decide) hb)
        refine zq_run 4 (pc' := 34) (L' := [(.ref (232)), (zq_vi (x1)), (zq_vi ((-1))), (zq_vi (x_7)), (zq_vi (0)), v5]) (st' := []) (fun _ _ _ => rfl) ?_
        exact w
      · rw [if_pos hb_11] at w
        refine zq_run 1 (pc' := 67) (L' := [(.ref (232)), (zq_vi (x1)), (zq_vi (x2)), (zq_vi (x_7)), v4, v5]) (st' := [(.ref (232))]) (fun _ _ _ => rfl) ?_
        refine zq_getf_f (b := 252) rfl zq_a232 rfl rfl ?_
        refine zq_run 1 (pc' := 71) (L' := [(.ref (232)), (zq_vi (x1)), (zq_vi (x2)), (zq_vi (x_7)), v4, v5]) (st' := [(zq_vi (x_7)), (.ref (252))]) (fun _ _ _ => rfl) ?_
        obtain ⟨g_12, w⟩ := w
        refine zq_ald_i (v := zq_i s_6 (252) (x_7)) rfl zq_a252 g_12.1 g_12.2 rfl ?_
        refine zq_run 3 (pc' := 75) (L' := [(.ref (232)), (zq_vi (x1)), (zq_vi (x2)), (zq_vi (x_7)), v4, v5]) (st' := [(zq_vi (x2)), (zq_vi (2)), (.ref (232)), (zq_vi (zq_i s_6 (252) (x_7)))]) (fun _ _ _ => rfl) ?_
        refine zq_call_i (i := .invokevirtual 246) (r := [1, 190, 2, 1, 9]) rfl rfl (fun h hp => zr_avv rfl (hp.obj zq_a232)) (of_decide_eq_false rfl) w (fun x_14 s_13 hx_15 w => ?_)
        refine zq_ne rfl (hR_10.1 _ _) hx_15 (fun hb_16 => ?_) (fun hb_16 => ?_)
        · rw [if_neg hb_16] at w
          refine zq_run 3 (pc' := 90) (L' := [(.ref (232)), (zq_vi (x1)), (zq_vi (x2)), (zq_vi (x_7)), (zq_vi (0)), v5]) (st' := [(zq_vi (0))]) (fun _ _ _ => rfl) ?_
          refine zq_eq0 rfl (of_decide_eq_true rfl) (fun _ => ?_) (fun hb => absurd (by decide) hb)
          refine zq_run 4 (pc' := 34) (L' := [(.ref (232)), (zq_vi (x1)), (zq_vi ((-1))), (zq_vi (x_7)), (zq_vi (0)), v5]) (st' := []) (fun _ _ _ => rfl) ?_
          exact w
        · rw [if_pos hb_16] at w
          refine zq_run 4 (pc' := 90) (L' := [(.ref (232)), (zq_vi (x1)), (zq_vi (x2)), (zq_vi (x_7)), (zq_vi (1)), v5]) (st' := [(zq_vi (1))]) (fun _ _ _ => rfl) ?_
          refine zq_eq0 rfl (of_decide_eq_true rfl) (fun hb => absurd hb (by decide)) (fun _ => ?_)
          refine zq_run 1 (pc' := 94) (L' := [(.ref (232)), (zq_vi (x1)), (zq_vi (x2)), (zq_vi (x_7)), (zq_vi (1)), v5]) (st' := [(.ref (232))]) (fun _ _ _ => rfl) ?_
          refine zq_getf_f (b := 254) rfl zq_a232 rfl rfl ?_
          refine zq_run 1 (pc' := 98) (L' := [(.ref (232)), (zq_vi (x1)), (zq_vi (x2)), (zq_vi (x_7)), (zq_vi (1)), v5]) (st' := [(zq_vi (x_7)), (.ref (254))]) (fun _ _ _ => rfl) ?_
          obtain ⟨g_17, w⟩ := w
          refine zq_have (fun hR_18 => ?_)
          refine zq_ald_b (v := zq_i s_13 (254) (x_7)) rfl zq_a254 g_17.1 g_17.2 rfl ?_
          refine zq_eq0 rfl (zq_bo_in (hR_18.2.2.1 _ _ _ zq_a254)) (fun hb_19 => ?_) (fun hb_19 => ?_)
          · rw [if_pos hb_19] at w
            refine zq_run 1 (pc' := 108) (L' := [(.ref (232)), (zq_vi (x1)), (zq_vi (x2)), (zq_vi (x_7)), (zq_vi (1)), v5]) (st' := [(.ref (232))]) (fun _ _ _ => rfl) ?_
            refine zq_getf_f (b := 254) rfl zq_a232 rfl rfl ?_
            refine zq_run 2 (pc' := 113) (L' := [(.ref (232)), (zq_vi (x1)), (zq_vi (x2)), (zq_vi (x_7)), (zq_vi (1)), v5]) (st' := [(zq_vi (1)), (zq_vi (x_7)), (.ref (254))]) (fun _ _ _ => rfl) ?_
            obtain ⟨g_20, w⟩ := w
            refine zq_ast_b rfl zq_a254 g_20.1 g_20.2 (of_decide_eq_true rfl) ?_
            refine zq_run 2 (pc' := 116) (L' := [(.ref (232)), (zq_vi (x1)), (zq_vi (x2)), (zq_vi (x_7)), (zq_vi (1)), v5]) (st' := [(zq_vi (x_7)), (.ref (232))]) (fun _ _ _ => rfl) ?_
            refine zq_call_i (i := .invokevirtual 374) (r := [1, 212, 1, 1, 9]) rfl rfl (fun h hp => zr_avv rfl (hp.obj zq_a232)) (of_decide_eq_false rfl) w (fun x_22 s_21 hx_23 w => ?_)
            refine zq_ne0 rfl (zq_bo_in hx_23) (fun hb_24 => ?_) (fun hb_24 => ?_)
            · rw [if_neg hb_24] at w
              refine zq_run 1 (pc' := 147) (L' := [(.ref (232)), (zq_vi (x1)), (zq_vi (x2)), (zq_vi (x_7)), (zq_vi (1)), v5]) (st' := [(.ref (232))]) (fun _ _ _ => rfl) ?_
              refine zq_call_v (i := .invokevirtual 351) (r := [1, 210, 0, 1, 9]) rfl rfl (fun h hp => zr_avv rfl (hp.obj zq_a232)) (of_decide_eq_false rfl) w (fun s_25 w => ?_)
              refine zq_run 3 (pc' := 34) (L' := [(.ref (232)), (zq_vi (x1)), (zq_vi (0)), (zq_vi (x_7)), (zq_vi (1)), v5]) (st' := []) (fun _ _ _ => rfl) ?_
              exact w
            · rw [if_pos hb_24] at w
              refine zq_run 3 (pc' := 125) (L' := [(.ref (232)), (zq_vi (x1)), (zq_vi (x2)), (zq_vi (x_7)), (zq_vi (1)), v5]) (st' := [(.ref (232)), (zq_vi (3)), (.ref (232))]) (fun _ _ _ => rfl) ?_
              refine zq_getf_f (b := 251) rfl zq_a232 rfl rfl ?_
              refine zq_run 1 (pc' := 129) (L' := [(.ref (232)), (zq_vi (x1)), (zq_vi (x2)), (zq_vi (x_7)), (zq_vi (1)), v5]) (st' := [(zq_vi (x_7)), (.ref (251)), (zq_vi (3)), (.ref (232))]) (fun _ _ _ => rfl) ?_
              obtain ⟨g_26, w⟩ := w
              refine zq_have (fun hR_27 => ?_)
              refine zq_ald_i (v := zq_i s_21 (251) (x_7)) rfl zq_a251 g_26.1 g_26.2 rfl ?_
              refine zq_call_i (i := .invokevirtual 367) (r := [1, 206, 2, 1, 9]) rfl rfl (fun h hp => zr_avv rfl (hp.obj zq_a232)) (of_decide_eq_false rfl) w (fun x_29 s_28 hx_30 w => ?_)
              refine zq_run 2 (pc' := 137) (L' := [(.ref (232)), (zq_vi (x1)), (zq_vi (x2)), (zq_vi (x_7)), (zq_vi (1)), (zq_vi (x_29))]) (st' := [(zq_vi (x_29))]) (fun _ _ _ => rfl) ?_
              refine zq_eq0 rfl (zq_bo_in hx_30) (fun hb_31 => ?_) (fun hb_31 => ?_)
              · rw [if_pos hb_31] at w
                refine zq_run 1 (pc' := 145) (L' := [(.ref (232)), (zq_vi (x1)), (zq_vi (x2)), (zq_vi (x_7)), (zq_vi (1)), (zq_vi (x_29))]) (st' := [(zq_vi ((-1)))]) (fun _ _ _ => rfl) ?_
                exact zq_iret rfl rfl rfl (⟨_, rfl, (of_decide_eq_true rfl), w⟩)
              · rw [if_neg hb_31] at w
                refine zq_run 2 (pc' := 145) (L' := [(.ref (232)), (zq_vi (x1)), (zq_vi (x2)), (zq_vi (x_7)), (zq_vi (1)), (zq_vi (x_29))]) (st' := [(zq_vi (0))]) (fun _ _ _ => rfl) ?_
                exact zq_iret rfl rfl rfl (⟨_, rfl, (of_decide_eq_true rfl), w⟩)
          · rw [if_neg hb_19] at w
            refine zq_run 4 (pc' := 34) (L' := [(.ref (232)), (zq_vi (x1)), (zq_vi ((-1))), (zq_vi (x_7)), (zq_vi (1)), v5]) (st' := []) (fun _ _ _ => rfl) ?_
            exact w
set_option maxRecDepth 100000 in
/-- PaperObjectsModel.lengthBy at 155 -/
theorem zw_214_155 {X : Nat × (Nat → Int32)} {s : zq_S} {K : Int → zq_S → Prop} {x1 : Int} (hx1 : zq_iv x1) {x2 : Int} (hx2 : zq_iv x2) {x3 : Int} (hx3 : zq_iv x3) {v4 : Value} (hv4 : v4.category = 1) {v5 : Value} (hv5 : v5.category = 1) (w : (if x2 < 0 then (if x2 < 0 then (((0 : Int) ≤ x1 ∧ x1 < (10 : Int)) ∧ (zq_Ex X 206 0 [(.ref (232)), (zq_vi (4)), (zq_vi (zq_i s (251) (x1)))] [] s (zq_rp zq_bo fun x_43 s_42 => (if x_43 = 0 then K ((-1)) s_42 else K (0) s_42)))) else (zq_Ex X 159 0 [(.ref (232)), (zq_vi (2)), (zq_vi (x2)), zz_no, zz_no] [] s (zq_rp zq_iv fun x_47 s_46 => (if x_47 = 3 then (zq_Ex X 167 0 [(.ref (232)), (zq_vi (2)), (zq_vi (x2)), (zq_vi (0)), zz_no, zz_no, zz_no] [] s_46 (zq_rp zq_iv fun x_57 s_56 => (if x_57 < 0 then (((0 : Int) ≤ x1 ∧ x1 < (10 : Int)) ∧ (zq_Ex X 206 0 [(.ref (232)), (zq_vi (4)), (zq_vi (zq_i s_56 (251) (x1)))] [] s_56 (zq_rp zq_bo fun x_63 s_62 => (if x_63 = 0 then K ((-1)) s_62 else K (0) s_62)))) else (if x_57 ≤ 12 then K (x_57) s_56 else (((0 : Int) ≤ x1 ∧ x1 < (10 : Int)) ∧ (zq_Ex X 206 0 [(.ref (232)), (zq_vi (4)), (zq_vi (zq_i s_56 (251) (x1)))] [] s_56 (zq_rp zq_bo fun x_70 s_69 => (if x_70 = 0 then K ((-1)) s_69 else K (0) s_69)))))))) else (((0 : Int) ≤ x1 ∧ x1 < (10 : Int)) ∧ (zq_Ex X 206 0 [(.ref (232)), (zq_vi (4)), (zq_vi (zq_i s_46 (251) (x1)))] [] s_46 (zq_rp zq_bo fun x_53 s_52 => (if x_53 = 0 then K ((-1)) s_52 else K (0) s_52)))))))) else (zq_Ex X 161 0 [(.ref (232)), (zq_vi (2)), (zq_vi (x2)), zz_no] [] s (zq_rp zq_iv fun x_3 s_2 => (if x2 < 0 then (((0 : Int) ≤ x1 ∧ x1 < (10 : Int)) ∧ (zq_Ex X 206 0 [(.ref (232)), (zq_vi (4)), (zq_vi (zq_i s_2 (251) (x1)))] [] s_2 (zq_rp zq_bo fun x_9 s_8 => (if x_9 = 0 then K ((-1)) s_8 else K (0) s_8)))) else (zq_Ex X 159 0 [(.ref (232)), (zq_vi (2)), (zq_vi (x2)), zz_no, zz_no] [] s_2 (zq_rp zq_iv fun x_13 s_12 => (if x_13 = 3 then (zq_Ex X 167 0 [(.ref (232)), (zq_vi (2)), (zq_vi (x2)), (zq_vi (x_3)), zz_no, zz_no, zz_no] [] s_12 (zq_rp zq_iv fun x_23 s_22 => (if x_23 < 0 then (((0 : Int) ≤ x1 ∧ x1 < (10 : Int)) ∧ (zq_Ex X 206 0 [(.ref (232)), (zq_vi (4)), (zq_vi (zq_i s_22 (251) (x1)))] [] s_22 (zq_rp zq_bo fun x_29 s_28 => (if x_29 = 0 then K ((-1)) s_28 else K (0) s_28)))) else (if x_23 ≤ 12 then K (x_23) s_22 else (((0 : Int) ≤ x1 ∧ x1 < (10 : Int)) ∧ (zq_Ex X 206 0 [(.ref (232)), (zq_vi (4)), (zq_vi (zq_i s_22 (251) (x1)))] [] s_22 (zq_rp zq_bo fun x_36 s_35 => (if x_36 = 0 then K ((-1)) s_35 else K (0) s_35)))))))) else (((0 : Int) ≤ x1 ∧ x1 < (10 : Int)) ∧ (zq_Ex X 206 0 [(.ref (232)), (zq_vi (4)), (zq_vi (zq_i s_12 (251) (x1)))] [] s_12 (zq_rp zq_bo fun x_19 s_18 => (if x_19 = 0 then K ((-1)) s_18 else K (0) s_18)))))))))))) : zq_Ex X 214 155 [(.ref (232)), (zq_vi (x1)), (zq_vi (x2)), (zq_vi (x3)), v4, v5] [] s (zq_rp zq_iv K) := by
  refine zq_run 1 (pc' := 156) (L' := [(.ref (232)), (zq_vi (x1)), (zq_vi (x2)), (zq_vi (x3)), v4, v5]) (st' := [(zq_vi (x2))]) (fun _ _ _ => rfl) ?_
  refine zq_ge0 rfl hx2 (fun hb_1 => ?_) (fun hb_1 => ?_)
  · rw [if_neg hb_1] at w
    refine zq_run 3 (pc' := 166) (L' := [(.ref (232)), (zq_vi (x1)), (zq_vi (x2)), (zq_vi (x3)), v4, v5]) (st' := [(zq_vi (x2)), (zq_vi (2)), (.ref (232))]) (fun _ _ _ => rfl) ?_
    refine zq_call_i (i := .invokevirtual 134) (r := [1, 161, 2, 1, 9]) rfl rfl (fun h hp => zr_avv rfl (hp.obj zq_a232)) (of_decide_eq_false rfl) w (fun x_3 s_2 hx_4 w => ?_)
    refine zq_run 2 (pc' := 171) (L' := [(.ref (232)), (zq_vi (x1)), (zq_vi (x2)), (zq_vi (x_3)), v4, v5]) (st' := [(zq_vi (x2))]) (fun _ _ _ => rfl) ?_
    refine zq_lt0 rfl hx2 (fun hb_5 => ?_) (fun hb_5 => ?_)
    · rw [if_pos hb_5] at w
      refine zq_run 3 (pc' := 199) (L' := [(.ref (232)), (zq_vi (x1)), (zq_vi (x2)), (zq_vi (x_3)), (zq_vi ((-1))), v5]) (st' := [(zq_vi ((-1)))]) (fun _ _ _ => rfl) ?_
      refine zq_lt0 rfl (of_decide_eq_true rfl) (fun _ => ?_) (fun hb => absurd (by decide) hb)
      refine zq_run 3 (pc' := 212) (L' := [(.ref (232)), (zq_vi (x1)), (zq_vi (x2)), (zq_vi (x_3)), (zq_vi ((-1))), v5]) (st' := [(.ref (232)), (zq_vi (4)), (.ref (232))]) (fun _ _ _ => rfl) ?_
      refine zq_getf_f (b := 251) rfl zq_a232 rfl rfl ?_
      refine zq_run 1 (pc' := 216) (L' := [(.ref (232)), (zq_vi (x1)), (zq_vi (x2)), (zq_vi (x_3)), (zq_vi ((-1))), v5]) (st' := [(zq_vi (x1)), (.ref (251)), (zq_vi (4)), (.ref (232))]) (fun _ _ _ => rfl) ?_
      obtain ⟨g_6, w⟩ := w
      refine zq_have (fun hR_7 => ?_)
      refine zq_ald_i (v := zq_i s_2 (251) (x1)) rfl zq_a251 g_6.1 g_6.2 rfl ?_
      refine zq_call_i (i := .invokevirtual 367) (r := [1, 206, 2, 1, 9]) rfl rfl (fun h hp => zr_avv rfl (hp.obj zq_a232)) (of_decide_eq_false rfl) w (fun x_9 s_8 hx_10 w => ?_)
      refine zq_run 2 (pc' := 224) (L' := [(.ref (232)), (zq_vi (x1)), (zq_vi (x2)), (zq_vi (x_3)), (zq_vi ((-1))), (zq_vi (x_9))]) (st' := [(zq_vi (x_9))]) (fun _ _ _ => rfl) ?_
      refine zq_eq0 rfl (zq_bo_in hx_10) (fun hb_11 => ?_) (fun hb_11 => ?_)
      · rw [if_pos hb_11] at w
        refine zq_run 1 (pc' := 232) (L' := [(.ref (232)), (zq_vi (x1)), (zq_vi (x2)), (zq_vi (x_3)), (zq_vi ((-1))), (zq_vi (x_9))]) (st' := [(zq_vi ((-1)))]) (fun _ _ _ => rfl) ?_
        exact zq_iret rfl rfl rfl (⟨_, rfl, (of_decide_eq_true rfl), w⟩)
      · rw [if_neg hb_11] at w
        refine zq_run 2 (pc' := 232) (L' := [(.ref (232)), (zq_vi (x1)), (zq_vi (x2)), (zq_vi (x_3)), (zq_vi ((-1))), (zq_vi (x_9))]) (st' := [(zq_vi (0))]) (fun _ _ _ => rfl) ?_
        exact zq_iret rfl rfl rfl (⟨_, rfl, (of_decide_eq_true rfl), w⟩)
    · rw [if_neg hb_5] at w
      refine zq_run 3 (pc' := 177) (L' := [(.ref (232)), (zq_vi (x1)), (zq_vi (x2)), (zq_vi (x_3)), v4, v5]) (st' := [(zq_vi (x2)), (zq_vi (2)), (.ref (232))]) (fun _ _ _ => rfl) ?_
      refine zq_call_i (i := .invokevirtual 202) (r := [1, 159, 2, 1, 9]) rfl rfl (fun h hp => zr_avv rfl (hp.obj zq_a232)) (of_decide_eq_false rfl) w (fun x_13 s_12 hx_14 w => ?_)
      refine zq_run 1 (pc' := 181) (L' := [(.ref (232)), (zq_vi (x1)), (zq_vi (x2)), (zq_vi (x_3)), v4, v5]) (st' := [(zq_vi (3)), (zq_vi (x_13))]) (fun _ _ _ => rfl) ?_
      refine zq_ne rfl hx_14 (of_decide_eq_true rfl) (fun hb_15 => ?_) (fun hb_15 => ?_)
      · rw [if_neg hb_15] at w
        refine zq_run 3 (pc' := 199) (L' := [(.ref (232)), (zq_vi (x1)), (zq_vi (x2)), (zq_vi (x_3)), (zq_vi ((-1))), v5]) (st' := [(zq_vi ((-1)))]) (fun _ _ _ => rfl) ?_
        refine zq_lt0 rfl (of_decide_eq_true rfl) (fun _ => ?_) (fun hb => absurd (by decide) hb)
        refine zq_run 3 (pc' := 212) (L' := [(.ref (232)), (zq_vi (x1)), (zq_vi (x2)), (zq_vi (x_3)), (zq_vi ((-1))), v5]) (st' := [(.ref (232)), (zq_vi (4)), (.ref (232))]) (fun _ _ _ => rfl) ?_
        refine zq_getf_f (b := 251) rfl zq_a232 rfl rfl ?_
        refine zq_run 1 (pc' := 216) (L' := [(.ref (232)), (zq_vi (x1)), (zq_vi (x2)), (zq_vi (x_3)), (zq_vi ((-1))), v5]) (st' := [(zq_vi (x1)), (.ref (251)), (zq_vi (4)), (.ref (232))]) (fun _ _ _ => rfl) ?_
        obtain ⟨g_16, w⟩ := w
        refine zq_have (fun hR_17 => ?_)
        refine zq_ald_i (v := zq_i s_12 (251) (x1)) rfl zq_a251 g_16.1 g_16.2 rfl ?_
        refine zq_call_i (i := .invokevirtual 367) (r := [1, 206, 2, 1, 9]) rfl rfl (fun h hp => zr_avv rfl (hp.obj zq_a232)) (of_decide_eq_false rfl) w (fun x_19 s_18 hx_20 w => ?_)
        refine zq_run 2 (pc' := 224) (L' := [(.ref (232)), (zq_vi (x1)), (zq_vi (x2)), (zq_vi (x_3)), (zq_vi ((-1))), (zq_vi (x_19))]) (st' := [(zq_vi (x_19))]) (fun _ _ _ => rfl) ?_
        refine zq_eq0 rfl (zq_bo_in hx_20) (fun hb_21 => ?_) (fun hb_21 => ?_)
        · rw [if_pos hb_21] at w
          refine zq_run 1 (pc' := 232) (L' := [(.ref (232)), (zq_vi (x1)), (zq_vi (x2)), (zq_vi (x_3)), (zq_vi ((-1))), (zq_vi (x_19))]) (st' := [(zq_vi ((-1)))]) (fun _ _ _ => rfl) ?_
          exact zq_iret rfl rfl rfl (⟨_, rfl, (of_decide_eq_true rfl), w⟩)
        · rw [if_neg hb_21] at w
          refine zq_run 2 (pc' := 232) (L' := [(.ref (232)), (zq_vi (x1)), (zq_vi (x2)), (zq_vi (x_3)), (zq_vi ((-1))), (zq_vi (x_19))]) (st' := [(zq_vi (0))]) (fun _ _ _ => rfl) ?_
          exact zq_iret rfl rfl rfl (⟨_, rfl, (of_decide_eq_true rfl), w⟩)
      · rw [if_pos hb_15] at w
        refine zq_run 4 (pc' := 188) (L' := [(.ref (232)), (zq_vi (x1)), (zq_vi (x2)), (zq_vi (x_3)), v4, v5]) (st' := [(zq_vi (x_3)), (zq_vi (x2)), (zq_vi (2)), (.ref (232))]) (fun _ _ _ => rfl) ?_
        refine zq_call_i (i := .invokevirtual 162) (r := [1, 167, 3, 1, 9]) rfl rfl (fun h hp => zr_avv rfl (hp.obj zq_a232)) (of_decide_eq_false rfl) w (fun x_23 s_22 hx_24 w => ?_)
        refine zq_run 3 (pc' := 199) (L' := [(.ref (232)), (zq_vi (x1)), (zq_vi (x2)), (zq_vi (x_3)), (zq_vi (x_23)), v5]) (st' := [(zq_vi (x_23))]) (fun _ _ _ => rfl) ?_
        refine zq_lt0 rfl hx_24 (fun hb_25 => ?_) (fun hb_25 => ?_)
        · rw [if_pos hb_25] at w
          refine zq_run 3 (pc' := 212) (L' := [(.ref (232)), (zq_vi (x1)), (zq_vi (x2)), (zq_vi (x_3)), (zq_vi (x_23)), v5]) (st' := [(.ref (232)), (zq_vi (4)), (.ref (232))]) (fun _ _ _ => rfl) ?_
          refine zq_getf_f (b := 251) rfl zq_a232 rfl rfl ?_
          refine zq_run 1 (pc' := 216) (L' := [(.ref (232)), (zq_vi (x1)), (zq_vi (x2)), (zq_vi (x_3)), (zq_vi (x_23)), v5]) (st' := [(zq_vi (x1)), (.ref (251)), (zq_vi (4)), (.ref (232))]) (fun _ _ _ => rfl) ?_
          obtain ⟨g_26, w⟩ := w
          refine zq_have (fun hR_27 => ?_)
          refine zq_ald_i (v := zq_i s_22 (251) (x1)) rfl zq_a251 g_26.1 g_26.2 rfl ?_
          refine zq_call_i (i := .invokevirtual 367) (r := [1, 206, 2, 1, 9]) rfl rfl (fun h hp => zr_avv rfl (hp.obj zq_a232)) (of_decide_eq_false rfl) w (fun x_29 s_28 hx_30 w => ?_)
          refine zq_run 2 (pc' := 224) (L' := [(.ref (232)), (zq_vi (x1)), (zq_vi (x2)), (zq_vi (x_3)), (zq_vi (x_23)), (zq_vi (x_29))]) (st' := [(zq_vi (x_29))]) (fun _ _ _ => rfl) ?_
          refine zq_eq0 rfl (zq_bo_in hx_30) (fun hb_31 => ?_) (fun hb_31 => ?_)
          · rw [if_pos hb_31] at w
            refine zq_run 1 (pc' := 232) (L' := [(.ref (232)), (zq_vi (x1)), (zq_vi (x2)), (zq_vi (x_3)), (zq_vi (x_23)), (zq_vi (x_29))]) (st' := [(zq_vi ((-1)))]) (fun _ _ _ => rfl) ?_
            exact zq_iret rfl rfl rfl (⟨_, rfl, (of_decide_eq_true rfl), w⟩)
          · rw [if_neg hb_31] at w
            refine zq_run 2 (pc' := 232) (L' := [(.ref (232)), (zq_vi (x1)), (zq_vi (x2)), (zq_vi (x_3)), (zq_vi (x_23)), (zq_vi (x_29))]) (st' := [(zq_vi (0))]) (fun _ _ _ => rfl) ?_
            exact zq_iret rfl rfl rfl (⟨_, rfl, (of_decide_eq_true rfl), w⟩)
        · rw [if_neg hb_25] at w
          refine zq_run 2 (pc' := 206) (L' := [(.ref (232)), (zq_vi (x1)), (zq_vi (x2)), (zq_vi (x_3)), (zq_vi (x_23)), v5]) (st' := [(zq_vi (12)), (zq_vi (x_23))]) (fun _ _ _ => rfl) ?_
          refine zq_le rfl hx_24 (of_decide_eq_true rfl) (fun hb_32 => ?_) (fun hb_32 => ?_)
          · rw [if_pos hb_32] at w
            refine zq_run 1 (pc' := 235) (L' := [(.ref (232)), (zq_vi (x1)), (zq_vi (x2)), (zq_vi (x_3)), (zq_vi (x_23)), v5]) (st' := [(zq_vi (x_23))]) (fun _ _ _ => rfl) ?_
            exact zq_iret rfl rfl rfl (⟨_, rfl, hx_24, w⟩)
          · rw [if_neg hb_32] at w
            refine zq_run 3 (pc' := 212) (L' := [(.ref (232)), (zq_vi (x1)), (zq_vi (x2)), (zq_vi (x_3)), (zq_vi (x_23)), v5]) (st' := [(.ref (232)), (zq_vi (4)), (.ref (232))]) (fun _ _ _ => rfl) ?_
            refine zq_getf_f (b := 251) rfl zq_a232 rfl rfl ?_
            refine zq_run 1 (pc' := 216) (L' := [(.ref (232)), (zq_vi (x1)), (zq_vi (x2)), (zq_vi (x_3)), (zq_vi (x_23)), v5]) (st' := [(zq_vi (x1)), (.ref (251)), (zq_vi (4)), (.ref (232))]) (fun _ _ _ => rfl) ?_
            obtain ⟨g_33, w⟩ := w
            refine zq_have (fun hR_34 => ?_)
            refine zq_ald_i (v := zq_i s_22 (251) (x1)) rfl zq_a251 g_33.1 g_33.2 rfl ?_
            refine zq_call_i (i := .invokevirtual 367) (r := [1, 206, 2, 1, 9]) rfl rfl (fun h hp => zr_avv rfl (hp.obj zq_a232)) (of_decide_eq_false rfl) w (fun x_36 s_35 hx_37 w => ?_)
            refine zq_run 2 (pc' := 224) (L' := [(.ref (232)), (zq_vi (x1)), (zq_vi (x2)), (zq_vi (x_3)), (zq_vi (x_23)), (zq_vi (x_36))]) (st' := [(zq_vi (x_36))]) (fun _ _ _ => rfl) ?_
            refine zq_eq0 rfl (zq_bo_in hx_37) (fun hb_38 => ?_) (fun hb_38 => ?_)
            · rw [if_pos hb_38] at w
              refine zq_run 1 (pc' := 232) (L' := [(.ref (232)), (zq_vi (x1)), (zq_vi (x2)), (zq_vi (x_3)), (zq_vi (x_23)), (zq_vi (x_36))]) (st' := [(zq_vi ((-1)))]) (fun _ _ _ => rfl) ?_
              exact zq_iret rfl rfl rfl (⟨_, rfl, (of_decide_eq_true rfl), w⟩)
            · rw [if_neg hb_38] at w
              refine zq_run 2 (pc' := 232) (L' := [(.ref (232)), (zq_vi (x1)), (zq_vi (x2)), (zq_vi (x_3)), (zq_vi (x_23)), (zq_vi (x_36))]) (st' := [(zq_vi (0))]) (fun _ _ _ => rfl) ?_
              exact zq_iret rfl rfl rfl (⟨_, rfl, (of_decide_eq_true rfl), w⟩)
  · rw [if_pos hb_1] at w
    refine zq_run 4 (pc' := 171) (L' := [(.ref (232)), (zq_vi (x1)), (zq_vi (x2)), (zq_vi (0)), v4, v5]) (st' := [(zq_vi (x2))]) (fun _ _ _ => rfl) ?_
    refine zq_lt0 rfl hx2 (fun hb_39 => ?_) (fun hb_39 => ?_)
    · rw [if_pos hb_39] at w
      refine zq_run 3 (pc' := 199) (L' := [(.ref (232)), (zq_vi (x1)), (zq_vi (x2)), (zq_vi (0)), (zq_vi ((-1))), v5]) (st' := [(zq_vi ((-1)))]) (fun _ _ _ => rfl) ?_
      refine zq_lt0 rfl (of_decide_eq_true rfl) (fun _ => ?_) (fun hb => absurd (by decide) hb)
      refine zq_run 3 (pc' := 212) (L' := [(.ref (232)), (zq_vi (x1)), (zq_vi (x2)), (zq_vi (0)), (zq_vi ((-1))), v5]) (st' := [(.ref (232)), (zq_vi (4)), (.ref (232))]) (fun _ _ _ => rfl) ?_
      refine zq_getf_f (b := 251) rfl zq_a232 rfl rfl ?_
      refine zq_run 1 (pc' := 216) (L' := [(.ref (232)), (zq_vi (x1)), (zq_vi (x2)), (zq_vi (0)), (zq_vi ((-1))), v5]) (st' := [(zq_vi (x1)), (.ref (251)), (zq_vi (4)), (.ref (232))]) (fun _ _ _ => rfl) ?_
      obtain ⟨g_40, w⟩ := w
      refine zq_have (fun hR_41 => ?_)
      refine zq_ald_i (v := zq_i s (251) (x1)) rfl zq_a251 g_40.1 g_40.2 rfl ?_
      refine zq_call_i (i := .invokevirtual 367) (r := [1, 206, 2, 1, 9]) rfl rfl (fun h hp => zr_avv rfl (hp.obj zq_a232)) (of_decide_eq_false rfl) w (fun x_43 s_42 hx_44 w => ?_)
      refine zq_run 2 (pc' := 224) (L' := [(.ref (232)), (zq_vi (x1)), (zq_vi (x2)), (zq_vi (0)), (zq_vi ((-1))), (zq_vi (x_43))]) (st' := [(zq_vi (x_43))]) (fun _ _ _ => rfl) ?_
      refine zq_eq0 rfl (zq_bo_in hx_44) (fun hb_45 => ?_) (fun hb_45 => ?_)
      · rw [if_pos hb_45] at w
        refine zq_run 1 (pc' := 232) (L' := [(.ref (232)), (zq_vi (x1)), (zq_vi (x2)), (zq_vi (0)), (zq_vi ((-1))), (zq_vi (x_43))]) (st' := [(zq_vi ((-1)))]) (fun _ _ _ => rfl) ?_
        exact zq_iret rfl rfl rfl (⟨_, rfl, (of_decide_eq_true rfl), w⟩)
      · rw [if_neg hb_45] at w
        refine zq_run 2 (pc' := 232) (L' := [(.ref (232)), (zq_vi (x1)), (zq_vi (x2)), (zq_vi (0)), (zq_vi ((-1))), (zq_vi (x_43))]) (st' := [(zq_vi (0))]) (fun _ _ _ => rfl) ?_
        exact zq_iret rfl rfl rfl (⟨_, rfl, (of_decide_eq_true rfl), w⟩)
    · rw [if_neg hb_39] at w
      refine zq_run 3 (pc' := 177) (L' := [(.ref (232)), (zq_vi (x1)), (zq_vi (x2)), (zq_vi (0)), v4, v5]) (st' := [(zq_vi (x2)), (zq_vi (2)), (.ref (232))]) (fun _ _ _ => rfl) ?_
      refine zq_call_i (i := .invokevirtual 202) (r := [1, 159, 2, 1, 9]) rfl rfl (fun h hp => zr_avv rfl (hp.obj zq_a232)) (of_decide_eq_false rfl) w (fun x_47 s_46 hx_48 w => ?_)
      refine zq_run 1 (pc' := 181) (L' := [(.ref (232)), (zq_vi (x1)), (zq_vi (x2)), (zq_vi (0)), v4, v5]) (st' := [(zq_vi (3)), (zq_vi (x_47))]) (fun _ _ _ => rfl) ?_
      refine zq_ne rfl hx_48 (of_decide_eq_true rfl) (fun hb_49 => ?_) (fun hb_49 => ?_)
      · rw [if_neg hb_49] at w
        refine zq_run 3 (pc' := 199) (L' := [(.ref (232)), (zq_vi (x1)), (zq_vi (x2)), (zq_vi (0)), (zq_vi ((-1))), v5]) (st' := [(zq_vi ((-1)))]) (fun _ _ _ => rfl) ?_
        refine zq_lt0 rfl (of_decide_eq_true rfl) (fun _ => ?_) (fun hb => absurd (by decide) hb)
        refine zq_run 3 (pc' := 212) (L' := [(.ref (232)), (zq_vi (x1)), (zq_vi (x2)), (zq_vi (0)), (zq_vi ((-1))), v5]) (st' := [(.ref (232)), (zq_vi (4)), (.ref (232))]) (fun _ _ _ => rfl) ?_
        refine zq_getf_f (b := 251) rfl zq_a232 rfl rfl ?_
        refine zq_run 1 (pc' := 216) (L' := [(.ref (232)), (zq_vi (x1)), (zq_vi (x2)), (zq_vi (0)), (zq_vi ((-1))), v5]) (st' := [(zq_vi (x1)), (.ref (251)), (zq_vi (4)), (.ref (232))]) (fun _ _ _ => rfl) ?_
        obtain ⟨g_50, w⟩ := w
        refine zq_have (fun hR_51 => ?_)
        refine zq_ald_i (v := zq_i s_46 (251) (x1)) rfl zq_a251 g_50.1 g_50.2 rfl ?_
        refine zq_call_i (i := .invokevirtual 367) (r := [1, 206, 2, 1, 9]) rfl rfl (fun h hp => zr_avv rfl (hp.obj zq_a232)) (of_decide_eq_false rfl) w (fun x_53 s_52 hx_54 w => ?_)
        refine zq_run 2 (pc' := 224) (L' := [(.ref (232)), (zq_vi (x1)), (zq_vi (x2)), (zq_vi (0)), (zq_vi ((-1))), (zq_vi (x_53))]) (st' := [(zq_vi (x_53))]) (fun _ _ _ => rfl) ?_
        refine zq_eq0 rfl (zq_bo_in hx_54) (fun hb_55 => ?_) (fun hb_55 => ?_)
        · rw [if_pos hb_55] at w
          refine zq_run 1 (pc' := 232) (L' := [(.ref (232)), (zq_vi (x1)), (zq_vi (x2)), (zq_vi (0)), (zq_vi ((-1))), (zq_vi (x_53))]) (st' := [(zq_vi ((-1)))]) (fun _ _ _ => rfl) ?_
          exact zq_iret rfl rfl rfl (⟨_, rfl, (of_decide_eq_true rfl), w⟩)
        · rw [if_neg hb_55] at w
          refine zq_run 2 (pc' := 232) (L' := [(.ref (232)), (zq_vi (x1)), (zq_vi (x2)), (zq_vi (0)), (zq_vi ((-1))), (zq_vi (x_53))]) (st' := [(zq_vi (0))]) (fun _ _ _ => rfl) ?_
          exact zq_iret rfl rfl rfl (⟨_, rfl, (of_decide_eq_true rfl), w⟩)
      · rw [if_pos hb_49] at w
        refine zq_run 4 (pc' := 188) (L' := [(.ref (232)), (zq_vi (x1)), (zq_vi (x2)), (zq_vi (0)), v4, v5]) (st' := [(zq_vi (0)), (zq_vi (x2)), (zq_vi (2)), (.ref (232))]) (fun _ _ _ => rfl) ?_
        refine zq_call_i (i := .invokevirtual 162) (r := [1, 167, 3, 1, 9]) rfl rfl (fun h hp => zr_avv rfl (hp.obj zq_a232)) (of_decide_eq_false rfl) w (fun x_57 s_56 hx_58 w => ?_)
        refine zq_run 3 (pc' := 199) (L' := [(.ref (232)), (zq_vi (x1)), (zq_vi (x2)), (zq_vi (0)), (zq_vi (x_57)), v5]) (st' := [(zq_vi (x_57))]) (fun _ _ _ => rfl) ?_
        refine zq_lt0 rfl hx_58 (fun hb_59 => ?_) (fun hb_59 => ?_)
        · rw [if_pos hb_59] at w
          refine zq_run 3 (pc' := 212) (L' := [(.ref (232)), (zq_vi (x1)), (zq_vi (x2)), (zq_vi (0)), (zq_vi (x_57)), v5]) (st' := [(.ref (232)), (zq_vi (4)), (.ref (232))]) (fun _ _ _ => rfl) ?_
          refine zq_getf_f (b := 251) rfl zq_a232 rfl rfl ?_
          refine zq_run 1 (pc' := 216) (L' := [(.ref (232)), (zq_vi (x1)), (zq_vi (x2)), (zq_vi (0)), (zq_vi (x_57)), v5]) (st' := [(zq_vi (x1)), (.ref (251)), (zq_vi (4)), (.ref (232))]) (fun _ _ _ => rfl) ?_
          obtain ⟨g_60, w⟩ := w
          refine zq_have (fun hR_61 => ?_)
          refine zq_ald_i (v := zq_i s_56 (251) (x1)) rfl zq_a251 g_60.1 g_60.2 rfl ?_
          refine zq_call_i (i := .invokevirtual 367) (r := [1, 206, 2, 1, 9]) rfl rfl (fun h hp => zr_avv rfl (hp.obj zq_a232)) (of_decide_eq_false rfl) w (fun x_63 s_62 hx_64 w => ?_)
          refine zq_run 2 (pc' := 224) (L' := [(.ref (232)), (zq_vi (x1)), (zq_vi (x2)), (zq_vi (0)), (zq_vi (x_57)), (zq_vi (x_63))]) (st' := [(zq_vi (x_63))]) (fun _ _ _ => rfl) ?_
          refine zq_eq0 rfl (zq_bo_in hx_64) (fun hb_65 => ?_) (fun hb_65 => ?_)
          · rw [if_pos hb_65] at w
            refine zq_run 1 (pc' := 232) (L' := [(.ref (232)), (zq_vi (x1)), (zq_vi (x2)), (zq_vi (0)), (zq_vi (x_57)), (zq_vi (x_63))]) (st' := [(zq_vi ((-1)))]) (fun _ _ _ => rfl) ?_
            exact zq_iret rfl rfl rfl (⟨_, rfl, (of_decide_eq_true rfl), w⟩)
          · rw [if_neg hb_65] at w
            refine zq_run 2 (pc' := 232) (L' := [(.ref (232)), (zq_vi (x1)), (zq_vi (x2)), (zq_vi (0)), (zq_vi (x_57)), (zq_vi (x_63))]) (st' := [(zq_vi (0))]) (fun _ _ _ => rfl) ?_
            exact zq_iret rfl rfl rfl (⟨_, rfl, (of_decide_eq_true rfl), w⟩)
        · rw [if_neg hb_59] at w
          refine zq_run 2 (pc' := 206) (L' := [(.ref (232)), (zq_vi (x1)), (zq_vi (x2)), (zq_vi (0)), (zq_vi (x_57)), v5]) (st' := [(zq_vi (12)), (zq_vi (x_57))]) (fun _ _ _ => rfl) ?_
          refine zq_le rfl hx_58 (of_decide_eq_true rfl) (fun hb_66 => ?_) (fun hb_66 => ?_)
          · rw [if_pos hb_66] at w
            refine zq_run 1 (pc' := 235) (L' := [(.ref (232)), (zq_vi (x1)), (zq_vi (x2)), (zq_vi (0)), (zq_vi (x_57)), v5]) (st' := [(zq_vi (x_57))]) (fun _ _ _ => rfl) ?_
            exact zq_iret rfl rfl rfl (⟨_, rfl, hx_58, w⟩)
          · rw [if_neg hb_66] at w
            refine zq_run 3 (pc' := 212) (L' := [(.ref (232)), (zq_vi (x1)), (zq_vi (x2)), (zq_vi (0)), (zq_vi (x_57)), v5]) (st' := [(.ref (232)), (zq_vi (4)), (.ref (232))]) (fun _ _ _ => rfl) ?_
            refine zq_getf_f (b := 251) rfl zq_a232 rfl rfl ?_
            refine zq_run 1 (pc' := 216) (L' := [(.ref (232)), (zq_vi (x1)), (zq_vi (x2)), (zq_vi (0)), (zq_vi (x_57)), v5]) (st' := [(zq_vi (x1)), (.ref (251)), (zq_vi (4)), (.ref (232))]) (fun _ _ _ => rfl) ?_
            obtain ⟨g_67, w⟩ := w
            refine zq_have (fun hR_68 => ?_)
            refine zq_ald_i (v := zq_i s_56 (251) (x1)) rfl zq_a251 g_67.1 g_67.2 rfl ?_
            refine zq_call_i (i := .invokevirtual 367) (r := [1, 206, 2, 1, 9]) rfl rfl (fun h hp => zr_avv rfl (hp.obj zq_a232)) (of_decide_eq_false rfl) w (fun x_70 s_69 hx_71 w => ?_)
            refine zq_run 2 (pc' := 224) (L' := [(.ref (232)), (zq_vi (x1)), (zq_vi (x2)), (zq_vi (0)), (zq_vi (x_57)), (zq_vi (x_70))]) (st' := [(zq_vi (x_70))]) (fun _ _ _ => rfl) ?_
            refine zq_eq0 rfl (zq_bo_in hx_71) (fun hb_72 => ?_) (fun hb_72 => ?_)
            · rw [if_pos hb_72] at w
              refine zq_run 1 (pc' := 232) (L' := [(.ref (232)), (zq_vi (x1)), (zq_vi (x2)), (zq_vi (0)), (zq_vi (x_57)), (zq_vi (x_70))]) (st' := [(zq_vi ((-1)))]) (fun _ _ _ => rfl) ?_
              exact zq_iret rfl rfl rfl (⟨_, rfl, (of_decide_eq_true rfl), w⟩)
            · rw [if_neg hb_72] at w
              refine zq_run 2 (pc' := 232) (L' := [(.ref (232)), (zq_vi (x1)), (zq_vi (x2)), (zq_vi (0)), (zq_vi (x_57)), (zq_vi (x_70))]) (st' := [(zq_vi (0))]) (fun _ _ _ => rfl) ?_
              exact zq_iret rfl rfl rfl (⟨_, rfl, (of_decide_eq_true rfl), w⟩)
set_option maxRecDepth 100000 in
/-- PaperObjectsModel.endsStream(I)Z -/
theorem zw_215 {X : Nat × (Nat → Int32)} {s : zq_S} {K : Int → zq_S → Prop} {x1 : Int} (hx1 : zq_iv x1) (w : (zq_Ex X 147 0 [(.ref (232)), (zq_vi (1)), (zq_vi (x1))] [] s (zq_rp zq_ch fun x_2 s_1 => (if x_2 = 10 then (zq_Ex X 164 0 [(.ref (232)), (zq_vi (1)), (zq_vi (x1 + 1)), (zq_vi (101)), (zq_vi (110)), (zq_vi (100)), (zq_vi (115))] [] s_1 (zq_rp zq_bo fun x_6 s_5 => (if x_6 = 0 then K (0) s_5 else (zq_Ex X 164 0 [(.ref (232)), (zq_vi (1)), (zq_vi (x1 + 5)), (zq_vi (116)), (zq_vi (114)), (zq_vi (101)), (zq_vi (97))] [] s_5 (zq_rp zq_bo fun x_10 s_9 => (if x_10 = 0 then K (0) s_9 else (zq_Ex X 147 0 [(.ref (232)), (zq_vi (1)), (zq_vi (x1 + 9))] [] s_9 (zq_rp zq_ch fun x_14 s_13 => (if x_14 = 109 then (zq_Ex X 147 0 [(.ref (232)), (zq_vi (1)), (zq_vi (x1 + 10))] [] s_13 (zq_rp zq_ch fun x_18 s_17 => (if x_18 = 10 then (zq_Ex X 213 0 [(.ref (232)), (zq_vi (x1 + 11))] [] s_17 (zq_rp zq_bo fun x_22 s_21 => (if x_22 = 0 then K (0) s_21 else K (1) s_21))) else K (0) s_17))) else K (0) s_13))))))))) else K (0) s_1)))) : zq_Ex X 215 0 [(.ref (232)), (zq_vi (x1))] [] s (zq_rp zq_bo K) := by
  refine zq_run 3 (pc' := 3) (L' := [(.ref (232)), (zq_vi (x1))]) (st' := [(zq_vi (x1)), (zq_vi (1)), (.ref (232))]) (fun _ _ _ => rfl) ?_
  refine zq_call_i (i := .invokevirtual 119) (r := [1, 147, 2, 1, 9]) rfl rfl (fun h hp => zr_avv rfl (hp.obj zq_a232)) (of_decide_eq_false rfl) w (fun x_2 s_1 hx_3 w => ?_)
  refine zq_run 1 (pc' := 8) (L' := [(.ref (232)), (zq_vi (x1))]) (st' := [(zq_vi (10)), (zq_vi (x_2))]) (fun _ _ _ => rfl) ?_
  refine zq_ne rfl (zq_ch_in hx_3) (of_decide_eq_true rfl) (fun hb_4 => ?_) (fun hb_4 => ?_)
  · rw [if_neg hb_4] at w
    refine zq_run 1 (pc' := 93) (L' := [(.ref (232)), (zq_vi (x1))]) (st' := [(zq_vi (0))]) (fun _ _ _ => rfl) ?_
    exact zq_iret rfl rfl (congrArg Value.int (zq_nb (of_decide_eq_true rfl))) (⟨_, rfl, (of_decide_eq_true rfl), w⟩)
  · rw [if_pos hb_4] at w
    refine zq_run 4 (pc' := 15) (L' := [(.ref (232)), (zq_vi (x1))]) (st' := [(zq_vi (1)), (zq_vi (x1)), (zq_vi (1)), (.ref (232))]) (fun _ _ _ => rfl) ?_
    refine zq_iadd rfl ?_
    refine zq_run 4 (pc' := 24) (L' := [(.ref (232)), (zq_vi (x1))]) (st' := [(zq_vi (115)), (zq_vi (100)), (zq_vi (110)), (zq_vi (101)), (zq_vi (x1 + 1)), (zq_vi (1)), (.ref (232))]) (fun _ _ _ => rfl) ?_
    refine zq_call_i (i := .invokevirtual 154) (r := [1, 164, 6, 1, 9]) rfl rfl (fun h hp => zr_avv rfl (hp.obj zq_a232)) (of_decide_eq_false rfl) w (fun x_6 s_5 hx_7 w => ?_)
    refine zq_eq0 rfl (zq_bo_in hx_7) (fun hb_8 => ?_) (fun hb_8 => ?_)
    · rw [if_pos hb_8] at w
      refine zq_run 1 (pc' := 93) (L' := [(.ref (232)), (zq_vi (x1))]) (st' := [(zq_vi (0))]) (fun _ _ _ => rfl) ?_
      exact zq_iret rfl rfl (congrArg Value.int (zq_nb (of_decide_eq_true rfl))) (⟨_, rfl, (of_decide_eq_true rfl), w⟩)
    · rw [if_neg hb_8] at w
      refine zq_run 4 (pc' := 34) (L' := [(.ref (232)), (zq_vi (x1))]) (st' := [(zq_vi (5)), (zq_vi (x1)), (zq_vi (1)), (.ref (232))]) (fun _ _ _ => rfl) ?_
      refine zq_iadd rfl ?_
      refine zq_run 4 (pc' := 43) (L' := [(.ref (232)), (zq_vi (x1))]) (st' := [(zq_vi (97)), (zq_vi (101)), (zq_vi (114)), (zq_vi (116)), (zq_vi (x1 + 5)), (zq_vi (1)), (.ref (232))]) (fun _ _ _ => rfl) ?_
      refine zq_call_i (i := .invokevirtual 154) (r := [1, 164, 6, 1, 9]) rfl rfl (fun h hp => zr_avv rfl (hp.obj zq_a232)) (of_decide_eq_false rfl) w (fun x_10 s_9 hx_11 w => ?_)
      refine zq_eq0 rfl (zq_bo_in hx_11) (fun hb_12 => ?_) (fun hb_12 => ?_)
      · rw [if_pos hb_12] at w
        refine zq_run 1 (pc' := 93) (L' := [(.ref (232)), (zq_vi (x1))]) (st' := [(zq_vi (0))]) (fun _ _ _ => rfl) ?_
        exact zq_iret rfl rfl (congrArg Value.int (zq_nb (of_decide_eq_true rfl))) (⟨_, rfl, (of_decide_eq_true rfl), w⟩)
      · rw [if_neg hb_12] at w
        refine zq_run 4 (pc' := 54) (L' := [(.ref (232)), (zq_vi (x1))]) (st' := [(zq_vi (9)), (zq_vi (x1)), (zq_vi (1)), (.ref (232))]) (fun _ _ _ => rfl) ?_
        refine zq_iadd rfl ?_
        refine zq_call_i (i := .invokevirtual 119) (r := [1, 147, 2, 1, 9]) rfl rfl (fun h hp => zr_avv rfl (hp.obj zq_a232)) (of_decide_eq_false rfl) w (fun x_14 s_13 hx_15 w => ?_)
        refine zq_run 1 (pc' := 60) (L' := [(.ref (232)), (zq_vi (x1))]) (st' := [(zq_vi (109)), (zq_vi (x_14))]) (fun _ _ _ => rfl) ?_
        refine zq_ne rfl (zq_ch_in hx_15) (of_decide_eq_true rfl) (fun hb_16 => ?_) (fun hb_16 => ?_)
        · rw [if_neg hb_16] at w
          refine zq_run 1 (pc' := 93) (L' := [(.ref (232)), (zq_vi (x1))]) (st' := [(zq_vi (0))]) (fun _ _ _ => rfl) ?_
          exact zq_iret rfl rfl (congrArg Value.int (zq_nb (of_decide_eq_true rfl))) (⟨_, rfl, (of_decide_eq_true rfl), w⟩)
        · rw [if_pos hb_16] at w
          refine zq_run 4 (pc' := 68) (L' := [(.ref (232)), (zq_vi (x1))]) (st' := [(zq_vi (10)), (zq_vi (x1)), (zq_vi (1)), (.ref (232))]) (fun _ _ _ => rfl) ?_
          refine zq_iadd rfl ?_
          refine zq_call_i (i := .invokevirtual 119) (r := [1, 147, 2, 1, 9]) rfl rfl (fun h hp => zr_avv rfl (hp.obj zq_a232)) (of_decide_eq_false rfl) w (fun x_18 s_17 hx_19 w => ?_)
          refine zq_run 1 (pc' := 74) (L' := [(.ref (232)), (zq_vi (x1))]) (st' := [(zq_vi (10)), (zq_vi (x_18))]) (fun _ _ _ => rfl) ?_
          refine zq_ne rfl (zq_ch_in hx_19) (of_decide_eq_true rfl) (fun hb_20 => ?_) (fun hb_20 => ?_)
          · rw [if_neg hb_20] at w
            refine zq_run 1 (pc' := 93) (L' := [(.ref (232)), (zq_vi (x1))]) (st' := [(zq_vi (0))]) (fun _ _ _ => rfl) ?_
            exact zq_iret rfl rfl (congrArg Value.int (zq_nb (of_decide_eq_true rfl))) (⟨_, rfl, (of_decide_eq_true rfl), w⟩)
          · rw [if_pos hb_20] at w
            refine zq_run 3 (pc' := 81) (L' := [(.ref (232)), (zq_vi (x1))]) (st' := [(zq_vi (11)), (zq_vi (x1)), (.ref (232))]) (fun _ _ _ => rfl) ?_
            refine zq_iadd rfl ?_
            refine zq_call_i (i := .invokevirtual 377) (r := [1, 213, 1, 1, 9]) rfl rfl (fun h hp => zr_avv rfl (hp.obj zq_a232)) (of_decide_eq_false rfl) w (fun x_22 s_21 hx_23 w => ?_)
            refine zq_eq0 rfl (zq_bo_in hx_23) (fun hb_24 => ?_) (fun hb_24 => ?_)
            · rw [if_pos hb_24] at w
              refine zq_run 1 (pc' := 93) (L' := [(.ref (232)), (zq_vi (x1))]) (st' := [(zq_vi (0))]) (fun _ _ _ => rfl) ?_
              exact zq_iret rfl rfl (congrArg Value.int (zq_nb (of_decide_eq_true rfl))) (⟨_, rfl, (of_decide_eq_true rfl), w⟩)
            · rw [if_neg hb_24] at w
              refine zq_run 2 (pc' := 93) (L' := [(.ref (232)), (zq_vi (x1))]) (st' := [(zq_vi (1))]) (fun _ _ _ => rfl) ?_
              exact zq_iret rfl rfl (congrArg Value.int (zq_nb (of_decide_eq_true rfl))) (⟨_, rfl, (of_decide_eq_true rfl), w⟩)
set_option maxRecDepth 100000 in
/-- PaperObjectsModel.takeObject(I)V -/
theorem zw_216 {X : Nat × (Nat → Int32)} {s : zq_S} {K : zq_S → Prop} {x1 : Int} (hx1 : zq_iv x1) (w : (((0 : Int) ≤ x1 ∧ x1 < (10 : Int)) ∧ (if zq_i s (250) (x1) = 2 then (((0 : Int) ≤ x1 ∧ x1 < (10 : Int)) ∧ (((0 : Int) ≤ x1 ∧ x1 < (10 : Int)) ∧ (((0 : Int) ≤ x1 ∧ x1 < (10 : Int)) ∧ (((0 : Int) ≤ x1 ∧ x1 < (10 : Int)) ∧ (((0 : Int) ≤ x1 ∧ x1 < (10 : Int)) ∧ (((0 : Int) ≤ x1 ∧ x1 < (10 : Int)) ∧ (((0 : Int) ≤ x1 ∧ x1 < (10 : Int)) ∧ (((0 : Int) ≤ x1 ∧ x1 < (10 : Int)) ∧ (zq_Ex X 211 0 [(.ref (232)), (zq_vi (x1)), zz_no, zz_no, zz_no, zz_no, zz_no] [] (zq_si (zq_si (zq_si (zq_si (zq_si (zq_si s (237) (x1) (1)) (238) (x1) (zq_i s (252) (x1))) (239) (x1) (0)) (242) (x1) (0)) (243) (x1) (0)) (240) (x1) (0)) (zq_rp zq_bo fun x_23 s_22 => (if x_23 = 0 then (if x_23 = 0 then zq_Ex X 216 112 [(.ref (232)), (zq_vi (x1)), (zq_vi (x_23)), (zq_vi (zq_i s_22 (232) (25))), (zq_vi ((-1))), zz_no] [] s_22 (zq_rv K) else (zq_Ex X 212 0 [(.ref (232)), (zq_vi (x1)), zz_no, zz_no] [] s_22 (zq_rp zq_bo fun x_29 s_28 => (if x_29 = 0 then zq_Ex X 216 112 [(.ref (232)), (zq_vi (x1)), (zq_vi (x_23)), (zq_vi (zq_i s_22 (232) (25))), (zq_vi ((-1))), zz_no] [] s_28 (zq_rv K) else (zq_Ex X 170 0 [(.ref (232)), (zq_vi (x1)), zz_no] [] s_28 (zq_rv fun s_32 => (((0 : Int) ≤ x1 ∧ x1 < (10 : Int)) ∧ zq_Ex X 216 142 [(.ref (232)), (zq_vi (x1)), (zq_vi (1)), (zq_vi (zq_i s_22 (232) (25))), (zq_vi ((-1))), (zq_vi (0))] [] (zq_si s_32 (242) (x1) (0)) (zq_rv K)))))))) else (if x_23 = 0 then zq_Ex X 216 112 [(.ref (232)), (zq_vi (x1)), (zq_vi (x_23)), (zq_vi (zq_i s_22 (232) (25))), (zq_vi (zq_i s_22 (232) (27))), zz_no] [] s_22 (zq_rv K) else (zq_Ex X 212 0 [(.ref (232)), (zq_vi (x1)), zz_no, zz_no] [] s_22 (zq_rp zq_bo fun x_36 s_35 => (if x_36 = 0 then zq_Ex X 216 112 [(.ref (232)), (zq_vi (x1)), (zq_vi (x_23)), (zq_vi (zq_i s_22 (232) (25))), (zq_vi (zq_i s_22 (232) (27))), zz_no] [] s_35 (zq_rv K) else (zq_Ex X 170 0 [(.ref (232)), (zq_vi (x1)), zz_no] [] s_35 (zq_rv fun s_39 => (if zq_i s_22 (232) (27) < 0 then (((0 : Int) ≤ x1 ∧ x1 < (10 : Int)) ∧ zq_Ex X 216 142 [(.ref (232)), (zq_vi (x1)), (zq_vi (1)), (zq_vi (zq_i s_22 (232) (25))), (zq_vi (zq_i s_22 (232) (27))), (zq_vi (0))] [] (zq_si s_39 (242) (x1) (0)) (zq_rv K)) else (((0 : Int) ≤ x1 ∧ x1 < (10 : Int)) ∧ zq_Ex X 216 142 [(.ref (232)), (zq_vi (x1)), (zq_vi (1)), (zq_vi (zq_i s_22 (232) (25))), (zq_vi (zq_i s_22 (232) (27))), (zq_vi (0))] [] (zq_si s_39 (242) (x1) (1)) (zq_rv K)))))))))))))))))))) else (((0 : Int) ≤ x1 ∧ x1 < (10 : Int)) ∧ (((0 : Int) ≤ x1 ∧ x1 < (10 : Int)) ∧ (((0 : Int) ≤ x1 ∧ x1 < (10 : Int)) ∧ (((0 : Int) ≤ x1 ∧ x1 < (10 : Int)) ∧ (((0 : Int) ≤ x1 ∧ x1 < (10 : Int)) ∧ (((0 : Int) ≤ x1 ∧ x1 < (10 : Int)) ∧ (((0 : Int) ≤ x1 ∧ x1 < (10 : Int)) ∧ (((0 : Int) ≤ x1 ∧ x1 < (10 : Int)) ∧ K (zq_si (zq_si (zq_si (zq_si (zq_si (zq_si s (237) (x1) (0)) (238) (x1) (zq_i s (252) (x1))) (239) (x1) (0)) (242) (x1) (0)) (243) (x1) (0)) (240) (x1) (0))))))))))))) : zq_Ex X 216 0 [(.ref (232)), (zq_vi (x1)), zz_no, zz_no, zz_no, zz_no] [] s (zq_rv K) := by
  refine zq_run 1 (pc' := 1) (L' := [(.ref (232)), (zq_vi (x1)), zz_no, zz_no, zz_no, zz_no]) (st' := [(.ref (232))]) (fun _ _ _ => rfl) ?_
  refine zq_getf_f (b := 237) rfl zq_a232 rfl rfl ?_
  refine zq_run 2 (pc' := 6) (L' := [(.ref (232)), (zq_vi (x1)), zz_no, zz_no, zz_no, zz_no]) (st' := [(.ref (232)), (zq_vi (x1)), (.ref (237))]) (fun _ _ _ => rfl) ?_
  refine zq_getf_f (b := 250) rfl zq_a232 rfl rfl ?_
  refine zq_run 1 (pc' := 10) (L' := [(.ref (232)), (zq_vi (x1)), zz_no, zz_no, zz_no, zz_no]) (st' := [(zq_vi (x1)), (.ref (250)), (zq_vi (x1)), (.ref (237))]) (fun _ _ _ => rfl) ?_
  obtain ⟨g_1, w⟩ := w
  refine zq_have (fun hR_2 => ?_)
  refine zq_ald_i (v := zq_i s (250) (x1)) rfl zq_a250 g_1.1 g_1.2 rfl ?_
  refine zq_run 1 (pc' := 12) (L' := [(.ref (232)), (zq_vi (x1)), zz_no, zz_no, zz_no, zz_no]) (st' := [(zq_vi (2)), (zq_vi (zq_i s (250) (x1))), (zq_vi (x1)), (.ref (237))]) (fun _ _ _ => rfl) ?_
  refine zq_ne rfl (hR_2.1 _ _) (of_decide_eq_true rfl) (fun hb_3 => ?_) (fun hb_3 => ?_)
  · rw [if_neg hb_3] at w
    refine zq_run 1 (pc' := 20) (L' := [(.ref (232)), (zq_vi (x1)), zz_no, zz_no, zz_no, zz_no]) (st' := [(zq_vi (0)), (zq_vi (x1)), (.ref (237))]) (fun _ _ _ => rfl) ?_
    obtain ⟨g_4, w⟩ := w
    refine zq_ast_b rfl zq_a237 g_4.1 g_4.2 (of_decide_eq_true rfl) ?_
    refine zq_run 1 (pc' := 22) (L' := [(.ref (232)), (zq_vi (x1)), zz_no, zz_no, zz_no, zz_no]) (st' := [(.ref (232))]) (fun _ _ _ => rfl) ?_
    refine zq_getf_f (b := 238) rfl zq_a232 rfl rfl ?_
    refine zq_run 2 (pc' := 27) (L' := [(.ref (232)), (zq_vi (x1)), zz_no, zz_no, zz_no, zz_no]) (st' := [(.ref (232)), (zq_vi (x1)), (.ref (238))]) (fun _ _ _ => rfl) ?_
    refine zq_getf_f (b := 252) rfl zq_a232 rfl rfl ?_
    refine zq_run 1 (pc' := 31) (L' := [(.ref (232)), (zq_vi (x1)), zz_no, zz_no, zz_no, zz_no]) (st' := [(zq_vi (x1)), (.ref (252)), (zq_vi (x1)), (.ref (238))]) (fun _ _ _ => rfl) ?_
    obtain ⟨g_5, w⟩ := w
    have e_6 : zq_i (zq_si s (237) (x1) (0)) (252) (x1) = zq_i s (252) (x1) := by simp [zq_i_si, zq_i_sr, zq_i_sl]
    refine zq_ald_i (v := zq_i s (252) (x1)) rfl zq_a252 g_5.1 g_5.2 e_6 ?_
    obtain ⟨g_7, w⟩ := w
    refine zq_ast_i rfl zq_a238 g_7.1 g_7.2 (hR_2.1 _ _) ?_
    refine zq_run 1 (pc' := 34) (L' := [(.ref (232)), (zq_vi (x1)), zz_no, zz_no, zz_no, zz_no]) (st' := [(.ref (232))]) (fun _ _ _ => rfl) ?_
    refine zq_getf_f (b := 239) rfl zq_a232 rfl rfl ?_
    refine zq_run 2 (pc' := 39) (L' := [(.ref (232)), (zq_vi (x1)), zz_no, zz_no, zz_no, zz_no]) (st' := [(zq_vi (0)), (zq_vi (x1)), (.ref (239))]) (fun _ _ _ => rfl) ?_
    obtain ⟨g_8, w⟩ := w
    refine zq_ast_b rfl zq_a239 g_8.1 g_8.2 (of_decide_eq_true rfl) ?_
    refine zq_run 1 (pc' := 41) (L' := [(.ref (232)), (zq_vi (x1)), zz_no, zz_no, zz_no, zz_no]) (st' := [(.ref (232))]) (fun _ _ _ => rfl) ?_
    refine zq_getf_f (b := 242) rfl zq_a232 rfl rfl ?_
    refine zq_run 2 (pc' := 46) (L' := [(.ref (232)), (zq_vi (x1)), zz_no, zz_no, zz_no, zz_no]) (st' := [(zq_vi (0)), (zq_vi (x1)), (.ref (242))]) (fun _ _ _ => rfl) ?_
    obtain ⟨g_9, w⟩ := w
    refine zq_ast_b rfl zq_a242 g_9.1 g_9.2 (of_decide_eq_true rfl) ?_
    refine zq_run 1 (pc' := 48) (L' := [(.ref (232)), (zq_vi (x1)), zz_no, zz_no, zz_no, zz_no]) (st' := [(.ref (232))]) (fun _ _ _ => rfl) ?_
    refine zq_getf_f (b := 243) rfl zq_a232 rfl rfl ?_
    refine zq_run 2 (pc' := 53) (L' := [(.ref (232)), (zq_vi (x1)), zz_no, zz_no, zz_no, zz_no]) (st' := [(zq_vi (0)), (zq_vi (x1)), (.ref (243))]) (fun _ _ _ => rfl) ?_
    obtain ⟨g_10, w⟩ := w
    refine zq_ast_i rfl zq_a243 g_10.1 g_10.2 (of_decide_eq_true rfl) ?_
    refine zq_run 1 (pc' := 55) (L' := [(.ref (232)), (zq_vi (x1)), zz_no, zz_no, zz_no, zz_no]) (st' := [(.ref (232))]) (fun _ _ _ => rfl) ?_
    refine zq_getf_f (b := 240) rfl zq_a232 rfl rfl ?_
    refine zq_run 2 (pc' := 60) (L' := [(.ref (232)), (zq_vi (x1)), zz_no, zz_no, zz_no, zz_no]) (st' := [(zq_vi (0)), (zq_vi (x1)), (.ref (240))]) (fun _ _ _ => rfl) ?_
    obtain ⟨g_11, w⟩ := w
    refine zq_ast_i rfl zq_a240 g_11.1 g_11.2 (of_decide_eq_true rfl) ?_
    refine zq_run 1 (pc' := 62) (L' := [(.ref (232)), (zq_vi (x1)), zz_no, zz_no, zz_no, zz_no]) (st' := [(.ref (232))]) (fun _ _ _ => rfl) ?_
    refine zq_getf_f (b := 237) rfl zq_a232 rfl rfl ?_
    refine zq_run 1 (pc' := 66) (L' := [(.ref (232)), (zq_vi (x1)), zz_no, zz_no, zz_no, zz_no]) (st' := [(zq_vi (x1)), (.ref (237))]) (fun _ _ _ => rfl) ?_
    obtain ⟨g_12, w⟩ := w
    refine zq_ald_b (v := 0) rfl zq_a237 g_12.1 g_12.2 (by simp [zq_i_si, zq_i_sr, zq_i_sl]) ?_
    refine zq_ne0 rfl (of_decide_eq_true rfl) (fun hb => absurd (by decide) hb) (fun _ => ?_)
    exact zq_vret rfl rfl (⟨rfl, w⟩)
  · rw [if_pos hb_3] at w
    refine zq_run 2 (pc' := 20) (L' := [(.ref (232)), (zq_vi (x1)), zz_no, zz_no, zz_no, zz_no]) (st' := [(zq_vi (1)), (zq_vi (x1)), (.ref (237))]) (fun _ _ _ => rfl) ?_
    obtain ⟨g_13, w⟩ := w
    refine zq_ast_b rfl zq_a237 g_13.1 g_13.2 (of_decide_eq_true rfl) ?_
    refine zq_run 1 (pc' := 22) (L' := [(.ref (232)), (zq_vi (x1)), zz_no, zz_no, zz_no, zz_no]) (st' := [(.ref (232))]) (fun _ _ _ => rfl) ?_
    refine zq_getf_f (b := 238) rfl zq_a232 rfl rfl ?_
    refine zq_run 2 (pc' := 27) (L' := [(.ref (232)), (zq_vi (x1)), zz_no, zz_no, zz_no, zz_no]) (st' := [(.ref (232)), (zq_vi (x1)), (.ref (238))]) (fun _ _ _ => rfl) ?_
    refine zq_getf_f (b := 252) rfl zq_a232 rfl rfl ?_
    refine zq_run 1 (pc' := 31) (L' := [(.ref (232)), (zq_vi (x1)), zz_no, zz_no, zz_no, zz_no]) (st' := [(zq_vi (x1)), (.ref (252)), (zq_vi (x1)), (.ref (238))]) (fun _ _ _ => rfl) ?_
    obtain ⟨g_14, w⟩ := w
    have e_15 : zq_i (zq_si s (237) (x1) (1)) (252) (x1) = zq_i s (252) (x1) := by simp [zq_i_si, zq_i_sr, zq_i_sl]
    refine zq_ald_i (v := zq_i s (252) (x1)) rfl zq_a252 g_14.1 g_14.2 e_15 ?_
    obtain ⟨g_16, w⟩ := w
    refine zq_ast_i rfl zq_a238 g_16.1 g_16.2 (hR_2.1 _ _) ?_
    refine zq_run 1 (pc' := 34) (L' := [(.ref (232)), (zq_vi (x1)), zz_no, zz_no, zz_no, zz_no]) (st' := [(.ref (232))]) (fun _ _ _ => rfl) ?_
    refine zq_getf_f (b := 239) rfl zq_a232 rfl rfl ?_
    refine zq_run 2 (pc' := 39) (L' := [(.ref (232)), (zq_vi (x1)), zz_no, zz_no, zz_no, zz_no]) (st' := [(zq_vi (0)), (zq_vi (x1)), (.ref (239))]) (fun _ _ _ => rfl) ?_
    obtain ⟨g_17, w⟩ := w
    refine zq_ast_b rfl zq_a239 g_17.1 g_17.2 (of_decide_eq_true rfl) ?_
    refine zq_run 1 (pc' := 41) (L' := [(.ref (232)), (zq_vi (x1)), zz_no, zz_no, zz_no, zz_no]) (st' := [(.ref (232))]) (fun _ _ _ => rfl) ?_
    refine zq_getf_f (b := 242) rfl zq_a232 rfl rfl ?_
    refine zq_run 2 (pc' := 46) (L' := [(.ref (232)), (zq_vi (x1)), zz_no, zz_no, zz_no, zz_no]) (st' := [(zq_vi (0)), (zq_vi (x1)), (.ref (242))]) (fun _ _ _ => rfl) ?_
    obtain ⟨g_18, w⟩ := w
    refine zq_ast_b rfl zq_a242 g_18.1 g_18.2 (of_decide_eq_true rfl) ?_
    refine zq_run 1 (pc' := 48) (L' := [(.ref (232)), (zq_vi (x1)), zz_no, zz_no, zz_no, zz_no]) (st' := [(.ref (232))]) (fun _ _ _ => rfl) ?_
    refine zq_getf_f (b := 243) rfl zq_a232 rfl rfl ?_
    refine zq_run 2 (pc' := 53) (L' := [(.ref (232)), (zq_vi (x1)), zz_no, zz_no, zz_no, zz_no]) (st' := [(zq_vi (0)), (zq_vi (x1)), (.ref (243))]) (fun _ _ _ => rfl) ?_
    obtain ⟨g_19, w⟩ := w
    refine zq_ast_i rfl zq_a243 g_19.1 g_19.2 (of_decide_eq_true rfl) ?_
    refine zq_run 1 (pc' := 55) (L' := [(.ref (232)), (zq_vi (x1)), zz_no, zz_no, zz_no, zz_no]) (st' := [(.ref (232))]) (fun _ _ _ => rfl) ?_
    refine zq_getf_f (b := 240) rfl zq_a232 rfl rfl ?_
    refine zq_run 2 (pc' := 60) (L' := [(.ref (232)), (zq_vi (x1)), zz_no, zz_no, zz_no, zz_no]) (st' := [(zq_vi (0)), (zq_vi (x1)), (.ref (240))]) (fun _ _ _ => rfl) ?_
    obtain ⟨g_20, w⟩ := w
    refine zq_ast_i rfl zq_a240 g_20.1 g_20.2 (of_decide_eq_true rfl) ?_
    refine zq_run 1 (pc' := 62) (L' := [(.ref (232)), (zq_vi (x1)), zz_no, zz_no, zz_no, zz_no]) (st' := [(.ref (232))]) (fun _ _ _ => rfl) ?_
    refine zq_getf_f (b := 237) rfl zq_a232 rfl rfl ?_
    refine zq_run 1 (pc' := 66) (L' := [(.ref (232)), (zq_vi (x1)), zz_no, zz_no, zz_no, zz_no]) (st' := [(zq_vi (x1)), (.ref (237))]) (fun _ _ _ => rfl) ?_
    obtain ⟨g_21, w⟩ := w
    refine zq_ald_b (v := 1) rfl zq_a237 g_21.1 g_21.2 (by simp [zq_i_si, zq_i_sr, zq_i_sl]) ?_
    refine zq_ne0 rfl (of_decide_eq_true rfl) (fun _ => ?_) (fun hb => absurd hb (by decide))
    refine zq_run 2 (pc' := 73) (L' := [(.ref (232)), (zq_vi (x1)), zz_no, zz_no, zz_no, zz_no]) (st' := [(zq_vi (x1)), (.ref (232))]) (fun _ _ _ => rfl) ?_
    refine zq_call_i (i := .invokevirtual 389) (r := [1, 211, 1, 1, 9]) rfl rfl (fun h hp => zr_avv rfl (hp.obj zq_a232)) (of_decide_eq_false rfl) w (fun x_23 s_22 hx_24 w => ?_)
    refine zq_run 2 (pc' := 78) (L' := [(.ref (232)), (zq_vi (x1)), (zq_vi (x_23)), zz_no, zz_no, zz_no]) (st' := [(.ref (232))]) (fun _ _ _ => rfl) ?_
    refine zq_have (fun hR_25 => ?_)
    refine zq_getf_i (j := 25) (v := zq_i s_22 (232) (25)) rfl zq_a232 rfl rfl rfl ?_
    refine zq_run 2 (pc' := 83) (L' := [(.ref (232)), (zq_vi (x1)), (zq_vi (x_23)), (zq_vi (zq_i s_22 (232) (25))), zz_no, zz_no]) (st' := [(zq_vi (x_23))]) (fun _ _ _ => rfl) ?_
    refine zq_eq0 rfl (zq_bo_in hx_24) (fun hb_26 => ?_) (fun hb_26 => ?_)
    · rw [if_pos hb_26] at w
      refine zq_run 3 (pc' := 97) (L' := [(.ref (232)), (zq_vi (x1)), (zq_vi (x_23)), (zq_vi (zq_i s_22 (232) (25))), (zq_vi ((-1))), zz_no]) (st' := [(zq_vi (x_23))]) (fun _ _ _ => rfl) ?_
      refine zq_eq0 rfl (zq_bo_in hx_24) (fun hb_27 => ?_) (fun hb_27 => ?_)
      · rw [if_pos hb_27] at w
        exact w
      · rw [if_neg hb_27] at w
        refine zq_run 2 (pc' := 102) (L' := [(.ref (232)), (zq_vi (x1)), (zq_vi (x_23)), (zq_vi (zq_i s_22 (232) (25))), (zq_vi ((-1))), zz_no]) (st' := [(zq_vi (x1)), (.ref (232))]) (fun _ _ _ => rfl) ?_
        refine zq_call_i (i := .invokevirtual 374) (r := [1, 212, 1, 1, 9]) rfl rfl (fun h hp => zr_avv rfl (hp.obj zq_a232)) (of_decide_eq_false rfl) w (fun x_29 s_28 hx_30 w => ?_)
        refine zq_eq0 rfl (zq_bo_in hx_30) (fun hb_31 => ?_) (fun hb_31 => ?_)
        · rw [if_pos hb_31] at w
          exact w
        · rw [if_neg hb_31] at w
          refine zq_run 5 (pc' := 116) (L' := [(.ref (232)), (zq_vi (x1)), (zq_vi (1)), (zq_vi (zq_i s_22 (232) (25))), (zq_vi ((-1))), zz_no]) (st' := [(zq_vi (x1)), (.ref (232))]) (fun _ _ _ => rfl) ?_
          refine zq_call_v (i := .invokevirtual 269) (r := [1, 170, 1, 1, 9]) rfl rfl (fun h hp => zr_avv rfl (hp.obj zq_a232)) (of_decide_eq_false rfl) w (fun s_32 w => ?_)
          refine zq_run 1 (pc' := 120) (L' := [(.ref (232)), (zq_vi (x1)), (zq_vi (1)), (zq_vi (zq_i s_22 (232) (25))), (zq_vi ((-1))), zz_no]) (st' := [(.ref (232))]) (fun _ _ _ => rfl) ?_
          refine zq_getf_f (b := 242) rfl zq_a232 rfl rfl ?_
          refine zq_run 2 (pc' := 125) (L' := [(.ref (232)), (zq_vi (x1)), (zq_vi (1)), (zq_vi (zq_i s_22 (232) (25))), (zq_vi ((-1))), zz_no]) (st' := [(zq_vi (1)), (zq_vi (x1)), (.ref (242))]) (fun _ _ _ => rfl) ?_
          refine zq_eq0 rfl (of_decide_eq_true rfl) (fun hb => absurd hb (by decide)) (fun _ => ?_)
          refine zq_run 1 (pc' := 130) (L' := [(.ref (232)), (zq_vi (x1)), (zq_vi (1)), (zq_vi (zq_i s_22 (232) (25))), (zq_vi ((-1))), zz_no]) (st' := [(zq_vi ((-1))), (zq_vi (x1)), (.ref (242))]) (fun _ _ _ => rfl) ?_
          refine zq_lt0 rfl (of_decide_eq_true rfl) (fun _ => ?_) (fun hb => absurd (by decide) hb)
          refine zq_run 1 (pc' := 138) (L' := [(.ref (232)), (zq_vi (x1)), (zq_vi (1)), (zq_vi (zq_i s_22 (232) (25))), (zq_vi ((-1))), zz_no]) (st' := [(zq_vi (0)), (zq_vi (x1)), (.ref (242))]) (fun _ _ _ => rfl) ?_
          obtain ⟨g_33, w⟩ := w
          refine zq_ast_b rfl zq_a242 g_33.1 g_33.2 (of_decide_eq_true rfl) ?_
          refine zq_run 2 (pc' := 142) (L' := [(.ref (232)), (zq_vi (x1)), (zq_vi (1)), (zq_vi (zq_i s_22 (232) (25))), (zq_vi ((-1))), (zq_vi (0))]) (st' := []) (fun _ _ _ => rfl) ?_
          exact w
    · rw [if_neg hb_26] at w
      refine zq_run 1 (pc' := 87) (L' := [(.ref (232)), (zq_vi (x1)), (zq_vi (x_23)), (zq_vi (zq_i s_22 (232) (25))), zz_no, zz_no]) (st' := [(.ref (232))]) (fun _ _ _ => rfl) ?_
      refine zq_getf_i (j := 27) (v := zq_i s_22 (232) (27)) rfl zq_a232 rfl rfl rfl ?_
      refine zq_run 3 (pc' := 97) (L' := [(.ref (232)), (zq_vi (x1)), (zq_vi (x_23)), (zq_vi (zq_i s_22 (232) (25))), (zq_vi (zq_i s_22 (232) (27))), zz_no]) (st' := [(zq_vi (x_23))]) (fun _ _ _ => rfl) ?_
      refine zq_eq0 rfl (zq_bo_in hx_24) (fun hb_34 => ?_) (fun hb_34 => ?_)
      · rw [if_pos hb_34] at w
        exact w
      · rw [if_neg hb_34] at w
        refine zq_run 2 (pc' := 102) (L' := [(.ref (232)), (zq_vi (x1)), (zq_vi (x_23)), (zq_vi (zq_i s_22 (232) (25))), (zq_vi (zq_i s_22 (232) (27))), zz_no]) (st' := [(zq_vi (x1)), (.ref (232))]) (fun _ _ _ => rfl) ?_
        refine zq_call_i (i := .invokevirtual 374) (r := [1, 212, 1, 1, 9]) rfl rfl (fun h hp => zr_avv rfl (hp.obj zq_a232)) (of_decide_eq_false rfl) w (fun x_36 s_35 hx_37 w => ?_)
        refine zq_eq0 rfl (zq_bo_in hx_37) (fun hb_38 => ?_) (fun hb_38 => ?_)
        · rw [if_pos hb_38] at w
          exact w
        · rw [if_neg hb_38] at w
          refine zq_run 5 (pc' := 116) (L' := [(.ref (232)), (zq_vi (x1)), (zq_vi (1)), (zq_vi (zq_i s_22 (232) (25))), (zq_vi (zq_i s_22 (232) (27))), zz_no]) (st' := [(zq_vi (x1)), (.ref (232))]) (fun _ _ _ => rfl) ?_
          refine zq_call_v (i := .invokevirtual 269) (r := [1, 170, 1, 1, 9]) rfl rfl (fun h hp => zr_avv rfl (hp.obj zq_a232)) (of_decide_eq_false rfl) w (fun s_39 w => ?_)
          refine zq_run 1 (pc' := 120) (L' := [(.ref (232)), (zq_vi (x1)), (zq_vi (1)), (zq_vi (zq_i s_22 (232) (25))), (zq_vi (zq_i s_22 (232) (27))), zz_no]) (st' := [(.ref (232))]) (fun _ _ _ => rfl) ?_
          refine zq_getf_f (b := 242) rfl zq_a232 rfl rfl ?_
          refine zq_run 2 (pc' := 125) (L' := [(.ref (232)), (zq_vi (x1)), (zq_vi (1)), (zq_vi (zq_i s_22 (232) (25))), (zq_vi (zq_i s_22 (232) (27))), zz_no]) (st' := [(zq_vi (1)), (zq_vi (x1)), (.ref (242))]) (fun _ _ _ => rfl) ?_
          refine zq_eq0 rfl (of_decide_eq_true rfl) (fun hb => absurd hb (by decide)) (fun _ => ?_)
          refine zq_run 1 (pc' := 130) (L' := [(.ref (232)), (zq_vi (x1)), (zq_vi (1)), (zq_vi (zq_i s_22 (232) (25))), (zq_vi (zq_i s_22 (232) (27))), zz_no]) (st' := [(zq_vi (zq_i s_22 (232) (27))), (zq_vi (x1)), (.ref (242))]) (fun _ _ _ => rfl) ?_
          refine zq_lt0 rfl (hR_25.1 _ _) (fun hb_40 => ?_) (fun hb_40 => ?_)
          · rw [if_pos hb_40] at w
            refine zq_run 1 (pc' := 138) (L' := [(.ref (232)), (zq_vi (x1)), (zq_vi (1)), (zq_vi (zq_i s_22 (232) (25))), (zq_vi (zq_i s_22 (232) (27))), zz_no]) (st' := [(zq_vi (0)), (zq_vi (x1)), (.ref (242))]) (fun _ _ _ => rfl) ?_
            obtain ⟨g_41, w⟩ := w
            refine zq_ast_b rfl zq_a242 g_41.1 g_41.2 (of_decide_eq_true rfl) ?_
            refine zq_run 2 (pc' := 142) (L' := [(.ref (232)), (zq_vi (x1)), (zq_vi (1)), (zq_vi (zq_i s_22 (232) (25))), (zq_vi (zq_i s_22 (232) (27))), (zq_vi (0))]) (st' := []) (fun _ _ _ => rfl) ?_
            exact w
          · rw [if_neg hb_40] at w
            refine zq_run 2 (pc' := 138) (L' := [(.ref (232)), (zq_vi (x1)), (zq_vi (1)), (zq_vi (zq_i s_22 (232) (25))), (zq_vi (zq_i s_22 (232) (27))), zz_no]) (st' := [(zq_vi (1)), (zq_vi (x1)), (.ref (242))]) (fun _ _ _ => rfl) ?_
            obtain ⟨g_42, w⟩ := w
            refine zq_ast_b rfl zq_a242 g_42.1 g_42.2 (of_decide_eq_true rfl) ?_
            refine zq_run 2 (pc' := 142) (L' := [(.ref (232)), (zq_vi (x1)), (zq_vi (1)), (zq_vi (zq_i s_22 (232) (25))), (zq_vi (zq_i s_22 (232) (27))), (zq_vi (0))]) (st' := []) (fun _ _ _ => rfl) ?_
            exact w
set_option maxRecDepth 100000 in
/-- PaperObjectsModel.takeObject at 112 -/
theorem zw_216_112 {X : Nat × (Nat → Int32)} {s : zq_S} {K : zq_S → Prop} {x1 : Int} (hx1 : zq_iv x1) {x2 : Int} (hx2 : zq_bo x2) {x3 : Int} (hx3 : zq_iv x3) {x4 : Int} (hx4 : zq_iv x4) {v5 : Value} (hv5 : v5.category = 1) (w : (zq_Ex X 170 0 [(.ref (232)), (zq_vi (x1)), zz_no] [] s (zq_rv fun s_1 => (((0 : Int) ≤ x1 ∧ x1 < (10 : Int)) ∧ zq_Ex X 216 142 [(.ref (232)), (zq_vi (x1)), (zq_vi (0)), (zq_vi (x3)), (zq_vi (x4)), (zq_vi (0))] [] (zq_si s_1 (242) (x1) (0)) (zq_rv K))))) : zq_Ex X 216 112 [(.ref (232)), (zq_vi (x1)), (zq_vi (x2)), (zq_vi (x3)), (zq_vi (x4)), v5] [] s (zq_rv K) := by
  refine zq_run 4 (pc' := 116) (L' := [(.ref (232)), (zq_vi (x1)), (zq_vi (0)), (zq_vi (x3)), (zq_vi (x4)), v5]) (st' := [(zq_vi (x1)), (.ref (232))]) (fun _ _ _ => rfl) ?_
  refine zq_call_v (i := .invokevirtual 269) (r := [1, 170, 1, 1, 9]) rfl rfl (fun h hp => zr_avv rfl (hp.obj zq_a232)) (of_decide_eq_false rfl) w (fun s_1 w => ?_)
  refine zq_run 1 (pc' := 120) (L' := [(.ref (232)), (zq_vi (x1)), (zq_vi (0)), (zq_vi (x3)), (zq_vi (x4)), v5]) (st' := [(.ref (232))]) (fun _ _ _ => rfl) ?_
  refine zq_getf_f (b := 242) rfl zq_a232 rfl rfl ?_
  refine zq_run 2 (pc' := 125) (L' := [(.ref (232)), (zq_vi (x1)), (zq_vi (0)), (zq_vi (x3)), (zq_vi (x4)), v5]) (st' := [(zq_vi (0)), (zq_vi (x1)), (.ref (242))]) (fun _ _ _ => rfl) ?_
  refine zq_eq0 rfl (of_decide_eq_true rfl) (fun _ => ?_) (fun hb => absurd (by decide) hb)
  refine zq_run 1 (pc' := 138) (L' := [(.ref (232)), (zq_vi (x1)), (zq_vi (0)), (zq_vi (x3)), (zq_vi (x4)), v5]) (st' := [(zq_vi (0)), (zq_vi (x1)), (.ref (242))]) (fun _ _ _ => rfl) ?_
  obtain ⟨g_2, w⟩ := w
  refine zq_ast_b rfl zq_a242 g_2.1 g_2.2 (of_decide_eq_true rfl) ?_
  refine zq_run 2 (pc' := 142) (L' := [(.ref (232)), (zq_vi (x1)), (zq_vi (0)), (zq_vi (x3)), (zq_vi (x4)), (zq_vi (0))]) (st' := []) (fun _ _ _ => rfl) ?_
  exact w
set_option maxRecDepth 100000 in
/-- PaperObjectsModel.takeObject at 142 -/
theorem zw_216_142 {X : Nat × (Nat → Int32)} {s : zq_S} {K : zq_S → Prop} {x1 : Int} (hx1 : zq_iv x1) {x2 : Int} (hx2 : zq_bo x2) {x3 : Int} (hx3 : zq_iv x3) {x4 : Int} (hx4 : zq_iv x4) {x5 : Int} (hx5 : zq_iv x5) (w : (if x5 < x4 then (zq_Ex X 147 0 [(.ref (232)), (zq_vi (1)), (zq_vi (x3 + x5))] [] s (zq_rp zq_ch fun x_6 s_5 => (((0 : Int) ≤ (12 * x1) + x5 ∧ (12 * x1) + x5 < (120 : Int)) ∧ zq_Ex X 216 142 [(.ref (232)), (zq_vi (x1)), (zq_vi (x2)), (zq_vi (x3)), (zq_vi (x4)), (zq_vi (x5 + 1))] [] (zq_si s_5 (244) ((12 * x1) + x5) (x_6)) (zq_rv K)))) else (if x4 ≤ 0 then (((0 : Int) ≤ x1 ∧ x1 < (10 : Int)) ∧ K (zq_si s (243) (x1) (0))) else (((0 : Int) ≤ x1 ∧ x1 < (10 : Int)) ∧ K (zq_si s (243) (x1) (x4)))))) : zq_Ex X 216 142 [(.ref (232)), (zq_vi (x1)), (zq_vi (x2)), (zq_vi (x3)), (zq_vi (x4)), (zq_vi (x5))] [] s (zq_rv K) := by
  refine zq_run 2 (pc' := 146) (L' := [(.ref (232)), (zq_vi (x1)), (zq_vi (x2)), (zq_vi (x3)), (zq_vi (x4)), (zq_vi (x5))]) (st' := [(zq_vi (x4)), (zq_vi (x5))]) (fun _ _ _ => rfl) ?_
  refine zq_ge rfl hx5 hx4 (fun hb_1 => ?_) (fun hb_1 => ?_)
  · rw [if_neg hb_1] at w
    refine zq_run 1 (pc' := 177) (L' := [(.ref (232)), (zq_vi (x1)), (zq_vi (x2)), (zq_vi (x3)), (zq_vi (x4)), (zq_vi (x5))]) (st' := [(.ref (232))]) (fun _ _ _ => rfl) ?_
    refine zq_getf_f (b := 243) rfl zq_a232 rfl rfl ?_
    refine zq_run 2 (pc' := 183) (L' := [(.ref (232)), (zq_vi (x1)), (zq_vi (x2)), (zq_vi (x3)), (zq_vi (x4)), (zq_vi (x5))]) (st' := [(zq_vi (x4)), (zq_vi (x1)), (.ref (243))]) (fun _ _ _ => rfl) ?_
    refine zq_le0 rfl hx4 (fun hb_2 => ?_) (fun hb_2 => ?_)
    · rw [if_pos hb_2] at w
      refine zq_run 1 (pc' := 192) (L' := [(.ref (232)), (zq_vi (x1)), (zq_vi (x2)), (zq_vi (x3)), (zq_vi (x4)), (zq_vi (x5))]) (st' := [(zq_vi (0)), (zq_vi (x1)), (.ref (243))]) (fun _ _ _ => rfl) ?_
      obtain ⟨g_3, w⟩ := w
      refine zq_ast_i rfl zq_a243 g_3.1 g_3.2 (of_decide_eq_true rfl) ?_
      exact zq_vret rfl rfl (⟨rfl, w⟩)
    · rw [if_neg hb_2] at w
      refine zq_run 2 (pc' := 192) (L' := [(.ref (232)), (zq_vi (x1)), (zq_vi (x2)), (zq_vi (x3)), (zq_vi (x4)), (zq_vi (x5))]) (st' := [(zq_vi (x4)), (zq_vi (x1)), (.ref (243))]) (fun _ _ _ => rfl) ?_
      obtain ⟨g_4, w⟩ := w
      refine zq_ast_i rfl zq_a243 g_4.1 g_4.2 hx4 ?_
      exact zq_vret rfl rfl (⟨rfl, w⟩)
  · rw [if_pos hb_1] at w
    refine zq_run 1 (pc' := 150) (L' := [(.ref (232)), (zq_vi (x1)), (zq_vi (x2)), (zq_vi (x3)), (zq_vi (x4)), (zq_vi (x5))]) (st' := [(.ref (232))]) (fun _ _ _ => rfl) ?_
    refine zq_getf_f (b := 244) rfl zq_a232 rfl rfl ?_
    refine zq_run 2 (pc' := 156) (L' := [(.ref (232)), (zq_vi (x1)), (zq_vi (x2)), (zq_vi (x3)), (zq_vi (x4)), (zq_vi (x5))]) (st' := [(zq_vi (x1)), (zq_vi (12)), (.ref (244))]) (fun _ _ _ => rfl) ?_
    refine zq_imul rfl ?_
    refine zq_run 1 (pc' := 159) (L' := [(.ref (232)), (zq_vi (x1)), (zq_vi (x2)), (zq_vi (x3)), (zq_vi (x4)), (zq_vi (x5))]) (st' := [(zq_vi (x5)), (zq_vi (12 * x1)), (.ref (244))]) (fun _ _ _ => rfl) ?_
    refine zq_iadd rfl ?_
    refine zq_run 4 (pc' := 165) (L' := [(.ref (232)), (zq_vi (x1)), (zq_vi (x2)), (zq_vi (x3)), (zq_vi (x4)), (zq_vi (x5))]) (st' := [(zq_vi (x5)), (zq_vi (x3)), (zq_vi (1)), (.ref (232)), (zq_vi ((12 * x1) + x5)), (.ref (244))]) (fun _ _ _ => rfl) ?_
    refine zq_iadd rfl ?_
    refine zq_call_i (i := .invokevirtual 119) (r := [1, 147, 2, 1, 9]) rfl rfl (fun h hp => zr_avv rfl (hp.obj zq_a232)) (of_decide_eq_false rfl) w (fun x_6 s_5 hx_7 w => ?_)
    obtain ⟨g_8, w⟩ := w
    refine zq_ast_c rfl zq_a244 g_8.1 g_8.2 hx_7 ?_
    refine zq_iinc (L' := [(.ref (232)), (zq_vi (x1)), (zq_vi (x2)), (zq_vi (x3)), (zq_vi (x4)), (zq_vi (x5 + 1))]) rfl rfl rfl ?_
    refine zq_run 1 (pc' := 142) (L' := [(.ref (232)), (zq_vi (x1)), (zq_vi (x2)), (zq_vi (x3)), (zq_vi (x4)), (zq_vi (x5 + 1))]) (st' := []) (fun _ _ _ => rfl) ?_
    exact w
set_option maxRecDepth 100000 in
/-- PaperObjectsModel.at()I -/
theorem zw_217 {X : Nat × (Nat → Int32)} {s : zq_S} {K : Int → zq_S → Prop}  (w : K (zq_i s (232) (21)) (zq_si s (232) (0) (0))) : zq_Ex X 217 0 [(.ref (232))] [] s (zq_rp zq_iv K) := by
  refine zq_run 2 (pc' := 2) (L' := [(.ref (232))]) (st' := [(zq_vi (0)), (.ref (232))]) (fun _ _ _ => rfl) ?_
  refine zq_putf_i (j := 0) rfl zq_a232 rfl rfl rfl (of_decide_eq_true rfl) ?_
  refine zq_run 1 (pc' := 6) (L' := [(.ref (232))]) (st' := [(.ref (232))]) (fun _ _ _ => rfl) ?_
  have e_1 : zq_i (zq_si s (232) (0) (0)) (232) (21) = zq_i s (232) (21) := by simp [zq_i_si, zq_i_sr, zq_i_sl]
  refine zq_have (fun hR_2 => ?_)
  have g_3 : zq_iv (zq_i (zq_si s (232) (0) (0)) (232) (21)) := (hR_2.1 _ _)
  rw [e_1] at g_3
  refine zq_getf_i (j := 21) (v := zq_i s (232) (21)) rfl zq_a232 rfl rfl e_1 ?_
  exact zq_iret rfl rfl rfl (⟨_, rfl, g_3, w⟩)
set_option maxRecDepth 100000 in
/-- PaperObjectsModel.fault()I -/
theorem zw_218 {X : Nat × (Nat → Int32)} {s : zq_S} {K : Int → zq_S → Prop}  (w : K (zq_i s (232) (22)) (zq_si s (232) (0) (0))) : zq_Ex X 218 0 [(.ref (232))] [] s (zq_rp zq_iv K) := by
  refine zq_run 2 (pc' := 2) (L' := [(.ref (232))]) (st' := [(zq_vi (0)), (.ref (232))]) (fun _ _ _ => rfl) ?_
  refine zq_putf_i (j := 0) rfl zq_a232 rfl rfl rfl (of_decide_eq_true rfl) ?_
  refine zq_run 1 (pc' := 6) (L' := [(.ref (232))]) (st' := [(.ref (232))]) (fun _ _ _ => rfl) ?_
  have e_1 : zq_i (zq_si s (232) (0) (0)) (232) (22) = zq_i s (232) (22) := by simp [zq_i_si, zq_i_sr, zq_i_sl]
  refine zq_have (fun hR_2 => ?_)
  have g_3 : zq_iv (zq_i (zq_si s (232) (0) (0)) (232) (22)) := (hR_2.1 _ _)
  rw [e_1] at g_3
  refine zq_getf_i (j := 22) (v := zq_i s (232) (22)) rfl zq_a232 rfl rfl e_1 ?_
  exact zq_iret rfl rfl rfl (⟨_, rfl, g_3, w⟩)
set_option maxRecDepth 100000 in
/-- PaperObjectsModel.poke(IC)V -/
theorem zw_219 {X : Nat × (Nat → Int32)} {s : zq_S} {K : zq_S → Prop} {x1 : Int} (hx1 : zq_iv x1) {x2 : Int} (hx2 : zq_ch x2) (w : (if x1 < 0 then K (zq_si s (232) (0) (1)) else (if x1 ≤ zq_i s (232) (3) then (zq_Ex X 143 0 [(zq_vi (x2))] [] s (zq_rp zq_bo fun x_5 s_4 => (if x_5 = 0 then K (zq_si s_4 (232) (0) (2)) else (if x1 = 999 then K (zq_si s_4 (232) (0) (2)) else (((0 : Int) ≤ x1 ∧ x1 < (999 : Int)) ∧ (if x1 = zq_i s_4 (232) (3) then (zq_iv ((zq_i s_4 (232) (3)) + 1) ∧ K (zq_si (zq_si (zq_si s_4 (232) (0) (0)) (234) (x1) (x2)) (232) (3) ((zq_i s_4 (232) (3)) + 1))) else K (zq_si (zq_si (zq_si s_4 (232) (0) (0)) (234) (x1) (x2)) (232) (3) (zq_i s_4 (232) (3))))))))) else K (zq_si s (232) (0) (1))))) : zq_Ex X 219 0 [(.ref (232)), (zq_vi (x1)), (zq_vi (x2))] [] s (zq_rv K) := by
  refine zq_run 2 (pc' := 2) (L' := [(.ref (232)), (zq_vi (x1)), (zq_vi (x2))]) (st' := [(zq_vi (x1)), (.ref (232))]) (fun _ _ _ => rfl) ?_
  refine zq_lt0 rfl hx1 (fun hb_1 => ?_) (fun hb_1 => ?_)
  · rw [if_pos hb_1] at w
    refine zq_run 2 (pc' := 36) (L' := [(.ref (232)), (zq_vi (x1)), (zq_vi (x2))]) (st' := [(zq_vi (1)), (.ref (232))]) (fun _ _ _ => rfl) ?_
    refine zq_putf_i (j := 0) rfl zq_a232 rfl rfl rfl (of_decide_eq_true rfl) ?_
    refine zq_run 1 (pc' := 40) (L' := [(.ref (232)), (zq_vi (x1)), (zq_vi (x2))]) (st' := [(.ref (232))]) (fun _ _ _ => rfl) ?_
    refine zq_getf_i (j := 0) (v := 1) rfl zq_a232 rfl rfl rfl ?_
    refine zq_ne0 rfl (of_decide_eq_true rfl) (fun _ => ?_) (fun hb => absurd hb (by decide))
    exact zq_vret rfl rfl (⟨rfl, w⟩)
  · rw [if_neg hb_1] at w
    refine zq_run 2 (pc' := 7) (L' := [(.ref (232)), (zq_vi (x1)), (zq_vi (x2))]) (st' := [(.ref (232)), (zq_vi (x1)), (.ref (232))]) (fun _ _ _ => rfl) ?_
    refine zq_have (fun hR_2 => ?_)
    refine zq_getf_i (j := 3) (v := zq_i s (232) (3)) rfl zq_a232 rfl rfl rfl ?_
    refine zq_le rfl hx1 (hR_2.1 _ _) (fun hb_3 => ?_) (fun hb_3 => ?_)
    · rw [if_pos hb_3] at w
      refine zq_run 1 (pc' := 18) (L' := [(.ref (232)), (zq_vi (x1)), (zq_vi (x2))]) (st' := [(zq_vi (x2)), (.ref (232))]) (fun _ _ _ => rfl) ?_
      refine zq_call_i (i := .invokestatic 263) (r := [1, 143, 1, 0, 9]) rfl rfl (fun _ _ => rfl) (of_decide_eq_false rfl) w (fun x_5 s_4 hx_6 w => ?_)
      refine zq_eq0 rfl (zq_bo_in hx_6) (fun hb_7 => ?_) (fun hb_7 => ?_)
      · rw [if_pos hb_7] at w
        refine zq_run 2 (pc' := 36) (L' := [(.ref (232)), (zq_vi (x1)), (zq_vi (x2))]) (st' := [(zq_vi (2)), (.ref (232))]) (fun _ _ _ => rfl) ?_
        refine zq_putf_i (j := 0) rfl zq_a232 rfl rfl rfl (of_decide_eq_true rfl) ?_
        refine zq_run 1 (pc' := 40) (L' := [(.ref (232)), (zq_vi (x1)), (zq_vi (x2))]) (st' := [(.ref (232))]) (fun _ _ _ => rfl) ?_
        refine zq_getf_i (j := 0) (v := 2) rfl zq_a232 rfl rfl rfl ?_
        refine zq_ne0 rfl (of_decide_eq_true rfl) (fun _ => ?_) (fun hb => absurd hb (by decide))
        exact zq_vret rfl rfl (⟨rfl, w⟩)
      · rw [if_neg hb_7] at w
        refine zq_run 2 (pc' := 28) (L' := [(.ref (232)), (zq_vi (x1)), (zq_vi (x2))]) (st' := [(zq_vi (999)), (zq_vi (x1)), (.ref (232))]) (fun _ _ _ => rfl) ?_
        refine zq_ne rfl hx1 (of_decide_eq_true rfl) (fun hb_8 => ?_) (fun hb_8 => ?_)
        · rw [if_neg hb_8] at w
          refine zq_run 1 (pc' := 36) (L' := [(.ref (232)), (zq_vi (x1)), (zq_vi (x2))]) (st' := [(zq_vi (0)), (.ref (232))]) (fun _ _ _ => rfl) ?_
          refine zq_putf_i (j := 0) rfl zq_a232 rfl rfl rfl (of_decide_eq_true rfl) ?_
          refine zq_run 1 (pc' := 40) (L' := [(.ref (232)), (zq_vi (x1)), (zq_vi (x2))]) (st' := [(.ref (232))]) (fun _ _ _ => rfl) ?_
          refine zq_getf_i (j := 0) (v := 0) rfl zq_a232 rfl rfl rfl ?_
          refine zq_ne0 rfl (of_decide_eq_true rfl) (fun hb => absurd (by decide) hb) (fun _ => ?_)
          refine zq_run 1 (pc' := 47) (L' := [(.ref (232)), (zq_vi (x1)), (zq_vi (x2))]) (st' := [(.ref (232))]) (fun _ _ _ => rfl) ?_
          refine zq_getf_f (b := 234) rfl zq_a232 rfl rfl ?_
          refine zq_run 2 (pc' := 52) (L' := [(.ref (232)), (zq_vi (x1)), (zq_vi (x2))]) (st' := [(zq_vi (x2)), (zq_vi (x1)), (.ref (234))]) (fun _ _ _ => rfl) ?_
          obtain ⟨g_9, w⟩ := w
          refine zq_ast_c rfl zq_a234 g_9.1 g_9.2 hx2 ?_
          refine zq_run 3 (pc' := 56) (L' := [(.ref (232)), (zq_vi (x1)), (zq_vi (x2))]) (st' := [(.ref (232)), (zq_vi (x1)), (.ref (232))]) (fun _ _ _ => rfl) ?_
          have e_10 : zq_i (zq_si (zq_si s_4 (232) (0) (0)) (234) (x1) (x2)) (232) (3) = zq_i s_4 (232) (3) := by simp [zq_i_si, zq_i_sr, zq_i_sl]
          refine zq_have (fun hR_11 => ?_)
          have g_12 : zq_iv (zq_i (zq_si (zq_si s_4 (232) (0) (0)) (234) (x1) (x2)) (232) (3)) := (hR_11.1 _ _)
          rw [e_10] at g_12
          refine zq_getf_i (j := 3) (v := zq_i s_4 (232) (3)) rfl zq_a232 rfl rfl e_10 ?_
          refine zq_ne rfl hx1 g_12 (fun hb_13 => ?_) (fun hb_13 => ?_)
          · rw [if_neg hb_13] at w
            refine zq_run 1 (pc' := 72) (L' := [(.ref (232)), (zq_vi (x1)), (zq_vi (x2))]) (st' := [(.ref (232)), (.ref (232))]) (fun _ _ _ => rfl) ?_
            have e_14 : zq_i (zq_si (zq_si s_4 (232) (0) (0)) (234) (x1) (x2)) (232) (3) = zq_i s_4 (232) (3) := by simp [zq_i_si, zq_i_sr, zq_i_sl]
            have g_15 : zq_iv (zq_i (zq_si (zq_si s_4 (232) (0) (0)) (234) (x1) (x2)) (232) (3)) := (hR_11.1 _ _)
            rw [e_14] at g_15
            refine zq_getf_i (j := 3) (v := zq_i s_4 (232) (3)) rfl zq_a232 rfl rfl e_14 ?_
            refine zq_putf_i (j := 3) rfl zq_a232 rfl rfl rfl g_15 ?_
            exact zq_vret rfl rfl (⟨rfl, w⟩)
          · rw [if_pos hb_13] at w
            refine zq_run 1 (pc' := 63) (L' := [(.ref (232)), (zq_vi (x1)), (zq_vi (x2))]) (st' := [(.ref (232)), (.ref (232))]) (fun _ _ _ => rfl) ?_
            have e_16 : zq_i (zq_si (zq_si s_4 (232) (0) (0)) (234) (x1) (x2)) (232) (3) = zq_i s_4 (232) (3) := by simp [zq_i_si, zq_i_sr, zq_i_sl]
            have g_17 : zq_iv (zq_i (zq_si (zq_si s_4 (232) (0) (0)) (234) (x1) (x2)) (232) (3)) := (hR_11.1 _ _)
            rw [e_16] at g_17
            refine zq_getf_i (j := 3) (v := zq_i s_4 (232) (3)) rfl zq_a232 rfl rfl e_16 ?_
            refine zq_run 1 (pc' := 67) (L' := [(.ref (232)), (zq_vi (x1)), (zq_vi (x2))]) (st' := [(zq_vi (1)), (zq_vi (zq_i s_4 (232) (3))), (.ref (232))]) (fun _ _ _ => rfl) ?_
            refine zq_iadd rfl ?_
            refine zq_run 1 (pc' := 75) (L' := [(.ref (232)), (zq_vi (x1)), (zq_vi (x2))]) (st' := [(zq_vi ((zq_i s_4 (232) (3)) + 1)), (.ref (232))]) (fun _ _ _ => rfl) ?_
            obtain ⟨g_18, w⟩ := w
            refine zq_putf_i (j := 3) rfl zq_a232 rfl rfl rfl g_18 ?_
            exact zq_vret rfl rfl (⟨rfl, w⟩)
        · rw [if_pos hb_8] at w
          refine zq_run 2 (pc' := 36) (L' := [(.ref (232)), (zq_vi (x1)), (zq_vi (x2))]) (st' := [(zq_vi (2)), (.ref (232))]) (fun _ _ _ => rfl) ?_
          refine zq_putf_i (j := 0) rfl zq_a232 rfl rfl rfl (of_decide_eq_true rfl) ?_
          refine zq_run 1 (pc' := 40) (L' := [(.ref (232)), (zq_vi (x1)), (zq_vi (x2))]) (st' := [(.ref (232))]) (fun _ _ _ => rfl) ?_
          refine zq_getf_i (j := 0) (v := 2) rfl zq_a232 rfl rfl rfl ?_
          refine zq_ne0 rfl (of_decide_eq_true rfl) (fun _ => ?_) (fun hb => absurd hb (by decide))
          exact zq_vret rfl rfl (⟨rfl, w⟩)
    · rw [if_neg hb_3] at w
      refine zq_run 2 (pc' := 36) (L' := [(.ref (232)), (zq_vi (x1)), (zq_vi (x2))]) (st' := [(zq_vi (1)), (.ref (232))]) (fun _ _ _ => rfl) ?_
      refine zq_putf_i (j := 0) rfl zq_a232 rfl rfl rfl (of_decide_eq_true rfl) ?_
      refine zq_run 1 (pc' := 40) (L' := [(.ref (232)), (zq_vi (x1)), (zq_vi (x2))]) (st' := [(.ref (232))]) (fun _ _ _ => rfl) ?_
      refine zq_getf_i (j := 0) (v := 1) rfl zq_a232 rfl rfl rfl ?_
      refine zq_ne0 rfl (of_decide_eq_true rfl) (fun _ => ?_) (fun hb => absurd hb (by decide))
      exact zq_vret rfl rfl (⟨rfl, w⟩)
set_option maxRecDepth 100000 in
/-- PaperObjectsModel.cut(I)V -/
theorem zw_220 {X : Nat × (Nat → Int32)} {s : zq_S} {K : zq_S → Prop} {x1 : Int} (hx1 : zq_iv x1) (w : (if x1 < 0 then K (zq_si (zq_si s (232) (0) (1)) (232) (3) (zq_i s (232) (3))) else (if x1 ≤ zq_i s (232) (3) then K (zq_si (zq_si s (232) (0) (0)) (232) (3) (x1)) else K (zq_si (zq_si s (232) (0) (1)) (232) (3) (zq_i s (232) (3)))))) : zq_Ex X 220 0 [(.ref (232)), (zq_vi (x1))] [] s (zq_rv K) := by
  refine zq_run 2 (pc' := 2) (L' := [(.ref (232)), (zq_vi (x1))]) (st' := [(zq_vi (x1)), (.ref (232))]) (fun _ _ _ => rfl) ?_
  refine zq_lt0 rfl hx1 (fun hb_1 => ?_) (fun hb_1 => ?_)
  · rw [if_pos hb_1] at w
    refine zq_run 2 (pc' := 18) (L' := [(.ref (232)), (zq_vi (x1))]) (st' := [(zq_vi (1)), (.ref (232))]) (fun _ _ _ => rfl) ?_
    refine zq_putf_i (j := 0) rfl zq_a232 rfl rfl rfl (of_decide_eq_true rfl) ?_
    refine zq_run 2 (pc' := 23) (L' := [(.ref (232)), (zq_vi (x1))]) (st' := [(.ref (232)), (.ref (232))]) (fun _ _ _ => rfl) ?_
    refine zq_getf_i (j := 0) (v := 1) rfl zq_a232 rfl rfl rfl ?_
    refine zq_ne0 rfl (of_decide_eq_true rfl) (fun _ => ?_) (fun hb => absurd hb (by decide))
    refine zq_run 1 (pc' := 34) (L' := [(.ref (232)), (zq_vi (x1))]) (st' := [(.ref (232)), (.ref (232))]) (fun _ _ _ => rfl) ?_
    have e_2 : zq_i (zq_si s (232) (0) (1)) (232) (3) = zq_i s (232) (3) := by simp [zq_i_si, zq_i_sr, zq_i_sl]
    refine zq_have (fun hR_3 => ?_)
    have g_4 : zq_iv (zq_i (zq_si s (232) (0) (1)) (232) (3)) := (hR_3.1 _ _)
    rw [e_2] at g_4
    refine zq_getf_i (j := 3) (v := zq_i s (232) (3)) rfl zq_a232 rfl rfl e_2 ?_
    refine zq_putf_i (j := 3) rfl zq_a232 rfl rfl rfl g_4 ?_
    exact zq_vret rfl rfl (⟨rfl, w⟩)
  · rw [if_neg hb_1] at w
    refine zq_run 2 (pc' := 7) (L' := [(.ref (232)), (zq_vi (x1))]) (st' := [(.ref (232)), (zq_vi (x1)), (.ref (232))]) (fun _ _ _ => rfl) ?_
    refine zq_have (fun hR_5 => ?_)
    refine zq_getf_i (j := 3) (v := zq_i s (232) (3)) rfl zq_a232 rfl rfl rfl ?_
    refine zq_le rfl hx1 (hR_5.1 _ _) (fun hb_6 => ?_) (fun hb_6 => ?_)
    · rw [if_pos hb_6] at w
      refine zq_run 1 (pc' := 18) (L' := [(.ref (232)), (zq_vi (x1))]) (st' := [(zq_vi (0)), (.ref (232))]) (fun _ _ _ => rfl) ?_
      refine zq_putf_i (j := 0) rfl zq_a232 rfl rfl rfl (of_decide_eq_true rfl) ?_
      refine zq_run 2 (pc' := 23) (L' := [(.ref (232)), (zq_vi (x1))]) (st' := [(.ref (232)), (.ref (232))]) (fun _ _ _ => rfl) ?_
      refine zq_getf_i (j := 0) (v := 0) rfl zq_a232 rfl rfl rfl ?_
      refine zq_ne0 rfl (of_decide_eq_true rfl) (fun hb => absurd (by decide) hb) (fun _ => ?_)
      refine zq_run 2 (pc' := 37) (L' := [(.ref (232)), (zq_vi (x1))]) (st' := [(zq_vi (x1)), (.ref (232))]) (fun _ _ _ => rfl) ?_
      refine zq_putf_i (j := 3) rfl zq_a232 rfl rfl rfl hx1 ?_
      exact zq_vret rfl rfl (⟨rfl, w⟩)
    · rw [if_neg hb_6] at w
      refine zq_run 2 (pc' := 18) (L' := [(.ref (232)), (zq_vi (x1))]) (st' := [(zq_vi (1)), (.ref (232))]) (fun _ _ _ => rfl) ?_
      refine zq_putf_i (j := 0) rfl zq_a232 rfl rfl rfl (of_decide_eq_true rfl) ?_
      refine zq_run 2 (pc' := 23) (L' := [(.ref (232)), (zq_vi (x1))]) (st' := [(.ref (232)), (.ref (232))]) (fun _ _ _ => rfl) ?_
      refine zq_getf_i (j := 0) (v := 1) rfl zq_a232 rfl rfl rfl ?_
      refine zq_ne0 rfl (of_decide_eq_true rfl) (fun _ => ?_) (fun hb => absurd hb (by decide))
      refine zq_run 1 (pc' := 34) (L' := [(.ref (232)), (zq_vi (x1))]) (st' := [(.ref (232)), (.ref (232))]) (fun _ _ _ => rfl) ?_
      have e_7 : zq_i (zq_si s (232) (0) (1)) (232) (3) = zq_i s (232) (3) := by simp [zq_i_si, zq_i_sr, zq_i_sl]
      refine zq_getf_i (j := 3) (v := zq_i s (232) (3)) rfl zq_a232 rfl rfl e_7 ?_
      refine zq_putf_i (j := 3) rfl zq_a232 rfl rfl rfl (hR_5.1 _ _) ?_
      exact zq_vret rfl rfl (⟨rfl, w⟩)
set_option maxRecDepth 100000 in
/-- PaperObjectsModel.size()I -/
theorem zw_221 {X : Nat × (Nat → Int32)} {s : zq_S} {K : Int → zq_S → Prop}  (w : K (zq_i s (232) (3)) (zq_si s (232) (0) (0))) : zq_Ex X 221 0 [(.ref (232))] [] s (zq_rp zq_iv K) := by
  refine zq_run 2 (pc' := 2) (L' := [(.ref (232))]) (st' := [(zq_vi (0)), (.ref (232))]) (fun _ _ _ => rfl) ?_
  refine zq_putf_i (j := 0) rfl zq_a232 rfl rfl rfl (of_decide_eq_true rfl) ?_
  refine zq_run 1 (pc' := 6) (L' := [(.ref (232))]) (st' := [(.ref (232))]) (fun _ _ _ => rfl) ?_
  have e_1 : zq_i (zq_si s (232) (0) (0)) (232) (3) = zq_i s (232) (3) := by simp [zq_i_si, zq_i_sr, zq_i_sl]
  refine zq_have (fun hR_2 => ?_)
  have g_3 : zq_iv (zq_i (zq_si s (232) (0) (0)) (232) (3)) := (hR_2.1 _ _)
  rw [e_1] at g_3
  refine zq_getf_i (j := 3) (v := zq_i s (232) (3)) rfl zq_a232 rfl rfl e_1 ?_
  exact zq_iret rfl rfl rfl (⟨_, rfl, g_3, w⟩)
set_option maxRecDepth 100000 in
/-- PaperObjectsModel.character(I)I -/
theorem zw_222 {X : Nat × (Nat → Int32)} {s : zq_S} {K : Int → zq_S → Prop} {x1 : Int} (hx1 : zq_iv x1) (w : (if x1 < 0 then K (0) (zq_si s (232) (0) (1)) else (if x1 < zq_i s (232) (3) then (((0 : Int) ≤ x1 ∧ x1 < (999 : Int)) ∧ K (zq_i s (234) (x1)) (zq_si s (232) (0) (0))) else K (0) (zq_si s (232) (0) (1))))) : zq_Ex X 222 0 [(.ref (232)), (zq_vi (x1))] [] s (zq_rp zq_iv K) := by
  refine zq_run 2 (pc' := 2) (L' := [(.ref (232)), (zq_vi (x1))]) (st' := [(zq_vi (x1)), (.ref (232))]) (fun _ _ _ => rfl) ?_
  refine zq_lt0 rfl hx1 (fun hb_1 => ?_) (fun hb_1 => ?_)
  · rw [if_pos hb_1] at w
    refine zq_run 2 (pc' := 18) (L' := [(.ref (232)), (zq_vi (x1))]) (st' := [(zq_vi (1)), (.ref (232))]) (fun _ _ _ => rfl) ?_
    refine zq_putf_i (j := 0) rfl zq_a232 rfl rfl rfl (of_decide_eq_true rfl) ?_
    refine zq_run 1 (pc' := 22) (L' := [(.ref (232)), (zq_vi (x1))]) (st' := [(.ref (232))]) (fun _ _ _ => rfl) ?_
    refine zq_getf_i (j := 0) (v := 1) rfl zq_a232 rfl rfl rfl ?_
    refine zq_ne0 rfl (of_decide_eq_true rfl) (fun _ => ?_) (fun hb => absurd hb (by decide))
    refine zq_run 1 (pc' := 38) (L' := [(.ref (232)), (zq_vi (x1))]) (st' := [(zq_vi (0))]) (fun _ _ _ => rfl) ?_
    exact zq_iret rfl rfl rfl (⟨_, rfl, (of_decide_eq_true rfl), w⟩)
  · rw [if_neg hb_1] at w
    refine zq_run 2 (pc' := 7) (L' := [(.ref (232)), (zq_vi (x1))]) (st' := [(.ref (232)), (zq_vi (x1)), (.ref (232))]) (fun _ _ _ => rfl) ?_
    refine zq_have (fun hR_2 => ?_)
    refine zq_getf_i (j := 3) (v := zq_i s (232) (3)) rfl zq_a232 rfl rfl rfl ?_
    refine zq_lt rfl hx1 (hR_2.1 _ _) (fun hb_3 => ?_) (fun hb_3 => ?_)
    · rw [if_pos hb_3] at w
      refine zq_run 1 (pc' := 18) (L' := [(.ref (232)), (zq_vi (x1))]) (st' := [(zq_vi (0)), (.ref (232))]) (fun _ _ _ => rfl) ?_
      refine zq_putf_i (j := 0) rfl zq_a232 rfl rfl rfl (of_decide_eq_true rfl) ?_
      refine zq_run 1 (pc' := 22) (L' := [(.ref (232)), (zq_vi (x1))]) (st' := [(.ref (232))]) (fun _ _ _ => rfl) ?_
      refine zq_getf_i (j := 0) (v := 0) rfl zq_a232 rfl rfl rfl ?_
      refine zq_ne0 rfl (of_decide_eq_true rfl) (fun hb => absurd (by decide) hb) (fun _ => ?_)
      refine zq_run 1 (pc' := 29) (L' := [(.ref (232)), (zq_vi (x1))]) (st' := [(.ref (232))]) (fun _ _ _ => rfl) ?_
      refine zq_getf_f (b := 234) rfl zq_a232 rfl rfl ?_
      refine zq_run 1 (pc' := 33) (L' := [(.ref (232)), (zq_vi (x1))]) (st' := [(zq_vi (x1)), (.ref (234))]) (fun _ _ _ => rfl) ?_
      obtain ⟨g_4, w⟩ := w
      have e_5 : zq_i (zq_si s (232) (0) (0)) (234) (x1) = zq_i s (234) (x1) := by simp [zq_i_si, zq_i_sr, zq_i_sl]
      refine zq_ald_c (v := zq_i s (234) (x1)) rfl zq_a234 g_4.1 g_4.2 e_5 ?_
      refine zq_run 1 (pc' := 38) (L' := [(.ref (232)), (zq_vi (x1))]) (st' := [(zq_vi (zq_i s (234) (x1)))]) (fun _ _ _ => rfl) ?_
      exact zq_iret rfl rfl rfl (⟨_, rfl, (zq_ch_in (hR_2.2.1 _ _ _ zq_a234)), w⟩)
    · rw [if_neg hb_3] at w
      refine zq_run 2 (pc' := 18) (L' := [(.ref (232)), (zq_vi (x1))]) (st' := [(zq_vi (1)), (.ref (232))]) (fun _ _ _ => rfl) ?_
      refine zq_putf_i (j := 0) rfl zq_a232 rfl rfl rfl (of_decide_eq_true rfl) ?_
      refine zq_run 1 (pc' := 22) (L' := [(.ref (232)), (zq_vi (x1))]) (st' := [(.ref (232))]) (fun _ _ _ => rfl) ?_
      refine zq_getf_i (j := 0) (v := 1) rfl zq_a232 rfl rfl rfl ?_
      refine zq_ne0 rfl (of_decide_eq_true rfl) (fun _ => ?_) (fun hb => absurd hb (by decide))
      refine zq_run 1 (pc' := 38) (L' := [(.ref (232)), (zq_vi (x1))]) (st' := [(zq_vi (0))]) (fun _ _ _ => rfl) ?_
      exact zq_iret rfl rfl rfl (⟨_, rfl, (of_decide_eq_true rfl), w⟩)
set_option maxRecDepth 100000 in
/-- PaperObjectsModel.state(I)I -/
theorem zw_223 {X : Nat × (Nat → Int32)} {s : zq_S} {K : Int → zq_S → Prop} {x1 : Int} (hx1 : zq_iv x1) (w : (if x1 < 1 then K (0) (zq_si s (232) (0) (1)) else (if x1 ≤ 9 then (((0 : Int) ≤ x1 ∧ x1 < (10 : Int)) ∧ (((0 : Int) ≤ x1 ∧ x1 < (10 : Int)) ∧ (if zq_i s (239) (x1) = 0 then (((0 : Int) ≤ x1 ∧ x1 < (10 : Int)) ∧ (if zq_i s (237) (x1) = 0 then (zq_iv (((4 * (zq_i s (238) (x1))) + 0) + 0) ∧ K (((4 * (zq_i s (238) (x1))) + 0) + 0) (zq_si s (232) (0) (0))) else (zq_iv (((4 * (zq_i s (238) (x1))) + 0) + 1) ∧ K (((4 * (zq_i s (238) (x1))) + 0) + 1) (zq_si s (232) (0) (0))))) else (((0 : Int) ≤ x1 ∧ x1 < (10 : Int)) ∧ (if zq_i s (237) (x1) = 0 then (zq_iv (((4 * (zq_i s (238) (x1))) + 2) + 0) ∧ K (((4 * (zq_i s (238) (x1))) + 2) + 0) (zq_si s (232) (0) (0))) else (zq_iv (((4 * (zq_i s (238) (x1))) + 2) + 1) ∧ K (((4 * (zq_i s (238) (x1))) + 2) + 1) (zq_si s (232) (0) (0)))))))) else K (0) (zq_si s (232) (0) (1))))) : zq_Ex X 223 0 [(.ref (232)), (zq_vi (x1)), zz_no] [] s (zq_rp zq_iv K) := by
  refine zq_run 2 (pc' := 2) (L' := [(.ref (232)), (zq_vi (x1)), zz_no]) (st' := [(zq_vi (1)), (zq_vi (x1))]) (fun _ _ _ => rfl) ?_
  refine zq_lt rfl hx1 (of_decide_eq_true rfl) (fun hb_1 => ?_) (fun hb_1 => ?_)
  · rw [if_pos hb_1] at w
    refine zq_run 4 (pc' := 19) (L' := [(.ref (232)), (zq_vi (x1)), (zq_vi (0))]) (st' := [(zq_vi (0)), (.ref (232))]) (fun _ _ _ => rfl) ?_
    refine zq_eq0 rfl (of_decide_eq_true rfl) (fun _ => ?_) (fun hb => absurd (by decide) hb)
    refine zq_run 1 (pc' := 27) (L' := [(.ref (232)), (zq_vi (x1)), (zq_vi (0))]) (st' := [(zq_vi (1)), (.ref (232))]) (fun _ _ _ => rfl) ?_
    refine zq_putf_i (j := 0) rfl zq_a232 rfl rfl rfl (of_decide_eq_true rfl) ?_
    refine zq_run 1 (pc' := 31) (L' := [(.ref (232)), (zq_vi (x1)), (zq_vi (0))]) (st' := [(zq_vi (0))]) (fun _ _ _ => rfl) ?_
    refine zq_eq0 rfl (of_decide_eq_true rfl) (fun _ => ?_) (fun hb => absurd (by decide) hb)
    refine zq_run 1 (pc' := 76) (L' := [(.ref (232)), (zq_vi (x1)), (zq_vi (0))]) (st' := [(zq_vi (0))]) (fun _ _ _ => rfl) ?_
    exact zq_iret rfl rfl rfl (⟨_, rfl, (of_decide_eq_true rfl), w⟩)
  · rw [if_neg hb_1] at w
    refine zq_run 2 (pc' := 8) (L' := [(.ref (232)), (zq_vi (x1)), zz_no]) (st' := [(zq_vi (9)), (zq_vi (x1))]) (fun _ _ _ => rfl) ?_
    refine zq_gt rfl hx1 (of_decide_eq_true rfl) (fun hb_2 => ?_) (fun hb_2 => ?_)
    · rw [if_neg hb_2] at w
      refine zq_run 4 (pc' := 19) (L' := [(.ref (232)), (zq_vi (x1)), (zq_vi (0))]) (st' := [(zq_vi (0)), (.ref (232))]) (fun _ _ _ => rfl) ?_
      refine zq_eq0 rfl (of_decide_eq_true rfl) (fun _ => ?_) (fun hb => absurd (by decide) hb)
      refine zq_run 1 (pc' := 27) (L' := [(.ref (232)), (zq_vi (x1)), (zq_vi (0))]) (st' := [(zq_vi (1)), (.ref (232))]) (fun _ _ _ => rfl) ?_
      refine zq_putf_i (j := 0) rfl zq_a232 rfl rfl rfl (of_decide_eq_true rfl) ?_
      refine zq_run 1 (pc' := 31) (L' := [(.ref (232)), (zq_vi (x1)), (zq_vi (0))]) (st' := [(zq_vi (0))]) (fun _ _ _ => rfl) ?_
      refine zq_eq0 rfl (of_decide_eq_true rfl) (fun _ => ?_) (fun hb => absurd (by decide) hb)
      refine zq_run 1 (pc' := 76) (L' := [(.ref (232)), (zq_vi (x1)), (zq_vi (0))]) (st' := [(zq_vi (0))]) (fun _ _ _ => rfl) ?_
      exact zq_iret rfl rfl rfl (⟨_, rfl, (of_decide_eq_true rfl), w⟩)
    · rw [if_pos hb_2] at w
      refine zq_run 5 (pc' := 19) (L' := [(.ref (232)), (zq_vi (x1)), (zq_vi (1))]) (st' := [(zq_vi (1)), (.ref (232))]) (fun _ _ _ => rfl) ?_
      refine zq_eq0 rfl (of_decide_eq_true rfl) (fun hb => absurd hb (by decide)) (fun _ => ?_)
      refine zq_run 2 (pc' := 27) (L' := [(.ref (232)), (zq_vi (x1)), (zq_vi (1))]) (st' := [(zq_vi (0)), (.ref (232))]) (fun _ _ _ => rfl) ?_
      refine zq_putf_i (j := 0) rfl zq_a232 rfl rfl rfl (of_decide_eq_true rfl) ?_
      refine zq_run 1 (pc' := 31) (L' := [(.ref (232)), (zq_vi (x1)), (zq_vi (1))]) (st' := [(zq_vi (1))]) (fun _ _ _ => rfl) ?_
      refine zq_eq0 rfl (of_decide_eq_true rfl) (fun hb => absurd hb (by decide)) (fun _ => ?_)
      refine zq_run 2 (pc' := 36) (L' := [(.ref (232)), (zq_vi (x1)), (zq_vi (1))]) (st' := [(.ref (232)), (zq_vi (4))]) (fun _ _ _ => rfl) ?_
      refine zq_getf_f (b := 238) rfl zq_a232 rfl rfl ?_
      refine zq_run 1 (pc' := 40) (L' := [(.ref (232)), (zq_vi (x1)), (zq_vi (1))]) (st' := [(zq_vi (x1)), (.ref (238)), (zq_vi (4))]) (fun _ _ _ => rfl) ?_
      obtain ⟨g_3, w⟩ := w
      have e_4 : zq_i (zq_si s (232) (0) (0)) (238) (x1) = zq_i s (238) (x1) := by simp [zq_i_si, zq_i_sr, zq_i_sl]
      refine zq_have (fun hR_5 => ?_)
      have g_6 : zq_iv (zq_i (zq_si s (232) (0) (0)) (238) (x1)) := (hR_5.1 _ _)
      rw [e_4] at g_6
      refine zq_ald_i (v := zq_i s (238) (x1)) rfl zq_a238 g_3.1 g_3.2 e_4 ?_
      refine zq_imul rfl ?_
      refine zq_run 1 (pc' := 43) (L' := [(.ref (232)), (zq_vi (x1)), (zq_vi (1))]) (st' := [(.ref (232)), (zq_vi (4 * (zq_i s (238) (x1))))]) (fun _ _ _ => rfl) ?_
      refine zq_getf_f (b := 239) rfl zq_a232 rfl rfl ?_
      refine zq_run 1 (pc' := 47) (L' := [(.ref (232)), (zq_vi (x1)), (zq_vi (1))]) (st' := [(zq_vi (x1)), (.ref (239)), (zq_vi (4 * (zq_i s (238) (x1))))]) (fun _ _ _ => rfl) ?_
      obtain ⟨g_7, w⟩ := w
      have e_8 : zq_i (zq_si s (232) (0) (0)) (239) (x1) = zq_i s (239) (x1) := by simp [zq_i_si, zq_i_sr, zq_i_sl]
      have g_9 : zq_bo (zq_i (zq_si s (232) (0) (0)) (239) (x1)) := (hR_5.2.2.1 _ _ _ zq_a239)
      rw [e_8] at g_9
      refine zq_ald_b (v := zq_i s (239) (x1)) rfl zq_a239 g_7.1 g_7.2 e_8 ?_
      refine zq_eq0 rfl (zq_bo_in g_9) (fun hb_10 => ?_) (fun hb_10 => ?_)
      · rw [if_pos hb_10] at w
        refine zq_run 1 (pc' := 56) (L' := [(.ref (232)), (zq_vi (x1)), (zq_vi (1))]) (st' := [(zq_vi (0)), (zq_vi (4 * (zq_i s (238) (x1))))]) (fun _ _ _ => rfl) ?_
        refine zq_iadd rfl ?_
        refine zq_run 1 (pc' := 58) (L' := [(.ref (232)), (zq_vi (x1)), (zq_vi (1))]) (st' := [(.ref (232)), (zq_vi ((4 * (zq_i s (238) (x1))) + 0))]) (fun _ _ _ => rfl) ?_
        refine zq_getf_f (b := 237) rfl zq_a232 rfl rfl ?_
        refine zq_run 1 (pc' := 62) (L' := [(.ref (232)), (zq_vi (x1)), (zq_vi (1))]) (st' := [(zq_vi (x1)), (.ref (237)), (zq_vi ((4 * (zq_i s (238) (x1))) + 0))]) (fun _ _ _ => rfl) ?_
        obtain ⟨g_11, w⟩ := w
        have e_12 : zq_i (zq_si s (232) (0) (0)) (237) (x1) = zq_i s (237) (x1) := by simp [zq_i_si, zq_i_sr, zq_i_sl]
        have g_13 : zq_bo (zq_i (zq_si s (232) (0) (0)) (237) (x1)) := (hR_5.2.2.1 _ _ _ zq_a237)
        rw [e_12] at g_13
        refine zq_ald_b (v := zq_i s (237) (x1)) rfl zq_a237 g_11.1 g_11.2 e_12 ?_
        refine zq_eq0 rfl (zq_bo_in g_13) (fun hb_14 => ?_) (fun hb_14 => ?_)
        · rw [if_pos hb_14] at w
          refine zq_run 1 (pc' := 71) (L' := [(.ref (232)), (zq_vi (x1)), (zq_vi (1))]) (st' := [(zq_vi (0)), (zq_vi ((4 * (zq_i s (238) (x1))) + 0))]) (fun _ _ _ => rfl) ?_
          refine zq_iadd rfl ?_
          refine zq_run 1 (pc' := 76) (L' := [(.ref (232)), (zq_vi (x1)), (zq_vi (1))]) (st' := [(zq_vi (((4 * (zq_i s (238) (x1))) + 0) + 0))]) (fun _ _ _ => rfl) ?_
          obtain ⟨g_15, w⟩ := w
          exact zq_iret rfl rfl rfl (⟨_, rfl, g_15, w⟩)
        · rw [if_neg hb_14] at w
          refine zq_run 2 (pc' := 71) (L' := [(.ref (232)), (zq_vi (x1)), (zq_vi (1))]) (st' := [(zq_vi (1)), (zq_vi ((4 * (zq_i s (238) (x1))) + 0))]) (fun _ _ _ => rfl) ?_
          refine zq_iadd rfl ?_
          refine zq_run 1 (pc' := 76) (L' := [(.ref (232)), (zq_vi (x1)), (zq_vi (1))]) (st' := [(zq_vi (((4 * (zq_i s (238) (x1))) + 0) + 1))]) (fun _ _ _ => rfl) ?_
          obtain ⟨g_16, w⟩ := w
          exact zq_iret rfl rfl rfl (⟨_, rfl, g_16, w⟩)
      · rw [if_neg hb_10] at w
        refine zq_run 2 (pc' := 56) (L' := [(.ref (232)), (zq_vi (x1)), (zq_vi (1))]) (st' := [(zq_vi (2)), (zq_vi (4 * (zq_i s (238) (x1))))]) (fun _ _ _ => rfl) ?_
        refine zq_iadd rfl ?_
        refine zq_run 1 (pc' := 58) (L' := [(.ref (232)), (zq_vi (x1)), (zq_vi (1))]) (st' := [(.ref (232)), (zq_vi ((4 * (zq_i s (238) (x1))) + 2))]) (fun _ _ _ => rfl) ?_
        refine zq_getf_f (b := 237) rfl zq_a232 rfl rfl ?_
        refine zq_run 1 (pc' := 62) (L' := [(.ref (232)), (zq_vi (x1)), (zq_vi (1))]) (st' := [(zq_vi (x1)), (.ref (237)), (zq_vi ((4 * (zq_i s (238) (x1))) + 2))]) (fun _ _ _ => rfl) ?_
        obtain ⟨g_17, w⟩ := w
        have e_18 : zq_i (zq_si s (232) (0) (0)) (237) (x1) = zq_i s (237) (x1) := by simp [zq_i_si, zq_i_sr, zq_i_sl]
        have g_19 : zq_bo (zq_i (zq_si s (232) (0) (0)) (237) (x1)) := (hR_5.2.2.1 _ _ _ zq_a237)
        rw [e_18] at g_19
        refine zq_ald_b (v := zq_i s (237) (x1)) rfl zq_a237 g_17.1 g_17.2 e_18 ?_
        refine zq_eq0 rfl (zq_bo_in g_19) (fun hb_20 => ?_) (fun hb_20 => ?_)
        · rw [if_pos hb_20] at w
          refine zq_run 1 (pc' := 71) (L' := [(.ref (232)), (zq_vi (x1)), (zq_vi (1))]) (st' := [(zq_vi (0)), (zq_vi ((4 * (zq_i s (238) (x1))) + 2))]) (fun _ _ _ => rfl) ?_
          refine zq_iadd rfl ?_
          refine zq_run 1 (pc' := 76) (L' := [(.ref (232)), (zq_vi (x1)), (zq_vi (1))]) (st' := [(zq_vi (((4 * (zq_i s (238) (x1))) + 2) + 0))]) (fun _ _ _ => rfl) ?_
          obtain ⟨g_21, w⟩ := w
          exact zq_iret rfl rfl rfl (⟨_, rfl, g_21, w⟩)
        · rw [if_neg hb_20] at w
          refine zq_run 2 (pc' := 71) (L' := [(.ref (232)), (zq_vi (x1)), (zq_vi (1))]) (st' := [(zq_vi (1)), (zq_vi ((4 * (zq_i s (238) (x1))) + 2))]) (fun _ _ _ => rfl) ?_
          refine zq_iadd rfl ?_
          refine zq_run 1 (pc' := 76) (L' := [(.ref (232)), (zq_vi (x1)), (zq_vi (1))]) (st' := [(zq_vi (((4 * (zq_i s (238) (x1))) + 2) + 1))]) (fun _ _ _ => rfl) ?_
          obtain ⟨g_22, w⟩ := w
          exact zq_iret rfl rfl rfl (⟨_, rfl, g_22, w⟩)
set_option maxRecDepth 100000 in
/-- PaperObjectsModel.go(I)I -/
theorem zw_224 {X : Nat × (Nat → Int32)} {s : zq_S} {K : Int → zq_S → Prop} {x1 : Int} (hx1 : zq_iv x1) (w : (zq_Ex X 173 0 [(.ref (232)), (zq_vi (x1))] [] s (zq_rp zq_bo fun x_2 s_1 => (if x_2 = 0 then K (0) (zq_si s_1 (232) (0) (1)) else (zq_Ex X 225 0 [(.ref (232))] [] (zq_si (zq_si (zq_si s_1 (232) (0) (0)) (232) (19) (x1)) (232) (20) (0)) (zq_rp zq_iv fun x_6 s_5 => K (x_6) s_5)))))) : zq_Ex X 224 0 [(.ref (232)), (zq_vi (x1))] [] s (zq_rp zq_iv K) := by
  refine zq_run 3 (pc' := 3) (L' := [(.ref (232)), (zq_vi (x1))]) (st' := [(zq_vi (x1)), (.ref (232)), (.ref (232))]) (fun _ _ _ => rfl) ?_
  refine zq_call_i (i := .invokevirtual 234) (r := [1, 173, 1, 1, 9]) rfl rfl (fun h hp => zr_avv rfl (hp.obj zq_a232)) (of_decide_eq_false rfl) w (fun x_2 s_1 hx_3 w => ?_)
  refine zq_eq0 rfl (zq_bo_in hx_3) (fun hb_4 => ?_) (fun hb_4 => ?_)
  · rw [if_pos hb_4] at w
    refine zq_run 1 (pc' := 14) (L' := [(.ref (232)), (zq_vi (x1))]) (st' := [(zq_vi (1)), (.ref (232))]) (fun _ _ _ => rfl) ?_
    refine zq_putf_i (j := 0) rfl zq_a232 rfl rfl rfl (of_decide_eq_true rfl) ?_
    refine zq_run 1 (pc' := 18) (L' := [(.ref (232)), (zq_vi (x1))]) (st' := [(.ref (232))]) (fun _ _ _ => rfl) ?_
    refine zq_getf_i (j := 0) (v := 1) rfl zq_a232 rfl rfl rfl ?_
    refine zq_eq0 rfl (of_decide_eq_true rfl) (fun hb => absurd hb (by decide)) (fun _ => ?_)
    refine zq_run 1 (pc' := 25) (L' := [(.ref (232)), (zq_vi (x1))]) (st' := [(zq_vi (0))]) (fun _ _ _ => rfl) ?_
    exact zq_iret rfl rfl rfl (⟨_, rfl, (of_decide_eq_true rfl), w⟩)
  · rw [if_neg hb_4] at w
    refine zq_run 2 (pc' := 14) (L' := [(.ref (232)), (zq_vi (x1))]) (st' := [(zq_vi (0)), (.ref (232))]) (fun _ _ _ => rfl) ?_
    refine zq_putf_i (j := 0) rfl zq_a232 rfl rfl rfl (of_decide_eq_true rfl) ?_
    refine zq_run 1 (pc' := 18) (L' := [(.ref (232)), (zq_vi (x1))]) (st' := [(.ref (232))]) (fun _ _ _ => rfl) ?_
    refine zq_getf_i (j := 0) (v := 0) rfl zq_a232 rfl rfl rfl ?_
    refine zq_eq0 rfl (of_decide_eq_true rfl) (fun _ => ?_) (fun hb => absurd (by decide) hb)
    refine zq_run 2 (pc' := 28) (L' := [(.ref (232)), (zq_vi (x1))]) (st' := [(zq_vi (x1)), (.ref (232))]) (fun _ _ _ => rfl) ?_
    refine zq_putf_i (j := 19) rfl zq_a232 rfl rfl rfl hx1 ?_
    refine zq_run 2 (pc' := 33) (L' := [(.ref (232)), (zq_vi (x1))]) (st' := [(zq_vi (0)), (.ref (232))]) (fun _ _ _ => rfl) ?_
    refine zq_putf_i (j := 20) rfl zq_a232 rfl rfl rfl (of_decide_eq_true rfl) ?_
    refine zq_run 1 (pc' := 37) (L' := [(.ref (232)), (zq_vi (x1))]) (st' := [(.ref (232))]) (fun _ _ _ => rfl) ?_
    refine zq_call_i (i := .invokevirtual 401) (r := [1, 225, 0, 1, 9]) rfl rfl (fun h hp => zr_avv rfl (hp.obj zq_a232)) (of_decide_eq_false rfl) w (fun x_6 s_5 hx_7 w => ?_)
    exact zq_iret rfl rfl rfl (⟨_, rfl, hx_7, w⟩)
set_option maxRecDepth 100000 in
/-- PaperObjectsModel.cursorKind()I -/
theorem zw_225 {X : Nat × (Nat → Int32)} {s : zq_S} {K : Int → zq_S → Prop}  (w : (zq_Ex X 159 0 [(.ref (232)), (zq_vi (10 + (zq_i s (232) (19)))), (zq_vi (zq_i s (232) (20))), zz_no, zz_no] [] s (zq_rp zq_iv fun x_3 s_2 => K (x_3) s_2))) : zq_Ex X 225 0 [(.ref (232))] [] s (zq_rp zq_iv K) := by
  refine zq_run 3 (pc' := 4) (L' := [(.ref (232))]) (st' := [(.ref (232)), (zq_vi (10)), (.ref (232))]) (fun _ _ _ => rfl) ?_
  refine zq_have (fun hR_1 => ?_)
  refine zq_getf_i (j := 19) (v := zq_i s (232) (19)) rfl zq_a232 rfl rfl rfl ?_
  refine zq_iadd rfl ?_
  refine zq_run 1 (pc' := 9) (L' := [(.ref (232))]) (st' := [(.ref (232)), (zq_vi (10 + (zq_i s (232) (19)))), (.ref (232))]) (fun _ _ _ => rfl) ?_
  refine zq_getf_i (j := 20) (v := zq_i s (232) (20)) rfl zq_a232 rfl rfl rfl ?_
  refine zq_call_i (i := .invokevirtual 202) (r := [1, 159, 2, 1, 9]) rfl rfl (fun h hp => zr_avv rfl (hp.obj zq_a232)) (of_decide_eq_false rfl) w (fun x_3 s_2 hx_4 w => ?_)
  exact zq_iret rfl rfl rfl (⟨_, rfl, hx_4, w⟩)
set_option maxRecDepth 100000 in
/-- PaperObjectsModel.into(I)I -/
theorem zw_226 {X : Nat × (Nat → Int32)} {s : zq_S} {K : Int → zq_S → Prop} {x1 : Int} (hx1 : zq_iv x1) (w : (if zq_i s (232) (19) < 0 then K (0) (zq_si s (232) (0) (1)) else (zq_Ex X 225 0 [(.ref (232))] [] s (zq_rp zq_iv fun x_4 s_3 => (if x_4 = 6 then (if x1 < 0 then K (0) (zq_si s_3 (232) (0) (2)) else (zq_Ex X 177 0 [(.ref (232)), (zq_vi (10 + (zq_i s_3 (232) (19)))), (zq_vi (zq_i s_3 (232) (20))), (zq_vi (x1)), zz_no, zz_no, zz_no, zz_no] [] s_3 (zq_rp zq_iv fun x_10 s_9 => (if x_10 < 0 then K (0) (zq_si s_9 (232) (0) (2)) else (zq_Ex X 225 0 [(.ref (232))] [] (zq_si (zq_si s_9 (232) (0) (0)) (232) (20) (x_10)) (zq_rp zq_iv fun x_14 s_13 => K (x_14) s_13)))))) else (zq_Ex X 225 0 [(.ref (232))] [] s_3 (zq_rp zq_iv fun x_17 s_16 => (if x_17 = 7 then (if x1 < 0 then K (0) (zq_si s_16 (232) (0) (2)) else (zq_Ex X 177 0 [(.ref (232)), (zq_vi (10 + (zq_i s_16 (232) (19)))), (zq_vi (zq_i s_16 (232) (20))), (zq_vi (x1)), zz_no, zz_no, zz_no, zz_no] [] s_16 (zq_rp zq_iv fun x_23 s_22 => (if x_23 < 0 then K (0) (zq_si s_22 (232) (0) (2)) else (zq_Ex X 225 0 [(.ref (232))] [] (zq_si (zq_si s_22 (232) (0) (0)) (232) (20) (x_23)) (zq_rp zq_iv fun x_27 s_26 => K (x_27) s_26)))))) else K (0) (zq_si s_16 (232) (0) (1)))))))))) : zq_Ex X 226 0 [(.ref (232)), (zq_vi (x1)), zz_no, zz_no] [] s (zq_rp zq_iv K) := by
  refine zq_run 1 (pc' := 1) (L' := [(.ref (232)), (zq_vi (x1)), zz_no, zz_no]) (st' := [(.ref (232))]) (fun _ _ _ => rfl) ?_
  refine zq_have (fun hR_1 => ?_)
  refine zq_getf_i (j := 19) (v := zq_i s (232) (19)) rfl zq_a232 rfl rfl rfl ?_
  refine zq_lt0 rfl (hR_1.1 _ _) (fun hb_2 => ?_) (fun hb_2 => ?_)
  · rw [if_pos hb_2] at w
    refine zq_run 3 (pc' := 32) (L' := [(.ref (232)), (zq_vi (x1)), (zq_vi (0)), zz_no]) (st' := [(zq_vi (0))]) (fun _ _ _ => rfl) ?_
    refine zq_eq0 rfl (of_decide_eq_true rfl) (fun _ => ?_) (fun hb => absurd (by decide) hb)
    refine zq_run 4 (pc' := 62) (L' := [(.ref (232)), (zq_vi (x1)), (zq_vi (0)), (zq_vi ((-1)))]) (st' := [(zq_vi (0)), (.ref (232))]) (fun _ _ _ => rfl) ?_
    refine zq_ne0 rfl (of_decide_eq_true rfl) (fun hb => absurd (by decide) hb) (fun _ => ?_)
    refine zq_run 2 (pc' := 78) (L' := [(.ref (232)), (zq_vi (x1)), (zq_vi (0)), (zq_vi ((-1)))]) (st' := [(zq_vi (1)), (.ref (232))]) (fun _ _ _ => rfl) ?_
    refine zq_putf_i (j := 0) rfl zq_a232 rfl rfl rfl (of_decide_eq_true rfl) ?_
    refine zq_run 1 (pc' := 82) (L' := [(.ref (232)), (zq_vi (x1)), (zq_vi (0)), (zq_vi ((-1)))]) (st' := [(.ref (232))]) (fun _ _ _ => rfl) ?_
    refine zq_getf_i (j := 0) (v := 1) rfl zq_a232 rfl rfl rfl ?_
    refine zq_eq0 rfl (of_decide_eq_true rfl) (fun hb => absurd hb (by decide)) (fun _ => ?_)
    refine zq_run 1 (pc' := 89) (L' := [(.ref (232)), (zq_vi (x1)), (zq_vi (0)), (zq_vi ((-1)))]) (st' := [(zq_vi (0))]) (fun _ _ _ => rfl) ?_
    exact zq_iret rfl rfl rfl (⟨_, rfl, (of_decide_eq_true rfl), w⟩)
  · rw [if_neg hb_2] at w
    refine zq_run 1 (pc' := 8) (L' := [(.ref (232)), (zq_vi (x1)), zz_no, zz_no]) (st' := [(.ref (232))]) (fun _ _ _ => rfl) ?_
    refine zq_call_i (i := .invokevirtual 401) (r := [1, 225, 0, 1, 9]) rfl rfl (fun h hp => zr_avv rfl (hp.obj zq_a232)) (of_decide_eq_false rfl) w (fun x_4 s_3 hx_5 w => ?_)
    refine zq_run 1 (pc' := 13) (L' := [(.ref (232)), (zq_vi (x1)), zz_no, zz_no]) (st' := [(zq_vi (6)), (zq_vi (x_4))]) (fun _ _ _ => rfl) ?_
    refine zq_eq rfl hx_5 (of_decide_eq_true rfl) (fun hb_6 => ?_) (fun hb_6 => ?_)
    · rw [if_pos hb_6] at w
      refine zq_run 4 (pc' := 32) (L' := [(.ref (232)), (zq_vi (x1)), (zq_vi (1)), zz_no]) (st' := [(zq_vi (1))]) (fun _ _ _ => rfl) ?_
      refine zq_eq0 rfl (of_decide_eq_true rfl) (fun hb => absurd hb (by decide)) (fun _ => ?_)
      refine zq_run 1 (pc' := 36) (L' := [(.ref (232)), (zq_vi (x1)), (zq_vi (1)), zz_no]) (st' := [(zq_vi (x1))]) (fun _ _ _ => rfl) ?_
      refine zq_lt0 rfl hx1 (fun hb_7 => ?_) (fun hb_7 => ?_)
      · rw [if_pos hb_7] at w
        refine zq_run 4 (pc' := 62) (L' := [(.ref (232)), (zq_vi (x1)), (zq_vi (1)), (zq_vi ((-1)))]) (st' := [(zq_vi (1)), (.ref (232))]) (fun _ _ _ => rfl) ?_
        refine zq_ne0 rfl (of_decide_eq_true rfl) (fun _ => ?_) (fun hb => absurd hb (by decide))
        refine zq_run 1 (pc' := 70) (L' := [(.ref (232)), (zq_vi (x1)), (zq_vi (1)), (zq_vi ((-1)))]) (st' := [(zq_vi ((-1))), (.ref (232))]) (fun _ _ _ => rfl) ?_
        refine zq_ge0 rfl (of_decide_eq_true rfl) (fun hb => absurd (by decide) hb) (fun _ => ?_)
        refine zq_run 2 (pc' := 78) (L' := [(.ref (232)), (zq_vi (x1)), (zq_vi (1)), (zq_vi ((-1)))]) (st' := [(zq_vi (2)), (.ref (232))]) (fun _ _ _ => rfl) ?_
        refine zq_putf_i (j := 0) rfl zq_a232 rfl rfl rfl (of_decide_eq_true rfl) ?_
        refine zq_run 1 (pc' := 82) (L' := [(.ref (232)), (zq_vi (x1)), (zq_vi (1)), (zq_vi ((-1)))]) (st' := [(.ref (232))]) (fun _ _ _ => rfl) ?_
        refine zq_getf_i (j := 0) (v := 2) rfl zq_a232 rfl rfl rfl ?_
        refine zq_eq0 rfl (of_decide_eq_true rfl) (fun hb => absurd hb (by decide)) (fun _ => ?_)
        refine zq_run 1 (pc' := 89) (L' := [(.ref (232)), (zq_vi (x1)), (zq_vi (1)), (zq_vi ((-1)))]) (st' := [(zq_vi (0))]) (fun _ _ _ => rfl) ?_
        exact zq_iret rfl rfl rfl (⟨_, rfl, (of_decide_eq_true rfl), w⟩)
      · rw [if_neg hb_7] at w
        refine zq_run 3 (pc' := 43) (L' := [(.ref (232)), (zq_vi (x1)), (zq_vi (1)), zz_no]) (st' := [(.ref (232)), (zq_vi (10)), (.ref (232))]) (fun _ _ _ => rfl) ?_
        refine zq_have (fun hR_8 => ?_)
        refine zq_getf_i (j := 19) (v := zq_i s_3 (232) (19)) rfl zq_a232 rfl rfl rfl ?_
        refine zq_iadd rfl ?_
        refine zq_run 1 (pc' := 48) (L' := [(.ref (232)), (zq_vi (x1)), (zq_vi (1)), zz_no]) (st' := [(.ref (232)), (zq_vi (10 + (zq_i s_3 (232) (19)))), (.ref (232))]) (fun _ _ _ => rfl) ?_
        refine zq_getf_i (j := 20) (v := zq_i s_3 (232) (20)) rfl zq_a232 rfl rfl rfl ?_
        refine zq_run 1 (pc' := 52) (L' := [(.ref (232)), (zq_vi (x1)), (zq_vi (1)), zz_no]) (st' := [(zq_vi (x1)), (zq_vi (zq_i s_3 (232) (20))), (zq_vi (10 + (zq_i s_3 (232) (19)))), (.ref (232))]) (fun _ _ _ => rfl) ?_
        refine zq_call_i (i := .invokevirtual 224) (r := [1, 177, 3, 1, 9]) rfl rfl (fun h hp => zr_avv rfl (hp.obj zq_a232)) (of_decide_eq_false rfl) w (fun x_10 s_9 hx_11 w => ?_)
        refine zq_run 4 (pc' := 62) (L' := [(.ref (232)), (zq_vi (x1)), (zq_vi (1)), (zq_vi (x_10))]) (st' := [(zq_vi (1)), (.ref (232))]) (fun _ _ _ => rfl) ?_
        refine zq_ne0 rfl (of_decide_eq_true rfl) (fun _ => ?_) (fun hb => absurd hb (by decide))
        refine zq_run 1 (pc' := 70) (L' := [(.ref (232)), (zq_vi (x1)), (zq_vi (1)), (zq_vi (x_10))]) (st' := [(zq_vi (x_10)), (.ref (232))]) (fun _ _ _ => rfl) ?_
        refine zq_ge0 rfl hx_11 (fun hb_12 => ?_) (fun hb_12 => ?_)
        · rw [if_neg hb_12] at w
          refine zq_run 1 (pc' := 78) (L' := [(.ref (232)), (zq_vi (x1)), (zq_vi (1)), (zq_vi (x_10))]) (st' := [(zq_vi (0)), (.ref (232))]) (fun _ _ _ => rfl) ?_
          refine zq_putf_i (j := 0) rfl zq_a232 rfl rfl rfl (of_decide_eq_true rfl) ?_
          refine zq_run 1 (pc' := 82) (L' := [(.ref (232)), (zq_vi (x1)), (zq_vi (1)), (zq_vi (x_10))]) (st' := [(.ref (232))]) (fun _ _ _ => rfl) ?_
          refine zq_getf_i (j := 0) (v := 0) rfl zq_a232 rfl rfl rfl ?_
          refine zq_eq0 rfl (of_decide_eq_true rfl) (fun _ => ?_) (fun hb => absurd (by decide) hb)
          refine zq_run 2 (pc' := 92) (L' := [(.ref (232)), (zq_vi (x1)), (zq_vi (1)), (zq_vi (x_10))]) (st' := [(zq_vi (x_10)), (.ref (232))]) (fun _ _ _ => rfl) ?_
          refine zq_putf_i (j := 20) rfl zq_a232 rfl rfl rfl hx_11 ?_
          refine zq_run 1 (pc' := 96) (L' := [(.ref (232)), (zq_vi (x1)), (zq_vi (1)), (zq_vi (x_10))]) (st' := [(.ref (232))]) (fun _ _ _ => rfl) ?_
          refine zq_call_i (i := .invokevirtual 401) (r := [1, 225, 0, 1, 9]) rfl rfl (fun h hp => zr_avv rfl (hp.obj zq_a232)) (of_decide_eq_false rfl) w (fun x_14 s_13 hx_15 w => ?_)
          exact zq_iret rfl rfl rfl (⟨_, rfl, hx_15, w⟩)
        · rw [if_pos hb_12] at w
          refine zq_run 2 (pc' := 78) (L' := [(.ref (232)), (zq_vi (x1)), (zq_vi (1)), (zq_vi (x_10))]) (st' := [(zq_vi (2)), (.ref (232))]) (fun _ _ _ => rfl) ?_
          refine zq_putf_i (j := 0) rfl zq_a232 rfl rfl rfl (of_decide_eq_true rfl) ?_
          refine zq_run 1 (pc' := 82) (L' := [(.ref (232)), (zq_vi (x1)), (zq_vi (1)), (zq_vi (x_10))]) (st' := [(.ref (232))]) (fun _ _ _ => rfl) ?_
          refine zq_getf_i (j := 0) (v := 2) rfl zq_a232 rfl rfl rfl ?_
          refine zq_eq0 rfl (of_decide_eq_true rfl) (fun hb => absurd hb (by decide)) (fun _ => ?_)
          refine zq_run 1 (pc' := 89) (L' := [(.ref (232)), (zq_vi (x1)), (zq_vi (1)), (zq_vi (x_10))]) (st' := [(zq_vi (0))]) (fun _ _ _ => rfl) ?_
          exact zq_iret rfl rfl rfl (⟨_, rfl, (of_decide_eq_true rfl), w⟩)
    · rw [if_neg hb_6] at w
      refine zq_run 1 (pc' := 17) (L' := [(.ref (232)), (zq_vi (x1)), zz_no, zz_no]) (st' := [(.ref (232))]) (fun _ _ _ => rfl) ?_
      refine zq_call_i (i := .invokevirtual 401) (r := [1, 225, 0, 1, 9]) rfl rfl (fun h hp => zr_avv rfl (hp.obj zq_a232)) (of_decide_eq_false rfl) w (fun x_17 s_16 hx_18 w => ?_)
      refine zq_run 1 (pc' := 22) (L' := [(.ref (232)), (zq_vi (x1)), zz_no, zz_no]) (st' := [(zq_vi (7)), (zq_vi (x_17))]) (fun _ _ _ => rfl) ?_
      refine zq_ne rfl hx_18 (of_decide_eq_true rfl) (fun hb_19 => ?_) (fun hb_19 => ?_)
      · rw [if_neg hb_19] at w
        refine zq_run 3 (pc' := 32) (L' := [(.ref (232)), (zq_vi (x1)), (zq_vi (0)), zz_no]) (st' := [(zq_vi (0))]) (fun _ _ _ => rfl) ?_
        refine zq_eq0 rfl (of_decide_eq_true rfl) (fun _ => ?_) (fun hb => absurd (by decide) hb)
        refine zq_run 4 (pc' := 62) (L' := [(.ref (232)), (zq_vi (x1)), (zq_vi (0)), (zq_vi ((-1)))]) (st' := [(zq_vi (0)), (.ref (232))]) (fun _ _ _ => rfl) ?_
        refine zq_ne0 rfl (of_decide_eq_true rfl) (fun hb => absurd (by decide) hb) (fun _ => ?_)
        refine zq_run 2 (pc' := 78) (L' := [(.ref (232)), (zq_vi (x1)), (zq_vi (0)), (zq_vi ((-1)))]) (st' := [(zq_vi (1)), (.ref (232))]) (fun _ _ _ => rfl) ?_
        refine zq_putf_i (j := 0) rfl zq_a232 rfl rfl rfl (of_decide_eq_true rfl) ?_
        refine zq_run 1 (pc' := 82) (L' := [(.ref (232)), (zq_vi (x1)), (zq_vi (0)), (zq_vi ((-1)))]) (st' := [(.ref (232))]) (fun _ _ _ => rfl) ?_
        refine zq_getf_i (j := 0) (v := 1) rfl zq_a232 rfl rfl rfl ?_
        refine zq_eq0 rfl (of_decide_eq_true rfl) (fun hb => absurd hb (by decide)) (fun _ => ?_)
        refine zq_run 1 (pc' := 89) (L' := [(.ref (232)), (zq_vi (x1)), (zq_vi (0)), (zq_vi ((-1)))]) (st' := [(zq_vi (0))]) (fun _ _ _ => rfl) ?_
        exact zq_iret rfl rfl rfl (⟨_, rfl, (of_decide_eq_true rfl), w⟩)
      · rw [if_pos hb_19] at w
        refine zq_run 4 (pc' := 32) (L' := [(.ref (232)), (zq_vi (x1)), (zq_vi (1)), zz_no]) (st' := [(zq_vi (1))]) (fun _ _ _ => rfl) ?_
        refine zq_eq0 rfl (of_decide_eq_true rfl) (fun hb => absurd hb (by decide)) (fun _ => ?_)
        refine zq_run 1 (pc' := 36) (L' := [(.ref (232)), (zq_vi (x1)), (zq_vi (1)), zz_no]) (st' := [(zq_vi (x1))]) (fun _ _ _ => rfl) ?_
        refine zq_lt0 rfl hx1 (fun hb_20 => ?_) (fun hb_20 => ?_)
        · rw [if_pos hb_20] at w
          refine zq_run 4 (pc' := 62) (L' := [(.ref (232)), (zq_vi (x1)), (zq_vi (1)), (zq_vi ((-1)))]) (st' := [(zq_vi (1)), (.ref (232))]) (fun _ _ _ => rfl) ?_
          refine zq_ne0 rfl (of_decide_eq_true rfl) (fun _ => ?_) (fun hb => absurd hb (by decide))
          refine zq_run 1 (pc' := 70) (L' := [(.ref (232)), (zq_vi (x1)), (zq_vi (1)), (zq_vi ((-1)))]) (st' := [(zq_vi ((-1))), (.ref (232))]) (fun _ _ _ => rfl) ?_
          refine zq_ge0 rfl (of_decide_eq_true rfl) (fun hb => absurd (by decide) hb) (fun _ => ?_)
          refine zq_run 2 (pc' := 78) (L' := [(.ref (232)), (zq_vi (x1)), (zq_vi (1)), (zq_vi ((-1)))]) (st' := [(zq_vi (2)), (.ref (232))]) (fun _ _ _ => rfl) ?_
          refine zq_putf_i (j := 0) rfl zq_a232 rfl rfl rfl (of_decide_eq_true rfl) ?_
          refine zq_run 1 (pc' := 82) (L' := [(.ref (232)), (zq_vi (x1)), (zq_vi (1)), (zq_vi ((-1)))]) (st' := [(.ref (232))]) (fun _ _ _ => rfl) ?_
          refine zq_getf_i (j := 0) (v := 2) rfl zq_a232 rfl rfl rfl ?_
          refine zq_eq0 rfl (of_decide_eq_true rfl) (fun hb => absurd hb (by decide)) (fun _ => ?_)
          refine zq_run 1 (pc' := 89) (L' := [(.ref (232)), (zq_vi (x1)), (zq_vi (1)), (zq_vi ((-1)))]) (st' := [(zq_vi (0))]) (fun _ _ _ => rfl) ?_
          exact zq_iret rfl rfl rfl (⟨_, rfl, (of_decide_eq_true rfl), w⟩)
        · rw [if_neg hb_20] at w
          refine zq_run 3 (pc' := 43) (L' := [(.ref (232)), (zq_vi (x1)), (zq_vi (1)), zz_no]) (st' := [(.ref (232)), (zq_vi (10)), (.ref (232))]) (fun _ _ _ => rfl) ?_
          refine zq_have (fun hR_21 => ?_)
          refine zq_getf_i (j := 19) (v := zq_i s_16 (232) (19)) rfl zq_a232 rfl rfl rfl ?_
          refine zq_iadd rfl ?_
          refine zq_run 1 (pc' := 48) (L' := [(.ref (232)), (zq_vi (x1)), (zq_vi (1)), zz_no]) (st' := [(.ref (232)), (zq_vi (10 + (zq_i s_16 (232) (19)))), (.ref (232))]) (fun _ _ _ => rfl) ?_
          refine zq_getf_i (j := 20) (v := zq_i s_16 (232) (20)) rfl zq_a232 rfl rfl rfl ?_
          refine zq_run 1 (pc' := 52) (L' := [(.ref (232)), (zq_vi (x1)), (zq_vi (1)), zz_no]) (st' := [(zq_vi (x1)), (zq_vi (zq_i s_16 (232) (20))), (zq_vi (10 + (zq_i s_16 (232) (19)))), (.ref (232))]) (fun _ _ _ => rfl) ?_
          refine zq_call_i (i := .invokevirtual 224) (r := [1, 177, 3, 1, 9]) rfl rfl (fun h hp => zr_avv rfl (hp.obj zq_a232)) (of_decide_eq_false rfl) w (fun x_23 s_22 hx_24 w => ?_)
          refine zq_run 4 (pc' := 62) (L' := [(.ref (232)), (zq_vi (x1)), (zq_vi (1)), (zq_vi (x_23))]) (st' := [(zq_vi (1)), (.ref (232))]) (fun _ _ _ => rfl) ?_
          refine zq_ne0 rfl (of_decide_eq_true rfl) (fun _ => ?_) (fun hb => absurd hb (by decide))
          refine zq_run 1 (pc' := 70) (L' := [(.ref (232)), (zq_vi (x1)), (zq_vi (1)), (zq_vi (x_23))]) (st' := [(zq_vi (x_23)), (.ref (232))]) (fun _ _ _ => rfl) ?_
          refine zq_ge0 rfl hx_24 (fun hb_25 => ?_) (fun hb_25 => ?_)
          · rw [if_neg hb_25] at w
            refine zq_run 1 (pc' := 78) (L' := [(.ref (232)), (zq_vi (x1)), (zq_vi (1)), (zq_vi (x_23))]) (st' := [(zq_vi (0)), (.ref (232))]) (fun _ _ _ => rfl) ?_
            refine zq_putf_i (j := 0) rfl zq_a232 rfl rfl rfl (of_decide_eq_true rfl) ?_
            refine zq_run 1 (pc' := 82) (L' := [(.ref (232)), (zq_vi (x1)), (zq_vi (1)), (zq_vi (x_23))]) (st' := [(.ref (232))]) (fun _ _ _ => rfl) ?_
            refine zq_getf_i (j := 0) (v := 0) rfl zq_a232 rfl rfl rfl ?_
            refine zq_eq0 rfl (of_decide_eq_true rfl) (fun _ => ?_) (fun hb => absurd (by decide) hb)
            refine zq_run 2 (pc' := 92) (L' := [(.ref (232)), (zq_vi (x1)), (zq_vi (1)), (zq_vi (x_23))]) (st' := [(zq_vi (x_23)), (.ref (232))]) (fun _ _ _ => rfl) ?_
            refine zq_putf_i (j := 20) rfl zq_a232 rfl rfl rfl hx_24 ?_
            refine zq_run 1 (pc' := 96) (L' := [(.ref (232)), (zq_vi (x1)), (zq_vi (1)), (zq_vi (x_23))]) (st' := [(.ref (232))]) (fun _ _ _ => rfl) ?_
            refine zq_call_i (i := .invokevirtual 401) (r := [1, 225, 0, 1, 9]) rfl rfl (fun h hp => zr_avv rfl (hp.obj zq_a232)) (of_decide_eq_false rfl) w (fun x_27 s_26 hx_28 w => ?_)
            exact zq_iret rfl rfl rfl (⟨_, rfl, hx_28, w⟩)
          · rw [if_pos hb_25] at w
            refine zq_run 2 (pc' := 78) (L' := [(.ref (232)), (zq_vi (x1)), (zq_vi (1)), (zq_vi (x_23))]) (st' := [(zq_vi (2)), (.ref (232))]) (fun _ _ _ => rfl) ?_
            refine zq_putf_i (j := 0) rfl zq_a232 rfl rfl rfl (of_decide_eq_true rfl) ?_
            refine zq_run 1 (pc' := 82) (L' := [(.ref (232)), (zq_vi (x1)), (zq_vi (1)), (zq_vi (x_23))]) (st' := [(.ref (232))]) (fun _ _ _ => rfl) ?_
            refine zq_getf_i (j := 0) (v := 2) rfl zq_a232 rfl rfl rfl ?_
            refine zq_eq0 rfl (of_decide_eq_true rfl) (fun hb => absurd hb (by decide)) (fun _ => ?_)
            refine zq_run 1 (pc' := 89) (L' := [(.ref (232)), (zq_vi (x1)), (zq_vi (1)), (zq_vi (x_23))]) (st' := [(zq_vi (0))]) (fun _ _ _ => rfl) ?_
            exact zq_iret rfl rfl rfl (⟨_, rfl, (of_decide_eq_true rfl), w⟩)
set_option maxRecDepth 100000 in
/-- PaperObjectsModel.follow()I -/
theorem zw_227 {X : Nat × (Nat → Int32)} {s : zq_S} {K : Int → zq_S → Prop}  (w : (if zq_i s (232) (19) < 0 then K (0) (zq_si s (232) (0) (1)) else (zq_Ex X 193 0 [(.ref (232)), (zq_vi (10 + (zq_i s (232) (19)))), (zq_vi (zq_i s (232) (20))), zz_no, zz_no] [] (zq_si s (232) (0) (0)) (zq_rv fun s_5 => (if zq_i s_5 (232) (47) < 0 then K (0) (zq_si s_5 (232) (0) (2)) else (zq_iv ((zq_i s_5 (232) (47)) - 10) ∧ (zq_Ex X 225 0 [(.ref (232))] [] (zq_si (zq_si (zq_si s_5 (232) (0) (0)) (232) (19) ((zq_i s_5 (232) (47)) - 10)) (232) (20) (zq_i s_5 (232) (48))) (zq_rp zq_iv fun x_12 s_11 => K (x_12) s_11)))))))) : zq_Ex X 227 0 [(.ref (232))] [] s (zq_rp zq_iv K) := by
  refine zq_run 2 (pc' := 2) (L' := [(.ref (232))]) (st' := [(.ref (232)), (.ref (232))]) (fun _ _ _ => rfl) ?_
  refine zq_have (fun hR_1 => ?_)
  refine zq_getf_i (j := 19) (v := zq_i s (232) (19)) rfl zq_a232 rfl rfl rfl ?_
  refine zq_ge0 rfl (hR_1.1 _ _) (fun hb_2 => ?_) (fun hb_2 => ?_)
  · rw [if_neg hb_2] at w
    refine zq_run 1 (pc' := 13) (L' := [(.ref (232))]) (st' := [(zq_vi (0)), (.ref (232))]) (fun _ _ _ => rfl) ?_
    refine zq_putf_i (j := 0) rfl zq_a232 rfl rfl rfl (of_decide_eq_true rfl) ?_
    refine zq_run 1 (pc' := 17) (L' := [(.ref (232))]) (st' := [(.ref (232))]) (fun _ _ _ => rfl) ?_
    refine zq_getf_i (j := 0) (v := 0) rfl zq_a232 rfl rfl rfl ?_
    refine zq_eq0 rfl (of_decide_eq_true rfl) (fun _ => ?_) (fun hb => absurd (by decide) hb)
    refine zq_run 3 (pc' := 29) (L' := [(.ref (232))]) (st' := [(.ref (232)), (zq_vi (10)), (.ref (232))]) (fun _ _ _ => rfl) ?_
    have e_3 : zq_i (zq_si s (232) (0) (0)) (232) (19) = zq_i s (232) (19) := by simp [zq_i_si, zq_i_sr, zq_i_sl]
    refine zq_getf_i (j := 19) (v := zq_i s (232) (19)) rfl zq_a232 rfl rfl e_3 ?_
    refine zq_iadd rfl ?_
    refine zq_run 1 (pc' := 34) (L' := [(.ref (232))]) (st' := [(.ref (232)), (zq_vi (10 + (zq_i s (232) (19)))), (.ref (232))]) (fun _ _ _ => rfl) ?_
    have e_4 : zq_i (zq_si s (232) (0) (0)) (232) (20) = zq_i s (232) (20) := by simp [zq_i_si, zq_i_sr, zq_i_sl]
    refine zq_getf_i (j := 20) (v := zq_i s (232) (20)) rfl zq_a232 rfl rfl e_4 ?_
    refine zq_call_v (i := .invokevirtual 315) (r := [1, 193, 2, 1, 9]) rfl rfl (fun h hp => zr_avv rfl (hp.obj zq_a232)) (of_decide_eq_false rfl) w (fun s_5 w => ?_)
    refine zq_run 2 (pc' := 42) (L' := [(.ref (232))]) (st' := [(.ref (232)), (.ref (232))]) (fun _ _ _ => rfl) ?_
    refine zq_have (fun hR_6 => ?_)
    refine zq_getf_i (j := 47) (v := zq_i s_5 (232) (47)) rfl zq_a232 rfl rfl rfl ?_
    refine zq_ge0 rfl (hR_6.1 _ _) (fun hb_7 => ?_) (fun hb_7 => ?_)
    · rw [if_neg hb_7] at w
      refine zq_run 1 (pc' := 53) (L' := [(.ref (232))]) (st' := [(zq_vi (0)), (.ref (232))]) (fun _ _ _ => rfl) ?_
      refine zq_putf_i (j := 0) rfl zq_a232 rfl rfl rfl (of_decide_eq_true rfl) ?_
      refine zq_run 1 (pc' := 57) (L' := [(.ref (232))]) (st' := [(.ref (232))]) (fun _ _ _ => rfl) ?_
      refine zq_getf_i (j := 0) (v := 0) rfl zq_a232 rfl rfl rfl ?_
      refine zq_eq0 rfl (of_decide_eq_true rfl) (fun _ => ?_) (fun hb => absurd (by decide) hb)
      refine zq_run 2 (pc' := 67) (L' := [(.ref (232))]) (st' := [(.ref (232)), (.ref (232))]) (fun _ _ _ => rfl) ?_
      have e_8 : zq_i (zq_si s_5 (232) (0) (0)) (232) (47) = zq_i s_5 (232) (47) := by simp [zq_i_si, zq_i_sr, zq_i_sl]
      refine zq_getf_i (j := 47) (v := zq_i s_5 (232) (47)) rfl zq_a232 rfl rfl e_8 ?_
      refine zq_run 1 (pc' := 72) (L' := [(.ref (232))]) (st' := [(zq_vi (10)), (zq_vi (zq_i s_5 (232) (47))), (.ref (232))]) (fun _ _ _ => rfl) ?_
      refine zq_isub rfl ?_
      obtain ⟨g_9, w⟩ := w
      refine zq_putf_i (j := 19) rfl zq_a232 rfl rfl rfl g_9 ?_
      refine zq_run 2 (pc' := 78) (L' := [(.ref (232))]) (st' := [(.ref (232)), (.ref (232))]) (fun _ _ _ => rfl) ?_
      have e_10 : zq_i (zq_si (zq_si s_5 (232) (0) (0)) (232) (19) ((zq_i s_5 (232) (47)) - 10)) (232) (48) = zq_i s_5 (232) (48) := by simp [zq_i_si, zq_i_sr, zq_i_sl]
      refine zq_getf_i (j := 48) (v := zq_i s_5 (232) (48)) rfl zq_a232 rfl rfl e_10 ?_
      refine zq_putf_i (j := 20) rfl zq_a232 rfl rfl rfl (hR_6.1 _ _) ?_
      refine zq_run 1 (pc' := 85) (L' := [(.ref (232))]) (st' := [(.ref (232))]) (fun _ _ _ => rfl) ?_
      refine zq_call_i (i := .invokevirtual 401) (r := [1, 225, 0, 1, 9]) rfl rfl (fun h hp => zr_avv rfl (hp.obj zq_a232)) (of_decide_eq_false rfl) w (fun x_12 s_11 hx_13 w => ?_)
      exact zq_iret rfl rfl rfl (⟨_, rfl, hx_13, w⟩)
    · rw [if_pos hb_7] at w
      refine zq_run 2 (pc' := 53) (L' := [(.ref (232))]) (st' := [(zq_vi (2)), (.ref (232))]) (fun _ _ _ => rfl) ?_
      refine zq_putf_i (j := 0) rfl zq_a232 rfl rfl rfl (of_decide_eq_true rfl) ?_
      refine zq_run 1 (pc' := 57) (L' := [(.ref (232))]) (st' := [(.ref (232))]) (fun _ _ _ => rfl) ?_
      refine zq_getf_i (j := 0) (v := 2) rfl zq_a232 rfl rfl rfl ?_
      refine zq_eq0 rfl (of_decide_eq_true rfl) (fun hb => absurd hb (by decide)) (fun _ => ?_)
      refine zq_run 1 (pc' := 64) (L' := [(.ref (232))]) (st' := [(zq_vi (0))]) (fun _ _ _ => rfl) ?_
      exact zq_iret rfl rfl rfl (⟨_, rfl, (of_decide_eq_true rfl), w⟩)
  · rw [if_pos hb_2] at w
    refine zq_run 2 (pc' := 13) (L' := [(.ref (232))]) (st' := [(zq_vi (1)), (.ref (232))]) (fun _ _ _ => rfl) ?_
    refine zq_putf_i (j := 0) rfl zq_a232 rfl rfl rfl (of_decide_eq_true rfl) ?_
    refine zq_run 1 (pc' := 17) (L' := [(.ref (232))]) (st' := [(.ref (232))]) (fun _ _ _ => rfl) ?_
    refine zq_getf_i (j := 0) (v := 1) rfl zq_a232 rfl rfl rfl ?_
    refine zq_eq0 rfl (of_decide_eq_true rfl) (fun hb => absurd hb (by decide)) (fun _ => ?_)
    refine zq_run 1 (pc' := 24) (L' := [(.ref (232))]) (st' := [(zq_vi (0))]) (fun _ _ _ => rfl) ?_
    exact zq_iret rfl rfl rfl (⟨_, rfl, (of_decide_eq_true rfl), w⟩)
set_option maxRecDepth 100000 in
/-- PaperObjectsModel.value(I)I -/
theorem zw_228 {X : Nat × (Nat → Int32)} {s : zq_S} {K : Int → zq_S → Prop} {x1 : Int} (hx1 : zq_iv x1) (w : (if zq_i s (232) (19) < 0 then K (0) (zq_si s (232) (0) (1)) else (if x1 < 0 then K (0) (zq_si s (232) (0) (2)) else (if x1 ≤ 2 then (zq_Ex X 225 0 [(.ref (232))] [] (zq_si s (232) (0) (0)) (zq_rp zq_iv fun x_7 s_6 => (if x1 = 0 then K (x_7) s_6 else (if x1 = 2 then (zq_Ex X 145 0 [(.ref (232)), (zq_vi (10 + (zq_i s (232) (19)))), (zq_vi (zq_i s_6 (232) (20))), zz_no, zz_no] [] s_6 (zq_rv fun s_47 => (if x_7 = 8 then (zq_Ex X 190 0 [(.ref (232)), (zq_vi (10 + (zq_i s (232) (19)))), (zq_vi (zq_i s_47 (232) (20)))] [] s_47 (zq_rp zq_iv fun x_52 s_51 => K (x_52) s_51)) else K (zq_i s_47 (232) (28)) s_47))) else (if x_7 = 3 then (zq_Ex X 161 0 [(.ref (232)), (zq_vi (10 + (zq_i s (232) (19)))), (zq_vi (zq_i s_6 (232) (20))), zz_no] [] s_6 (zq_rp zq_iv fun x_14 s_13 => (zq_Ex X 167 0 [(.ref (232)), (zq_vi (10 + (zq_i s (232) (19)))), (zq_vi (zq_i s_13 (232) (20))), (zq_vi (x_14)), zz_no, zz_no, zz_no] [] s_13 (zq_rp zq_iv fun x_18 s_17 => K (x_18) s_17)))) else (if x_7 = 4 then (zq_Ex X 153 0 [(.ref (232)), (zq_vi (10 + (zq_i s (232) (19)))), (zq_vi (zq_i s_6 (232) (20))), zz_no] [] s_6 (zq_rp zq_iv fun x_23 s_22 => (zq_iv ((x_23 - (zq_i s_22 (232) (20))) - 1) ∧ K ((x_23 - (zq_i s_22 (232) (20))) - 1) s_22))) else (if x_7 = 5 then (zq_Ex X 229 0 [(.ref (232)), (zq_vi (10 + (zq_i s (232) (19)))), zz_no, zz_no, zz_no] [] s_6 (zq_rp zq_iv fun x_29 s_28 => K (x_29) s_28)) else (if x_7 = 6 then (zq_Ex X 176 0 [(.ref (232)), (zq_vi (10 + (zq_i s (232) (19)))), (zq_vi (zq_i s_6 (232) (20))), zz_no] [] s_6 (zq_rp zq_iv fun x_34 s_33 => K (x_34) s_33)) else (if x_7 = 7 then (zq_Ex X 176 0 [(.ref (232)), (zq_vi (10 + (zq_i s (232) (19)))), (zq_vi (zq_i s_6 (232) (20))), zz_no] [] s_6 (zq_rp zq_iv fun x_39 s_38 => K (x_39) s_38)) else (if x_7 = 8 then (zq_Ex X 189 0 [(.ref (232)), (zq_vi (10 + (zq_i s (232) (19)))), (zq_vi (zq_i s_6 (232) (20)))] [] s_6 (zq_rp zq_iv fun x_44 s_43 => K (x_44) s_43)) else K (0) s_6)))))))))) else K (0) (zq_si s (232) (0) (2)))))) : zq_Ex X 228 0 [(.ref (232)), (zq_vi (x1)), zz_no, zz_no, zz_no] [] s (zq_rp zq_iv K) := by
  refine zq_run 2 (pc' := 2) (L' := [(.ref (232)), (zq_vi (x1)), zz_no, zz_no, zz_no]) (st' := [(.ref (232)), (.ref (232))]) (fun _ _ _ => rfl) ?_
  refine zq_have (fun hR_1 => ?_)
  refine zq_getf_i (j := 19) (v := zq_i s (232) (19)) rfl zq_a232 rfl rfl rfl ?_
  refine zq_ge0 rfl (hR_1.1 _ _) (fun hb_2 => ?_) (fun hb_2 => ?_)
  · rw [if_neg hb_2] at w
    refine zq_run 1 (pc' := 13) (L' := [(.ref (232)), (zq_vi (x1)), zz_no, zz_no, zz_no]) (st' := [(zq_vi (x1)), (.ref (232))]) (fun _ _ _ => rfl) ?_
    refine zq_lt0 rfl hx1 (fun hb_3 => ?_) (fun hb_3 => ?_)
    · rw [if_pos hb_3] at w
      refine zq_run 2 (pc' := 26) (L' := [(.ref (232)), (zq_vi (x1)), zz_no, zz_no, zz_no]) (st' := [(zq_vi (2)), (.ref (232))]) (fun _ _ _ => rfl) ?_
      refine zq_putf_i (j := 0) rfl zq_a232 rfl rfl rfl (of_decide_eq_true rfl) ?_
      refine zq_run 1 (pc' := 30) (L' := [(.ref (232)), (zq_vi (x1)), zz_no, zz_no, zz_no]) (st' := [(.ref (232))]) (fun _ _ _ => rfl) ?_
      refine zq_getf_i (j := 0) (v := 2) rfl zq_a232 rfl rfl rfl ?_
      refine zq_eq0 rfl (of_decide_eq_true rfl) (fun hb => absurd hb (by decide)) (fun _ => ?_)
      refine zq_run 1 (pc' := 37) (L' := [(.ref (232)), (zq_vi (x1)), zz_no, zz_no, zz_no]) (st' := [(zq_vi (0))]) (fun _ _ _ => rfl) ?_
      exact zq_iret rfl rfl rfl (⟨_, rfl, (of_decide_eq_true rfl), w⟩)
    · rw [if_neg hb_3] at w
      refine zq_run 2 (pc' := 18) (L' := [(.ref (232)), (zq_vi (x1)), zz_no, zz_no, zz_no]) (st' := [(zq_vi (2)), (zq_vi (x1)), (.ref (232))]) (fun _ _ _ => rfl) ?_
      refine zq_le rfl hx1 (of_decide_eq_true rfl) (fun hb_4 => ?_) (fun hb_4 => ?_)
      · rw [if_pos hb_4] at w
        refine zq_run 1 (pc' := 26) (L' := [(.ref (232)), (zq_vi (x1)), zz_no, zz_no, zz_no]) (st' := [(zq_vi (0)), (.ref (232))]) (fun _ _ _ => rfl) ?_
        refine zq_putf_i (j := 0) rfl zq_a232 rfl rfl rfl (of_decide_eq_true rfl) ?_
        refine zq_run 1 (pc' := 30) (L' := [(.ref (232)), (zq_vi (x1)), zz_no, zz_no, zz_no]) (st' := [(.ref (232))]) (fun _ _ _ => rfl) ?_
        refine zq_getf_i (j := 0) (v := 0) rfl zq_a232 rfl rfl rfl ?_
        refine zq_eq0 rfl (of_decide_eq_true rfl) (fun _ => ?_) (fun hb => absurd (by decide) hb)
        refine zq_run 2 (pc' := 41) (L' := [(.ref (232)), (zq_vi (x1)), zz_no, zz_no, zz_no]) (st' := [(.ref (232)), (zq_vi (10))]) (fun _ _ _ => rfl) ?_
        have e_5 : zq_i (zq_si s (232) (0) (0)) (232) (19) = zq_i s (232) (19) := by simp [zq_i_si, zq_i_sr, zq_i_sl]
        refine zq_getf_i (j := 19) (v := zq_i s (232) (19)) rfl zq_a232 rfl rfl e_5 ?_
        refine zq_iadd rfl ?_
        refine zq_run 2 (pc' := 47) (L' := [(.ref (232)), (zq_vi (x1)), (zq_vi (10 + (zq_i s (232) (19)))), zz_no, zz_no]) (st' := [(.ref (232))]) (fun _ _ _ => rfl) ?_
        refine zq_call_i (i := .invokevirtual 401) (r := [1, 225, 0, 1, 9]) rfl rfl (fun h hp => zr_avv rfl (hp.obj zq_a232)) (of_decide_eq_false rfl) w (fun x_7 s_6 hx_8 w => ?_)
        refine zq_run 2 (pc' := 52) (L' := [(.ref (232)), (zq_vi (x1)), (zq_vi (10 + (zq_i s (232) (19)))), (zq_vi (x_7)), zz_no]) (st' := [(zq_vi (x1))]) (fun _ _ _ => rfl) ?_
        refine zq_ne0 rfl hx1 (fun hb_9 => ?_) (fun hb_9 => ?_)
        · rw [if_neg hb_9] at w
          refine zq_run 2 (pc' := 59) (L' := [(.ref (232)), (zq_vi (x1)), (zq_vi (10 + (zq_i s (232) (19)))), (zq_vi (x_7)), zz_no]) (st' := [(zq_vi (2)), (zq_vi (x1))]) (fun _ _ _ => rfl) ?_
          refine zq_ne rfl hx1 (of_decide_eq_true rfl) (fun hb_10 => ?_) (fun hb_10 => ?_)
          · rw [if_neg hb_10] at w
            refine zq_run 1 (pc' := 95) (L' := [(.ref (232)), (zq_vi (x1)), (zq_vi (10 + (zq_i s (232) (19)))), (zq_vi (x_7)), zz_no]) (st' := [(zq_vi (x_7))]) (fun _ _ _ => rfl) ?_
            by_cases hb_11 : x_7 = 3
            · rw [if_pos hb_11] at w
              refine zq_tsw rfl (by rw [hb_11] <;> rfl) ?_
              refine zq_run 3 (pc' := 135) (L' := [(.ref (232)), (zq_vi (x1)), (zq_vi (10 + (zq_i s (232) (19)))), (zq_vi (x_7)), zz_no]) (st' := [(.ref (232)), (zq_vi (10 + (zq_i s (232) (19)))), (.ref (232))]) (fun _ _ _ => rfl) ?_
              refine zq_have (fun hR_12 => ?_)
              refine zq_getf_i (j := 20) (v := zq_i s_6 (232) (20)) rfl zq_a232 rfl rfl rfl ?_
              refine zq_call_i (i := .invokevirtual 134) (r := [1, 161, 2, 1, 9]) rfl rfl (fun h hp => zr_avv rfl (hp.obj zq_a232)) (of_decide_eq_false rfl) w (fun x_14 s_13 hx_15 w => ?_)
              refine zq_run 4 (pc' := 146) (L' := [(.ref (232)), (zq_vi (x1)), (zq_vi (10 + (zq_i s (232) (19)))), (zq_vi (x_7)), (zq_vi (x_14))]) (st' := [(.ref (232)), (zq_vi (10 + (zq_i s (232) (19)))), (.ref (232))]) (fun _ _ _ => rfl) ?_
              refine zq_have (fun hR_16 => ?_)
              refine zq_getf_i (j := 20) (v := zq_i s_13 (232) (20)) rfl zq_a232 rfl rfl rfl ?_
              refine zq_run 1 (pc' := 151) (L' := [(.ref (232)), (zq_vi (x1)), (zq_vi (10 + (zq_i s (232) (19)))), (zq_vi (x_7)), (zq_vi (x_14))]) (st' := [(zq_vi (x_14)), (zq_vi (zq_i s_13 (232) (20))), (zq_vi (10 + (zq_i s (232) (19)))), (.ref (232))]) (fun _ _ _ => rfl) ?_
              refine zq_call_i (i := .invokevirtual 162) (r := [1, 167, 3, 1, 9]) rfl rfl (fun h hp => zr_avv rfl (hp.obj zq_a232)) (of_decide_eq_false rfl) w (fun x_18 s_17 hx_19 w => ?_)
              exact zq_iret rfl rfl rfl (⟨_, rfl, hx_19, w⟩)
            · rw [if_neg hb_11] at w
              by_cases hb_20 : x_7 = 4
              · rw [if_pos hb_20] at w
                refine zq_tsw rfl (by rw [hb_20] <;> rfl) ?_
                refine zq_run 3 (pc' := 158) (L' := [(.ref (232)), (zq_vi (x1)), (zq_vi (10 + (zq_i s (232) (19)))), (zq_vi (x_7)), zz_no]) (st' := [(.ref (232)), (zq_vi (10 + (zq_i s (232) (19)))), (.ref (232))]) (fun _ _ _ => rfl) ?_
                refine zq_have (fun hR_21 => ?_)
                refine zq_getf_i (j := 20) (v := zq_i s_6 (232) (20)) rfl zq_a232 rfl rfl rfl ?_
                refine zq_call_i (i := .invokevirtual 130) (r := [1, 153, 2, 1, 9]) rfl rfl (fun h hp => zr_avv rfl (hp.obj zq_a232)) (of_decide_eq_false rfl) w (fun x_23 s_22 hx_24 w => ?_)
                refine zq_run 1 (pc' := 165) (L' := [(.ref (232)), (zq_vi (x1)), (zq_vi (10 + (zq_i s (232) (19)))), (zq_vi (x_7)), zz_no]) (st' := [(.ref (232)), (zq_vi (x_23))]) (fun _ _ _ => rfl) ?_
                refine zq_have (fun hR_25 => ?_)
                refine zq_getf_i (j := 20) (v := zq_i s_22 (232) (20)) rfl zq_a232 rfl rfl rfl ?_
                refine zq_isub rfl ?_
                refine zq_run 1 (pc' := 170) (L' := [(.ref (232)), (zq_vi (x1)), (zq_vi (10 + (zq_i s (232) (19)))), (zq_vi (x_7)), zz_no]) (st' := [(zq_vi (1)), (zq_vi (x_23 - (zq_i s_22 (232) (20))))]) (fun _ _ _ => rfl) ?_
                refine zq_isub rfl ?_
                obtain ⟨g_26, w⟩ := w
                exact zq_iret rfl rfl rfl (⟨_, rfl, g_26, w⟩)
              · rw [if_neg hb_20] at w
                by_cases hb_27 : x_7 = 5
                · rw [if_pos hb_27] at w
                  refine zq_tsw rfl (by rw [hb_27] <;> rfl) ?_
                  refine zq_run 2 (pc' := 174) (L' := [(.ref (232)), (zq_vi (x1)), (zq_vi (10 + (zq_i s (232) (19)))), (zq_vi (x_7)), zz_no]) (st' := [(zq_vi (10 + (zq_i s (232) (19)))), (.ref (232))]) (fun _ _ _ => rfl) ?_
                  refine zq_call_i (i := .invokevirtual 404) (r := [1, 229, 1, 1, 9]) rfl rfl (fun h hp => zr_avv rfl (hp.obj zq_a232)) (of_decide_eq_false rfl) w (fun x_29 s_28 hx_30 w => ?_)
                  exact zq_iret rfl rfl rfl (⟨_, rfl, hx_30, w⟩)
                · rw [if_neg hb_27] at w
                  by_cases hb_31 : x_7 = 6
                  · rw [if_pos hb_31] at w
                    refine zq_tsw rfl (by rw [hb_31] <;> rfl) ?_
                    refine zq_run 3 (pc' := 181) (L' := [(.ref (232)), (zq_vi (x1)), (zq_vi (10 + (zq_i s (232) (19)))), (zq_vi (x_7)), zz_no]) (st' := [(.ref (232)), (zq_vi (10 + (zq_i s (232) (19)))), (.ref (232))]) (fun _ _ _ => rfl) ?_
                    refine zq_have (fun hR_32 => ?_)
                    refine zq_getf_i (j := 20) (v := zq_i s_6 (232) (20)) rfl zq_a232 rfl rfl rfl ?_
                    refine zq_call_i (i := .invokevirtual 227) (r := [1, 176, 2, 1, 9]) rfl rfl (fun h hp => zr_avv rfl (hp.obj zq_a232)) (of_decide_eq_false rfl) w (fun x_34 s_33 hx_35 w => ?_)
                    exact zq_iret rfl rfl rfl (⟨_, rfl, hx_35, w⟩)
                  · rw [if_neg hb_31] at w
                    by_cases hb_36 : x_7 = 7
                    · rw [if_pos hb_36] at w
                      refine zq_tsw rfl (by rw [hb_36] <;> rfl) ?_
                      refine zq_run 3 (pc' := 181) (L' := [(.ref (232)), (zq_vi (x1)), (zq_vi (10 + (zq_i s (232) (19)))), (zq_vi (x_7)), zz_no]) (st' := [(.ref (232)), (zq_vi (10 + (zq_i s (232) (19)))), (.ref (232))]) (fun _ _ _ => rfl) ?_
                      refine zq_have (fun hR_37 => ?_)
                      refine zq_getf_i (j := 20) (v := zq_i s_6 (232) (20)) rfl zq_a232 rfl rfl rfl ?_
                      refine zq_call_i (i := .invokevirtual 227) (r := [1, 176, 2, 1, 9]) rfl rfl (fun h hp => zr_avv rfl (hp.obj zq_a232)) (of_decide_eq_false rfl) w (fun x_39 s_38 hx_40 w => ?_)
                      exact zq_iret rfl rfl rfl (⟨_, rfl, hx_40, w⟩)
                    · rw [if_neg hb_36] at w
                      by_cases hb_41 : x_7 = 8
                      · rw [if_pos hb_41] at w
                        refine zq_tsw rfl (by rw [hb_41] <;> rfl) ?_
                        refine zq_run 3 (pc' := 191) (L' := [(.ref (232)), (zq_vi (x1)), (zq_vi (10 + (zq_i s (232) (19)))), (zq_vi (x_7)), zz_no]) (st' := [(.ref (232)), (zq_vi (10 + (zq_i s (232) (19)))), (.ref (232))]) (fun _ _ _ => rfl) ?_
                        refine zq_have (fun hR_42 => ?_)
                        refine zq_getf_i (j := 20) (v := zq_i s_6 (232) (20)) rfl zq_a232 rfl rfl rfl ?_
                        refine zq_call_i (i := .invokevirtual 243) (r := [1, 189, 2, 1, 9]) rfl rfl (fun h hp => zr_avv rfl (hp.obj zq_a232)) (of_decide_eq_false rfl) w (fun x_44 s_43 hx_45 w => ?_)
                        exact zq_iret rfl rfl rfl (⟨_, rfl, hx_45, w⟩)
                      · rw [if_neg hb_41] at w
                        refine zq_tsw rfl (zq_tabd hx_8 (by omega)) ?_
                        refine zq_run 1 (pc' := 199) (L' := [(.ref (232)), (zq_vi (x1)), (zq_vi (10 + (zq_i s (232) (19)))), (zq_vi (x_7)), zz_no]) (st' := [(zq_vi (0))]) (fun _ _ _ => rfl) ?_
                        exact zq_iret rfl rfl rfl (⟨_, rfl, (of_decide_eq_true rfl), w⟩)
          · rw [if_pos hb_10] at w
            refine zq_run 3 (pc' := 65) (L' := [(.ref (232)), (zq_vi (x1)), (zq_vi (10 + (zq_i s (232) (19)))), (zq_vi (x_7)), zz_no]) (st' := [(.ref (232)), (zq_vi (10 + (zq_i s (232) (19)))), (.ref (232))]) (fun _ _ _ => rfl) ?_
            refine zq_have (fun hR_46 => ?_)
            refine zq_getf_i (j := 20) (v := zq_i s_6 (232) (20)) rfl zq_a232 rfl rfl rfl ?_
            refine zq_call_v (i := .invokevirtual 266) (r := [1, 145, 2, 1, 9]) rfl rfl (fun h hp => zr_avv rfl (hp.obj zq_a232)) (of_decide_eq_false rfl) w (fun s_47 w => ?_)
            refine zq_run 2 (pc' := 74) (L' := [(.ref (232)), (zq_vi (x1)), (zq_vi (10 + (zq_i s (232) (19)))), (zq_vi (x_7)), zz_no]) (st' := [(zq_vi (8)), (zq_vi (x_7))]) (fun _ _ _ => rfl) ?_
            refine zq_ne rfl hx_8 (of_decide_eq_true rfl) (fun hb_48 => ?_) (fun hb_48 => ?_)
            · rw [if_neg hb_48] at w
              refine zq_run 1 (pc' := 90) (L' := [(.ref (232)), (zq_vi (x1)), (zq_vi (10 + (zq_i s (232) (19)))), (zq_vi (x_7)), zz_no]) (st' := [(.ref (232))]) (fun _ _ _ => rfl) ?_
              refine zq_have (fun hR_49 => ?_)
              refine zq_getf_i (j := 28) (v := zq_i s_47 (232) (28)) rfl zq_a232 rfl rfl rfl ?_
              exact zq_iret rfl rfl rfl (⟨_, rfl, (hR_49.1 _ _), w⟩)
            · rw [if_pos hb_48] at w
              refine zq_run 3 (pc' := 80) (L' := [(.ref (232)), (zq_vi (x1)), (zq_vi (10 + (zq_i s (232) (19)))), (zq_vi (x_7)), zz_no]) (st' := [(.ref (232)), (zq_vi (10 + (zq_i s (232) (19)))), (.ref (232))]) (fun _ _ _ => rfl) ?_
              refine zq_have (fun hR_50 => ?_)
              refine zq_getf_i (j := 20) (v := zq_i s_47 (232) (20)) rfl zq_a232 rfl rfl rfl ?_
              refine zq_call_i (i := .invokevirtual 246) (r := [1, 190, 2, 1, 9]) rfl rfl (fun h hp => zr_avv rfl (hp.obj zq_a232)) (of_decide_eq_false rfl) w (fun x_52 s_51 hx_53 w => ?_)
              refine zq_run 1 (pc' := 93) (L' := [(.ref (232)), (zq_vi (x1)), (zq_vi (10 + (zq_i s (232) (19)))), (zq_vi (x_7)), zz_no]) (st' := [(zq_vi (x_52))]) (fun _ _ _ => rfl) ?_
              exact zq_iret rfl rfl rfl (⟨_, rfl, hx_53, w⟩)
        · rw [if_pos hb_9] at w
          refine zq_run 1 (pc' := 56) (L' := [(.ref (232)), (zq_vi (x1)), (zq_vi (10 + (zq_i s (232) (19)))), (zq_vi (x_7)), zz_no]) (st' := [(zq_vi (x_7))]) (fun _ _ _ => rfl) ?_
          exact zq_iret rfl rfl rfl (⟨_, rfl, hx_8, w⟩)
      · rw [if_neg hb_4] at w
        refine zq_run 2 (pc' := 26) (L' := [(.ref (232)), (zq_vi (x1)), zz_no, zz_no, zz_no]) (st' := [(zq_vi (2)), (.ref (232))]) (fun _ _ _ => rfl) ?_
        refine zq_putf_i (j := 0) rfl zq_a232 rfl rfl rfl (of_decide_eq_true rfl) ?_
        refine zq_run 1 (pc' := 30) (L' := [(.ref (232)), (zq_vi (x1)), zz_no, zz_no, zz_no]) (st' := [(.ref (232))]) (fun _ _ _ => rfl) ?_
        refine zq_getf_i (j := 0) (v := 2) rfl zq_a232 rfl rfl rfl ?_
        refine zq_eq0 rfl (of_decide_eq_true rfl) (fun hb => absurd hb (by decide)) (fun _ => ?_)
        refine zq_run 1 (pc' := 37) (L' := [(.ref (232)), (zq_vi (x1)), zz_no, zz_no, zz_no]) (st' := [(zq_vi (0))]) (fun _ _ _ => rfl) ?_
        exact zq_iret rfl rfl rfl (⟨_, rfl, (of_decide_eq_true rfl), w⟩)
  · rw [if_pos hb_2] at w
    refine zq_run 2 (pc' := 26) (L' := [(.ref (232)), (zq_vi (x1)), zz_no, zz_no, zz_no]) (st' := [(zq_vi (1)), (.ref (232))]) (fun _ _ _ => rfl) ?_
    refine zq_putf_i (j := 0) rfl zq_a232 rfl rfl rfl (of_decide_eq_true rfl) ?_
    refine zq_run 1 (pc' := 30) (L' := [(.ref (232)), (zq_vi (x1)), zz_no, zz_no, zz_no]) (st' := [(.ref (232))]) (fun _ _ _ => rfl) ?_
    refine zq_getf_i (j := 0) (v := 1) rfl zq_a232 rfl rfl rfl ?_
    refine zq_eq0 rfl (of_decide_eq_true rfl) (fun hb => absurd hb (by decide)) (fun _ => ?_)
    refine zq_run 1 (pc' := 37) (L' := [(.ref (232)), (zq_vi (x1)), zz_no, zz_no, zz_no]) (st' := [(zq_vi (0))]) (fun _ _ _ => rfl) ?_
    exact zq_iret rfl rfl rfl (⟨_, rfl, (of_decide_eq_true rfl), w⟩)
set_option maxRecDepth 100000 in
/-- PaperObjectsModel.stringSize(I)I -/
theorem zw_229 {X : Nat × (Nat → Int32)} {s : zq_S} {K : Int → zq_S → Prop} {x1 : Int} (hx1 : zq_iv x1) (w : (zq_Ex X 160 0 [(.ref (232)), (zq_vi (x1)), (zq_vi (zq_i s (232) (20))), zz_no, zz_no, zz_no, zz_no] [] s (zq_rp zq_iv fun x_3 s_2 => zq_Ex X 229 22 [(.ref (232)), (zq_vi (x1)), (zq_vi (0)), (zq_vi (x_3 - 1)), (zq_vi ((zq_i s_2 (232) (20)) + 1))] [] s_2 (zq_rp zq_iv K)))) : zq_Ex X 229 0 [(.ref (232)), (zq_vi (x1)), zz_no, zz_no, zz_no] [] s (zq_rp zq_iv K) := by
  refine zq_run 5 (pc' := 5) (L' := [(.ref (232)), (zq_vi (x1)), (zq_vi (0)), zz_no, zz_no]) (st' := [(.ref (232)), (zq_vi (x1)), (.ref (232))]) (fun _ _ _ => rfl) ?_
  refine zq_have (fun hR_1 => ?_)
  refine zq_getf_i (j := 20) (v := zq_i s (232) (20)) rfl zq_a232 rfl rfl rfl ?_
  refine zq_call_i (i := .invokevirtual 148) (r := [1, 160, 2, 1, 9]) rfl rfl (fun h hp => zr_avv rfl (hp.obj zq_a232)) (of_decide_eq_false rfl) w (fun x_3 s_2 hx_4 w => ?_)
  refine zq_run 1 (pc' := 12) (L' := [(.ref (232)), (zq_vi (x1)), (zq_vi (0)), zz_no, zz_no]) (st' := [(zq_vi (1)), (zq_vi (x_3))]) (fun _ _ _ => rfl) ?_
  refine zq_isub rfl ?_
  refine zq_run 2 (pc' := 15) (L' := [(.ref (232)), (zq_vi (x1)), (zq_vi (0)), (zq_vi (x_3 - 1)), zz_no]) (st' := [(.ref (232))]) (fun _ _ _ => rfl) ?_
  refine zq_have (fun hR_5 => ?_)
  refine zq_getf_i (j := 20) (v := zq_i s_2 (232) (20)) rfl zq_a232 rfl rfl rfl ?_
  refine zq_run 1 (pc' := 19) (L' := [(.ref (232)), (zq_vi (x1)), (zq_vi (0)), (zq_vi (x_3 - 1)), zz_no]) (st' := [(zq_vi (1)), (zq_vi (zq_i s_2 (232) (20)))]) (fun _ _ _ => rfl) ?_
  refine zq_iadd rfl ?_
  refine zq_run 1 (pc' := 22) (L' := [(.ref (232)), (zq_vi (x1)), (zq_vi (0)), (zq_vi (x_3 - 1)), (zq_vi ((zq_i s_2 (232) (20)) + 1))]) (st' := []) (fun _ _ _ => rfl) ?_
  exact w
set_option maxRecDepth 100000 in
/-- PaperObjectsModel.stringSize at 22 -/
theorem zw_229_22 {X : Nat × (Nat → Int32)} {s : zq_S} {K : Int → zq_S → Prop} {x1 : Int} (hx1 : zq_iv x1) {x2 : Int} (hx2 : zq_iv x2) {x3 : Int} (hx3 : zq_iv x3) {x4 : Int} (hx4 : zq_iv x4) (w : (if x4 < x3 then (zq_Ex X 147 0 [(.ref (232)), (zq_vi (x1)), (zq_vi (x4))] [] s (zq_rp zq_ch fun x_3 s_2 => (if x_3 = 92 then zq_Ex X 229 22 [(.ref (232)), (zq_vi (x1)), (zq_vi (x2 + 1)), (zq_vi (x3)), (zq_vi (x4 + 2))] [] s_2 (zq_rp zq_iv K) else zq_Ex X 229 22 [(.ref (232)), (zq_vi (x1)), (zq_vi (x2 + 1)), (zq_vi (x3)), (zq_vi (x4 + 1))] [] s_2 (zq_rp zq_iv K)))) else K (x2) s)) : zq_Ex X 229 22 [(.ref (232)), (zq_vi (x1)), (zq_vi (x2)), (zq_vi (x3)), (zq_vi (x4))] [] s (zq_rp zq_iv K) := by
  refine zq_run 2 (pc' := 25) (L' := [(.ref (232)), (zq_vi (x1)), (zq_vi (x2)), (zq_vi (x3)), (zq_vi (x4))]) (st' := [(zq_vi (x3)), (zq_vi (x4))]) (fun _ _ _ => rfl) ?_
  refine zq_ge rfl hx4 hx3 (fun hb_1 => ?_) (fun hb_1 => ?_)
  · rw [if_neg hb_1] at w
    refine zq_run 1 (pc' := 57) (L' := [(.ref (232)), (zq_vi (x1)), (zq_vi (x2)), (zq_vi (x3)), (zq_vi (x4))]) (st' := [(zq_vi (x2))]) (fun _ _ _ => rfl) ?_
    exact zq_iret rfl rfl rfl (⟨_, rfl, hx2, w⟩)
  · rw [if_pos hb_1] at w
    refine zq_run 4 (pc' := 34) (L' := [(.ref (232)), (zq_vi (x1)), (zq_vi (x2)), (zq_vi (x3)), (zq_vi (x4))]) (st' := [(zq_vi (x4)), (zq_vi (x1)), (.ref (232)), (zq_vi (x4))]) (fun _ _ _ => rfl) ?_
    refine zq_call_i (i := .invokevirtual 119) (r := [1, 147, 2, 1, 9]) rfl rfl (fun h hp => zr_avv rfl (hp.obj zq_a232)) (of_decide_eq_false rfl) w (fun x_3 s_2 hx_4 w => ?_)
    refine zq_run 1 (pc' := 39) (L' := [(.ref (232)), (zq_vi (x1)), (zq_vi (x2)), (zq_vi (x3)), (zq_vi (x4))]) (st' := [(zq_vi (92)), (zq_vi (x_3)), (zq_vi (x4))]) (fun _ _ _ => rfl) ?_
    refine zq_ne rfl (zq_ch_in hx_4) (of_decide_eq_true rfl) (fun hb_5 => ?_) (fun hb_5 => ?_)
    · rw [if_neg hb_5] at w
      refine zq_run 1 (pc' := 47) (L' := [(.ref (232)), (zq_vi (x1)), (zq_vi (x2)), (zq_vi (x3)), (zq_vi (x4))]) (st' := [(zq_vi (1)), (zq_vi (x4))]) (fun _ _ _ => rfl) ?_
      refine zq_iadd rfl ?_
      refine zq_run 1 (pc' := 50) (L' := [(.ref (232)), (zq_vi (x1)), (zq_vi (x2)), (zq_vi (x3)), (zq_vi (x4 + 1))]) (st' := []) (fun _ _ _ => rfl) ?_
      refine zq_iinc (L' := [(.ref (232)), (zq_vi (x1)), (zq_vi (x2 + 1)), (zq_vi (x3)), (zq_vi (x4 + 1))]) rfl rfl rfl ?_
      refine zq_run 1 (pc' := 22) (L' := [(.ref (232)), (zq_vi (x1)), (zq_vi (x2 + 1)), (zq_vi (x3)), (zq_vi (x4 + 1))]) (st' := []) (fun _ _ _ => rfl) ?_
      exact w
    · rw [if_pos hb_5] at w
      refine zq_run 2 (pc' := 47) (L' := [(.ref (232)), (zq_vi (x1)), (zq_vi (x2)), (zq_vi (x3)), (zq_vi (x4))]) (st' := [(zq_vi (2)), (zq_vi (x4))]) (fun _ _ _ => rfl) ?_
      refine zq_iadd rfl ?_
      refine zq_run 1 (pc' := 50) (L' := [(.ref (232)), (zq_vi (x1)), (zq_vi (x2)), (zq_vi (x3)), (zq_vi (x4 + 2))]) (st' := []) (fun _ _ _ => rfl) ?_
      refine zq_iinc (L' := [(.ref (232)), (zq_vi (x1)), (zq_vi (x2 + 1)), (zq_vi (x3)), (zq_vi (x4 + 2))]) rfl rfl rfl ?_
      refine zq_run 1 (pc' := 22) (L' := [(.ref (232)), (zq_vi (x1)), (zq_vi (x2 + 1)), (zq_vi (x3)), (zq_vi (x4 + 2))]) (st' := []) (fun _ _ _ => rfl) ?_
      exact w
set_option maxRecDepth 100000 in
/-- PaperObjectsModel.printed(I)I -/
theorem zw_230 {X : Nat × (Nat → Int32)} {s : zq_S} {K : Int → zq_S → Prop} {x1 : Int} (hx1 : zq_iv x1) (w : (if zq_i s (232) (19) < 0 then K ((-1)) (zq_si s (232) (0) (0)) else (if x1 < 0 then K ((-1)) (zq_si s (232) (0) (0)) else (zq_Ex X 178 0 [(.ref (232)), (zq_vi (10 + (zq_i s (232) (19)))), (zq_vi (zq_i s (232) (20))), zz_no, zz_no, zz_no, zz_no, zz_no] [] (zq_si s (232) (0) (0)) (zq_rp zq_iv fun x_11 s_10 => (zq_iv (x_11 - (zq_i s_10 (232) (20))) ∧ (if x1 < x_11 - (zq_i s_10 (232) (20)) then (zq_Ex X 147 0 [(.ref (232)), (zq_vi (10 + (zq_i s_10 (232) (19)))), (zq_vi ((zq_i s_10 (232) (20)) + x1))] [] s_10 (zq_rp zq_ch fun x_17 s_16 => K (x_17) s_16)) else K ((-1)) s_10))))))) : zq_Ex X 230 0 [(.ref (232)), (zq_vi (x1)), zz_no] [] s (zq_rp zq_iv K) := by
  refine zq_run 2 (pc' := 2) (L' := [(.ref (232)), (zq_vi (x1)), zz_no]) (st' := [(zq_vi (0)), (.ref (232))]) (fun _ _ _ => rfl) ?_
  refine zq_putf_i (j := 0) rfl zq_a232 rfl rfl rfl (of_decide_eq_true rfl) ?_
  refine zq_run 1 (pc' := 6) (L' := [(.ref (232)), (zq_vi (x1)), zz_no]) (st' := [(.ref (232))]) (fun _ _ _ => rfl) ?_
  have e_1 : zq_i (zq_si s (232) (0) (0)) (232) (19) = zq_i s (232) (19) := by simp [zq_i_si, zq_i_sr, zq_i_sl]
  refine zq_have (fun hR_2 => ?_)
  have g_3 : zq_iv (zq_i (zq_si s (232) (0) (0)) (232) (19)) := (hR_2.1 _ _)
  rw [e_1] at g_3
  refine zq_getf_i (j := 19) (v := zq_i s (232) (19)) rfl zq_a232 rfl rfl e_1 ?_
  refine zq_lt0 rfl g_3 (fun hb_4 => ?_) (fun hb_4 => ?_)
  · rw [if_pos hb_4] at w
    refine zq_run 1 (pc' := 17) (L' := [(.ref (232)), (zq_vi (x1)), zz_no]) (st' := [(zq_vi ((-1)))]) (fun _ _ _ => rfl) ?_
    exact zq_iret rfl rfl rfl (⟨_, rfl, (of_decide_eq_true rfl), w⟩)
  · rw [if_neg hb_4] at w
    refine zq_run 1 (pc' := 13) (L' := [(.ref (232)), (zq_vi (x1)), zz_no]) (st' := [(zq_vi (x1))]) (fun _ _ _ => rfl) ?_
    refine zq_ge0 rfl hx1 (fun hb_5 => ?_) (fun hb_5 => ?_)
    · rw [if_neg hb_5] at w
      refine zq_run 3 (pc' := 22) (L' := [(.ref (232)), (zq_vi (x1)), zz_no]) (st' := [(.ref (232)), (zq_vi (10)), (.ref (232))]) (fun _ _ _ => rfl) ?_
      have e_6 : zq_i (zq_si s (232) (0) (0)) (232) (19) = zq_i s (232) (19) := by simp [zq_i_si, zq_i_sr, zq_i_sl]
      have g_7 : zq_iv (zq_i (zq_si s (232) (0) (0)) (232) (19)) := (hR_2.1 _ _)
      rw [e_6] at g_7
      refine zq_getf_i (j := 19) (v := zq_i s (232) (19)) rfl zq_a232 rfl rfl e_6 ?_
      refine zq_iadd rfl ?_
      refine zq_run 1 (pc' := 27) (L' := [(.ref (232)), (zq_vi (x1)), zz_no]) (st' := [(.ref (232)), (zq_vi (10 + (zq_i s (232) (19)))), (.ref (232))]) (fun _ _ _ => rfl) ?_
      have e_8 : zq_i (zq_si s (232) (0) (0)) (232) (20) = zq_i s (232) (20) := by simp [zq_i_si, zq_i_sr, zq_i_sl]
      have g_9 : zq_iv (zq_i (zq_si s (232) (0) (0)) (232) (20)) := (hR_2.1 _ _)
      rw [e_8] at g_9
      refine zq_getf_i (j := 20) (v := zq_i s (232) (20)) rfl zq_a232 rfl rfl e_8 ?_
      refine zq_call_i (i := .invokevirtual 221) (r := [1, 178, 2, 1, 9]) rfl rfl (fun h hp => zr_avv rfl (hp.obj zq_a232)) (of_decide_eq_false rfl) w (fun x_11 s_10 hx_12 w => ?_)
      refine zq_run 4 (pc' := 37) (L' := [(.ref (232)), (zq_vi (x1)), (zq_vi (x_11))]) (st' := [(.ref (232)), (zq_vi (x_11)), (zq_vi (x1))]) (fun _ _ _ => rfl) ?_
      refine zq_have (fun hR_13 => ?_)
      refine zq_getf_i (j := 20) (v := zq_i s_10 (232) (20)) rfl zq_a232 rfl rfl rfl ?_
      refine zq_isub rfl ?_
      obtain ⟨g_14, w⟩ := w
      refine zq_ge rfl hx1 g_14 (fun hb_15 => ?_) (fun hb_15 => ?_)
      · rw [if_neg hb_15] at w
        refine zq_run 1 (pc' := 65) (L' := [(.ref (232)), (zq_vi (x1)), (zq_vi (x_11))]) (st' := [(zq_vi ((-1)))]) (fun _ _ _ => rfl) ?_
        exact zq_iret rfl rfl rfl (⟨_, rfl, (of_decide_eq_true rfl), w⟩)
      · rw [if_pos hb_15] at w
        refine zq_run 3 (pc' := 48) (L' := [(.ref (232)), (zq_vi (x1)), (zq_vi (x_11))]) (st' := [(.ref (232)), (zq_vi (10)), (.ref (232))]) (fun _ _ _ => rfl) ?_
        refine zq_getf_i (j := 19) (v := zq_i s_10 (232) (19)) rfl zq_a232 rfl rfl rfl ?_
        refine zq_iadd rfl ?_
        refine zq_run 1 (pc' := 53) (L' := [(.ref (232)), (zq_vi (x1)), (zq_vi (x_11))]) (st' := [(.ref (232)), (zq_vi (10 + (zq_i s_10 (232) (19)))), (.ref (232))]) (fun _ _ _ => rfl) ?_
        refine zq_getf_i (j := 20) (v := zq_i s_10 (232) (20)) rfl zq_a232 rfl rfl rfl ?_
        refine zq_run 1 (pc' := 57) (L' := [(.ref (232)), (zq_vi (x1)), (zq_vi (x_11))]) (st' := [(zq_vi (x1)), (zq_vi (zq_i s_10 (232) (20))), (zq_vi (10 + (zq_i s_10 (232) (19)))), (.ref (232))]) (fun _ _ _ => rfl) ?_
        refine zq_iadd rfl ?_
        refine zq_call_i (i := .invokevirtual 119) (r := [1, 147, 2, 1, 9]) rfl rfl (fun h hp => zr_avv rfl (hp.obj zq_a232)) (of_decide_eq_false rfl) w (fun x_17 s_16 hx_18 w => ?_)
        refine zq_run 1 (pc' := 65) (L' := [(.ref (232)), (zq_vi (x1)), (zq_vi (x_11))]) (st' := [(zq_vi (x_17))]) (fun _ _ _ => rfl) ?_
        exact zq_iret rfl rfl rfl (⟨_, rfl, (zq_ch_in hx_18), w⟩)
    · rw [if_pos hb_5] at w
      refine zq_run 1 (pc' := 17) (L' := [(.ref (232)), (zq_vi (x1)), zz_no]) (st' := [(zq_vi ((-1)))]) (fun _ _ _ => rfl) ?_
      exact zq_iret rfl rfl rfl (⟨_, rfl, (of_decide_eq_true rfl), w⟩)
set_option maxRecDepth 100000 in
/-- PaperObjectsModel.reached()I -/
theorem zw_231 {X : Nat × (Nat → Int32)} {s : zq_S} {K : Int → zq_S → Prop}  (w : (if zq_i s (232) (17) = 0 then K (0) (zq_si s (232) (0) (0)) else (zq_Ex X 186 0 [(.ref (232)), zz_no, zz_no, zz_no] [] (zq_si s (232) (0) (0)) (zq_rp zq_iv fun x_6 s_5 => K (x_6) s_5)))) : zq_Ex X 231 0 [(.ref (232))] [] s (zq_rp zq_iv K) := by
  refine zq_run 2 (pc' := 2) (L' := [(.ref (232))]) (st' := [(zq_vi (0)), (.ref (232))]) (fun _ _ _ => rfl) ?_
  refine zq_putf_i (j := 0) rfl zq_a232 rfl rfl rfl (of_decide_eq_true rfl) ?_
  refine zq_run 1 (pc' := 6) (L' := [(.ref (232))]) (st' := [(.ref (232))]) (fun _ _ _ => rfl) ?_
  have e_1 : zq_i (zq_si s (232) (0) (0)) (232) (17) = zq_i s (232) (17) := by simp [zq_i_si, zq_i_sr, zq_i_sl]
  refine zq_have (fun hR_2 => ?_)
  have g_3 : zq_iv (zq_i (zq_si s (232) (0) (0)) (232) (17)) := (hR_2.1 _ _)
  rw [e_1] at g_3
  refine zq_getf_i (j := 17) (v := zq_i s (232) (17)) rfl zq_a232 rfl rfl e_1 ?_
  refine zq_ne0 rfl g_3 (fun hb_4 => ?_) (fun hb_4 => ?_)
  · rw [if_neg hb_4] at w
    refine zq_run 1 (pc' := 17) (L' := [(.ref (232))]) (st' := [(.ref (232))]) (fun _ _ _ => rfl) ?_
    refine zq_call_i (i := .invokevirtual 318) (r := [1, 186, 0, 1, 9]) rfl rfl (fun h hp => zr_avv rfl (hp.obj zq_a232)) (of_decide_eq_false rfl) w (fun x_6 s_5 hx_7 w => ?_)
    exact zq_iret rfl rfl rfl (⟨_, rfl, hx_7, w⟩)
  · rw [if_pos hb_4] at w
    refine zq_run 2 (pc' := 20) (L' := [(.ref (232))]) (st' := [(zq_vi (0))]) (fun _ _ _ => rfl) ?_
    exact zq_iret rfl rfl rfl (⟨_, rfl, (of_decide_eq_true rfl), w⟩)
