/-! weakest preconditions of methods 141-171: printed by program (genW.py) -/
/-- PaperObjectsModel.thrown()I -/
theorem zw_141 {X : Nat × (Nat → Int32)} {s : zq_S} {K : Int → zq_S → Prop}  (w : K (zq_i s (232) (0)) s) : zq_Ex X 141 0 [(.ref (232))] [] s (zq_rp zq_iv K) := by
  refine zq_run 1 (pc' := 1) (L' := [(.ref (232))]) (st' := [(.ref (232))]) (fun _ _ _ => rfl) ?_
  refine zq_have (fun hR_1 => ?_)
  refine zq_getf_i (j := 0) (v := zq_i s (232) (0)) rfl zq_a232 rfl rfl rfl ?_
  exact zq_iret rfl rfl rfl (⟨_, rfl, (hR_1.1 _ _), w⟩)
/-- PaperObjectsModel.type(J)I -/
theorem zw_142 {X : Nat × (Nat → Int32)} {s : zq_S} {K : Int → zq_S → Prop} {y1 : Int64} (w : zq_Ex X 142 10 [(.ref (232)), (.long (y1)), zz_no, (zq_vi (0)), (zq_vi (0)), zz_no] [] (zq_si s (232) (0) (0)) (zq_rp zq_iv K)) : zq_Ex X 142 0 [(.ref (232)), (.long (y1)), zz_no, zz_no, zz_no, zz_no] [] s (zq_rp zq_iv K) := by
  refine zq_run 4 (pc' := 4) (L' := [(.ref (232)), (.long (y1)), zz_no, (zq_vi (0)), zz_no, zz_no]) (st' := [(zq_vi (0)), (.ref (232))]) (fun _ _ _ => rfl) ?_
  refine zq_putf_i (j := 0) rfl zq_a232 rfl rfl rfl (of_decide_eq_true rfl) ?_
  refine zq_run 2 (pc' := 10) (L' := [(.ref (232)), (.long (y1)), zz_no, (zq_vi (0)), (zq_vi (0)), zz_no]) (st' := []) (fun _ _ _ => rfl) ?_
  exact w
/-- PaperObjectsModel.type at 10 -/
theorem zw_142_10 {X : Nat × (Nat → Int32)} {s : zq_S} {K : Int → zq_S → Prop} {y1 : Int64} {x3 : Int} (hx3 : zq_iv x3) {x4 : Int} (hx4 : zq_iv x4) {v5 : Value} (hv5 : v5.category = 1) (w : (if x4 < 8 then (if x3 = x4 then (if ((((y1).toUInt64 >>> ((Int32.ofInt (8 * x4)).toInt64.toUInt64 &&& Int64.toUInt64 63)).toInt64) &&& (255)).toInt32.toInt = 0 then (if ((((y1).toUInt64 >>> ((Int32.ofInt (8 * x4)).toInt64.toUInt64 &&& Int64.toUInt64 63)).toInt64) &&& (255)).toInt32.toInt = 0 then zq_Ex X 142 10 [(.ref (232)), (.long (y1)), zz_no, (zq_vi (x3)), (zq_vi (x4 + 1)), (zq_vi (((((y1).toUInt64 >>> ((Int32.ofInt (8 * x4)).toInt64.toUInt64 &&& Int64.toUInt64 63)).toInt64) &&& (255)).toInt32.toInt))] [] (zq_si s (232) (0) (zq_i s (232) (0))) (zq_rp zq_iv K) else zq_Ex X 142 10 [(.ref (232)), (.long (y1)), zz_no, (zq_vi (x3 + 1)), (zq_vi (x4 + 1)), (zq_vi (((((y1).toUInt64 >>> ((Int32.ofInt (8 * x4)).toInt64.toUInt64 &&& Int64.toUInt64 63)).toInt64) &&& (255)).toInt32.toInt))] [] (zq_si s (232) (0) (zq_i s (232) (0))) (zq_rp zq_iv K)) else (zq_Ex X 143 0 [(zq_vi (((((y1).toUInt64 >>> ((Int32.ofInt (8 * x4)).toInt64.toUInt64 &&& Int64.toUInt64 63)).toInt64) &&& (255)).toInt32.toInt))] [] s (zq_rp zq_bo fun x_7 s_6 => (if x_7 = 0 then (if ((((y1).toUInt64 >>> ((Int32.ofInt (8 * x4)).toInt64.toUInt64 &&& Int64.toUInt64 63)).toInt64) &&& (255)).toInt32.toInt = 0 then zq_Ex X 142 10 [(.ref (232)), (.long (y1)), zz_no, (zq_vi (x3)), (zq_vi (x4 + 1)), (zq_vi (((((y1).toUInt64 >>> ((Int32.ofInt (8 * x4)).toInt64.toUInt64 &&& Int64.toUInt64 63)).toInt64) &&& (255)).toInt32.toInt))] [] (zq_si s_6 (232) (0) (1)) (zq_rp zq_iv K) else zq_Ex X 142 10 [(.ref (232)), (.long (y1)), zz_no, (zq_vi (x3 + 1)), (zq_vi (x4 + 1)), (zq_vi (((((y1).toUInt64 >>> ((Int32.ofInt (8 * x4)).toInt64.toUInt64 &&& Int64.toUInt64 63)).toInt64) &&& (255)).toInt32.toInt))] [] (zq_si s_6 (232) (0) (1)) (zq_rp zq_iv K)) else (if ((((y1).toUInt64 >>> ((Int32.ofInt (8 * x4)).toInt64.toUInt64 &&& Int64.toUInt64 63)).toInt64) &&& (255)).toInt32.toInt = 0 then zq_Ex X 142 10 [(.ref (232)), (.long (y1)), zz_no, (zq_vi (x3)), (zq_vi (x4 + 1)), (zq_vi (((((y1).toUInt64 >>> ((Int32.ofInt (8 * x4)).toInt64.toUInt64 &&& Int64.toUInt64 63)).toInt64) &&& (255)).toInt32.toInt))] [] (zq_si s_6 (232) (0) (zq_i s_6 (232) (0))) (zq_rp zq_iv K) else zq_Ex X 142 10 [(.ref (232)), (.long (y1)), zz_no, (zq_vi (x3 + 1)), (zq_vi (x4 + 1)), (zq_vi (((((y1).toUInt64 >>> ((Int32.ofInt (8 * x4)).toInt64.toUInt64 &&& Int64.toUInt64 63)).toInt64) &&& (255)).toInt32.toInt))] [] (zq_si s_6 (232) (0) (zq_i s_6 (232) (0))) (zq_rp zq_iv K)))))) else zq_Ex X 142 81 [(.ref (232)), (.long (y1)), zz_no, (zq_vi (x3)), (zq_vi (x4)), v5] [] s (zq_rp zq_iv K)) else zq_Ex X 142 81 [(.ref (232)), (.long (y1)), zz_no, (zq_vi (x3)), (zq_vi (x4)), v5] [] s (zq_rp zq_iv K))) : zq_Ex X 142 10 [(.ref (232)), (.long (y1)), zz_no, (zq_vi (x3)), (zq_vi (x4)), v5] [] s (zq_rp zq_iv K) := by
  refine zq_run 2 (pc' := 14) (L' := [(.ref (232)), (.long (y1)), zz_no, (zq_vi (x3)), (zq_vi (x4)), v5]) (st' := [(zq_vi (8)), (zq_vi (x4))]) (fun _ _ _ => rfl) ?_
  refine zq_ge rfl hx4 (of_decide_eq_true rfl) (fun hb_1 => ?_) (fun hb_1 => ?_)
  · rw [if_neg hb_1] at w
    exact w
  · rw [if_pos hb_1] at w
    refine zq_run 2 (pc' := 20) (L' := [(.ref (232)), (.long (y1)), zz_no, (zq_vi (x3)), (zq_vi (x4)), v5]) (st' := [(zq_vi (x4)), (zq_vi (x3))]) (fun _ _ _ => rfl) ?_
    refine zq_ne rfl hx3 hx4 (fun hb_2 => ?_) (fun hb_2 => ?_)
    · rw [if_neg hb_2] at w
      exact w
    · rw [if_pos hb_2] at w
      refine zq_run 3 (pc' := 28) (L' := [(.ref (232)), (.long (y1)), zz_no, (zq_vi (x3)), (zq_vi (x4)), v5]) (st' := [(zq_vi (x4)), (zq_vi (8)), (.long (y1))]) (fun _ _ _ => rfl) ?_
      refine zq_imul rfl ?_
      refine zq_run 3 (pc' := 34) (L' := [(.ref (232)), (.long (y1)), zz_no, (zq_vi (x3)), (zq_vi (x4)), v5]) (st' := [(.long ((((y1).toUInt64 >>> ((Int32.ofInt (8 * x4)).toInt64.toUInt64 &&& Int64.toUInt64 63)).toInt64) &&& (255)))]) (fun _ _ _ => rfl) ?_
      refine zq_l2i rfl ?_
      refine zq_run 3 (pc' := 40) (L' := [(.ref (232)), (.long (y1)), zz_no, (zq_vi (x3)), (zq_vi (x4)), (zq_vi (((((y1).toUInt64 >>> ((Int32.ofInt (8 * x4)).toInt64.toUInt64 &&& Int64.toUInt64 63)).toInt64) &&& (255)).toInt32.toInt))]) (st' := [(zq_vi (((((y1).toUInt64 >>> ((Int32.ofInt (8 * x4)).toInt64.toUInt64 &&& Int64.toUInt64 63)).toInt64) &&& (255)).toInt32.toInt)), (.ref (232))]) (fun _ _ _ => rfl) ?_
      refine zq_eq0 rfl (zq_in32 _) (fun hb_3 => ?_) (fun hb_3 => ?_)
      · rw [if_pos hb_3] at w
        refine zq_run 1 (pc' := 56) (L' := [(.ref (232)), (.long (y1)), zz_no, (zq_vi (x3)), (zq_vi (x4)), (zq_vi (((((y1).toUInt64 >>> ((Int32.ofInt (8 * x4)).toInt64.toUInt64 &&& Int64.toUInt64 63)).toInt64) &&& (255)).toInt32.toInt))]) (st' := [(.ref (232)), (.ref (232))]) (fun _ _ _ => rfl) ?_
        refine zq_have (fun hR_4 => ?_)
        refine zq_getf_i (j := 0) (v := zq_i s (232) (0)) rfl zq_a232 rfl rfl rfl ?_
        refine zq_putf_i (j := 0) rfl zq_a232 rfl rfl rfl (hR_4.1 _ _) ?_
        refine zq_run 1 (pc' := 64) (L' := [(.ref (232)), (.long (y1)), zz_no, (zq_vi (x3)), (zq_vi (x4)), (zq_vi (((((y1).toUInt64 >>> ((Int32.ofInt (8 * x4)).toInt64.toUInt64 &&& Int64.toUInt64 63)).toInt64) &&& (255)).toInt32.toInt))]) (st' := [(zq_vi (((((y1).toUInt64 >>> ((Int32.ofInt (8 * x4)).toInt64.toUInt64 &&& Int64.toUInt64 63)).toInt64) &&& (255)).toInt32.toInt))]) (fun _ _ _ => rfl) ?_
        refine zq_ne0 rfl (zq_in32 _) (fun hb_5 => ?_) (fun hb_5 => ?_)
        · rw [if_neg hb_5] at w
          refine zq_run 2 (pc' := 73) (L' := [(.ref (232)), (.long (y1)), zz_no, (zq_vi (x3)), (zq_vi (x4)), (zq_vi (((((y1).toUInt64 >>> ((Int32.ofInt (8 * x4)).toInt64.toUInt64 &&& Int64.toUInt64 63)).toInt64) &&& (255)).toInt32.toInt))]) (st' := [(zq_vi (1)), (zq_vi (x3))]) (fun _ _ _ => rfl) ?_
          refine zq_iadd rfl ?_
          refine zq_run 1 (pc' := 75) (L' := [(.ref (232)), (.long (y1)), zz_no, (zq_vi (x3 + 1)), (zq_vi (x4)), (zq_vi (((((y1).toUInt64 >>> ((Int32.ofInt (8 * x4)).toInt64.toUInt64 &&& Int64.toUInt64 63)).toInt64) &&& (255)).toInt32.toInt))]) (st' := []) (fun _ _ _ => rfl) ?_
          refine zq_iinc (L' := [(.ref (232)), (.long (y1)), zz_no, (zq_vi (x3 + 1)), (zq_vi (x4 + 1)), (zq_vi (((((y1).toUInt64 >>> ((Int32.ofInt (8 * x4)).toInt64.toUInt64 &&& Int64.toUInt64 63)).toInt64) &&& (255)).toInt32.toInt))]) rfl rfl rfl ?_
          refine zq_run 1 (pc' := 10) (L' := [(.ref (232)), (.long (y1)), zz_no, (zq_vi (x3 + 1)), (zq_vi (x4 + 1)), (zq_vi (((((y1).toUInt64 >>> ((Int32.ofInt (8 * x4)).toInt64.toUInt64 &&& Int64.toUInt64 63)).toInt64) &&& (255)).toInt32.toInt))]) (st' := []) (fun _ _ _ => rfl) ?_
          exact w
        · rw [if_pos hb_5] at w
          refine zq_run 3 (pc' := 75) (L' := [(.ref (232)), (.long (y1)), zz_no, (zq_vi (x3)), (zq_vi (x4)), (zq_vi (((((y1).toUInt64 >>> ((Int32.ofInt (8 * x4)).toInt64.toUInt64 &&& Int64.toUInt64 63)).toInt64) &&& (255)).toInt32.toInt))]) (st' := []) (fun _ _ _ => rfl) ?_
          refine zq_iinc (L' := [(.ref (232)), (.long (y1)), zz_no, (zq_vi (x3)), (zq_vi (x4 + 1)), (zq_vi (((((y1).toUInt64 >>> ((Int32.ofInt (8 * x4)).toInt64.toUInt64 &&& Int64.toUInt64 63)).toInt64) &&& (255)).toInt32.toInt))]) rfl rfl rfl ?_
          refine zq_run 1 (pc' := 10) (L' := [(.ref (232)), (.long (y1)), zz_no, (zq_vi (x3)), (zq_vi (x4 + 1)), (zq_vi (((((y1).toUInt64 >>> ((Int32.ofInt (8 * x4)).toInt64.toUInt64 &&& Int64.toUInt64 63)).toInt64) &&& (255)).toInt32.toInt))]) (st' := []) (fun _ _ _ => rfl) ?_
          exact w
      · rw [if_neg hb_3] at w
        refine zq_run 1 (pc' := 45) (L' := [(.ref (232)), (.long (y1)), zz_no, (zq_vi (x3)), (zq_vi (x4)), (zq_vi (((((y1).toUInt64 >>> ((Int32.ofInt (8 * x4)).toInt64.toUInt64 &&& Int64.toUInt64 63)).toInt64) &&& (255)).toInt32.toInt))]) (st' := [(zq_vi (((((y1).toUInt64 >>> ((Int32.ofInt (8 * x4)).toInt64.toUInt64 &&& Int64.toUInt64 63)).toInt64) &&& (255)).toInt32.toInt)), (.ref (232))]) (fun _ _ _ => rfl) ?_
        refine zq_call_i (i := .invokestatic 263) (r := [1, 143, 1, 0, 9]) rfl rfl (fun _ _ => rfl) (of_decide_eq_false rfl) w (fun x_7 s_6 hx_8 w => ?_)
        refine zq_ne0 rfl (zq_bo_in hx_8) (fun hb_9 => ?_) (fun hb_9 => ?_)
        · rw [if_neg hb_9] at w
          refine zq_run 1 (pc' := 56) (L' := [(.ref (232)), (.long (y1)), zz_no, (zq_vi (x3)), (zq_vi (x4)), (zq_vi (((((y1).toUInt64 >>> ((Int32.ofInt (8 * x4)).toInt64.toUInt64 &&& Int64.toUInt64 63)).toInt64) &&& (255)).toInt32.toInt))]) (st' := [(.ref (232)), (.ref (232))]) (fun _ _ _ => rfl) ?_
          refine zq_have (fun hR_10 => ?_)
          refine zq_getf_i (j := 0) (v := zq_i s_6 (232) (0)) rfl zq_a232 rfl rfl rfl ?_
          refine zq_putf_i (j := 0) rfl zq_a232 rfl rfl rfl (hR_10.1 _ _) ?_
          refine zq_run 1 (pc' := 64) (L' := [(.ref (232)), (.long (y1)), zz_no, (zq_vi (x3)), (zq_vi (x4)), (zq_vi (((((y1).toUInt64 >>> ((Int32.ofInt (8 * x4)).toInt64.toUInt64 &&& Int64.toUInt64 63)).toInt64) &&& (255)).toInt32.toInt))]) (st' := [(zq_vi (((((y1).toUInt64 >>> ((Int32.ofInt (8 * x4)).toInt64.toUInt64 &&& Int64.toUInt64 63)).toInt64) &&& (255)).toInt32.toInt))]) (fun _ _ _ => rfl) ?_
          refine zq_ne0 rfl (zq_in32 _) (fun hb_11 => ?_) (fun hb_11 => ?_)
          · rw [if_neg hb_11] at w
            refine zq_run 2 (pc' := 73) (L' := [(.ref (232)), (.long (y1)), zz_no, (zq_vi (x3)), (zq_vi (x4)), (zq_vi (((((y1).toUInt64 >>> ((Int32.ofInt (8 * x4)).toInt64.toUInt64 &&& Int64.toUInt64 63)).toInt64) &&& (255)).toInt32.toInt))]) (st' := [(zq_vi (1)), (zq_vi (x3))]) (fun _ _ _ => rfl) ?_
            refine zq_iadd rfl ?_
            refine zq_run 1 (pc' := 75) (L' := [(.ref (232)), (.long (y1)), zz_no, (zq_vi (x3 + 1)), (zq_vi (x4)), (zq_vi (((((y1).toUInt64 >>> ((Int32.ofInt (8 * x4)).toInt64.toUInt64 &&& Int64.toUInt64 63)).toInt64) &&& (255)).toInt32.toInt))]) (st' := []) (fun _ _ _ => rfl) ?_
            refine zq_iinc (L' := [(.ref (232)), (.long (y1)), zz_no, (zq_vi (x3 + 1)), (zq_vi (x4 + 1)), (zq_vi (((((y1).toUInt64 >>> ((Int32.ofInt (8 * x4)).toInt64.toUInt64 &&& Int64.toUInt64 63)).toInt64) &&& (255)).toInt32.toInt))]) rfl rfl rfl ?_
            refine zq_run 1 (pc' := 10) (L' := [(.ref (232)), (.long (y1)), zz_no, (zq_vi (x3 + 1)), (zq_vi (x4 + 1)), (zq_vi (((((y1).toUInt64 >>> ((Int32.ofInt (8 * x4)).toInt64.toUInt64 &&& Int64.toUInt64 63)).toInt64) &&& (255)).toInt32.toInt))]) (st' := []) (fun _ _ _ => rfl) ?_
            exact w
          · rw [if_pos hb_11] at w
            refine zq_run 3 (pc' := 75) (L' := [(.ref (232)), (.long (y1)), zz_no, (zq_vi (x3)), (zq_vi (x4)), (zq_vi (((((y1).toUInt64 >>> ((Int32.ofInt (8 * x4)).toInt64.toUInt64 &&& Int64.toUInt64 63)).toInt64) &&& (255)).toInt32.toInt))]) (st' := []) (fun _ _ _ => rfl) ?_
            refine zq_iinc (L' := [(.ref (232)), (.long (y1)), zz_no, (zq_vi (x3)), (zq_vi (x4 + 1)), (zq_vi (((((y1).toUInt64 >>> ((Int32.ofInt (8 * x4)).toInt64.toUInt64 &&& Int64.toUInt64 63)).toInt64) &&& (255)).toInt32.toInt))]) rfl rfl rfl ?_
            refine zq_run 1 (pc' := 10) (L' := [(.ref (232)), (.long (y1)), zz_no, (zq_vi (x3)), (zq_vi (x4 + 1)), (zq_vi (((((y1).toUInt64 >>> ((Int32.ofInt (8 * x4)).toInt64.toUInt64 &&& Int64.toUInt64 63)).toInt64) &&& (255)).toInt32.toInt))]) (st' := []) (fun _ _ _ => rfl) ?_
            exact w
        · rw [if_pos hb_9] at w
          refine zq_run 2 (pc' := 59) (L' := [(.ref (232)), (.long (y1)), zz_no, (zq_vi (x3)), (zq_vi (x4)), (zq_vi (((((y1).toUInt64 >>> ((Int32.ofInt (8 * x4)).toInt64.toUInt64 &&& Int64.toUInt64 63)).toInt64) &&& (255)).toInt32.toInt))]) (st' := [(zq_vi (1)), (.ref (232))]) (fun _ _ _ => rfl) ?_
          refine zq_putf_i (j := 0) rfl zq_a232 rfl rfl rfl (of_decide_eq_true rfl) ?_
          refine zq_run 1 (pc' := 64) (L' := [(.ref (232)), (.long (y1)), zz_no, (zq_vi (x3)), (zq_vi (x4)), (zq_vi (((((y1).toUInt64 >>> ((Int32.ofInt (8 * x4)).toInt64.toUInt64 &&& Int64.toUInt64 63)).toInt64) &&& (255)).toInt32.toInt))]) (st' := [(zq_vi (((((y1).toUInt64 >>> ((Int32.ofInt (8 * x4)).toInt64.toUInt64 &&& Int64.toUInt64 63)).toInt64) &&& (255)).toInt32.toInt))]) (fun _ _ _ => rfl) ?_
          refine zq_ne0 rfl (zq_in32 _) (fun hb_12 => ?_) (fun hb_12 => ?_)
          · rw [if_neg hb_12] at w
            refine zq_run 2 (pc' := 73) (L' := [(.ref (232)), (.long (y1)), zz_no, (zq_vi (x3)), (zq_vi (x4)), (zq_vi (((((y1).toUInt64 >>> ((Int32.ofInt (8 * x4)).toInt64.toUInt64 &&& Int64.toUInt64 63)).toInt64) &&& (255)).toInt32.toInt))]) (st' := [(zq_vi (1)), (zq_vi (x3))]) (fun _ _ _ => rfl) ?_
            refine zq_iadd rfl ?_
            refine zq_run 1 (pc' := 75) (L' := [(.ref (232)), (.long (y1)), zz_no, (zq_vi (x3 + 1)), (zq_vi (x4)), (zq_vi (((((y1).toUInt64 >>> ((Int32.ofInt (8 * x4)).toInt64.toUInt64 &&& Int64.toUInt64 63)).toInt64) &&& (255)).toInt32.toInt))]) (st' := []) (fun _ _ _ => rfl) ?_
            refine zq_iinc (L' := [(.ref (232)), (.long (y1)), zz_no, (zq_vi (x3 + 1)), (zq_vi (x4 + 1)), (zq_vi (((((y1).toUInt64 >>> ((Int32.ofInt (8 * x4)).toInt64.toUInt64 &&& Int64.toUInt64 63)).toInt64) &&& (255)).toInt32.toInt))]) rfl rfl rfl ?_
            refine zq_run 1 (pc' := 10) (L' := [(.ref (232)), (.long (y1)), zz_no, (zq_vi (x3 + 1)), (zq_vi (x4 + 1)), (zq_vi (((((y1).toUInt64 >>> ((Int32.ofInt (8 * x4)).toInt64.toUInt64 &&& Int64.toUInt64 63)).toInt64) &&& (255)).toInt32.toInt))]) (st' := []) (fun _ _ _ => rfl) ?_
            exact w
          · rw [if_pos hb_12] at w
            refine zq_run 3 (pc' := 75) (L' := [(.ref (232)), (.long (y1)), zz_no, (zq_vi (x3)), (zq_vi (x4)), (zq_vi (((((y1).toUInt64 >>> ((Int32.ofInt (8 * x4)).toInt64.toUInt64 &&& Int64.toUInt64 63)).toInt64) &&& (255)).toInt32.toInt))]) (st' := []) (fun _ _ _ => rfl) ?_
            refine zq_iinc (L' := [(.ref (232)), (.long (y1)), zz_no, (zq_vi (x3)), (zq_vi (x4 + 1)), (zq_vi (((((y1).toUInt64 >>> ((Int32.ofInt (8 * x4)).toInt64.toUInt64 &&& Int64.toUInt64 63)).toInt64) &&& (255)).toInt32.toInt))]) rfl rfl rfl ?_
            refine zq_run 1 (pc' := 10) (L' := [(.ref (232)), (.long (y1)), zz_no, (zq_vi (x3)), (zq_vi (x4 + 1)), (zq_vi (((((y1).toUInt64 >>> ((Int32.ofInt (8 * x4)).toInt64.toUInt64 &&& Int64.toUInt64 63)).toInt64) &&& (255)).toInt32.toInt))]) (st' := []) (fun _ _ _ => rfl) ?_
            exact w
/-- PaperObjectsModel.type at 81 -/
theorem zw_142_81 {X : Nat × (Nat → Int32)} {s : zq_S} {K : Int → zq_S → Prop} {y1 : Int64} {x3 : Int} (hx3 : zq_iv x3) {x4 : Int} (hx4 : zq_iv x4) {v5 : Value} (hv5 : v5.category = 1) (w : (zq_iv ((zq_i s (232) (1)) + x3) ∧ (if (zq_i s (232) (1)) + x3 ≤ 100 then (if zq_i s (232) (0) = 0 then zq_Ex X 142 116 [(.ref (232)), (.long (y1)), zz_no, (zq_vi (x3)), (zq_vi (0)), v5] [] (zq_si s (232) (0) (zq_i s (232) (0))) (zq_rp zq_iv K) else K (0) (zq_si s (232) (0) (zq_i s (232) (0)))) else K (0) (zq_si s (232) (0) (1))))) : zq_Ex X 142 81 [(.ref (232)), (.long (y1)), zz_no, (zq_vi (x3)), (zq_vi (x4)), v5] [] s (zq_rp zq_iv K) := by
  refine zq_run 2 (pc' := 83) (L' := [(.ref (232)), (.long (y1)), zz_no, (zq_vi (x3)), (zq_vi (x4)), v5]) (st' := [(.ref (232)), (.ref (232))]) (fun _ _ _ => rfl) ?_
  refine zq_have (fun hR_1 => ?_)
  refine zq_getf_i (j := 1) (v := zq_i s (232) (1)) rfl zq_a232 rfl rfl rfl ?_
  refine zq_run 1 (pc' := 87) (L' := [(.ref (232)), (.long (y1)), zz_no, (zq_vi (x3)), (zq_vi (x4)), v5]) (st' := [(zq_vi (x3)), (zq_vi (zq_i s (232) (1))), (.ref (232))]) (fun _ _ _ => rfl) ?_
  refine zq_iadd rfl ?_
  refine zq_run 1 (pc' := 90) (L' := [(.ref (232)), (.long (y1)), zz_no, (zq_vi (x3)), (zq_vi (x4)), v5]) (st' := [(zq_vi (100)), (zq_vi ((zq_i s (232) (1)) + x3)), (.ref (232))]) (fun _ _ _ => rfl) ?_
  obtain ⟨g_2, w⟩ := w
  refine zq_le rfl g_2 (of_decide_eq_true rfl) (fun hb_3 => ?_) (fun hb_3 => ?_)
  · rw [if_pos hb_3] at w
    refine zq_run 1 (pc' := 98) (L' := [(.ref (232)), (.long (y1)), zz_no, (zq_vi (x3)), (zq_vi (x4)), v5]) (st' := [(.ref (232)), (.ref (232))]) (fun _ _ _ => rfl) ?_
    refine zq_getf_i (j := 0) (v := zq_i s (232) (0)) rfl zq_a232 rfl rfl rfl ?_
    refine zq_putf_i (j := 0) rfl zq_a232 rfl rfl rfl (hR_1.1 _ _) ?_
    refine zq_run 1 (pc' := 105) (L' := [(.ref (232)), (.long (y1)), zz_no, (zq_vi (x3)), (zq_vi (x4)), v5]) (st' := [(.ref (232))]) (fun _ _ _ => rfl) ?_
    refine zq_getf_i (j := 0) (v := zq_i s (232) (0)) rfl zq_a232 rfl rfl rfl ?_
    refine zq_eq0 rfl (hR_1.1 _ _) (fun hb_4 => ?_) (fun hb_4 => ?_)
    · rw [if_pos hb_4] at w
      refine zq_run 2 (pc' := 116) (L' := [(.ref (232)), (.long (y1)), zz_no, (zq_vi (x3)), (zq_vi (0)), v5]) (st' := []) (fun _ _ _ => rfl) ?_
      exact w
    · rw [if_neg hb_4] at w
      refine zq_run 1 (pc' := 112) (L' := [(.ref (232)), (.long (y1)), zz_no, (zq_vi (x3)), (zq_vi (x4)), v5]) (st' := [(zq_vi (0))]) (fun _ _ _ => rfl) ?_
      exact zq_iret rfl rfl rfl (⟨_, rfl, (of_decide_eq_true rfl), w⟩)
  · rw [if_neg hb_3] at w
    refine zq_run 2 (pc' := 101) (L' := [(.ref (232)), (.long (y1)), zz_no, (zq_vi (x3)), (zq_vi (x4)), v5]) (st' := [(zq_vi (1)), (.ref (232))]) (fun _ _ _ => rfl) ?_
    refine zq_putf_i (j := 0) rfl zq_a232 rfl rfl rfl (of_decide_eq_true rfl) ?_
    refine zq_run 1 (pc' := 105) (L' := [(.ref (232)), (.long (y1)), zz_no, (zq_vi (x3)), (zq_vi (x4)), v5]) (st' := [(.ref (232))]) (fun _ _ _ => rfl) ?_
    refine zq_getf_i (j := 0) (v := 1) rfl zq_a232 rfl rfl rfl ?_
    refine zq_eq0 rfl (of_decide_eq_true rfl) (fun hb => absurd hb (by decide)) (fun _ => ?_)
    refine zq_run 1 (pc' := 112) (L' := [(.ref (232)), (.long (y1)), zz_no, (zq_vi (x3)), (zq_vi (x4)), v5]) (st' := [(zq_vi (0))]) (fun _ _ _ => rfl) ?_
    exact zq_iret rfl rfl rfl (⟨_, rfl, (of_decide_eq_true rfl), w⟩)
/-- PaperObjectsModel.type at 116 -/
theorem zw_142_116 {X : Nat × (Nat → Int32)} {s : zq_S} {K : Int → zq_S → Prop} {y1 : Int64} {x3 : Int} (hx3 : zq_iv x3) {x4 : Int} (hx4 : zq_iv x4) {v5 : Value} (hv5 : v5.category = 1) (w : (if x4 < x3 then (((0 : Int) ≤ zq_i s (232) (1) ∧ zq_i s (232) (1) < (100 : Int)) ∧ (zq_iv ((zq_i s (232) (1)) + 1) ∧ zq_Ex X 142 116 [(.ref (232)), (.long (y1)), zz_no, (zq_vi (x3)), (zq_vi (x4 + 1)), v5] [] (zq_si (zq_si s (233) (zq_i s (232) (1)) ((((((y1).toUInt64 >>> ((Int32.ofInt (8 * x4)).toInt64.toUInt64 &&& Int64.toUInt64 63)).toInt64) &&& (255)).toInt32.toInt) % 65536)) (232) (1) ((zq_i s (232) (1)) + 1)) (zq_rp zq_iv K))) else K (zq_i s (232) (1)) s)) : zq_Ex X 142 116 [(.ref (232)), (.long (y1)), zz_no, (zq_vi (x3)), (zq_vi (x4)), v5] [] s (zq_rp zq_iv K) := by
  refine zq_run 2 (pc' := 119) (L' := [(.ref (232)), (.long (y1)), zz_no, (zq_vi (x3)), (zq_vi (x4)), v5]) (st' := [(zq_vi (x3)), (zq_vi (x4))]) (fun _ _ _ => rfl) ?_
  refine zq_ge rfl hx4 hx3 (fun hb_1 => ?_) (fun hb_1 => ?_)
  · rw [if_neg hb_1] at w
    refine zq_run 1 (pc' := 161) (L' := [(.ref (232)), (.long (y1)), zz_no, (zq_vi (x3)), (zq_vi (x4)), v5]) (st' := [(.ref (232))]) (fun _ _ _ => rfl) ?_
    refine zq_have (fun hR_2 => ?_)
    refine zq_getf_i (j := 1) (v := zq_i s (232) (1)) rfl zq_a232 rfl rfl rfl ?_
    exact zq_iret rfl rfl rfl (⟨_, rfl, (hR_2.1 _ _), w⟩)
  · rw [if_pos hb_1] at w
    refine zq_run 1 (pc' := 123) (L' := [(.ref (232)), (.long (y1)), zz_no, (zq_vi (x3)), (zq_vi (x4)), v5]) (st' := [(.ref (232))]) (fun _ _ _ => rfl) ?_
    refine zq_getf_f (b := 233) rfl zq_a232 rfl rfl ?_
    refine zq_run 1 (pc' := 127) (L' := [(.ref (232)), (.long (y1)), zz_no, (zq_vi (x3)), (zq_vi (x4)), v5]) (st' := [(.ref (232)), (.ref (233))]) (fun _ _ _ => rfl) ?_
    refine zq_have (fun hR_3 => ?_)
    refine zq_getf_i (j := 1) (v := zq_i s (232) (1)) rfl zq_a232 rfl rfl rfl ?_
    refine zq_run 3 (pc' := 135) (L' := [(.ref (232)), (.long (y1)), zz_no, (zq_vi (x3)), (zq_vi (x4)), v5]) (st' := [(zq_vi (x4)), (zq_vi (8)), (.long (y1)), (zq_vi (zq_i s (232) (1))), (.ref (233))]) (fun _ _ _ => rfl) ?_
    refine zq_imul rfl ?_
    refine zq_run 3 (pc' := 141) (L' := [(.ref (232)), (.long (y1)), zz_no, (zq_vi (x3)), (zq_vi (x4)), v5]) (st' := [(.long ((((y1).toUInt64 >>> ((Int32.ofInt (8 * x4)).toInt64.toUInt64 &&& Int64.toUInt64 63)).toInt64) &&& (255))), (zq_vi (zq_i s (232) (1))), (.ref (233))]) (fun _ _ _ => rfl) ?_
    refine zq_l2i rfl ?_
    refine zq_i2c rfl ?_
    obtain ⟨g_4, w⟩ := w
    refine zq_ast_c rfl zq_a233 g_4.1 g_4.2 (zq_chm _) ?_
    refine zq_run 2 (pc' := 146) (L' := [(.ref (232)), (.long (y1)), zz_no, (zq_vi (x3)), (zq_vi (x4)), v5]) (st' := [(.ref (232)), (.ref (232))]) (fun _ _ _ => rfl) ?_
    have e_5 : zq_i (zq_si s (233) (zq_i s (232) (1)) ((((((y1).toUInt64 >>> ((Int32.ofInt (8 * x4)).toInt64.toUInt64 &&& Int64.toUInt64 63)).toInt64) &&& (255)).toInt32.toInt) % 65536)) (232) (1) = zq_i s (232) (1) := by simp [zq_i_si, zq_i_sr, zq_i_sl]
    refine zq_getf_i (j := 1) (v := zq_i s (232) (1)) rfl zq_a232 rfl rfl e_5 ?_
    refine zq_run 1 (pc' := 150) (L' := [(.ref (232)), (.long (y1)), zz_no, (zq_vi (x3)), (zq_vi (x4)), v5]) (st' := [(zq_vi (1)), (zq_vi (zq_i s (232) (1))), (.ref (232))]) (fun _ _ _ => rfl) ?_
    refine zq_iadd rfl ?_
    obtain ⟨g_6, w⟩ := w
    refine zq_putf_i (j := 1) rfl zq_a232 rfl rfl rfl g_6 ?_
    refine zq_iinc (L' := [(.ref (232)), (.long (y1)), zz_no, (zq_vi (x3)), (zq_vi (x4 + 1)), v5]) rfl rfl rfl ?_
    refine zq_run 1 (pc' := 116) (L' := [(.ref (232)), (.long (y1)), zz_no, (zq_vi (x3)), (zq_vi (x4 + 1)), v5]) (st' := []) (fun _ _ _ => rfl) ?_
    exact w
/-- PaperObjectsModel.isCharacter(I)Z -/
theorem zw_143 {X : Nat × (Nat → Int32)} {s : zq_S} {K : Int → zq_S → Prop} {x0 : Int} (hx0 : zq_iv x0) (w : (if x0 = 10 then K (1) s else (if x0 < 32 then K (0) s else (if x0 ≤ 126 then K (1) s else K (0) s)))) : zq_Ex X 143 0 [(zq_vi (x0))] [] s (zq_rp zq_bo K) := by
  refine zq_run 2 (pc' := 3) (L' := [(zq_vi (x0))]) (st' := [(zq_vi (10)), (zq_vi (x0))]) (fun _ _ _ => rfl) ?_
  refine zq_eq rfl hx0 (of_decide_eq_true rfl) (fun hb_1 => ?_) (fun hb_1 => ?_)
  · rw [if_pos hb_1] at w
    refine zq_run 2 (pc' := 23) (L' := [(zq_vi (x0))]) (st' := [(zq_vi (1))]) (fun _ _ _ => rfl) ?_
    exact zq_iret rfl rfl (congrArg Value.int (zq_nb (of_decide_eq_true rfl))) (⟨_, rfl, (of_decide_eq_true rfl), w⟩)
  · rw [if_neg hb_1] at w
    refine zq_run 2 (pc' := 9) (L' := [(zq_vi (x0))]) (st' := [(zq_vi (32)), (zq_vi (x0))]) (fun _ _ _ => rfl) ?_
    refine zq_lt rfl hx0 (of_decide_eq_true rfl) (fun hb_2 => ?_) (fun hb_2 => ?_)
    · rw [if_pos hb_2] at w
      refine zq_run 1 (pc' := 23) (L' := [(zq_vi (x0))]) (st' := [(zq_vi (0))]) (fun _ _ _ => rfl) ?_
      exact zq_iret rfl rfl (congrArg Value.int (zq_nb (of_decide_eq_true rfl))) (⟨_, rfl, (of_decide_eq_true rfl), w⟩)
    · rw [if_neg hb_2] at w
      refine zq_run 2 (pc' := 15) (L' := [(zq_vi (x0))]) (st' := [(zq_vi (126)), (zq_vi (x0))]) (fun _ _ _ => rfl) ?_
      refine zq_gt rfl hx0 (of_decide_eq_true rfl) (fun hb_3 => ?_) (fun hb_3 => ?_)
      · rw [if_neg hb_3] at w
        refine zq_run 1 (pc' := 23) (L' := [(zq_vi (x0))]) (st' := [(zq_vi (0))]) (fun _ _ _ => rfl) ?_
        exact zq_iret rfl rfl (congrArg Value.int (zq_nb (of_decide_eq_true rfl))) (⟨_, rfl, (of_decide_eq_true rfl), w⟩)
      · rw [if_pos hb_3] at w
        refine zq_run 2 (pc' := 23) (L' := [(zq_vi (x0))]) (st' := [(zq_vi (1))]) (fun _ _ _ => rfl) ?_
        exact zq_iret rfl rfl (congrArg Value.int (zq_nb (of_decide_eq_true rfl))) (⟨_, rfl, (of_decide_eq_true rfl), w⟩)
/-- PaperObjectsModel.put(I)V -/
theorem zw_144 {X : Nat × (Nat → Int32)} {s : zq_S} {K : zq_S → Prop} {x1 : Int} (hx1 : zq_iv x1) (w : (if x1 < 1 then K (zq_si s (232) (0) (1)) else (if x1 ≤ 9 then (((0 : Int) ≤ x1 ∧ x1 < (10 : Int)) ∧ (if zq_i s (237) (x1) = 0 then (((0 : Int) ≤ x1 ∧ x1 < (10 : Int)) ∧ (if zq_i s (238) (x1) = 9 then K (zq_si s (232) (0) (2)) else (zq_Ex X 145 0 [(.ref (232)), (zq_vi (0)), (zq_vi (0)), zz_no, zz_no] [] (zq_si s (232) (0) (0)) (zq_rv fun s_34 => (zq_Ex X 146 0 [(.ref (232)), (zq_vi (0)), (zq_vi (zq_i s_34 (232) (25))), zz_no] [] s_34 (zq_rp zq_iv fun x_37 s_36 => (if zq_i s_36 (232) (26) < 0 then (if x_37 < zq_i s_36 (232) (1) then (if x_37 < 0 then (zq_Ex X 170 0 [(.ref (232)), (zq_vi (x1)), zz_no] [] (zq_si (zq_si (zq_si (zq_si s_36 (232) (26) (x_37)) (232) (1) (0)) (232) (21) (x_37)) (232) (21) ((-1))) (zq_rv fun s_55 => (((0 : Int) ≤ x1 ∧ x1 < (10 : Int)) ∧ (((0 : Int) ≤ x1 ∧ x1 < (10 : Int)) ∧ (((0 : Int) ≤ x1 ∧ x1 < (10 : Int)) ∧ (zq_Ex X 171 0 [(.ref (232)), (zq_vi (x1))] [] (zq_si (zq_si (zq_si s_55 (237) (x1) (1)) (242) (x1) (0)) (243) (x1) (0)) (zq_rv fun s_59 => K s_59))))))) else K (zq_si (zq_si (zq_si (zq_si s_36 (232) (26) (x_37)) (232) (1) (0)) (232) (21) (x_37)) (232) (0) (3))) else (if zq_i s_36 (232) (26) < 0 then (zq_Ex X 170 0 [(.ref (232)), (zq_vi (x1)), zz_no] [] (zq_si (zq_si (zq_si (zq_si s_36 (232) (26) (zq_i s_36 (232) (26))) (232) (1) (0)) (232) (21) (zq_i s_36 (232) (26))) (232) (21) ((-1))) (zq_rv fun s_49 => (((0 : Int) ≤ x1 ∧ x1 < (10 : Int)) ∧ (((0 : Int) ≤ x1 ∧ x1 < (10 : Int)) ∧ (((0 : Int) ≤ x1 ∧ x1 < (10 : Int)) ∧ (zq_Ex X 171 0 [(.ref (232)), (zq_vi (x1))] [] (zq_si (zq_si (zq_si s_49 (237) (x1) (1)) (242) (x1) (0)) (243) (x1) (0)) (zq_rv fun s_53 => K s_53))))))) else K (zq_si (zq_si (zq_si (zq_si s_36 (232) (26) (zq_i s_36 (232) (26))) (232) (1) (0)) (232) (21) (zq_i s_36 (232) (26))) (232) (0) (3)))) else (if zq_i s_36 (232) (26) < 0 then (zq_Ex X 170 0 [(.ref (232)), (zq_vi (x1)), zz_no] [] (zq_si (zq_si (zq_si (zq_si s_36 (232) (26) (zq_i s_36 (232) (26))) (232) (1) (0)) (232) (21) (zq_i s_36 (232) (26))) (232) (21) ((-1))) (zq_rv fun s_42 => (((0 : Int) ≤ x1 ∧ x1 < (10 : Int)) ∧ (((0 : Int) ≤ x1 ∧ x1 < (10 : Int)) ∧ (((0 : Int) ≤ x1 ∧ x1 < (10 : Int)) ∧ (zq_Ex X 171 0 [(.ref (232)), (zq_vi (x1))] [] (zq_si (zq_si (zq_si s_42 (237) (x1) (1)) (242) (x1) (0)) (243) (x1) (0)) (zq_rv fun s_46 => K s_46))))))) else K (zq_si (zq_si (zq_si (zq_si s_36 (232) (26) (zq_i s_36 (232) (26))) (232) (1) (0)) (232) (21) (zq_i s_36 (232) (26))) (232) (0) (3)))))))))) else (zq_Ex X 145 0 [(.ref (232)), (zq_vi (0)), (zq_vi (0)), zz_no, zz_no] [] (zq_si s (232) (0) (0)) (zq_rv fun s_6 => (zq_Ex X 146 0 [(.ref (232)), (zq_vi (0)), (zq_vi (zq_i s_6 (232) (25))), zz_no] [] s_6 (zq_rp zq_iv fun x_9 s_8 => (if zq_i s_8 (232) (26) < 0 then (if x_9 < zq_i s_8 (232) (1) then (if x_9 < 0 then (zq_Ex X 170 0 [(.ref (232)), (zq_vi (x1)), zz_no] [] (zq_si (zq_si (zq_si (zq_si s_8 (232) (26) (x_9)) (232) (1) (0)) (232) (21) (x_9)) (232) (21) ((-1))) (zq_rv fun s_27 => (((0 : Int) ≤ x1 ∧ x1 < (10 : Int)) ∧ (((0 : Int) ≤ x1 ∧ x1 < (10 : Int)) ∧ (((0 : Int) ≤ x1 ∧ x1 < (10 : Int)) ∧ (zq_Ex X 171 0 [(.ref (232)), (zq_vi (x1))] [] (zq_si (zq_si (zq_si s_27 (237) (x1) (1)) (242) (x1) (0)) (243) (x1) (0)) (zq_rv fun s_31 => K s_31))))))) else K (zq_si (zq_si (zq_si (zq_si s_8 (232) (26) (x_9)) (232) (1) (0)) (232) (21) (x_9)) (232) (0) (3))) else (if zq_i s_8 (232) (26) < 0 then (zq_Ex X 170 0 [(.ref (232)), (zq_vi (x1)), zz_no] [] (zq_si (zq_si (zq_si (zq_si s_8 (232) (26) (zq_i s_8 (232) (26))) (232) (1) (0)) (232) (21) (zq_i s_8 (232) (26))) (232) (21) ((-1))) (zq_rv fun s_21 => (((0 : Int) ≤ x1 ∧ x1 < (10 : Int)) ∧ (((0 : Int) ≤ x1 ∧ x1 < (10 : Int)) ∧ (((0 : Int) ≤ x1 ∧ x1 < (10 : Int)) ∧ (zq_Ex X 171 0 [(.ref (232)), (zq_vi (x1))] [] (zq_si (zq_si (zq_si s_21 (237) (x1) (1)) (242) (x1) (0)) (243) (x1) (0)) (zq_rv fun s_25 => K s_25))))))) else K (zq_si (zq_si (zq_si (zq_si s_8 (232) (26) (zq_i s_8 (232) (26))) (232) (1) (0)) (232) (21) (zq_i s_8 (232) (26))) (232) (0) (3)))) else (if zq_i s_8 (232) (26) < 0 then (zq_Ex X 170 0 [(.ref (232)), (zq_vi (x1)), zz_no] [] (zq_si (zq_si (zq_si (zq_si s_8 (232) (26) (zq_i s_8 (232) (26))) (232) (1) (0)) (232) (21) (zq_i s_8 (232) (26))) (232) (21) ((-1))) (zq_rv fun s_14 => (((0 : Int) ≤ x1 ∧ x1 < (10 : Int)) ∧ (((0 : Int) ≤ x1 ∧ x1 < (10 : Int)) ∧ (((0 : Int) ≤ x1 ∧ x1 < (10 : Int)) ∧ (zq_Ex X 171 0 [(.ref (232)), (zq_vi (x1))] [] (zq_si (zq_si (zq_si s_14 (237) (x1) (1)) (242) (x1) (0)) (243) (x1) (0)) (zq_rv fun s_18 => K s_18))))))) else K (zq_si (zq_si (zq_si (zq_si s_8 (232) (26) (zq_i s_8 (232) (26))) (232) (1) (0)) (232) (21) (zq_i s_8 (232) (26))) (232) (0) (3)))))))))) else K (zq_si s (232) (0) (1))))) : zq_Ex X 144 0 [(.ref (232)), (zq_vi (x1)), zz_no, zz_no] [] s (zq_rv K) := by
  refine zq_run 2 (pc' := 2) (L' := [(.ref (232)), (zq_vi (x1)), zz_no, zz_no]) (st' := [(zq_vi (1)), (zq_vi (x1))]) (fun _ _ _ => rfl) ?_
  refine zq_lt rfl hx1 (of_decide_eq_true rfl) (fun hb_1 => ?_) (fun hb_1 => ?_)
  · rw [if_pos hb_1] at w
    refine zq_run 4 (pc' := 19) (L' := [(.ref (232)), (zq_vi (x1)), (zq_vi (0)), zz_no]) (st' := [(zq_vi (0)), (.ref (232))]) (fun _ _ _ => rfl) ?_
    refine zq_ne0 rfl (of_decide_eq_true rfl) (fun hb => absurd (by decide) hb) (fun _ => ?_)
    refine zq_run 2 (pc' := 51) (L' := [(.ref (232)), (zq_vi (x1)), (zq_vi (0)), zz_no]) (st' := [(zq_vi (1)), (.ref (232))]) (fun _ _ _ => rfl) ?_
    refine zq_putf_i (j := 0) rfl zq_a232 rfl rfl rfl (of_decide_eq_true rfl) ?_
    refine zq_run 1 (pc' := 55) (L' := [(.ref (232)), (zq_vi (x1)), (zq_vi (0)), zz_no]) (st' := [(.ref (232))]) (fun _ _ _ => rfl) ?_
    refine zq_getf_i (j := 0) (v := 1) rfl zq_a232 rfl rfl rfl ?_
    refine zq_eq0 rfl (of_decide_eq_true rfl) (fun hb => absurd hb (by decide)) (fun _ => ?_)
    exact zq_vret rfl rfl (⟨rfl, w⟩)
  · rw [if_neg hb_1] at w
    refine zq_run 2 (pc' := 8) (L' := [(.ref (232)), (zq_vi (x1)), zz_no, zz_no]) (st' := [(zq_vi (9)), (zq_vi (x1))]) (fun _ _ _ => rfl) ?_
    refine zq_gt rfl hx1 (of_decide_eq_true rfl) (fun hb_2 => ?_) (fun hb_2 => ?_)
    · rw [if_neg hb_2] at w
      refine zq_run 4 (pc' := 19) (L' := [(.ref (232)), (zq_vi (x1)), (zq_vi (0)), zz_no]) (st' := [(zq_vi (0)), (.ref (232))]) (fun _ _ _ => rfl) ?_
      refine zq_ne0 rfl (of_decide_eq_true rfl) (fun hb => absurd (by decide) hb) (fun _ => ?_)
      refine zq_run 2 (pc' := 51) (L' := [(.ref (232)), (zq_vi (x1)), (zq_vi (0)), zz_no]) (st' := [(zq_vi (1)), (.ref (232))]) (fun _ _ _ => rfl) ?_
      refine zq_putf_i (j := 0) rfl zq_a232 rfl rfl rfl (of_decide_eq_true rfl) ?_
      refine zq_run 1 (pc' := 55) (L' := [(.ref (232)), (zq_vi (x1)), (zq_vi (0)), zz_no]) (st' := [(.ref (232))]) (fun _ _ _ => rfl) ?_
      refine zq_getf_i (j := 0) (v := 1) rfl zq_a232 rfl rfl rfl ?_
      refine zq_eq0 rfl (of_decide_eq_true rfl) (fun hb => absurd hb (by decide)) (fun _ => ?_)
      exact zq_vret rfl rfl (⟨rfl, w⟩)
    · rw [if_pos hb_2] at w
      refine zq_run 5 (pc' := 19) (L' := [(.ref (232)), (zq_vi (x1)), (zq_vi (1)), zz_no]) (st' := [(zq_vi (1)), (.ref (232))]) (fun _ _ _ => rfl) ?_
      refine zq_ne0 rfl (of_decide_eq_true rfl) (fun _ => ?_) (fun hb => absurd hb (by decide))
      refine zq_run 1 (pc' := 27) (L' := [(.ref (232)), (zq_vi (x1)), (zq_vi (1)), zz_no]) (st' := [(.ref (232)), (.ref (232))]) (fun _ _ _ => rfl) ?_
      refine zq_getf_f (b := 237) rfl zq_a232 rfl rfl ?_
      refine zq_run 1 (pc' := 31) (L' := [(.ref (232)), (zq_vi (x1)), (zq_vi (1)), zz_no]) (st' := [(zq_vi (x1)), (.ref (237)), (.ref (232))]) (fun _ _ _ => rfl) ?_
      obtain ⟨g_3, w⟩ := w
      refine zq_have (fun hR_4 => ?_)
      refine zq_ald_b (v := zq_i s (237) (x1)) rfl zq_a237 g_3.1 g_3.2 rfl ?_
      refine zq_ne0 rfl (zq_bo_in (hR_4.2.2.1 _ _ _ zq_a237)) (fun hb_5 => ?_) (fun hb_5 => ?_)
      · rw [if_neg hb_5] at w
        refine zq_run 1 (pc' := 51) (L' := [(.ref (232)), (zq_vi (x1)), (zq_vi (1)), zz_no]) (st' := [(zq_vi (0)), (.ref (232))]) (fun _ _ _ => rfl) ?_
        refine zq_putf_i (j := 0) rfl zq_a232 rfl rfl rfl (of_decide_eq_true rfl) ?_
        refine zq_run 1 (pc' := 55) (L' := [(.ref (232)), (zq_vi (x1)), (zq_vi (1)), zz_no]) (st' := [(.ref (232))]) (fun _ _ _ => rfl) ?_
        refine zq_getf_i (j := 0) (v := 0) rfl zq_a232 rfl rfl rfl ?_
        refine zq_eq0 rfl (of_decide_eq_true rfl) (fun _ => ?_) (fun hb => absurd (by decide) hb)
        refine zq_run 3 (pc' := 65) (L' := [(.ref (232)), (zq_vi (x1)), (zq_vi (1)), zz_no]) (st' := [(zq_vi (0)), (zq_vi (0)), (.ref (232))]) (fun _ _ _ => rfl) ?_
        refine zq_call_v (i := .invokevirtual 266) (r := [1, 145, 2, 1, 9]) rfl rfl (fun h hp => zr_avv rfl (hp.obj zq_a232)) (of_decide_eq_false rfl) w (fun s_6 w => ?_)
        refine zq_run 3 (pc' := 71) (L' := [(.ref (232)), (zq_vi (x1)), (zq_vi (1)), zz_no]) (st' := [(.ref (232)), (zq_vi (0)), (.ref (232))]) (fun _ _ _ => rfl) ?_
        refine zq_have (fun hR_7 => ?_)
        refine zq_getf_i (j := 25) (v := zq_i s_6 (232) (25)) rfl zq_a232 rfl rfl rfl ?_
        refine zq_call_i (i := .invokevirtual 141) (r := [1, 146, 2, 1, 9]) rfl rfl (fun h hp => zr_avv rfl (hp.obj zq_a232)) (of_decide_eq_false rfl) w (fun x_9 s_8 hx_10 w => ?_)
        refine zq_run 3 (pc' := 80) (L' := [(.ref (232)), (zq_vi (x1)), (zq_vi (1)), (zq_vi (x_9))]) (st' := [(.ref (232)), (.ref (232))]) (fun _ _ _ => rfl) ?_
        refine zq_have (fun hR_11 => ?_)
        refine zq_getf_i (j := 26) (v := zq_i s_8 (232) (26)) rfl zq_a232 rfl rfl rfl ?_
        refine zq_ge0 rfl (hR_11.1 _ _) (fun hb_12 => ?_) (fun hb_12 => ?_)
        · rw [if_neg hb_12] at w
          refine zq_run 1 (pc' := 99) (L' := [(.ref (232)), (zq_vi (x1)), (zq_vi (1)), (zq_vi (x_9))]) (st' := [(.ref (232)), (.ref (232))]) (fun _ _ _ => rfl) ?_
          refine zq_getf_i (j := 26) (v := zq_i s_8 (232) (26)) rfl zq_a232 rfl rfl rfl ?_
          refine zq_putf_i (j := 26) rfl zq_a232 rfl rfl rfl (hR_11.1 _ _) ?_
          refine zq_run 2 (pc' := 107) (L' := [(.ref (232)), (zq_vi (x1)), (zq_vi (1)), (zq_vi (x_9))]) (st' := [(zq_vi (0)), (.ref (232))]) (fun _ _ _ => rfl) ?_
          refine zq_putf_i (j := 1) rfl zq_a232 rfl rfl rfl (of_decide_eq_true rfl) ?_
          refine zq_run 2 (pc' := 112) (L' := [(.ref (232)), (zq_vi (x1)), (zq_vi (1)), (zq_vi (x_9))]) (st' := [(.ref (232)), (.ref (232))]) (fun _ _ _ => rfl) ?_
          refine zq_getf_i (j := 26) (v := zq_i s_8 (232) (26)) rfl zq_a232 rfl rfl (by simp [zq_i_si, zq_i_sr, zq_i_sl]) ?_
          refine zq_putf_i (j := 21) rfl zq_a232 rfl rfl rfl (hR_11.1 _ _) ?_
          refine zq_run 1 (pc' := 119) (L' := [(.ref (232)), (zq_vi (x1)), (zq_vi (1)), (zq_vi (x_9))]) (st' := [(.ref (232))]) (fun _ _ _ => rfl) ?_
          refine zq_getf_i (j := 26) (v := zq_i s_8 (232) (26)) rfl zq_a232 rfl rfl (by simp [zq_i_si, zq_i_sr, zq_i_sl]) ?_
          refine zq_lt0 rfl (hR_11.1 _ _) (fun hb_13 => ?_) (fun hb_13 => ?_)
          · rw [if_pos hb_13] at w
            refine zq_run 2 (pc' := 133) (L' := [(.ref (232)), (zq_vi (x1)), (zq_vi (1)), (zq_vi (x_9))]) (st' := [(zq_vi ((-1))), (.ref (232))]) (fun _ _ _ => rfl) ?_
            refine zq_putf_i (j := 21) rfl zq_a232 rfl rfl rfl (of_decide_eq_true rfl) ?_
            refine zq_run 2 (pc' := 138) (L' := [(.ref (232)), (zq_vi (x1)), (zq_vi (1)), (zq_vi (x_9))]) (st' := [(zq_vi (x1)), (.ref (232))]) (fun _ _ _ => rfl) ?_
            refine zq_call_v (i := .invokevirtual 269) (r := [1, 170, 1, 1, 9]) rfl rfl (fun h hp => zr_avv rfl (hp.obj zq_a232)) (of_decide_eq_false rfl) w (fun s_14 w => ?_)
            refine zq_run 1 (pc' := 142) (L' := [(.ref (232)), (zq_vi (x1)), (zq_vi (1)), (zq_vi (x_9))]) (st' := [(.ref (232))]) (fun _ _ _ => rfl) ?_
            refine zq_getf_f (b := 237) rfl zq_a232 rfl rfl ?_
            refine zq_run 2 (pc' := 147) (L' := [(.ref (232)), (zq_vi (x1)), (zq_vi (1)), (zq_vi (x_9))]) (st' := [(zq_vi (1)), (zq_vi (x1)), (.ref (237))]) (fun _ _ _ => rfl) ?_
            obtain ⟨g_15, w⟩ := w
            refine zq_ast_b rfl zq_a237 g_15.1 g_15.2 (of_decide_eq_true rfl) ?_
            refine zq_run 1 (pc' := 149) (L' := [(.ref (232)), (zq_vi (x1)), (zq_vi (1)), (zq_vi (x_9))]) (st' := [(.ref (232))]) (fun _ _ _ => rfl) ?_
            refine zq_getf_f (b := 242) rfl zq_a232 rfl rfl ?_
            refine zq_run 2 (pc' := 154) (L' := [(.ref (232)), (zq_vi (x1)), (zq_vi (1)), (zq_vi (x_9))]) (st' := [(zq_vi (0)), (zq_vi (x1)), (.ref (242))]) (fun _ _ _ => rfl) ?_
            obtain ⟨g_16, w⟩ := w
            refine zq_ast_b rfl zq_a242 g_16.1 g_16.2 (of_decide_eq_true rfl) ?_
            refine zq_run 1 (pc' := 156) (L' := [(.ref (232)), (zq_vi (x1)), (zq_vi (1)), (zq_vi (x_9))]) (st' := [(.ref (232))]) (fun _ _ _ => rfl) ?_
            refine zq_getf_f (b := 243) rfl zq_a232 rfl rfl ?_
            refine zq_run 2 (pc' := 161) (L' := [(.ref (232)), (zq_vi (x1)), (zq_vi (1)), (zq_vi (x_9))]) (st' := [(zq_vi (0)), (zq_vi (x1)), (.ref (243))]) (fun _ _ _ => rfl) ?_
            obtain ⟨g_17, w⟩ := w
            refine zq_ast_i rfl zq_a243 g_17.1 g_17.2 (of_decide_eq_true rfl) ?_
            refine zq_run 2 (pc' := 164) (L' := [(.ref (232)), (zq_vi (x1)), (zq_vi (1)), (zq_vi (x_9))]) (st' := [(zq_vi (x1)), (.ref (232))]) (fun _ _ _ => rfl) ?_
            refine zq_call_v (i := .invokevirtual 272) (r := [1, 171, 1, 1, 9]) rfl rfl (fun h hp => zr_avv rfl (hp.obj zq_a232)) (of_decide_eq_false rfl) w (fun s_18 w => ?_)
            exact zq_vret rfl rfl (⟨rfl, w⟩)
          · rw [if_neg hb_13] at w
            refine zq_run 2 (pc' := 127) (L' := [(.ref (232)), (zq_vi (x1)), (zq_vi (1)), (zq_vi (x_9))]) (st' := [(zq_vi (3)), (.ref (232))]) (fun _ _ _ => rfl) ?_
            refine zq_putf_i (j := 0) rfl zq_a232 rfl rfl rfl (of_decide_eq_true rfl) ?_
            exact zq_vret rfl rfl (⟨rfl, w⟩)
        · rw [if_pos hb_12] at w
          refine zq_run 2 (pc' := 88) (L' := [(.ref (232)), (zq_vi (x1)), (zq_vi (1)), (zq_vi (x_9))]) (st' := [(.ref (232)), (zq_vi (x_9)), (.ref (232))]) (fun _ _ _ => rfl) ?_
          refine zq_getf_i (j := 1) (v := zq_i s_8 (232) (1)) rfl zq_a232 rfl rfl rfl ?_
          refine zq_ge rfl hx_10 (hR_11.1 _ _) (fun hb_19 => ?_) (fun hb_19 => ?_)
          · rw [if_neg hb_19] at w
            refine zq_run 1 (pc' := 99) (L' := [(.ref (232)), (zq_vi (x1)), (zq_vi (1)), (zq_vi (x_9))]) (st' := [(.ref (232)), (.ref (232))]) (fun _ _ _ => rfl) ?_
            refine zq_getf_i (j := 26) (v := zq_i s_8 (232) (26)) rfl zq_a232 rfl rfl rfl ?_
            refine zq_putf_i (j := 26) rfl zq_a232 rfl rfl rfl (hR_11.1 _ _) ?_
            refine zq_run 2 (pc' := 107) (L' := [(.ref (232)), (zq_vi (x1)), (zq_vi (1)), (zq_vi (x_9))]) (st' := [(zq_vi (0)), (.ref (232))]) (fun _ _ _ => rfl) ?_
            refine zq_putf_i (j := 1) rfl zq_a232 rfl rfl rfl (of_decide_eq_true rfl) ?_
            refine zq_run 2 (pc' := 112) (L' := [(.ref (232)), (zq_vi (x1)), (zq_vi (1)), (zq_vi (x_9))]) (st' := [(.ref (232)), (.ref (232))]) (fun _ _ _ => rfl) ?_
            refine zq_getf_i (j := 26) (v := zq_i s_8 (232) (26)) rfl zq_a232 rfl rfl (by simp [zq_i_si, zq_i_sr, zq_i_sl]) ?_
            refine zq_putf_i (j := 21) rfl zq_a232 rfl rfl rfl (hR_11.1 _ _) ?_
            refine zq_run 1 (pc' := 119) (L' := [(.ref (232)), (zq_vi (x1)), (zq_vi (1)), (zq_vi (x_9))]) (st' := [(.ref (232))]) (fun _ _ _ => rfl) ?_
            refine zq_getf_i (j := 26) (v := zq_i s_8 (232) (26)) rfl zq_a232 rfl rfl (by simp [zq_i_si, zq_i_sr, zq_i_sl]) ?_
            refine zq_lt0 rfl (hR_11.1 _ _) (fun hb_20 => ?_) (fun hb_20 => ?_)
            · rw [if_pos hb_20] at w
              refine zq_run 2 (pc' := 133) (L' := [(.ref (232)), (zq_vi (x1)), (zq_vi (1)), (zq_vi (x_9))]) (st' := [(zq_vi ((-1))), (.ref (232))]) (fun _ _ _ => rfl) ?_
              refine zq_putf_i (j := 21) rfl zq_a232 rfl rfl rfl (of_decide_eq_true rfl) ?_
              refine zq_run 2 (pc' := 138) (L' := [(.ref (232)), (zq_vi (x1)), (zq_vi (1)), (zq_vi (x_9))]) (st' := [(zq_vi (x1)), (.ref (232))]) (fun _ _ _ => rfl) ?_
              refine zq_call_v (i := .invokevirtual 269) (r := [1, 170, 1, 1, 9]) rfl rfl (fun h hp => zr_avv rfl (hp.obj zq_a232)) (of_decide_eq_false rfl) w (fun s_21 w => ?_)
              refine zq_run 1 (pc' := 142) (L' := [(.ref (232)), (zq_vi (x1)), (zq_vi (1)), (zq_vi (x_9))]) (st' := [(.ref (232))]) (fun _ _ _ => rfl) ?_
              refine zq_getf_f (b := 237) rfl zq_a232 rfl rfl ?_
              refine zq_run 2 (pc' := 147) (L' := [(.ref (232)), (zq_vi (x1)), (zq_vi (1)), (zq_vi (x_9))]) (st' := [(zq_vi (1)), (zq_vi (x1)), (.ref (237))]) (fun _ _ _ => rfl) ?_
              obtain ⟨g_22, w⟩ := w
              refine zq_ast_b rfl zq_a237 g_22.1 g_22.2 (of_decide_eq_true rfl) ?_
              refine zq_run 1 (pc' := 149) (L' := [(.ref (232)), (zq_vi (x1)), (zq_vi (1)), (zq_vi (x_9))]) (st' := [(.ref (232))]) (fun _ _ _ => rfl) ?_
              refine zq_getf_f (b := 242) rfl zq_a232 rfl rfl ?_
              refine zq_run 2 (pc' := 154) (L' := [(.ref (232)), (zq_vi (x1)), (zq_vi (1)), (zq_vi (x_9))]) (st' := [(zq_vi (0)), (zq_vi (x1)), (.ref (242))]) (fun _ _ _ => rfl) ?_
              obtain ⟨g_23, w⟩ := w
              refine zq_ast_b rfl zq_a242 g_23.1 g_23.2 (of_decide_eq_true rfl) ?_
              refine zq_run 1 (pc' := 156) (L' := [(.ref (232)), (zq_vi (x1)), (zq_vi (1)), (zq_vi (x_9))]) (st' := [(.ref (232))]) (fun _ _ _ => rfl) ?_
              refine zq_getf_f (b := 243) rfl zq_a232 rfl rfl ?_
              refine zq_run 2 (pc' := 161) (L' := [(.ref (232)), (zq_vi (x1)), (zq_vi (1)), (zq_vi (x_9))]) (st' := [(zq_vi (0)), (zq_vi (x1)), (.ref (243))]) (fun _ _ _ => rfl) ?_
              obtain ⟨g_24, w⟩ := w
              refine zq_ast_i rfl zq_a243 g_24.1 g_24.2 (of_decide_eq_true rfl) ?_
              refine zq_run 2 (pc' := 164) (L' := [(.ref (232)), (zq_vi (x1)), (zq_vi (1)), (zq_vi (x_9))]) (st' := [(zq_vi (x1)), (.ref (232))]) (fun _ _ _ => rfl) ?_
              refine zq_call_v (i := .invokevirtual 272) (r := [1, 171, 1, 1, 9]) rfl rfl (fun h hp => zr_avv rfl (hp.obj zq_a232)) (of_decide_eq_false rfl) w (fun s_25 w => ?_)
              exact zq_vret rfl rfl (⟨rfl, w⟩)
            · rw [if_neg hb_20] at w
              refine zq_run 2 (pc' := 127) (L' := [(.ref (232)), (zq_vi (x1)), (zq_vi (1)), (zq_vi (x_9))]) (st' := [(zq_vi (3)), (.ref (232))]) (fun _ _ _ => rfl) ?_
              refine zq_putf_i (j := 0) rfl zq_a232 rfl rfl rfl (of_decide_eq_true rfl) ?_
              exact zq_vret rfl rfl (⟨rfl, w⟩)
          · rw [if_pos hb_19] at w
            refine zq_run 2 (pc' := 102) (L' := [(.ref (232)), (zq_vi (x1)), (zq_vi (1)), (zq_vi (x_9))]) (st' := [(zq_vi (x_9)), (.ref (232))]) (fun _ _ _ => rfl) ?_
            refine zq_putf_i (j := 26) rfl zq_a232 rfl rfl rfl hx_10 ?_
            refine zq_run 2 (pc' := 107) (L' := [(.ref (232)), (zq_vi (x1)), (zq_vi (1)), (zq_vi (x_9))]) (st' := [(zq_vi (0)), (.ref (232))]) (fun _ _ _ => rfl) ?_
            refine zq_putf_i (j := 1) rfl zq_a232 rfl rfl rfl (of_decide_eq_true rfl) ?_
            refine zq_run 2 (pc' := 112) (L' := [(.ref (232)), (zq_vi (x1)), (zq_vi (1)), (zq_vi (x_9))]) (st' := [(.ref (232)), (.ref (232))]) (fun _ _ _ => rfl) ?_
            refine zq_getf_i (j := 26) (v := x_9) rfl zq_a232 rfl rfl (by simp [zq_i_si, zq_i_sr, zq_i_sl]) ?_
            refine zq_putf_i (j := 21) rfl zq_a232 rfl rfl rfl hx_10 ?_
            refine zq_run 1 (pc' := 119) (L' := [(.ref (232)), (zq_vi (x1)), (zq_vi (1)), (zq_vi (x_9))]) (st' := [(.ref (232))]) (fun _ _ _ => rfl) ?_
            refine zq_getf_i (j := 26) (v := x_9) rfl zq_a232 rfl rfl (by simp [zq_i_si, zq_i_sr, zq_i_sl]) ?_
            refine zq_lt0 rfl hx_10 (fun hb_26 => ?_) (fun hb_26 => ?_)
            · rw [if_pos hb_26] at w
              refine zq_run 2 (pc' := 133) (L' := [(.ref (232)), (zq_vi (x1)), (zq_vi (1)), (zq_vi (x_9))]) (st' := [(zq_vi ((-1))), (.ref (232))]) (fun _ _ _ => rfl) ?_
              refine zq_putf_i (j := 21) rfl zq_a232 rfl rfl rfl (of_decide_eq_true rfl) ?_
              refine zq_run 2 (pc' := 138) (L' := [(.ref (232)), (zq_vi (x1)), (zq_vi (1)), (zq_vi (x_9))]) (st' := [(zq_vi (x1)), (.ref (232))]) (fun _ _ _ => rfl) ?_
              refine zq_call_v (i := .invokevirtual 269) (r := [1, 170, 1, 1, 9]) rfl rfl (fun h hp => zr_avv rfl (hp.obj zq_a232)) (of_decide_eq_false rfl) w (fun s_27 w => ?_)
              refine zq_run 1 (pc' := 142) (L' := [(.ref (232)), (zq_vi (x1)), (zq_vi (1)), (zq_vi (x_9))]) (st' := [(.ref (232))]) (fun _ _ _ => rfl) ?_
              refine zq_getf_f (b := 237) rfl zq_a232 rfl rfl ?_
              refine zq_run 2 (pc' := 147) (L' := [(.ref (232)), (zq_vi (x1)), (zq_vi (1)), (zq_vi (x_9))]) (st' := [(zq_vi (1)), (zq_vi (x1)), (.ref (237))]) (fun _ _ _ => rfl) ?_
              obtain ⟨g_28, w⟩ := w
              refine zq_ast_b rfl zq_a237 g_28.1 g_28.2 (of_decide_eq_true rfl) ?_
              refine zq_run 1 (pc' := 149) (L' := [(.ref (232)), (zq_vi (x1)), (zq_vi (1)), (zq_vi (x_9))]) (st' := [(.ref (232))]) (fun _ _ _ => rfl) ?_
              refine zq_getf_f (b := 242) rfl zq_a232 rfl rfl ?_
              refine zq_run 2 (pc' := 154) (L' := [(.ref (232)), (zq_vi (x1)), (zq_vi (1)), (zq_vi (x_9))]) (st' := [(zq_vi (0)), (zq_vi (x1)), (.ref (242))]) (fun _ _ _ => rfl) ?_
              obtain ⟨g_29, w⟩ := w
              refine zq_ast_b rfl zq_a242 g_29.1 g_29.2 (of_decide_eq_true rfl) ?_
              refine zq_run 1 (pc' := 156) (L' := [(.ref (232)), (zq_vi (x1)), (zq_vi (1)), (zq_vi (x_9))]) (st' := [(.ref (232))]) (fun _ _ _ => rfl) ?_
              refine zq_getf_f (b := 243) rfl zq_a232 rfl rfl ?_
              refine zq_run 2 (pc' := 161) (L' := [(.ref (232)), (zq_vi (x1)), (zq_vi (1)), (zq_vi (x_9))]) (st' := [(zq_vi (0)), (zq_vi (x1)), (.ref (243))]) (fun _ _ _ => rfl) ?_
              obtain ⟨g_30, w⟩ := w
              refine zq_ast_i rfl zq_a243 g_30.1 g_30.2 (of_decide_eq_true rfl) ?_
              refine zq_run 2 (pc' := 164) (L' := [(.ref (232)), (zq_vi (x1)), (zq_vi (1)), (zq_vi (x_9))]) (st' := [(zq_vi (x1)), (.ref (232))]) (fun _ _ _ => rfl) ?_
              refine zq_call_v (i := .invokevirtual 272) (r := [1, 171, 1, 1, 9]) rfl rfl (fun h hp => zr_avv rfl (hp.obj zq_a232)) (of_decide_eq_false rfl) w (fun s_31 w => ?_)
              exact zq_vret rfl rfl (⟨rfl, w⟩)
            · rw [if_neg hb_26] at w
              refine zq_run 2 (pc' := 127) (L' := [(.ref (232)), (zq_vi (x1)), (zq_vi (1)), (zq_vi (x_9))]) (st' := [(zq_vi (3)), (.ref (232))]) (fun _ _ _ => rfl) ?_
              refine zq_putf_i (j := 0) rfl zq_a232 rfl rfl rfl (of_decide_eq_true rfl) ?_
              exact zq_vret rfl rfl (⟨rfl, w⟩)
      · rw [if_pos hb_5] at w
        refine zq_run 1 (pc' := 36) (L' := [(.ref (232)), (zq_vi (x1)), (zq_vi (1)), zz_no]) (st' := [(.ref (232)), (.ref (232))]) (fun _ _ _ => rfl) ?_
        refine zq_getf_f (b := 238) rfl zq_a232 rfl rfl ?_
        refine zq_run 1 (pc' := 40) (L' := [(.ref (232)), (zq_vi (x1)), (zq_vi (1)), zz_no]) (st' := [(zq_vi (x1)), (.ref (238)), (.ref (232))]) (fun _ _ _ => rfl) ?_
        obtain ⟨g_32, w⟩ := w
        refine zq_ald_i (v := zq_i s (238) (x1)) rfl zq_a238 g_32.1 g_32.2 rfl ?_
        refine zq_run 1 (pc' := 43) (L' := [(.ref (232)), (zq_vi (x1)), (zq_vi (1)), zz_no]) (st' := [(zq_vi (9)), (zq_vi (zq_i s (238) (x1))), (.ref (232))]) (fun _ _ _ => rfl) ?_
        refine zq_ne rfl (hR_4.1 _ _) (of_decide_eq_true rfl) (fun hb_33 => ?_) (fun hb_33 => ?_)
        · rw [if_neg hb_33] at w
          refine zq_run 1 (pc' := 51) (L' := [(.ref (232)), (zq_vi (x1)), (zq_vi (1)), zz_no]) (st' := [(zq_vi (0)), (.ref (232))]) (fun _ _ _ => rfl) ?_
          refine zq_putf_i (j := 0) rfl zq_a232 rfl rfl rfl (of_decide_eq_true rfl) ?_
          refine zq_run 1 (pc' := 55) (L' := [(.ref (232)), (zq_vi (x1)), (zq_vi (1)), zz_no]) (st' := [(.ref (232))]) (fun _ _ _ => rfl) ?_
          refine zq_getf_i (j := 0) (v := 0) rfl zq_a232 rfl rfl rfl ?_
          refine zq_eq0 rfl (of_decide_eq_true rfl) (fun _ => ?_) (fun hb => absurd (by decide) hb)
          refine zq_run 3 (pc' := 65) (L' := [(.ref (232)), (zq_vi (x1)), (zq_vi (1)), zz_no]) (st' := [(zq_vi (0)), (zq_vi (0)), (.ref (232))]) (fun _ _ _ => rfl) ?_
          refine zq_call_v (i := .invokevirtual 266) (r := [1, 145, 2, 1, 9]) rfl rfl (fun h hp => zr_avv rfl (hp.obj zq_a232)) (of_decide_eq_false rfl) w (fun s_34 w => ?_)
          refine zq_run 3 (pc' := 71) (L' := [(.ref (232)), (zq_vi (x1)), (zq_vi (1)), zz_no]) (st' := [(.ref (232)), (zq_vi (0)), (.ref (232))]) (fun _ _ _ => rfl) ?_
          refine zq_have (fun hR_35 => ?_)
          refine zq_getf_i (j := 25) (v := zq_i s_34 (232) (25)) rfl zq_a232 rfl rfl rfl ?_
          refine zq_call_i (i := .invokevirtual 141) (r := [1, 146, 2, 1, 9]) rfl rfl (fun h hp => zr_avv rfl (hp.obj zq_a232)) (of_decide_eq_false rfl) w (fun x_37 s_36 hx_38 w => ?_)
          refine zq_run 3 (pc' := 80) (L' := [(.ref (232)), (zq_vi (x1)), (zq_vi (1)), (zq_vi (x_37))]) (st' := [(.ref (232)), (.ref (232))]) (fun _ _ _ => rfl) ?_
          refine zq_have (fun hR_39 => ?_)
          refine zq_getf_i (j := 26) (v := zq_i s_36 (232) (26)) rfl zq_a232 rfl rfl rfl ?_
          refine zq_ge0 rfl (hR_39.1 _ _) (fun hb_40 => ?_) (fun hb_40 => ?_)
          · rw [if_neg hb_40] at w
            refine zq_run 1 (pc' := 99) (L' := [(.ref (232)), (zq_vi (x1)), (zq_vi (1)), (zq_vi (x_37))]) (st' := [(.ref (232)), (.ref (232))]) (fun _ _ _ => rfl) ?_
            refine zq_getf_i (j := 26) (v := zq_i s_36 (232) (26)) rfl zq_a232 rfl rfl rfl ?_
            refine zq_putf_i (j := 26) rfl zq_a232 rfl rfl rfl (hR_39.1 _ _) ?_
            refine zq_run 2 (pc' := 107) (L' := [(.ref (232)), (zq_vi (x1)), (zq_vi (1)), (zq_vi (x_37))]) (st' := [(zq_vi (0)), (.ref (232))]) (fun _ _ _ => rfl) ?_
            refine zq_putf_i (j := 1) rfl zq_a232 rfl rfl rfl (of_decide_eq_true rfl) ?_
            refine zq_run 2 (pc' := 112) (L' := [(.ref (232)), (zq_vi (x1)), (zq_vi (1)), (zq_vi (x_37))]) (st' := [(.ref (232)), (.ref (232))]) (fun _ _ _ => rfl) ?_
            refine zq_getf_i (j := 26) (v := zq_i s_36 (232) (26)) rfl zq_a232 rfl rfl (by simp [zq_i_si, zq_i_sr, zq_i_sl]) ?_
            refine zq_putf_i (j := 21) rfl zq_a232 rfl rfl rfl (hR_39.1 _ _) ?_
            refine zq_run 1 (pc' := 119) (L' := [(.ref (232)), (zq_vi (x1)), (zq_vi (1)), (zq_vi (x_37))]) (st' := [(.ref (232))]) (fun _ _ _ => rfl) ?_
            refine zq_getf_i (j := 26) (v := zq_i s_36 (232) (26)) rfl zq_a232 rfl rfl (by simp [zq_i_si, zq_i_sr, zq_i_sl]) ?_
            refine zq_lt0 rfl (hR_39.1 _ _) (fun hb_41 => ?_) (fun hb_41 => ?_)
            · rw [if_pos hb_41] at w
              refine zq_run 2 (pc' := 133) (L' := [(.ref (232)), (zq_vi (x1)), (zq_vi (1)), (zq_vi (x_37))]) (st' := [(zq_vi ((-1))), (.ref (232))]) (fun _ _ _ => rfl) ?_
              refine zq_putf_i (j := 21) rfl zq_a232 rfl rfl rfl (of_decide_eq_true rfl) ?_
              refine zq_run 2 (pc' := 138) (L' := [(.ref (232)), (zq_vi (x1)), (zq_vi (1)), (zq_vi (x_37))]) (st' := [(zq_vi (x1)), (.ref (232))]) (fun _ _ _ => rfl) ?_
              refine zq_call_v (i := .invokevirtual 269) (r := [1, 170, 1, 1, 9]) rfl rfl (fun h hp => zr_avv rfl (hp.obj zq_a232)) (of_decide_eq_false rfl) w (fun s_42 w => ?_)
              refine zq_run 1 (pc' := 142) (L' := [(.ref (232)), (zq_vi (x1)), (zq_vi (1)), (zq_vi (x_37))]) (st' := [(.ref (232))]) (fun _ _ _ => rfl) ?_
              refine zq_getf_f (b := 237) rfl zq_a232 rfl rfl ?_
              refine zq_run 2 (pc' := 147) (L' := [(.ref (232)), (zq_vi (x1)), (zq_vi (1)), (zq_vi (x_37))]) (st' := [(zq_vi (1)), (zq_vi (x1)), (.ref (237))]) (fun _ _ _ => rfl) ?_
              obtain ⟨g_43, w⟩ := w
              refine zq_ast_b rfl zq_a237 g_43.1 g_43.2 (of_decide_eq_true rfl) ?_
              refine zq_run 1 (pc' := 149) (L' := [(.ref (232)), (zq_vi (x1)), (zq_vi (1)), (zq_vi (x_37))]) (st' := [(.ref (232))]) (fun _ _ _ => rfl) ?_
              refine zq_getf_f (b := 242) rfl zq_a232 rfl rfl ?_
              refine zq_run 2 (pc' := 154) (L' := [(.ref (232)), (zq_vi (x1)), (zq_vi (1)), (zq_vi (x_37))]) (st' := [(zq_vi (0)), (zq_vi (x1)), (.ref (242))]) (fun _ _ _ => rfl) ?_
              obtain ⟨g_44, w⟩ := w
              refine zq_ast_b rfl zq_a242 g_44.1 g_44.2 (of_decide_eq_true rfl) ?_
              refine zq_run 1 (pc' := 156) (L' := [(.ref (232)), (zq_vi (x1)), (zq_vi (1)), (zq_vi (x_37))]) (st' := [(.ref (232))]) (fun _ _ _ => rfl) ?_
              refine zq_getf_f (b := 243) rfl zq_a232 rfl rfl ?_
              refine zq_run 2 (pc' := 161) (L' := [(.ref (232)), (zq_vi (x1)), (zq_vi (1)), (zq_vi (x_37))]) (st' := [(zq_vi (0)), (zq_vi (x1)), (.ref (243))]) (fun _ _ _ => rfl) ?_
              obtain ⟨g_45, w⟩ := w
              refine zq_ast_i rfl zq_a243 g_45.1 g_45.2 (of_decide_eq_true rfl) ?_
              refine zq_run 2 (pc' := 164) (L' := [(.ref (232)), (zq_vi (x1)), (zq_vi (1)), (zq_vi (x_37))]) (st' := [(zq_vi (x1)), (.ref (232))]) (fun _ _ _ => rfl) ?_
              refine zq_call_v (i := .invokevirtual 272) (r := [1, 171, 1, 1, 9]) rfl rfl (fun h hp => zr_avv rfl (hp.obj zq_a232)) (of_decide_eq_false rfl) w (fun s_46 w => ?_)
              exact zq_vret rfl rfl (⟨rfl, w⟩)
            · rw [if_neg hb_41] at w
              refine zq_run 2 (pc' := 127) (L' := [(.ref (232)), (zq_vi (x1)), (zq_vi (1)), (zq_vi (x_37))]) (st' := [(zq_vi (3)), (.ref (232))]) (fun _ _ _ => rfl) ?_
              refine zq_putf_i (j := 0) rfl zq_a232 rfl rfl rfl (of_decide_eq_true rfl) ?_
              exact zq_vret rfl rfl (⟨rfl, w⟩)
          · rw [if_pos hb_40] at w
            refine zq_run 2 (pc' := 88) (L' := [(.ref (232)), (zq_vi (x1)), (zq_vi (1)), (zq_vi (x_37))]) (st' := [(.ref (232)), (zq_vi (x_37)), (.ref (232))]) (fun _ _ _ => rfl) ?_
            refine zq_getf_i (j := 1) (v := zq_i s_36 (232) (1)) rfl zq_a232 rfl rfl rfl ?_
            refine zq_ge rfl hx_38 (hR_39.1 _ _) (fun hb_47 => ?_) (fun hb_47 => ?_)
            · rw [if_neg hb_47] at w
              refine zq_run 1 (pc' := 99) (L' := [(.ref (232)), (zq_vi (x1)), (zq_vi (1)), (zq_vi (x_37))]) (st' := [(.ref (232)), (.ref (232))]) (fun _ _ _ => rfl) ?_
              refine zq_getf_i (j := 26) (v := zq_i s_36 (232) (26)) rfl zq_a232 rfl rfl rfl ?_
              refine zq_putf_i (j := 26) rfl zq_a232 rfl rfl rfl (hR_39.1 _ _) ?_
              refine zq_run 2 (pc' := 107) (L' := [(.ref (232)), (zq_vi (x1)), (zq_vi (1)), (zq_vi (x_37))]) (st' := [(zq_vi (0)), (.ref (232))]) (fun _ _ _ => rfl) ?_
              refine zq_putf_i (j := 1) rfl zq_a232 rfl rfl rfl (of_decide_eq_true rfl) ?_
              refine zq_run 2 (pc' := 112) (L' := [(.ref (232)), (zq_vi (x1)), (zq_vi (1)), (zq_vi (x_37))]) (st' := [(.ref (232)), (.ref (232))]) (fun _ _ _ => rfl) ?_
              refine zq_getf_i (j := 26) (v := zq_i s_36 (232) (26)) rfl zq_a232 rfl rfl (by simp [zq_i_si, zq_i_sr, zq_i_sl]) ?_
              refine zq_putf_i (j := 21) rfl zq_a232 rfl rfl rfl (hR_39.1 _ _) ?_
              refine zq_run 1 (pc' := 119) (L' := [(.ref (232)), (zq_vi (x1)), (zq_vi (1)), (zq_vi (x_37))]) (st' := [(.ref (232))]) (fun _ _ _ => rfl) ?_
              refine zq_getf_i (j := 26) (v := zq_i s_36 (232) (26)) rfl zq_a232 rfl rfl (by simp [zq_i_si, zq_i_sr, zq_i_sl]) ?_
              refine zq_lt0 rfl (hR_39.1 _ _) (fun hb_48 => ?_) (fun hb_48 => ?_)
              · rw [if_pos hb_48] at w
                refine zq_run 2 (pc' := 133) (L' := [(.ref (232)), (zq_vi (x1)), (zq_vi (1)), (zq_vi (x_37))]) (st' := [(zq_vi ((-1))), (.ref (232))]) (fun _ _ _ => rfl) ?_
                refine zq_putf_i (j := 21) rfl zq_a232 rfl rfl rfl (of_decide_eq_true rfl) ?_
                refine zq_run 2 (pc' := 138) (L' := [(.ref (232)), (zq_vi (x1)), (zq_vi (1)), (zq_vi (x_37))]) (st' := [(zq_vi (x1)), (.ref (232))]) (fun _ _ _ => rfl) ?_
                refine zq_call_v (i := .invokevirtual 269) (r := [1, 170, 1, 1, 9]) rfl rfl (fun h hp => zr_avv rfl (hp.obj zq_a232)) (of_decide_eq_false rfl) w (fun s_49 w => ?_)
                refine zq_run 1 (pc' := 142) (L' := [(.ref (232)), (zq_vi (x1)), (zq_vi (1)), (zq_vi (x_37))]) (st' := [(.ref (232))]) (fun _ _ _ => rfl) ?_
                refine zq_getf_f (b := 237) rfl zq_a232 rfl rfl ?_
                refine zq_run 2 (pc' := 147) (L' := [(.ref (232)), (zq_vi (x1)), (zq_vi (1)), (zq_vi (x_37))]) (st' := [(zq_vi (1)), (zq_vi (x1)), (.ref (237))]) (fun _ _ _ => rfl) ?_
                obtain ⟨g_50, w⟩ := w
                refine zq_ast_b rfl zq_a237 g_50.1 g_50.2 (of_decide_eq_true rfl) ?_
                refine zq_run 1 (pc' := 149) (L' := [(.ref (232)), (zq_vi (x1)), (zq_vi (1)), (zq_vi (x_37))]) (st' := [(.ref (232))]) (fun _ _ _ => rfl) ?_
                refine zq_getf_f (b := 242) rfl zq_a232 rfl rfl ?_
                refine zq_run 2 (pc' := 154) (L' := [(.ref (232)), (zq_vi (x1)), (zq_vi (1)), (zq_vi (x_37))]) (st' := [(zq_vi (0)), (zq_vi (x1)), (.ref (242))]) (fun _ _ _ => rfl) ?_
                obtain ⟨g_51, w⟩ := w
                refine zq_ast_b rfl zq_a242 g_51.1 g_51.2 (of_decide_eq_true rfl) ?_
                refine zq_run 1 (pc' := 156) (L' := [(.ref (232)), (zq_vi (x1)), (zq_vi (1)), (zq_vi (x_37))]) (st' := [(.ref (232))]) (fun _ _ _ => rfl) ?_
                refine zq_getf_f (b := 243) rfl zq_a232 rfl rfl ?_
                refine zq_run 2 (pc' := 161) (L' := [(.ref (232)), (zq_vi (x1)), (zq_vi (1)), (zq_vi (x_37))]) (st' := [(zq_vi (0)), (zq_vi (x1)), (.ref (243))]) (fun _ _ _ => rfl) ?_
                obtain ⟨g_52, w⟩ := w
                refine zq_ast_i rfl zq_a243 g_52.1 g_52.2 (of_decide_eq_true rfl) ?_
                refine zq_run 2 (pc' := 164) (L' := [(.ref (232)), (zq_vi (x1)), (zq_vi (1)), (zq_vi (x_37))]) (st' := [(zq_vi (x1)), (.ref (232))]) (fun _ _ _ => rfl) ?_
                refine zq_call_v (i := .invokevirtual 272) (r := [1, 171, 1, 1, 9]) rfl rfl (fun h hp => zr_avv rfl (hp.obj zq_a232)) (of_decide_eq_false rfl) w (fun s_53 w => ?_)
                exact zq_vret rfl rfl (⟨rfl, w⟩)
              · rw [if_neg hb_48] at w
                refine zq_run 2 (pc' := 127) (L' := [(.ref (232)), (zq_vi (x1)), (zq_vi (1)), (zq_vi (x_37))]) (st' := [(zq_vi (3)), (.ref (232))]) (fun _ _ _ => rfl) ?_
                refine zq_putf_i (j := 0) rfl zq_a232 rfl rfl rfl (of_decide_eq_true rfl) ?_
                exact zq_vret rfl rfl (⟨rfl, w⟩)
            · rw [if_pos hb_47] at w
              refine zq_run 2 (pc' := 102) (L' := [(.ref (232)), (zq_vi (x1)), (zq_vi (1)), (zq_vi (x_37))]) (st' := [(zq_vi (x_37)), (.ref (232))]) (fun _ _ _ => rfl) ?_
              refine zq_putf_i (j := 26) rfl zq_a232 rfl rfl rfl hx_38 ?_
              refine zq_run 2 (pc' := 107) (L' := [(.ref (232)), (zq_vi (x1)), (zq_vi (1)), (zq_vi (x_37))]) (st' := [(zq_vi (0)), (.ref (232))]) (fun _ _ _ => rfl) ?_
              refine zq_putf_i (j := 1) rfl zq_a232 rfl rfl rfl (of_decide_eq_true rfl) ?_
              refine zq_run 2 (pc' := 112) (L' := [(.ref (232)), (zq_vi (x1)), (zq_vi (1)), (zq_vi (x_37))]) (st' := [(.ref (232)), (.ref (232))]) (fun _ _ _ => rfl) ?_
              refine zq_getf_i (j := 26) (v := x_37) rfl zq_a232 rfl rfl (by simp [zq_i_si, zq_i_sr, zq_i_sl]) ?_
              refine zq_putf_i (j := 21) rfl zq_a232 rfl rfl rfl hx_38 ?_
              refine zq_run 1 (pc' := 119) (L' := [(.ref (232)), (zq_vi (x1)), (zq_vi (1)), (zq_vi (x_37))]) (st' := [(.ref (232))]) (fun _ _ _ => rfl) ?_
              refine zq_getf_i (j := 26) (v := x_37) rfl zq_a232 rfl rfl (by simp [zq_i_si, zq_i_sr, zq_i_sl]) ?_
              refine zq_lt0 rfl hx_38 (fun hb_54 => ?_) (fun hb_54 => ?_)
              · rw [if_pos hb_54] at w
                refine zq_run 2 (pc' := 133) (L' := [(.ref (232)), (zq_vi (x1)), (zq_vi (1)), (zq_vi (x_37))]) (st' := [(zq_vi ((-1))), (.ref (232))]) (fun _ _ _ => rfl) ?_
                refine zq_putf_i (j := 21) rfl zq_a232 rfl rfl rfl (of_decide_eq_true rfl) ?_
                refine zq_run 2 (pc' := 138) (L' := [(.ref (232)), (zq_vi (x1)), (zq_vi (1)), (zq_vi (x_37))]) (st' := [(zq_vi (x1)), (.ref (232))]) (fun _ _ _ => rfl) ?_
                refine zq_call_v (i := .invokevirtual 269) (r := [1, 170, 1, 1, 9]) rfl rfl (fun h hp => zr_avv rfl (hp.obj zq_a232)) (of_decide_eq_false rfl) w (fun s_55 w => ?_)
                refine zq_run 1 (pc' := 142) (L' := [(.ref (232)), (zq_vi (x1)), (zq_vi (1)), (zq_vi (x_37))]) (st' := [(.ref (232))]) (fun _ _ _ => rfl) ?_
                refine zq_getf_f (b := 237) rfl zq_a232 rfl rfl ?_
                refine zq_run 2 (pc' := 147) (L' := [(.ref (232)), (zq_vi (x1)), (zq_vi (1)), (zq_vi (x_37))]) (st' := [(zq_vi (1)), (zq_vi (x1)), (.ref (237))]) (fun _ _ _ => rfl) ?_
                obtain ⟨g_56, w⟩ := w
                refine zq_ast_b rfl zq_a237 g_56.1 g_56.2 (of_decide_eq_true rfl) ?_
                refine zq_run 1 (pc' := 149) (L' := [(.ref (232)), (zq_vi (x1)), (zq_vi (1)), (zq_vi (x_37))]) (st' := [(.ref (232))]) (fun _ _ _ => rfl) ?_
                refine zq_getf_f (b := 242) rfl zq_a232 rfl rfl ?_
                refine zq_run 2 (pc' := 154) (L' := [(.ref (232)), (zq_vi (x1)), (zq_vi (1)), (zq_vi (x_37))]) (st' := [(zq_vi (0)), (zq_vi (x1)), (.ref (242))]) (fun _ _ _ => rfl) ?_
                obtain ⟨g_57, w⟩ := w
                refine zq_ast_b rfl zq_a242 g_57.1 g_57.2 (of_decide_eq_true rfl) ?_
                refine zq_run 1 (pc' := 156) (L' := [(.ref (232)), (zq_vi (x1)), (zq_vi (1)), (zq_vi (x_37))]) (st' := [(.ref (232))]) (fun _ _ _ => rfl) ?_
                refine zq_getf_f (b := 243) rfl zq_a232 rfl rfl ?_
                refine zq_run 2 (pc' := 161) (L' := [(.ref (232)), (zq_vi (x1)), (zq_vi (1)), (zq_vi (x_37))]) (st' := [(zq_vi (0)), (zq_vi (x1)), (.ref (243))]) (fun _ _ _ => rfl) ?_
                obtain ⟨g_58, w⟩ := w
                refine zq_ast_i rfl zq_a243 g_58.1 g_58.2 (of_decide_eq_true rfl) ?_
                refine zq_run 2 (pc' := 164) (L' := [(.ref (232)), (zq_vi (x1)), (zq_vi (1)), (zq_vi (x_37))]) (st' := [(zq_vi (x1)), (.ref (232))]) (fun _ _ _ => rfl) ?_
                refine zq_call_v (i := .invokevirtual 272) (r := [1, 171, 1, 1, 9]) rfl rfl (fun h hp => zr_avv rfl (hp.obj zq_a232)) (of_decide_eq_false rfl) w (fun s_59 w => ?_)
                exact zq_vret rfl rfl (⟨rfl, w⟩)
              · rw [if_neg hb_54] at w
                refine zq_run 2 (pc' := 127) (L' := [(.ref (232)), (zq_vi (x1)), (zq_vi (1)), (zq_vi (x_37))]) (st' := [(zq_vi (3)), (.ref (232))]) (fun _ _ _ => rfl) ?_
                refine zq_putf_i (j := 0) rfl zq_a232 rfl rfl rfl (of_decide_eq_true rfl) ?_
                exact zq_vret rfl rfl (⟨rfl, w⟩)
        · rw [if_pos hb_33] at w
          refine zq_run 2 (pc' := 51) (L' := [(.ref (232)), (zq_vi (x1)), (zq_vi (1)), zz_no]) (st' := [(zq_vi (2)), (.ref (232))]) (fun _ _ _ => rfl) ?_
          refine zq_putf_i (j := 0) rfl zq_a232 rfl rfl rfl (of_decide_eq_true rfl) ?_
          refine zq_run 1 (pc' := 55) (L' := [(.ref (232)), (zq_vi (x1)), (zq_vi (1)), zz_no]) (st' := [(.ref (232))]) (fun _ _ _ => rfl) ?_
          refine zq_getf_i (j := 0) (v := 2) rfl zq_a232 rfl rfl rfl ?_
          refine zq_eq0 rfl (of_decide_eq_true rfl) (fun hb => absurd hb (by decide)) (fun _ => ?_)
          exact zq_vret rfl rfl (⟨rfl, w⟩)
/-- PaperObjectsModel.read(II)V -/
theorem zw_145 {X : Nat × (Nat → Int32)} {s : zq_S} {K : zq_S → Prop} {x1 : Int} (hx1 : zq_iv x1) {x2 : Int} (hx2 : zq_iv x2) (w : zq_Ex X 145 42 [(.ref (232)), (zq_vi (x1)), (zq_vi (x2)), (zq_vi (1)), zz_no] [] (zq_si (zq_si (zq_si (zq_si (zq_si (zq_si (zq_si (zq_si s (232) (25) (x2)) (232) (23) (0)) (232) (26) ((-1))) (232) (27) (0)) (232) (28) (0)) (232) (29) (0)) (232) (32) (0)) (232) (33) (0)) (zq_rv K)) : zq_Ex X 145 0 [(.ref (232)), (zq_vi (x1)), (zq_vi (x2)), zz_no, zz_no] [] s (zq_rv K) := by
  refine zq_run 2 (pc' := 2) (L' := [(.ref (232)), (zq_vi (x1)), (zq_vi (x2)), zz_no, zz_no]) (st' := [(zq_vi (x2)), (.ref (232))]) (fun _ _ _ => rfl) ?_
  refine zq_putf_i (j := 25) rfl zq_a232 rfl rfl rfl hx2 ?_
  refine zq_run 2 (pc' := 7) (L' := [(.ref (232)), (zq_vi (x1)), (zq_vi (x2)), zz_no, zz_no]) (st' := [(zq_vi (0)), (.ref (232))]) (fun _ _ _ => rfl) ?_
  refine zq_putf_i (j := 23) rfl zq_a232 rfl rfl rfl (of_decide_eq_true rfl) ?_
  refine zq_run 2 (pc' := 12) (L' := [(.ref (232)), (zq_vi (x1)), (zq_vi (x2)), zz_no, zz_no]) (st' := [(zq_vi ((-1))), (.ref (232))]) (fun _ _ _ => rfl) ?_
  refine zq_putf_i (j := 26) rfl zq_a232 rfl rfl rfl (of_decide_eq_true rfl) ?_
  refine zq_run 2 (pc' := 17) (L' := [(.ref (232)), (zq_vi (x1)), (zq_vi (x2)), zz_no, zz_no]) (st' := [(zq_vi (0)), (.ref (232))]) (fun _ _ _ => rfl) ?_
  refine zq_putf_i (j := 27) rfl zq_a232 rfl rfl rfl (of_decide_eq_true rfl) ?_
  refine zq_run 2 (pc' := 22) (L' := [(.ref (232)), (zq_vi (x1)), (zq_vi (x2)), zz_no, zz_no]) (st' := [(zq_vi (0)), (.ref (232))]) (fun _ _ _ => rfl) ?_
  refine zq_putf_i (j := 28) rfl zq_a232 rfl rfl rfl (of_decide_eq_true rfl) ?_
  refine zq_run 2 (pc' := 27) (L' := [(.ref (232)), (zq_vi (x1)), (zq_vi (x2)), zz_no, zz_no]) (st' := [(zq_vi (0)), (.ref (232))]) (fun _ _ _ => rfl) ?_
  refine zq_putf_i (j := 29) rfl zq_a232 rfl rfl rfl (of_decide_eq_true rfl) ?_
  refine zq_run 2 (pc' := 32) (L' := [(.ref (232)), (zq_vi (x1)), (zq_vi (x2)), zz_no, zz_no]) (st' := [(zq_vi (0)), (.ref (232))]) (fun _ _ _ => rfl) ?_
  refine zq_putf_b (j := 32) rfl zq_a232 rfl rfl rfl (of_decide_eq_true rfl) ?_
  refine zq_run 2 (pc' := 37) (L' := [(.ref (232)), (zq_vi (x1)), (zq_vi (x2)), zz_no, zz_no]) (st' := [(zq_vi (0)), (.ref (232))]) (fun _ _ _ => rfl) ?_
  refine zq_putf_i (j := 33) rfl zq_a232 rfl rfl rfl (of_decide_eq_true rfl) ?_
  refine zq_run 2 (pc' := 42) (L' := [(.ref (232)), (zq_vi (x1)), (zq_vi (x2)), (zq_vi (1)), zz_no]) (st' := []) (fun _ _ _ => rfl) ?_
  exact w
/-- PaperObjectsModel.read at 42 -/
theorem zw_145_42 {X : Nat × (Nat → Int32)} {s : zq_S} {K : zq_S → Prop} {x1 : Int} (hx1 : zq_iv x1) {x2 : Int} (hx2 : zq_iv x2) {x3 : Int} (hx3 : zq_bo x3) {v4 : Value} (hv4 : v4.category = 1) (w : (if x3 = 0 then K s else (zq_Ex X 146 0 [(.ref (232)), (zq_vi (x1)), (zq_vi (zq_i s (232) (25))), zz_no] [] s (zq_rp zq_iv fun x_4 s_3 => (if zq_i s_3 (232) (29) ≤ 0 then zq_Ex X 145 95 [(.ref (232)), (zq_vi (x1)), (zq_vi (x2)), (zq_vi (x3)), (zq_vi (x_4))] [] s_3 (zq_rv K) else (((0 : Int) ≤ zq_i s_3 (232) (29) ∧ zq_i s_3 (232) (29) < (8 : Int)) ∧ (if zq_i s_3 (246) (zq_i s_3 (232) (29)) = 7 then (if zq_i s_3 (232) (32) = 0 then (zq_Ex X 148 0 [(.ref (232)), (zq_vi (x1)), (zq_vi (x_4)), zz_no] [] s_3 (zq_rv fun s_11 => zq_Ex X 145 156 [(.ref (232)), (zq_vi (x1)), (zq_vi (x2)), (zq_vi (x3)), (zq_vi (x_4))] [] s_11 (zq_rv K))) else zq_Ex X 145 95 [(.ref (232)), (zq_vi (x1)), (zq_vi (x2)), (zq_vi (x3)), (zq_vi (x_4))] [] s_3 (zq_rv K)) else zq_Ex X 145 95 [(.ref (232)), (zq_vi (x1)), (zq_vi (x2)), (zq_vi (x3)), (zq_vi (x_4))] [] s_3 (zq_rv K)))))))) : zq_Ex X 145 42 [(.ref (232)), (zq_vi (x1)), (zq_vi (x2)), (zq_vi (x3)), v4] [] s (zq_rv K) := by
  refine zq_run 1 (pc' := 43) (L' := [(.ref (232)), (zq_vi (x1)), (zq_vi (x2)), (zq_vi (x3)), v4]) (st' := [(zq_vi (x3))]) (fun _ _ _ => rfl) ?_
  refine zq_eq0 rfl (zq_bo_in hx3) (fun hb_1 => ?_) (fun hb_1 => ?_)
  · rw [if_pos hb_1] at w
    exact zq_vret rfl rfl (⟨rfl, w⟩)
  · rw [if_neg hb_1] at w
    refine zq_run 3 (pc' := 49) (L' := [(.ref (232)), (zq_vi (x1)), (zq_vi (x2)), (zq_vi (x3)), v4]) (st' := [(.ref (232)), (zq_vi (x1)), (.ref (232))]) (fun _ _ _ => rfl) ?_
    refine zq_have (fun hR_2 => ?_)
    refine zq_getf_i (j := 25) (v := zq_i s (232) (25)) rfl zq_a232 rfl rfl rfl ?_
    refine zq_call_i (i := .invokevirtual 141) (r := [1, 146, 2, 1, 9]) rfl rfl (fun h hp => zr_avv rfl (hp.obj zq_a232)) (of_decide_eq_false rfl) w (fun x_4 s_3 hx_5 w => ?_)
    refine zq_run 2 (pc' := 58) (L' := [(.ref (232)), (zq_vi (x1)), (zq_vi (x2)), (zq_vi (x3)), (zq_vi (x_4))]) (st' := [(.ref (232))]) (fun _ _ _ => rfl) ?_
    refine zq_have (fun hR_6 => ?_)
    refine zq_getf_i (j := 29) (v := zq_i s_3 (232) (29)) rfl zq_a232 rfl rfl rfl ?_
    refine zq_le0 rfl (hR_6.1 _ _) (fun hb_7 => ?_) (fun hb_7 => ?_)
    · rw [if_pos hb_7] at w
      exact w
    · rw [if_neg hb_7] at w
      refine zq_run 1 (pc' := 65) (L' := [(.ref (232)), (zq_vi (x1)), (zq_vi (x2)), (zq_vi (x3)), (zq_vi (x_4))]) (st' := [(.ref (232))]) (fun _ _ _ => rfl) ?_
      refine zq_getf_f (b := 246) rfl zq_a232 rfl rfl ?_
      refine zq_run 1 (pc' := 69) (L' := [(.ref (232)), (zq_vi (x1)), (zq_vi (x2)), (zq_vi (x3)), (zq_vi (x_4))]) (st' := [(.ref (232)), (.ref (246))]) (fun _ _ _ => rfl) ?_
      refine zq_getf_i (j := 29) (v := zq_i s_3 (232) (29)) rfl zq_a232 rfl rfl rfl ?_
      obtain ⟨g_8, w⟩ := w
      refine zq_ald_i (v := zq_i s_3 (246) (zq_i s_3 (232) (29))) rfl zq_a246 g_8.1 g_8.2 rfl ?_
      refine zq_run 1 (pc' := 75) (L' := [(.ref (232)), (zq_vi (x1)), (zq_vi (x2)), (zq_vi (x3)), (zq_vi (x_4))]) (st' := [(zq_vi (7)), (zq_vi (zq_i s_3 (246) (zq_i s_3 (232) (29))))]) (fun _ _ _ => rfl) ?_
      refine zq_ne rfl (hR_6.1 _ _) (of_decide_eq_true rfl) (fun hb_9 => ?_) (fun hb_9 => ?_)
      · rw [if_neg hb_9] at w
        exact w
      · rw [if_pos hb_9] at w
        refine zq_run 1 (pc' := 79) (L' := [(.ref (232)), (zq_vi (x1)), (zq_vi (x2)), (zq_vi (x3)), (zq_vi (x_4))]) (st' := [(.ref (232))]) (fun _ _ _ => rfl) ?_
        refine zq_getf_i (j := 32) (v := zq_i s_3 (232) (32)) rfl zq_a232 rfl rfl rfl ?_
        refine zq_ne0 rfl (zq_bo_in (hR_6.2.2.2.1 _ 9 32 zq_a232 rfl)) (fun hb_10 => ?_) (fun hb_10 => ?_)
        · rw [if_neg hb_10] at w
          exact w
        · rw [if_pos hb_10] at w
          refine zq_run 3 (pc' := 89) (L' := [(.ref (232)), (zq_vi (x1)), (zq_vi (x2)), (zq_vi (x3)), (zq_vi (x_4))]) (st' := [(zq_vi (x_4)), (zq_vi (x1)), (.ref (232))]) (fun _ _ _ => rfl) ?_
          refine zq_call_v (i := .invokevirtual 214) (r := [1, 148, 2, 1, 9]) rfl rfl (fun h hp => zr_avv rfl (hp.obj zq_a232)) (of_decide_eq_false rfl) w (fun s_11 w => ?_)
          refine zq_run 1 (pc' := 156) (L' := [(.ref (232)), (zq_vi (x1)), (zq_vi (x2)), (zq_vi (x3)), (zq_vi (x_4))]) (st' := []) (fun _ _ _ => rfl) ?_
          exact w
/-- PaperObjectsModel.read at 95 -/
theorem zw_145_95 {X : Nat × (Nat → Int32)} {s : zq_S} {K : zq_S → Prop} {x1 : Int} (hx1 : zq_iv x1) {x2 : Int} (hx2 : zq_iv x2) {x3 : Int} (hx3 : zq_bo x3) {x4 : Int} (hx4 : zq_iv x4) (w : (if zq_i s (232) (29) ≤ 0 then (zq_Ex X 158 0 [(.ref (232)), (zq_vi (x1)), (zq_vi (x4)), zz_no] [] s (zq_rv fun s_3 => zq_Ex X 145 156 [(.ref (232)), (zq_vi (x1)), (zq_vi (x2)), (zq_vi (x3)), (zq_vi (x4))] [] s_3 (zq_rv K))) else (((0 : Int) ≤ zq_i s (232) (29) ∧ zq_i s (232) (29) < (8 : Int)) ∧ (if zq_i s (246) (zq_i s (232) (29)) = 6 then (zq_Ex X 147 0 [(.ref (232)), (zq_vi (x1)), (zq_vi (x4))] [] s (zq_rp zq_ch fun x_8 s_7 => (if x_8 = 93 then (zq_Ex X 150 0 [(.ref (232)), (zq_vi (93))] [] s_7 (zq_rv fun s_12 => (zq_iv (x4 + 1) ∧ (zq_Ex X 151 0 [(.ref (232))] [] (zq_si s_12 (232) (25) (x4 + 1)) (zq_rv fun s_14 => zq_Ex X 145 156 [(.ref (232)), (zq_vi (x1)), (zq_vi (x2)), (zq_vi (x3)), (zq_vi (x4))] [] s_14 (zq_rv K)))))) else (zq_Ex X 158 0 [(.ref (232)), (zq_vi (x1)), (zq_vi (x4)), zz_no] [] s_7 (zq_rv fun s_11 => zq_Ex X 145 156 [(.ref (232)), (zq_vi (x1)), (zq_vi (x2)), (zq_vi (x3)), (zq_vi (x4))] [] s_11 (zq_rv K)))))) else (zq_Ex X 158 0 [(.ref (232)), (zq_vi (x1)), (zq_vi (x4)), zz_no] [] s (zq_rv fun s_6 => zq_Ex X 145 156 [(.ref (232)), (zq_vi (x1)), (zq_vi (x2)), (zq_vi (x3)), (zq_vi (x4))] [] s_6 (zq_rv K))))))) : zq_Ex X 145 95 [(.ref (232)), (zq_vi (x1)), (zq_vi (x2)), (zq_vi (x3)), (zq_vi (x4))] [] s (zq_rv K) := by
  refine zq_run 1 (pc' := 96) (L' := [(.ref (232)), (zq_vi (x1)), (zq_vi (x2)), (zq_vi (x3)), (zq_vi (x4))]) (st' := [(.ref (232))]) (fun _ _ _ => rfl) ?_
  refine zq_have (fun hR_1 => ?_)
  refine zq_getf_i (j := 29) (v := zq_i s (232) (29)) rfl zq_a232 rfl rfl rfl ?_
  refine zq_le0 rfl (hR_1.1 _ _) (fun hb_2 => ?_) (fun hb_2 => ?_)
  · rw [if_pos hb_2] at w
    refine zq_run 3 (pc' := 153) (L' := [(.ref (232)), (zq_vi (x1)), (zq_vi (x2)), (zq_vi (x3)), (zq_vi (x4))]) (st' := [(zq_vi (x4)), (zq_vi (x1)), (.ref (232))]) (fun _ _ _ => rfl) ?_
    refine zq_call_v (i := .invokevirtual 218) (r := [1, 158, 2, 1, 9]) rfl rfl (fun h hp => zr_avv rfl (hp.obj zq_a232)) (of_decide_eq_false rfl) w (fun s_3 w => ?_)
    exact w
  · rw [if_neg hb_2] at w
    refine zq_run 1 (pc' := 103) (L' := [(.ref (232)), (zq_vi (x1)), (zq_vi (x2)), (zq_vi (x3)), (zq_vi (x4))]) (st' := [(.ref (232))]) (fun _ _ _ => rfl) ?_
    refine zq_getf_f (b := 246) rfl zq_a232 rfl rfl ?_
    refine zq_run 1 (pc' := 107) (L' := [(.ref (232)), (zq_vi (x1)), (zq_vi (x2)), (zq_vi (x3)), (zq_vi (x4))]) (st' := [(.ref (232)), (.ref (246))]) (fun _ _ _ => rfl) ?_
    refine zq_getf_i (j := 29) (v := zq_i s (232) (29)) rfl zq_a232 rfl rfl rfl ?_
    obtain ⟨g_4, w⟩ := w
    refine zq_ald_i (v := zq_i s (246) (zq_i s (232) (29))) rfl zq_a246 g_4.1 g_4.2 rfl ?_
    refine zq_run 1 (pc' := 113) (L' := [(.ref (232)), (zq_vi (x1)), (zq_vi (x2)), (zq_vi (x3)), (zq_vi (x4))]) (st' := [(zq_vi (6)), (zq_vi (zq_i s (246) (zq_i s (232) (29))))]) (fun _ _ _ => rfl) ?_
    refine zq_ne rfl (hR_1.1 _ _) (of_decide_eq_true rfl) (fun hb_5 => ?_) (fun hb_5 => ?_)
    · rw [if_neg hb_5] at w
      refine zq_run 3 (pc' := 153) (L' := [(.ref (232)), (zq_vi (x1)), (zq_vi (x2)), (zq_vi (x3)), (zq_vi (x4))]) (st' := [(zq_vi (x4)), (zq_vi (x1)), (.ref (232))]) (fun _ _ _ => rfl) ?_
      refine zq_call_v (i := .invokevirtual 218) (r := [1, 158, 2, 1, 9]) rfl rfl (fun h hp => zr_avv rfl (hp.obj zq_a232)) (of_decide_eq_false rfl) w (fun s_6 w => ?_)
      exact w
    · rw [if_pos hb_5] at w
      refine zq_run 3 (pc' := 120) (L' := [(.ref (232)), (zq_vi (x1)), (zq_vi (x2)), (zq_vi (x3)), (zq_vi (x4))]) (st' := [(zq_vi (x4)), (zq_vi (x1)), (.ref (232))]) (fun _ _ _ => rfl) ?_
      refine zq_call_i (i := .invokevirtual 119) (r := [1, 147, 2, 1, 9]) rfl rfl (fun h hp => zr_avv rfl (hp.obj zq_a232)) (of_decide_eq_false rfl) w (fun x_8 s_7 hx_9 w => ?_)
      refine zq_run 1 (pc' := 125) (L' := [(.ref (232)), (zq_vi (x1)), (zq_vi (x2)), (zq_vi (x3)), (zq_vi (x4))]) (st' := [(zq_vi (93)), (zq_vi (x_8))]) (fun _ _ _ => rfl) ?_
      refine zq_ne rfl (zq_ch_in hx_9) (of_decide_eq_true rfl) (fun hb_10 => ?_) (fun hb_10 => ?_)
      · rw [if_neg hb_10] at w
        refine zq_run 3 (pc' := 153) (L' := [(.ref (232)), (zq_vi (x1)), (zq_vi (x2)), (zq_vi (x3)), (zq_vi (x4))]) (st' := [(zq_vi (x4)), (zq_vi (x1)), (.ref (232))]) (fun _ _ _ => rfl) ?_
        refine zq_call_v (i := .invokevirtual 218) (r := [1, 158, 2, 1, 9]) rfl rfl (fun h hp => zr_avv rfl (hp.obj zq_a232)) (of_decide_eq_false rfl) w (fun s_11 w => ?_)
        exact w
      · rw [if_pos hb_10] at w
        refine zq_run 2 (pc' := 131) (L' := [(.ref (232)), (zq_vi (x1)), (zq_vi (x2)), (zq_vi (x3)), (zq_vi (x4))]) (st' := [(zq_vi (93)), (.ref (232))]) (fun _ _ _ => rfl) ?_
        refine zq_call_v (i := .invokevirtual 123) (r := [1, 150, 1, 1, 9]) rfl rfl (fun h hp => zr_avv rfl (hp.obj zq_a232)) (of_decide_eq_false rfl) w (fun s_12 w => ?_)
        refine zq_run 3 (pc' := 138) (L' := [(.ref (232)), (zq_vi (x1)), (zq_vi (x2)), (zq_vi (x3)), (zq_vi (x4))]) (st' := [(zq_vi (1)), (zq_vi (x4)), (.ref (232))]) (fun _ _ _ => rfl) ?_
        refine zq_iadd rfl ?_
        obtain ⟨g_13, w⟩ := w
        refine zq_putf_i (j := 25) rfl zq_a232 rfl rfl rfl g_13 ?_
        refine zq_run 1 (pc' := 143) (L' := [(.ref (232)), (zq_vi (x1)), (zq_vi (x2)), (zq_vi (x3)), (zq_vi (x4))]) (st' := [(.ref (232))]) (fun _ _ _ => rfl) ?_
        refine zq_call_v (i := .invokevirtual 189) (r := [1, 151, 0, 1, 9]) rfl rfl (fun h hp => zr_avv rfl (hp.obj zq_a232)) (of_decide_eq_false rfl) w (fun s_14 w => ?_)
        refine zq_run 1 (pc' := 156) (L' := [(.ref (232)), (zq_vi (x1)), (zq_vi (x2)), (zq_vi (x3)), (zq_vi (x4))]) (st' := []) (fun _ _ _ => rfl) ?_
        exact w
/-- PaperObjectsModel.read at 156 -/
theorem zw_145_156 {X : Nat × (Nat → Int32)} {s : zq_S} {K : zq_S → Prop} {x1 : Int} (hx1 : zq_iv x1) {x2 : Int} (hx2 : zq_iv x2) {x3 : Int} (hx3 : zq_bo x3) {x4 : Int} (hx4 : zq_iv x4) (w : (if zq_i s (232) (26) < 0 then (if zq_i s (232) (29) ≤ 0 then zq_Ex X 145 42 [(.ref (232)), (zq_vi (x1)), (zq_vi (x2)), (zq_vi (0)), (zq_vi (x4))] [] s (zq_rv K) else zq_Ex X 145 42 [(.ref (232)), (zq_vi (x1)), (zq_vi (x2)), (zq_vi (1)), (zq_vi (x4))] [] s (zq_rv K)) else zq_Ex X 145 42 [(.ref (232)), (zq_vi (x1)), (zq_vi (x2)), (zq_vi (0)), (zq_vi (x4))] [] s (zq_rv K))) : zq_Ex X 145 156 [(.ref (232)), (zq_vi (x1)), (zq_vi (x2)), (zq_vi (x3)), (zq_vi (x4))] [] s (zq_rv K) := by
  refine zq_run 1 (pc' := 157) (L' := [(.ref (232)), (zq_vi (x1)), (zq_vi (x2)), (zq_vi (x3)), (zq_vi (x4))]) (st' := [(.ref (232))]) (fun _ _ _ => rfl) ?_
  refine zq_have (fun hR_1 => ?_)
  refine zq_getf_i (j := 26) (v := zq_i s (232) (26)) rfl zq_a232 rfl rfl rfl ?_
  refine zq_ge0 rfl (hR_1.1 _ _) (fun hb_2 => ?_) (fun hb_2 => ?_)
  · rw [if_neg hb_2] at w
    refine zq_run 3 (pc' := 42) (L' := [(.ref (232)), (zq_vi (x1)), (zq_vi (x2)), (zq_vi (0)), (zq_vi (x4))]) (st' := []) (fun _ _ _ => rfl) ?_
    exact w
  · rw [if_pos hb_2] at w
    refine zq_run 1 (pc' := 164) (L' := [(.ref (232)), (zq_vi (x1)), (zq_vi (x2)), (zq_vi (x3)), (zq_vi (x4))]) (st' := [(.ref (232))]) (fun _ _ _ => rfl) ?_
    refine zq_getf_i (j := 29) (v := zq_i s (232) (29)) rfl zq_a232 rfl rfl rfl ?_
    refine zq_le0 rfl (hR_1.1 _ _) (fun hb_3 => ?_) (fun hb_3 => ?_)
    · rw [if_pos hb_3] at w
      refine zq_run 3 (pc' := 42) (L' := [(.ref (232)), (zq_vi (x1)), (zq_vi (x2)), (zq_vi (0)), (zq_vi (x4))]) (st' := []) (fun _ _ _ => rfl) ?_
      exact w
    · rw [if_neg hb_3] at w
      refine zq_run 4 (pc' := 42) (L' := [(.ref (232)), (zq_vi (x1)), (zq_vi (x2)), (zq_vi (1)), (zq_vi (x4))]) (st' := []) (fun _ _ _ => rfl) ?_
      exact w
/-- PaperObjectsModel.skip(II)I -/
theorem zw_146 {X : Nat × (Nat → Int32)} {s : zq_S} {K : Int → zq_S → Prop} {x1 : Int} (hx1 : zq_iv x1) {x2 : Int} (hx2 : zq_iv x2) (w : zq_Ex X 146 2 [(.ref (232)), (zq_vi (x1)), (zq_vi (x2)), (zq_vi (x2))] [] s (zq_rp zq_iv K)) : zq_Ex X 146 0 [(.ref (232)), (zq_vi (x1)), (zq_vi (x2)), zz_no] [] s (zq_rp zq_iv K) := by
  refine zq_run 2 (pc' := 2) (L' := [(.ref (232)), (zq_vi (x1)), (zq_vi (x2)), (zq_vi (x2))]) (st' := []) (fun _ _ _ => rfl) ?_
  exact w
/-- PaperObjectsModel.skip at 2 -/
theorem zw_146_2 {X : Nat × (Nat → Int32)} {s : zq_S} {K : Int → zq_S → Prop} {x1 : Int} (hx1 : zq_iv x1) {x2 : Int} (hx2 : zq_iv x2) {x3 : Int} (hx3 : zq_iv x3) (w : (zq_Ex X 147 0 [(.ref (232)), (zq_vi (x1)), (zq_vi (x3))] [] s (zq_rp zq_ch fun x_2 s_1 => (if x_2 = 32 then zq_Ex X 146 2 [(.ref (232)), (zq_vi (x1)), (zq_vi (x2)), (zq_vi (x3 + 1))] [] s_1 (zq_rp zq_iv K) else (zq_Ex X 147 0 [(.ref (232)), (zq_vi (x1)), (zq_vi (x3))] [] s_1 (zq_rp zq_ch fun x_6 s_5 => (if x_6 = 10 then zq_Ex X 146 2 [(.ref (232)), (zq_vi (x1)), (zq_vi (x2)), (zq_vi (x3 + 1))] [] s_5 (zq_rp zq_iv K) else K (x3) s_5))))))) : zq_Ex X 146 2 [(.ref (232)), (zq_vi (x1)), (zq_vi (x2)), (zq_vi (x3))] [] s (zq_rp zq_iv K) := by
  refine zq_run 3 (pc' := 5) (L' := [(.ref (232)), (zq_vi (x1)), (zq_vi (x2)), (zq_vi (x3))]) (st' := [(zq_vi (x3)), (zq_vi (x1)), (.ref (232))]) (fun _ _ _ => rfl) ?_
  refine zq_call_i (i := .invokevirtual 119) (r := [1, 147, 2, 1, 9]) rfl rfl (fun h hp => zr_avv rfl (hp.obj zq_a232)) (of_decide_eq_false rfl) w (fun x_2 s_1 hx_3 w => ?_)
  refine zq_run 1 (pc' := 10) (L' := [(.ref (232)), (zq_vi (x1)), (zq_vi (x2)), (zq_vi (x3))]) (st' := [(zq_vi (32)), (zq_vi (x_2))]) (fun _ _ _ => rfl) ?_
  refine zq_eq rfl (zq_ch_in hx_3) (of_decide_eq_true rfl) (fun hb_4 => ?_) (fun hb_4 => ?_)
  · rw [if_pos hb_4] at w
    refine zq_iinc (L' := [(.ref (232)), (zq_vi (x1)), (zq_vi (x2)), (zq_vi (x3 + 1))]) rfl rfl rfl ?_
    refine zq_run 1 (pc' := 2) (L' := [(.ref (232)), (zq_vi (x1)), (zq_vi (x2)), (zq_vi (x3 + 1))]) (st' := []) (fun _ _ _ => rfl) ?_
    exact w
  · rw [if_neg hb_4] at w
    refine zq_run 3 (pc' := 16) (L' := [(.ref (232)), (zq_vi (x1)), (zq_vi (x2)), (zq_vi (x3))]) (st' := [(zq_vi (x3)), (zq_vi (x1)), (.ref (232))]) (fun _ _ _ => rfl) ?_
    refine zq_call_i (i := .invokevirtual 119) (r := [1, 147, 2, 1, 9]) rfl rfl (fun h hp => zr_avv rfl (hp.obj zq_a232)) (of_decide_eq_false rfl) w (fun x_6 s_5 hx_7 w => ?_)
    refine zq_run 1 (pc' := 21) (L' := [(.ref (232)), (zq_vi (x1)), (zq_vi (x2)), (zq_vi (x3))]) (st' := [(zq_vi (10)), (zq_vi (x_6))]) (fun _ _ _ => rfl) ?_
    refine zq_ne rfl (zq_ch_in hx_7) (of_decide_eq_true rfl) (fun hb_8 => ?_) (fun hb_8 => ?_)
    · rw [if_neg hb_8] at w
      refine zq_run 1 (pc' := 31) (L' := [(.ref (232)), (zq_vi (x1)), (zq_vi (x2)), (zq_vi (x3))]) (st' := [(zq_vi (x3))]) (fun _ _ _ => rfl) ?_
      exact zq_iret rfl rfl rfl (⟨_, rfl, hx3, w⟩)
    · rw [if_pos hb_8] at w
      refine zq_iinc (L' := [(.ref (232)), (zq_vi (x1)), (zq_vi (x2)), (zq_vi (x3 + 1))]) rfl rfl rfl ?_
      refine zq_run 1 (pc' := 2) (L' := [(.ref (232)), (zq_vi (x1)), (zq_vi (x2)), (zq_vi (x3 + 1))]) (st' := []) (fun _ _ _ => rfl) ?_
      exact w
/-- PaperObjectsModel.ch(II)C -/
theorem zw_147 {X : Nat × (Nat → Int32)} {s : zq_S} {K : Int → zq_S → Prop} {x1 : Int} (hx1 : zq_iv x1) {x2 : Int} (hx2 : zq_iv x2) (w : (if x2 < 0 then K (0) s else (if x1 = 0 then (if x2 < zq_i s (232) (1) then (((0 : Int) ≤ x2 ∧ x2 < (100 : Int)) ∧ K (zq_i s (233) (x2)) s) else K (0) s) else (if x1 = 1 then (if x2 < zq_i s (232) (3) then (((0 : Int) ≤ x2 ∧ x2 < (999 : Int)) ∧ K (zq_i s (234) (x2)) s) else K (0) s) else (if x1 = 2 then (if x2 < zq_i s (232) (5) then (((0 : Int) ≤ x2 ∧ x2 < (500 : Int)) ∧ K (zq_i s (235) (x2)) s) else K (0) s) else (if x1 = 3 then (if x2 < zq_i s (232) (23) then (((0 : Int) ≤ x2 ∧ x2 < (700 : Int)) ∧ K (zq_i s (245) (x2)) s) else K (0) s) else (((0 : Int) ≤ x1 - 10 ∧ x1 - 10 < (10 : Int)) ∧ (if x2 < zq_i s (240) (x1 - 10) then (((0 : Int) ≤ (500 * (x1 - 10)) + x2 ∧ (500 * (x1 - 10)) + x2 < (5000 : Int)) ∧ K (zq_i s (241) ((500 * (x1 - 10)) + x2)) s) else K (0) s)))))))) : zq_Ex X 147 0 [(.ref (232)), (zq_vi (x1)), (zq_vi (x2))] [] s (zq_rp zq_ch K) := by
  refine zq_run 1 (pc' := 1) (L' := [(.ref (232)), (zq_vi (x1)), (zq_vi (x2))]) (st' := [(zq_vi (x2))]) (fun _ _ _ => rfl) ?_
  refine zq_ge0 rfl hx2 (fun hb_1 => ?_) (fun hb_1 => ?_)
  · rw [if_neg hb_1] at w
    refine zq_run 1 (pc' := 7) (L' := [(.ref (232)), (zq_vi (x1)), (zq_vi (x2))]) (st' := [(zq_vi (x1))]) (fun _ _ _ => rfl) ?_
    by_cases hb_2 : x1 = 0
    · rw [if_pos hb_2] at w
      refine zq_tsw rfl (by rw [hb_2] <;> rfl) ?_
      refine zq_run 2 (pc' := 38) (L' := [(.ref (232)), (zq_vi (x1)), (zq_vi (x2))]) (st' := [(.ref (232)), (zq_vi (x2))]) (fun _ _ _ => rfl) ?_
      refine zq_have (fun hR_3 => ?_)
      refine zq_getf_i (j := 1) (v := zq_i s (232) (1)) rfl zq_a232 rfl rfl rfl ?_
      refine zq_ge rfl hx2 (hR_3.1 _ _) (fun hb_4 => ?_) (fun hb_4 => ?_)
      · rw [if_neg hb_4] at w
        refine zq_run 1 (pc' := 54) (L' := [(.ref (232)), (zq_vi (x1)), (zq_vi (x2))]) (st' := [(zq_vi (0))]) (fun _ _ _ => rfl) ?_
        exact zq_iret rfl rfl (congrArg Value.int (zq_nc (of_decide_eq_true rfl))) (⟨_, rfl, (of_decide_eq_true rfl), w⟩)
      · rw [if_pos hb_4] at w
        refine zq_run 1 (pc' := 45) (L' := [(.ref (232)), (zq_vi (x1)), (zq_vi (x2))]) (st' := [(.ref (232))]) (fun _ _ _ => rfl) ?_
        refine zq_getf_f (b := 233) rfl zq_a232 rfl rfl ?_
        refine zq_run 1 (pc' := 49) (L' := [(.ref (232)), (zq_vi (x1)), (zq_vi (x2))]) (st' := [(zq_vi (x2)), (.ref (233))]) (fun _ _ _ => rfl) ?_
        obtain ⟨g_5, w⟩ := w
        refine zq_ald_c (v := zq_i s (233) (x2)) rfl zq_a233 g_5.1 g_5.2 rfl ?_
        refine zq_run 1 (pc' := 54) (L' := [(.ref (232)), (zq_vi (x1)), (zq_vi (x2))]) (st' := [(zq_vi (zq_i s (233) (x2)))]) (fun _ _ _ => rfl) ?_
        exact zq_iret rfl rfl (congrArg Value.int (zq_nc (hR_3.2.1 _ _ _ zq_a233))) (⟨_, rfl, (hR_3.2.1 _ _ _ zq_a233), w⟩)
    · rw [if_neg hb_2] at w
      by_cases hb_6 : x1 = 1
      · rw [if_pos hb_6] at w
        refine zq_tsw rfl (by rw [hb_6] <;> rfl) ?_
        refine zq_run 2 (pc' := 57) (L' := [(.ref (232)), (zq_vi (x1)), (zq_vi (x2))]) (st' := [(.ref (232)), (zq_vi (x2))]) (fun _ _ _ => rfl) ?_
        refine zq_have (fun hR_7 => ?_)
        refine zq_getf_i (j := 3) (v := zq_i s (232) (3)) rfl zq_a232 rfl rfl rfl ?_
        refine zq_ge rfl hx2 (hR_7.1 _ _) (fun hb_8 => ?_) (fun hb_8 => ?_)
        · rw [if_neg hb_8] at w
          refine zq_run 1 (pc' := 73) (L' := [(.ref (232)), (zq_vi (x1)), (zq_vi (x2))]) (st' := [(zq_vi (0))]) (fun _ _ _ => rfl) ?_
          exact zq_iret rfl rfl (congrArg Value.int (zq_nc (of_decide_eq_true rfl))) (⟨_, rfl, (of_decide_eq_true rfl), w⟩)
        · rw [if_pos hb_8] at w
          refine zq_run 1 (pc' := 64) (L' := [(.ref (232)), (zq_vi (x1)), (zq_vi (x2))]) (st' := [(.ref (232))]) (fun _ _ _ => rfl) ?_
          refine zq_getf_f (b := 234) rfl zq_a232 rfl rfl ?_
          refine zq_run 1 (pc' := 68) (L' := [(.ref (232)), (zq_vi (x1)), (zq_vi (x2))]) (st' := [(zq_vi (x2)), (.ref (234))]) (fun _ _ _ => rfl) ?_
          obtain ⟨g_9, w⟩ := w
          refine zq_ald_c (v := zq_i s (234) (x2)) rfl zq_a234 g_9.1 g_9.2 rfl ?_
          refine zq_run 1 (pc' := 73) (L' := [(.ref (232)), (zq_vi (x1)), (zq_vi (x2))]) (st' := [(zq_vi (zq_i s (234) (x2)))]) (fun _ _ _ => rfl) ?_
          exact zq_iret rfl rfl (congrArg Value.int (zq_nc (hR_7.2.1 _ _ _ zq_a234))) (⟨_, rfl, (hR_7.2.1 _ _ _ zq_a234), w⟩)
      · rw [if_neg hb_6] at w
        by_cases hb_10 : x1 = 2
        · rw [if_pos hb_10] at w
          refine zq_tsw rfl (by rw [hb_10] <;> rfl) ?_
          refine zq_run 2 (pc' := 76) (L' := [(.ref (232)), (zq_vi (x1)), (zq_vi (x2))]) (st' := [(.ref (232)), (zq_vi (x2))]) (fun _ _ _ => rfl) ?_
          refine zq_have (fun hR_11 => ?_)
          refine zq_getf_i (j := 5) (v := zq_i s (232) (5)) rfl zq_a232 rfl rfl rfl ?_
          refine zq_ge rfl hx2 (hR_11.1 _ _) (fun hb_12 => ?_) (fun hb_12 => ?_)
          · rw [if_neg hb_12] at w
            refine zq_run 1 (pc' := 92) (L' := [(.ref (232)), (zq_vi (x1)), (zq_vi (x2))]) (st' := [(zq_vi (0))]) (fun _ _ _ => rfl) ?_
            exact zq_iret rfl rfl (congrArg Value.int (zq_nc (of_decide_eq_true rfl))) (⟨_, rfl, (of_decide_eq_true rfl), w⟩)
          · rw [if_pos hb_12] at w
            refine zq_run 1 (pc' := 83) (L' := [(.ref (232)), (zq_vi (x1)), (zq_vi (x2))]) (st' := [(.ref (232))]) (fun _ _ _ => rfl) ?_
            refine zq_getf_f (b := 235) rfl zq_a232 rfl rfl ?_
            refine zq_run 1 (pc' := 87) (L' := [(.ref (232)), (zq_vi (x1)), (zq_vi (x2))]) (st' := [(zq_vi (x2)), (.ref (235))]) (fun _ _ _ => rfl) ?_
            obtain ⟨g_13, w⟩ := w
            refine zq_ald_c (v := zq_i s (235) (x2)) rfl zq_a235 g_13.1 g_13.2 rfl ?_
            refine zq_run 1 (pc' := 92) (L' := [(.ref (232)), (zq_vi (x1)), (zq_vi (x2))]) (st' := [(zq_vi (zq_i s (235) (x2)))]) (fun _ _ _ => rfl) ?_
            exact zq_iret rfl rfl (congrArg Value.int (zq_nc (hR_11.2.1 _ _ _ zq_a235))) (⟨_, rfl, (hR_11.2.1 _ _ _ zq_a235), w⟩)
        · rw [if_neg hb_10] at w
          by_cases hb_14 : x1 = 3
          · rw [if_pos hb_14] at w
            refine zq_tsw rfl (by rw [hb_14] <;> rfl) ?_
            refine zq_run 2 (pc' := 95) (L' := [(.ref (232)), (zq_vi (x1)), (zq_vi (x2))]) (st' := [(.ref (232)), (zq_vi (x2))]) (fun _ _ _ => rfl) ?_
            refine zq_have (fun hR_15 => ?_)
            refine zq_getf_i (j := 23) (v := zq_i s (232) (23)) rfl zq_a232 rfl rfl rfl ?_
            refine zq_ge rfl hx2 (hR_15.1 _ _) (fun hb_16 => ?_) (fun hb_16 => ?_)
            · rw [if_neg hb_16] at w
              refine zq_run 1 (pc' := 111) (L' := [(.ref (232)), (zq_vi (x1)), (zq_vi (x2))]) (st' := [(zq_vi (0))]) (fun _ _ _ => rfl) ?_
              exact zq_iret rfl rfl (congrArg Value.int (zq_nc (of_decide_eq_true rfl))) (⟨_, rfl, (of_decide_eq_true rfl), w⟩)
            · rw [if_pos hb_16] at w
              refine zq_run 1 (pc' := 102) (L' := [(.ref (232)), (zq_vi (x1)), (zq_vi (x2))]) (st' := [(.ref (232))]) (fun _ _ _ => rfl) ?_
              refine zq_getf_f (b := 245) rfl zq_a232 rfl rfl ?_
              refine zq_run 1 (pc' := 106) (L' := [(.ref (232)), (zq_vi (x1)), (zq_vi (x2))]) (st' := [(zq_vi (x2)), (.ref (245))]) (fun _ _ _ => rfl) ?_
              obtain ⟨g_17, w⟩ := w
              refine zq_ald_c (v := zq_i s (245) (x2)) rfl zq_a245 g_17.1 g_17.2 rfl ?_
              refine zq_run 1 (pc' := 111) (L' := [(.ref (232)), (zq_vi (x1)), (zq_vi (x2))]) (st' := [(zq_vi (zq_i s (245) (x2)))]) (fun _ _ _ => rfl) ?_
              exact zq_iret rfl rfl (congrArg Value.int (zq_nc (hR_15.2.1 _ _ _ zq_a245))) (⟨_, rfl, (hR_15.2.1 _ _ _ zq_a245), w⟩)
          · rw [if_neg hb_14] at w
            refine zq_tsw rfl (zq_tabd hx1 (by omega)) ?_
            refine zq_run 2 (pc' := 114) (L' := [(.ref (232)), (zq_vi (x1)), (zq_vi (x2))]) (st' := [(.ref (232)), (zq_vi (x2))]) (fun _ _ _ => rfl) ?_
            refine zq_getf_f (b := 240) rfl zq_a232 rfl rfl ?_
            refine zq_run 2 (pc' := 120) (L' := [(.ref (232)), (zq_vi (x1)), (zq_vi (x2))]) (st' := [(zq_vi (10)), (zq_vi (x1)), (.ref (240)), (zq_vi (x2))]) (fun _ _ _ => rfl) ?_
            refine zq_isub rfl ?_
            obtain ⟨g_18, w⟩ := w
            refine zq_have (fun hR_19 => ?_)
            refine zq_ald_i (v := zq_i s (240) (x1 - 10)) rfl zq_a240 g_18.1 g_18.2 rfl ?_
            refine zq_ge rfl hx2 (hR_19.1 _ _) (fun hb_20 => ?_) (fun hb_20 => ?_)
            · rw [if_neg hb_20] at w
              refine zq_run 1 (pc' := 144) (L' := [(.ref (232)), (zq_vi (x1)), (zq_vi (x2))]) (st' := [(zq_vi (0))]) (fun _ _ _ => rfl) ?_
              exact zq_iret rfl rfl (congrArg Value.int (zq_nc (of_decide_eq_true rfl))) (⟨_, rfl, (of_decide_eq_true rfl), w⟩)
            · rw [if_pos hb_20] at w
              refine zq_run 1 (pc' := 126) (L' := [(.ref (232)), (zq_vi (x1)), (zq_vi (x2))]) (st' := [(.ref (232))]) (fun _ _ _ => rfl) ?_
              refine zq_getf_f (b := 241) rfl zq_a232 rfl rfl ?_
              refine zq_run 3 (pc' := 135) (L' := [(.ref (232)), (zq_vi (x1)), (zq_vi (x2))]) (st' := [(zq_vi (10)), (zq_vi (x1)), (zq_vi (500)), (.ref (241))]) (fun _ _ _ => rfl) ?_
              refine zq_isub rfl ?_
              refine zq_imul rfl ?_
              refine zq_run 1 (pc' := 138) (L' := [(.ref (232)), (zq_vi (x1)), (zq_vi (x2))]) (st' := [(zq_vi (x2)), (zq_vi (500 * (x1 - 10))), (.ref (241))]) (fun _ _ _ => rfl) ?_
              refine zq_iadd rfl ?_
              obtain ⟨g_21, w⟩ := w
              refine zq_ald_c (v := zq_i s (241) ((500 * (x1 - 10)) + x2)) rfl zq_a241 g_21.1 g_21.2 rfl ?_
              refine zq_run 1 (pc' := 144) (L' := [(.ref (232)), (zq_vi (x1)), (zq_vi (x2))]) (st' := [(zq_vi (zq_i s (241) ((500 * (x1 - 10)) + x2)))]) (fun _ _ _ => rfl) ?_
              exact zq_iret rfl rfl (congrArg Value.int (zq_nc (hR_19.2.1 _ _ _ zq_a241))) (⟨_, rfl, (hR_19.2.1 _ _ _ zq_a241), w⟩)
  · rw [if_pos hb_1] at w
    refine zq_run 1 (pc' := 5) (L' := [(.ref (232)), (zq_vi (x1)), (zq_vi (x2))]) (st' := [(zq_vi (0))]) (fun _ _ _ => rfl) ?_
    exact zq_iret rfl rfl (congrArg Value.int (zq_nc (of_decide_eq_true rfl))) (⟨_, rfl, (of_decide_eq_true rfl), w⟩)
/-- PaperObjectsModel.readKey(II)V -/
theorem zw_148 {X : Nat × (Nat → Int32)} {s : zq_S} {K : zq_S → Prop} {x1 : Int} (hx1 : zq_iv x1) {x2 : Int} (hx2 : zq_iv x2) (w : (zq_Ex X 149 0 [(.ref (232)), (zq_vi (x1)), (zq_vi (x2)), (zq_vi (62))] [] s (zq_rp zq_bo fun x_2 s_1 => (if x_2 = 0 then (zq_Ex X 152 0 [(.ref (232)), (zq_vi (x1)), (zq_vi (x2)), zz_no] [] s_1 (zq_rp zq_bo fun x_6 s_5 => (if x_6 = 0 then K (zq_si s_5 (232) (26) (x2)) else (zq_Ex X 156 0 [(.ref (232)), (zq_vi (x1)), (zq_vi (x2)), zz_no, zz_no, zz_no, zz_no, zz_no] [] s_5 (zq_rp zq_bo fun x_10 s_9 => (if x_10 = 0 then (((0 : Int) ≤ zq_i s_9 (232) (29) ∧ zq_i s_9 (232) (29) < (8 : Int)) ∧ (if zq_i s_9 (247) (zq_i s_9 (232) (29)) ≤ 0 then (((0 : Int) ≤ zq_i s_9 (232) (33) ∧ zq_i s_9 (232) (33) < (16 : Int)) ∧ (((0 : Int) ≤ zq_i s_9 (232) (33) ∧ zq_i s_9 (232) (33) < (16 : Int)) ∧ (zq_iv ((zq_i s_9 (232) (33)) + 1) ∧ (zq_Ex X 153 0 [(.ref (232)), (zq_vi (x1)), (zq_vi (x2)), zz_no] [] (zq_si (zq_si (zq_si s_9 (248) (zq_i s_9 (232) (33)) (zq_i s_9 (232) (23))) (249) (zq_i s_9 (232) (33)) (zq_i s_9 (232) (29))) (232) (33) ((zq_i s_9 (232) (33)) + 1)) (zq_rp zq_iv fun x_23 s_22 => (zq_Ex X 157 0 [(.ref (232)), (zq_vi (x1)), (zq_vi (x2)), (zq_vi (x_23)), zz_no] [] s_22 (zq_rv fun s_25 => (zq_Ex X 150 0 [(.ref (232)), (zq_vi (32))] [] s_25 (zq_rv fun s_26 => K (zq_si (zq_si s_26 (232) (25) (x_23)) (232) (32) (1))))))))))) else (zq_Ex X 150 0 [(.ref (232)), (zq_vi (32))] [] s_9 (zq_rv fun s_27 => (((0 : Int) ≤ zq_i s_27 (232) (33) ∧ zq_i s_27 (232) (33) < (16 : Int)) ∧ (((0 : Int) ≤ zq_i s_27 (232) (33) ∧ zq_i s_27 (232) (33) < (16 : Int)) ∧ (zq_iv ((zq_i s_27 (232) (33)) + 1) ∧ (zq_Ex X 153 0 [(.ref (232)), (zq_vi (x1)), (zq_vi (x2)), zz_no] [] (zq_si (zq_si (zq_si s_27 (248) (zq_i s_27 (232) (33)) (zq_i s_27 (232) (23))) (249) (zq_i s_27 (232) (33)) (zq_i s_27 (232) (29))) (232) (33) ((zq_i s_27 (232) (33)) + 1)) (zq_rp zq_iv fun x_36 s_35 => (zq_Ex X 157 0 [(.ref (232)), (zq_vi (x1)), (zq_vi (x2)), (zq_vi (x_36)), zz_no] [] s_35 (zq_rv fun s_38 => (zq_Ex X 150 0 [(.ref (232)), (zq_vi (32))] [] s_38 (zq_rv fun s_39 => K (zq_si (zq_si s_39 (232) (25) (x_36)) (232) (32) (1))))))))))))))) else K (zq_si s_9 (232) (26) (x2)))))))) else (zq_Ex X 150 0 [(.ref (232)), (zq_vi (62))] [] s_1 (zq_rv fun s_40 => (zq_Ex X 150 0 [(.ref (232)), (zq_vi (62))] [] s_40 (zq_rv fun s_41 => (zq_iv (x2 + 2) ∧ (zq_Ex X 151 0 [(.ref (232))] [] (zq_si s_41 (232) (25) (x2 + 2)) (zq_rv fun s_43 => K s_43))))))))))) : zq_Ex X 148 0 [(.ref (232)), (zq_vi (x1)), (zq_vi (x2)), zz_no] [] s (zq_rv K) := by
  refine zq_run 4 (pc' := 5) (L' := [(.ref (232)), (zq_vi (x1)), (zq_vi (x2)), zz_no]) (st' := [(zq_vi (62)), (zq_vi (x2)), (zq_vi (x1)), (.ref (232))]) (fun _ _ _ => rfl) ?_
  refine zq_call_i (i := .invokevirtual 186) (r := [1, 149, 3, 1, 9]) rfl rfl (fun h hp => zr_avv rfl (hp.obj zq_a232)) (of_decide_eq_false rfl) w (fun x_2 s_1 hx_3 w => ?_)
  refine zq_eq0 rfl (zq_bo_in hx_3) (fun hb_4 => ?_) (fun hb_4 => ?_)
  · rw [if_pos hb_4] at w
    refine zq_run 3 (pc' := 38) (L' := [(.ref (232)), (zq_vi (x1)), (zq_vi (x2)), zz_no]) (st' := [(zq_vi (x2)), (zq_vi (x1)), (.ref (232))]) (fun _ _ _ => rfl) ?_
    refine zq_call_i (i := .invokevirtual 144) (r := [1, 152, 2, 1, 9]) rfl rfl (fun h hp => zr_avv rfl (hp.obj zq_a232)) (of_decide_eq_false rfl) w (fun x_6 s_5 hx_7 w => ?_)
    refine zq_eq0 rfl (zq_bo_in hx_7) (fun hb_8 => ?_) (fun hb_8 => ?_)
    · rw [if_pos hb_8] at w
      refine zq_run 2 (pc' := 55) (L' := [(.ref (232)), (zq_vi (x1)), (zq_vi (x2)), zz_no]) (st' := [(zq_vi (x2)), (.ref (232))]) (fun _ _ _ => rfl) ?_
      refine zq_putf_i (j := 26) rfl zq_a232 rfl rfl rfl hx2 ?_
      exact zq_vret rfl rfl (⟨rfl, w⟩)
    · rw [if_neg hb_8] at w
      refine zq_run 3 (pc' := 47) (L' := [(.ref (232)), (zq_vi (x1)), (zq_vi (x2)), zz_no]) (st' := [(zq_vi (x2)), (zq_vi (x1)), (.ref (232))]) (fun _ _ _ => rfl) ?_
      refine zq_call_i (i := .invokevirtual 192) (r := [1, 156, 2, 1, 9]) rfl rfl (fun h hp => zr_avv rfl (hp.obj zq_a232)) (of_decide_eq_false rfl) w (fun x_10 s_9 hx_11 w => ?_)
      refine zq_eq0 rfl (zq_bo_in hx_11) (fun hb_12 => ?_) (fun hb_12 => ?_)
      · rw [if_pos hb_12] at w
        refine zq_run 1 (pc' := 60) (L' := [(.ref (232)), (zq_vi (x1)), (zq_vi (x2)), zz_no]) (st' := [(.ref (232))]) (fun _ _ _ => rfl) ?_
        refine zq_getf_f (b := 247) rfl zq_a232 rfl rfl ?_
        refine zq_run 1 (pc' := 64) (L' := [(.ref (232)), (zq_vi (x1)), (zq_vi (x2)), zz_no]) (st' := [(.ref (232)), (.ref (247))]) (fun _ _ _ => rfl) ?_
        refine zq_have (fun hR_13 => ?_)
        refine zq_getf_i (j := 29) (v := zq_i s_9 (232) (29)) rfl zq_a232 rfl rfl rfl ?_
        obtain ⟨g_14, w⟩ := w
        refine zq_ald_i (v := zq_i s_9 (247) (zq_i s_9 (232) (29))) rfl zq_a247 g_14.1 g_14.2 rfl ?_
        refine zq_le0 rfl (hR_13.1 _ _) (fun hb_15 => ?_) (fun hb_15 => ?_)
        · rw [if_pos hb_15] at w
          refine zq_run 1 (pc' := 78) (L' := [(.ref (232)), (zq_vi (x1)), (zq_vi (x2)), zz_no]) (st' := [(.ref (232))]) (fun _ _ _ => rfl) ?_
          refine zq_getf_f (b := 248) rfl zq_a232 rfl rfl ?_
          refine zq_run 1 (pc' := 82) (L' := [(.ref (232)), (zq_vi (x1)), (zq_vi (x2)), zz_no]) (st' := [(.ref (232)), (.ref (248))]) (fun _ _ _ => rfl) ?_
          refine zq_getf_i (j := 33) (v := zq_i s_9 (232) (33)) rfl zq_a232 rfl rfl rfl ?_
          refine zq_run 1 (pc' := 86) (L' := [(.ref (232)), (zq_vi (x1)), (zq_vi (x2)), zz_no]) (st' := [(.ref (232)), (zq_vi (zq_i s_9 (232) (33))), (.ref (248))]) (fun _ _ _ => rfl) ?_
          refine zq_getf_i (j := 23) (v := zq_i s_9 (232) (23)) rfl zq_a232 rfl rfl rfl ?_
          obtain ⟨g_16, w⟩ := w
          refine zq_ast_i rfl zq_a248 g_16.1 g_16.2 (hR_13.1 _ _) ?_
          refine zq_run 1 (pc' := 91) (L' := [(.ref (232)), (zq_vi (x1)), (zq_vi (x2)), zz_no]) (st' := [(.ref (232))]) (fun _ _ _ => rfl) ?_
          refine zq_getf_f (b := 249) rfl zq_a232 rfl rfl ?_
          refine zq_run 1 (pc' := 95) (L' := [(.ref (232)), (zq_vi (x1)), (zq_vi (x2)), zz_no]) (st' := [(.ref (232)), (.ref (249))]) (fun _ _ _ => rfl) ?_
          have e_17 : zq_i (zq_si s_9 (248) (zq_i s_9 (232) (33)) (zq_i s_9 (232) (23))) (232) (33) = zq_i s_9 (232) (33) := by simp [zq_i_si, zq_i_sr, zq_i_sl]
          refine zq_getf_i (j := 33) (v := zq_i s_9 (232) (33)) rfl zq_a232 rfl rfl e_17 ?_
          refine zq_run 1 (pc' := 99) (L' := [(.ref (232)), (zq_vi (x1)), (zq_vi (x2)), zz_no]) (st' := [(.ref (232)), (zq_vi (zq_i s_9 (232) (33))), (.ref (249))]) (fun _ _ _ => rfl) ?_
          have e_18 : zq_i (zq_si s_9 (248) (zq_i s_9 (232) (33)) (zq_i s_9 (232) (23))) (232) (29) = zq_i s_9 (232) (29) := by simp [zq_i_si, zq_i_sr, zq_i_sl]
          refine zq_getf_i (j := 29) (v := zq_i s_9 (232) (29)) rfl zq_a232 rfl rfl e_18 ?_
          obtain ⟨g_19, w⟩ := w
          refine zq_ast_i rfl zq_a249 g_19.1 g_19.2 (hR_13.1 _ _) ?_
          refine zq_run 2 (pc' := 105) (L' := [(.ref (232)), (zq_vi (x1)), (zq_vi (x2)), zz_no]) (st' := [(.ref (232)), (.ref (232))]) (fun _ _ _ => rfl) ?_
          have e_20 : zq_i (zq_si (zq_si s_9 (248) (zq_i s_9 (232) (33)) (zq_i s_9 (232) (23))) (249) (zq_i s_9 (232) (33)) (zq_i s_9 (232) (29))) (232) (33) = zq_i s_9 (232) (33) := by simp [zq_i_si, zq_i_sr, zq_i_sl]
          refine zq_getf_i (j := 33) (v := zq_i s_9 (232) (33)) rfl zq_a232 rfl rfl e_20 ?_
          refine zq_run 1 (pc' := 109) (L' := [(.ref (232)), (zq_vi (x1)), (zq_vi (x2)), zz_no]) (st' := [(zq_vi (1)), (zq_vi (zq_i s_9 (232) (33))), (.ref (232))]) (fun _ _ _ => rfl) ?_
          refine zq_iadd rfl ?_
          obtain ⟨g_21, w⟩ := w
          refine zq_putf_i (j := 33) rfl zq_a232 rfl rfl rfl g_21 ?_
          refine zq_run 3 (pc' := 116) (L' := [(.ref (232)), (zq_vi (x1)), (zq_vi (x2)), zz_no]) (st' := [(zq_vi (x2)), (zq_vi (x1)), (.ref (232))]) (fun _ _ _ => rfl) ?_
          refine zq_call_i (i := .invokevirtual 130) (r := [1, 153, 2, 1, 9]) rfl rfl (fun h hp => zr_avv rfl (hp.obj zq_a232)) (of_decide_eq_false rfl) w (fun x_23 s_22 hx_24 w => ?_)
          refine zq_run 5 (pc' := 124) (L' := [(.ref (232)), (zq_vi (x1)), (zq_vi (x2)), (zq_vi (x_23))]) (st' := [(zq_vi (x_23)), (zq_vi (x2)), (zq_vi (x1)), (.ref (232))]) (fun _ _ _ => rfl) ?_
          refine zq_call_v (i := .invokevirtual 174) (r := [1, 157, 3, 1, 9]) rfl rfl (fun h hp => zr_avv rfl (hp.obj zq_a232)) (of_decide_eq_false rfl) w (fun s_25 w => ?_)
          refine zq_run 2 (pc' := 130) (L' := [(.ref (232)), (zq_vi (x1)), (zq_vi (x2)), (zq_vi (x_23))]) (st' := [(zq_vi (32)), (.ref (232))]) (fun _ _ _ => rfl) ?_
          refine zq_call_v (i := .invokevirtual 123) (r := [1, 150, 1, 1, 9]) rfl rfl (fun h hp => zr_avv rfl (hp.obj zq_a232)) (of_decide_eq_false rfl) w (fun s_26 w => ?_)
          refine zq_run 2 (pc' := 135) (L' := [(.ref (232)), (zq_vi (x1)), (zq_vi (x2)), (zq_vi (x_23))]) (st' := [(zq_vi (x_23)), (.ref (232))]) (fun _ _ _ => rfl) ?_
          refine zq_putf_i (j := 25) rfl zq_a232 rfl rfl rfl hx_24 ?_
          refine zq_run 2 (pc' := 140) (L' := [(.ref (232)), (zq_vi (x1)), (zq_vi (x2)), (zq_vi (x_23))]) (st' := [(zq_vi (1)), (.ref (232))]) (fun _ _ _ => rfl) ?_
          refine zq_putf_b (j := 32) rfl zq_a232 rfl rfl rfl (of_decide_eq_true rfl) ?_
          exact zq_vret rfl rfl (⟨rfl, w⟩)
        · rw [if_neg hb_15] at w
          refine zq_run 2 (pc' := 74) (L' := [(.ref (232)), (zq_vi (x1)), (zq_vi (x2)), zz_no]) (st' := [(zq_vi (32)), (.ref (232))]) (fun _ _ _ => rfl) ?_
          refine zq_call_v (i := .invokevirtual 123) (r := [1, 150, 1, 1, 9]) rfl rfl (fun h hp => zr_avv rfl (hp.obj zq_a232)) (of_decide_eq_false rfl) w (fun s_27 w => ?_)
          refine zq_run 1 (pc' := 78) (L' := [(.ref (232)), (zq_vi (x1)), (zq_vi (x2)), zz_no]) (st' := [(.ref (232))]) (fun _ _ _ => rfl) ?_
          refine zq_getf_f (b := 248) rfl zq_a232 rfl rfl ?_
          refine zq_run 1 (pc' := 82) (L' := [(.ref (232)), (zq_vi (x1)), (zq_vi (x2)), zz_no]) (st' := [(.ref (232)), (.ref (248))]) (fun _ _ _ => rfl) ?_
          refine zq_have (fun hR_28 => ?_)
          refine zq_getf_i (j := 33) (v := zq_i s_27 (232) (33)) rfl zq_a232 rfl rfl rfl ?_
          refine zq_run 1 (pc' := 86) (L' := [(.ref (232)), (zq_vi (x1)), (zq_vi (x2)), zz_no]) (st' := [(.ref (232)), (zq_vi (zq_i s_27 (232) (33))), (.ref (248))]) (fun _ _ _ => rfl) ?_
          refine zq_getf_i (j := 23) (v := zq_i s_27 (232) (23)) rfl zq_a232 rfl rfl rfl ?_
          obtain ⟨g_29, w⟩ := w
          refine zq_ast_i rfl zq_a248 g_29.1 g_29.2 (hR_28.1 _ _) ?_
          refine zq_run 1 (pc' := 91) (L' := [(.ref (232)), (zq_vi (x1)), (zq_vi (x2)), zz_no]) (st' := [(.ref (232))]) (fun _ _ _ => rfl) ?_
          refine zq_getf_f (b := 249) rfl zq_a232 rfl rfl ?_
          refine zq_run 1 (pc' := 95) (L' := [(.ref (232)), (zq_vi (x1)), (zq_vi (x2)), zz_no]) (st' := [(.ref (232)), (.ref (249))]) (fun _ _ _ => rfl) ?_
          have e_30 : zq_i (zq_si s_27 (248) (zq_i s_27 (232) (33)) (zq_i s_27 (232) (23))) (232) (33) = zq_i s_27 (232) (33) := by simp [zq_i_si, zq_i_sr, zq_i_sl]
          refine zq_getf_i (j := 33) (v := zq_i s_27 (232) (33)) rfl zq_a232 rfl rfl e_30 ?_
          refine zq_run 1 (pc' := 99) (L' := [(.ref (232)), (zq_vi (x1)), (zq_vi (x2)), zz_no]) (st' := [(.ref (232)), (zq_vi (zq_i s_27 (232) (33))), (.ref (249))]) (fun _ _ _ => rfl) ?_
          have e_31 : zq_i (zq_si s_27 (248) (zq_i s_27 (232) (33)) (zq_i s_27 (232) (23))) (232) (29) = zq_i s_27 (232) (29) := by simp [zq_i_si, zq_i_sr, zq_i_sl]
          refine zq_getf_i (j := 29) (v := zq_i s_27 (232) (29)) rfl zq_a232 rfl rfl e_31 ?_
          obtain ⟨g_32, w⟩ := w
          refine zq_ast_i rfl zq_a249 g_32.1 g_32.2 (hR_28.1 _ _) ?_
          refine zq_run 2 (pc' := 105) (L' := [(.ref (232)), (zq_vi (x1)), (zq_vi (x2)), zz_no]) (st' := [(.ref (232)), (.ref (232))]) (fun _ _ _ => rfl) ?_
          have e_33 : zq_i (zq_si (zq_si s_27 (248) (zq_i s_27 (232) (33)) (zq_i s_27 (232) (23))) (249) (zq_i s_27 (232) (33)) (zq_i s_27 (232) (29))) (232) (33) = zq_i s_27 (232) (33) := by simp [zq_i_si, zq_i_sr, zq_i_sl]
          refine zq_getf_i (j := 33) (v := zq_i s_27 (232) (33)) rfl zq_a232 rfl rfl e_33 ?_
          refine zq_run 1 (pc' := 109) (L' := [(.ref (232)), (zq_vi (x1)), (zq_vi (x2)), zz_no]) (st' := [(zq_vi (1)), (zq_vi (zq_i s_27 (232) (33))), (.ref (232))]) (fun _ _ _ => rfl) ?_
          refine zq_iadd rfl ?_
          obtain ⟨g_34, w⟩ := w
          refine zq_putf_i (j := 33) rfl zq_a232 rfl rfl rfl g_34 ?_
          refine zq_run 3 (pc' := 116) (L' := [(.ref (232)), (zq_vi (x1)), (zq_vi (x2)), zz_no]) (st' := [(zq_vi (x2)), (zq_vi (x1)), (.ref (232))]) (fun _ _ _ => rfl) ?_
          refine zq_call_i (i := .invokevirtual 130) (r := [1, 153, 2, 1, 9]) rfl rfl (fun h hp => zr_avv rfl (hp.obj zq_a232)) (of_decide_eq_false rfl) w (fun x_36 s_35 hx_37 w => ?_)
          refine zq_run 5 (pc' := 124) (L' := [(.ref (232)), (zq_vi (x1)), (zq_vi (x2)), (zq_vi (x_36))]) (st' := [(zq_vi (x_36)), (zq_vi (x2)), (zq_vi (x1)), (.ref (232))]) (fun _ _ _ => rfl) ?_
          refine zq_call_v (i := .invokevirtual 174) (r := [1, 157, 3, 1, 9]) rfl rfl (fun h hp => zr_avv rfl (hp.obj zq_a232)) (of_decide_eq_false rfl) w (fun s_38 w => ?_)
          refine zq_run 2 (pc' := 130) (L' := [(.ref (232)), (zq_vi (x1)), (zq_vi (x2)), (zq_vi (x_36))]) (st' := [(zq_vi (32)), (.ref (232))]) (fun _ _ _ => rfl) ?_
          refine zq_call_v (i := .invokevirtual 123) (r := [1, 150, 1, 1, 9]) rfl rfl (fun h hp => zr_avv rfl (hp.obj zq_a232)) (of_decide_eq_false rfl) w (fun s_39 w => ?_)
          refine zq_run 2 (pc' := 135) (L' := [(.ref (232)), (zq_vi (x1)), (zq_vi (x2)), (zq_vi (x_36))]) (st' := [(zq_vi (x_36)), (.ref (232))]) (fun _ _ _ => rfl) ?_
          refine zq_putf_i (j := 25) rfl zq_a232 rfl rfl rfl hx_37 ?_
          refine zq_run 2 (pc' := 140) (L' := [(.ref (232)), (zq_vi (x1)), (zq_vi (x2)), (zq_vi (x_36))]) (st' := [(zq_vi (1)), (.ref (232))]) (fun _ _ _ => rfl) ?_
          refine zq_putf_b (j := 32) rfl zq_a232 rfl rfl rfl (of_decide_eq_true rfl) ?_
          exact zq_vret rfl rfl (⟨rfl, w⟩)
      · rw [if_neg hb_12] at w
        refine zq_run 2 (pc' := 55) (L' := [(.ref (232)), (zq_vi (x1)), (zq_vi (x2)), zz_no]) (st' := [(zq_vi (x2)), (.ref (232))]) (fun _ _ _ => rfl) ?_
        refine zq_putf_i (j := 26) rfl zq_a232 rfl rfl rfl hx2 ?_
        exact zq_vret rfl rfl (⟨rfl, w⟩)
  · rw [if_neg hb_4] at w
    refine zq_run 2 (pc' := 14) (L' := [(.ref (232)), (zq_vi (x1)), (zq_vi (x2)), zz_no]) (st' := [(zq_vi (62)), (.ref (232))]) (fun _ _ _ => rfl) ?_
    refine zq_call_v (i := .invokevirtual 123) (r := [1, 150, 1, 1, 9]) rfl rfl (fun h hp => zr_avv rfl (hp.obj zq_a232)) (of_decide_eq_false rfl) w (fun s_40 w => ?_)
    refine zq_run 2 (pc' := 20) (L' := [(.ref (232)), (zq_vi (x1)), (zq_vi (x2)), zz_no]) (st' := [(zq_vi (62)), (.ref (232))]) (fun _ _ _ => rfl) ?_
    refine zq_call_v (i := .invokevirtual 123) (r := [1, 150, 1, 1, 9]) rfl rfl (fun h hp => zr_avv rfl (hp.obj zq_a232)) (of_decide_eq_false rfl) w (fun s_41 w => ?_)
    refine zq_run 3 (pc' := 26) (L' := [(.ref (232)), (zq_vi (x1)), (zq_vi (x2)), zz_no]) (st' := [(zq_vi (2)), (zq_vi (x2)), (.ref (232))]) (fun _ _ _ => rfl) ?_
    refine zq_iadd rfl ?_
    obtain ⟨g_42, w⟩ := w
    refine zq_putf_i (j := 25) rfl zq_a232 rfl rfl rfl g_42 ?_
    refine zq_run 1 (pc' := 31) (L' := [(.ref (232)), (zq_vi (x1)), (zq_vi (x2)), zz_no]) (st' := [(.ref (232))]) (fun _ _ _ => rfl) ?_
    refine zq_call_v (i := .invokevirtual 189) (r := [1, 151, 0, 1, 9]) rfl rfl (fun h hp => zr_avv rfl (hp.obj zq_a232)) (of_decide_eq_false rfl) w (fun s_43 w => ?_)
    exact zq_vret rfl rfl (⟨rfl, w⟩)
/-- PaperObjectsModel.two(IIC)Z -/
theorem zw_149 {X : Nat × (Nat → Int32)} {s : zq_S} {K : Int → zq_S → Prop} {x1 : Int} (hx1 : zq_iv x1) {x2 : Int} (hx2 : zq_iv x2) {x3 : Int} (hx3 : zq_ch x3) (w : (zq_Ex X 147 0 [(.ref (232)), (zq_vi (x1)), (zq_vi (x2))] [] s (zq_rp zq_ch fun x_2 s_1 => (if x_2 = x3 then (zq_Ex X 147 0 [(.ref (232)), (zq_vi (x1)), (zq_vi (x2 + 1))] [] s_1 (zq_rp zq_ch fun x_6 s_5 => (if x_6 = x3 then K (1) s_5 else K (0) s_5))) else K (0) s_1)))) : zq_Ex X 149 0 [(.ref (232)), (zq_vi (x1)), (zq_vi (x2)), (zq_vi (x3))] [] s (zq_rp zq_bo K) := by
  refine zq_run 3 (pc' := 3) (L' := [(.ref (232)), (zq_vi (x1)), (zq_vi (x2)), (zq_vi (x3))]) (st' := [(zq_vi (x2)), (zq_vi (x1)), (.ref (232))]) (fun _ _ _ => rfl) ?_
  refine zq_call_i (i := .invokevirtual 119) (r := [1, 147, 2, 1, 9]) rfl rfl (fun h hp => zr_avv rfl (hp.obj zq_a232)) (of_decide_eq_false rfl) w (fun x_2 s_1 hx_3 w => ?_)
  refine zq_run 1 (pc' := 7) (L' := [(.ref (232)), (zq_vi (x1)), (zq_vi (x2)), (zq_vi (x3))]) (st' := [(zq_vi (x3)), (zq_vi (x_2))]) (fun _ _ _ => rfl) ?_
  refine zq_ne rfl (zq_ch_in hx_3) (zq_ch_in hx3) (fun hb_4 => ?_) (fun hb_4 => ?_)
  · rw [if_neg hb_4] at w
    refine zq_run 1 (pc' := 27) (L' := [(.ref (232)), (zq_vi (x1)), (zq_vi (x2)), (zq_vi (x3))]) (st' := [(zq_vi (0))]) (fun _ _ _ => rfl) ?_
    exact zq_iret rfl rfl (congrArg Value.int (zq_nb (of_decide_eq_true rfl))) (⟨_, rfl, (of_decide_eq_true rfl), w⟩)
  · rw [if_pos hb_4] at w
    refine zq_run 4 (pc' := 14) (L' := [(.ref (232)), (zq_vi (x1)), (zq_vi (x2)), (zq_vi (x3))]) (st' := [(zq_vi (1)), (zq_vi (x2)), (zq_vi (x1)), (.ref (232))]) (fun _ _ _ => rfl) ?_
    refine zq_iadd rfl ?_
    refine zq_call_i (i := .invokevirtual 119) (r := [1, 147, 2, 1, 9]) rfl rfl (fun h hp => zr_avv rfl (hp.obj zq_a232)) (of_decide_eq_false rfl) w (fun x_6 s_5 hx_7 w => ?_)
    refine zq_run 1 (pc' := 19) (L' := [(.ref (232)), (zq_vi (x1)), (zq_vi (x2)), (zq_vi (x3))]) (st' := [(zq_vi (x3)), (zq_vi (x_6))]) (fun _ _ _ => rfl) ?_
    refine zq_ne rfl (zq_ch_in hx_7) (zq_ch_in hx3) (fun hb_8 => ?_) (fun hb_8 => ?_)
    · rw [if_neg hb_8] at w
      refine zq_run 1 (pc' := 27) (L' := [(.ref (232)), (zq_vi (x1)), (zq_vi (x2)), (zq_vi (x3))]) (st' := [(zq_vi (0))]) (fun _ _ _ => rfl) ?_
      exact zq_iret rfl rfl (congrArg Value.int (zq_nb (of_decide_eq_true rfl))) (⟨_, rfl, (of_decide_eq_true rfl), w⟩)
    · rw [if_pos hb_8] at w
      refine zq_run 2 (pc' := 27) (L' := [(.ref (232)), (zq_vi (x1)), (zq_vi (x2)), (zq_vi (x3))]) (st' := [(zq_vi (1))]) (fun _ _ _ => rfl) ?_
      exact zq_iret rfl rfl (congrArg Value.int (zq_nb (of_decide_eq_true rfl))) (⟨_, rfl, (of_decide_eq_true rfl), w⟩)
/-- PaperObjectsModel.say(C)V -/
theorem zw_150 {X : Nat × (Nat → Int32)} {s : zq_S} {K : zq_S → Prop} {x1 : Int} (hx1 : zq_ch x1) (w : (((0 : Int) ≤ zq_i s (232) (23) ∧ zq_i s (232) (23) < (700 : Int)) ∧ (zq_iv ((zq_i s (232) (23)) + 1) ∧ K (zq_si (zq_si s (245) (zq_i s (232) (23)) (x1)) (232) (23) ((zq_i s (232) (23)) + 1))))) : zq_Ex X 150 0 [(.ref (232)), (zq_vi (x1))] [] s (zq_rv K) := by
  refine zq_run 1 (pc' := 1) (L' := [(.ref (232)), (zq_vi (x1))]) (st' := [(.ref (232))]) (fun _ _ _ => rfl) ?_
  refine zq_getf_f (b := 245) rfl zq_a232 rfl rfl ?_
  refine zq_run 1 (pc' := 5) (L' := [(.ref (232)), (zq_vi (x1))]) (st' := [(.ref (232)), (.ref (245))]) (fun _ _ _ => rfl) ?_
  refine zq_have (fun hR_1 => ?_)
  refine zq_getf_i (j := 23) (v := zq_i s (232) (23)) rfl zq_a232 rfl rfl rfl ?_
  refine zq_run 1 (pc' := 9) (L' := [(.ref (232)), (zq_vi (x1))]) (st' := [(zq_vi (x1)), (zq_vi (zq_i s (232) (23))), (.ref (245))]) (fun _ _ _ => rfl) ?_
  obtain ⟨g_2, w⟩ := w
  refine zq_ast_c rfl zq_a245 g_2.1 g_2.2 hx1 ?_
  refine zq_run 2 (pc' := 12) (L' := [(.ref (232)), (zq_vi (x1))]) (st' := [(.ref (232)), (.ref (232))]) (fun _ _ _ => rfl) ?_
  have e_3 : zq_i (zq_si s (245) (zq_i s (232) (23)) (x1)) (232) (23) = zq_i s (232) (23) := by simp [zq_i_si, zq_i_sr, zq_i_sl]
  refine zq_getf_i (j := 23) (v := zq_i s (232) (23)) rfl zq_a232 rfl rfl e_3 ?_
  refine zq_run 1 (pc' := 16) (L' := [(.ref (232)), (zq_vi (x1))]) (st' := [(zq_vi (1)), (zq_vi (zq_i s (232) (23))), (.ref (232))]) (fun _ _ _ => rfl) ?_
  refine zq_iadd rfl ?_
  obtain ⟨g_4, w⟩ := w
  refine zq_putf_i (j := 23) rfl zq_a232 rfl rfl rfl g_4 ?_
  exact zq_vret rfl rfl (⟨rfl, w⟩)
/-- PaperObjectsModel.close()V -/
theorem zw_151 {X : Nat × (Nat → Int32)} {s : zq_S} {K : zq_S → Prop}  (w : (if zq_i s (232) (33) ≤ 0 then (zq_iv ((zq_i s (232) (29)) - 1) ∧ K (zq_si s (232) (29) ((zq_i s (232) (29)) - 1))) else (((0 : Int) ≤ (zq_i s (232) (33)) - 1 ∧ (zq_i s (232) (33)) - 1 < (16 : Int)) ∧ (if zq_i s (249) ((zq_i s (232) (33)) - 1) = zq_i s (232) (29) then (zq_iv ((zq_i s (232) (33)) - 1) ∧ zq_Ex X 151 0 [(.ref (232))] [] (zq_si s (232) (33) ((zq_i s (232) (33)) - 1)) (zq_rv K)) else (zq_iv ((zq_i s (232) (29)) - 1) ∧ K (zq_si s (232) (29) ((zq_i s (232) (29)) - 1))))))) : zq_Ex X 151 0 [(.ref (232))] [] s (zq_rv K) := by
  refine zq_run 1 (pc' := 1) (L' := [(.ref (232))]) (st' := [(.ref (232))]) (fun _ _ _ => rfl) ?_
  refine zq_have (fun hR_1 => ?_)
  refine zq_getf_i (j := 33) (v := zq_i s (232) (33)) rfl zq_a232 rfl rfl rfl ?_
  refine zq_le0 rfl (hR_1.1 _ _) (fun hb_2 => ?_) (fun hb_2 => ?_)
  · rw [if_pos hb_2] at w
    refine zq_run 2 (pc' := 40) (L' := [(.ref (232))]) (st' := [(.ref (232)), (.ref (232))]) (fun _ _ _ => rfl) ?_
    refine zq_getf_i (j := 29) (v := zq_i s (232) (29)) rfl zq_a232 rfl rfl rfl ?_
    refine zq_run 1 (pc' := 44) (L' := [(.ref (232))]) (st' := [(zq_vi (1)), (zq_vi (zq_i s (232) (29))), (.ref (232))]) (fun _ _ _ => rfl) ?_
    refine zq_isub rfl ?_
    obtain ⟨g_3, w⟩ := w
    refine zq_putf_i (j := 29) rfl zq_a232 rfl rfl rfl g_3 ?_
    exact zq_vret rfl rfl (⟨rfl, w⟩)
  · rw [if_neg hb_2] at w
    refine zq_run 1 (pc' := 8) (L' := [(.ref (232))]) (st' := [(.ref (232))]) (fun _ _ _ => rfl) ?_
    refine zq_getf_f (b := 249) rfl zq_a232 rfl rfl ?_
    refine zq_run 1 (pc' := 12) (L' := [(.ref (232))]) (st' := [(.ref (232)), (.ref (249))]) (fun _ _ _ => rfl) ?_
    refine zq_getf_i (j := 33) (v := zq_i s (232) (33)) rfl zq_a232 rfl rfl rfl ?_
    refine zq_run 1 (pc' := 16) (L' := [(.ref (232))]) (st' := [(zq_vi (1)), (zq_vi (zq_i s (232) (33))), (.ref (249))]) (fun _ _ _ => rfl) ?_
    refine zq_isub rfl ?_
    obtain ⟨g_4, w⟩ := w
    refine zq_ald_i (v := zq_i s (249) ((zq_i s (232) (33)) - 1)) rfl zq_a249 g_4.1 g_4.2 rfl ?_
    refine zq_run 1 (pc' := 19) (L' := [(.ref (232))]) (st' := [(.ref (232)), (zq_vi (zq_i s (249) ((zq_i s (232) (33)) - 1)))]) (fun _ _ _ => rfl) ?_
    refine zq_getf_i (j := 29) (v := zq_i s (232) (29)) rfl zq_a232 rfl rfl rfl ?_
    refine zq_ne rfl (hR_1.1 _ _) (hR_1.1 _ _) (fun hb_5 => ?_) (fun hb_5 => ?_)
    · rw [if_neg hb_5] at w
      refine zq_run 2 (pc' := 40) (L' := [(.ref (232))]) (st' := [(.ref (232)), (.ref (232))]) (fun _ _ _ => rfl) ?_
      refine zq_getf_i (j := 29) (v := zq_i s (232) (29)) rfl zq_a232 rfl rfl rfl ?_
      refine zq_run 1 (pc' := 44) (L' := [(.ref (232))]) (st' := [(zq_vi (1)), (zq_vi (zq_i s (232) (29))), (.ref (232))]) (fun _ _ _ => rfl) ?_
      refine zq_isub rfl ?_
      obtain ⟨g_6, w⟩ := w
      refine zq_putf_i (j := 29) rfl zq_a232 rfl rfl rfl g_6 ?_
      exact zq_vret rfl rfl (⟨rfl, w⟩)
    · rw [if_pos hb_5] at w
      refine zq_run 2 (pc' := 27) (L' := [(.ref (232))]) (st' := [(.ref (232)), (.ref (232))]) (fun _ _ _ => rfl) ?_
      refine zq_getf_i (j := 33) (v := zq_i s (232) (33)) rfl zq_a232 rfl rfl rfl ?_
      refine zq_run 1 (pc' := 31) (L' := [(.ref (232))]) (st' := [(zq_vi (1)), (zq_vi (zq_i s (232) (33))), (.ref (232))]) (fun _ _ _ => rfl) ?_
      refine zq_isub rfl ?_
      obtain ⟨g_7, w⟩ := w
      refine zq_putf_i (j := 33) rfl zq_a232 rfl rfl rfl g_7 ?_
      refine zq_run 1 (pc' := 0) (L' := [(.ref (232))]) (st' := []) (fun _ _ _ => rfl) ?_
      exact w
/-- PaperObjectsModel.isName(II)Z -/
theorem zw_152 {X : Nat × (Nat → Int32)} {s : zq_S} {K : Int → zq_S → Prop} {x1 : Int} (hx1 : zq_iv x1) {x2 : Int} (hx2 : zq_iv x2) (w : (zq_Ex X 153 0 [(.ref (232)), (zq_vi (x1)), (zq_vi (x2)), zz_no] [] s (zq_rp zq_iv fun x_2 s_1 => (zq_Ex X 147 0 [(.ref (232)), (zq_vi (x1)), (zq_vi (x2))] [] s_1 (zq_rp zq_ch fun x_5 s_4 => (if x_5 = 47 then (zq_iv ((x_2 - x2) - 1) ∧ (if (x_2 - x2) - 1 < 1 then K (0) s_4 else (if (x_2 - x2) - 1 ≤ 6 then K (1) s_4 else K (0) s_4))) else K (0) s_4)))))) : zq_Ex X 152 0 [(.ref (232)), (zq_vi (x1)), (zq_vi (x2)), zz_no] [] s (zq_rp zq_bo K) := by
  refine zq_run 3 (pc' := 3) (L' := [(.ref (232)), (zq_vi (x1)), (zq_vi (x2)), zz_no]) (st' := [(zq_vi (x2)), (zq_vi (x1)), (.ref (232))]) (fun _ _ _ => rfl) ?_
  refine zq_call_i (i := .invokevirtual 130) (r := [1, 153, 2, 1, 9]) rfl rfl (fun h hp => zr_avv rfl (hp.obj zq_a232)) (of_decide_eq_false rfl) w (fun x_2 s_1 hx_3 w => ?_)
  refine zq_run 1 (pc' := 7) (L' := [(.ref (232)), (zq_vi (x1)), (zq_vi (x2)), zz_no]) (st' := [(zq_vi (x2)), (zq_vi (x_2))]) (fun _ _ _ => rfl) ?_
  refine zq_isub rfl ?_
  refine zq_run 1 (pc' := 9) (L' := [(.ref (232)), (zq_vi (x1)), (zq_vi (x2)), zz_no]) (st' := [(zq_vi (1)), (zq_vi (x_2 - x2))]) (fun _ _ _ => rfl) ?_
  refine zq_isub rfl ?_
  refine zq_run 4 (pc' := 14) (L' := [(.ref (232)), (zq_vi (x1)), (zq_vi (x2)), (zq_vi ((x_2 - x2) - 1))]) (st' := [(zq_vi (x2)), (zq_vi (x1)), (.ref (232))]) (fun _ _ _ => rfl) ?_
  refine zq_call_i (i := .invokevirtual 119) (r := [1, 147, 2, 1, 9]) rfl rfl (fun h hp => zr_avv rfl (hp.obj zq_a232)) (of_decide_eq_false rfl) w (fun x_5 s_4 hx_6 w => ?_)
  refine zq_run 1 (pc' := 19) (L' := [(.ref (232)), (zq_vi (x1)), (zq_vi (x2)), (zq_vi ((x_2 - x2) - 1))]) (st' := [(zq_vi (47)), (zq_vi (x_5))]) (fun _ _ _ => rfl) ?_
  refine zq_ne rfl (zq_ch_in hx_6) (of_decide_eq_true rfl) (fun hb_7 => ?_) (fun hb_7 => ?_)
  · rw [if_neg hb_7] at w
    refine zq_run 1 (pc' := 38) (L' := [(.ref (232)), (zq_vi (x1)), (zq_vi (x2)), (zq_vi ((x_2 - x2) - 1))]) (st' := [(zq_vi (0))]) (fun _ _ _ => rfl) ?_
    exact zq_iret rfl rfl (congrArg Value.int (zq_nb (of_decide_eq_true rfl))) (⟨_, rfl, (of_decide_eq_true rfl), w⟩)
  · rw [if_pos hb_7] at w
    refine zq_run 2 (pc' := 24) (L' := [(.ref (232)), (zq_vi (x1)), (zq_vi (x2)), (zq_vi ((x_2 - x2) - 1))]) (st' := [(zq_vi (1)), (zq_vi ((x_2 - x2) - 1))]) (fun _ _ _ => rfl) ?_
    obtain ⟨g_8, w⟩ := w
    refine zq_lt rfl g_8 (of_decide_eq_true rfl) (fun hb_9 => ?_) (fun hb_9 => ?_)
    · rw [if_pos hb_9] at w
      refine zq_run 1 (pc' := 38) (L' := [(.ref (232)), (zq_vi (x1)), (zq_vi (x2)), (zq_vi ((x_2 - x2) - 1))]) (st' := [(zq_vi (0))]) (fun _ _ _ => rfl) ?_
      exact zq_iret rfl rfl (congrArg Value.int (zq_nb (of_decide_eq_true rfl))) (⟨_, rfl, (of_decide_eq_true rfl), w⟩)
    · rw [if_neg hb_9] at w
      refine zq_run 2 (pc' := 30) (L' := [(.ref (232)), (zq_vi (x1)), (zq_vi (x2)), (zq_vi ((x_2 - x2) - 1))]) (st' := [(zq_vi (6)), (zq_vi ((x_2 - x2) - 1))]) (fun _ _ _ => rfl) ?_
      refine zq_gt rfl g_8 (of_decide_eq_true rfl) (fun hb_10 => ?_) (fun hb_10 => ?_)
      · rw [if_neg hb_10] at w
        refine zq_run 1 (pc' := 38) (L' := [(.ref (232)), (zq_vi (x1)), (zq_vi (x2)), (zq_vi ((x_2 - x2) - 1))]) (st' := [(zq_vi (0))]) (fun _ _ _ => rfl) ?_
        exact zq_iret rfl rfl (congrArg Value.int (zq_nb (of_decide_eq_true rfl))) (⟨_, rfl, (of_decide_eq_true rfl), w⟩)
      · rw [if_pos hb_10] at w
        refine zq_run 2 (pc' := 38) (L' := [(.ref (232)), (zq_vi (x1)), (zq_vi (x2)), (zq_vi ((x_2 - x2) - 1))]) (st' := [(zq_vi (1))]) (fun _ _ _ => rfl) ?_
        exact zq_iret rfl rfl (congrArg Value.int (zq_nb (of_decide_eq_true rfl))) (⟨_, rfl, (of_decide_eq_true rfl), w⟩)
/-- PaperObjectsModel.nameEnd(II)I -/
theorem zw_153 {X : Nat × (Nat → Int32)} {s : zq_S} {K : Int → zq_S → Prop} {x1 : Int} (hx1 : zq_iv x1) {x2 : Int} (hx2 : zq_iv x2) (w : zq_Ex X 153 4 [(.ref (232)), (zq_vi (x1)), (zq_vi (x2)), (zq_vi (x2 + 1))] [] s (zq_rp zq_iv K)) : zq_Ex X 153 0 [(.ref (232)), (zq_vi (x1)), (zq_vi (x2)), zz_no] [] s (zq_rp zq_iv K) := by
  refine zq_run 2 (pc' := 2) (L' := [(.ref (232)), (zq_vi (x1)), (zq_vi (x2)), zz_no]) (st' := [(zq_vi (1)), (zq_vi (x2))]) (fun _ _ _ => rfl) ?_
  refine zq_iadd rfl ?_
  refine zq_run 1 (pc' := 4) (L' := [(.ref (232)), (zq_vi (x1)), (zq_vi (x2)), (zq_vi (x2 + 1))]) (st' := []) (fun _ _ _ => rfl) ?_
  exact w
/-- PaperObjectsModel.nameEnd at 4 -/
theorem zw_153_4 {X : Nat × (Nat → Int32)} {s : zq_S} {K : Int → zq_S → Prop} {x1 : Int} (hx1 : zq_iv x1) {x2 : Int} (hx2 : zq_iv x2) {x3 : Int} (hx3 : zq_iv x3) (w : (zq_Ex X 147 0 [(.ref (232)), (zq_vi (x1)), (zq_vi (x3))] [] s (zq_rp zq_ch fun x_2 s_1 => (zq_Ex X 154 0 [(zq_vi (x_2))] [] s_1 (zq_rp zq_bo fun x_5 s_4 => (if x_5 = 0 then K (x3) s_4 else zq_Ex X 153 4 [(.ref (232)), (zq_vi (x1)), (zq_vi (x2)), (zq_vi (x3 + 1))] [] s_4 (zq_rp zq_iv K))))))) : zq_Ex X 153 4 [(.ref (232)), (zq_vi (x1)), (zq_vi (x2)), (zq_vi (x3))] [] s (zq_rp zq_iv K) := by
  refine zq_run 3 (pc' := 7) (L' := [(.ref (232)), (zq_vi (x1)), (zq_vi (x2)), (zq_vi (x3))]) (st' := [(zq_vi (x3)), (zq_vi (x1)), (.ref (232))]) (fun _ _ _ => rfl) ?_
  refine zq_call_i (i := .invokevirtual 119) (r := [1, 147, 2, 1, 9]) rfl rfl (fun h hp => zr_avv rfl (hp.obj zq_a232)) (of_decide_eq_false rfl) w (fun x_2 s_1 hx_3 w => ?_)
  refine zq_call_i (i := .invokestatic 127) (r := [1, 154, 1, 0, 9]) rfl rfl (fun _ _ => rfl) (of_decide_eq_false rfl) w (fun x_5 s_4 hx_6 w => ?_)
  refine zq_eq0 rfl (zq_bo_in hx_6) (fun hb_7 => ?_) (fun hb_7 => ?_)
  · rw [if_pos hb_7] at w
    refine zq_run 1 (pc' := 23) (L' := [(.ref (232)), (zq_vi (x1)), (zq_vi (x2)), (zq_vi (x3))]) (st' := [(zq_vi (x3))]) (fun _ _ _ => rfl) ?_
    exact zq_iret rfl rfl rfl (⟨_, rfl, hx3, w⟩)
  · rw [if_neg hb_7] at w
    refine zq_iinc (L' := [(.ref (232)), (zq_vi (x1)), (zq_vi (x2)), (zq_vi (x3 + 1))]) rfl rfl rfl ?_
    refine zq_run 1 (pc' := 4) (L' := [(.ref (232)), (zq_vi (x1)), (zq_vi (x2)), (zq_vi (x3 + 1))]) (st' := []) (fun _ _ _ => rfl) ?_
    exact w
/-- PaperObjectsModel.isWordly(I)Z -/
theorem zw_154 {X : Nat × (Nat → Int32)} {s : zq_S} {K : Int → zq_S → Prop} {x0 : Int} (hx0 : zq_iv x0) (w : (zq_Ex X 155 0 [(zq_vi (x0))] [] s (zq_rp zq_bo fun x_2 s_1 => (if x_2 = 0 then (if x0 < 97 then (if x0 < 65 then K (0) s_1 else (if x0 ≤ 90 then K (1) s_1 else K (0) s_1)) else (if x0 ≤ 122 then K (1) s_1 else (if x0 < 65 then K (0) s_1 else (if x0 ≤ 90 then K (1) s_1 else K (0) s_1)))) else K (1) s_1)))) : zq_Ex X 154 0 [(zq_vi (x0))] [] s (zq_rp zq_bo K) := by
  refine zq_run 1 (pc' := 1) (L' := [(zq_vi (x0))]) (st' := [(zq_vi (x0))]) (fun _ _ _ => rfl) ?_
  refine zq_call_i (i := .invokestatic 103) (r := [1, 155, 1, 0, 9]) rfl rfl (fun _ _ => rfl) (of_decide_eq_false rfl) w (fun x_2 s_1 hx_3 w => ?_)
  refine zq_ne0 rfl (zq_bo_in hx_3) (fun hb_4 => ?_) (fun hb_4 => ?_)
  · rw [if_neg hb_4] at w
    refine zq_run 2 (pc' := 36) (L' := [(zq_vi (x0))]) (st' := [(zq_vi (1))]) (fun _ _ _ => rfl) ?_
    exact zq_iret rfl rfl (congrArg Value.int (zq_nb (of_decide_eq_true rfl))) (⟨_, rfl, (of_decide_eq_true rfl), w⟩)
  · rw [if_pos hb_4] at w
    refine zq_run 2 (pc' := 10) (L' := [(zq_vi (x0))]) (st' := [(zq_vi (97)), (zq_vi (x0))]) (fun _ _ _ => rfl) ?_
    refine zq_lt rfl hx0 (of_decide_eq_true rfl) (fun hb_5 => ?_) (fun hb_5 => ?_)
    · rw [if_pos hb_5] at w
      refine zq_run 2 (pc' := 22) (L' := [(zq_vi (x0))]) (st' := [(zq_vi (65)), (zq_vi (x0))]) (fun _ _ _ => rfl) ?_
      refine zq_lt rfl hx0 (of_decide_eq_true rfl) (fun hb_6 => ?_) (fun hb_6 => ?_)
      · rw [if_pos hb_6] at w
        refine zq_run 1 (pc' := 36) (L' := [(zq_vi (x0))]) (st' := [(zq_vi (0))]) (fun _ _ _ => rfl) ?_
        exact zq_iret rfl rfl (congrArg Value.int (zq_nb (of_decide_eq_true rfl))) (⟨_, rfl, (of_decide_eq_true rfl), w⟩)
      · rw [if_neg hb_6] at w
        refine zq_run 2 (pc' := 28) (L' := [(zq_vi (x0))]) (st' := [(zq_vi (90)), (zq_vi (x0))]) (fun _ _ _ => rfl) ?_
        refine zq_gt rfl hx0 (of_decide_eq_true rfl) (fun hb_7 => ?_) (fun hb_7 => ?_)
        · rw [if_neg hb_7] at w
          refine zq_run 1 (pc' := 36) (L' := [(zq_vi (x0))]) (st' := [(zq_vi (0))]) (fun _ _ _ => rfl) ?_
          exact zq_iret rfl rfl (congrArg Value.int (zq_nb (of_decide_eq_true rfl))) (⟨_, rfl, (of_decide_eq_true rfl), w⟩)
        · rw [if_pos hb_7] at w
          refine zq_run 2 (pc' := 36) (L' := [(zq_vi (x0))]) (st' := [(zq_vi (1))]) (fun _ _ _ => rfl) ?_
          exact zq_iret rfl rfl (congrArg Value.int (zq_nb (of_decide_eq_true rfl))) (⟨_, rfl, (of_decide_eq_true rfl), w⟩)
    · rw [if_neg hb_5] at w
      refine zq_run 2 (pc' := 16) (L' := [(zq_vi (x0))]) (st' := [(zq_vi (122)), (zq_vi (x0))]) (fun _ _ _ => rfl) ?_
      refine zq_le rfl hx0 (of_decide_eq_true rfl) (fun hb_8 => ?_) (fun hb_8 => ?_)
      · rw [if_pos hb_8] at w
        refine zq_run 2 (pc' := 36) (L' := [(zq_vi (x0))]) (st' := [(zq_vi (1))]) (fun _ _ _ => rfl) ?_
        exact zq_iret rfl rfl (congrArg Value.int (zq_nb (of_decide_eq_true rfl))) (⟨_, rfl, (of_decide_eq_true rfl), w⟩)
      · rw [if_neg hb_8] at w
        refine zq_run 2 (pc' := 22) (L' := [(zq_vi (x0))]) (st' := [(zq_vi (65)), (zq_vi (x0))]) (fun _ _ _ => rfl) ?_
        refine zq_lt rfl hx0 (of_decide_eq_true rfl) (fun hb_9 => ?_) (fun hb_9 => ?_)
        · rw [if_pos hb_9] at w
          refine zq_run 1 (pc' := 36) (L' := [(zq_vi (x0))]) (st' := [(zq_vi (0))]) (fun _ _ _ => rfl) ?_
          exact zq_iret rfl rfl (congrArg Value.int (zq_nb (of_decide_eq_true rfl))) (⟨_, rfl, (of_decide_eq_true rfl), w⟩)
        · rw [if_neg hb_9] at w
          refine zq_run 2 (pc' := 28) (L' := [(zq_vi (x0))]) (st' := [(zq_vi (90)), (zq_vi (x0))]) (fun _ _ _ => rfl) ?_
          refine zq_gt rfl hx0 (of_decide_eq_true rfl) (fun hb_10 => ?_) (fun hb_10 => ?_)
          · rw [if_neg hb_10] at w
            refine zq_run 1 (pc' := 36) (L' := [(zq_vi (x0))]) (st' := [(zq_vi (0))]) (fun _ _ _ => rfl) ?_
            exact zq_iret rfl rfl (congrArg Value.int (zq_nb (of_decide_eq_true rfl))) (⟨_, rfl, (of_decide_eq_true rfl), w⟩)
          · rw [if_pos hb_10] at w
            refine zq_run 2 (pc' := 36) (L' := [(zq_vi (x0))]) (st' := [(zq_vi (1))]) (fun _ _ _ => rfl) ?_
            exact zq_iret rfl rfl (congrArg Value.int (zq_nb (of_decide_eq_true rfl))) (⟨_, rfl, (of_decide_eq_true rfl), w⟩)
/-- PaperObjectsModel.isDigit(I)Z -/
theorem zw_155 {X : Nat × (Nat → Int32)} {s : zq_S} {K : Int → zq_S → Prop} {x0 : Int} (hx0 : zq_iv x0) (w : (if x0 < 48 then K (0) s else (if x0 ≤ 57 then K (1) s else K (0) s))) : zq_Ex X 155 0 [(zq_vi (x0))] [] s (zq_rp zq_bo K) := by
  refine zq_run 2 (pc' := 3) (L' := [(zq_vi (x0))]) (st' := [(zq_vi (48)), (zq_vi (x0))]) (fun _ _ _ => rfl) ?_
  refine zq_lt rfl hx0 (of_decide_eq_true rfl) (fun hb_1 => ?_) (fun hb_1 => ?_)
  · rw [if_pos hb_1] at w
    refine zq_run 1 (pc' := 17) (L' := [(zq_vi (x0))]) (st' := [(zq_vi (0))]) (fun _ _ _ => rfl) ?_
    exact zq_iret rfl rfl (congrArg Value.int (zq_nb (of_decide_eq_true rfl))) (⟨_, rfl, (of_decide_eq_true rfl), w⟩)
  · rw [if_neg hb_1] at w
    refine zq_run 2 (pc' := 9) (L' := [(zq_vi (x0))]) (st' := [(zq_vi (57)), (zq_vi (x0))]) (fun _ _ _ => rfl) ?_
    refine zq_gt rfl hx0 (of_decide_eq_true rfl) (fun hb_2 => ?_) (fun hb_2 => ?_)
    · rw [if_neg hb_2] at w
      refine zq_run 1 (pc' := 17) (L' := [(zq_vi (x0))]) (st' := [(zq_vi (0))]) (fun _ _ _ => rfl) ?_
      exact zq_iret rfl rfl (congrArg Value.int (zq_nb (of_decide_eq_true rfl))) (⟨_, rfl, (of_decide_eq_true rfl), w⟩)
    · rw [if_pos hb_2] at w
      refine zq_run 2 (pc' := 17) (L' := [(zq_vi (x0))]) (st' := [(zq_vi (1))]) (fun _ _ _ => rfl) ?_
      exact zq_iret rfl rfl (congrArg Value.int (zq_nb (of_decide_eq_true rfl))) (⟨_, rfl, (of_decide_eq_true rfl), w⟩)
/-- PaperObjectsModel.keyThere(II)Z -/
theorem zw_156 {X : Nat × (Nat → Int32)} {s : zq_S} {K : Int → zq_S → Prop} {x1 : Int} (hx1 : zq_iv x1) {x2 : Int} (hx2 : zq_iv x2) (w : (zq_Ex X 153 0 [(.ref (232)), (zq_vi (x1)), (zq_vi (x2)), zz_no] [] s (zq_rp zq_iv fun x_2 s_1 => zq_Ex X 156 15 [(.ref (232)), (zq_vi (x1)), (zq_vi (x2)), (zq_vi (x_2 - x2)), (zq_vi (0)), (zq_vi (0)), zz_no, zz_no] [] s_1 (zq_rp zq_bo K)))) : zq_Ex X 156 0 [(.ref (232)), (zq_vi (x1)), (zq_vi (x2)), zz_no, zz_no, zz_no, zz_no, zz_no] [] s (zq_rp zq_bo K) := by
  refine zq_run 3 (pc' := 3) (L' := [(.ref (232)), (zq_vi (x1)), (zq_vi (x2)), zz_no, zz_no, zz_no, zz_no, zz_no]) (st' := [(zq_vi (x2)), (zq_vi (x1)), (.ref (232))]) (fun _ _ _ => rfl) ?_
  refine zq_call_i (i := .invokevirtual 130) (r := [1, 153, 2, 1, 9]) rfl rfl (fun h hp => zr_avv rfl (hp.obj zq_a232)) (of_decide_eq_false rfl) w (fun x_2 s_1 hx_3 w => ?_)
  refine zq_run 1 (pc' := 7) (L' := [(.ref (232)), (zq_vi (x1)), (zq_vi (x2)), zz_no, zz_no, zz_no, zz_no, zz_no]) (st' := [(zq_vi (x2)), (zq_vi (x_2))]) (fun _ _ _ => rfl) ?_
  refine zq_isub rfl ?_
  refine zq_run 5 (pc' := 15) (L' := [(.ref (232)), (zq_vi (x1)), (zq_vi (x2)), (zq_vi (x_2 - x2)), (zq_vi (0)), (zq_vi (0)), zz_no, zz_no]) (st' := []) (fun _ _ _ => rfl) ?_
  exact w
/-- PaperObjectsModel.keyThere at 15 -/
theorem zw_156_15 {X : Nat × (Nat → Int32)} {s : zq_S} {K : Int → zq_S → Prop} {x1 : Int} (hx1 : zq_iv x1) {x2 : Int} (hx2 : zq_iv x2) {x3 : Int} (hx3 : zq_iv x3) {x4 : Int} (hx4 : zq_bo x4) {x5 : Int} (hx5 : zq_iv x5) {v6 : Value} (hv6 : v6.category = 1) {v7 : Value} (hv7 : v7.category = 1) (w : (if x5 < zq_i s (232) (33) then (((0 : Int) ≤ x5 ∧ x5 < (16 : Int)) ∧ (if zq_i s (249) (x5) = zq_i s (232) (29) then (((0 : Int) ≤ x5 ∧ x5 < (16 : Int)) ∧ (zq_Ex X 153 0 [(.ref (232)), (zq_vi (3)), (zq_vi (zq_i s (248) (x5))), zz_no] [] s (zq_rp zq_iv fun x_7 s_6 => (((0 : Int) ≤ x5 ∧ x5 < (16 : Int)) ∧ (zq_iv (x_7 - (zq_i s_6 (248) (x5))) ∧ (if x_7 - (zq_i s_6 (248) (x5)) = x3 then zq_Ex X 156 72 [(.ref (232)), (zq_vi (x1)), (zq_vi (x2)), (zq_vi (x3)), (zq_vi (x4)), (zq_vi (x5)), (zq_vi (1)), (zq_vi (0))] [] s_6 (zq_rp zq_bo K) else zq_Ex X 156 72 [(.ref (232)), (zq_vi (x1)), (zq_vi (x2)), (zq_vi (x3)), (zq_vi (x4)), (zq_vi (x5)), (zq_vi (0)), (zq_vi (0))] [] s_6 (zq_rp zq_bo K))))))) else zq_Ex X 156 72 [(.ref (232)), (zq_vi (x1)), (zq_vi (x2)), (zq_vi (x3)), (zq_vi (x4)), (zq_vi (x5)), (zq_vi (0)), (zq_vi (0))] [] s (zq_rp zq_bo K))) else K (x4) s)) : zq_Ex X 156 15 [(.ref (232)), (zq_vi (x1)), (zq_vi (x2)), (zq_vi (x3)), (zq_vi (x4)), (zq_vi (x5)), v6, v7] [] s (zq_rp zq_bo K) := by
  refine zq_run 2 (pc' := 18) (L' := [(.ref (232)), (zq_vi (x1)), (zq_vi (x2)), (zq_vi (x3)), (zq_vi (x4)), (zq_vi (x5)), v6, v7]) (st' := [(.ref (232)), (zq_vi (x5))]) (fun _ _ _ => rfl) ?_
  refine zq_have (fun hR_1 => ?_)
  refine zq_getf_i (j := 33) (v := zq_i s (232) (33)) rfl zq_a232 rfl rfl rfl ?_
  refine zq_ge rfl hx5 (hR_1.1 _ _) (fun hb_2 => ?_) (fun hb_2 => ?_)
  · rw [if_neg hb_2] at w
    refine zq_run 1 (pc' := 148) (L' := [(.ref (232)), (zq_vi (x1)), (zq_vi (x2)), (zq_vi (x3)), (zq_vi (x4)), (zq_vi (x5)), v6, v7]) (st' := [(zq_vi (x4))]) (fun _ _ _ => rfl) ?_
    exact zq_iret rfl rfl (congrArg Value.int (zq_nb hx4)) (⟨_, rfl, hx4, w⟩)
  · rw [if_pos hb_2] at w
    refine zq_run 1 (pc' := 25) (L' := [(.ref (232)), (zq_vi (x1)), (zq_vi (x2)), (zq_vi (x3)), (zq_vi (x4)), (zq_vi (x5)), v6, v7]) (st' := [(.ref (232))]) (fun _ _ _ => rfl) ?_
    refine zq_getf_f (b := 249) rfl zq_a232 rfl rfl ?_
    refine zq_run 1 (pc' := 30) (L' := [(.ref (232)), (zq_vi (x1)), (zq_vi (x2)), (zq_vi (x3)), (zq_vi (x4)), (zq_vi (x5)), v6, v7]) (st' := [(zq_vi (x5)), (.ref (249))]) (fun _ _ _ => rfl) ?_
    obtain ⟨g_3, w⟩ := w
    refine zq_ald_i (v := zq_i s (249) (x5)) rfl zq_a249 g_3.1 g_3.2 rfl ?_
    refine zq_run 1 (pc' := 32) (L' := [(.ref (232)), (zq_vi (x1)), (zq_vi (x2)), (zq_vi (x3)), (zq_vi (x4)), (zq_vi (x5)), v6, v7]) (st' := [(.ref (232)), (zq_vi (zq_i s (249) (x5)))]) (fun _ _ _ => rfl) ?_
    refine zq_getf_i (j := 29) (v := zq_i s (232) (29)) rfl zq_a232 rfl rfl rfl ?_
    refine zq_ne rfl (hR_1.1 _ _) (hR_1.1 _ _) (fun hb_4 => ?_) (fun hb_4 => ?_)
    · rw [if_neg hb_4] at w
      refine zq_run 4 (pc' := 72) (L' := [(.ref (232)), (zq_vi (x1)), (zq_vi (x2)), (zq_vi (x3)), (zq_vi (x4)), (zq_vi (x5)), (zq_vi (0)), (zq_vi (0))]) (st' := []) (fun _ _ _ => rfl) ?_
      exact w
    · rw [if_pos hb_4] at w
      refine zq_run 3 (pc' := 41) (L' := [(.ref (232)), (zq_vi (x1)), (zq_vi (x2)), (zq_vi (x3)), (zq_vi (x4)), (zq_vi (x5)), v6, v7]) (st' := [(.ref (232)), (zq_vi (3)), (.ref (232))]) (fun _ _ _ => rfl) ?_
      refine zq_getf_f (b := 248) rfl zq_a232 rfl rfl ?_
      refine zq_run 1 (pc' := 46) (L' := [(.ref (232)), (zq_vi (x1)), (zq_vi (x2)), (zq_vi (x3)), (zq_vi (x4)), (zq_vi (x5)), v6, v7]) (st' := [(zq_vi (x5)), (.ref (248)), (zq_vi (3)), (.ref (232))]) (fun _ _ _ => rfl) ?_
      obtain ⟨g_5, w⟩ := w
      refine zq_ald_i (v := zq_i s (248) (x5)) rfl zq_a248 g_5.1 g_5.2 rfl ?_
      refine zq_call_i (i := .invokevirtual 130) (r := [1, 153, 2, 1, 9]) rfl rfl (fun h hp => zr_avv rfl (hp.obj zq_a232)) (of_decide_eq_false rfl) w (fun x_7 s_6 hx_8 w => ?_)
      refine zq_run 1 (pc' := 51) (L' := [(.ref (232)), (zq_vi (x1)), (zq_vi (x2)), (zq_vi (x3)), (zq_vi (x4)), (zq_vi (x5)), v6, v7]) (st' := [(.ref (232)), (zq_vi (x_7))]) (fun _ _ _ => rfl) ?_
      refine zq_getf_f (b := 248) rfl zq_a232 rfl rfl ?_
      refine zq_run 1 (pc' := 56) (L' := [(.ref (232)), (zq_vi (x1)), (zq_vi (x2)), (zq_vi (x3)), (zq_vi (x4)), (zq_vi (x5)), v6, v7]) (st' := [(zq_vi (x5)), (.ref (248)), (zq_vi (x_7))]) (fun _ _ _ => rfl) ?_
      obtain ⟨g_9, w⟩ := w
      refine zq_have (fun hR_10 => ?_)
      refine zq_ald_i (v := zq_i s_6 (248) (x5)) rfl zq_a248 g_9.1 g_9.2 rfl ?_
      refine zq_isub rfl ?_
      refine zq_run 1 (pc' := 59) (L' := [(.ref (232)), (zq_vi (x1)), (zq_vi (x2)), (zq_vi (x3)), (zq_vi (x4)), (zq_vi (x5)), v6, v7]) (st' := [(zq_vi (x3)), (zq_vi (x_7 - (zq_i s_6 (248) (x5))))]) (fun _ _ _ => rfl) ?_
      obtain ⟨g_11, w⟩ := w
      refine zq_ne rfl g_11 hx3 (fun hb_12 => ?_) (fun hb_12 => ?_)
      · rw [if_neg hb_12] at w
        refine zq_run 4 (pc' := 72) (L' := [(.ref (232)), (zq_vi (x1)), (zq_vi (x2)), (zq_vi (x3)), (zq_vi (x4)), (zq_vi (x5)), (zq_vi (0)), (zq_vi (0))]) (st' := []) (fun _ _ _ => rfl) ?_
        exact w
      · rw [if_pos hb_12] at w
        refine zq_run 5 (pc' := 72) (L' := [(.ref (232)), (zq_vi (x1)), (zq_vi (x2)), (zq_vi (x3)), (zq_vi (x4)), (zq_vi (x5)), (zq_vi (1)), (zq_vi (0))]) (st' := []) (fun _ _ _ => rfl) ?_
        exact w
/-- PaperObjectsModel.keyThere at 72 -/
theorem zw_156_72 {X : Nat × (Nat → Int32)} {s : zq_S} {K : Int → zq_S → Prop} {x1 : Int} (hx1 : zq_iv x1) {x2 : Int} (hx2 : zq_iv x2) {x3 : Int} (hx3 : zq_iv x3) {x4 : Int} (hx4 : zq_bo x4) {x5 : Int} (hx5 : zq_iv x5) {x6 : Int} (hx6 : zq_bo x6) {x7 : Int} (hx7 : zq_iv x7) (w : (if x7 < x3 then (if x6 = 0 then (if x4 = 0 then (if x6 = 0 then zq_Ex X 156 15 [(.ref (232)), (zq_vi (x1)), (zq_vi (x2)), (zq_vi (x3)), (zq_vi (0)), (zq_vi (x5 + 1)), (zq_vi (x6)), (zq_vi (x7))] [] s (zq_rp zq_bo K) else zq_Ex X 156 15 [(.ref (232)), (zq_vi (x1)), (zq_vi (x2)), (zq_vi (x3)), (zq_vi (1)), (zq_vi (x5 + 1)), (zq_vi (x6)), (zq_vi (x7))] [] s (zq_rp zq_bo K)) else zq_Ex X 156 15 [(.ref (232)), (zq_vi (x1)), (zq_vi (x2)), (zq_vi (x3)), (zq_vi (1)), (zq_vi (x5 + 1)), (zq_vi (x6)), (zq_vi (x7))] [] s (zq_rp zq_bo K)) else (((0 : Int) ≤ x5 ∧ x5 < (16 : Int)) ∧ (((0 : Int) ≤ (zq_i s (248) (x5)) + x7 ∧ (zq_i s (248) (x5)) + x7 < (700 : Int)) ∧ (zq_Ex X 147 0 [(.ref (232)), (zq_vi (x1)), (zq_vi (x2 + x7))] [] s (zq_rp zq_ch fun x_11 s_10 => (if zq_i s (245) ((zq_i s (248) (x5)) + x7) = x_11 then zq_Ex X 156 72 [(.ref (232)), (zq_vi (x1)), (zq_vi (x2)), (zq_vi (x3)), (zq_vi (x4)), (zq_vi (x5)), (zq_vi (1)), (zq_vi (x7 + 1))] [] s_10 (zq_rp zq_bo K) else zq_Ex X 156 72 [(.ref (232)), (zq_vi (x1)), (zq_vi (x2)), (zq_vi (x3)), (zq_vi (x4)), (zq_vi (x5)), (zq_vi (0)), (zq_vi (x7 + 1))] [] s_10 (zq_rp zq_bo K))))))) else (if x4 = 0 then (if x6 = 0 then zq_Ex X 156 15 [(.ref (232)), (zq_vi (x1)), (zq_vi (x2)), (zq_vi (x3)), (zq_vi (0)), (zq_vi (x5 + 1)), (zq_vi (x6)), (zq_vi (x7))] [] s (zq_rp zq_bo K) else zq_Ex X 156 15 [(.ref (232)), (zq_vi (x1)), (zq_vi (x2)), (zq_vi (x3)), (zq_vi (1)), (zq_vi (x5 + 1)), (zq_vi (x6)), (zq_vi (x7))] [] s (zq_rp zq_bo K)) else zq_Ex X 156 15 [(.ref (232)), (zq_vi (x1)), (zq_vi (x2)), (zq_vi (x3)), (zq_vi (1)), (zq_vi (x5 + 1)), (zq_vi (x6)), (zq_vi (x7))] [] s (zq_rp zq_bo K)))) : zq_Ex X 156 72 [(.ref (232)), (zq_vi (x1)), (zq_vi (x2)), (zq_vi (x3)), (zq_vi (x4)), (zq_vi (x5)), (zq_vi (x6)), (zq_vi (x7))] [] s (zq_rp zq_bo K) := by
  refine zq_run 2 (pc' := 75) (L' := [(.ref (232)), (zq_vi (x1)), (zq_vi (x2)), (zq_vi (x3)), (zq_vi (x4)), (zq_vi (x5)), (zq_vi (x6)), (zq_vi (x7))]) (st' := [(zq_vi (x3)), (zq_vi (x7))]) (fun _ _ _ => rfl) ?_
  refine zq_ge rfl hx7 hx3 (fun hb_1 => ?_) (fun hb_1 => ?_)
  · rw [if_neg hb_1] at w
    refine zq_run 1 (pc' := 125) (L' := [(.ref (232)), (zq_vi (x1)), (zq_vi (x2)), (zq_vi (x3)), (zq_vi (x4)), (zq_vi (x5)), (zq_vi (x6)), (zq_vi (x7))]) (st' := [(zq_vi (x4))]) (fun _ _ _ => rfl) ?_
    refine zq_ne0 rfl (zq_bo_in hx4) (fun hb_2 => ?_) (fun hb_2 => ?_)
    · rw [if_neg hb_2] at w
      refine zq_run 3 (pc' := 140) (L' := [(.ref (232)), (zq_vi (x1)), (zq_vi (x2)), (zq_vi (x3)), (zq_vi (1)), (zq_vi (x5)), (zq_vi (x6)), (zq_vi (x7))]) (st' := []) (fun _ _ _ => rfl) ?_
      refine zq_iinc (L' := [(.ref (232)), (zq_vi (x1)), (zq_vi (x2)), (zq_vi (x3)), (zq_vi (1)), (zq_vi (x5 + 1)), (zq_vi (x6)), (zq_vi (x7))]) rfl rfl rfl ?_
      refine zq_run 1 (pc' := 15) (L' := [(.ref (232)), (zq_vi (x1)), (zq_vi (x2)), (zq_vi (x3)), (zq_vi (1)), (zq_vi (x5 + 1)), (zq_vi (x6)), (zq_vi (x7))]) (st' := []) (fun _ _ _ => rfl) ?_
      exact w
    · rw [if_pos hb_2] at w
      refine zq_run 1 (pc' := 130) (L' := [(.ref (232)), (zq_vi (x1)), (zq_vi (x2)), (zq_vi (x3)), (zq_vi (x4)), (zq_vi (x5)), (zq_vi (x6)), (zq_vi (x7))]) (st' := [(zq_vi (x6))]) (fun _ _ _ => rfl) ?_
      refine zq_eq0 rfl (zq_bo_in hx6) (fun hb_3 => ?_) (fun hb_3 => ?_)
      · rw [if_pos hb_3] at w
        refine zq_run 2 (pc' := 140) (L' := [(.ref (232)), (zq_vi (x1)), (zq_vi (x2)), (zq_vi (x3)), (zq_vi (0)), (zq_vi (x5)), (zq_vi (x6)), (zq_vi (x7))]) (st' := []) (fun _ _ _ => rfl) ?_
        refine zq_iinc (L' := [(.ref (232)), (zq_vi (x1)), (zq_vi (x2)), (zq_vi (x3)), (zq_vi (0)), (zq_vi (x5 + 1)), (zq_vi (x6)), (zq_vi (x7))]) rfl rfl rfl ?_
        refine zq_run 1 (pc' := 15) (L' := [(.ref (232)), (zq_vi (x1)), (zq_vi (x2)), (zq_vi (x3)), (zq_vi (0)), (zq_vi (x5 + 1)), (zq_vi (x6)), (zq_vi (x7))]) (st' := []) (fun _ _ _ => rfl) ?_
        exact w
      · rw [if_neg hb_3] at w
        refine zq_run 3 (pc' := 140) (L' := [(.ref (232)), (zq_vi (x1)), (zq_vi (x2)), (zq_vi (x3)), (zq_vi (1)), (zq_vi (x5)), (zq_vi (x6)), (zq_vi (x7))]) (st' := []) (fun _ _ _ => rfl) ?_
        refine zq_iinc (L' := [(.ref (232)), (zq_vi (x1)), (zq_vi (x2)), (zq_vi (x3)), (zq_vi (1)), (zq_vi (x5 + 1)), (zq_vi (x6)), (zq_vi (x7))]) rfl rfl rfl ?_
        refine zq_run 1 (pc' := 15) (L' := [(.ref (232)), (zq_vi (x1)), (zq_vi (x2)), (zq_vi (x3)), (zq_vi (1)), (zq_vi (x5 + 1)), (zq_vi (x6)), (zq_vi (x7))]) (st' := []) (fun _ _ _ => rfl) ?_
        exact w
  · rw [if_pos hb_1] at w
    refine zq_run 1 (pc' := 80) (L' := [(.ref (232)), (zq_vi (x1)), (zq_vi (x2)), (zq_vi (x3)), (zq_vi (x4)), (zq_vi (x5)), (zq_vi (x6)), (zq_vi (x7))]) (st' := [(zq_vi (x6))]) (fun _ _ _ => rfl) ?_
    refine zq_eq0 rfl (zq_bo_in hx6) (fun hb_4 => ?_) (fun hb_4 => ?_)
    · rw [if_pos hb_4] at w
      refine zq_run 1 (pc' := 125) (L' := [(.ref (232)), (zq_vi (x1)), (zq_vi (x2)), (zq_vi (x3)), (zq_vi (x4)), (zq_vi (x5)), (zq_vi (x6)), (zq_vi (x7))]) (st' := [(zq_vi (x4))]) (fun _ _ _ => rfl) ?_
      refine zq_ne0 rfl (zq_bo_in hx4) (fun hb_5 => ?_) (fun hb_5 => ?_)
      · rw [if_neg hb_5] at w
        refine zq_run 3 (pc' := 140) (L' := [(.ref (232)), (zq_vi (x1)), (zq_vi (x2)), (zq_vi (x3)), (zq_vi (1)), (zq_vi (x5)), (zq_vi (x6)), (zq_vi (x7))]) (st' := []) (fun _ _ _ => rfl) ?_
        refine zq_iinc (L' := [(.ref (232)), (zq_vi (x1)), (zq_vi (x2)), (zq_vi (x3)), (zq_vi (1)), (zq_vi (x5 + 1)), (zq_vi (x6)), (zq_vi (x7))]) rfl rfl rfl ?_
        refine zq_run 1 (pc' := 15) (L' := [(.ref (232)), (zq_vi (x1)), (zq_vi (x2)), (zq_vi (x3)), (zq_vi (1)), (zq_vi (x5 + 1)), (zq_vi (x6)), (zq_vi (x7))]) (st' := []) (fun _ _ _ => rfl) ?_
        exact w
      · rw [if_pos hb_5] at w
        refine zq_run 1 (pc' := 130) (L' := [(.ref (232)), (zq_vi (x1)), (zq_vi (x2)), (zq_vi (x3)), (zq_vi (x4)), (zq_vi (x5)), (zq_vi (x6)), (zq_vi (x7))]) (st' := [(zq_vi (x6))]) (fun _ _ _ => rfl) ?_
        refine zq_eq0 rfl (zq_bo_in hx6) (fun hb_6 => ?_) (fun hb_6 => ?_)
        · rw [if_pos hb_6] at w
          refine zq_run 2 (pc' := 140) (L' := [(.ref (232)), (zq_vi (x1)), (zq_vi (x2)), (zq_vi (x3)), (zq_vi (0)), (zq_vi (x5)), (zq_vi (x6)), (zq_vi (x7))]) (st' := []) (fun _ _ _ => rfl) ?_
          refine zq_iinc (L' := [(.ref (232)), (zq_vi (x1)), (zq_vi (x2)), (zq_vi (x3)), (zq_vi (0)), (zq_vi (x5 + 1)), (zq_vi (x6)), (zq_vi (x7))]) rfl rfl rfl ?_
          refine zq_run 1 (pc' := 15) (L' := [(.ref (232)), (zq_vi (x1)), (zq_vi (x2)), (zq_vi (x3)), (zq_vi (0)), (zq_vi (x5 + 1)), (zq_vi (x6)), (zq_vi (x7))]) (st' := []) (fun _ _ _ => rfl) ?_
          exact w
        · rw [if_neg hb_6] at w
          refine zq_run 3 (pc' := 140) (L' := [(.ref (232)), (zq_vi (x1)), (zq_vi (x2)), (zq_vi (x3)), (zq_vi (1)), (zq_vi (x5)), (zq_vi (x6)), (zq_vi (x7))]) (st' := []) (fun _ _ _ => rfl) ?_
          refine zq_iinc (L' := [(.ref (232)), (zq_vi (x1)), (zq_vi (x2)), (zq_vi (x3)), (zq_vi (1)), (zq_vi (x5 + 1)), (zq_vi (x6)), (zq_vi (x7))]) rfl rfl rfl ?_
          refine zq_run 1 (pc' := 15) (L' := [(.ref (232)), (zq_vi (x1)), (zq_vi (x2)), (zq_vi (x3)), (zq_vi (1)), (zq_vi (x5 + 1)), (zq_vi (x6)), (zq_vi (x7))]) (st' := []) (fun _ _ _ => rfl) ?_
          exact w
    · rw [if_neg hb_4] at w
      refine zq_run 1 (pc' := 84) (L' := [(.ref (232)), (zq_vi (x1)), (zq_vi (x2)), (zq_vi (x3)), (zq_vi (x4)), (zq_vi (x5)), (zq_vi (x6)), (zq_vi (x7))]) (st' := [(.ref (232))]) (fun _ _ _ => rfl) ?_
      refine zq_getf_f (b := 245) rfl zq_a232 rfl rfl ?_
      refine zq_run 1 (pc' := 88) (L' := [(.ref (232)), (zq_vi (x1)), (zq_vi (x2)), (zq_vi (x3)), (zq_vi (x4)), (zq_vi (x5)), (zq_vi (x6)), (zq_vi (x7))]) (st' := [(.ref (232)), (.ref (245))]) (fun _ _ _ => rfl) ?_
      refine zq_getf_f (b := 248) rfl zq_a232 rfl rfl ?_
      refine zq_run 1 (pc' := 93) (L' := [(.ref (232)), (zq_vi (x1)), (zq_vi (x2)), (zq_vi (x3)), (zq_vi (x4)), (zq_vi (x5)), (zq_vi (x6)), (zq_vi (x7))]) (st' := [(zq_vi (x5)), (.ref (248)), (.ref (245))]) (fun _ _ _ => rfl) ?_
      obtain ⟨g_7, w⟩ := w
      refine zq_have (fun hR_8 => ?_)
      refine zq_ald_i (v := zq_i s (248) (x5)) rfl zq_a248 g_7.1 g_7.2 rfl ?_
      refine zq_run 1 (pc' := 96) (L' := [(.ref (232)), (zq_vi (x1)), (zq_vi (x2)), (zq_vi (x3)), (zq_vi (x4)), (zq_vi (x5)), (zq_vi (x6)), (zq_vi (x7))]) (st' := [(zq_vi (x7)), (zq_vi (zq_i s (248) (x5))), (.ref (245))]) (fun _ _ _ => rfl) ?_
      refine zq_iadd rfl ?_
      obtain ⟨g_9, w⟩ := w
      refine zq_ald_c (v := zq_i s (245) ((zq_i s (248) (x5)) + x7)) rfl zq_a245 g_9.1 g_9.2 rfl ?_
      refine zq_run 4 (pc' := 103) (L' := [(.ref (232)), (zq_vi (x1)), (zq_vi (x2)), (zq_vi (x3)), (zq_vi (x4)), (zq_vi (x5)), (zq_vi (x6)), (zq_vi (x7))]) (st' := [(zq_vi (x7)), (zq_vi (x2)), (zq_vi (x1)), (.ref (232)), (zq_vi (zq_i s (245) ((zq_i s (248) (x5)) + x7)))]) (fun _ _ _ => rfl) ?_
      refine zq_iadd rfl ?_
      refine zq_call_i (i := .invokevirtual 119) (r := [1, 147, 2, 1, 9]) rfl rfl (fun h hp => zr_avv rfl (hp.obj zq_a232)) (of_decide_eq_false rfl) w (fun x_11 s_10 hx_12 w => ?_)
      refine zq_ne rfl (zq_ch_in (hR_8.2.1 _ _ _ zq_a245)) (zq_ch_in hx_12) (fun hb_13 => ?_) (fun hb_13 => ?_)
      · rw [if_neg hb_13] at w
        refine zq_run 2 (pc' := 117) (L' := [(.ref (232)), (zq_vi (x1)), (zq_vi (x2)), (zq_vi (x3)), (zq_vi (x4)), (zq_vi (x5)), (zq_vi (0)), (zq_vi (x7))]) (st' := []) (fun _ _ _ => rfl) ?_
        refine zq_iinc (L' := [(.ref (232)), (zq_vi (x1)), (zq_vi (x2)), (zq_vi (x3)), (zq_vi (x4)), (zq_vi (x5)), (zq_vi (0)), (zq_vi (x7 + 1))]) rfl rfl rfl ?_
        refine zq_run 1 (pc' := 72) (L' := [(.ref (232)), (zq_vi (x1)), (zq_vi (x2)), (zq_vi (x3)), (zq_vi (x4)), (zq_vi (x5)), (zq_vi (0)), (zq_vi (x7 + 1))]) (st' := []) (fun _ _ _ => rfl) ?_
        exact w
      · rw [if_pos hb_13] at w
        refine zq_run 3 (pc' := 117) (L' := [(.ref (232)), (zq_vi (x1)), (zq_vi (x2)), (zq_vi (x3)), (zq_vi (x4)), (zq_vi (x5)), (zq_vi (1)), (zq_vi (x7))]) (st' := []) (fun _ _ _ => rfl) ?_
        refine zq_iinc (L' := [(.ref (232)), (zq_vi (x1)), (zq_vi (x2)), (zq_vi (x3)), (zq_vi (x4)), (zq_vi (x5)), (zq_vi (1)), (zq_vi (x7 + 1))]) rfl rfl rfl ?_
        refine zq_run 1 (pc' := 72) (L' := [(.ref (232)), (zq_vi (x1)), (zq_vi (x2)), (zq_vi (x3)), (zq_vi (x4)), (zq_vi (x5)), (zq_vi (1)), (zq_vi (x7 + 1))]) (st' := []) (fun _ _ _ => rfl) ?_
        exact w
/-- PaperObjectsModel.copyMade(III)V -/
theorem zw_157 {X : Nat × (Nat → Int32)} {s : zq_S} {K : zq_S → Prop} {x1 : Int} (hx1 : zq_iv x1) {x2 : Int} (hx2 : zq_iv x2) {x3 : Int} (hx3 : zq_iv x3) (w : zq_Ex X 157 3 [(.ref (232)), (zq_vi (x1)), (zq_vi (x2)), (zq_vi (x3)), (zq_vi (x2))] [] s (zq_rv K)) : zq_Ex X 157 0 [(.ref (232)), (zq_vi (x1)), (zq_vi (x2)), (zq_vi (x3)), zz_no] [] s (zq_rv K) := by
  refine zq_run 2 (pc' := 3) (L' := [(.ref (232)), (zq_vi (x1)), (zq_vi (x2)), (zq_vi (x3)), (zq_vi (x2))]) (st' := []) (fun _ _ _ => rfl) ?_
  exact w
/-- PaperObjectsModel.copyMade at 3 -/
theorem zw_157_3 {X : Nat × (Nat → Int32)} {s : zq_S} {K : zq_S → Prop} {x1 : Int} (hx1 : zq_iv x1) {x2 : Int} (hx2 : zq_iv x2) {x3 : Int} (hx3 : zq_iv x3) {x4 : Int} (hx4 : zq_iv x4) (w : (if x4 < x3 then (zq_Ex X 147 0 [(.ref (232)), (zq_vi (x1)), (zq_vi (x4))] [] s (zq_rp zq_ch fun x_3 s_2 => (zq_Ex X 150 0 [(.ref (232)), (zq_vi (x_3))] [] s_2 (zq_rv fun s_5 => zq_Ex X 157 3 [(.ref (232)), (zq_vi (x1)), (zq_vi (x2)), (zq_vi (x3)), (zq_vi (x4 + 1))] [] s_5 (zq_rv K))))) else K s)) : zq_Ex X 157 3 [(.ref (232)), (zq_vi (x1)), (zq_vi (x2)), (zq_vi (x3)), (zq_vi (x4))] [] s (zq_rv K) := by
  refine zq_run 2 (pc' := 6) (L' := [(.ref (232)), (zq_vi (x1)), (zq_vi (x2)), (zq_vi (x3)), (zq_vi (x4))]) (st' := [(zq_vi (x3)), (zq_vi (x4))]) (fun _ _ _ => rfl) ?_
  refine zq_ge rfl hx4 hx3 (fun hb_1 => ?_) (fun hb_1 => ?_)
  · rw [if_neg hb_1] at w
    exact zq_vret rfl rfl (⟨rfl, w⟩)
  · rw [if_pos hb_1] at w
    refine zq_run 4 (pc' := 14) (L' := [(.ref (232)), (zq_vi (x1)), (zq_vi (x2)), (zq_vi (x3)), (zq_vi (x4))]) (st' := [(zq_vi (x4)), (zq_vi (x1)), (.ref (232)), (.ref (232))]) (fun _ _ _ => rfl) ?_
    refine zq_call_i (i := .invokevirtual 119) (r := [1, 147, 2, 1, 9]) rfl rfl (fun h hp => zr_avv rfl (hp.obj zq_a232)) (of_decide_eq_false rfl) w (fun x_3 s_2 hx_4 w => ?_)
    refine zq_call_v (i := .invokevirtual 123) (r := [1, 150, 1, 1, 9]) rfl rfl (fun h hp => zr_avv rfl (hp.obj zq_a232)) (of_decide_eq_false rfl) w (fun s_5 w => ?_)
    refine zq_iinc (L' := [(.ref (232)), (zq_vi (x1)), (zq_vi (x2)), (zq_vi (x3)), (zq_vi (x4 + 1))]) rfl rfl rfl ?_
    refine zq_run 1 (pc' := 3) (L' := [(.ref (232)), (zq_vi (x1)), (zq_vi (x2)), (zq_vi (x3)), (zq_vi (x4 + 1))]) (st' := []) (fun _ _ _ => rfl) ?_
    exact w
/-- PaperObjectsModel.readPart(II)V -/
theorem zw_158 {X : Nat × (Nat → Int32)} {s : zq_S} {K : zq_S → Prop} {x1 : Int} (hx1 : zq_iv x1) {x2 : Int} (hx2 : zq_iv x2) (w : (zq_Ex X 159 0 [(.ref (232)), (zq_vi (x1)), (zq_vi (x2)), zz_no, zz_no] [] s (zq_rp zq_iv fun x_2 s_1 => (if x_2 < 0 then K (zq_si s_1 (232) (26) (x2)) else (if zq_i s_1 (232) (29) = 5 then K (zq_si s_1 (232) (26) (x2)) else (if zq_i s_1 (232) (27) = 12 then K (zq_si s_1 (232) (26) (x2)) else (zq_iv ((zq_i s_1 (232) (27)) + 1) ∧ (zq_iv ((zq_i s_1 (232) (29)) + 1) ∧ (if (zq_i s_1 (232) (29)) + 1 ≤ zq_i s_1 (232) (28) then (if zq_i s_1 (232) (29) ≤ 0 then zq_Ex X 158 126 [(.ref (232)), (zq_vi (x1)), (zq_vi (x2)), (zq_vi (x_2))] [] (zq_si (zq_si s_1 (232) (27) ((zq_i s_1 (232) (27)) + 1)) (232) (28) (zq_i s_1 (232) (28))) (zq_rv K) else (((0 : Int) ≤ zq_i s_1 (232) (29) ∧ zq_i s_1 (232) (29) < (8 : Int)) ∧ (if zq_i s_1 (246) (zq_i s_1 (232) (29)) = 6 then (((0 : Int) ≤ zq_i s_1 (232) (29) ∧ zq_i s_1 (232) (29) < (8 : Int)) ∧ (if zq_i s_1 (247) (zq_i s_1 (232) (29)) ≤ 0 then zq_Ex X 158 113 [(.ref (232)), (zq_vi (x1)), (zq_vi (x2)), (zq_vi (x_2))] [] (zq_si (zq_si s_1 (232) (27) ((zq_i s_1 (232) (27)) + 1)) (232) (28) (zq_i s_1 (232) (28))) (zq_rv K) else (zq_Ex X 150 0 [(.ref (232)), (zq_vi (32))] [] (zq_si (zq_si s_1 (232) (27) ((zq_i s_1 (232) (27)) + 1)) (232) (28) (zq_i s_1 (232) (28))) (zq_rv fun s_24 => zq_Ex X 158 113 [(.ref (232)), (zq_vi (x1)), (zq_vi (x2)), (zq_vi (x_2))] [] s_24 (zq_rv K))))) else zq_Ex X 158 113 [(.ref (232)), (zq_vi (x1)), (zq_vi (x2)), (zq_vi (x_2))] [] (zq_si (zq_si s_1 (232) (27) ((zq_i s_1 (232) (27)) + 1)) (232) (28) (zq_i s_1 (232) (28))) (zq_rv K)))) else (zq_iv ((zq_i s_1 (232) (29)) + 1) ∧ (if zq_i s_1 (232) (29) ≤ 0 then zq_Ex X 158 126 [(.ref (232)), (zq_vi (x1)), (zq_vi (x2)), (zq_vi (x_2))] [] (zq_si (zq_si s_1 (232) (27) ((zq_i s_1 (232) (27)) + 1)) (232) (28) ((zq_i s_1 (232) (29)) + 1)) (zq_rv K) else (((0 : Int) ≤ zq_i s_1 (232) (29) ∧ zq_i s_1 (232) (29) < (8 : Int)) ∧ (if zq_i s_1 (246) (zq_i s_1 (232) (29)) = 6 then (((0 : Int) ≤ zq_i s_1 (232) (29) ∧ zq_i s_1 (232) (29) < (8 : Int)) ∧ (if zq_i s_1 (247) (zq_i s_1 (232) (29)) ≤ 0 then zq_Ex X 158 113 [(.ref (232)), (zq_vi (x1)), (zq_vi (x2)), (zq_vi (x_2))] [] (zq_si (zq_si s_1 (232) (27) ((zq_i s_1 (232) (27)) + 1)) (232) (28) ((zq_i s_1 (232) (29)) + 1)) (zq_rv K) else (zq_Ex X 150 0 [(.ref (232)), (zq_vi (32))] [] (zq_si (zq_si s_1 (232) (27) ((zq_i s_1 (232) (27)) + 1)) (232) (28) ((zq_i s_1 (232) (29)) + 1)) (zq_rv fun s_37 => zq_Ex X 158 113 [(.ref (232)), (zq_vi (x1)), (zq_vi (x2)), (zq_vi (x_2))] [] s_37 (zq_rv K))))) else zq_Ex X 158 113 [(.ref (232)), (zq_vi (x1)), (zq_vi (x2)), (zq_vi (x_2))] [] (zq_si (zq_si s_1 (232) (27) ((zq_i s_1 (232) (27)) + 1)) (232) (28) ((zq_i s_1 (232) (29)) + 1)) (zq_rv K)))))))))))))) : zq_Ex X 158 0 [(.ref (232)), (zq_vi (x1)), (zq_vi (x2)), zz_no] [] s (zq_rv K) := by
  refine zq_run 3 (pc' := 3) (L' := [(.ref (232)), (zq_vi (x1)), (zq_vi (x2)), zz_no]) (st' := [(zq_vi (x2)), (zq_vi (x1)), (.ref (232))]) (fun _ _ _ => rfl) ?_
  refine zq_call_i (i := .invokevirtual 202) (r := [1, 159, 2, 1, 9]) rfl rfl (fun h hp => zr_avv rfl (hp.obj zq_a232)) (of_decide_eq_false rfl) w (fun x_2 s_1 hx_3 w => ?_)
  refine zq_run 2 (pc' := 8) (L' := [(.ref (232)), (zq_vi (x1)), (zq_vi (x2)), (zq_vi (x_2))]) (st' := [(zq_vi (x_2))]) (fun _ _ _ => rfl) ?_
  refine zq_lt0 rfl hx_3 (fun hb_4 => ?_) (fun hb_4 => ?_)
  · rw [if_pos hb_4] at w
    refine zq_run 2 (pc' := 30) (L' := [(.ref (232)), (zq_vi (x1)), (zq_vi (x2)), (zq_vi (x_2))]) (st' := [(zq_vi (x2)), (.ref (232))]) (fun _ _ _ => rfl) ?_
    refine zq_putf_i (j := 26) rfl zq_a232 rfl rfl rfl hx2 ?_
    exact zq_vret rfl rfl (⟨rfl, w⟩)
  · rw [if_neg hb_4] at w
    refine zq_run 1 (pc' := 12) (L' := [(.ref (232)), (zq_vi (x1)), (zq_vi (x2)), (zq_vi (x_2))]) (st' := [(.ref (232))]) (fun _ _ _ => rfl) ?_
    refine zq_have (fun hR_5 => ?_)
    refine zq_getf_i (j := 29) (v := zq_i s_1 (232) (29)) rfl zq_a232 rfl rfl rfl ?_
    refine zq_run 1 (pc' := 16) (L' := [(.ref (232)), (zq_vi (x1)), (zq_vi (x2)), (zq_vi (x_2))]) (st' := [(zq_vi (5)), (zq_vi (zq_i s_1 (232) (29)))]) (fun _ _ _ => rfl) ?_
    refine zq_eq rfl (hR_5.1 _ _) (of_decide_eq_true rfl) (fun hb_6 => ?_) (fun hb_6 => ?_)
    · rw [if_pos hb_6] at w
      refine zq_run 2 (pc' := 30) (L' := [(.ref (232)), (zq_vi (x1)), (zq_vi (x2)), (zq_vi (x_2))]) (st' := [(zq_vi (x2)), (.ref (232))]) (fun _ _ _ => rfl) ?_
      refine zq_putf_i (j := 26) rfl zq_a232 rfl rfl rfl hx2 ?_
      exact zq_vret rfl rfl (⟨rfl, w⟩)
    · rw [if_neg hb_6] at w
      refine zq_run 1 (pc' := 20) (L' := [(.ref (232)), (zq_vi (x1)), (zq_vi (x2)), (zq_vi (x_2))]) (st' := [(.ref (232))]) (fun _ _ _ => rfl) ?_
      refine zq_getf_i (j := 27) (v := zq_i s_1 (232) (27)) rfl zq_a232 rfl rfl rfl ?_
      refine zq_run 1 (pc' := 25) (L' := [(.ref (232)), (zq_vi (x1)), (zq_vi (x2)), (zq_vi (x_2))]) (st' := [(zq_vi (12)), (zq_vi (zq_i s_1 (232) (27)))]) (fun _ _ _ => rfl) ?_
      refine zq_ne rfl (hR_5.1 _ _) (of_decide_eq_true rfl) (fun hb_7 => ?_) (fun hb_7 => ?_)
      · rw [if_neg hb_7] at w
        refine zq_run 2 (pc' := 36) (L' := [(.ref (232)), (zq_vi (x1)), (zq_vi (x2)), (zq_vi (x_2))]) (st' := [(.ref (232)), (.ref (232))]) (fun _ _ _ => rfl) ?_
        refine zq_getf_i (j := 27) (v := zq_i s_1 (232) (27)) rfl zq_a232 rfl rfl rfl ?_
        refine zq_run 1 (pc' := 40) (L' := [(.ref (232)), (zq_vi (x1)), (zq_vi (x2)), (zq_vi (x_2))]) (st' := [(zq_vi (1)), (zq_vi (zq_i s_1 (232) (27))), (.ref (232))]) (fun _ _ _ => rfl) ?_
        refine zq_iadd rfl ?_
        obtain ⟨g_8, w⟩ := w
        refine zq_putf_i (j := 27) rfl zq_a232 rfl rfl rfl g_8 ?_
        refine zq_run 2 (pc' := 46) (L' := [(.ref (232)), (zq_vi (x1)), (zq_vi (x2)), (zq_vi (x_2))]) (st' := [(.ref (232)), (.ref (232))]) (fun _ _ _ => rfl) ?_
        have e_9 : zq_i (zq_si s_1 (232) (27) ((zq_i s_1 (232) (27)) + 1)) (232) (29) = zq_i s_1 (232) (29) := by simp [zq_i_si, zq_i_sr, zq_i_sl]
        refine zq_getf_i (j := 29) (v := zq_i s_1 (232) (29)) rfl zq_a232 rfl rfl e_9 ?_
        refine zq_run 1 (pc' := 50) (L' := [(.ref (232)), (zq_vi (x1)), (zq_vi (x2)), (zq_vi (x_2))]) (st' := [(zq_vi (1)), (zq_vi (zq_i s_1 (232) (29))), (.ref (232))]) (fun _ _ _ => rfl) ?_
        refine zq_iadd rfl ?_
        refine zq_run 1 (pc' := 52) (L' := [(.ref (232)), (zq_vi (x1)), (zq_vi (x2)), (zq_vi (x_2))]) (st' := [(.ref (232)), (zq_vi ((zq_i s_1 (232) (29)) + 1)), (.ref (232))]) (fun _ _ _ => rfl) ?_
        have e_10 : zq_i (zq_si s_1 (232) (27) ((zq_i s_1 (232) (27)) + 1)) (232) (28) = zq_i s_1 (232) (28) := by simp [zq_i_si, zq_i_sr, zq_i_sl]
        refine zq_getf_i (j := 28) (v := zq_i s_1 (232) (28)) rfl zq_a232 rfl rfl e_10 ?_
        obtain ⟨g_11, w⟩ := w
        refine zq_le rfl g_11 (hR_5.1 _ _) (fun hb_12 => ?_) (fun hb_12 => ?_)
        · rw [if_pos hb_12] at w
          refine zq_run 1 (pc' := 68) (L' := [(.ref (232)), (zq_vi (x1)), (zq_vi (x2)), (zq_vi (x_2))]) (st' := [(.ref (232)), (.ref (232))]) (fun _ _ _ => rfl) ?_
          have e_13 : zq_i (zq_si s_1 (232) (27) ((zq_i s_1 (232) (27)) + 1)) (232) (28) = zq_i s_1 (232) (28) := by simp [zq_i_si, zq_i_sr, zq_i_sl]
          refine zq_getf_i (j := 28) (v := zq_i s_1 (232) (28)) rfl zq_a232 rfl rfl e_13 ?_
          refine zq_putf_i (j := 28) rfl zq_a232 rfl rfl rfl (hR_5.1 _ _) ?_
          refine zq_run 1 (pc' := 75) (L' := [(.ref (232)), (zq_vi (x1)), (zq_vi (x2)), (zq_vi (x_2))]) (st' := [(.ref (232))]) (fun _ _ _ => rfl) ?_
          have e_14 : zq_i (zq_si (zq_si s_1 (232) (27) ((zq_i s_1 (232) (27)) + 1)) (232) (28) (zq_i s_1 (232) (28))) (232) (29) = zq_i s_1 (232) (29) := by simp [zq_i_si, zq_i_sr, zq_i_sl]
          refine zq_getf_i (j := 29) (v := zq_i s_1 (232) (29)) rfl zq_a232 rfl rfl e_14 ?_
          refine zq_le0 rfl (hR_5.1 _ _) (fun hb_15 => ?_) (fun hb_15 => ?_)
          · rw [if_pos hb_15] at w
            exact w
          · rw [if_neg hb_15] at w
            refine zq_run 1 (pc' := 82) (L' := [(.ref (232)), (zq_vi (x1)), (zq_vi (x2)), (zq_vi (x_2))]) (st' := [(.ref (232))]) (fun _ _ _ => rfl) ?_
            refine zq_getf_f (b := 246) rfl zq_a232 rfl rfl ?_
            refine zq_run 1 (pc' := 86) (L' := [(.ref (232)), (zq_vi (x1)), (zq_vi (x2)), (zq_vi (x_2))]) (st' := [(.ref (232)), (.ref (246))]) (fun _ _ _ => rfl) ?_
            have e_16 : zq_i (zq_si (zq_si s_1 (232) (27) ((zq_i s_1 (232) (27)) + 1)) (232) (28) (zq_i s_1 (232) (28))) (232) (29) = zq_i s_1 (232) (29) := by simp [zq_i_si, zq_i_sr, zq_i_sl]
            refine zq_getf_i (j := 29) (v := zq_i s_1 (232) (29)) rfl zq_a232 rfl rfl e_16 ?_
            obtain ⟨g_17, w⟩ := w
            have e_18 : zq_i (zq_si (zq_si s_1 (232) (27) ((zq_i s_1 (232) (27)) + 1)) (232) (28) (zq_i s_1 (232) (28))) (246) (zq_i s_1 (232) (29)) = zq_i s_1 (246) (zq_i s_1 (232) (29)) := by simp [zq_i_si, zq_i_sr, zq_i_sl]
            refine zq_ald_i (v := zq_i s_1 (246) (zq_i s_1 (232) (29))) rfl zq_a246 g_17.1 g_17.2 e_18 ?_
            refine zq_run 1 (pc' := 92) (L' := [(.ref (232)), (zq_vi (x1)), (zq_vi (x2)), (zq_vi (x_2))]) (st' := [(zq_vi (6)), (zq_vi (zq_i s_1 (246) (zq_i s_1 (232) (29))))]) (fun _ _ _ => rfl) ?_
            refine zq_ne rfl (hR_5.1 _ _) (of_decide_eq_true rfl) (fun hb_19 => ?_) (fun hb_19 => ?_)
            · rw [if_neg hb_19] at w
              exact w
            · rw [if_pos hb_19] at w
              refine zq_run 1 (pc' := 96) (L' := [(.ref (232)), (zq_vi (x1)), (zq_vi (x2)), (zq_vi (x_2))]) (st' := [(.ref (232))]) (fun _ _ _ => rfl) ?_
              refine zq_getf_f (b := 247) rfl zq_a232 rfl rfl ?_
              refine zq_run 1 (pc' := 100) (L' := [(.ref (232)), (zq_vi (x1)), (zq_vi (x2)), (zq_vi (x_2))]) (st' := [(.ref (232)), (.ref (247))]) (fun _ _ _ => rfl) ?_
              have e_20 : zq_i (zq_si (zq_si s_1 (232) (27) ((zq_i s_1 (232) (27)) + 1)) (232) (28) (zq_i s_1 (232) (28))) (232) (29) = zq_i s_1 (232) (29) := by simp [zq_i_si, zq_i_sr, zq_i_sl]
              refine zq_getf_i (j := 29) (v := zq_i s_1 (232) (29)) rfl zq_a232 rfl rfl e_20 ?_
              obtain ⟨g_21, w⟩ := w
              have e_22 : zq_i (zq_si (zq_si s_1 (232) (27) ((zq_i s_1 (232) (27)) + 1)) (232) (28) (zq_i s_1 (232) (28))) (247) (zq_i s_1 (232) (29)) = zq_i s_1 (247) (zq_i s_1 (232) (29)) := by simp [zq_i_si, zq_i_sr, zq_i_sl]
              refine zq_ald_i (v := zq_i s_1 (247) (zq_i s_1 (232) (29))) rfl zq_a247 g_21.1 g_21.2 e_22 ?_
              refine zq_le0 rfl (hR_5.1 _ _) (fun hb_23 => ?_) (fun hb_23 => ?_)
              · rw [if_pos hb_23] at w
                exact w
              · rw [if_neg hb_23] at w
                refine zq_run 2 (pc' := 110) (L' := [(.ref (232)), (zq_vi (x1)), (zq_vi (x2)), (zq_vi (x_2))]) (st' := [(zq_vi (32)), (.ref (232))]) (fun _ _ _ => rfl) ?_
                refine zq_call_v (i := .invokevirtual 123) (r := [1, 150, 1, 1, 9]) rfl rfl (fun h hp => zr_avv rfl (hp.obj zq_a232)) (of_decide_eq_false rfl) w (fun s_24 w => ?_)
                exact w
        · rw [if_neg hb_12] at w
          refine zq_run 1 (pc' := 59) (L' := [(.ref (232)), (zq_vi (x1)), (zq_vi (x2)), (zq_vi (x_2))]) (st' := [(.ref (232)), (.ref (232))]) (fun _ _ _ => rfl) ?_
          have e_25 : zq_i (zq_si s_1 (232) (27) ((zq_i s_1 (232) (27)) + 1)) (232) (29) = zq_i s_1 (232) (29) := by simp [zq_i_si, zq_i_sr, zq_i_sl]
          refine zq_getf_i (j := 29) (v := zq_i s_1 (232) (29)) rfl zq_a232 rfl rfl e_25 ?_
          refine zq_run 1 (pc' := 63) (L' := [(.ref (232)), (zq_vi (x1)), (zq_vi (x2)), (zq_vi (x_2))]) (st' := [(zq_vi (1)), (zq_vi (zq_i s_1 (232) (29))), (.ref (232))]) (fun _ _ _ => rfl) ?_
          refine zq_iadd rfl ?_
          refine zq_run 1 (pc' := 71) (L' := [(.ref (232)), (zq_vi (x1)), (zq_vi (x2)), (zq_vi (x_2))]) (st' := [(zq_vi ((zq_i s_1 (232) (29)) + 1)), (.ref (232))]) (fun _ _ _ => rfl) ?_
          obtain ⟨g_26, w⟩ := w
          refine zq_putf_i (j := 28) rfl zq_a232 rfl rfl rfl g_26 ?_
          refine zq_run 1 (pc' := 75) (L' := [(.ref (232)), (zq_vi (x1)), (zq_vi (x2)), (zq_vi (x_2))]) (st' := [(.ref (232))]) (fun _ _ _ => rfl) ?_
          have e_27 : zq_i (zq_si (zq_si s_1 (232) (27) ((zq_i s_1 (232) (27)) + 1)) (232) (28) ((zq_i s_1 (232) (29)) + 1)) (232) (29) = zq_i s_1 (232) (29) := by simp [zq_i_si, zq_i_sr, zq_i_sl]
          refine zq_getf_i (j := 29) (v := zq_i s_1 (232) (29)) rfl zq_a232 rfl rfl e_27 ?_
          refine zq_le0 rfl (hR_5.1 _ _) (fun hb_28 => ?_) (fun hb_28 => ?_)
          · rw [if_pos hb_28] at w
            exact w
          · rw [if_neg hb_28] at w
            refine zq_run 1 (pc' := 82) (L' := [(.ref (232)), (zq_vi (x1)), (zq_vi (x2)), (zq_vi (x_2))]) (st' := [(.ref (232))]) (fun _ _ _ => rfl) ?_
            refine zq_getf_f (b := 246) rfl zq_a232 rfl rfl ?_
            refine zq_run 1 (pc' := 86) (L' := [(.ref (232)), (zq_vi (x1)), (zq_vi (x2)), (zq_vi (x_2))]) (st' := [(.ref (232)), (.ref (246))]) (fun _ _ _ => rfl) ?_
            have e_29 : zq_i (zq_si (zq_si s_1 (232) (27) ((zq_i s_1 (232) (27)) + 1)) (232) (28) ((zq_i s_1 (232) (29)) + 1)) (232) (29) = zq_i s_1 (232) (29) := by simp [zq_i_si, zq_i_sr, zq_i_sl]
            refine zq_getf_i (j := 29) (v := zq_i s_1 (232) (29)) rfl zq_a232 rfl rfl e_29 ?_
            obtain ⟨g_30, w⟩ := w
            have e_31 : zq_i (zq_si (zq_si s_1 (232) (27) ((zq_i s_1 (232) (27)) + 1)) (232) (28) ((zq_i s_1 (232) (29)) + 1)) (246) (zq_i s_1 (232) (29)) = zq_i s_1 (246) (zq_i s_1 (232) (29)) := by simp [zq_i_si, zq_i_sr, zq_i_sl]
            refine zq_ald_i (v := zq_i s_1 (246) (zq_i s_1 (232) (29))) rfl zq_a246 g_30.1 g_30.2 e_31 ?_
            refine zq_run 1 (pc' := 92) (L' := [(.ref (232)), (zq_vi (x1)), (zq_vi (x2)), (zq_vi (x_2))]) (st' := [(zq_vi (6)), (zq_vi (zq_i s_1 (246) (zq_i s_1 (232) (29))))]) (fun _ _ _ => rfl) ?_
            refine zq_ne rfl (hR_5.1 _ _) (of_decide_eq_true rfl) (fun hb_32 => ?_) (fun hb_32 => ?_)
            · rw [if_neg hb_32] at w
              exact w
            · rw [if_pos hb_32] at w
              refine zq_run 1 (pc' := 96) (L' := [(.ref (232)), (zq_vi (x1)), (zq_vi (x2)), (zq_vi (x_2))]) (st' := [(.ref (232))]) (fun _ _ _ => rfl) ?_
              refine zq_getf_f (b := 247) rfl zq_a232 rfl rfl ?_
              refine zq_run 1 (pc' := 100) (L' := [(.ref (232)), (zq_vi (x1)), (zq_vi (x2)), (zq_vi (x_2))]) (st' := [(.ref (232)), (.ref (247))]) (fun _ _ _ => rfl) ?_
              have e_33 : zq_i (zq_si (zq_si s_1 (232) (27) ((zq_i s_1 (232) (27)) + 1)) (232) (28) ((zq_i s_1 (232) (29)) + 1)) (232) (29) = zq_i s_1 (232) (29) := by simp [zq_i_si, zq_i_sr, zq_i_sl]
              refine zq_getf_i (j := 29) (v := zq_i s_1 (232) (29)) rfl zq_a232 rfl rfl e_33 ?_
              obtain ⟨g_34, w⟩ := w
              have e_35 : zq_i (zq_si (zq_si s_1 (232) (27) ((zq_i s_1 (232) (27)) + 1)) (232) (28) ((zq_i s_1 (232) (29)) + 1)) (247) (zq_i s_1 (232) (29)) = zq_i s_1 (247) (zq_i s_1 (232) (29)) := by simp [zq_i_si, zq_i_sr, zq_i_sl]
              refine zq_ald_i (v := zq_i s_1 (247) (zq_i s_1 (232) (29))) rfl zq_a247 g_34.1 g_34.2 e_35 ?_
              refine zq_le0 rfl (hR_5.1 _ _) (fun hb_36 => ?_) (fun hb_36 => ?_)
              · rw [if_pos hb_36] at w
                exact w
              · rw [if_neg hb_36] at w
                refine zq_run 2 (pc' := 110) (L' := [(.ref (232)), (zq_vi (x1)), (zq_vi (x2)), (zq_vi (x_2))]) (st' := [(zq_vi (32)), (.ref (232))]) (fun _ _ _ => rfl) ?_
                refine zq_call_v (i := .invokevirtual 123) (r := [1, 150, 1, 1, 9]) rfl rfl (fun h hp => zr_avv rfl (hp.obj zq_a232)) (of_decide_eq_false rfl) w (fun s_37 w => ?_)
                exact w
      · rw [if_pos hb_7] at w
        refine zq_run 2 (pc' := 30) (L' := [(.ref (232)), (zq_vi (x1)), (zq_vi (x2)), (zq_vi (x_2))]) (st' := [(zq_vi (x2)), (.ref (232))]) (fun _ _ _ => rfl) ?_
        refine zq_putf_i (j := 26) rfl zq_a232 rfl rfl rfl hx2 ?_
        exact zq_vret rfl rfl (⟨rfl, w⟩)
/-- PaperObjectsModel.readPart at 113 -/
theorem zw_158_113 {X : Nat × (Nat → Int32)} {s : zq_S} {K : zq_S → Prop} {x1 : Int} (hx1 : zq_iv x1) {x2 : Int} (hx2 : zq_iv x2) {x3 : Int} (hx3 : zq_iv x3) (w : (((0 : Int) ≤ zq_i s (232) (29) ∧ zq_i s (232) (29) < (8 : Int)) ∧ (((0 : Int) ≤ zq_i s (232) (29) ∧ zq_i s (232) (29) < (8 : Int)) ∧ (zq_iv ((zq_i s (247) (zq_i s (232) (29))) + 1) ∧ zq_Ex X 158 126 [(.ref (232)), (zq_vi (x1)), (zq_vi (x2)), (zq_vi (x3))] [] (zq_si s (247) (zq_i s (232) (29)) ((zq_i s (247) (zq_i s (232) (29))) + 1)) (zq_rv K))))) : zq_Ex X 158 113 [(.ref (232)), (zq_vi (x1)), (zq_vi (x2)), (zq_vi (x3))] [] s (zq_rv K) := by
  refine zq_run 1 (pc' := 114) (L' := [(.ref (232)), (zq_vi (x1)), (zq_vi (x2)), (zq_vi (x3))]) (st' := [(.ref (232))]) (fun _ _ _ => rfl) ?_
  refine zq_getf_f (b := 247) rfl zq_a232 rfl rfl ?_
  refine zq_run 1 (pc' := 118) (L' := [(.ref (232)), (zq_vi (x1)), (zq_vi (x2)), (zq_vi (x3))]) (st' := [(.ref (232)), (.ref (247))]) (fun _ _ _ => rfl) ?_
  refine zq_have (fun hR_1 => ?_)
  refine zq_getf_i (j := 29) (v := zq_i s (232) (29)) rfl zq_a232 rfl rfl rfl ?_
  refine zq_run 1 (pc' := 122) (L' := [(.ref (232)), (zq_vi (x1)), (zq_vi (x2)), (zq_vi (x3))]) (st' := [(zq_vi (zq_i s (232) (29))), (.ref (247)), (zq_vi (zq_i s (232) (29))), (.ref (247))]) (fun _ _ _ => rfl) ?_
  obtain ⟨g_2, w⟩ := w
  refine zq_ald_i (v := zq_i s (247) (zq_i s (232) (29))) rfl zq_a247 g_2.1 g_2.2 rfl ?_
  refine zq_run 1 (pc' := 124) (L' := [(.ref (232)), (zq_vi (x1)), (zq_vi (x2)), (zq_vi (x3))]) (st' := [(zq_vi (1)), (zq_vi (zq_i s (247) (zq_i s (232) (29)))), (zq_vi (zq_i s (232) (29))), (.ref (247))]) (fun _ _ _ => rfl) ?_
  refine zq_iadd rfl ?_
  obtain ⟨g_3, w⟩ := w
  obtain ⟨g_4, w⟩ := w
  refine zq_ast_i rfl zq_a247 g_3.1 g_3.2 g_4 ?_
  exact w
/-- PaperObjectsModel.readPart at 126 -/
theorem zw_158_126 {X : Nat × (Nat → Int32)} {s : zq_S} {K : zq_S → Prop} {x1 : Int} (hx1 : zq_iv x1) {x2 : Int} (hx2 : zq_iv x2) {x3 : Int} (hx3 : zq_iv x3) (w : (if x3 = 6 then zq_Ex X 158 151 [(.ref (232)), (zq_vi (x1)), (zq_vi (x2)), (zq_vi (x3))] [] (zq_si s (232) (32) (0)) (zq_rv K) else (if x3 = 7 then zq_Ex X 158 151 [(.ref (232)), (zq_vi (x1)), (zq_vi (x2)), (zq_vi (x3))] [] (zq_si s (232) (32) (0)) (zq_rv K) else (zq_Ex X 166 0 [(.ref (232)), (zq_vi (x1)), (zq_vi (x2)), (zq_vi (x3)), zz_no, zz_no] [] (zq_si s (232) (32) (0)) (zq_rv fun s_3 => K s_3))))) : zq_Ex X 158 126 [(.ref (232)), (zq_vi (x1)), (zq_vi (x2)), (zq_vi (x3))] [] s (zq_rv K) := by
  refine zq_run 2 (pc' := 128) (L' := [(.ref (232)), (zq_vi (x1)), (zq_vi (x2)), (zq_vi (x3))]) (st' := [(zq_vi (0)), (.ref (232))]) (fun _ _ _ => rfl) ?_
  refine zq_putf_b (j := 32) rfl zq_a232 rfl rfl rfl (of_decide_eq_true rfl) ?_
  refine zq_run 2 (pc' := 134) (L' := [(.ref (232)), (zq_vi (x1)), (zq_vi (x2)), (zq_vi (x3))]) (st' := [(zq_vi (6)), (zq_vi (x3))]) (fun _ _ _ => rfl) ?_
  refine zq_eq rfl hx3 (of_decide_eq_true rfl) (fun hb_1 => ?_) (fun hb_1 => ?_)
  · rw [if_pos hb_1] at w
    exact w
  · rw [if_neg hb_1] at w
    refine zq_run 2 (pc' := 140) (L' := [(.ref (232)), (zq_vi (x1)), (zq_vi (x2)), (zq_vi (x3))]) (st' := [(zq_vi (7)), (zq_vi (x3))]) (fun _ _ _ => rfl) ?_
    refine zq_eq rfl hx3 (of_decide_eq_true rfl) (fun hb_2 => ?_) (fun hb_2 => ?_)
    · rw [if_pos hb_2] at w
      exact w
    · rw [if_neg hb_2] at w
      refine zq_run 4 (pc' := 147) (L' := [(.ref (232)), (zq_vi (x1)), (zq_vi (x2)), (zq_vi (x3))]) (st' := [(zq_vi (x3)), (zq_vi (x2)), (zq_vi (x1)), (.ref (232))]) (fun _ _ _ => rfl) ?_
      refine zq_call_v (i := .invokevirtual 211) (r := [1, 166, 3, 1, 9]) rfl rfl (fun h hp => zr_avv rfl (hp.obj zq_a232)) (of_decide_eq_false rfl) w (fun s_3 w => ?_)
      exact zq_vret rfl rfl (⟨rfl, w⟩)
/-- PaperObjectsModel.readPart at 151 -/
theorem zw_158_151 {X : Nat × (Nat → Int32)} {s : zq_S} {K : zq_S → Prop} {x1 : Int} (hx1 : zq_iv x1) {x2 : Int} (hx2 : zq_iv x2) {x3 : Int} (hx3 : zq_iv x3) (w : (zq_iv ((zq_i s (232) (29)) + 1) ∧ (((0 : Int) ≤ (zq_i s (232) (29)) + 1 ∧ (zq_i s (232) (29)) + 1 < (8 : Int)) ∧ (((0 : Int) ≤ (zq_i s (232) (29)) + 1 ∧ (zq_i s (232) (29)) + 1 < (8 : Int)) ∧ (if x3 = 6 then (zq_iv (x2 + 1) ∧ (zq_Ex X 157 0 [(.ref (232)), (zq_vi (x1)), (zq_vi (x2)), (zq_vi (x2 + 1)), zz_no] [] (zq_si (zq_si (zq_si (zq_si s (232) (29) ((zq_i s (232) (29)) + 1)) (246) ((zq_i s (232) (29)) + 1) (x3)) (247) ((zq_i s (232) (29)) + 1) (0)) (232) (25) (x2 + 1)) (zq_rv fun s_9 => K s_9))) else (zq_iv (x2 + 2) ∧ (zq_Ex X 157 0 [(.ref (232)), (zq_vi (x1)), (zq_vi (x2)), (zq_vi (x2 + 2)), zz_no] [] (zq_si (zq_si (zq_si (zq_si s (232) (29) ((zq_i s (232) (29)) + 1)) (246) ((zq_i s (232) (29)) + 1) (x3)) (247) ((zq_i s (232) (29)) + 1) (0)) (232) (25) (x2 + 2)) (zq_rv fun s_7 => K s_7)))))))) : zq_Ex X 158 151 [(.ref (232)), (zq_vi (x1)), (zq_vi (x2)), (zq_vi (x3))] [] s (zq_rv K) := by
  refine zq_run 2 (pc' := 153) (L' := [(.ref (232)), (zq_vi (x1)), (zq_vi (x2)), (zq_vi (x3))]) (st' := [(.ref (232)), (.ref (232))]) (fun _ _ _ => rfl) ?_
  refine zq_have (fun hR_1 => ?_)
  refine zq_getf_i (j := 29) (v := zq_i s (232) (29)) rfl zq_a232 rfl rfl rfl ?_
  refine zq_run 1 (pc' := 157) (L' := [(.ref (232)), (zq_vi (x1)), (zq_vi (x2)), (zq_vi (x3))]) (st' := [(zq_vi (1)), (zq_vi (zq_i s (232) (29))), (.ref (232))]) (fun _ _ _ => rfl) ?_
  refine zq_iadd rfl ?_
  obtain ⟨g_2, w⟩ := w
  refine zq_putf_i (j := 29) rfl zq_a232 rfl rfl rfl g_2 ?_
  refine zq_run 1 (pc' := 162) (L' := [(.ref (232)), (zq_vi (x1)), (zq_vi (x2)), (zq_vi (x3))]) (st' := [(.ref (232))]) (fun _ _ _ => rfl) ?_
  refine zq_getf_f (b := 246) rfl zq_a232 rfl rfl ?_
  refine zq_run 1 (pc' := 166) (L' := [(.ref (232)), (zq_vi (x1)), (zq_vi (x2)), (zq_vi (x3))]) (st' := [(.ref (232)), (.ref (246))]) (fun _ _ _ => rfl) ?_
  refine zq_getf_i (j := 29) (v := (zq_i s (232) (29)) + 1) rfl zq_a232 rfl rfl rfl ?_
  refine zq_run 1 (pc' := 170) (L' := [(.ref (232)), (zq_vi (x1)), (zq_vi (x2)), (zq_vi (x3))]) (st' := [(zq_vi (x3)), (zq_vi ((zq_i s (232) (29)) + 1)), (.ref (246))]) (fun _ _ _ => rfl) ?_
  obtain ⟨g_3, w⟩ := w
  refine zq_ast_i rfl zq_a246 g_3.1 g_3.2 hx3 ?_
  refine zq_run 1 (pc' := 172) (L' := [(.ref (232)), (zq_vi (x1)), (zq_vi (x2)), (zq_vi (x3))]) (st' := [(.ref (232))]) (fun _ _ _ => rfl) ?_
  refine zq_getf_f (b := 247) rfl zq_a232 rfl rfl ?_
  refine zq_run 1 (pc' := 176) (L' := [(.ref (232)), (zq_vi (x1)), (zq_vi (x2)), (zq_vi (x3))]) (st' := [(.ref (232)), (.ref (247))]) (fun _ _ _ => rfl) ?_
  refine zq_getf_i (j := 29) (v := (zq_i s (232) (29)) + 1) rfl zq_a232 rfl rfl (by simp [zq_i_si, zq_i_sr, zq_i_sl]) ?_
  refine zq_run 1 (pc' := 180) (L' := [(.ref (232)), (zq_vi (x1)), (zq_vi (x2)), (zq_vi (x3))]) (st' := [(zq_vi (0)), (zq_vi ((zq_i s (232) (29)) + 1)), (.ref (247))]) (fun _ _ _ => rfl) ?_
  obtain ⟨g_4, w⟩ := w
  refine zq_ast_i rfl zq_a247 g_4.1 g_4.2 (of_decide_eq_true rfl) ?_
  refine zq_run 3 (pc' := 185) (L' := [(.ref (232)), (zq_vi (x1)), (zq_vi (x2)), (zq_vi (x3))]) (st' := [(zq_vi (6)), (zq_vi (x3)), (.ref (232))]) (fun _ _ _ => rfl) ?_
  refine zq_ne rfl hx3 (of_decide_eq_true rfl) (fun hb_5 => ?_) (fun hb_5 => ?_)
  · rw [if_neg hb_5] at w
    refine zq_run 2 (pc' := 196) (L' := [(.ref (232)), (zq_vi (x1)), (zq_vi (x2)), (zq_vi (x3))]) (st' := [(zq_vi (2)), (zq_vi (x2)), (.ref (232))]) (fun _ _ _ => rfl) ?_
    refine zq_iadd rfl ?_
    obtain ⟨g_6, w⟩ := w
    refine zq_putf_i (j := 25) rfl zq_a232 rfl rfl rfl g_6 ?_
    refine zq_run 4 (pc' := 204) (L' := [(.ref (232)), (zq_vi (x1)), (zq_vi (x2)), (zq_vi (x3))]) (st' := [(.ref (232)), (zq_vi (x2)), (zq_vi (x1)), (.ref (232))]) (fun _ _ _ => rfl) ?_
    refine zq_getf_i (j := 25) (v := x2 + 2) rfl zq_a232 rfl rfl rfl ?_
    refine zq_call_v (i := .invokevirtual 174) (r := [1, 157, 3, 1, 9]) rfl rfl (fun h hp => zr_avv rfl (hp.obj zq_a232)) (of_decide_eq_false rfl) w (fun s_7 w => ?_)
    exact zq_vret rfl rfl (⟨rfl, w⟩)
  · rw [if_pos hb_5] at w
    refine zq_run 2 (pc' := 190) (L' := [(.ref (232)), (zq_vi (x1)), (zq_vi (x2)), (zq_vi (x3))]) (st' := [(zq_vi (1)), (zq_vi (x2)), (.ref (232))]) (fun _ _ _ => rfl) ?_
    refine zq_iadd rfl ?_
    refine zq_run 1 (pc' := 197) (L' := [(.ref (232)), (zq_vi (x1)), (zq_vi (x2)), (zq_vi (x3))]) (st' := [(zq_vi (x2 + 1)), (.ref (232))]) (fun _ _ _ => rfl) ?_
    obtain ⟨g_8, w⟩ := w
    refine zq_putf_i (j := 25) rfl zq_a232 rfl rfl rfl g_8 ?_
    refine zq_run 4 (pc' := 204) (L' := [(.ref (232)), (zq_vi (x1)), (zq_vi (x2)), (zq_vi (x3))]) (st' := [(.ref (232)), (zq_vi (x2)), (zq_vi (x1)), (.ref (232))]) (fun _ _ _ => rfl) ?_
    refine zq_getf_i (j := 25) (v := x2 + 1) rfl zq_a232 rfl rfl rfl ?_
    refine zq_call_v (i := .invokevirtual 174) (r := [1, 157, 3, 1, 9]) rfl rfl (fun h hp => zr_avv rfl (hp.obj zq_a232)) (of_decide_eq_false rfl) w (fun s_9 w => ?_)
    exact zq_vret rfl rfl (⟨rfl, w⟩)
/-- PaperObjectsModel.kindAt(II)I -/
theorem zw_159 {X : Nat × (Nat → Int32)} {s : zq_S} {K : Int → zq_S → Prop} {x1 : Int} (hx1 : zq_iv x1) {x2 : Int} (hx2 : zq_iv x2) (w : (zq_Ex X 147 0 [(.ref (232)), (zq_vi (x1)), (zq_vi (x2))] [] s (zq_rp zq_ch fun x_2 s_1 => (if x_2 = 91 then K (6) s_1 else (if x_2 = 60 then (zq_Ex X 147 0 [(.ref (232)), (zq_vi (x1)), (zq_vi (x2 + 1))] [] s_1 (zq_rp zq_ch fun x_30 s_29 => (if x_30 = 60 then K (7) s_29 else K ((-1)) s_29))) else (if x_2 = 47 then (zq_Ex X 152 0 [(.ref (232)), (zq_vi (x1)), (zq_vi (x2)), zz_no] [] s_1 (zq_rp zq_bo fun x_26 s_25 => (if x_26 = 0 then K ((-1)) s_25 else K (4) s_25))) else (if x_2 = 40 then (zq_Ex X 160 0 [(.ref (232)), (zq_vi (x1)), (zq_vi (x2)), zz_no, zz_no, zz_no, zz_no] [] s_1 (zq_rp zq_iv fun x_22 s_21 => (if x_22 < 0 then K ((-1)) s_21 else K (5) s_21))) else (zq_Ex X 161 0 [(.ref (232)), (zq_vi (x1)), (zq_vi (x2)), zz_no] [] s_1 (zq_rp zq_iv fun x_9 s_8 => (zq_Ex X 162 0 [(.ref (232)), (zq_vi (x1)), (zq_vi (x2)), zz_no, zz_no] [] s_8 (zq_rp zq_iv fun x_12 s_11 => (if x_12 < 0 then (zq_iv (x2 + 4) ∧ (if x_9 = x2 + 4 then (zq_Ex X 164 0 [(.ref (232)), (zq_vi (x1)), (zq_vi (x2)), (zq_vi (110)), (zq_vi (117)), (zq_vi (108)), (zq_vi (108))] [] s_11 (zq_rp zq_bo fun x_18 s_17 => (if x_18 = 0 then zq_Ex X 159 131 [(.ref (232)), (zq_vi (x1)), (zq_vi (x2)), (zq_vi (x_2)), (zq_vi (x_9))] [] s_17 (zq_rp zq_iv K) else K (0) s_17))) else zq_Ex X 159 131 [(.ref (232)), (zq_vi (x1)), (zq_vi (x2)), (zq_vi (x_2)), (zq_vi (x_9))] [] s_11 (zq_rp zq_iv K))) else K (8) s_11)))))))))))) : zq_Ex X 159 0 [(.ref (232)), (zq_vi (x1)), (zq_vi (x2)), zz_no, zz_no] [] s (zq_rp zq_iv K) := by
  refine zq_run 3 (pc' := 3) (L' := [(.ref (232)), (zq_vi (x1)), (zq_vi (x2)), zz_no, zz_no]) (st' := [(zq_vi (x2)), (zq_vi (x1)), (.ref (232))]) (fun _ _ _ => rfl) ?_
  refine zq_call_i (i := .invokevirtual 119) (r := [1, 147, 2, 1, 9]) rfl rfl (fun h hp => zr_avv rfl (hp.obj zq_a232)) (of_decide_eq_false rfl) w (fun x_2 s_1 hx_3 w => ?_)
  refine zq_run 3 (pc' := 10) (L' := [(.ref (232)), (zq_vi (x1)), (zq_vi (x2)), (zq_vi (x_2)), zz_no]) (st' := [(zq_vi (91)), (zq_vi (x_2))]) (fun _ _ _ => rfl) ?_
  refine zq_ne rfl (zq_ch_in hx_3) (of_decide_eq_true rfl) (fun hb_4 => ?_) (fun hb_4 => ?_)
  · rw [if_neg hb_4] at w
    refine zq_run 2 (pc' := 19) (L' := [(.ref (232)), (zq_vi (x1)), (zq_vi (x2)), (zq_vi (x_2)), zz_no]) (st' := [(zq_vi (60)), (zq_vi (x_2))]) (fun _ _ _ => rfl) ?_
    refine zq_ne rfl (zq_ch_in hx_3) (of_decide_eq_true rfl) (fun hb_5 => ?_) (fun hb_5 => ?_)
    · rw [if_neg hb_5] at w
      refine zq_run 2 (pc' := 45) (L' := [(.ref (232)), (zq_vi (x1)), (zq_vi (x2)), (zq_vi (x_2)), zz_no]) (st' := [(zq_vi (47)), (zq_vi (x_2))]) (fun _ _ _ => rfl) ?_
      refine zq_ne rfl (zq_ch_in hx_3) (of_decide_eq_true rfl) (fun hb_6 => ?_) (fun hb_6 => ?_)
      · rw [if_neg hb_6] at w
        refine zq_run 2 (pc' := 66) (L' := [(.ref (232)), (zq_vi (x1)), (zq_vi (x2)), (zq_vi (x_2)), zz_no]) (st' := [(zq_vi (40)), (zq_vi (x_2))]) (fun _ _ _ => rfl) ?_
        refine zq_ne rfl (zq_ch_in hx_3) (of_decide_eq_true rfl) (fun hb_7 => ?_) (fun hb_7 => ?_)
        · rw [if_neg hb_7] at w
          refine zq_run 3 (pc' := 87) (L' := [(.ref (232)), (zq_vi (x1)), (zq_vi (x2)), (zq_vi (x_2)), zz_no]) (st' := [(zq_vi (x2)), (zq_vi (x1)), (.ref (232))]) (fun _ _ _ => rfl) ?_
          refine zq_call_i (i := .invokevirtual 134) (r := [1, 161, 2, 1, 9]) rfl rfl (fun h hp => zr_avv rfl (hp.obj zq_a232)) (of_decide_eq_false rfl) w (fun x_9 s_8 hx_10 w => ?_)
          refine zq_run 4 (pc' := 95) (L' := [(.ref (232)), (zq_vi (x1)), (zq_vi (x2)), (zq_vi (x_2)), (zq_vi (x_9))]) (st' := [(zq_vi (x2)), (zq_vi (x1)), (.ref (232))]) (fun _ _ _ => rfl) ?_
          refine zq_call_i (i := .invokevirtual 151) (r := [1, 162, 2, 1, 9]) rfl rfl (fun h hp => zr_avv rfl (hp.obj zq_a232)) (of_decide_eq_false rfl) w (fun x_12 s_11 hx_13 w => ?_)
          refine zq_lt0 rfl hx_13 (fun hb_14 => ?_) (fun hb_14 => ?_)
          · rw [if_pos hb_14] at w
            refine zq_run 3 (pc' := 108) (L' := [(.ref (232)), (zq_vi (x1)), (zq_vi (x2)), (zq_vi (x_2)), (zq_vi (x_9))]) (st' := [(zq_vi (4)), (zq_vi (x2)), (zq_vi (x_9))]) (fun _ _ _ => rfl) ?_
            refine zq_iadd rfl ?_
            obtain ⟨g_15, w⟩ := w
            refine zq_ne rfl hx_10 g_15 (fun hb_16 => ?_) (fun hb_16 => ?_)
            · rw [if_neg hb_16] at w
              exact w
            · rw [if_pos hb_16] at w
              refine zq_run 7 (pc' := 123) (L' := [(.ref (232)), (zq_vi (x1)), (zq_vi (x2)), (zq_vi (x_2)), (zq_vi (x_9))]) (st' := [(zq_vi (108)), (zq_vi (108)), (zq_vi (117)), (zq_vi (110)), (zq_vi (x2)), (zq_vi (x1)), (.ref (232))]) (fun _ _ _ => rfl) ?_
              refine zq_call_i (i := .invokevirtual 154) (r := [1, 164, 6, 1, 9]) rfl rfl (fun h hp => zr_avv rfl (hp.obj zq_a232)) (of_decide_eq_false rfl) w (fun x_18 s_17 hx_19 w => ?_)
              refine zq_eq0 rfl (zq_bo_in hx_19) (fun hb_20 => ?_) (fun hb_20 => ?_)
              · rw [if_pos hb_20] at w
                exact w
              · rw [if_neg hb_20] at w
                refine zq_run 1 (pc' := 130) (L' := [(.ref (232)), (zq_vi (x1)), (zq_vi (x2)), (zq_vi (x_2)), (zq_vi (x_9))]) (st' := [(zq_vi (0))]) (fun _ _ _ => rfl) ?_
                exact zq_iret rfl rfl rfl (⟨_, rfl, (of_decide_eq_true rfl), w⟩)
          · rw [if_neg hb_14] at w
            refine zq_run 1 (pc' := 103) (L' := [(.ref (232)), (zq_vi (x1)), (zq_vi (x2)), (zq_vi (x_2)), (zq_vi (x_9))]) (st' := [(zq_vi (8))]) (fun _ _ _ => rfl) ?_
            exact zq_iret rfl rfl rfl (⟨_, rfl, (of_decide_eq_true rfl), w⟩)
        · rw [if_pos hb_7] at w
          refine zq_run 3 (pc' := 72) (L' := [(.ref (232)), (zq_vi (x1)), (zq_vi (x2)), (zq_vi (x_2)), zz_no]) (st' := [(zq_vi (x2)), (zq_vi (x1)), (.ref (232))]) (fun _ _ _ => rfl) ?_
          refine zq_call_i (i := .invokevirtual 148) (r := [1, 160, 2, 1, 9]) rfl rfl (fun h hp => zr_avv rfl (hp.obj zq_a232)) (of_decide_eq_false rfl) w (fun x_22 s_21 hx_23 w => ?_)
          refine zq_lt0 rfl hx_23 (fun hb_24 => ?_) (fun hb_24 => ?_)
          · rw [if_pos hb_24] at w
            refine zq_run 1 (pc' := 83) (L' := [(.ref (232)), (zq_vi (x1)), (zq_vi (x2)), (zq_vi (x_2)), zz_no]) (st' := [(zq_vi ((-1)))]) (fun _ _ _ => rfl) ?_
            exact zq_iret rfl rfl rfl (⟨_, rfl, (of_decide_eq_true rfl), w⟩)
          · rw [if_neg hb_24] at w
            refine zq_run 2 (pc' := 83) (L' := [(.ref (232)), (zq_vi (x1)), (zq_vi (x2)), (zq_vi (x_2)), zz_no]) (st' := [(zq_vi (5))]) (fun _ _ _ => rfl) ?_
            exact zq_iret rfl rfl rfl (⟨_, rfl, (of_decide_eq_true rfl), w⟩)
      · rw [if_pos hb_6] at w
        refine zq_run 3 (pc' := 51) (L' := [(.ref (232)), (zq_vi (x1)), (zq_vi (x2)), (zq_vi (x_2)), zz_no]) (st' := [(zq_vi (x2)), (zq_vi (x1)), (.ref (232))]) (fun _ _ _ => rfl) ?_
        refine zq_call_i (i := .invokevirtual 144) (r := [1, 152, 2, 1, 9]) rfl rfl (fun h hp => zr_avv rfl (hp.obj zq_a232)) (of_decide_eq_false rfl) w (fun x_26 s_25 hx_27 w => ?_)
        refine zq_eq0 rfl (zq_bo_in hx_27) (fun hb_28 => ?_) (fun hb_28 => ?_)
        · rw [if_pos hb_28] at w
          refine zq_run 1 (pc' := 62) (L' := [(.ref (232)), (zq_vi (x1)), (zq_vi (x2)), (zq_vi (x_2)), zz_no]) (st' := [(zq_vi ((-1)))]) (fun _ _ _ => rfl) ?_
          exact zq_iret rfl rfl rfl (⟨_, rfl, (of_decide_eq_true rfl), w⟩)
        · rw [if_neg hb_28] at w
          refine zq_run 2 (pc' := 62) (L' := [(.ref (232)), (zq_vi (x1)), (zq_vi (x2)), (zq_vi (x_2)), zz_no]) (st' := [(zq_vi (4))]) (fun _ _ _ => rfl) ?_
          exact zq_iret rfl rfl rfl (⟨_, rfl, (of_decide_eq_true rfl), w⟩)
    · rw [if_pos hb_5] at w
      refine zq_run 4 (pc' := 26) (L' := [(.ref (232)), (zq_vi (x1)), (zq_vi (x2)), (zq_vi (x_2)), zz_no]) (st' := [(zq_vi (1)), (zq_vi (x2)), (zq_vi (x1)), (.ref (232))]) (fun _ _ _ => rfl) ?_
      refine zq_iadd rfl ?_
      refine zq_call_i (i := .invokevirtual 119) (r := [1, 147, 2, 1, 9]) rfl rfl (fun h hp => zr_avv rfl (hp.obj zq_a232)) (of_decide_eq_false rfl) w (fun x_30 s_29 hx_31 w => ?_)
      refine zq_run 1 (pc' := 32) (L' := [(.ref (232)), (zq_vi (x1)), (zq_vi (x2)), (zq_vi (x_2)), zz_no]) (st' := [(zq_vi (60)), (zq_vi (x_30))]) (fun _ _ _ => rfl) ?_
      refine zq_ne rfl (zq_ch_in hx_31) (of_decide_eq_true rfl) (fun hb_32 => ?_) (fun hb_32 => ?_)
      · rw [if_neg hb_32] at w
        refine zq_run 1 (pc' := 41) (L' := [(.ref (232)), (zq_vi (x1)), (zq_vi (x2)), (zq_vi (x_2)), zz_no]) (st' := [(zq_vi ((-1)))]) (fun _ _ _ => rfl) ?_
        exact zq_iret rfl rfl rfl (⟨_, rfl, (of_decide_eq_true rfl), w⟩)
      · rw [if_pos hb_32] at w
        refine zq_run 2 (pc' := 41) (L' := [(.ref (232)), (zq_vi (x1)), (zq_vi (x2)), (zq_vi (x_2)), zz_no]) (st' := [(zq_vi (7))]) (fun _ _ _ => rfl) ?_
        exact zq_iret rfl rfl rfl (⟨_, rfl, (of_decide_eq_true rfl), w⟩)
  · rw [if_pos hb_4] at w
    refine zq_run 1 (pc' := 15) (L' := [(.ref (232)), (zq_vi (x1)), (zq_vi (x2)), (zq_vi (x_2)), zz_no]) (st' := [(zq_vi (6))]) (fun _ _ _ => rfl) ?_
    exact zq_iret rfl rfl rfl (⟨_, rfl, (of_decide_eq_true rfl), w⟩)
/-- PaperObjectsModel.kindAt at 131 -/
theorem zw_159_131 {X : Nat × (Nat → Int32)} {s : zq_S} {K : Int → zq_S → Prop} {x1 : Int} (hx1 : zq_iv x1) {x2 : Int} (hx2 : zq_iv x2) {x3 : Int} (hx3 : zq_ch x3) {x4 : Int} (hx4 : zq_iv x4) (w : (zq_iv (x2 + 4) ∧ (if x4 = x2 + 4 then (zq_Ex X 164 0 [(.ref (232)), (zq_vi (x1)), (zq_vi (x2)), (zq_vi (116)), (zq_vi (114)), (zq_vi (117)), (zq_vi (101))] [] s (zq_rp zq_bo fun x_4 s_3 => (if x_4 = 0 then zq_Ex X 159 158 [(.ref (232)), (zq_vi (x1)), (zq_vi (x2)), (zq_vi (x3)), (zq_vi (x4))] [] s_3 (zq_rp zq_iv K) else K (1) s_3))) else zq_Ex X 159 158 [(.ref (232)), (zq_vi (x1)), (zq_vi (x2)), (zq_vi (x3)), (zq_vi (x4))] [] s (zq_rp zq_iv K)))) : zq_Ex X 159 131 [(.ref (232)), (zq_vi (x1)), (zq_vi (x2)), (zq_vi (x3)), (zq_vi (x4))] [] s (zq_rp zq_iv K) := by
  refine zq_run 3 (pc' := 135) (L' := [(.ref (232)), (zq_vi (x1)), (zq_vi (x2)), (zq_vi (x3)), (zq_vi (x4))]) (st' := [(zq_vi (4)), (zq_vi (x2)), (zq_vi (x4))]) (fun _ _ _ => rfl) ?_
  refine zq_iadd rfl ?_
  obtain ⟨g_1, w⟩ := w
  refine zq_ne rfl hx4 g_1 (fun hb_2 => ?_) (fun hb_2 => ?_)
  · rw [if_neg hb_2] at w
    exact w
  · rw [if_pos hb_2] at w
    refine zq_run 7 (pc' := 150) (L' := [(.ref (232)), (zq_vi (x1)), (zq_vi (x2)), (zq_vi (x3)), (zq_vi (x4))]) (st' := [(zq_vi (101)), (zq_vi (117)), (zq_vi (114)), (zq_vi (116)), (zq_vi (x2)), (zq_vi (x1)), (.ref (232))]) (fun _ _ _ => rfl) ?_
    refine zq_call_i (i := .invokevirtual 154) (r := [1, 164, 6, 1, 9]) rfl rfl (fun h hp => zr_avv rfl (hp.obj zq_a232)) (of_decide_eq_false rfl) w (fun x_4 s_3 hx_5 w => ?_)
    refine zq_eq0 rfl (zq_bo_in hx_5) (fun hb_6 => ?_) (fun hb_6 => ?_)
    · rw [if_pos hb_6] at w
      exact w
    · rw [if_neg hb_6] at w
      refine zq_run 1 (pc' := 157) (L' := [(.ref (232)), (zq_vi (x1)), (zq_vi (x2)), (zq_vi (x3)), (zq_vi (x4))]) (st' := [(zq_vi (1))]) (fun _ _ _ => rfl) ?_
      exact zq_iret rfl rfl rfl (⟨_, rfl, (of_decide_eq_true rfl), w⟩)
/-- PaperObjectsModel.kindAt at 158 -/
theorem zw_159_158 {X : Nat × (Nat → Int32)} {s : zq_S} {K : Int → zq_S → Prop} {x1 : Int} (hx1 : zq_iv x1) {x2 : Int} (hx2 : zq_iv x2) {x3 : Int} (hx3 : zq_ch x3) {x4 : Int} (hx4 : zq_iv x4) (w : (zq_iv (x2 + 5) ∧ (if x4 = x2 + 5 then (zq_Ex X 164 0 [(.ref (232)), (zq_vi (x1)), (zq_vi (x2)), (zq_vi (102)), (zq_vi (97)), (zq_vi (108)), (zq_vi (115))] [] s (zq_rp zq_bo fun x_8 s_7 => (if x_8 = 0 then (zq_Ex X 165 0 [(.ref (232)), (zq_vi (x1)), (zq_vi (x2)), (zq_vi (x4)), zz_no, zz_no, zz_no] [] s_7 (zq_rp zq_bo fun x_12 s_11 => (if x_12 = 0 then K ((-1)) s_11 else K (3) s_11))) else (zq_Ex X 147 0 [(.ref (232)), (zq_vi (x1)), (zq_vi (x2 + 4))] [] s_7 (zq_rp zq_ch fun x_16 s_15 => (if x_16 = 101 then K (2) s_15 else (zq_Ex X 165 0 [(.ref (232)), (zq_vi (x1)), (zq_vi (x2)), (zq_vi (x4)), zz_no, zz_no, zz_no] [] s_15 (zq_rp zq_bo fun x_20 s_19 => (if x_20 = 0 then K ((-1)) s_19 else K (3) s_19))))))))) else (zq_Ex X 165 0 [(.ref (232)), (zq_vi (x1)), (zq_vi (x2)), (zq_vi (x4)), zz_no, zz_no, zz_no] [] s (zq_rp zq_bo fun x_4 s_3 => (if x_4 = 0 then K ((-1)) s_3 else K (3) s_3)))))) : zq_Ex X 159 158 [(.ref (232)), (zq_vi (x1)), (zq_vi (x2)), (zq_vi (x3)), (zq_vi (x4))] [] s (zq_rp zq_iv K) := by
  refine zq_run 3 (pc' := 162) (L' := [(.ref (232)), (zq_vi (x1)), (zq_vi (x2)), (zq_vi (x3)), (zq_vi (x4))]) (st' := [(zq_vi (5)), (zq_vi (x2)), (zq_vi (x4))]) (fun _ _ _ => rfl) ?_
  refine zq_iadd rfl ?_
  obtain ⟨g_1, w⟩ := w
  refine zq_ne rfl hx4 g_1 (fun hb_2 => ?_) (fun hb_2 => ?_)
  · rw [if_neg hb_2] at w
    refine zq_run 4 (pc' := 203) (L' := [(.ref (232)), (zq_vi (x1)), (zq_vi (x2)), (zq_vi (x3)), (zq_vi (x4))]) (st' := [(zq_vi (x4)), (zq_vi (x2)), (zq_vi (x1)), (.ref (232))]) (fun _ _ _ => rfl) ?_
    refine zq_call_i (i := .invokevirtual 158) (r := [1, 165, 3, 1, 9]) rfl rfl (fun h hp => zr_avv rfl (hp.obj zq_a232)) (of_decide_eq_false rfl) w (fun x_4 s_3 hx_5 w => ?_)
    refine zq_eq0 rfl (zq_bo_in hx_5) (fun hb_6 => ?_) (fun hb_6 => ?_)
    · rw [if_pos hb_6] at w
      refine zq_run 1 (pc' := 214) (L' := [(.ref (232)), (zq_vi (x1)), (zq_vi (x2)), (zq_vi (x3)), (zq_vi (x4))]) (st' := [(zq_vi ((-1)))]) (fun _ _ _ => rfl) ?_
      exact zq_iret rfl rfl rfl (⟨_, rfl, (of_decide_eq_true rfl), w⟩)
    · rw [if_neg hb_6] at w
      refine zq_run 2 (pc' := 214) (L' := [(.ref (232)), (zq_vi (x1)), (zq_vi (x2)), (zq_vi (x3)), (zq_vi (x4))]) (st' := [(zq_vi (3))]) (fun _ _ _ => rfl) ?_
      exact zq_iret rfl rfl rfl (⟨_, rfl, (of_decide_eq_true rfl), w⟩)
  · rw [if_pos hb_2] at w
    refine zq_run 7 (pc' := 177) (L' := [(.ref (232)), (zq_vi (x1)), (zq_vi (x2)), (zq_vi (x3)), (zq_vi (x4))]) (st' := [(zq_vi (115)), (zq_vi (108)), (zq_vi (97)), (zq_vi (102)), (zq_vi (x2)), (zq_vi (x1)), (.ref (232))]) (fun _ _ _ => rfl) ?_
    refine zq_call_i (i := .invokevirtual 154) (r := [1, 164, 6, 1, 9]) rfl rfl (fun h hp => zr_avv rfl (hp.obj zq_a232)) (of_decide_eq_false rfl) w (fun x_8 s_7 hx_9 w => ?_)
    refine zq_eq0 rfl (zq_bo_in hx_9) (fun hb_10 => ?_) (fun hb_10 => ?_)
    · rw [if_pos hb_10] at w
      refine zq_run 4 (pc' := 203) (L' := [(.ref (232)), (zq_vi (x1)), (zq_vi (x2)), (zq_vi (x3)), (zq_vi (x4))]) (st' := [(zq_vi (x4)), (zq_vi (x2)), (zq_vi (x1)), (.ref (232))]) (fun _ _ _ => rfl) ?_
      refine zq_call_i (i := .invokevirtual 158) (r := [1, 165, 3, 1, 9]) rfl rfl (fun h hp => zr_avv rfl (hp.obj zq_a232)) (of_decide_eq_false rfl) w (fun x_12 s_11 hx_13 w => ?_)
      refine zq_eq0 rfl (zq_bo_in hx_13) (fun hb_14 => ?_) (fun hb_14 => ?_)
      · rw [if_pos hb_14] at w
        refine zq_run 1 (pc' := 214) (L' := [(.ref (232)), (zq_vi (x1)), (zq_vi (x2)), (zq_vi (x3)), (zq_vi (x4))]) (st' := [(zq_vi ((-1)))]) (fun _ _ _ => rfl) ?_
        exact zq_iret rfl rfl rfl (⟨_, rfl, (of_decide_eq_true rfl), w⟩)
      · rw [if_neg hb_14] at w
        refine zq_run 2 (pc' := 214) (L' := [(.ref (232)), (zq_vi (x1)), (zq_vi (x2)), (zq_vi (x3)), (zq_vi (x4))]) (st' := [(zq_vi (3))]) (fun _ _ _ => rfl) ?_
        exact zq_iret rfl rfl rfl (⟨_, rfl, (of_decide_eq_true rfl), w⟩)
    · rw [if_neg hb_10] at w
      refine zq_run 4 (pc' := 187) (L' := [(.ref (232)), (zq_vi (x1)), (zq_vi (x2)), (zq_vi (x3)), (zq_vi (x4))]) (st' := [(zq_vi (4)), (zq_vi (x2)), (zq_vi (x1)), (.ref (232))]) (fun _ _ _ => rfl) ?_
      refine zq_iadd rfl ?_
      refine zq_call_i (i := .invokevirtual 119) (r := [1, 147, 2, 1, 9]) rfl rfl (fun h hp => zr_avv rfl (hp.obj zq_a232)) (of_decide_eq_false rfl) w (fun x_16 s_15 hx_17 w => ?_)
      refine zq_run 1 (pc' := 193) (L' := [(.ref (232)), (zq_vi (x1)), (zq_vi (x2)), (zq_vi (x3)), (zq_vi (x4))]) (st' := [(zq_vi (101)), (zq_vi (x_16))]) (fun _ _ _ => rfl) ?_
      refine zq_ne rfl (zq_ch_in hx_17) (of_decide_eq_true rfl) (fun hb_18 => ?_) (fun hb_18 => ?_)
      · rw [if_neg hb_18] at w
        refine zq_run 4 (pc' := 203) (L' := [(.ref (232)), (zq_vi (x1)), (zq_vi (x2)), (zq_vi (x3)), (zq_vi (x4))]) (st' := [(zq_vi (x4)), (zq_vi (x2)), (zq_vi (x1)), (.ref (232))]) (fun _ _ _ => rfl) ?_
        refine zq_call_i (i := .invokevirtual 158) (r := [1, 165, 3, 1, 9]) rfl rfl (fun h hp => zr_avv rfl (hp.obj zq_a232)) (of_decide_eq_false rfl) w (fun x_20 s_19 hx_21 w => ?_)
        refine zq_eq0 rfl (zq_bo_in hx_21) (fun hb_22 => ?_) (fun hb_22 => ?_)
        · rw [if_pos hb_22] at w
          refine zq_run 1 (pc' := 214) (L' := [(.ref (232)), (zq_vi (x1)), (zq_vi (x2)), (zq_vi (x3)), (zq_vi (x4))]) (st' := [(zq_vi ((-1)))]) (fun _ _ _ => rfl) ?_
          exact zq_iret rfl rfl rfl (⟨_, rfl, (of_decide_eq_true rfl), w⟩)
        · rw [if_neg hb_22] at w
          refine zq_run 2 (pc' := 214) (L' := [(.ref (232)), (zq_vi (x1)), (zq_vi (x2)), (zq_vi (x3)), (zq_vi (x4))]) (st' := [(zq_vi (3))]) (fun _ _ _ => rfl) ?_
          exact zq_iret rfl rfl rfl (⟨_, rfl, (of_decide_eq_true rfl), w⟩)
      · rw [if_pos hb_18] at w
        refine zq_run 1 (pc' := 197) (L' := [(.ref (232)), (zq_vi (x1)), (zq_vi (x2)), (zq_vi (x3)), (zq_vi (x4))]) (st' := [(zq_vi (2))]) (fun _ _ _ => rfl) ?_
        exact zq_iret rfl rfl rfl (⟨_, rfl, (of_decide_eq_true rfl), w⟩)
/-- PaperObjectsModel.stringEnd(II)I -/
theorem zw_160 {X : Nat × (Nat → Int32)} {s : zq_S} {K : Int → zq_S → Prop} {x1 : Int} (hx1 : zq_iv x1) {x2 : Int} (hx2 : zq_iv x2) (w : zq_Ex X 160 7 [(.ref (232)), (zq_vi (x1)), (zq_vi (x2)), (zq_vi (x2 + 1)), (zq_vi (0)), zz_no, zz_no] [] s (zq_rp zq_iv K)) : zq_Ex X 160 0 [(.ref (232)), (zq_vi (x1)), (zq_vi (x2)), zz_no, zz_no, zz_no, zz_no] [] s (zq_rp zq_iv K) := by
  refine zq_run 2 (pc' := 2) (L' := [(.ref (232)), (zq_vi (x1)), (zq_vi (x2)), zz_no, zz_no, zz_no, zz_no]) (st' := [(zq_vi (1)), (zq_vi (x2))]) (fun _ _ _ => rfl) ?_
  refine zq_iadd rfl ?_
  refine zq_run 3 (pc' := 7) (L' := [(.ref (232)), (zq_vi (x1)), (zq_vi (x2)), (zq_vi (x2 + 1)), (zq_vi (0)), zz_no, zz_no]) (st' := []) (fun _ _ _ => rfl) ?_
  exact w
/-- PaperObjectsModel.stringEnd at 7 -/
theorem zw_160_7 {X : Nat × (Nat → Int32)} {s : zq_S} {K : Int → zq_S → Prop} {x1 : Int} (hx1 : zq_iv x1) {x2 : Int} (hx2 : zq_iv x2) {x3 : Int} (hx3 : zq_iv x3) {x4 : Int} (hx4 : zq_iv x4) {v5 : Value} (hv5 : v5.category = 1) {v6 : Value} (hv6 : v6.category = 1) (w : (zq_Ex X 147 0 [(.ref (232)), (zq_vi (x1)), (zq_vi (x3))] [] s (zq_rp zq_ch fun x_2 s_1 => (if x_2 = 41 then (if x4 ≤ 12 then (zq_iv (x3 + 1) ∧ K (x3 + 1) s_1) else K ((-1)) s_1) else (zq_Ex X 147 0 [(.ref (232)), (zq_vi (x1)), (zq_vi (x3))] [] s_1 (zq_rp zq_ch fun x_8 s_7 => (zq_Ex X 147 0 [(.ref (232)), (zq_vi (x1)), (zq_vi (x3 + 1))] [] s_7 (zq_rp zq_ch fun x_11 s_10 => (if x_8 < 32 then K ((-1)) s_10 else (if x_8 = 92 then (if x_11 = 40 then (if x_8 = 92 then zq_Ex X 160 7 [(.ref (232)), (zq_vi (x1)), (zq_vi (x2)), (zq_vi (x3 + 2)), (zq_vi (x4 + 1)), (zq_vi (x_8)), (zq_vi (x_11))] [] s_10 (zq_rp zq_iv K) else zq_Ex X 160 7 [(.ref (232)), (zq_vi (x1)), (zq_vi (x2)), (zq_vi (x3 + 1)), (zq_vi (x4 + 1)), (zq_vi (x_8)), (zq_vi (x_11))] [] s_10 (zq_rp zq_iv K)) else (if x_11 = 41 then (if x_8 = 92 then zq_Ex X 160 7 [(.ref (232)), (zq_vi (x1)), (zq_vi (x2)), (zq_vi (x3 + 2)), (zq_vi (x4 + 1)), (zq_vi (x_8)), (zq_vi (x_11))] [] s_10 (zq_rp zq_iv K) else zq_Ex X 160 7 [(.ref (232)), (zq_vi (x1)), (zq_vi (x2)), (zq_vi (x3 + 1)), (zq_vi (x4 + 1)), (zq_vi (x_8)), (zq_vi (x_11))] [] s_10 (zq_rp zq_iv K)) else (if x_11 = 92 then (if x_8 = 92 then zq_Ex X 160 7 [(.ref (232)), (zq_vi (x1)), (zq_vi (x2)), (zq_vi (x3 + 2)), (zq_vi (x4 + 1)), (zq_vi (x_8)), (zq_vi (x_11))] [] s_10 (zq_rp zq_iv K) else zq_Ex X 160 7 [(.ref (232)), (zq_vi (x1)), (zq_vi (x2)), (zq_vi (x3 + 1)), (zq_vi (x4 + 1)), (zq_vi (x_8)), (zq_vi (x_11))] [] s_10 (zq_rp zq_iv K)) else K ((-1)) s_10))) else (if x_8 = 92 then zq_Ex X 160 7 [(.ref (232)), (zq_vi (x1)), (zq_vi (x2)), (zq_vi (x3 + 2)), (zq_vi (x4 + 1)), (zq_vi (x_8)), (zq_vi (x_11))] [] s_10 (zq_rp zq_iv K) else zq_Ex X 160 7 [(.ref (232)), (zq_vi (x1)), (zq_vi (x2)), (zq_vi (x3 + 1)), (zq_vi (x4 + 1)), (zq_vi (x_8)), (zq_vi (x_11))] [] s_10 (zq_rp zq_iv K)))))))))))) : zq_Ex X 160 7 [(.ref (232)), (zq_vi (x1)), (zq_vi (x2)), (zq_vi (x3)), (zq_vi (x4)), v5, v6] [] s (zq_rp zq_iv K) := by
  refine zq_run 3 (pc' := 10) (L' := [(.ref (232)), (zq_vi (x1)), (zq_vi (x2)), (zq_vi (x3)), (zq_vi (x4)), v5, v6]) (st' := [(zq_vi (x3)), (zq_vi (x1)), (.ref (232))]) (fun _ _ _ => rfl) ?_
  refine zq_call_i (i := .invokevirtual 119) (r := [1, 147, 2, 1, 9]) rfl rfl (fun h hp => zr_avv rfl (hp.obj zq_a232)) (of_decide_eq_false rfl) w (fun x_2 s_1 hx_3 w => ?_)
  refine zq_run 1 (pc' := 15) (L' := [(.ref (232)), (zq_vi (x1)), (zq_vi (x2)), (zq_vi (x3)), (zq_vi (x4)), v5, v6]) (st' := [(zq_vi (41)), (zq_vi (x_2))]) (fun _ _ _ => rfl) ?_
  refine zq_eq rfl (zq_ch_in hx_3) (of_decide_eq_true rfl) (fun hb_4 => ?_) (fun hb_4 => ?_)
  · rw [if_pos hb_4] at w
    refine zq_run 2 (pc' := 98) (L' := [(.ref (232)), (zq_vi (x1)), (zq_vi (x2)), (zq_vi (x3)), (zq_vi (x4)), v5, v6]) (st' := [(zq_vi (12)), (zq_vi (x4))]) (fun _ _ _ => rfl) ?_
    refine zq_gt rfl hx4 (of_decide_eq_true rfl) (fun hb_5 => ?_) (fun hb_5 => ?_)
    · rw [if_neg hb_5] at w
      refine zq_run 1 (pc' := 108) (L' := [(.ref (232)), (zq_vi (x1)), (zq_vi (x2)), (zq_vi (x3)), (zq_vi (x4)), v5, v6]) (st' := [(zq_vi ((-1)))]) (fun _ _ _ => rfl) ?_
      exact zq_iret rfl rfl rfl (⟨_, rfl, (of_decide_eq_true rfl), w⟩)
    · rw [if_pos hb_5] at w
      refine zq_run 2 (pc' := 103) (L' := [(.ref (232)), (zq_vi (x1)), (zq_vi (x2)), (zq_vi (x3)), (zq_vi (x4)), v5, v6]) (st' := [(zq_vi (1)), (zq_vi (x3))]) (fun _ _ _ => rfl) ?_
      refine zq_iadd rfl ?_
      refine zq_run 1 (pc' := 108) (L' := [(.ref (232)), (zq_vi (x1)), (zq_vi (x2)), (zq_vi (x3)), (zq_vi (x4)), v5, v6]) (st' := [(zq_vi (x3 + 1))]) (fun _ _ _ => rfl) ?_
      obtain ⟨g_6, w⟩ := w
      exact zq_iret rfl rfl rfl (⟨_, rfl, g_6, w⟩)
  · rw [if_neg hb_4] at w
    refine zq_run 3 (pc' := 21) (L' := [(.ref (232)), (zq_vi (x1)), (zq_vi (x2)), (zq_vi (x3)), (zq_vi (x4)), v5, v6]) (st' := [(zq_vi (x3)), (zq_vi (x1)), (.ref (232))]) (fun _ _ _ => rfl) ?_
    refine zq_call_i (i := .invokevirtual 119) (r := [1, 147, 2, 1, 9]) rfl rfl (fun h hp => zr_avv rfl (hp.obj zq_a232)) (of_decide_eq_false rfl) w (fun x_8 s_7 hx_9 w => ?_)
    refine zq_run 5 (pc' := 30) (L' := [(.ref (232)), (zq_vi (x1)), (zq_vi (x2)), (zq_vi (x3)), (zq_vi (x4)), (zq_vi (x_8)), v6]) (st' := [(zq_vi (1)), (zq_vi (x3)), (zq_vi (x1)), (.ref (232))]) (fun _ _ _ => rfl) ?_
    refine zq_iadd rfl ?_
    refine zq_call_i (i := .invokevirtual 119) (r := [1, 147, 2, 1, 9]) rfl rfl (fun h hp => zr_avv rfl (hp.obj zq_a232)) (of_decide_eq_false rfl) w (fun x_11 s_10 hx_12 w => ?_)
    refine zq_run 3 (pc' := 40) (L' := [(.ref (232)), (zq_vi (x1)), (zq_vi (x2)), (zq_vi (x3)), (zq_vi (x4)), (zq_vi (x_8)), (zq_vi (x_11))]) (st' := [(zq_vi (32)), (zq_vi (x_8))]) (fun _ _ _ => rfl) ?_
    refine zq_lt rfl (zq_ch_in hx_9) (of_decide_eq_true rfl) (fun hb_13 => ?_) (fun hb_13 => ?_)
    · rw [if_pos hb_13] at w
      refine zq_run 1 (pc' := 72) (L' := [(.ref (232)), (zq_vi (x1)), (zq_vi (x2)), (zq_vi (x3)), (zq_vi (x4)), (zq_vi (x_8)), (zq_vi (x_11))]) (st' := [(zq_vi ((-1)))]) (fun _ _ _ => rfl) ?_
      exact zq_iret rfl rfl rfl (⟨_, rfl, (of_decide_eq_true rfl), w⟩)
    · rw [if_neg hb_13] at w
      refine zq_run 2 (pc' := 47) (L' := [(.ref (232)), (zq_vi (x1)), (zq_vi (x2)), (zq_vi (x3)), (zq_vi (x4)), (zq_vi (x_8)), (zq_vi (x_11))]) (st' := [(zq_vi (92)), (zq_vi (x_8))]) (fun _ _ _ => rfl) ?_
      refine zq_ne rfl (zq_ch_in hx_9) (of_decide_eq_true rfl) (fun hb_14 => ?_) (fun hb_14 => ?_)
      · rw [if_neg hb_14] at w
        refine zq_run 3 (pc' := 78) (L' := [(.ref (232)), (zq_vi (x1)), (zq_vi (x2)), (zq_vi (x3)), (zq_vi (x4)), (zq_vi (x_8)), (zq_vi (x_11))]) (st' := [(zq_vi (92)), (zq_vi (x_8)), (zq_vi (x3))]) (fun _ _ _ => rfl) ?_
        refine zq_ne rfl (zq_ch_in hx_9) (of_decide_eq_true rfl) (fun hb_15 => ?_) (fun hb_15 => ?_)
        · rw [if_neg hb_15] at w
          refine zq_run 1 (pc' := 86) (L' := [(.ref (232)), (zq_vi (x1)), (zq_vi (x2)), (zq_vi (x3)), (zq_vi (x4)), (zq_vi (x_8)), (zq_vi (x_11))]) (st' := [(zq_vi (1)), (zq_vi (x3))]) (fun _ _ _ => rfl) ?_
          refine zq_iadd rfl ?_
          refine zq_run 1 (pc' := 88) (L' := [(.ref (232)), (zq_vi (x1)), (zq_vi (x2)), (zq_vi (x3 + 1)), (zq_vi (x4)), (zq_vi (x_8)), (zq_vi (x_11))]) (st' := []) (fun _ _ _ => rfl) ?_
          refine zq_iinc (L' := [(.ref (232)), (zq_vi (x1)), (zq_vi (x2)), (zq_vi (x3 + 1)), (zq_vi (x4 + 1)), (zq_vi (x_8)), (zq_vi (x_11))]) rfl rfl rfl ?_
          refine zq_run 1 (pc' := 7) (L' := [(.ref (232)), (zq_vi (x1)), (zq_vi (x2)), (zq_vi (x3 + 1)), (zq_vi (x4 + 1)), (zq_vi (x_8)), (zq_vi (x_11))]) (st' := []) (fun _ _ _ => rfl) ?_
          exact w
        · rw [if_pos hb_15] at w
          refine zq_run 2 (pc' := 86) (L' := [(.ref (232)), (zq_vi (x1)), (zq_vi (x2)), (zq_vi (x3)), (zq_vi (x4)), (zq_vi (x_8)), (zq_vi (x_11))]) (st' := [(zq_vi (2)), (zq_vi (x3))]) (fun _ _ _ => rfl) ?_
          refine zq_iadd rfl ?_
          refine zq_run 1 (pc' := 88) (L' := [(.ref (232)), (zq_vi (x1)), (zq_vi (x2)), (zq_vi (x3 + 2)), (zq_vi (x4)), (zq_vi (x_8)), (zq_vi (x_11))]) (st' := []) (fun _ _ _ => rfl) ?_
          refine zq_iinc (L' := [(.ref (232)), (zq_vi (x1)), (zq_vi (x2)), (zq_vi (x3 + 2)), (zq_vi (x4 + 1)), (zq_vi (x_8)), (zq_vi (x_11))]) rfl rfl rfl ?_
          refine zq_run 1 (pc' := 7) (L' := [(.ref (232)), (zq_vi (x1)), (zq_vi (x2)), (zq_vi (x3 + 2)), (zq_vi (x4 + 1)), (zq_vi (x_8)), (zq_vi (x_11))]) (st' := []) (fun _ _ _ => rfl) ?_
          exact w
      · rw [if_pos hb_14] at w
        refine zq_run 2 (pc' := 54) (L' := [(.ref (232)), (zq_vi (x1)), (zq_vi (x2)), (zq_vi (x3)), (zq_vi (x4)), (zq_vi (x_8)), (zq_vi (x_11))]) (st' := [(zq_vi (40)), (zq_vi (x_11))]) (fun _ _ _ => rfl) ?_
        refine zq_eq rfl (zq_ch_in hx_12) (of_decide_eq_true rfl) (fun hb_16 => ?_) (fun hb_16 => ?_)
        · rw [if_pos hb_16] at w
          refine zq_run 3 (pc' := 78) (L' := [(.ref (232)), (zq_vi (x1)), (zq_vi (x2)), (zq_vi (x3)), (zq_vi (x4)), (zq_vi (x_8)), (zq_vi (x_11))]) (st' := [(zq_vi (92)), (zq_vi (x_8)), (zq_vi (x3))]) (fun _ _ _ => rfl) ?_
          refine zq_ne rfl (zq_ch_in hx_9) (of_decide_eq_true rfl) (fun hb_17 => ?_) (fun hb_17 => ?_)
          · rw [if_neg hb_17] at w
            refine zq_run 1 (pc' := 86) (L' := [(.ref (232)), (zq_vi (x1)), (zq_vi (x2)), (zq_vi (x3)), (zq_vi (x4)), (zq_vi (x_8)), (zq_vi (x_11))]) (st' := [(zq_vi (1)), (zq_vi (x3))]) (fun _ _ _ => rfl) ?_
            refine zq_iadd rfl ?_
            refine zq_run 1 (pc' := 88) (L' := [(.ref (232)), (zq_vi (x1)), (zq_vi (x2)), (zq_vi (x3 + 1)), (zq_vi (x4)), (zq_vi (x_8)), (zq_vi (x_11))]) (st' := []) (fun _ _ _ => rfl) ?_
            refine zq_iinc (L' := [(.ref (232)), (zq_vi (x1)), (zq_vi (x2)), (zq_vi (x3 + 1)), (zq_vi (x4 + 1)), (zq_vi (x_8)), (zq_vi (x_11))]) rfl rfl rfl ?_
            refine zq_run 1 (pc' := 7) (L' := [(.ref (232)), (zq_vi (x1)), (zq_vi (x2)), (zq_vi (x3 + 1)), (zq_vi (x4 + 1)), (zq_vi (x_8)), (zq_vi (x_11))]) (st' := []) (fun _ _ _ => rfl) ?_
            exact w
          · rw [if_pos hb_17] at w
            refine zq_run 2 (pc' := 86) (L' := [(.ref (232)), (zq_vi (x1)), (zq_vi (x2)), (zq_vi (x3)), (zq_vi (x4)), (zq_vi (x_8)), (zq_vi (x_11))]) (st' := [(zq_vi (2)), (zq_vi (x3))]) (fun _ _ _ => rfl) ?_
            refine zq_iadd rfl ?_
            refine zq_run 1 (pc' := 88) (L' := [(.ref (232)), (zq_vi (x1)), (zq_vi (x2)), (zq_vi (x3 + 2)), (zq_vi (x4)), (zq_vi (x_8)), (zq_vi (x_11))]) (st' := []) (fun _ _ _ => rfl) ?_
            refine zq_iinc (L' := [(.ref (232)), (zq_vi (x1)), (zq_vi (x2)), (zq_vi (x3 + 2)), (zq_vi (x4 + 1)), (zq_vi (x_8)), (zq_vi (x_11))]) rfl rfl rfl ?_
            refine zq_run 1 (pc' := 7) (L' := [(.ref (232)), (zq_vi (x1)), (zq_vi (x2)), (zq_vi (x3 + 2)), (zq_vi (x4 + 1)), (zq_vi (x_8)), (zq_vi (x_11))]) (st' := []) (fun _ _ _ => rfl) ?_
            exact w
        · rw [if_neg hb_16] at w
          refine zq_run 2 (pc' := 61) (L' := [(.ref (232)), (zq_vi (x1)), (zq_vi (x2)), (zq_vi (x3)), (zq_vi (x4)), (zq_vi (x_8)), (zq_vi (x_11))]) (st' := [(zq_vi (41)), (zq_vi (x_11))]) (fun _ _ _ => rfl) ?_
          refine zq_eq rfl (zq_ch_in hx_12) (of_decide_eq_true rfl) (fun hb_18 => ?_) (fun hb_18 => ?_)
          · rw [if_pos hb_18] at w
            refine zq_run 3 (pc' := 78) (L' := [(.ref (232)), (zq_vi (x1)), (zq_vi (x2)), (zq_vi (x3)), (zq_vi (x4)), (zq_vi (x_8)), (zq_vi (x_11))]) (st' := [(zq_vi (92)), (zq_vi (x_8)), (zq_vi (x3))]) (fun _ _ _ => rfl) ?_
            refine zq_ne rfl (zq_ch_in hx_9) (of_decide_eq_true rfl) (fun hb_19 => ?_) (fun hb_19 => ?_)
            · rw [if_neg hb_19] at w
              refine zq_run 1 (pc' := 86) (L' := [(.ref (232)), (zq_vi (x1)), (zq_vi (x2)), (zq_vi (x3)), (zq_vi (x4)), (zq_vi (x_8)), (zq_vi (x_11))]) (st' := [(zq_vi (1)), (zq_vi (x3))]) (fun _ _ _ => rfl) ?_
              refine zq_iadd rfl ?_
              refine zq_run 1 (pc' := 88) (L' := [(.ref (232)), (zq_vi (x1)), (zq_vi (x2)), (zq_vi (x3 + 1)), (zq_vi (x4)), (zq_vi (x_8)), (zq_vi (x_11))]) (st' := []) (fun _ _ _ => rfl) ?_
              refine zq_iinc (L' := [(.ref (232)), (zq_vi (x1)), (zq_vi (x2)), (zq_vi (x3 + 1)), (zq_vi (x4 + 1)), (zq_vi (x_8)), (zq_vi (x_11))]) rfl rfl rfl ?_
              refine zq_run 1 (pc' := 7) (L' := [(.ref (232)), (zq_vi (x1)), (zq_vi (x2)), (zq_vi (x3 + 1)), (zq_vi (x4 + 1)), (zq_vi (x_8)), (zq_vi (x_11))]) (st' := []) (fun _ _ _ => rfl) ?_
              exact w
            · rw [if_pos hb_19] at w
              refine zq_run 2 (pc' := 86) (L' := [(.ref (232)), (zq_vi (x1)), (zq_vi (x2)), (zq_vi (x3)), (zq_vi (x4)), (zq_vi (x_8)), (zq_vi (x_11))]) (st' := [(zq_vi (2)), (zq_vi (x3))]) (fun _ _ _ => rfl) ?_
              refine zq_iadd rfl ?_
              refine zq_run 1 (pc' := 88) (L' := [(.ref (232)), (zq_vi (x1)), (zq_vi (x2)), (zq_vi (x3 + 2)), (zq_vi (x4)), (zq_vi (x_8)), (zq_vi (x_11))]) (st' := []) (fun _ _ _ => rfl) ?_
              refine zq_iinc (L' := [(.ref (232)), (zq_vi (x1)), (zq_vi (x2)), (zq_vi (x3 + 2)), (zq_vi (x4 + 1)), (zq_vi (x_8)), (zq_vi (x_11))]) rfl rfl rfl ?_
              refine zq_run 1 (pc' := 7) (L' := [(.ref (232)), (zq_vi (x1)), (zq_vi (x2)), (zq_vi (x3 + 2)), (zq_vi (x4 + 1)), (zq_vi (x_8)), (zq_vi (x_11))]) (st' := []) (fun _ _ _ => rfl) ?_
              exact w
          · rw [if_neg hb_18] at w
            refine zq_run 2 (pc' := 68) (L' := [(.ref (232)), (zq_vi (x1)), (zq_vi (x2)), (zq_vi (x3)), (zq_vi (x4)), (zq_vi (x_8)), (zq_vi (x_11))]) (st' := [(zq_vi (92)), (zq_vi (x_11))]) (fun _ _ _ => rfl) ?_
            refine zq_eq rfl (zq_ch_in hx_12) (of_decide_eq_true rfl) (fun hb_20 => ?_) (fun hb_20 => ?_)
            · rw [if_pos hb_20] at w
              refine zq_run 3 (pc' := 78) (L' := [(.ref (232)), (zq_vi (x1)), (zq_vi (x2)), (zq_vi (x3)), (zq_vi (x4)), (zq_vi (x_8)), (zq_vi (x_11))]) (st' := [(zq_vi (92)), (zq_vi (x_8)), (zq_vi (x3))]) (fun _ _ _ => rfl) ?_
              refine zq_ne rfl (zq_ch_in hx_9) (of_decide_eq_true rfl) (fun hb_21 => ?_) (fun hb_21 => ?_)
              · rw [if_neg hb_21] at w
                refine zq_run 1 (pc' := 86) (L' := [(.ref (232)), (zq_vi (x1)), (zq_vi (x2)), (zq_vi (x3)), (zq_vi (x4)), (zq_vi (x_8)), (zq_vi (x_11))]) (st' := [(zq_vi (1)), (zq_vi (x3))]) (fun _ _ _ => rfl) ?_
                refine zq_iadd rfl ?_
                refine zq_run 1 (pc' := 88) (L' := [(.ref (232)), (zq_vi (x1)), (zq_vi (x2)), (zq_vi (x3 + 1)), (zq_vi (x4)), (zq_vi (x_8)), (zq_vi (x_11))]) (st' := []) (fun _ _ _ => rfl) ?_
                refine zq_iinc (L' := [(.ref (232)), (zq_vi (x1)), (zq_vi (x2)), (zq_vi (x3 + 1)), (zq_vi (x4 + 1)), (zq_vi (x_8)), (zq_vi (x_11))]) rfl rfl rfl ?_
                refine zq_run 1 (pc' := 7) (L' := [(.ref (232)), (zq_vi (x1)), (zq_vi (x2)), (zq_vi (x3 + 1)), (zq_vi (x4 + 1)), (zq_vi (x_8)), (zq_vi (x_11))]) (st' := []) (fun _ _ _ => rfl) ?_
                exact w
              · rw [if_pos hb_21] at w
                refine zq_run 2 (pc' := 86) (L' := [(.ref (232)), (zq_vi (x1)), (zq_vi (x2)), (zq_vi (x3)), (zq_vi (x4)), (zq_vi (x_8)), (zq_vi (x_11))]) (st' := [(zq_vi (2)), (zq_vi (x3))]) (fun _ _ _ => rfl) ?_
                refine zq_iadd rfl ?_
                refine zq_run 1 (pc' := 88) (L' := [(.ref (232)), (zq_vi (x1)), (zq_vi (x2)), (zq_vi (x3 + 2)), (zq_vi (x4)), (zq_vi (x_8)), (zq_vi (x_11))]) (st' := []) (fun _ _ _ => rfl) ?_
                refine zq_iinc (L' := [(.ref (232)), (zq_vi (x1)), (zq_vi (x2)), (zq_vi (x3 + 2)), (zq_vi (x4 + 1)), (zq_vi (x_8)), (zq_vi (x_11))]) rfl rfl rfl ?_
                refine zq_run 1 (pc' := 7) (L' := [(.ref (232)), (zq_vi (x1)), (zq_vi (x2)), (zq_vi (x3 + 2)), (zq_vi (x4 + 1)), (zq_vi (x_8)), (zq_vi (x_11))]) (st' := []) (fun _ _ _ => rfl) ?_
                exact w
            · rw [if_neg hb_20] at w
              refine zq_run 1 (pc' := 72) (L' := [(.ref (232)), (zq_vi (x1)), (zq_vi (x2)), (zq_vi (x3)), (zq_vi (x4)), (zq_vi (x_8)), (zq_vi (x_11))]) (st' := [(zq_vi ((-1)))]) (fun _ _ _ => rfl) ?_
              exact zq_iret rfl rfl rfl (⟨_, rfl, (of_decide_eq_true rfl), w⟩)
/-- PaperObjectsModel.wordEnd(II)I -/
theorem zw_161 {X : Nat × (Nat → Int32)} {s : zq_S} {K : Int → zq_S → Prop} {x1 : Int} (hx1 : zq_iv x1) {x2 : Int} (hx2 : zq_iv x2) (w : zq_Ex X 161 2 [(.ref (232)), (zq_vi (x1)), (zq_vi (x2)), (zq_vi (x2))] [] s (zq_rp zq_iv K)) : zq_Ex X 161 0 [(.ref (232)), (zq_vi (x1)), (zq_vi (x2)), zz_no] [] s (zq_rp zq_iv K) := by
  refine zq_run 2 (pc' := 2) (L' := [(.ref (232)), (zq_vi (x1)), (zq_vi (x2)), (zq_vi (x2))]) (st' := []) (fun _ _ _ => rfl) ?_
  exact w
/-- PaperObjectsModel.wordEnd at 2 -/
theorem zw_161_2 {X : Nat × (Nat → Int32)} {s : zq_S} {K : Int → zq_S → Prop} {x1 : Int} (hx1 : zq_iv x1) {x2 : Int} (hx2 : zq_iv x2) {x3 : Int} (hx3 : zq_iv x3) (w : (zq_Ex X 147 0 [(.ref (232)), (zq_vi (x1)), (zq_vi (x3))] [] s (zq_rp zq_ch fun x_2 s_1 => (zq_Ex X 154 0 [(zq_vi (x_2))] [] s_1 (zq_rp zq_bo fun x_5 s_4 => (if x_5 = 0 then (zq_Ex X 147 0 [(.ref (232)), (zq_vi (x1)), (zq_vi (x3))] [] s_4 (zq_rp zq_ch fun x_9 s_8 => (if x_9 = 45 then zq_Ex X 161 2 [(.ref (232)), (zq_vi (x1)), (zq_vi (x2)), (zq_vi (x3 + 1))] [] s_8 (zq_rp zq_iv K) else K (x3) s_8))) else zq_Ex X 161 2 [(.ref (232)), (zq_vi (x1)), (zq_vi (x2)), (zq_vi (x3 + 1))] [] s_4 (zq_rp zq_iv K))))))) : zq_Ex X 161 2 [(.ref (232)), (zq_vi (x1)), (zq_vi (x2)), (zq_vi (x3))] [] s (zq_rp zq_iv K) := by
  refine zq_run 3 (pc' := 5) (L' := [(.ref (232)), (zq_vi (x1)), (zq_vi (x2)), (zq_vi (x3))]) (st' := [(zq_vi (x3)), (zq_vi (x1)), (.ref (232))]) (fun _ _ _ => rfl) ?_
  refine zq_call_i (i := .invokevirtual 119) (r := [1, 147, 2, 1, 9]) rfl rfl (fun h hp => zr_avv rfl (hp.obj zq_a232)) (of_decide_eq_false rfl) w (fun x_2 s_1 hx_3 w => ?_)
  refine zq_call_i (i := .invokestatic 127) (r := [1, 154, 1, 0, 9]) rfl rfl (fun _ _ => rfl) (of_decide_eq_false rfl) w (fun x_5 s_4 hx_6 w => ?_)
  refine zq_ne0 rfl (zq_bo_in hx_6) (fun hb_7 => ?_) (fun hb_7 => ?_)
  · rw [if_neg hb_7] at w
    refine zq_iinc (L' := [(.ref (232)), (zq_vi (x1)), (zq_vi (x2)), (zq_vi (x3 + 1))]) rfl rfl rfl ?_
    refine zq_run 1 (pc' := 2) (L' := [(.ref (232)), (zq_vi (x1)), (zq_vi (x2)), (zq_vi (x3 + 1))]) (st' := []) (fun _ _ _ => rfl) ?_
    exact w
  · rw [if_pos hb_7] at w
    refine zq_run 3 (pc' := 17) (L' := [(.ref (232)), (zq_vi (x1)), (zq_vi (x2)), (zq_vi (x3))]) (st' := [(zq_vi (x3)), (zq_vi (x1)), (.ref (232))]) (fun _ _ _ => rfl) ?_
    refine zq_call_i (i := .invokevirtual 119) (r := [1, 147, 2, 1, 9]) rfl rfl (fun h hp => zr_avv rfl (hp.obj zq_a232)) (of_decide_eq_false rfl) w (fun x_9 s_8 hx_10 w => ?_)
    refine zq_run 1 (pc' := 22) (L' := [(.ref (232)), (zq_vi (x1)), (zq_vi (x2)), (zq_vi (x3))]) (st' := [(zq_vi (45)), (zq_vi (x_9))]) (fun _ _ _ => rfl) ?_
    refine zq_ne rfl (zq_ch_in hx_10) (of_decide_eq_true rfl) (fun hb_11 => ?_) (fun hb_11 => ?_)
    · rw [if_neg hb_11] at w
      refine zq_run 1 (pc' := 32) (L' := [(.ref (232)), (zq_vi (x1)), (zq_vi (x2)), (zq_vi (x3))]) (st' := [(zq_vi (x3))]) (fun _ _ _ => rfl) ?_
      exact zq_iret rfl rfl rfl (⟨_, rfl, hx3, w⟩)
    · rw [if_pos hb_11] at w
      refine zq_iinc (L' := [(.ref (232)), (zq_vi (x1)), (zq_vi (x2)), (zq_vi (x3 + 1))]) rfl rfl rfl ?_
      refine zq_run 1 (pc' := 2) (L' := [(.ref (232)), (zq_vi (x1)), (zq_vi (x2)), (zq_vi (x3 + 1))]) (st' := []) (fun _ _ _ => rfl) ?_
      exact w
/-- PaperObjectsModel.referenceEnd(II)I -/
theorem zw_162 {X : Nat × (Nat → Int32)} {s : zq_S} {K : Int → zq_S → Prop} {x1 : Int} (hx1 : zq_iv x1) {x2 : Int} (hx2 : zq_iv x2) (w : (zq_Ex X 163 0 [(.ref (232)), (zq_vi (x1)), (zq_vi (x2)), (zq_vi (49)), zz_no] [] s (zq_rp zq_bo fun x_2 s_1 => (if x_2 = 0 then K ((-1)) s_1 else (zq_Ex X 146 0 [(.ref (232)), (zq_vi (x1)), (zq_vi (x2 + 1)), zz_no] [] s_1 (zq_rp zq_iv fun x_6 s_5 => (zq_Ex X 163 0 [(.ref (232)), (zq_vi (x1)), (zq_vi (x_6)), (zq_vi (48)), zz_no] [] s_5 (zq_rp zq_bo fun x_9 s_8 => (if x_9 = 0 then K ((-1)) s_8 else (zq_Ex X 146 0 [(.ref (232)), (zq_vi (x1)), (zq_vi (x_6 + 1)), zz_no] [] s_8 (zq_rp zq_iv fun x_13 s_12 => (zq_Ex X 147 0 [(.ref (232)), (zq_vi (x1)), (zq_vi (x_13))] [] s_12 (zq_rp zq_ch fun x_16 s_15 => (if x_16 = 82 then (zq_Ex X 161 0 [(.ref (232)), (zq_vi (x1)), (zq_vi (x_13)), zz_no] [] s_15 (zq_rp zq_iv fun x_20 s_19 => (zq_iv (x_13 + 1) ∧ (if x_20 = x_13 + 1 then (zq_iv (x_13 + 1) ∧ K (x_13 + 1) s_19) else K ((-1)) s_19)))) else K ((-1)) s_15)))))))))))))) : zq_Ex X 162 0 [(.ref (232)), (zq_vi (x1)), (zq_vi (x2)), zz_no, zz_no] [] s (zq_rp zq_iv K) := by
  refine zq_run 4 (pc' := 5) (L' := [(.ref (232)), (zq_vi (x1)), (zq_vi (x2)), zz_no, zz_no]) (st' := [(zq_vi (49)), (zq_vi (x2)), (zq_vi (x1)), (.ref (232))]) (fun _ _ _ => rfl) ?_
  refine zq_call_i (i := .invokevirtual 137) (r := [1, 163, 3, 1, 9]) rfl rfl (fun h hp => zr_avv rfl (hp.obj zq_a232)) (of_decide_eq_false rfl) w (fun x_2 s_1 hx_3 w => ?_)
  refine zq_ne0 rfl (zq_bo_in hx_3) (fun hb_4 => ?_) (fun hb_4 => ?_)
  · rw [if_neg hb_4] at w
    refine zq_run 4 (pc' := 17) (L' := [(.ref (232)), (zq_vi (x1)), (zq_vi (x2)), zz_no, zz_no]) (st' := [(zq_vi (1)), (zq_vi (x2)), (zq_vi (x1)), (.ref (232))]) (fun _ _ _ => rfl) ?_
    refine zq_iadd rfl ?_
    refine zq_call_i (i := .invokevirtual 141) (r := [1, 146, 2, 1, 9]) rfl rfl (fun h hp => zr_avv rfl (hp.obj zq_a232)) (of_decide_eq_false rfl) w (fun x_6 s_5 hx_7 w => ?_)
    refine zq_run 5 (pc' := 27) (L' := [(.ref (232)), (zq_vi (x1)), (zq_vi (x2)), (zq_vi (x_6)), zz_no]) (st' := [(zq_vi (48)), (zq_vi (x_6)), (zq_vi (x1)), (.ref (232))]) (fun _ _ _ => rfl) ?_
    refine zq_call_i (i := .invokevirtual 137) (r := [1, 163, 3, 1, 9]) rfl rfl (fun h hp => zr_avv rfl (hp.obj zq_a232)) (of_decide_eq_false rfl) w (fun x_9 s_8 hx_10 w => ?_)
    refine zq_ne0 rfl (zq_bo_in hx_10) (fun hb_11 => ?_) (fun hb_11 => ?_)
    · rw [if_neg hb_11] at w
      refine zq_run 4 (pc' := 39) (L' := [(.ref (232)), (zq_vi (x1)), (zq_vi (x2)), (zq_vi (x_6)), zz_no]) (st' := [(zq_vi (1)), (zq_vi (x_6)), (zq_vi (x1)), (.ref (232))]) (fun _ _ _ => rfl) ?_
      refine zq_iadd rfl ?_
      refine zq_call_i (i := .invokevirtual 141) (r := [1, 146, 2, 1, 9]) rfl rfl (fun h hp => zr_avv rfl (hp.obj zq_a232)) (of_decide_eq_false rfl) w (fun x_13 s_12 hx_14 w => ?_)
      refine zq_run 4 (pc' := 49) (L' := [(.ref (232)), (zq_vi (x1)), (zq_vi (x2)), (zq_vi (x_6)), (zq_vi (x_13))]) (st' := [(zq_vi (x_13)), (zq_vi (x1)), (.ref (232))]) (fun _ _ _ => rfl) ?_
      refine zq_call_i (i := .invokevirtual 119) (r := [1, 147, 2, 1, 9]) rfl rfl (fun h hp => zr_avv rfl (hp.obj zq_a232)) (of_decide_eq_false rfl) w (fun x_16 s_15 hx_17 w => ?_)
      refine zq_run 1 (pc' := 54) (L' := [(.ref (232)), (zq_vi (x1)), (zq_vi (x2)), (zq_vi (x_6)), (zq_vi (x_13))]) (st' := [(zq_vi (82)), (zq_vi (x_16))]) (fun _ _ _ => rfl) ?_
      refine zq_ne rfl (zq_ch_in hx_17) (of_decide_eq_true rfl) (fun hb_18 => ?_) (fun hb_18 => ?_)
      · rw [if_neg hb_18] at w
        refine zq_run 1 (pc' := 79) (L' := [(.ref (232)), (zq_vi (x1)), (zq_vi (x2)), (zq_vi (x_6)), (zq_vi (x_13))]) (st' := [(zq_vi ((-1)))]) (fun _ _ _ => rfl) ?_
        exact zq_iret rfl rfl rfl (⟨_, rfl, (of_decide_eq_true rfl), w⟩)
      · rw [if_pos hb_18] at w
        refine zq_run 3 (pc' := 61) (L' := [(.ref (232)), (zq_vi (x1)), (zq_vi (x2)), (zq_vi (x_6)), (zq_vi (x_13))]) (st' := [(zq_vi (x_13)), (zq_vi (x1)), (.ref (232))]) (fun _ _ _ => rfl) ?_
        refine zq_call_i (i := .invokevirtual 134) (r := [1, 161, 2, 1, 9]) rfl rfl (fun h hp => zr_avv rfl (hp.obj zq_a232)) (of_decide_eq_false rfl) w (fun x_20 s_19 hx_21 w => ?_)
        refine zq_run 2 (pc' := 67) (L' := [(.ref (232)), (zq_vi (x1)), (zq_vi (x2)), (zq_vi (x_6)), (zq_vi (x_13))]) (st' := [(zq_vi (1)), (zq_vi (x_13)), (zq_vi (x_20))]) (fun _ _ _ => rfl) ?_
        refine zq_iadd rfl ?_
        obtain ⟨g_22, w⟩ := w
        refine zq_ne rfl hx_21 g_22 (fun hb_23 => ?_) (fun hb_23 => ?_)
        · rw [if_neg hb_23] at w
          refine zq_run 1 (pc' := 79) (L' := [(.ref (232)), (zq_vi (x1)), (zq_vi (x2)), (zq_vi (x_6)), (zq_vi (x_13))]) (st' := [(zq_vi ((-1)))]) (fun _ _ _ => rfl) ?_
          exact zq_iret rfl rfl rfl (⟨_, rfl, (of_decide_eq_true rfl), w⟩)
        · rw [if_pos hb_23] at w
          refine zq_run 2 (pc' := 74) (L' := [(.ref (232)), (zq_vi (x1)), (zq_vi (x2)), (zq_vi (x_6)), (zq_vi (x_13))]) (st' := [(zq_vi (1)), (zq_vi (x_13))]) (fun _ _ _ => rfl) ?_
          refine zq_iadd rfl ?_
          refine zq_run 1 (pc' := 79) (L' := [(.ref (232)), (zq_vi (x1)), (zq_vi (x2)), (zq_vi (x_6)), (zq_vi (x_13))]) (st' := [(zq_vi (x_13 + 1))]) (fun _ _ _ => rfl) ?_
          obtain ⟨g_24, w⟩ := w
          exact zq_iret rfl rfl rfl (⟨_, rfl, g_24, w⟩)
    · rw [if_pos hb_11] at w
      refine zq_run 1 (pc' := 34) (L' := [(.ref (232)), (zq_vi (x1)), (zq_vi (x2)), (zq_vi (x_6)), zz_no]) (st' := [(zq_vi ((-1)))]) (fun _ _ _ => rfl) ?_
      exact zq_iret rfl rfl rfl (⟨_, rfl, (of_decide_eq_true rfl), w⟩)
  · rw [if_pos hb_4] at w
    refine zq_run 1 (pc' := 12) (L' := [(.ref (232)), (zq_vi (x1)), (zq_vi (x2)), zz_no, zz_no]) (st' := [(zq_vi ((-1)))]) (fun _ _ _ => rfl) ?_
    exact zq_iret rfl rfl rfl (⟨_, rfl, (of_decide_eq_true rfl), w⟩)
/-- PaperObjectsModel.oneDigit(IIC)Z -/
theorem zw_163 {X : Nat × (Nat → Int32)} {s : zq_S} {K : Int → zq_S → Prop} {x1 : Int} (hx1 : zq_iv x1) {x2 : Int} (hx2 : zq_iv x2) {x3 : Int} (hx3 : zq_ch x3) (w : (zq_Ex X 147 0 [(.ref (232)), (zq_vi (x1)), (zq_vi (x2))] [] s (zq_rp zq_ch fun x_2 s_1 => (zq_Ex X 155 0 [(zq_vi (x_2))] [] s_1 (zq_rp zq_bo fun x_5 s_4 => (if x_5 = 0 then K (0) s_4 else (if x_2 < x3 then K (0) s_4 else (zq_Ex X 161 0 [(.ref (232)), (zq_vi (x1)), (zq_vi (x2)), zz_no] [] s_4 (zq_rp zq_iv fun x_10 s_9 => (zq_iv (x2 + 1) ∧ (if x_10 = x2 + 1 then K (1) s_9 else K (0) s_9))))))))))) : zq_Ex X 163 0 [(.ref (232)), (zq_vi (x1)), (zq_vi (x2)), (zq_vi (x3)), zz_no] [] s (zq_rp zq_bo K) := by
  refine zq_run 3 (pc' := 3) (L' := [(.ref (232)), (zq_vi (x1)), (zq_vi (x2)), (zq_vi (x3)), zz_no]) (st' := [(zq_vi (x2)), (zq_vi (x1)), (.ref (232))]) (fun _ _ _ => rfl) ?_
  refine zq_call_i (i := .invokevirtual 119) (r := [1, 147, 2, 1, 9]) rfl rfl (fun h hp => zr_avv rfl (hp.obj zq_a232)) (of_decide_eq_false rfl) w (fun x_2 s_1 hx_3 w => ?_)
  refine zq_run 2 (pc' := 10) (L' := [(.ref (232)), (zq_vi (x1)), (zq_vi (x2)), (zq_vi (x3)), (zq_vi (x_2))]) (st' := [(zq_vi (x_2))]) (fun _ _ _ => rfl) ?_
  refine zq_call_i (i := .invokestatic 103) (r := [1, 155, 1, 0, 9]) rfl rfl (fun _ _ => rfl) (of_decide_eq_false rfl) w (fun x_5 s_4 hx_6 w => ?_)
  refine zq_eq0 rfl (zq_bo_in hx_6) (fun hb_7 => ?_) (fun hb_7 => ?_)
  · rw [if_pos hb_7] at w
    refine zq_run 1 (pc' := 39) (L' := [(.ref (232)), (zq_vi (x1)), (zq_vi (x2)), (zq_vi (x3)), (zq_vi (x_2))]) (st' := [(zq_vi (0))]) (fun _ _ _ => rfl) ?_
    exact zq_iret rfl rfl (congrArg Value.int (zq_nb (of_decide_eq_true rfl))) (⟨_, rfl, (of_decide_eq_true rfl), w⟩)
  · rw [if_neg hb_7] at w
    refine zq_run 2 (pc' := 19) (L' := [(.ref (232)), (zq_vi (x1)), (zq_vi (x2)), (zq_vi (x3)), (zq_vi (x_2))]) (st' := [(zq_vi (x3)), (zq_vi (x_2))]) (fun _ _ _ => rfl) ?_
    refine zq_lt rfl (zq_ch_in hx_3) (zq_ch_in hx3) (fun hb_8 => ?_) (fun hb_8 => ?_)
    · rw [if_pos hb_8] at w
      refine zq_run 1 (pc' := 39) (L' := [(.ref (232)), (zq_vi (x1)), (zq_vi (x2)), (zq_vi (x3)), (zq_vi (x_2))]) (st' := [(zq_vi (0))]) (fun _ _ _ => rfl) ?_
      exact zq_iret rfl rfl (congrArg Value.int (zq_nb (of_decide_eq_true rfl))) (⟨_, rfl, (of_decide_eq_true rfl), w⟩)
    · rw [if_neg hb_8] at w
      refine zq_run 3 (pc' := 25) (L' := [(.ref (232)), (zq_vi (x1)), (zq_vi (x2)), (zq_vi (x3)), (zq_vi (x_2))]) (st' := [(zq_vi (x2)), (zq_vi (x1)), (.ref (232))]) (fun _ _ _ => rfl) ?_
      refine zq_call_i (i := .invokevirtual 134) (r := [1, 161, 2, 1, 9]) rfl rfl (fun h hp => zr_avv rfl (hp.obj zq_a232)) (of_decide_eq_false rfl) w (fun x_10 s_9 hx_11 w => ?_)
      refine zq_run 2 (pc' := 30) (L' := [(.ref (232)), (zq_vi (x1)), (zq_vi (x2)), (zq_vi (x3)), (zq_vi (x_2))]) (st' := [(zq_vi (1)), (zq_vi (x2)), (zq_vi (x_10))]) (fun _ _ _ => rfl) ?_
      refine zq_iadd rfl ?_
      obtain ⟨g_12, w⟩ := w
      refine zq_ne rfl hx_11 g_12 (fun hb_13 => ?_) (fun hb_13 => ?_)
      · rw [if_neg hb_13] at w
        refine zq_run 1 (pc' := 39) (L' := [(.ref (232)), (zq_vi (x1)), (zq_vi (x2)), (zq_vi (x3)), (zq_vi (x_2))]) (st' := [(zq_vi (0))]) (fun _ _ _ => rfl) ?_
        exact zq_iret rfl rfl (congrArg Value.int (zq_nb (of_decide_eq_true rfl))) (⟨_, rfl, (of_decide_eq_true rfl), w⟩)
      · rw [if_pos hb_13] at w
        refine zq_run 2 (pc' := 39) (L' := [(.ref (232)), (zq_vi (x1)), (zq_vi (x2)), (zq_vi (x3)), (zq_vi (x_2))]) (st' := [(zq_vi (1))]) (fun _ _ _ => rfl) ?_
        exact zq_iret rfl rfl (congrArg Value.int (zq_nb (of_decide_eq_true rfl))) (⟨_, rfl, (of_decide_eq_true rfl), w⟩)
/-- PaperObjectsModel.says(IICCCC)Z -/
theorem zw_164 {X : Nat × (Nat → Int32)} {s : zq_S} {K : Int → zq_S → Prop} {x1 : Int} (hx1 : zq_iv x1) {x2 : Int} (hx2 : zq_iv x2) {x3 : Int} (hx3 : zq_ch x3) {x4 : Int} (hx4 : zq_ch x4) {x5 : Int} (hx5 : zq_ch x5) {x6 : Int} (hx6 : zq_ch x6) (w : (zq_Ex X 147 0 [(.ref (232)), (zq_vi (x1)), (zq_vi (x2))] [] s (zq_rp zq_ch fun x_2 s_1 => (if x_2 = x3 then (zq_Ex X 147 0 [(.ref (232)), (zq_vi (x1)), (zq_vi (x2 + 1))] [] s_1 (zq_rp zq_ch fun x_6 s_5 => (if x_6 = x4 then (zq_Ex X 147 0 [(.ref (232)), (zq_vi (x1)), (zq_vi (x2 + 2))] [] s_5 (zq_rp zq_ch fun x_10 s_9 => (if x_10 = x5 then (zq_Ex X 147 0 [(.ref (232)), (zq_vi (x1)), (zq_vi (x2 + 3))] [] s_9 (zq_rp zq_ch fun x_14 s_13 => (if x_14 = x6 then K (1) s_13 else K (0) s_13))) else K (0) s_9))) else K (0) s_5))) else K (0) s_1)))) : zq_Ex X 164 0 [(.ref (232)), (zq_vi (x1)), (zq_vi (x2)), (zq_vi (x3)), (zq_vi (x4)), (zq_vi (x5)), (zq_vi (x6))] [] s (zq_rp zq_bo K) := by
  refine zq_run 3 (pc' := 3) (L' := [(.ref (232)), (zq_vi (x1)), (zq_vi (x2)), (zq_vi (x3)), (zq_vi (x4)), (zq_vi (x5)), (zq_vi (x6))]) (st' := [(zq_vi (x2)), (zq_vi (x1)), (.ref (232))]) (fun _ _ _ => rfl) ?_
  refine zq_call_i (i := .invokevirtual 119) (r := [1, 147, 2, 1, 9]) rfl rfl (fun h hp => zr_avv rfl (hp.obj zq_a232)) (of_decide_eq_false rfl) w (fun x_2 s_1 hx_3 w => ?_)
  refine zq_run 1 (pc' := 7) (L' := [(.ref (232)), (zq_vi (x1)), (zq_vi (x2)), (zq_vi (x3)), (zq_vi (x4)), (zq_vi (x5)), (zq_vi (x6))]) (st' := [(zq_vi (x3)), (zq_vi (x_2))]) (fun _ _ _ => rfl) ?_
  refine zq_ne rfl (zq_ch_in hx_3) (zq_ch_in hx3) (fun hb_4 => ?_) (fun hb_4 => ?_)
  · rw [if_neg hb_4] at w
    refine zq_run 1 (pc' := 54) (L' := [(.ref (232)), (zq_vi (x1)), (zq_vi (x2)), (zq_vi (x3)), (zq_vi (x4)), (zq_vi (x5)), (zq_vi (x6))]) (st' := [(zq_vi (0))]) (fun _ _ _ => rfl) ?_
    exact zq_iret rfl rfl (congrArg Value.int (zq_nb (of_decide_eq_true rfl))) (⟨_, rfl, (of_decide_eq_true rfl), w⟩)
  · rw [if_pos hb_4] at w
    refine zq_run 4 (pc' := 14) (L' := [(.ref (232)), (zq_vi (x1)), (zq_vi (x2)), (zq_vi (x3)), (zq_vi (x4)), (zq_vi (x5)), (zq_vi (x6))]) (st' := [(zq_vi (1)), (zq_vi (x2)), (zq_vi (x1)), (.ref (232))]) (fun _ _ _ => rfl) ?_
    refine zq_iadd rfl ?_
    refine zq_call_i (i := .invokevirtual 119) (r := [1, 147, 2, 1, 9]) rfl rfl (fun h hp => zr_avv rfl (hp.obj zq_a232)) (of_decide_eq_false rfl) w (fun x_6 s_5 hx_7 w => ?_)
    refine zq_run 1 (pc' := 20) (L' := [(.ref (232)), (zq_vi (x1)), (zq_vi (x2)), (zq_vi (x3)), (zq_vi (x4)), (zq_vi (x5)), (zq_vi (x6))]) (st' := [(zq_vi (x4)), (zq_vi (x_6))]) (fun _ _ _ => rfl) ?_
    refine zq_ne rfl (zq_ch_in hx_7) (zq_ch_in hx4) (fun hb_8 => ?_) (fun hb_8 => ?_)
    · rw [if_neg hb_8] at w
      refine zq_run 1 (pc' := 54) (L' := [(.ref (232)), (zq_vi (x1)), (zq_vi (x2)), (zq_vi (x3)), (zq_vi (x4)), (zq_vi (x5)), (zq_vi (x6))]) (st' := [(zq_vi (0))]) (fun _ _ _ => rfl) ?_
      exact zq_iret rfl rfl (congrArg Value.int (zq_nb (of_decide_eq_true rfl))) (⟨_, rfl, (of_decide_eq_true rfl), w⟩)
    · rw [if_pos hb_8] at w
      refine zq_run 4 (pc' := 27) (L' := [(.ref (232)), (zq_vi (x1)), (zq_vi (x2)), (zq_vi (x3)), (zq_vi (x4)), (zq_vi (x5)), (zq_vi (x6))]) (st' := [(zq_vi (2)), (zq_vi (x2)), (zq_vi (x1)), (.ref (232))]) (fun _ _ _ => rfl) ?_
      refine zq_iadd rfl ?_
      refine zq_call_i (i := .invokevirtual 119) (r := [1, 147, 2, 1, 9]) rfl rfl (fun h hp => zr_avv rfl (hp.obj zq_a232)) (of_decide_eq_false rfl) w (fun x_10 s_9 hx_11 w => ?_)
      refine zq_run 1 (pc' := 33) (L' := [(.ref (232)), (zq_vi (x1)), (zq_vi (x2)), (zq_vi (x3)), (zq_vi (x4)), (zq_vi (x5)), (zq_vi (x6))]) (st' := [(zq_vi (x5)), (zq_vi (x_10))]) (fun _ _ _ => rfl) ?_
      refine zq_ne rfl (zq_ch_in hx_11) (zq_ch_in hx5) (fun hb_12 => ?_) (fun hb_12 => ?_)
      · rw [if_neg hb_12] at w
        refine zq_run 1 (pc' := 54) (L' := [(.ref (232)), (zq_vi (x1)), (zq_vi (x2)), (zq_vi (x3)), (zq_vi (x4)), (zq_vi (x5)), (zq_vi (x6))]) (st' := [(zq_vi (0))]) (fun _ _ _ => rfl) ?_
        exact zq_iret rfl rfl (congrArg Value.int (zq_nb (of_decide_eq_true rfl))) (⟨_, rfl, (of_decide_eq_true rfl), w⟩)
      · rw [if_pos hb_12] at w
        refine zq_run 4 (pc' := 40) (L' := [(.ref (232)), (zq_vi (x1)), (zq_vi (x2)), (zq_vi (x3)), (zq_vi (x4)), (zq_vi (x5)), (zq_vi (x6))]) (st' := [(zq_vi (3)), (zq_vi (x2)), (zq_vi (x1)), (.ref (232))]) (fun _ _ _ => rfl) ?_
        refine zq_iadd rfl ?_
        refine zq_call_i (i := .invokevirtual 119) (r := [1, 147, 2, 1, 9]) rfl rfl (fun h hp => zr_avv rfl (hp.obj zq_a232)) (of_decide_eq_false rfl) w (fun x_14 s_13 hx_15 w => ?_)
        refine zq_run 1 (pc' := 46) (L' := [(.ref (232)), (zq_vi (x1)), (zq_vi (x2)), (zq_vi (x3)), (zq_vi (x4)), (zq_vi (x5)), (zq_vi (x6))]) (st' := [(zq_vi (x6)), (zq_vi (x_14))]) (fun _ _ _ => rfl) ?_
        refine zq_ne rfl (zq_ch_in hx_15) (zq_ch_in hx6) (fun hb_16 => ?_) (fun hb_16 => ?_)
        · rw [if_neg hb_16] at w
          refine zq_run 1 (pc' := 54) (L' := [(.ref (232)), (zq_vi (x1)), (zq_vi (x2)), (zq_vi (x3)), (zq_vi (x4)), (zq_vi (x5)), (zq_vi (x6))]) (st' := [(zq_vi (0))]) (fun _ _ _ => rfl) ?_
          exact zq_iret rfl rfl (congrArg Value.int (zq_nb (of_decide_eq_true rfl))) (⟨_, rfl, (of_decide_eq_true rfl), w⟩)
        · rw [if_pos hb_16] at w
          refine zq_run 2 (pc' := 54) (L' := [(.ref (232)), (zq_vi (x1)), (zq_vi (x2)), (zq_vi (x3)), (zq_vi (x4)), (zq_vi (x5)), (zq_vi (x6))]) (st' := [(zq_vi (1))]) (fun _ _ _ => rfl) ?_
          exact zq_iret rfl rfl (congrArg Value.int (zq_nb (of_decide_eq_true rfl))) (⟨_, rfl, (of_decide_eq_true rfl), w⟩)
/-- PaperObjectsModel.isNumber(III)Z -/
theorem zw_165 {X : Nat × (Nat → Int32)} {s : zq_S} {K : Int → zq_S → Prop} {x1 : Int} (hx1 : zq_iv x1) {x2 : Int} (hx2 : zq_iv x2) {x3 : Int} (hx3 : zq_iv x3) (w : (zq_Ex X 147 0 [(.ref (232)), (zq_vi (x1)), (zq_vi (x2))] [] s (zq_rp zq_ch fun x_2 s_1 => (if x_2 = 45 then (zq_iv (x3 - (x2 + 1)) ∧ (if x3 - (x2 + 1) < 1 then zq_Ex X 165 48 [(.ref (232)), (zq_vi (x1)), (zq_vi (x2)), (zq_vi (x3)), (zq_vi (x2 + 1)), (zq_vi (0)), (zq_vi (x2 + 1))] [] s_1 (zq_rp zq_bo K) else (zq_iv (x3 - (x2 + 1)) ∧ (if x3 - (x2 + 1) ≤ 6 then zq_Ex X 165 48 [(.ref (232)), (zq_vi (x1)), (zq_vi (x2)), (zq_vi (x3)), (zq_vi (x2 + 1)), (zq_vi (1)), (zq_vi (x2 + 1))] [] s_1 (zq_rp zq_bo K) else zq_Ex X 165 48 [(.ref (232)), (zq_vi (x1)), (zq_vi (x2)), (zq_vi (x3)), (zq_vi (x2 + 1)), (zq_vi (0)), (zq_vi (x2 + 1))] [] s_1 (zq_rp zq_bo K))))) else (zq_iv (x3 - x2) ∧ (if x3 - x2 < 1 then zq_Ex X 165 48 [(.ref (232)), (zq_vi (x1)), (zq_vi (x2)), (zq_vi (x3)), (zq_vi (x2)), (zq_vi (0)), (zq_vi (x2))] [] s_1 (zq_rp zq_bo K) else (zq_iv (x3 - x2) ∧ (if x3 - x2 ≤ 6 then zq_Ex X 165 48 [(.ref (232)), (zq_vi (x1)), (zq_vi (x2)), (zq_vi (x3)), (zq_vi (x2)), (zq_vi (1)), (zq_vi (x2))] [] s_1 (zq_rp zq_bo K) else zq_Ex X 165 48 [(.ref (232)), (zq_vi (x1)), (zq_vi (x2)), (zq_vi (x3)), (zq_vi (x2)), (zq_vi (0)), (zq_vi (x2))] [] s_1 (zq_rp zq_bo K))))))))) : zq_Ex X 165 0 [(.ref (232)), (zq_vi (x1)), (zq_vi (x2)), (zq_vi (x3)), zz_no, zz_no, zz_no] [] s (zq_rp zq_bo K) := by
  refine zq_run 3 (pc' := 3) (L' := [(.ref (232)), (zq_vi (x1)), (zq_vi (x2)), (zq_vi (x3)), zz_no, zz_no, zz_no]) (st' := [(zq_vi (x2)), (zq_vi (x1)), (.ref (232))]) (fun _ _ _ => rfl) ?_
  refine zq_call_i (i := .invokevirtual 119) (r := [1, 147, 2, 1, 9]) rfl rfl (fun h hp => zr_avv rfl (hp.obj zq_a232)) (of_decide_eq_false rfl) w (fun x_2 s_1 hx_3 w => ?_)
  refine zq_run 1 (pc' := 8) (L' := [(.ref (232)), (zq_vi (x1)), (zq_vi (x2)), (zq_vi (x3)), zz_no, zz_no, zz_no]) (st' := [(zq_vi (45)), (zq_vi (x_2))]) (fun _ _ _ => rfl) ?_
  refine zq_ne rfl (zq_ch_in hx_3) (of_decide_eq_true rfl) (fun hb_4 => ?_) (fun hb_4 => ?_)
  · rw [if_neg hb_4] at w
    refine zq_run 4 (pc' := 23) (L' := [(.ref (232)), (zq_vi (x1)), (zq_vi (x2)), (zq_vi (x3)), (zq_vi (x2)), zz_no, zz_no]) (st' := [(zq_vi (x2)), (zq_vi (x3))]) (fun _ _ _ => rfl) ?_
    refine zq_isub rfl ?_
    refine zq_run 1 (pc' := 25) (L' := [(.ref (232)), (zq_vi (x1)), (zq_vi (x2)), (zq_vi (x3)), (zq_vi (x2)), zz_no, zz_no]) (st' := [(zq_vi (1)), (zq_vi (x3 - x2))]) (fun _ _ _ => rfl) ?_
    obtain ⟨g_5, w⟩ := w
    refine zq_lt rfl g_5 (of_decide_eq_true rfl) (fun hb_6 => ?_) (fun hb_6 => ?_)
    · rw [if_pos hb_6] at w
      refine zq_run 4 (pc' := 48) (L' := [(.ref (232)), (zq_vi (x1)), (zq_vi (x2)), (zq_vi (x3)), (zq_vi (x2)), (zq_vi (0)), (zq_vi (x2))]) (st' := []) (fun _ _ _ => rfl) ?_
      exact w
    · rw [if_neg hb_6] at w
      refine zq_run 2 (pc' := 31) (L' := [(.ref (232)), (zq_vi (x1)), (zq_vi (x2)), (zq_vi (x3)), (zq_vi (x2)), zz_no, zz_no]) (st' := [(zq_vi (x2)), (zq_vi (x3))]) (fun _ _ _ => rfl) ?_
      refine zq_isub rfl ?_
      refine zq_run 1 (pc' := 34) (L' := [(.ref (232)), (zq_vi (x1)), (zq_vi (x2)), (zq_vi (x3)), (zq_vi (x2)), zz_no, zz_no]) (st' := [(zq_vi (6)), (zq_vi (x3 - x2))]) (fun _ _ _ => rfl) ?_
      obtain ⟨g_7, w⟩ := w
      refine zq_gt rfl g_7 (of_decide_eq_true rfl) (fun hb_8 => ?_) (fun hb_8 => ?_)
      · rw [if_neg hb_8] at w
        refine zq_run 4 (pc' := 48) (L' := [(.ref (232)), (zq_vi (x1)), (zq_vi (x2)), (zq_vi (x3)), (zq_vi (x2)), (zq_vi (0)), (zq_vi (x2))]) (st' := []) (fun _ _ _ => rfl) ?_
        exact w
      · rw [if_pos hb_8] at w
        refine zq_run 5 (pc' := 48) (L' := [(.ref (232)), (zq_vi (x1)), (zq_vi (x2)), (zq_vi (x3)), (zq_vi (x2)), (zq_vi (1)), (zq_vi (x2))]) (st' := []) (fun _ _ _ => rfl) ?_
        exact w
  · rw [if_pos hb_4] at w
    refine zq_run 2 (pc' := 13) (L' := [(.ref (232)), (zq_vi (x1)), (zq_vi (x2)), (zq_vi (x3)), zz_no, zz_no, zz_no]) (st' := [(zq_vi (1)), (zq_vi (x2))]) (fun _ _ _ => rfl) ?_
    refine zq_iadd rfl ?_
    refine zq_run 4 (pc' := 23) (L' := [(.ref (232)), (zq_vi (x1)), (zq_vi (x2)), (zq_vi (x3)), (zq_vi (x2 + 1)), zz_no, zz_no]) (st' := [(zq_vi (x2 + 1)), (zq_vi (x3))]) (fun _ _ _ => rfl) ?_
    refine zq_isub rfl ?_
    refine zq_run 1 (pc' := 25) (L' := [(.ref (232)), (zq_vi (x1)), (zq_vi (x2)), (zq_vi (x3)), (zq_vi (x2 + 1)), zz_no, zz_no]) (st' := [(zq_vi (1)), (zq_vi (x3 - (x2 + 1)))]) (fun _ _ _ => rfl) ?_
    obtain ⟨g_9, w⟩ := w
    refine zq_lt rfl g_9 (of_decide_eq_true rfl) (fun hb_10 => ?_) (fun hb_10 => ?_)
    · rw [if_pos hb_10] at w
      refine zq_run 4 (pc' := 48) (L' := [(.ref (232)), (zq_vi (x1)), (zq_vi (x2)), (zq_vi (x3)), (zq_vi (x2 + 1)), (zq_vi (0)), (zq_vi (x2 + 1))]) (st' := []) (fun _ _ _ => rfl) ?_
      exact w
    · rw [if_neg hb_10] at w
      refine zq_run 2 (pc' := 31) (L' := [(.ref (232)), (zq_vi (x1)), (zq_vi (x2)), (zq_vi (x3)), (zq_vi (x2 + 1)), zz_no, zz_no]) (st' := [(zq_vi (x2 + 1)), (zq_vi (x3))]) (fun _ _ _ => rfl) ?_
      refine zq_isub rfl ?_
      refine zq_run 1 (pc' := 34) (L' := [(.ref (232)), (zq_vi (x1)), (zq_vi (x2)), (zq_vi (x3)), (zq_vi (x2 + 1)), zz_no, zz_no]) (st' := [(zq_vi (6)), (zq_vi (x3 - (x2 + 1)))]) (fun _ _ _ => rfl) ?_
      obtain ⟨g_11, w⟩ := w
      refine zq_gt rfl g_11 (of_decide_eq_true rfl) (fun hb_12 => ?_) (fun hb_12 => ?_)
      · rw [if_neg hb_12] at w
        refine zq_run 4 (pc' := 48) (L' := [(.ref (232)), (zq_vi (x1)), (zq_vi (x2)), (zq_vi (x3)), (zq_vi (x2 + 1)), (zq_vi (0)), (zq_vi (x2 + 1))]) (st' := []) (fun _ _ _ => rfl) ?_
        exact w
      · rw [if_pos hb_12] at w
        refine zq_run 5 (pc' := 48) (L' := [(.ref (232)), (zq_vi (x1)), (zq_vi (x2)), (zq_vi (x3)), (zq_vi (x2 + 1)), (zq_vi (1)), (zq_vi (x2 + 1))]) (st' := []) (fun _ _ _ => rfl) ?_
        exact w
/-- PaperObjectsModel.isNumber at 48 -/
theorem zw_165_48 {X : Nat × (Nat → Int32)} {s : zq_S} {K : Int → zq_S → Prop} {x1 : Int} (hx1 : zq_iv x1) {x2 : Int} (hx2 : zq_iv x2) {x3 : Int} (hx3 : zq_iv x3) {x4 : Int} (hx4 : zq_iv x4) {x5 : Int} (hx5 : zq_bo x5) {x6 : Int} (hx6 : zq_iv x6) (w : (if x6 < x3 then (if x5 = 0 then zq_Ex X 165 48 [(.ref (232)), (zq_vi (x1)), (zq_vi (x2)), (zq_vi (x3)), (zq_vi (x4)), (zq_vi (0)), (zq_vi (x6 + 1))] [] s (zq_rp zq_bo K) else (zq_Ex X 147 0 [(.ref (232)), (zq_vi (x1)), (zq_vi (x6))] [] s (zq_rp zq_ch fun x_4 s_3 => (zq_Ex X 155 0 [(zq_vi (x_4))] [] s_3 (zq_rp zq_bo fun x_7 s_6 => (if x_7 = 0 then zq_Ex X 165 48 [(.ref (232)), (zq_vi (x1)), (zq_vi (x2)), (zq_vi (x3)), (zq_vi (x4)), (zq_vi (0)), (zq_vi (x6 + 1))] [] s_6 (zq_rp zq_bo K) else zq_Ex X 165 48 [(.ref (232)), (zq_vi (x1)), (zq_vi (x2)), (zq_vi (x3)), (zq_vi (x4)), (zq_vi (1)), (zq_vi (x6 + 1))] [] s_6 (zq_rp zq_bo K))))))) else K (x5) s)) : zq_Ex X 165 48 [(.ref (232)), (zq_vi (x1)), (zq_vi (x2)), (zq_vi (x3)), (zq_vi (x4)), (zq_vi (x5)), (zq_vi (x6))] [] s (zq_rp zq_bo K) := by
  refine zq_run 2 (pc' := 51) (L' := [(.ref (232)), (zq_vi (x1)), (zq_vi (x2)), (zq_vi (x3)), (zq_vi (x4)), (zq_vi (x5)), (zq_vi (x6))]) (st' := [(zq_vi (x3)), (zq_vi (x6))]) (fun _ _ _ => rfl) ?_
  refine zq_ge rfl hx6 hx3 (fun hb_1 => ?_) (fun hb_1 => ?_)
  · rw [if_neg hb_1] at w
    refine zq_run 1 (pc' := 87) (L' := [(.ref (232)), (zq_vi (x1)), (zq_vi (x2)), (zq_vi (x3)), (zq_vi (x4)), (zq_vi (x5)), (zq_vi (x6))]) (st' := [(zq_vi (x5))]) (fun _ _ _ => rfl) ?_
    exact zq_iret rfl rfl (congrArg Value.int (zq_nb hx5)) (⟨_, rfl, hx5, w⟩)
  · rw [if_pos hb_1] at w
    refine zq_run 1 (pc' := 56) (L' := [(.ref (232)), (zq_vi (x1)), (zq_vi (x2)), (zq_vi (x3)), (zq_vi (x4)), (zq_vi (x5)), (zq_vi (x6))]) (st' := [(zq_vi (x5))]) (fun _ _ _ => rfl) ?_
    refine zq_eq0 rfl (zq_bo_in hx5) (fun hb_2 => ?_) (fun hb_2 => ?_)
    · rw [if_pos hb_2] at w
      refine zq_run 2 (pc' := 79) (L' := [(.ref (232)), (zq_vi (x1)), (zq_vi (x2)), (zq_vi (x3)), (zq_vi (x4)), (zq_vi (0)), (zq_vi (x6))]) (st' := []) (fun _ _ _ => rfl) ?_
      refine zq_iinc (L' := [(.ref (232)), (zq_vi (x1)), (zq_vi (x2)), (zq_vi (x3)), (zq_vi (x4)), (zq_vi (0)), (zq_vi (x6 + 1))]) rfl rfl rfl ?_
      refine zq_run 1 (pc' := 48) (L' := [(.ref (232)), (zq_vi (x1)), (zq_vi (x2)), (zq_vi (x3)), (zq_vi (x4)), (zq_vi (0)), (zq_vi (x6 + 1))]) (st' := []) (fun _ _ _ => rfl) ?_
      exact w
    · rw [if_neg hb_2] at w
      refine zq_run 3 (pc' := 63) (L' := [(.ref (232)), (zq_vi (x1)), (zq_vi (x2)), (zq_vi (x3)), (zq_vi (x4)), (zq_vi (x5)), (zq_vi (x6))]) (st' := [(zq_vi (x6)), (zq_vi (x1)), (.ref (232))]) (fun _ _ _ => rfl) ?_
      refine zq_call_i (i := .invokevirtual 119) (r := [1, 147, 2, 1, 9]) rfl rfl (fun h hp => zr_avv rfl (hp.obj zq_a232)) (of_decide_eq_false rfl) w (fun x_4 s_3 hx_5 w => ?_)
      refine zq_call_i (i := .invokestatic 103) (r := [1, 155, 1, 0, 9]) rfl rfl (fun _ _ => rfl) (of_decide_eq_false rfl) w (fun x_7 s_6 hx_8 w => ?_)
      refine zq_eq0 rfl (zq_bo_in hx_8) (fun hb_9 => ?_) (fun hb_9 => ?_)
      · rw [if_pos hb_9] at w
        refine zq_run 2 (pc' := 79) (L' := [(.ref (232)), (zq_vi (x1)), (zq_vi (x2)), (zq_vi (x3)), (zq_vi (x4)), (zq_vi (0)), (zq_vi (x6))]) (st' := []) (fun _ _ _ => rfl) ?_
        refine zq_iinc (L' := [(.ref (232)), (zq_vi (x1)), (zq_vi (x2)), (zq_vi (x3)), (zq_vi (x4)), (zq_vi (0)), (zq_vi (x6 + 1))]) rfl rfl rfl ?_
        refine zq_run 1 (pc' := 48) (L' := [(.ref (232)), (zq_vi (x1)), (zq_vi (x2)), (zq_vi (x3)), (zq_vi (x4)), (zq_vi (0)), (zq_vi (x6 + 1))]) (st' := []) (fun _ _ _ => rfl) ?_
        exact w
      · rw [if_neg hb_9] at w
        refine zq_run 3 (pc' := 79) (L' := [(.ref (232)), (zq_vi (x1)), (zq_vi (x2)), (zq_vi (x3)), (zq_vi (x4)), (zq_vi (1)), (zq_vi (x6))]) (st' := []) (fun _ _ _ => rfl) ?_
        refine zq_iinc (L' := [(.ref (232)), (zq_vi (x1)), (zq_vi (x2)), (zq_vi (x3)), (zq_vi (x4)), (zq_vi (1)), (zq_vi (x6 + 1))]) rfl rfl rfl ?_
        refine zq_run 1 (pc' := 48) (L' := [(.ref (232)), (zq_vi (x1)), (zq_vi (x2)), (zq_vi (x3)), (zq_vi (x4)), (zq_vi (1)), (zq_vi (x6 + 1))]) (st' := []) (fun _ _ _ => rfl) ?_
        exact w
/-- PaperObjectsModel.takePlain(III)V -/
theorem zw_166 {X : Nat × (Nat → Int32)} {s : zq_S} {K : zq_S → Prop} {x1 : Int} (hx1 : zq_iv x1) {x2 : Int} (hx2 : zq_iv x2) {x3 : Int} (hx3 : zq_iv x3) (w : (if x3 = 8 then (zq_Ex X 162 0 [(.ref (232)), (zq_vi (x1)), (zq_vi (x2)), zz_no, zz_no] [] s (zq_rp zq_iv fun x_83 s_82 => (if x3 = 8 then (zq_Ex X 146 0 [(.ref (232)), (zq_vi (x1)), (zq_vi (x2 + 1)), zz_no] [] s_82 (zq_rp zq_iv fun x_95 s_94 => (zq_Ex X 147 0 [(.ref (232)), (zq_vi (x1)), (zq_vi (x2))] [] s_94 (zq_rp zq_ch fun x_98 s_97 => (zq_Ex X 150 0 [(.ref (232)), (zq_vi (x_98))] [] s_97 (zq_rv fun s_100 => (zq_Ex X 150 0 [(.ref (232)), (zq_vi (32))] [] s_100 (zq_rv fun s_101 => (zq_Ex X 147 0 [(.ref (232)), (zq_vi (x1)), (zq_vi (x_95))] [] s_101 (zq_rp zq_ch fun x_103 s_102 => (zq_Ex X 150 0 [(.ref (232)), (zq_vi (x_103))] [] s_102 (zq_rv fun s_105 => (zq_Ex X 150 0 [(.ref (232)), (zq_vi (32))] [] s_105 (zq_rv fun s_106 => (zq_Ex X 150 0 [(.ref (232)), (zq_vi (82))] [] s_106 (zq_rv fun s_107 => K (zq_si s_107 (232) (25) (x_83)))))))))))))))))) else (if x3 = 3 then (zq_Ex X 167 0 [(.ref (232)), (zq_vi (x1)), (zq_vi (x2)), (zq_vi (x_83)), zz_no, zz_no, zz_no] [] s_82 (zq_rp zq_iv fun x_91 s_90 => (zq_Ex X 168 0 [(.ref (232)), (zq_vi (x_91)), zz_no, zz_no, zz_no] [] s_90 (zq_rv fun s_93 => K (zq_si s_93 (232) (25) (x_83)))))) else (if x3 = 5 then (zq_Ex X 169 0 [(.ref (232)), (zq_vi (x1)), (zq_vi (x2)), (zq_vi (x_83)), zz_no, zz_no] [] s_82 (zq_rv fun s_89 => K (zq_si s_89 (232) (25) (x_83)))) else (zq_Ex X 157 0 [(.ref (232)), (zq_vi (x1)), (zq_vi (x2)), (zq_vi (x_83)), zz_no] [] s_82 (zq_rv fun s_88 => K (zq_si s_88 (232) (25) (x_83))))))))) else (if x3 = 4 then (zq_Ex X 153 0 [(.ref (232)), (zq_vi (x1)), (zq_vi (x2)), zz_no] [] s (zq_rp zq_iv fun x_57 s_56 => (if x3 = 8 then (zq_Ex X 146 0 [(.ref (232)), (zq_vi (x1)), (zq_vi (x2 + 1)), zz_no] [] s_56 (zq_rp zq_iv fun x_69 s_68 => (zq_Ex X 147 0 [(.ref (232)), (zq_vi (x1)), (zq_vi (x2))] [] s_68 (zq_rp zq_ch fun x_72 s_71 => (zq_Ex X 150 0 [(.ref (232)), (zq_vi (x_72))] [] s_71 (zq_rv fun s_74 => (zq_Ex X 150 0 [(.ref (232)), (zq_vi (32))] [] s_74 (zq_rv fun s_75 => (zq_Ex X 147 0 [(.ref (232)), (zq_vi (x1)), (zq_vi (x_69))] [] s_75 (zq_rp zq_ch fun x_77 s_76 => (zq_Ex X 150 0 [(.ref (232)), (zq_vi (x_77))] [] s_76 (zq_rv fun s_79 => (zq_Ex X 150 0 [(.ref (232)), (zq_vi (32))] [] s_79 (zq_rv fun s_80 => (zq_Ex X 150 0 [(.ref (232)), (zq_vi (82))] [] s_80 (zq_rv fun s_81 => K (zq_si s_81 (232) (25) (x_57)))))))))))))))))) else (if x3 = 3 then (zq_Ex X 167 0 [(.ref (232)), (zq_vi (x1)), (zq_vi (x2)), (zq_vi (x_57)), zz_no, zz_no, zz_no] [] s_56 (zq_rp zq_iv fun x_65 s_64 => (zq_Ex X 168 0 [(.ref (232)), (zq_vi (x_65)), zz_no, zz_no, zz_no] [] s_64 (zq_rv fun s_67 => K (zq_si s_67 (232) (25) (x_57)))))) else (if x3 = 5 then (zq_Ex X 169 0 [(.ref (232)), (zq_vi (x1)), (zq_vi (x2)), (zq_vi (x_57)), zz_no, zz_no] [] s_56 (zq_rv fun s_63 => K (zq_si s_63 (232) (25) (x_57)))) else (zq_Ex X 157 0 [(.ref (232)), (zq_vi (x1)), (zq_vi (x2)), (zq_vi (x_57)), zz_no] [] s_56 (zq_rv fun s_62 => K (zq_si s_62 (232) (25) (x_57))))))))) else (if x3 = 5 then (zq_Ex X 160 0 [(.ref (232)), (zq_vi (x1)), (zq_vi (x2)), zz_no, zz_no, zz_no, zz_no] [] s (zq_rp zq_iv fun x_31 s_30 => (if x3 = 8 then (zq_Ex X 146 0 [(.ref (232)), (zq_vi (x1)), (zq_vi (x2 + 1)), zz_no] [] s_30 (zq_rp zq_iv fun x_43 s_42 => (zq_Ex X 147 0 [(.ref (232)), (zq_vi (x1)), (zq_vi (x2))] [] s_42 (zq_rp zq_ch fun x_46 s_45 => (zq_Ex X 150 0 [(.ref (232)), (zq_vi (x_46))] [] s_45 (zq_rv fun s_48 => (zq_Ex X 150 0 [(.ref (232)), (zq_vi (32))] [] s_48 (zq_rv fun s_49 => (zq_Ex X 147 0 [(.ref (232)), (zq_vi (x1)), (zq_vi (x_43))] [] s_49 (zq_rp zq_ch fun x_51 s_50 => (zq_Ex X 150 0 [(.ref (232)), (zq_vi (x_51))] [] s_50 (zq_rv fun s_53 => (zq_Ex X 150 0 [(.ref (232)), (zq_vi (32))] [] s_53 (zq_rv fun s_54 => (zq_Ex X 150 0 [(.ref (232)), (zq_vi (82))] [] s_54 (zq_rv fun s_55 => K (zq_si s_55 (232) (25) (x_31)))))))))))))))))) else (if x3 = 3 then (zq_Ex X 167 0 [(.ref (232)), (zq_vi (x1)), (zq_vi (x2)), (zq_vi (x_31)), zz_no, zz_no, zz_no] [] s_30 (zq_rp zq_iv fun x_39 s_38 => (zq_Ex X 168 0 [(.ref (232)), (zq_vi (x_39)), zz_no, zz_no, zz_no] [] s_38 (zq_rv fun s_41 => K (zq_si s_41 (232) (25) (x_31)))))) else (if x3 = 5 then (zq_Ex X 169 0 [(.ref (232)), (zq_vi (x1)), (zq_vi (x2)), (zq_vi (x_31)), zz_no, zz_no] [] s_30 (zq_rv fun s_37 => K (zq_si s_37 (232) (25) (x_31)))) else (zq_Ex X 157 0 [(.ref (232)), (zq_vi (x1)), (zq_vi (x2)), (zq_vi (x_31)), zz_no] [] s_30 (zq_rv fun s_36 => K (zq_si s_36 (232) (25) (x_31))))))))) else (zq_Ex X 161 0 [(.ref (232)), (zq_vi (x1)), (zq_vi (x2)), zz_no] [] s (zq_rp zq_iv fun x_5 s_4 => (if x3 = 8 then (zq_Ex X 146 0 [(.ref (232)), (zq_vi (x1)), (zq_vi (x2 + 1)), zz_no] [] s_4 (zq_rp zq_iv fun x_17 s_16 => (zq_Ex X 147 0 [(.ref (232)), (zq_vi (x1)), (zq_vi (x2))] [] s_16 (zq_rp zq_ch fun x_20 s_19 => (zq_Ex X 150 0 [(.ref (232)), (zq_vi (x_20))] [] s_19 (zq_rv fun s_22 => (zq_Ex X 150 0 [(.ref (232)), (zq_vi (32))] [] s_22 (zq_rv fun s_23 => (zq_Ex X 147 0 [(.ref (232)), (zq_vi (x1)), (zq_vi (x_17))] [] s_23 (zq_rp zq_ch fun x_25 s_24 => (zq_Ex X 150 0 [(.ref (232)), (zq_vi (x_25))] [] s_24 (zq_rv fun s_27 => (zq_Ex X 150 0 [(.ref (232)), (zq_vi (32))] [] s_27 (zq_rv fun s_28 => (zq_Ex X 150 0 [(.ref (232)), (zq_vi (82))] [] s_28 (zq_rv fun s_29 => K (zq_si s_29 (232) (25) (x_5)))))))))))))))))) else (if x3 = 3 then (zq_Ex X 167 0 [(.ref (232)), (zq_vi (x1)), (zq_vi (x2)), (zq_vi (x_5)), zz_no, zz_no, zz_no] [] s_4 (zq_rp zq_iv fun x_13 s_12 => (zq_Ex X 168 0 [(.ref (232)), (zq_vi (x_13)), zz_no, zz_no, zz_no] [] s_12 (zq_rv fun s_15 => K (zq_si s_15 (232) (25) (x_5)))))) else (if x3 = 5 then (zq_Ex X 169 0 [(.ref (232)), (zq_vi (x1)), (zq_vi (x2)), (zq_vi (x_5)), zz_no, zz_no] [] s_4 (zq_rv fun s_11 => K (zq_si s_11 (232) (25) (x_5)))) else (zq_Ex X 157 0 [(.ref (232)), (zq_vi (x1)), (zq_vi (x2)), (zq_vi (x_5)), zz_no] [] s_4 (zq_rv fun s_10 => K (zq_si s_10 (232) (25) (x_5))))))))))))) : zq_Ex X 166 0 [(.ref (232)), (zq_vi (x1)), (zq_vi (x2)), (zq_vi (x3)), zz_no, zz_no] [] s (zq_rv K) := by
  refine zq_run 2 (pc' := 3) (L' := [(.ref (232)), (zq_vi (x1)), (zq_vi (x2)), (zq_vi (x3)), zz_no, zz_no]) (st' := [(zq_vi (8)), (zq_vi (x3))]) (fun _ _ _ => rfl) ?_
  refine zq_ne rfl hx3 (of_decide_eq_true rfl) (fun hb_1 => ?_) (fun hb_1 => ?_)
  · rw [if_neg hb_1] at w
    refine zq_run 2 (pc' := 17) (L' := [(.ref (232)), (zq_vi (x1)), (zq_vi (x2)), (zq_vi (x3)), zz_no, zz_no]) (st' := [(zq_vi (4)), (zq_vi (x3))]) (fun _ _ _ => rfl) ?_
    refine zq_ne rfl hx3 (of_decide_eq_true rfl) (fun hb_2 => ?_) (fun hb_2 => ?_)
    · rw [if_neg hb_2] at w
      refine zq_run 2 (pc' := 31) (L' := [(.ref (232)), (zq_vi (x1)), (zq_vi (x2)), (zq_vi (x3)), zz_no, zz_no]) (st' := [(zq_vi (5)), (zq_vi (x3))]) (fun _ _ _ => rfl) ?_
      refine zq_ne rfl hx3 (of_decide_eq_true rfl) (fun hb_3 => ?_) (fun hb_3 => ?_)
      · rw [if_neg hb_3] at w
        refine zq_run 3 (pc' := 46) (L' := [(.ref (232)), (zq_vi (x1)), (zq_vi (x2)), (zq_vi (x3)), zz_no, zz_no]) (st' := [(zq_vi (x2)), (zq_vi (x1)), (.ref (232))]) (fun _ _ _ => rfl) ?_
        refine zq_call_i (i := .invokevirtual 134) (r := [1, 161, 2, 1, 9]) rfl rfl (fun h hp => zr_avv rfl (hp.obj zq_a232)) (of_decide_eq_false rfl) w (fun x_5 s_4 hx_6 w => ?_)
        refine zq_run 3 (pc' := 54) (L' := [(.ref (232)), (zq_vi (x1)), (zq_vi (x2)), (zq_vi (x3)), (zq_vi (x_5)), zz_no]) (st' := [(zq_vi (8)), (zq_vi (x3))]) (fun _ _ _ => rfl) ?_
        refine zq_ne rfl hx3 (of_decide_eq_true rfl) (fun hb_7 => ?_) (fun hb_7 => ?_)
        · rw [if_neg hb_7] at w
          refine zq_run 2 (pc' := 111) (L' := [(.ref (232)), (zq_vi (x1)), (zq_vi (x2)), (zq_vi (x3)), (zq_vi (x_5)), zz_no]) (st' := [(zq_vi (3)), (zq_vi (x3))]) (fun _ _ _ => rfl) ?_
          refine zq_ne rfl hx3 (of_decide_eq_true rfl) (fun hb_8 => ?_) (fun hb_8 => ?_)
          · rw [if_neg hb_8] at w
            refine zq_run 2 (pc' := 135) (L' := [(.ref (232)), (zq_vi (x1)), (zq_vi (x2)), (zq_vi (x3)), (zq_vi (x_5)), zz_no]) (st' := [(zq_vi (5)), (zq_vi (x3))]) (fun _ _ _ => rfl) ?_
            refine zq_ne rfl hx3 (of_decide_eq_true rfl) (fun hb_9 => ?_) (fun hb_9 => ?_)
            · rw [if_neg hb_9] at w
              refine zq_run 4 (pc' := 154) (L' := [(.ref (232)), (zq_vi (x1)), (zq_vi (x2)), (zq_vi (x3)), (zq_vi (x_5)), zz_no]) (st' := [(zq_vi (x_5)), (zq_vi (x2)), (zq_vi (x1)), (.ref (232))]) (fun _ _ _ => rfl) ?_
              refine zq_call_v (i := .invokevirtual 174) (r := [1, 157, 3, 1, 9]) rfl rfl (fun h hp => zr_avv rfl (hp.obj zq_a232)) (of_decide_eq_false rfl) w (fun s_10 w => ?_)
              refine zq_run 2 (pc' := 160) (L' := [(.ref (232)), (zq_vi (x1)), (zq_vi (x2)), (zq_vi (x3)), (zq_vi (x_5)), zz_no]) (st' := [(zq_vi (x_5)), (.ref (232))]) (fun _ _ _ => rfl) ?_
              refine zq_putf_i (j := 25) rfl zq_a232 rfl rfl rfl hx_6 ?_
              exact zq_vret rfl rfl (⟨rfl, w⟩)
            · rw [if_pos hb_9] at w
              refine zq_run 4 (pc' := 143) (L' := [(.ref (232)), (zq_vi (x1)), (zq_vi (x2)), (zq_vi (x3)), (zq_vi (x_5)), zz_no]) (st' := [(zq_vi (x_5)), (zq_vi (x2)), (zq_vi (x1)), (.ref (232))]) (fun _ _ _ => rfl) ?_
              refine zq_call_v (i := .invokevirtual 170) (r := [1, 169, 3, 1, 9]) rfl rfl (fun h hp => zr_avv rfl (hp.obj zq_a232)) (of_decide_eq_false rfl) w (fun s_11 w => ?_)
              refine zq_run 3 (pc' := 160) (L' := [(.ref (232)), (zq_vi (x1)), (zq_vi (x2)), (zq_vi (x3)), (zq_vi (x_5)), zz_no]) (st' := [(zq_vi (x_5)), (.ref (232))]) (fun _ _ _ => rfl) ?_
              refine zq_putf_i (j := 25) rfl zq_a232 rfl rfl rfl hx_6 ?_
              exact zq_vret rfl rfl (⟨rfl, w⟩)
          · rw [if_pos hb_8] at w
            refine zq_run 4 (pc' := 119) (L' := [(.ref (232)), (zq_vi (x1)), (zq_vi (x2)), (zq_vi (x3)), (zq_vi (x_5)), zz_no]) (st' := [(zq_vi (x_5)), (zq_vi (x2)), (zq_vi (x1)), (.ref (232))]) (fun _ _ _ => rfl) ?_
            refine zq_call_i (i := .invokevirtual 162) (r := [1, 167, 3, 1, 9]) rfl rfl (fun h hp => zr_avv rfl (hp.obj zq_a232)) (of_decide_eq_false rfl) w (fun x_13 s_12 hx_14 w => ?_)
            refine zq_run 3 (pc' := 127) (L' := [(.ref (232)), (zq_vi (x1)), (zq_vi (x2)), (zq_vi (x3)), (zq_vi (x_5)), (zq_vi (x_13))]) (st' := [(zq_vi (x_13)), (.ref (232))]) (fun _ _ _ => rfl) ?_
            refine zq_call_v (i := .invokevirtual 166) (r := [1, 168, 1, 1, 9]) rfl rfl (fun h hp => zr_avv rfl (hp.obj zq_a232)) (of_decide_eq_false rfl) w (fun s_15 w => ?_)
            refine zq_run 3 (pc' := 160) (L' := [(.ref (232)), (zq_vi (x1)), (zq_vi (x2)), (zq_vi (x3)), (zq_vi (x_5)), (zq_vi (x_13))]) (st' := [(zq_vi (x_5)), (.ref (232))]) (fun _ _ _ => rfl) ?_
            refine zq_putf_i (j := 25) rfl zq_a232 rfl rfl rfl hx_6 ?_
            exact zq_vret rfl rfl (⟨rfl, w⟩)
        · rw [if_pos hb_7] at w
          refine zq_run 4 (pc' := 61) (L' := [(.ref (232)), (zq_vi (x1)), (zq_vi (x2)), (zq_vi (x3)), (zq_vi (x_5)), zz_no]) (st' := [(zq_vi (1)), (zq_vi (x2)), (zq_vi (x1)), (.ref (232))]) (fun _ _ _ => rfl) ?_
          refine zq_iadd rfl ?_
          refine zq_call_i (i := .invokevirtual 141) (r := [1, 146, 2, 1, 9]) rfl rfl (fun h hp => zr_avv rfl (hp.obj zq_a232)) (of_decide_eq_false rfl) w (fun x_17 s_16 hx_18 w => ?_)
          refine zq_run 5 (pc' := 71) (L' := [(.ref (232)), (zq_vi (x1)), (zq_vi (x2)), (zq_vi (x3)), (zq_vi (x_5)), (zq_vi (x_17))]) (st' := [(zq_vi (x2)), (zq_vi (x1)), (.ref (232)), (.ref (232))]) (fun _ _ _ => rfl) ?_
          refine zq_call_i (i := .invokevirtual 119) (r := [1, 147, 2, 1, 9]) rfl rfl (fun h hp => zr_avv rfl (hp.obj zq_a232)) (of_decide_eq_false rfl) w (fun x_20 s_19 hx_21 w => ?_)
          refine zq_call_v (i := .invokevirtual 123) (r := [1, 150, 1, 1, 9]) rfl rfl (fun h hp => zr_avv rfl (hp.obj zq_a232)) (of_decide_eq_false rfl) w (fun s_22 w => ?_)
          refine zq_run 2 (pc' := 80) (L' := [(.ref (232)), (zq_vi (x1)), (zq_vi (x2)), (zq_vi (x3)), (zq_vi (x_5)), (zq_vi (x_17))]) (st' := [(zq_vi (32)), (.ref (232))]) (fun _ _ _ => rfl) ?_
          refine zq_call_v (i := .invokevirtual 123) (r := [1, 150, 1, 1, 9]) rfl rfl (fun h hp => zr_avv rfl (hp.obj zq_a232)) (of_decide_eq_false rfl) w (fun s_23 w => ?_)
          refine zq_run 4 (pc' := 88) (L' := [(.ref (232)), (zq_vi (x1)), (zq_vi (x2)), (zq_vi (x3)), (zq_vi (x_5)), (zq_vi (x_17))]) (st' := [(zq_vi (x_17)), (zq_vi (x1)), (.ref (232)), (.ref (232))]) (fun _ _ _ => rfl) ?_
          refine zq_call_i (i := .invokevirtual 119) (r := [1, 147, 2, 1, 9]) rfl rfl (fun h hp => zr_avv rfl (hp.obj zq_a232)) (of_decide_eq_false rfl) w (fun x_25 s_24 hx_26 w => ?_)
          refine zq_call_v (i := .invokevirtual 123) (r := [1, 150, 1, 1, 9]) rfl rfl (fun h hp => zr_avv rfl (hp.obj zq_a232)) (of_decide_eq_false rfl) w (fun s_27 w => ?_)
          refine zq_run 2 (pc' := 97) (L' := [(.ref (232)), (zq_vi (x1)), (zq_vi (x2)), (zq_vi (x3)), (zq_vi (x_5)), (zq_vi (x_17))]) (st' := [(zq_vi (32)), (.ref (232))]) (fun _ _ _ => rfl) ?_
          refine zq_call_v (i := .invokevirtual 123) (r := [1, 150, 1, 1, 9]) rfl rfl (fun h hp => zr_avv rfl (hp.obj zq_a232)) (of_decide_eq_false rfl) w (fun s_28 w => ?_)
          refine zq_run 2 (pc' := 103) (L' := [(.ref (232)), (zq_vi (x1)), (zq_vi (x2)), (zq_vi (x3)), (zq_vi (x_5)), (zq_vi (x_17))]) (st' := [(zq_vi (82)), (.ref (232))]) (fun _ _ _ => rfl) ?_
          refine zq_call_v (i := .invokevirtual 123) (r := [1, 150, 1, 1, 9]) rfl rfl (fun h hp => zr_avv rfl (hp.obj zq_a232)) (of_decide_eq_false rfl) w (fun s_29 w => ?_)
          refine zq_run 3 (pc' := 160) (L' := [(.ref (232)), (zq_vi (x1)), (zq_vi (x2)), (zq_vi (x3)), (zq_vi (x_5)), (zq_vi (x_17))]) (st' := [(zq_vi (x_5)), (.ref (232))]) (fun _ _ _ => rfl) ?_
          refine zq_putf_i (j := 25) rfl zq_a232 rfl rfl rfl hx_6 ?_
          exact zq_vret rfl rfl (⟨rfl, w⟩)
      · rw [if_pos hb_3] at w
        refine zq_run 3 (pc' := 37) (L' := [(.ref (232)), (zq_vi (x1)), (zq_vi (x2)), (zq_vi (x3)), zz_no, zz_no]) (st' := [(zq_vi (x2)), (zq_vi (x1)), (.ref (232))]) (fun _ _ _ => rfl) ?_
        refine zq_call_i (i := .invokevirtual 148) (r := [1, 160, 2, 1, 9]) rfl rfl (fun h hp => zr_avv rfl (hp.obj zq_a232)) (of_decide_eq_false rfl) w (fun x_31 s_30 hx_32 w => ?_)
        refine zq_run 4 (pc' := 54) (L' := [(.ref (232)), (zq_vi (x1)), (zq_vi (x2)), (zq_vi (x3)), (zq_vi (x_31)), zz_no]) (st' := [(zq_vi (8)), (zq_vi (x3))]) (fun _ _ _ => rfl) ?_
        refine zq_ne rfl hx3 (of_decide_eq_true rfl) (fun hb_33 => ?_) (fun hb_33 => ?_)
        · rw [if_neg hb_33] at w
          refine zq_run 2 (pc' := 111) (L' := [(.ref (232)), (zq_vi (x1)), (zq_vi (x2)), (zq_vi (x3)), (zq_vi (x_31)), zz_no]) (st' := [(zq_vi (3)), (zq_vi (x3))]) (fun _ _ _ => rfl) ?_
          refine zq_ne rfl hx3 (of_decide_eq_true rfl) (fun hb_34 => ?_) (fun hb_34 => ?_)
          · rw [if_neg hb_34] at w
            refine zq_run 2 (pc' := 135) (L' := [(.ref (232)), (zq_vi (x1)), (zq_vi (x2)), (zq_vi (x3)), (zq_vi (x_31)), zz_no]) (st' := [(zq_vi (5)), (zq_vi (x3))]) (fun _ _ _ => rfl) ?_
            refine zq_ne rfl hx3 (of_decide_eq_true rfl) (fun hb_35 => ?_) (fun hb_35 => ?_)
            · rw [if_neg hb_35] at w
              refine zq_run 4 (pc' := 154) (L' := [(.ref (232)), (zq_vi (x1)), (zq_vi (x2)), (zq_vi (x3)), (zq_vi (x_31)), zz_no]) (st' := [(zq_vi (x_31)), (zq_vi (x2)), (zq_vi (x1)), (.ref (232))]) (fun _ _ _ => rfl) ?_
              refine zq_call_v (i := .invokevirtual 174) (r := [1, 157, 3, 1, 9]) rfl rfl (fun h hp => zr_avv rfl (hp.obj zq_a232)) (of_decide_eq_false rfl) w (fun s_36 w => ?_)
              refine zq_run 2 (pc' := 160) (L' := [(.ref (232)), (zq_vi (x1)), (zq_vi (x2)), (zq_vi (x3)), (zq_vi (x_31)), zz_no]) (st' := [(zq_vi (x_31)), (.ref (232))]) (fun _ _ _ => rfl) ?_
              refine zq_putf_i (j := 25) rfl zq_a232 rfl rfl rfl hx_32 ?_
              exact zq_vret rfl rfl (⟨rfl, w⟩)
            · rw [if_pos hb_35] at w
              refine zq_run 4 (pc' := 143) (L' := [(.ref (232)), (zq_vi (x1)), (zq_vi (x2)), (zq_vi (x3)), (zq_vi (x_31)), zz_no]) (st' := [(zq_vi (x_31)), (zq_vi (x2)), (zq_vi (x1)), (.ref (232))]) (fun _ _ _ => rfl) ?_
              refine zq_call_v (i := .invokevirtual 170) (r := [1, 169, 3, 1, 9]) rfl rfl (fun h hp => zr_avv rfl (hp.obj zq_a232)) (of_decide_eq_false rfl) w (fun s_37 w => ?_)
              refine zq_run 3 (pc' := 160) (L' := [(.ref (232)), (zq_vi (x1)), (zq_vi (x2)), (zq_vi (x3)), (zq_vi (x_31)), zz_no]) (st' := [(zq_vi (x_31)), (.ref (232))]) (fun _ _ _ => rfl) ?_
              refine zq_putf_i (j := 25) rfl zq_a232 rfl rfl rfl hx_32 ?_
              exact zq_vret rfl rfl (⟨rfl, w⟩)
          · rw [if_pos hb_34] at w
            refine zq_run 4 (pc' := 119) (L' := [(.ref (232)), (zq_vi (x1)), (zq_vi (x2)), (zq_vi (x3)), (zq_vi (x_31)), zz_no]) (st' := [(zq_vi (x_31)), (zq_vi (x2)), (zq_vi (x1)), (.ref (232))]) (fun _ _ _ => rfl) ?_
            refine zq_call_i (i := .invokevirtual 162) (r := [1, 167, 3, 1, 9]) rfl rfl (fun h hp => zr_avv rfl (hp.obj zq_a232)) (of_decide_eq_false rfl) w (fun x_39 s_38 hx_40 w => ?_)
            refine zq_run 3 (pc' := 127) (L' := [(.ref (232)), (zq_vi (x1)), (zq_vi (x2)), (zq_vi (x3)), (zq_vi (x_31)), (zq_vi (x_39))]) (st' := [(zq_vi (x_39)), (.ref (232))]) (fun _ _ _ => rfl) ?_
            refine zq_call_v (i := .invokevirtual 166) (r := [1, 168, 1, 1, 9]) rfl rfl (fun h hp => zr_avv rfl (hp.obj zq_a232)) (of_decide_eq_false rfl) w (fun s_41 w => ?_)
            refine zq_run 3 (pc' := 160) (L' := [(.ref (232)), (zq_vi (x1)), (zq_vi (x2)), (zq_vi (x3)), (zq_vi (x_31)), (zq_vi (x_39))]) (st' := [(zq_vi (x_31)), (.ref (232))]) (fun _ _ _ => rfl) ?_
            refine zq_putf_i (j := 25) rfl zq_a232 rfl rfl rfl hx_32 ?_
            exact zq_vret rfl rfl (⟨rfl, w⟩)
        · rw [if_pos hb_33] at w
          refine zq_run 4 (pc' := 61) (L' := [(.ref (232)), (zq_vi (x1)), (zq_vi (x2)), (zq_vi (x3)), (zq_vi (x_31)), zz_no]) (st' := [(zq_vi (1)), (zq_vi (x2)), (zq_vi (x1)), (.ref (232))]) (fun _ _ _ => rfl) ?_
          refine zq_iadd rfl ?_
          refine zq_call_i (i := .invokevirtual 141) (r := [1, 146, 2, 1, 9]) rfl rfl (fun h hp => zr_avv rfl (hp.obj zq_a232)) (of_decide_eq_false rfl) w (fun x_43 s_42 hx_44 w => ?_)
          refine zq_run 5 (pc' := 71) (L' := [(.ref (232)), (zq_vi (x1)), (zq_vi (x2)), (zq_vi (x3)), (zq_vi (x_31)), (zq_vi (x_43))]) (st' := [(zq_vi (x2)), (zq_vi (x1)), (.ref (232)), (.ref (232))]) (fun _ _ _ => rfl) ?_
          refine zq_call_i (i := .invokevirtual 119) (r := [1, 147, 2, 1, 9]) rfl rfl (fun h hp => zr_avv rfl (hp.obj zq_a232)) (of_decide_eq_false rfl) w (fun x_46 s_45 hx_47 w => ?_)
          refine zq_call_v (i := .invokevirtual 123) (r := [1, 150, 1, 1, 9]) rfl rfl (fun h hp => zr_avv rfl (hp.obj zq_a232)) (of_decide_eq_false rfl) w (fun s_48 w => ?_)
          refine zq_run 2 (pc' := 80) (L' := [(.ref (232)), (zq_vi (x1)), (zq_vi (x2)), (zq_vi (x3)), (zq_vi (x_31)), (zq_vi (x_43))]) (st' := [(zq_vi (32)), (.ref (232))]) (fun _ _ _ => rfl) ?_
          refine zq_call_v (i := .invokevirtual 123) (r := [1, 150, 1, 1, 9]) rfl rfl (fun h hp => zr_avv rfl (hp.obj zq_a232)) (of_decide_eq_false rfl) w (fun s_49 w => ?_)
          refine zq_run 4 (pc' := 88) (L' := [(.ref (232)), (zq_vi (x1)), (zq_vi (x2)), (zq_vi (x3)), (zq_vi (x_31)), (zq_vi (x_43))]) (st' := [(zq_vi (x_43)), (zq_vi (x1)), (.ref (232)), (.ref (232))]) (fun _ _ _ => rfl) ?_
          refine zq_call_i (i := .invokevirtual 119) (r := [1, 147, 2, 1, 9]) rfl rfl (fun h hp => zr_avv rfl (hp.obj zq_a232)) (of_decide_eq_false rfl) w (fun x_51 s_50 hx_52 w => ?_)
          refine zq_call_v (i := .invokevirtual 123) (r := [1, 150, 1, 1, 9]) rfl rfl (fun h hp => zr_avv rfl (hp.obj zq_a232)) (of_decide_eq_false rfl) w (fun s_53 w => ?_)
          refine zq_run 2 (pc' := 97) (L' := [(.ref (232)), (zq_vi (x1)), (zq_vi (x2)), (zq_vi (x3)), (zq_vi (x_31)), (zq_vi (x_43))]) (st' := [(zq_vi (32)), (.ref (232))]) (fun _ _ _ => rfl) ?_
          refine zq_call_v (i := .invokevirtual 123) (r := [1, 150, 1, 1, 9]) rfl rfl (fun h hp => zr_avv rfl (hp.obj zq_a232)) (of_decide_eq_false rfl) w (fun s_54 w => ?_)
          refine zq_run 2 (pc' := 103) (L' := [(.ref (232)), (zq_vi (x1)), (zq_vi (x2)), (zq_vi (x3)), (zq_vi (x_31)), (zq_vi (x_43))]) (st' := [(zq_vi (82)), (.ref (232))]) (fun _ _ _ => rfl) ?_
          refine zq_call_v (i := .invokevirtual 123) (r := [1, 150, 1, 1, 9]) rfl rfl (fun h hp => zr_avv rfl (hp.obj zq_a232)) (of_decide_eq_false rfl) w (fun s_55 w => ?_)
          refine zq_run 3 (pc' := 160) (L' := [(.ref (232)), (zq_vi (x1)), (zq_vi (x2)), (zq_vi (x3)), (zq_vi (x_31)), (zq_vi (x_43))]) (st' := [(zq_vi (x_31)), (.ref (232))]) (fun _ _ _ => rfl) ?_
          refine zq_putf_i (j := 25) rfl zq_a232 rfl rfl rfl hx_32 ?_
          exact zq_vret rfl rfl (⟨rfl, w⟩)
    · rw [if_pos hb_2] at w
      refine zq_run 3 (pc' := 23) (L' := [(.ref (232)), (zq_vi (x1)), (zq_vi (x2)), (zq_vi (x3)), zz_no, zz_no]) (st' := [(zq_vi (x2)), (zq_vi (x1)), (.ref (232))]) (fun _ _ _ => rfl) ?_
      refine zq_call_i (i := .invokevirtual 130) (r := [1, 153, 2, 1, 9]) rfl rfl (fun h hp => zr_avv rfl (hp.obj zq_a232)) (of_decide_eq_false rfl) w (fun x_57 s_56 hx_58 w => ?_)
      refine zq_run 4 (pc' := 54) (L' := [(.ref (232)), (zq_vi (x1)), (zq_vi (x2)), (zq_vi (x3)), (zq_vi (x_57)), zz_no]) (st' := [(zq_vi (8)), (zq_vi (x3))]) (fun _ _ _ => rfl) ?_
      refine zq_ne rfl hx3 (of_decide_eq_true rfl) (fun hb_59 => ?_) (fun hb_59 => ?_)
      · rw [if_neg hb_59] at w
        refine zq_run 2 (pc' := 111) (L' := [(.ref (232)), (zq_vi (x1)), (zq_vi (x2)), (zq_vi (x3)), (zq_vi (x_57)), zz_no]) (st' := [(zq_vi (3)), (zq_vi (x3))]) (fun _ _ _ => rfl) ?_
        refine zq_ne rfl hx3 (of_decide_eq_true rfl) (fun hb_60 => ?_) (fun hb_60 => ?_)
        · rw [if_neg hb_60] at w
          refine zq_run 2 (pc' := 135) (L' := [(.ref (232)), (zq_vi (x1)), (zq_vi (x2)), (zq_vi (x3)), (zq_vi (x_57)), zz_no]) (st' := [(zq_vi (5)), (zq_vi (x3))]) (fun _ _ _ => rfl) ?_
          refine zq_ne rfl hx3 (of_decide_eq_true rfl) (fun hb_61 => ?_) (fun hb_61 => ?_)
          · rw [if_neg hb_61] at w
            refine zq_run 4 (pc' := 154) (L' := [(.ref (232)), (zq_vi (x1)), (zq_vi (x2)), (zq_vi (x3)), (zq_vi (x_57)), zz_no]) (st' := [(zq_vi (x_57)), (zq_vi (x2)), (zq_vi (x1)), (.ref (232))]) (fun _ _ _ => rfl) ?_
            refine zq_call_v (i := .invokevirtual 174) (r := [1, 157, 3, 1, 9]) rfl rfl (fun h hp => zr_avv rfl (hp.obj zq_a232)) (of_decide_eq_false rfl) w (fun s_62 w => ?_)
            refine zq_run 2 (pc' := 160) (L' := [(.ref (232)), (zq_vi (x1)), (zq_vi (x2)), (zq_vi (x3)), (zq_vi (x_57)), zz_no]) (st' := [(zq_vi (x_57)), (.ref (232))]) (fun _ _ _ => rfl) ?_
            refine zq_putf_i (j := 25) rfl zq_a232 rfl rfl rfl hx_58 ?_
            exact zq_vret rfl rfl (⟨rfl, w⟩)
          · rw [if_pos hb_61] at w
            refine zq_run 4 (pc' := 143) (L' := [(.ref (232)), (zq_vi (x1)), (zq_vi (x2)), (zq_vi (x3)), (zq_vi (x_57)), zz_no]) (st' := [(zq_vi (x_57)), (zq_vi (x2)), (zq_vi (x1)), (.ref (232))]) (fun _ _ _ => rfl) ?_
            refine zq_call_v (i := .invokevirtual 170) (r := [1, 169, 3, 1, 9]) rfl rfl (fun h hp => zr_avv rfl (hp.obj zq_a232)) (of_decide_eq_false rfl) w (fun s_63 w => ?_)
            refine zq_run 3 (pc' := 160) (L' := [(.ref (232)), (zq_vi (x1)), (zq_vi (x2)), (zq_vi (x3)), (zq_vi (x_57)), zz_no]) (st' := [(zq_vi (x_57)), (.ref (232))]) (fun _ _ _ => rfl) ?_
            refine zq_putf_i (j := 25) rfl zq_a232 rfl rfl rfl hx_58 ?_
            exact zq_vret rfl rfl (⟨rfl, w⟩)
        · rw [if_pos hb_60] at w
          refine zq_run 4 (pc' := 119) (L' := [(.ref (232)), (zq_vi (x1)), (zq_vi (x2)), (zq_vi (x3)), (zq_vi (x_57)), zz_no]) (st' := [(zq_vi (x_57)), (zq_vi (x2)), (zq_vi (x1)), (.ref (232))]) (fun _ _ _ => rfl) ?_
          refine zq_call_i (i := .invokevirtual 162) (r := [1, 167, 3, 1, 9]) rfl rfl (fun h hp => zr_avv rfl (hp.obj zq_a232)) (of_decide_eq_false rfl) w (fun x_65 s_64 hx_66 w => ?_)
          refine zq_run 3 (pc' := 127) (L' := [(.ref (232)), (zq_vi (x1)), (zq_vi (x2)), (zq_vi (x3)), (zq_vi (x_57)), (zq_vi (x_65))]) (st' := [(zq_vi (x_65)), (.ref (232))]) (fun _ _ _ => rfl) ?_
          refine zq_call_v (i := .invokevirtual 166) (r := [1, 168, 1, 1, 9]) rfl rfl (fun h hp => zr_avv rfl (hp.obj zq_a232)) (of_decide_eq_false rfl) w (fun s_67 w => ?_)
          refine zq_run 3 (pc' := 160) (L' := [(.ref (232)), (zq_vi (x1)), (zq_vi (x2)), (zq_vi (x3)), (zq_vi (x_57)), (zq_vi (x_65))]) (st' := [(zq_vi (x_57)), (.ref (232))]) (fun _ _ _ => rfl) ?_
          refine zq_putf_i (j := 25) rfl zq_a232 rfl rfl rfl hx_58 ?_
          exact zq_vret rfl rfl (⟨rfl, w⟩)
      · rw [if_pos hb_59] at w
        refine zq_run 4 (pc' := 61) (L' := [(.ref (232)), (zq_vi (x1)), (zq_vi (x2)), (zq_vi (x3)), (zq_vi (x_57)), zz_no]) (st' := [(zq_vi (1)), (zq_vi (x2)), (zq_vi (x1)), (.ref (232))]) (fun _ _ _ => rfl) ?_
        refine zq_iadd rfl ?_
        refine zq_call_i (i := .invokevirtual 141) (r := [1, 146, 2, 1, 9]) rfl rfl (fun h hp => zr_avv rfl (hp.obj zq_a232)) (of_decide_eq_false rfl) w (fun x_69 s_68 hx_70 w => ?_)
        refine zq_run 5 (pc' := 71) (L' := [(.ref (232)), (zq_vi (x1)), (zq_vi (x2)), (zq_vi (x3)), (zq_vi (x_57)), (zq_vi (x_69))]) (st' := [(zq_vi (x2)), (zq_vi (x1)), (.ref (232)), (.ref (232))]) (fun _ _ _ => rfl) ?_
        refine zq_call_i (i := .invokevirtual 119) (r := [1, 147, 2, 1, 9]) rfl rfl (fun h hp => zr_avv rfl (hp.obj zq_a232)) (of_decide_eq_false rfl) w (fun x_72 s_71 hx_73 w => ?_)
        refine zq_call_v (i := .invokevirtual 123) (r := [1, 150, 1, 1, 9]) rfl rfl (fun h hp => zr_avv rfl (hp.obj zq_a232)) (of_decide_eq_false rfl) w (fun s_74 w => ?_)
        refine zq_run 2 (pc' := 80) (L' := [(.ref (232)), (zq_vi (x1)), (zq_vi (x2)), (zq_vi (x3)), (zq_vi (x_57)), (zq_vi (x_69))]) (st' := [(zq_vi (32)), (.ref (232))]) (fun _ _ _ => rfl) ?_
        refine zq_call_v (i := .invokevirtual 123) (r := [1, 150, 1, 1, 9]) rfl rfl (fun h hp => zr_avv rfl (hp.obj zq_a232)) (of_decide_eq_false rfl) w (fun s_75 w => ?_)
        refine zq_run 4 (pc' := 88) (L' := [(.ref (232)), (zq_vi (x1)), (zq_vi (x2)), (zq_vi (x3)), (zq_vi (x_57)), (zq_vi (x_69))]) (st' := [(zq_vi (x_69)), (zq_vi (x1)), (.ref (232)), (.ref (232))]) (fun _ _ _ => rfl) ?_
        refine zq_call_i (i := .invokevirtual 119) (r := [1, 147, 2, 1, 9]) rfl rfl (fun h hp => zr_avv rfl (hp.obj zq_a232)) (of_decide_eq_false rfl) w (fun x_77 s_76 hx_78 w => ?_)
        refine zq_call_v (i := .invokevirtual 123) (r := [1, 150, 1, 1, 9]) rfl rfl (fun h hp => zr_avv rfl (hp.obj zq_a232)) (of_decide_eq_false rfl) w (fun s_79 w => ?_)
        refine zq_run 2 (pc' := 97) (L' := [(.ref (232)), (zq_vi (x1)), (zq_vi (x2)), (zq_vi (x3)), (zq_vi (x_57)), (zq_vi (x_69))]) (st' := [(zq_vi (32)), (.ref (232))]) (fun _ _ _ => rfl) ?_
        refine zq_call_v (i := .invokevirtual 123) (r := [1, 150, 1, 1, 9]) rfl rfl (fun h hp => zr_avv rfl (hp.obj zq_a232)) (of_decide_eq_false rfl) w (fun s_80 w => ?_)
        refine zq_run 2 (pc' := 103) (L' := [(.ref (232)), (zq_vi (x1)), (zq_vi (x2)), (zq_vi (x3)), (zq_vi (x_57)), (zq_vi (x_69))]) (st' := [(zq_vi (82)), (.ref (232))]) (fun _ _ _ => rfl) ?_
        refine zq_call_v (i := .invokevirtual 123) (r := [1, 150, 1, 1, 9]) rfl rfl (fun h hp => zr_avv rfl (hp.obj zq_a232)) (of_decide_eq_false rfl) w (fun s_81 w => ?_)
        refine zq_run 3 (pc' := 160) (L' := [(.ref (232)), (zq_vi (x1)), (zq_vi (x2)), (zq_vi (x3)), (zq_vi (x_57)), (zq_vi (x_69))]) (st' := [(zq_vi (x_57)), (.ref (232))]) (fun _ _ _ => rfl) ?_
        refine zq_putf_i (j := 25) rfl zq_a232 rfl rfl rfl hx_58 ?_
        exact zq_vret rfl rfl (⟨rfl, w⟩)
  · rw [if_pos hb_1] at w
    refine zq_run 3 (pc' := 9) (L' := [(.ref (232)), (zq_vi (x1)), (zq_vi (x2)), (zq_vi (x3)), zz_no, zz_no]) (st' := [(zq_vi (x2)), (zq_vi (x1)), (.ref (232))]) (fun _ _ _ => rfl) ?_
    refine zq_call_i (i := .invokevirtual 151) (r := [1, 162, 2, 1, 9]) rfl rfl (fun h hp => zr_avv rfl (hp.obj zq_a232)) (of_decide_eq_false rfl) w (fun x_83 s_82 hx_84 w => ?_)
    refine zq_run 4 (pc' := 54) (L' := [(.ref (232)), (zq_vi (x1)), (zq_vi (x2)), (zq_vi (x3)), (zq_vi (x_83)), zz_no]) (st' := [(zq_vi (8)), (zq_vi (x3))]) (fun _ _ _ => rfl) ?_
    refine zq_ne rfl hx3 (of_decide_eq_true rfl) (fun hb_85 => ?_) (fun hb_85 => ?_)
    · rw [if_neg hb_85] at w
      refine zq_run 2 (pc' := 111) (L' := [(.ref (232)), (zq_vi (x1)), (zq_vi (x2)), (zq_vi (x3)), (zq_vi (x_83)), zz_no]) (st' := [(zq_vi (3)), (zq_vi (x3))]) (fun _ _ _ => rfl) ?_
      refine zq_ne rfl hx3 (of_decide_eq_true rfl) (fun hb_86 => ?_) (fun hb_86 => ?_)
      · rw [if_neg hb_86] at w
        refine zq_run 2 (pc' := 135) (L' := [(.ref (232)), (zq_vi (x1)), (zq_vi (x2)), (zq_vi (x3)), (zq_vi (x_83)), zz_no]) (st' := [(zq_vi (5)), (zq_vi (x3))]) (fun _ _ _ => rfl) ?_
        refine zq_ne rfl hx3 (of_decide_eq_true rfl) (fun hb_87 => ?_) (fun hb_87 => ?_)
        · rw [if_neg hb_87] at w
          refine zq_run 4 (pc' := 154) (L' := [(.ref (232)), (zq_vi (x1)), (zq_vi (x2)), (zq_vi (x3)), (zq_vi (x_83)), zz_no]) (st' := [(zq_vi (x_83)), (zq_vi (x2)), (zq_vi (x1)), (.ref (232))]) (fun _ _ _ => rfl) ?_
          refine zq_call_v (i := .invokevirtual 174) (r := [1, 157, 3, 1, 9]) rfl rfl (fun h hp => zr_avv rfl (hp.obj zq_a232)) (of_decide_eq_false rfl) w (fun s_88 w => ?_)
          refine zq_run 2 (pc' := 160) (L' := [(.ref (232)), (zq_vi (x1)), (zq_vi (x2)), (zq_vi (x3)), (zq_vi (x_83)), zz_no]) (st' := [(zq_vi (x_83)), (.ref (232))]) (fun _ _ _ => rfl) ?_
          refine zq_putf_i (j := 25) rfl zq_a232 rfl rfl rfl hx_84 ?_
          exact zq_vret rfl rfl (⟨rfl, w⟩)
        · rw [if_pos hb_87] at w
          refine zq_run 4 (pc' := 143) (L' := [(.ref (232)), (zq_vi (x1)), (zq_vi (x2)), (zq_vi (x3)), (zq_vi (x_83)), zz_no]) (st' := [(zq_vi (x_83)), (zq_vi (x2)), (zq_vi (x1)), (.ref (232))]) (fun _ _ _ => rfl) ?_
          refine zq_call_v (i := .invokevirtual 170) (r := [1, 169, 3, 1, 9]) rfl rfl (fun h hp => zr_avv rfl (hp.obj zq_a232)) (of_decide_eq_false rfl) w (fun s_89 w => ?_)
          refine zq_run 3 (pc' := 160) (L' := [(.ref (232)), (zq_vi (x1)), (zq_vi (x2)), (zq_vi (x3)), (zq_vi (x_83)), zz_no]) (st' := [(zq_vi (x_83)), (.ref (232))]) (fun _ _ _ => rfl) ?_
          refine zq_putf_i (j := 25) rfl zq_a232 rfl rfl rfl hx_84 ?_
          exact zq_vret rfl rfl (⟨rfl, w⟩)
      · rw [if_pos hb_86] at w
        refine zq_run 4 (pc' := 119) (L' := [(.ref (232)), (zq_vi (x1)), (zq_vi (x2)), (zq_vi (x3)), (zq_vi (x_83)), zz_no]) (st' := [(zq_vi (x_83)), (zq_vi (x2)), (zq_vi (x1)), (.ref (232))]) (fun _ _ _ => rfl) ?_
        refine zq_call_i (i := .invokevirtual 162) (r := [1, 167, 3, 1, 9]) rfl rfl (fun h hp => zr_avv rfl (hp.obj zq_a232)) (of_decide_eq_false rfl) w (fun x_91 s_90 hx_92 w => ?_)
        refine zq_run 3 (pc' := 127) (L' := [(.ref (232)), (zq_vi (x1)), (zq_vi (x2)), (zq_vi (x3)), (zq_vi (x_83)), (zq_vi (x_91))]) (st' := [(zq_vi (x_91)), (.ref (232))]) (fun _ _ _ => rfl) ?_
        refine zq_call_v (i := .invokevirtual 166) (r := [1, 168, 1, 1, 9]) rfl rfl (fun h hp => zr_avv rfl (hp.obj zq_a232)) (of_decide_eq_false rfl) w (fun s_93 w => ?_)
        refine zq_run 3 (pc' := 160) (L' := [(.ref (232)), (zq_vi (x1)), (zq_vi (x2)), (zq_vi (x3)), (zq_vi (x_83)), (zq_vi (x_91))]) (st' := [(zq_vi (x_83)), (.ref (232))]) (fun _ _ _ => rfl) ?_
        refine zq_putf_i (j := 25) rfl zq_a232 rfl rfl rfl hx_84 ?_
        exact zq_vret rfl rfl (⟨rfl, w⟩)
    · rw [if_pos hb_85] at w
      refine zq_run 4 (pc' := 61) (L' := [(.ref (232)), (zq_vi (x1)), (zq_vi (x2)), (zq_vi (x3)), (zq_vi (x_83)), zz_no]) (st' := [(zq_vi (1)), (zq_vi (x2)), (zq_vi (x1)), (.ref (232))]) (fun _ _ _ => rfl) ?_
      refine zq_iadd rfl ?_
      refine zq_call_i (i := .invokevirtual 141) (r := [1, 146, 2, 1, 9]) rfl rfl (fun h hp => zr_avv rfl (hp.obj zq_a232)) (of_decide_eq_false rfl) w (fun x_95 s_94 hx_96 w => ?_)
      refine zq_run 5 (pc' := 71) (L' := [(.ref (232)), (zq_vi (x1)), (zq_vi (x2)), (zq_vi (x3)), (zq_vi (x_83)), (zq_vi (x_95))]) (st' := [(zq_vi (x2)), (zq_vi (x1)), (.ref (232)), (.ref (232))]) (fun _ _ _ => rfl) ?_
      refine zq_call_i (i := .invokevirtual 119) (r := [1, 147, 2, 1, 9]) rfl rfl (fun h hp => zr_avv rfl (hp.obj zq_a232)) (of_decide_eq_false rfl) w (fun x_98 s_97 hx_99 w => ?_)
      refine zq_call_v (i := .invokevirtual 123) (r := [1, 150, 1, 1, 9]) rfl rfl (fun h hp => zr_avv rfl (hp.obj zq_a232)) (of_decide_eq_false rfl) w (fun s_100 w => ?_)
      refine zq_run 2 (pc' := 80) (L' := [(.ref (232)), (zq_vi (x1)), (zq_vi (x2)), (zq_vi (x3)), (zq_vi (x_83)), (zq_vi (x_95))]) (st' := [(zq_vi (32)), (.ref (232))]) (fun _ _ _ => rfl) ?_
      refine zq_call_v (i := .invokevirtual 123) (r := [1, 150, 1, 1, 9]) rfl rfl (fun h hp => zr_avv rfl (hp.obj zq_a232)) (of_decide_eq_false rfl) w (fun s_101 w => ?_)
      refine zq_run 4 (pc' := 88) (L' := [(.ref (232)), (zq_vi (x1)), (zq_vi (x2)), (zq_vi (x3)), (zq_vi (x_83)), (zq_vi (x_95))]) (st' := [(zq_vi (x_95)), (zq_vi (x1)), (.ref (232)), (.ref (232))]) (fun _ _ _ => rfl) ?_
      refine zq_call_i (i := .invokevirtual 119) (r := [1, 147, 2, 1, 9]) rfl rfl (fun h hp => zr_avv rfl (hp.obj zq_a232)) (of_decide_eq_false rfl) w (fun x_103 s_102 hx_104 w => ?_)
      refine zq_call_v (i := .invokevirtual 123) (r := [1, 150, 1, 1, 9]) rfl rfl (fun h hp => zr_avv rfl (hp.obj zq_a232)) (of_decide_eq_false rfl) w (fun s_105 w => ?_)
      refine zq_run 2 (pc' := 97) (L' := [(.ref (232)), (zq_vi (x1)), (zq_vi (x2)), (zq_vi (x3)), (zq_vi (x_83)), (zq_vi (x_95))]) (st' := [(zq_vi (32)), (.ref (232))]) (fun _ _ _ => rfl) ?_
      refine zq_call_v (i := .invokevirtual 123) (r := [1, 150, 1, 1, 9]) rfl rfl (fun h hp => zr_avv rfl (hp.obj zq_a232)) (of_decide_eq_false rfl) w (fun s_106 w => ?_)
      refine zq_run 2 (pc' := 103) (L' := [(.ref (232)), (zq_vi (x1)), (zq_vi (x2)), (zq_vi (x3)), (zq_vi (x_83)), (zq_vi (x_95))]) (st' := [(zq_vi (82)), (.ref (232))]) (fun _ _ _ => rfl) ?_
      refine zq_call_v (i := .invokevirtual 123) (r := [1, 150, 1, 1, 9]) rfl rfl (fun h hp => zr_avv rfl (hp.obj zq_a232)) (of_decide_eq_false rfl) w (fun s_107 w => ?_)
      refine zq_run 3 (pc' := 160) (L' := [(.ref (232)), (zq_vi (x1)), (zq_vi (x2)), (zq_vi (x3)), (zq_vi (x_83)), (zq_vi (x_95))]) (st' := [(zq_vi (x_83)), (.ref (232))]) (fun _ _ _ => rfl) ?_
      refine zq_putf_i (j := 25) rfl zq_a232 rfl rfl rfl hx_84 ?_
      exact zq_vret rfl rfl (⟨rfl, w⟩)
/-- PaperObjectsModel.numberOf(III)I -/
theorem zw_167 {X : Nat × (Nat → Int32)} {s : zq_S} {K : Int → zq_S → Prop} {x1 : Int} (hx1 : zq_iv x1) {x2 : Int} (hx2 : zq_iv x2) {x3 : Int} (hx3 : zq_iv x3) (w : (zq_Ex X 147 0 [(.ref (232)), (zq_vi (x1)), (zq_vi (x2))] [] s (zq_rp zq_ch fun x_2 s_1 => (if x_2 = 45 then zq_Ex X 167 35 [(.ref (232)), (zq_vi (x1)), (zq_vi (x2)), (zq_vi (x3)), (zq_vi (1)), (zq_vi (0)), (zq_vi (x2 + 1))] [] s_1 (zq_rp zq_iv K) else zq_Ex X 167 35 [(.ref (232)), (zq_vi (x1)), (zq_vi (x2)), (zq_vi (x3)), (zq_vi (0)), (zq_vi (0)), (zq_vi (x2))] [] s_1 (zq_rp zq_iv K))))) : zq_Ex X 167 0 [(.ref (232)), (zq_vi (x1)), (zq_vi (x2)), (zq_vi (x3)), zz_no, zz_no, zz_no] [] s (zq_rp zq_iv K) := by
  refine zq_run 3 (pc' := 3) (L' := [(.ref (232)), (zq_vi (x1)), (zq_vi (x2)), (zq_vi (x3)), zz_no, zz_no, zz_no]) (st' := [(zq_vi (x2)), (zq_vi (x1)), (.ref (232))]) (fun _ _ _ => rfl) ?_
  refine zq_call_i (i := .invokevirtual 119) (r := [1, 147, 2, 1, 9]) rfl rfl (fun h hp => zr_avv rfl (hp.obj zq_a232)) (of_decide_eq_false rfl) w (fun x_2 s_1 hx_3 w => ?_)
  refine zq_run 1 (pc' := 8) (L' := [(.ref (232)), (zq_vi (x1)), (zq_vi (x2)), (zq_vi (x3)), zz_no, zz_no, zz_no]) (st' := [(zq_vi (45)), (zq_vi (x_2))]) (fun _ _ _ => rfl) ?_
  refine zq_ne rfl (zq_ch_in hx_3) (of_decide_eq_true rfl) (fun hb_4 => ?_) (fun hb_4 => ?_)
  · rw [if_neg hb_4] at w
    refine zq_run 5 (pc' := 23) (L' := [(.ref (232)), (zq_vi (x1)), (zq_vi (x2)), (zq_vi (x3)), (zq_vi (0)), (zq_vi (0)), zz_no]) (st' := [(zq_vi (0))]) (fun _ _ _ => rfl) ?_
    refine zq_eq0 rfl (of_decide_eq_true rfl) (fun _ => ?_) (fun hb => absurd (by decide) hb)
    refine zq_run 2 (pc' := 35) (L' := [(.ref (232)), (zq_vi (x1)), (zq_vi (x2)), (zq_vi (x3)), (zq_vi (0)), (zq_vi (0)), (zq_vi (x2))]) (st' := []) (fun _ _ _ => rfl) ?_
    exact w
  · rw [if_pos hb_4] at w
    refine zq_run 6 (pc' := 23) (L' := [(.ref (232)), (zq_vi (x1)), (zq_vi (x2)), (zq_vi (x3)), (zq_vi (1)), (zq_vi (0)), zz_no]) (st' := [(zq_vi (1))]) (fun _ _ _ => rfl) ?_
    refine zq_eq0 rfl (of_decide_eq_true rfl) (fun hb => absurd hb (by decide)) (fun _ => ?_)
    refine zq_run 2 (pc' := 28) (L' := [(.ref (232)), (zq_vi (x1)), (zq_vi (x2)), (zq_vi (x3)), (zq_vi (1)), (zq_vi (0)), zz_no]) (st' := [(zq_vi (1)), (zq_vi (x2))]) (fun _ _ _ => rfl) ?_
    refine zq_iadd rfl ?_
    refine zq_run 2 (pc' := 35) (L' := [(.ref (232)), (zq_vi (x1)), (zq_vi (x2)), (zq_vi (x3)), (zq_vi (1)), (zq_vi (0)), (zq_vi (x2 + 1))]) (st' := []) (fun _ _ _ => rfl) ?_
    exact w
/-- PaperObjectsModel.numberOf at 35 -/
theorem zw_167_35 {X : Nat × (Nat → Int32)} {s : zq_S} {K : Int → zq_S → Prop} {x1 : Int} (hx1 : zq_iv x1) {x2 : Int} (hx2 : zq_iv x2) {x3 : Int} (hx3 : zq_iv x3) {x4 : Int} (hx4 : zq_bo x4) {x5 : Int} (hx5 : zq_iv x5) {x6 : Int} (hx6 : zq_iv x6) (w : (if x6 < x3 then (zq_Ex X 147 0 [(.ref (232)), (zq_vi (x1)), (zq_vi (x6))] [] s (zq_rp zq_ch fun x_5 s_4 => zq_Ex X 167 35 [(.ref (232)), (zq_vi (x1)), (zq_vi (x2)), (zq_vi (x3)), (zq_vi (x4)), (zq_vi (((10 * x5) + x_5) - 48)), (zq_vi (x6 + 1))] [] s_4 (zq_rp zq_iv K))) else (if x4 = 0 then K (x5) s else (zq_iv (-(x5)) ∧ K (-(x5)) s)))) : zq_Ex X 167 35 [(.ref (232)), (zq_vi (x1)), (zq_vi (x2)), (zq_vi (x3)), (zq_vi (x4)), (zq_vi (x5)), (zq_vi (x6))] [] s (zq_rp zq_iv K) := by
  refine zq_run 2 (pc' := 38) (L' := [(.ref (232)), (zq_vi (x1)), (zq_vi (x2)), (zq_vi (x3)), (zq_vi (x4)), (zq_vi (x5)), (zq_vi (x6))]) (st' := [(zq_vi (x3)), (zq_vi (x6))]) (fun _ _ _ => rfl) ?_
  refine zq_ge rfl hx6 hx3 (fun hb_1 => ?_) (fun hb_1 => ?_)
  · rw [if_neg hb_1] at w
    refine zq_run 1 (pc' := 67) (L' := [(.ref (232)), (zq_vi (x1)), (zq_vi (x2)), (zq_vi (x3)), (zq_vi (x4)), (zq_vi (x5)), (zq_vi (x6))]) (st' := [(zq_vi (x4))]) (fun _ _ _ => rfl) ?_
    refine zq_eq0 rfl (zq_bo_in hx4) (fun hb_2 => ?_) (fun hb_2 => ?_)
    · rw [if_pos hb_2] at w
      refine zq_run 1 (pc' := 78) (L' := [(.ref (232)), (zq_vi (x1)), (zq_vi (x2)), (zq_vi (x3)), (zq_vi (x4)), (zq_vi (x5)), (zq_vi (x6))]) (st' := [(zq_vi (x5))]) (fun _ _ _ => rfl) ?_
      exact zq_iret rfl rfl rfl (⟨_, rfl, hx5, w⟩)
    · rw [if_neg hb_2] at w
      refine zq_run 1 (pc' := 72) (L' := [(.ref (232)), (zq_vi (x1)), (zq_vi (x2)), (zq_vi (x3)), (zq_vi (x4)), (zq_vi (x5)), (zq_vi (x6))]) (st' := [(zq_vi (x5))]) (fun _ _ _ => rfl) ?_
      refine zq_ineg rfl ?_
      refine zq_run 1 (pc' := 78) (L' := [(.ref (232)), (zq_vi (x1)), (zq_vi (x2)), (zq_vi (x3)), (zq_vi (x4)), (zq_vi (x5)), (zq_vi (x6))]) (st' := [(zq_vi (-(x5)))]) (fun _ _ _ => rfl) ?_
      obtain ⟨g_3, w⟩ := w
      exact zq_iret rfl rfl rfl (⟨_, rfl, g_3, w⟩)
  · rw [if_pos hb_1] at w
    refine zq_run 2 (pc' := 45) (L' := [(.ref (232)), (zq_vi (x1)), (zq_vi (x2)), (zq_vi (x3)), (zq_vi (x4)), (zq_vi (x5)), (zq_vi (x6))]) (st' := [(zq_vi (x5)), (zq_vi (10))]) (fun _ _ _ => rfl) ?_
    refine zq_imul rfl ?_
    refine zq_run 3 (pc' := 50) (L' := [(.ref (232)), (zq_vi (x1)), (zq_vi (x2)), (zq_vi (x3)), (zq_vi (x4)), (zq_vi (x5)), (zq_vi (x6))]) (st' := [(zq_vi (x6)), (zq_vi (x1)), (.ref (232)), (zq_vi (10 * x5))]) (fun _ _ _ => rfl) ?_
    refine zq_call_i (i := .invokevirtual 119) (r := [1, 147, 2, 1, 9]) rfl rfl (fun h hp => zr_avv rfl (hp.obj zq_a232)) (of_decide_eq_false rfl) w (fun x_5 s_4 hx_6 w => ?_)
    refine zq_iadd rfl ?_
    refine zq_run 1 (pc' := 56) (L' := [(.ref (232)), (zq_vi (x1)), (zq_vi (x2)), (zq_vi (x3)), (zq_vi (x4)), (zq_vi (x5)), (zq_vi (x6))]) (st' := [(zq_vi (48)), (zq_vi ((10 * x5) + x_5))]) (fun _ _ _ => rfl) ?_
    refine zq_isub rfl ?_
    refine zq_run 1 (pc' := 59) (L' := [(.ref (232)), (zq_vi (x1)), (zq_vi (x2)), (zq_vi (x3)), (zq_vi (x4)), (zq_vi (((10 * x5) + x_5) - 48)), (zq_vi (x6))]) (st' := []) (fun _ _ _ => rfl) ?_
    refine zq_iinc (L' := [(.ref (232)), (zq_vi (x1)), (zq_vi (x2)), (zq_vi (x3)), (zq_vi (x4)), (zq_vi (((10 * x5) + x_5) - 48)), (zq_vi (x6 + 1))]) rfl rfl rfl ?_
    refine zq_run 1 (pc' := 35) (L' := [(.ref (232)), (zq_vi (x1)), (zq_vi (x2)), (zq_vi (x3)), (zq_vi (x4)), (zq_vi (((10 * x5) + x_5) - 48)), (zq_vi (x6 + 1))]) (st' := []) (fun _ _ _ => rfl) ?_
    exact w
/-- PaperObjectsModel.sayNumber(I)V -/
theorem zw_168 {X : Nat × (Nat → Int32)} {s : zq_S} {K : zq_S → Prop} {x1 : Int} (hx1 : zq_iv x1) (w : (if x1 < 0 then (if x1 < 0 then (zq_Ex X 150 0 [(.ref (232)), (zq_vi (45))] [] s (zq_rv fun s_5 => zq_Ex X 168 23 [(.ref (232)), (zq_vi (x1)), (zq_vi (-(x1))), (zq_vi (1)), zz_no] [] s_5 (zq_rv K))) else zq_Ex X 168 23 [(.ref (232)), (zq_vi (x1)), (zq_vi (-(x1))), (zq_vi (1)), zz_no] [] s (zq_rv K)) else (if x1 < 0 then (zq_Ex X 150 0 [(.ref (232)), (zq_vi (45))] [] s (zq_rv fun s_3 => zq_Ex X 168 23 [(.ref (232)), (zq_vi (x1)), (zq_vi (x1)), (zq_vi (1)), zz_no] [] s_3 (zq_rv K))) else zq_Ex X 168 23 [(.ref (232)), (zq_vi (x1)), (zq_vi (x1)), (zq_vi (1)), zz_no] [] s (zq_rv K)))) : zq_Ex X 168 0 [(.ref (232)), (zq_vi (x1)), zz_no, zz_no, zz_no] [] s (zq_rv K) := by
  refine zq_run 1 (pc' := 1) (L' := [(.ref (232)), (zq_vi (x1)), zz_no, zz_no, zz_no]) (st' := [(zq_vi (x1))]) (fun _ _ _ => rfl) ?_
  refine zq_ge0 rfl hx1 (fun hb_1 => ?_) (fun hb_1 => ?_)
  · rw [if_neg hb_1] at w
    refine zq_run 3 (pc' := 12) (L' := [(.ref (232)), (zq_vi (x1)), (zq_vi (x1)), zz_no, zz_no]) (st' := [(zq_vi (x1))]) (fun _ _ _ => rfl) ?_
    refine zq_ge0 rfl hx1 (fun hb_2 => ?_) (fun hb_2 => ?_)
    · rw [if_neg hb_2] at w
      refine zq_run 2 (pc' := 23) (L' := [(.ref (232)), (zq_vi (x1)), (zq_vi (x1)), (zq_vi (1)), zz_no]) (st' := []) (fun _ _ _ => rfl) ?_
      exact w
    · rw [if_pos hb_2] at w
      refine zq_run 2 (pc' := 18) (L' := [(.ref (232)), (zq_vi (x1)), (zq_vi (x1)), zz_no, zz_no]) (st' := [(zq_vi (45)), (.ref (232))]) (fun _ _ _ => rfl) ?_
      refine zq_call_v (i := .invokevirtual 123) (r := [1, 150, 1, 1, 9]) rfl rfl (fun h hp => zr_avv rfl (hp.obj zq_a232)) (of_decide_eq_false rfl) w (fun s_3 w => ?_)
      refine zq_run 2 (pc' := 23) (L' := [(.ref (232)), (zq_vi (x1)), (zq_vi (x1)), (zq_vi (1)), zz_no]) (st' := []) (fun _ _ _ => rfl) ?_
      exact w
  · rw [if_pos hb_1] at w
    refine zq_run 1 (pc' := 5) (L' := [(.ref (232)), (zq_vi (x1)), zz_no, zz_no, zz_no]) (st' := [(zq_vi (x1))]) (fun _ _ _ => rfl) ?_
    refine zq_ineg rfl ?_
    refine zq_run 3 (pc' := 12) (L' := [(.ref (232)), (zq_vi (x1)), (zq_vi (-(x1))), zz_no, zz_no]) (st' := [(zq_vi (x1))]) (fun _ _ _ => rfl) ?_
    refine zq_ge0 rfl hx1 (fun hb_4 => ?_) (fun hb_4 => ?_)
    · rw [if_neg hb_4] at w
      refine zq_run 2 (pc' := 23) (L' := [(.ref (232)), (zq_vi (x1)), (zq_vi (-(x1))), (zq_vi (1)), zz_no]) (st' := []) (fun _ _ _ => rfl) ?_
      exact w
    · rw [if_pos hb_4] at w
      refine zq_run 2 (pc' := 18) (L' := [(.ref (232)), (zq_vi (x1)), (zq_vi (-(x1))), zz_no, zz_no]) (st' := [(zq_vi (45)), (.ref (232))]) (fun _ _ _ => rfl) ?_
      refine zq_call_v (i := .invokevirtual 123) (r := [1, 150, 1, 1, 9]) rfl rfl (fun h hp => zr_avv rfl (hp.obj zq_a232)) (of_decide_eq_false rfl) w (fun s_5 w => ?_)
      refine zq_run 2 (pc' := 23) (L' := [(.ref (232)), (zq_vi (x1)), (zq_vi (-(x1))), (zq_vi (1)), zz_no]) (st' := []) (fun _ _ _ => rfl) ?_
      exact w
/-- PaperObjectsModel.sayNumber at 23 -/
theorem zw_168_23 {X : Nat × (Nat → Int32)} {s : zq_S} {K : zq_S → Prop} {x1 : Int} (hx1 : zq_iv x1) {x2 : Int} (hx2 : zq_iv x2) {x3 : Int} (hx3 : zq_iv x3) {v4 : Value} (hv4 : v4.category = 1) (w : (x3 ≠ 0 ∧ (if zq_div (x2) (x3) ≤ 9 then zq_Ex X 168 42 [(.ref (232)), (zq_vi (x1)), (zq_vi (x2)), (zq_vi (x3)), (zq_vi (x3))] [] s (zq_rv K) else zq_Ex X 168 23 [(.ref (232)), (zq_vi (x1)), (zq_vi (x2)), (zq_vi (10 * x3)), v4] [] s (zq_rv K)))) : zq_Ex X 168 23 [(.ref (232)), (zq_vi (x1)), (zq_vi (x2)), (zq_vi (x3)), v4] [] s (zq_rv K) := by
  refine zq_run 2 (pc' := 25) (L' := [(.ref (232)), (zq_vi (x1)), (zq_vi (x2)), (zq_vi (x3)), v4]) (st' := [(zq_vi (x3)), (zq_vi (x2))]) (fun _ _ _ => rfl) ?_
  obtain ⟨g_1, w⟩ := w
  refine zq_idiv rfl hx3 g_1 ?_
  refine zq_run 1 (pc' := 28) (L' := [(.ref (232)), (zq_vi (x1)), (zq_vi (x2)), (zq_vi (x3)), v4]) (st' := [(zq_vi (9)), (zq_vi (zq_div (x2) (x3)))]) (fun _ _ _ => rfl) ?_
  refine zq_le rfl (zq_in32 _) (of_decide_eq_true rfl) (fun hb_2 => ?_) (fun hb_2 => ?_)
  · rw [if_pos hb_2] at w
    refine zq_run 2 (pc' := 42) (L' := [(.ref (232)), (zq_vi (x1)), (zq_vi (x2)), (zq_vi (x3)), (zq_vi (x3))]) (st' := []) (fun _ _ _ => rfl) ?_
    exact w
  · rw [if_neg hb_2] at w
    refine zq_run 2 (pc' := 34) (L' := [(.ref (232)), (zq_vi (x1)), (zq_vi (x2)), (zq_vi (x3)), v4]) (st' := [(zq_vi (x3)), (zq_vi (10))]) (fun _ _ _ => rfl) ?_
    refine zq_imul rfl ?_
    refine zq_run 2 (pc' := 23) (L' := [(.ref (232)), (zq_vi (x1)), (zq_vi (x2)), (zq_vi (10 * x3)), v4]) (st' := []) (fun _ _ _ => rfl) ?_
    exact w
/-- PaperObjectsModel.sayNumber at 42 -/
theorem zw_168_42 {X : Nat × (Nat → Int32)} {s : zq_S} {K : zq_S → Prop} {x1 : Int} (hx1 : zq_iv x1) {x2 : Int} (hx2 : zq_iv x2) {x3 : Int} (hx3 : zq_iv x3) {x4 : Int} (hx4 : zq_iv x4) (w : (if x4 ≤ 0 then K s else (x4 ≠ 0 ∧ (zq_Ex X 150 0 [(.ref (232)), (zq_vi ((48 + (zq_rem (zq_div (x2) (x4)) (10))) % 65536))] [] s (zq_rv fun s_3 => zq_Ex X 168 42 [(.ref (232)), (zq_vi (x1)), (zq_vi (x2)), (zq_vi (x3)), (zq_vi (zq_div (x4) (10)))] [] s_3 (zq_rv K)))))) : zq_Ex X 168 42 [(.ref (232)), (zq_vi (x1)), (zq_vi (x2)), (zq_vi (x3)), (zq_vi (x4))] [] s (zq_rv K) := by
  refine zq_run 1 (pc' := 44) (L' := [(.ref (232)), (zq_vi (x1)), (zq_vi (x2)), (zq_vi (x3)), (zq_vi (x4))]) (st' := [(zq_vi (x4))]) (fun _ _ _ => rfl) ?_
  refine zq_le0 rfl hx4 (fun hb_1 => ?_) (fun hb_1 => ?_)
  · rw [if_pos hb_1] at w
    exact zq_vret rfl rfl (⟨rfl, w⟩)
  · rw [if_neg hb_1] at w
    refine zq_run 4 (pc' := 53) (L' := [(.ref (232)), (zq_vi (x1)), (zq_vi (x2)), (zq_vi (x3)), (zq_vi (x4))]) (st' := [(zq_vi (x4)), (zq_vi (x2)), (zq_vi (48)), (.ref (232))]) (fun _ _ _ => rfl) ?_
    obtain ⟨g_2, w⟩ := w
    refine zq_idiv rfl hx4 g_2 ?_
    refine zq_run 1 (pc' := 56) (L' := [(.ref (232)), (zq_vi (x1)), (zq_vi (x2)), (zq_vi (x3)), (zq_vi (x4))]) (st' := [(zq_vi (10)), (zq_vi (zq_div (x2) (x4))), (zq_vi (48)), (.ref (232))]) (fun _ _ _ => rfl) ?_
    refine zq_irem rfl (of_decide_eq_true rfl) (of_decide_eq_true rfl) ?_
    refine zq_iadd rfl ?_
    refine zq_i2c rfl ?_
    refine zq_call_v (i := .invokevirtual 123) (r := [1, 150, 1, 1, 9]) rfl rfl (fun h hp => zr_avv rfl (hp.obj zq_a232)) (of_decide_eq_false rfl) w (fun s_3 w => ?_)
    refine zq_run 2 (pc' := 66) (L' := [(.ref (232)), (zq_vi (x1)), (zq_vi (x2)), (zq_vi (x3)), (zq_vi (x4))]) (st' := [(zq_vi (10)), (zq_vi (x4))]) (fun _ _ _ => rfl) ?_
    refine zq_idiv rfl (of_decide_eq_true rfl) (of_decide_eq_true rfl) ?_
    refine zq_run 2 (pc' := 42) (L' := [(.ref (232)), (zq_vi (x1)), (zq_vi (x2)), (zq_vi (x3)), (zq_vi (zq_div (x4) (10)))]) (st' := []) (fun _ _ _ => rfl) ?_
    exact w
/-- PaperObjectsModel.sayString(III)V -/
theorem zw_169 {X : Nat × (Nat → Int32)} {s : zq_S} {K : zq_S → Prop} {x1 : Int} (hx1 : zq_iv x1) {x2 : Int} (hx2 : zq_iv x2) {x3 : Int} (hx3 : zq_iv x3) (w : (zq_Ex X 150 0 [(.ref (232)), (zq_vi (40))] [] s (zq_rv fun s_1 => zq_Ex X 169 11 [(.ref (232)), (zq_vi (x1)), (zq_vi (x2)), (zq_vi (x3)), (zq_vi (x2 + 1)), zz_no] [] s_1 (zq_rv K)))) : zq_Ex X 169 0 [(.ref (232)), (zq_vi (x1)), (zq_vi (x2)), (zq_vi (x3)), zz_no, zz_no] [] s (zq_rv K) := by
  refine zq_run 2 (pc' := 3) (L' := [(.ref (232)), (zq_vi (x1)), (zq_vi (x2)), (zq_vi (x3)), zz_no, zz_no]) (st' := [(zq_vi (40)), (.ref (232))]) (fun _ _ _ => rfl) ?_
  refine zq_call_v (i := .invokevirtual 123) (r := [1, 150, 1, 1, 9]) rfl rfl (fun h hp => zr_avv rfl (hp.obj zq_a232)) (of_decide_eq_false rfl) w (fun s_1 w => ?_)
  refine zq_run 2 (pc' := 8) (L' := [(.ref (232)), (zq_vi (x1)), (zq_vi (x2)), (zq_vi (x3)), zz_no, zz_no]) (st' := [(zq_vi (1)), (zq_vi (x2))]) (fun _ _ _ => rfl) ?_
  refine zq_iadd rfl ?_
  refine zq_run 1 (pc' := 11) (L' := [(.ref (232)), (zq_vi (x1)), (zq_vi (x2)), (zq_vi (x3)), (zq_vi (x2 + 1)), zz_no]) (st' := []) (fun _ _ _ => rfl) ?_
  exact w
/-- PaperObjectsModel.sayString at 11 -/
theorem zw_169_11 {X : Nat × (Nat → Int32)} {s : zq_S} {K : zq_S → Prop} {x1 : Int} (hx1 : zq_iv x1) {x2 : Int} (hx2 : zq_iv x2) {x3 : Int} (hx3 : zq_iv x3) {x4 : Int} (hx4 : zq_iv x4) {v5 : Value} (hv5 : v5.category = 1) (w : (zq_iv (x3 - 1) ∧ (if x4 < x3 - 1 then (zq_Ex X 147 0 [(.ref (232)), (zq_vi (x1)), (zq_vi (x4))] [] s (zq_rp zq_ch fun x_5 s_4 => (if x_5 = 92 then (zq_Ex X 147 0 [(.ref (232)), (zq_vi (x1)), (zq_vi (x4 + 1))] [] s_4 (zq_rp zq_ch fun x_22 s_21 => (if x_22 = 40 then (zq_Ex X 150 0 [(.ref (232)), (zq_vi (92))] [] s_21 (zq_rv fun s_25 => (zq_Ex X 150 0 [(.ref (232)), (zq_vi (x_22))] [] s_25 (zq_rv fun s_26 => zq_Ex X 169 11 [(.ref (232)), (zq_vi (x1)), (zq_vi (x2)), (zq_vi (x3)), (zq_vi ((x4 + 1) + 1)), (zq_vi (x_22))] [] s_26 (zq_rv K))))) else (if x_22 = 41 then (zq_Ex X 150 0 [(.ref (232)), (zq_vi (92))] [] s_21 (zq_rv fun s_28 => (zq_Ex X 150 0 [(.ref (232)), (zq_vi (x_22))] [] s_28 (zq_rv fun s_29 => zq_Ex X 169 11 [(.ref (232)), (zq_vi (x1)), (zq_vi (x2)), (zq_vi (x3)), (zq_vi ((x4 + 1) + 1)), (zq_vi (x_22))] [] s_29 (zq_rv K))))) else (if x_22 = 92 then (zq_Ex X 150 0 [(.ref (232)), (zq_vi (92))] [] s_21 (zq_rv fun s_32 => (zq_Ex X 150 0 [(.ref (232)), (zq_vi (x_22))] [] s_32 (zq_rv fun s_33 => zq_Ex X 169 11 [(.ref (232)), (zq_vi (x1)), (zq_vi (x2)), (zq_vi (x3)), (zq_vi ((x4 + 1) + 1)), (zq_vi (x_22))] [] s_33 (zq_rv K))))) else (zq_Ex X 150 0 [(.ref (232)), (zq_vi (x_22))] [] s_21 (zq_rv fun s_31 => zq_Ex X 169 11 [(.ref (232)), (zq_vi (x1)), (zq_vi (x2)), (zq_vi (x3)), (zq_vi ((x4 + 1) + 1)), (zq_vi (x_22))] [] s_31 (zq_rv K)))))))) else (zq_Ex X 147 0 [(.ref (232)), (zq_vi (x1)), (zq_vi (x4))] [] s_4 (zq_rp zq_ch fun x_9 s_8 => (if x_9 = 40 then (zq_Ex X 150 0 [(.ref (232)), (zq_vi (92))] [] s_8 (zq_rv fun s_12 => (zq_Ex X 150 0 [(.ref (232)), (zq_vi (x_9))] [] s_12 (zq_rv fun s_13 => zq_Ex X 169 11 [(.ref (232)), (zq_vi (x1)), (zq_vi (x2)), (zq_vi (x3)), (zq_vi (x4 + 1)), (zq_vi (x_9))] [] s_13 (zq_rv K))))) else (if x_9 = 41 then (zq_Ex X 150 0 [(.ref (232)), (zq_vi (92))] [] s_8 (zq_rv fun s_15 => (zq_Ex X 150 0 [(.ref (232)), (zq_vi (x_9))] [] s_15 (zq_rv fun s_16 => zq_Ex X 169 11 [(.ref (232)), (zq_vi (x1)), (zq_vi (x2)), (zq_vi (x3)), (zq_vi (x4 + 1)), (zq_vi (x_9))] [] s_16 (zq_rv K))))) else (if x_9 = 92 then (zq_Ex X 150 0 [(.ref (232)), (zq_vi (92))] [] s_8 (zq_rv fun s_19 => (zq_Ex X 150 0 [(.ref (232)), (zq_vi (x_9))] [] s_19 (zq_rv fun s_20 => zq_Ex X 169 11 [(.ref (232)), (zq_vi (x1)), (zq_vi (x2)), (zq_vi (x3)), (zq_vi (x4 + 1)), (zq_vi (x_9))] [] s_20 (zq_rv K))))) else (zq_Ex X 150 0 [(.ref (232)), (zq_vi (x_9))] [] s_8 (zq_rv fun s_18 => zq_Ex X 169 11 [(.ref (232)), (zq_vi (x1)), (zq_vi (x2)), (zq_vi (x3)), (zq_vi (x4 + 1)), (zq_vi (x_9))] [] s_18 (zq_rv K))))))))))) else (zq_Ex X 150 0 [(.ref (232)), (zq_vi (41))] [] s (zq_rv fun s_3 => K s_3))))) : zq_Ex X 169 11 [(.ref (232)), (zq_vi (x1)), (zq_vi (x2)), (zq_vi (x3)), (zq_vi (x4)), v5] [] s (zq_rv K) := by
  refine zq_run 3 (pc' := 15) (L' := [(.ref (232)), (zq_vi (x1)), (zq_vi (x2)), (zq_vi (x3)), (zq_vi (x4)), v5]) (st' := [(zq_vi (1)), (zq_vi (x3)), (zq_vi (x4))]) (fun _ _ _ => rfl) ?_
  refine zq_isub rfl ?_
  obtain ⟨g_1, w⟩ := w
  refine zq_ge rfl hx4 g_1 (fun hb_2 => ?_) (fun hb_2 => ?_)
  · rw [if_neg hb_2] at w
    refine zq_run 2 (pc' := 93) (L' := [(.ref (232)), (zq_vi (x1)), (zq_vi (x2)), (zq_vi (x3)), (zq_vi (x4)), v5]) (st' := [(zq_vi (41)), (.ref (232))]) (fun _ _ _ => rfl) ?_
    refine zq_call_v (i := .invokevirtual 123) (r := [1, 150, 1, 1, 9]) rfl rfl (fun h hp => zr_avv rfl (hp.obj zq_a232)) (of_decide_eq_false rfl) w (fun s_3 w => ?_)
    exact zq_vret rfl rfl (⟨rfl, w⟩)
  · rw [if_pos hb_2] at w
    refine zq_run 3 (pc' := 23) (L' := [(.ref (232)), (zq_vi (x1)), (zq_vi (x2)), (zq_vi (x3)), (zq_vi (x4)), v5]) (st' := [(zq_vi (x4)), (zq_vi (x1)), (.ref (232))]) (fun _ _ _ => rfl) ?_
    refine zq_call_i (i := .invokevirtual 119) (r := [1, 147, 2, 1, 9]) rfl rfl (fun h hp => zr_avv rfl (hp.obj zq_a232)) (of_decide_eq_false rfl) w (fun x_5 s_4 hx_6 w => ?_)
    refine zq_run 1 (pc' := 28) (L' := [(.ref (232)), (zq_vi (x1)), (zq_vi (x2)), (zq_vi (x3)), (zq_vi (x4)), v5]) (st' := [(zq_vi (92)), (zq_vi (x_5))]) (fun _ _ _ => rfl) ?_
    refine zq_ne rfl (zq_ch_in hx_6) (of_decide_eq_true rfl) (fun hb_7 => ?_) (fun hb_7 => ?_)
    · rw [if_neg hb_7] at w
      refine zq_run 5 (pc' := 46) (L' := [(.ref (232)), (zq_vi (x1)), (zq_vi (x2)), (zq_vi (x3)), (zq_vi (x4)), v5]) (st' := [(zq_vi (x4)), (zq_vi (x1)), (.ref (232))]) (fun _ _ _ => rfl) ?_
      refine zq_call_i (i := .invokevirtual 119) (r := [1, 147, 2, 1, 9]) rfl rfl (fun h hp => zr_avv rfl (hp.obj zq_a232)) (of_decide_eq_false rfl) w (fun x_9 s_8 hx_10 w => ?_)
      refine zq_run 3 (pc' := 55) (L' := [(.ref (232)), (zq_vi (x1)), (zq_vi (x2)), (zq_vi (x3)), (zq_vi (x4)), (zq_vi (x_9))]) (st' := [(zq_vi (40)), (zq_vi (x_9))]) (fun _ _ _ => rfl) ?_
      refine zq_eq rfl (zq_ch_in hx_10) (of_decide_eq_true rfl) (fun hb_11 => ?_) (fun hb_11 => ?_)
      · rw [if_pos hb_11] at w
        refine zq_run 2 (pc' := 75) (L' := [(.ref (232)), (zq_vi (x1)), (zq_vi (x2)), (zq_vi (x3)), (zq_vi (x4)), (zq_vi (x_9))]) (st' := [(zq_vi (92)), (.ref (232))]) (fun _ _ _ => rfl) ?_
        refine zq_call_v (i := .invokevirtual 123) (r := [1, 150, 1, 1, 9]) rfl rfl (fun h hp => zr_avv rfl (hp.obj zq_a232)) (of_decide_eq_false rfl) w (fun s_12 w => ?_)
        refine zq_run 2 (pc' := 81) (L' := [(.ref (232)), (zq_vi (x1)), (zq_vi (x2)), (zq_vi (x3)), (zq_vi (x4)), (zq_vi (x_9))]) (st' := [(zq_vi (x_9)), (.ref (232))]) (fun _ _ _ => rfl) ?_
        refine zq_call_v (i := .invokevirtual 123) (r := [1, 150, 1, 1, 9]) rfl rfl (fun h hp => zr_avv rfl (hp.obj zq_a232)) (of_decide_eq_false rfl) w (fun s_13 w => ?_)
        refine zq_iinc (L' := [(.ref (232)), (zq_vi (x1)), (zq_vi (x2)), (zq_vi (x3)), (zq_vi (x4 + 1)), (zq_vi (x_9))]) rfl rfl rfl ?_
        refine zq_run 1 (pc' := 11) (L' := [(.ref (232)), (zq_vi (x1)), (zq_vi (x2)), (zq_vi (x3)), (zq_vi (x4 + 1)), (zq_vi (x_9))]) (st' := []) (fun _ _ _ => rfl) ?_
        exact w
      · rw [if_neg hb_11] at w
        refine zq_run 2 (pc' := 62) (L' := [(.ref (232)), (zq_vi (x1)), (zq_vi (x2)), (zq_vi (x3)), (zq_vi (x4)), (zq_vi (x_9))]) (st' := [(zq_vi (41)), (zq_vi (x_9))]) (fun _ _ _ => rfl) ?_
        refine zq_eq rfl (zq_ch_in hx_10) (of_decide_eq_true rfl) (fun hb_14 => ?_) (fun hb_14 => ?_)
        · rw [if_pos hb_14] at w
          refine zq_run 2 (pc' := 75) (L' := [(.ref (232)), (zq_vi (x1)), (zq_vi (x2)), (zq_vi (x3)), (zq_vi (x4)), (zq_vi (x_9))]) (st' := [(zq_vi (92)), (.ref (232))]) (fun _ _ _ => rfl) ?_
          refine zq_call_v (i := .invokevirtual 123) (r := [1, 150, 1, 1, 9]) rfl rfl (fun h hp => zr_avv rfl (hp.obj zq_a232)) (of_decide_eq_false rfl) w (fun s_15 w => ?_)
          refine zq_run 2 (pc' := 81) (L' := [(.ref (232)), (zq_vi (x1)), (zq_vi (x2)), (zq_vi (x3)), (zq_vi (x4)), (zq_vi (x_9))]) (st' := [(zq_vi (x_9)), (.ref (232))]) (fun _ _ _ => rfl) ?_
          refine zq_call_v (i := .invokevirtual 123) (r := [1, 150, 1, 1, 9]) rfl rfl (fun h hp => zr_avv rfl (hp.obj zq_a232)) (of_decide_eq_false rfl) w (fun s_16 w => ?_)
          refine zq_iinc (L' := [(.ref (232)), (zq_vi (x1)), (zq_vi (x2)), (zq_vi (x3)), (zq_vi (x4 + 1)), (zq_vi (x_9))]) rfl rfl rfl ?_
          refine zq_run 1 (pc' := 11) (L' := [(.ref (232)), (zq_vi (x1)), (zq_vi (x2)), (zq_vi (x3)), (zq_vi (x4 + 1)), (zq_vi (x_9))]) (st' := []) (fun _ _ _ => rfl) ?_
          exact w
        · rw [if_neg hb_14] at w
          refine zq_run 2 (pc' := 69) (L' := [(.ref (232)), (zq_vi (x1)), (zq_vi (x2)), (zq_vi (x3)), (zq_vi (x4)), (zq_vi (x_9))]) (st' := [(zq_vi (92)), (zq_vi (x_9))]) (fun _ _ _ => rfl) ?_
          refine zq_ne rfl (zq_ch_in hx_10) (of_decide_eq_true rfl) (fun hb_17 => ?_) (fun hb_17 => ?_)
          · rw [if_neg hb_17] at w
            refine zq_run 2 (pc' := 81) (L' := [(.ref (232)), (zq_vi (x1)), (zq_vi (x2)), (zq_vi (x3)), (zq_vi (x4)), (zq_vi (x_9))]) (st' := [(zq_vi (x_9)), (.ref (232))]) (fun _ _ _ => rfl) ?_
            refine zq_call_v (i := .invokevirtual 123) (r := [1, 150, 1, 1, 9]) rfl rfl (fun h hp => zr_avv rfl (hp.obj zq_a232)) (of_decide_eq_false rfl) w (fun s_18 w => ?_)
            refine zq_iinc (L' := [(.ref (232)), (zq_vi (x1)), (zq_vi (x2)), (zq_vi (x3)), (zq_vi (x4 + 1)), (zq_vi (x_9))]) rfl rfl rfl ?_
            refine zq_run 1 (pc' := 11) (L' := [(.ref (232)), (zq_vi (x1)), (zq_vi (x2)), (zq_vi (x3)), (zq_vi (x4 + 1)), (zq_vi (x_9))]) (st' := []) (fun _ _ _ => rfl) ?_
            exact w
          · rw [if_pos hb_17] at w
            refine zq_run 2 (pc' := 75) (L' := [(.ref (232)), (zq_vi (x1)), (zq_vi (x2)), (zq_vi (x3)), (zq_vi (x4)), (zq_vi (x_9))]) (st' := [(zq_vi (92)), (.ref (232))]) (fun _ _ _ => rfl) ?_
            refine zq_call_v (i := .invokevirtual 123) (r := [1, 150, 1, 1, 9]) rfl rfl (fun h hp => zr_avv rfl (hp.obj zq_a232)) (of_decide_eq_false rfl) w (fun s_19 w => ?_)
            refine zq_run 2 (pc' := 81) (L' := [(.ref (232)), (zq_vi (x1)), (zq_vi (x2)), (zq_vi (x3)), (zq_vi (x4)), (zq_vi (x_9))]) (st' := [(zq_vi (x_9)), (.ref (232))]) (fun _ _ _ => rfl) ?_
            refine zq_call_v (i := .invokevirtual 123) (r := [1, 150, 1, 1, 9]) rfl rfl (fun h hp => zr_avv rfl (hp.obj zq_a232)) (of_decide_eq_false rfl) w (fun s_20 w => ?_)
            refine zq_iinc (L' := [(.ref (232)), (zq_vi (x1)), (zq_vi (x2)), (zq_vi (x3)), (zq_vi (x4 + 1)), (zq_vi (x_9))]) rfl rfl rfl ?_
            refine zq_run 1 (pc' := 11) (L' := [(.ref (232)), (zq_vi (x1)), (zq_vi (x2)), (zq_vi (x3)), (zq_vi (x4 + 1)), (zq_vi (x_9))]) (st' := []) (fun _ _ _ => rfl) ?_
            exact w
    · rw [if_pos hb_7] at w
      refine zq_run 2 (pc' := 34) (L' := [(.ref (232)), (zq_vi (x1)), (zq_vi (x2)), (zq_vi (x3)), (zq_vi (x4)), v5]) (st' := [(zq_vi (1)), (zq_vi (x4))]) (fun _ _ _ => rfl) ?_
      refine zq_iadd rfl ?_
      refine zq_run 5 (pc' := 46) (L' := [(.ref (232)), (zq_vi (x1)), (zq_vi (x2)), (zq_vi (x3)), (zq_vi (x4 + 1)), v5]) (st' := [(zq_vi (x4 + 1)), (zq_vi (x1)), (.ref (232))]) (fun _ _ _ => rfl) ?_
      refine zq_call_i (i := .invokevirtual 119) (r := [1, 147, 2, 1, 9]) rfl rfl (fun h hp => zr_avv rfl (hp.obj zq_a232)) (of_decide_eq_false rfl) w (fun x_22 s_21 hx_23 w => ?_)
      refine zq_run 3 (pc' := 55) (L' := [(.ref (232)), (zq_vi (x1)), (zq_vi (x2)), (zq_vi (x3)), (zq_vi (x4 + 1)), (zq_vi (x_22))]) (st' := [(zq_vi (40)), (zq_vi (x_22))]) (fun _ _ _ => rfl) ?_
      refine zq_eq rfl (zq_ch_in hx_23) (of_decide_eq_true rfl) (fun hb_24 => ?_) (fun hb_24 => ?_)
      · rw [if_pos hb_24] at w
        refine zq_run 2 (pc' := 75) (L' := [(.ref (232)), (zq_vi (x1)), (zq_vi (x2)), (zq_vi (x3)), (zq_vi (x4 + 1)), (zq_vi (x_22))]) (st' := [(zq_vi (92)), (.ref (232))]) (fun _ _ _ => rfl) ?_
        refine zq_call_v (i := .invokevirtual 123) (r := [1, 150, 1, 1, 9]) rfl rfl (fun h hp => zr_avv rfl (hp.obj zq_a232)) (of_decide_eq_false rfl) w (fun s_25 w => ?_)
        refine zq_run 2 (pc' := 81) (L' := [(.ref (232)), (zq_vi (x1)), (zq_vi (x2)), (zq_vi (x3)), (zq_vi (x4 + 1)), (zq_vi (x_22))]) (st' := [(zq_vi (x_22)), (.ref (232))]) (fun _ _ _ => rfl) ?_
        refine zq_call_v (i := .invokevirtual 123) (r := [1, 150, 1, 1, 9]) rfl rfl (fun h hp => zr_avv rfl (hp.obj zq_a232)) (of_decide_eq_false rfl) w (fun s_26 w => ?_)
        refine zq_iinc (L' := [(.ref (232)), (zq_vi (x1)), (zq_vi (x2)), (zq_vi (x3)), (zq_vi ((x4 + 1) + 1)), (zq_vi (x_22))]) rfl rfl rfl ?_
        refine zq_run 1 (pc' := 11) (L' := [(.ref (232)), (zq_vi (x1)), (zq_vi (x2)), (zq_vi (x3)), (zq_vi ((x4 + 1) + 1)), (zq_vi (x_22))]) (st' := []) (fun _ _ _ => rfl) ?_
        exact w
      · rw [if_neg hb_24] at w
        refine zq_run 2 (pc' := 62) (L' := [(.ref (232)), (zq_vi (x1)), (zq_vi (x2)), (zq_vi (x3)), (zq_vi (x4 + 1)), (zq_vi (x_22))]) (st' := [(zq_vi (41)), (zq_vi (x_22))]) (fun _ _ _ => rfl) ?_
        refine zq_eq rfl (zq_ch_in hx_23) (of_decide_eq_true rfl) (fun hb_27 => ?_) (fun hb_27 => ?_)
        · rw [if_pos hb_27] at w
          refine zq_run 2 (pc' := 75) (L' := [(.ref (232)), (zq_vi (x1)), (zq_vi (x2)), (zq_vi (x3)), (zq_vi (x4 + 1)), (zq_vi (x_22))]) (st' := [(zq_vi (92)), (.ref (232))]) (fun _ _ _ => rfl) ?_
          refine zq_call_v (i := .invokevirtual 123) (r := [1, 150, 1, 1, 9]) rfl rfl (fun h hp => zr_avv rfl (hp.obj zq_a232)) (of_decide_eq_false rfl) w (fun s_28 w => ?_)
          refine zq_run 2 (pc' := 81) (L' := [(.ref (232)), (zq_vi (x1)), (zq_vi (x2)), (zq_vi (x3)), (zq_vi (x4 + 1)), (zq_vi (x_22))]) (st' := [(zq_vi (x_22)), (.ref (232))]) (fun _ _ _ => rfl) ?_
          refine zq_call_v (i := .invokevirtual 123) (r := [1, 150, 1, 1, 9]) rfl rfl (fun h hp => zr_avv rfl (hp.obj zq_a232)) (of_decide_eq_false rfl) w (fun s_29 w => ?_)
          refine zq_iinc (L' := [(.ref (232)), (zq_vi (x1)), (zq_vi (x2)), (zq_vi (x3)), (zq_vi ((x4 + 1) + 1)), (zq_vi (x_22))]) rfl rfl rfl ?_
          refine zq_run 1 (pc' := 11) (L' := [(.ref (232)), (zq_vi (x1)), (zq_vi (x2)), (zq_vi (x3)), (zq_vi ((x4 + 1) + 1)), (zq_vi (x_22))]) (st' := []) (fun _ _ _ => rfl) ?_
          exact w
        · rw [if_neg hb_27] at w
          refine zq_run 2 (pc' := 69) (L' := [(.ref (232)), (zq_vi (x1)), (zq_vi (x2)), (zq_vi (x3)), (zq_vi (x4 + 1)), (zq_vi (x_22))]) (st' := [(zq_vi (92)), (zq_vi (x_22))]) (fun _ _ _ => rfl) ?_
          refine zq_ne rfl (zq_ch_in hx_23) (of_decide_eq_true rfl) (fun hb_30 => ?_) (fun hb_30 => ?_)
          · rw [if_neg hb_30] at w
            refine zq_run 2 (pc' := 81) (L' := [(.ref (232)), (zq_vi (x1)), (zq_vi (x2)), (zq_vi (x3)), (zq_vi (x4 + 1)), (zq_vi (x_22))]) (st' := [(zq_vi (x_22)), (.ref (232))]) (fun _ _ _ => rfl) ?_
            refine zq_call_v (i := .invokevirtual 123) (r := [1, 150, 1, 1, 9]) rfl rfl (fun h hp => zr_avv rfl (hp.obj zq_a232)) (of_decide_eq_false rfl) w (fun s_31 w => ?_)
            refine zq_iinc (L' := [(.ref (232)), (zq_vi (x1)), (zq_vi (x2)), (zq_vi (x3)), (zq_vi ((x4 + 1) + 1)), (zq_vi (x_22))]) rfl rfl rfl ?_
            refine zq_run 1 (pc' := 11) (L' := [(.ref (232)), (zq_vi (x1)), (zq_vi (x2)), (zq_vi (x3)), (zq_vi ((x4 + 1) + 1)), (zq_vi (x_22))]) (st' := []) (fun _ _ _ => rfl) ?_
            exact w
          · rw [if_pos hb_30] at w
            refine zq_run 2 (pc' := 75) (L' := [(.ref (232)), (zq_vi (x1)), (zq_vi (x2)), (zq_vi (x3)), (zq_vi (x4 + 1)), (zq_vi (x_22))]) (st' := [(zq_vi (92)), (.ref (232))]) (fun _ _ _ => rfl) ?_
            refine zq_call_v (i := .invokevirtual 123) (r := [1, 150, 1, 1, 9]) rfl rfl (fun h hp => zr_avv rfl (hp.obj zq_a232)) (of_decide_eq_false rfl) w (fun s_32 w => ?_)
            refine zq_run 2 (pc' := 81) (L' := [(.ref (232)), (zq_vi (x1)), (zq_vi (x2)), (zq_vi (x3)), (zq_vi (x4 + 1)), (zq_vi (x_22))]) (st' := [(zq_vi (x_22)), (.ref (232))]) (fun _ _ _ => rfl) ?_
            refine zq_call_v (i := .invokevirtual 123) (r := [1, 150, 1, 1, 9]) rfl rfl (fun h hp => zr_avv rfl (hp.obj zq_a232)) (of_decide_eq_false rfl) w (fun s_33 w => ?_)
            refine zq_iinc (L' := [(.ref (232)), (zq_vi (x1)), (zq_vi (x2)), (zq_vi (x3)), (zq_vi ((x4 + 1) + 1)), (zq_vi (x_22))]) rfl rfl rfl ?_
            refine zq_run 1 (pc' := 11) (L' := [(.ref (232)), (zq_vi (x1)), (zq_vi (x2)), (zq_vi (x3)), (zq_vi ((x4 + 1) + 1)), (zq_vi (x_22))]) (st' := []) (fun _ _ _ => rfl) ?_
            exact w
/-- PaperObjectsModel.keepMade(I)V -/
theorem zw_170 {X : Nat × (Nat → Int32)} {s : zq_S} {K : zq_S → Prop} {x1 : Int} (hx1 : zq_iv x1) (w : zq_Ex X 170 2 [(.ref (232)), (zq_vi (x1)), (zq_vi (0))] [] s (zq_rv K)) : zq_Ex X 170 0 [(.ref (232)), (zq_vi (x1)), zz_no] [] s (zq_rv K) := by
  refine zq_run 2 (pc' := 2) (L' := [(.ref (232)), (zq_vi (x1)), (zq_vi (0))]) (st' := []) (fun _ _ _ => rfl) ?_
  exact w
/-- PaperObjectsModel.keepMade at 2 -/
theorem zw_170_2 {X : Nat × (Nat → Int32)} {s : zq_S} {K : zq_S → Prop} {x1 : Int} (hx1 : zq_iv x1) {x2 : Int} (hx2 : zq_iv x2) (w : (if x2 < zq_i s (232) (23) then (((0 : Int) ≤ x2 ∧ x2 < (700 : Int)) ∧ (((0 : Int) ≤ (500 * x1) + x2 ∧ (500 * x1) + x2 < (5000 : Int)) ∧ zq_Ex X 170 2 [(.ref (232)), (zq_vi (x1)), (zq_vi (x2 + 1))] [] (zq_si s (241) ((500 * x1) + x2) (zq_i s (245) (x2))) (zq_rv K))) else (((0 : Int) ≤ x1 ∧ x1 < (10 : Int)) ∧ K (zq_si s (240) (x1) (zq_i s (232) (23)))))) : zq_Ex X 170 2 [(.ref (232)), (zq_vi (x1)), (zq_vi (x2))] [] s (zq_rv K) := by
  refine zq_run 2 (pc' := 4) (L' := [(.ref (232)), (zq_vi (x1)), (zq_vi (x2))]) (st' := [(.ref (232)), (zq_vi (x2))]) (fun _ _ _ => rfl) ?_
  refine zq_have (fun hR_1 => ?_)
  refine zq_getf_i (j := 23) (v := zq_i s (232) (23)) rfl zq_a232 rfl rfl rfl ?_
  refine zq_ge rfl hx2 (hR_1.1 _ _) (fun hb_2 => ?_) (fun hb_2 => ?_)
  · rw [if_neg hb_2] at w
    refine zq_run 1 (pc' := 35) (L' := [(.ref (232)), (zq_vi (x1)), (zq_vi (x2))]) (st' := [(.ref (232))]) (fun _ _ _ => rfl) ?_
    refine zq_getf_f (b := 240) rfl zq_a232 rfl rfl ?_
    refine zq_run 2 (pc' := 40) (L' := [(.ref (232)), (zq_vi (x1)), (zq_vi (x2))]) (st' := [(.ref (232)), (zq_vi (x1)), (.ref (240))]) (fun _ _ _ => rfl) ?_
    refine zq_getf_i (j := 23) (v := zq_i s (232) (23)) rfl zq_a232 rfl rfl rfl ?_
    obtain ⟨g_3, w⟩ := w
    refine zq_ast_i rfl zq_a240 g_3.1 g_3.2 (hR_1.1 _ _) ?_
    exact zq_vret rfl rfl (⟨rfl, w⟩)
  · rw [if_pos hb_2] at w
    refine zq_run 1 (pc' := 11) (L' := [(.ref (232)), (zq_vi (x1)), (zq_vi (x2))]) (st' := [(.ref (232))]) (fun _ _ _ => rfl) ?_
    refine zq_getf_f (b := 241) rfl zq_a232 rfl rfl ?_
    refine zq_run 2 (pc' := 18) (L' := [(.ref (232)), (zq_vi (x1)), (zq_vi (x2))]) (st' := [(zq_vi (x1)), (zq_vi (500)), (.ref (241))]) (fun _ _ _ => rfl) ?_
    refine zq_imul rfl ?_
    refine zq_run 1 (pc' := 20) (L' := [(.ref (232)), (zq_vi (x1)), (zq_vi (x2))]) (st' := [(zq_vi (x2)), (zq_vi (500 * x1)), (.ref (241))]) (fun _ _ _ => rfl) ?_
    refine zq_iadd rfl ?_
    refine zq_run 1 (pc' := 22) (L' := [(.ref (232)), (zq_vi (x1)), (zq_vi (x2))]) (st' := [(.ref (232)), (zq_vi ((500 * x1) + x2)), (.ref (241))]) (fun _ _ _ => rfl) ?_
    refine zq_getf_f (b := 245) rfl zq_a232 rfl rfl ?_
    refine zq_run 1 (pc' := 26) (L' := [(.ref (232)), (zq_vi (x1)), (zq_vi (x2))]) (st' := [(zq_vi (x2)), (.ref (245)), (zq_vi ((500 * x1) + x2)), (.ref (241))]) (fun _ _ _ => rfl) ?_
    obtain ⟨g_4, w⟩ := w
    refine zq_ald_c (v := zq_i s (245) (x2)) rfl zq_a245 g_4.1 g_4.2 rfl ?_
    obtain ⟨g_5, w⟩ := w
    refine zq_ast_c rfl zq_a241 g_5.1 g_5.2 (hR_1.2.1 _ _ _ zq_a245) ?_
    refine zq_iinc (L' := [(.ref (232)), (zq_vi (x1)), (zq_vi (x2 + 1))]) rfl rfl rfl ?_
    refine zq_run 1 (pc' := 2) (L' := [(.ref (232)), (zq_vi (x1)), (zq_vi (x2 + 1))]) (st' := []) (fun _ _ _ => rfl) ?_
    exact w
/-- PaperObjectsModel.touch(I)V -/
theorem zw_171 {X : Nat × (Nat → Int32)} {s : zq_S} {K : zq_S → Prop} {x1 : Int} (hx1 : zq_iv x1) (w : (((0 : Int) ≤ x1 ∧ x1 < (10 : Int)) ∧ K (zq_si (zq_si s (239) (x1) (1)) (232) (19) ((-1))))) : zq_Ex X 171 0 [(.ref (232)), (zq_vi (x1))] [] s (zq_rv K) := by
  refine zq_run 1 (pc' := 1) (L' := [(.ref (232)), (zq_vi (x1))]) (st' := [(.ref (232))]) (fun _ _ _ => rfl) ?_
  refine zq_getf_f (b := 239) rfl zq_a232 rfl rfl ?_
  refine zq_run 2 (pc' := 6) (L' := [(.ref (232)), (zq_vi (x1))]) (st' := [(zq_vi (1)), (zq_vi (x1)), (.ref (239))]) (fun _ _ _ => rfl) ?_
  obtain ⟨g_1, w⟩ := w
  refine zq_ast_b rfl zq_a239 g_1.1 g_1.2 (of_decide_eq_true rfl) ?_
  refine zq_run 2 (pc' := 9) (L' := [(.ref (232)), (zq_vi (x1))]) (st' := [(zq_vi ((-1))), (.ref (232))]) (fun _ _ _ => rfl) ?_
  refine zq_putf_i (j := 19) rfl zq_a232 rfl rfl rfl (of_decide_eq_true rfl) ?_
  exact zq_vret rfl rfl (⟨rfl, w⟩)
