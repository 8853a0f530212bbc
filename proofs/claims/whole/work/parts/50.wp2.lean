/-! weakest preconditions of methods 39-78 80-85: printed by program (genW.py) -/
/-- PaperObjects.countOfBytes(J)I -/
theorem zw_39 {X : Nat × (Nat → Int32)} {s : zq_S} {K : Int → zq_S → Prop} {y0 : Int64} (w : zq_Ex X 39 2 [(.long (y0)), zz_no, (zq_vi (0))] [] s (zq_rp zq_iv K)) : zq_Ex X 39 0 [(.long (y0)), zz_no, zz_no] [] s (zq_rp zq_iv K) := by
  refine zq_run 2 (pc' := 2) (L' := [(.long (y0)), zz_no, (zq_vi (0))]) (st' := []) (fun _ _ _ => rfl) ?_
  exact w
/-- PaperObjects.countOfBytes at 2 -/
theorem zw_39_2 {X : Nat × (Nat → Int32)} {s : zq_S} {K : Int → zq_S → Prop} {y0 : Int64} {x2 : Int} (hx2 : zq_iv x2) (w : (if x2 < 8 then (zq_Ex X 21 0 [(.long (y0)), zz_no, (zq_vi (x2))] [] s (zq_rp zq_iv fun x_3 s_2 => (if x_3 = 0 then K (x2) s_2 else zq_Ex X 39 2 [(.long (y0)), zz_no, (zq_vi (x2 + 1))] [] s_2 (zq_rp zq_iv K)))) else K (x2) s)) : zq_Ex X 39 2 [(.long (y0)), zz_no, (zq_vi (x2))] [] s (zq_rp zq_iv K) := by
  refine zq_run 2 (pc' := 5) (L' := [(.long (y0)), zz_no, (zq_vi (x2))]) (st' := [(zq_vi (8)), (zq_vi (x2))]) (fun _ _ _ => rfl) ?_
  refine zq_ge rfl hx2 (of_decide_eq_true rfl) (fun hb_1 => ?_) (fun hb_1 => ?_)
  · rw [if_neg hb_1] at w
    refine zq_run 1 (pc' := 23) (L' := [(.long (y0)), zz_no, (zq_vi (x2))]) (st' := [(zq_vi (x2))]) (fun _ _ _ => rfl) ?_
    exact zq_iret rfl rfl rfl (⟨_, rfl, hx2, w⟩)
  · rw [if_pos hb_1] at w
    refine zq_run 2 (pc' := 10) (L' := [(.long (y0)), zz_no, (zq_vi (x2))]) (st' := [(zq_vi (x2)), (.long (y0))]) (fun _ _ _ => rfl) ?_
    refine zq_call_i (i := .invokestatic 83) (r := [1, 21, 2, 0, 0]) rfl rfl (fun _ _ => rfl) (of_decide_eq_false rfl) w (fun x_3 s_2 hx_4 w => ?_)
    refine zq_eq0 rfl hx_4 (fun hb_5 => ?_) (fun hb_5 => ?_)
    · rw [if_pos hb_5] at w
      refine zq_run 1 (pc' := 23) (L' := [(.long (y0)), zz_no, (zq_vi (x2))]) (st' := [(zq_vi (x2))]) (fun _ _ _ => rfl) ?_
      exact zq_iret rfl rfl rfl (⟨_, rfl, hx2, w⟩)
    · rw [if_neg hb_5] at w
      refine zq_iinc (L' := [(.long (y0)), zz_no, (zq_vi (x2 + 1))]) rfl rfl rfl ?_
      refine zq_run 1 (pc' := 2) (L' := [(.long (y0)), zz_no, (zq_vi (x2 + 1))]) (st' := []) (fun _ _ _ => rfl) ?_
      exact w
/-- PaperObjects.isCharacter(I)Z -/
theorem zw_40 {X : Nat × (Nat → Int32)} {s : zq_S} {K : Int → zq_S → Prop} {x0 : Int} (hx0 : zq_iv x0) (w : (if x0 = 10 then K (1) s else (if x0 < 32 then K (0) s else (if x0 ≤ 126 then K (1) s else K (0) s)))) : zq_Ex X 40 0 [(zq_vi (x0))] [] s (zq_rp zq_bo K) := by
  refine zq_run 2 (pc' := 3) (L' := [(zq_vi (x0))]) (st' := [(zq_vi (10)), (zq_vi (x0))]) (fun _ _ _ => rfl) ?_
  refine zq_eq rfl hx0 (of_decide_eq_true rfl) (fun hb_1 => ?_) (fun hb_1 => ?_)
  · rw [if_pos hb_1] at w
    refine zq_run 2 (pc' := 23) (L' := [(zq_vi (x0))]) (st' := [(zq_vi (1))]) (fun _ _ _ => rfl) ?_
    exact zq_iret rfl rfl (congrArg Value.int (zq_nb (of_decide_eq_true rfl))) (⟨_, rfl, (of_decide_eq_true rfl), w⟩)
  · rw [if_neg hb_1] at w
    refine zq_run 2 (pc' := 9) (L' := [(zq_vi (x0))]) (st' := [(zq_vi (32)), (zq_vi (x0))]) (fun _ _ _ => rfl) ?_
    refine zq_lt rfl hx0 (of_decide_eq_true rfl) (fun hb_2 => ?_) (fun hb_2 => ?_)
    · rw [if_pos hb_2] at w
      refine zq_run 1 (pc' := 23) (L' := [(zq_vi (x0))]) (st' := [(zq_vi (0))]) (fun _ _ _ => rfl) ?_
      exact zq_iret rfl rfl (congrArg Value.int (zq_nb (of_decide_eq_true rfl))) (⟨_, rfl, (of_decide_eq_true rfl), w⟩)
    · rw [if_neg hb_2] at w
      refine zq_run 2 (pc' := 15) (L' := [(zq_vi (x0))]) (st' := [(zq_vi (126)), (zq_vi (x0))]) (fun _ _ _ => rfl) ?_
      refine zq_gt rfl hx0 (of_decide_eq_true rfl) (fun hb_3 => ?_) (fun hb_3 => ?_)
      · rw [if_neg hb_3] at w
        refine zq_run 1 (pc' := 23) (L' := [(zq_vi (x0))]) (st' := [(zq_vi (0))]) (fun _ _ _ => rfl) ?_
        exact zq_iret rfl rfl (congrArg Value.int (zq_nb (of_decide_eq_true rfl))) (⟨_, rfl, (of_decide_eq_true rfl), w⟩)
      · rw [if_pos hb_3] at w
        refine zq_run 2 (pc' := 23) (L' := [(zq_vi (x0))]) (st' := [(zq_vi (1))]) (fun _ _ _ => rfl) ?_
        exact zq_iret rfl rfl (congrArg Value.int (zq_nb (of_decide_eq_true rfl))) (⟨_, rfl, (of_decide_eq_true rfl), w⟩)
/-- PaperObjects.put(I)V -/
theorem zw_41 {X : Nat × (Nat → Int32)} {s : zq_S} {K : zq_S → Prop} {T : Nat → zq_S → Prop} {x1 : Int} (hx1 : zq_iv x1) (w : (∃ b_2 : Nat, zq_r s (0) 8 = some b_2 ∧ (zq_Ex X 42 0 [(.ref (b_2)), (zq_vi (x1))] [] s (zq_rr 7 fun o_5 s_4 => ((o_5 = none → (zq_n s_4 < 1000 ∧ T 12 (zq_sx s_4 12))) ∧ (∀ b_6 : Nat, o_5 = some b_6 → (if zq_i s_4 (b_6) (0) = 0 then (if zq_i s_4 (b_6) (3) = 9 then (zq_n s_4 < 1000 ∧ T 11 (zq_sx s_4 11)) else (∃ b_39 : Nat, zq_r s_4 (0) 10 = some b_39 ∧ (zq_Ex X 43 0 [(.ref (5)), (.ref (1)), (.ref (b_39))] [] s_4 (zq_rp zq_bo fun x_42 s_41 => (zq_Ex X 15 0 [(.ref (1))] [] s_41 (zq_rv fun s_44 => (if x_42 = 0 then (if x_42 = 0 then (zq_n (zq_si s_44 (0) (11) (zq_i s_44 (5) (5))) < 1000 ∧ T 10 (zq_sx (zq_si s_44 (0) (11) (zq_i s_44 (5) (5))) 10)) else (∃ b_49 : Nat, zq_r s_44 (0) 10 = some b_49 ∧ (zq_Ex X 70 0 [(.ref (b_6)), (.ref (b_49)), zz_no] [] (zq_si s_44 (0) (11) (zq_i s_44 (5) (5))) (zq_rr 4 fun o_52 s_51 => ((o_52 = none → (zq_Ex X 71 0 [(.ref (3))] [] (zq_sr s_51 (0) (10) (none)) (zq_rv fun s_55 => K s_55))) ∧ (∀ b_53 : Nat, o_52 = some b_53 → (zq_Ex X 71 0 [(.ref (3))] [] (zq_sr s_51 (0) (10) (some (b_53))) (zq_rv fun s_56 => K s_56)))))))) else (if x_42 = 0 then (zq_n (zq_si s_44 (0) (11) ((-1))) < 1000 ∧ T 10 (zq_sx (zq_si s_44 (0) (11) ((-1))) 10)) else (∃ b_59 : Nat, zq_r s_44 (0) 10 = some b_59 ∧ (zq_Ex X 70 0 [(.ref (b_6)), (.ref (b_59)), zz_no] [] (zq_si s_44 (0) (11) ((-1))) (zq_rr 4 fun o_62 s_61 => ((o_62 = none → (zq_Ex X 71 0 [(.ref (3))] [] (zq_sr s_61 (0) (10) (none)) (zq_rv fun s_65 => K s_65))) ∧ (∀ b_63 : Nat, o_62 = some b_63 → (zq_Ex X 71 0 [(.ref (3))] [] (zq_sr s_61 (0) (10) (some (b_63))) (zq_rv fun s_66 => K s_66))))))))))))))) else (∃ b_10 : Nat, zq_r s_4 (0) 10 = some b_10 ∧ (zq_Ex X 43 0 [(.ref (5)), (.ref (1)), (.ref (b_10))] [] s_4 (zq_rp zq_bo fun x_13 s_12 => (zq_Ex X 15 0 [(.ref (1))] [] s_12 (zq_rv fun s_15 => (if x_13 = 0 then (if x_13 = 0 then (zq_n (zq_si s_15 (0) (11) (zq_i s_15 (5) (5))) < 1000 ∧ T 10 (zq_sx (zq_si s_15 (0) (11) (zq_i s_15 (5) (5))) 10)) else (∃ b_20 : Nat, zq_r s_15 (0) 10 = some b_20 ∧ (zq_Ex X 70 0 [(.ref (b_6)), (.ref (b_20)), zz_no] [] (zq_si s_15 (0) (11) (zq_i s_15 (5) (5))) (zq_rr 4 fun o_23 s_22 => ((o_23 = none → (zq_Ex X 71 0 [(.ref (3))] [] (zq_sr s_22 (0) (10) (none)) (zq_rv fun s_26 => K s_26))) ∧ (∀ b_24 : Nat, o_23 = some b_24 → (zq_Ex X 71 0 [(.ref (3))] [] (zq_sr s_22 (0) (10) (some (b_24))) (zq_rv fun s_27 => K s_27)))))))) else (if x_13 = 0 then (zq_n (zq_si s_15 (0) (11) ((-1))) < 1000 ∧ T 10 (zq_sx (zq_si s_15 (0) (11) ((-1))) 10)) else (∃ b_30 : Nat, zq_r s_15 (0) 10 = some b_30 ∧ (zq_Ex X 70 0 [(.ref (b_6)), (.ref (b_30)), zz_no] [] (zq_si s_15 (0) (11) ((-1))) (zq_rr 4 fun o_33 s_32 => ((o_33 = none → (zq_Ex X 71 0 [(.ref (3))] [] (zq_sr s_32 (0) (10) (none)) (zq_rv fun s_36 => K s_36))) ∧ (∀ b_34 : Nat, o_33 = some b_34 → (zq_Ex X 71 0 [(.ref (3))] [] (zq_sr s_32 (0) (10) (some (b_34))) (zq_rv fun s_37 => K s_37))))))))))))))))))))) : zq_Ex X 41 0 [(.ref (0)), (zq_vi (x1)), zz_no, zz_no] [] s (zq_rx (zq_rv K) T) := by
  refine zq_run 1 (pc' := 1) (L' := [(.ref (0)), (zq_vi (x1)), zz_no, zz_no]) (st' := [(.ref (0))]) (fun _ _ _ => rfl) ?_
  refine zq_have (fun hR_1 => ?_)
  obtain ⟨b_2, hb_3, w⟩ := w
  refine zq_getf_rs (j := 8) rfl zq_a0 rfl rfl hb_3 ?_
  refine zq_run 1 (pc' := 5) (L' := [(.ref (0)), (zq_vi (x1)), zz_no, zz_no]) (st' := [(zq_vi (x1)), (.ref (b_2))]) (fun _ _ _ => rfl) ?_
  refine zq_call_r (i := .invokevirtual 101) (r := [1, 42, 1, 1, 8]) rfl rfl (fun h hp => zr_avv rfl (hp.obj (zq_fcls hR_1 (k := 8) (j := 8) (cj := 8) zq_a0 rfl rfl hb_3))) (of_decide_eq_false rfl) w (fun s_4 w => ?_) (fun b_6 s_4 hb_7 w => ?_)
  · replace w := w.1 rfl
    refine zq_run 3 (pc' := 13) (L' := [(.ref (0)), (zq_vi (x1)), .null, zz_no]) (st' := []) (fun _ _ _ => rfl) ?_
    exact zq_throw rfl rfl (of_decide_eq_true rfl) w.1 (zq_thr w.2)
  · replace w := w.2 b_6 rfl
    refine zq_run 4 (pc' := 22) (L' := [(.ref (0)), (zq_vi (x1)), (.ref (b_6)), zz_no]) (st' := [(.ref (b_6))]) (fun _ _ _ => rfl) ?_
    refine zq_have (fun hR_8 => ?_)
    refine zq_getf_i (j := 0) (v := zq_i s_4 (b_6) (0)) rfl hb_7 rfl rfl rfl ?_
    refine zq_ne0 rfl (zq_bo_in (hR_8.2.2.2.1 _ 7 0 hb_7 rfl)) (fun hb_9 => ?_) (fun hb_9 => ?_)
    · rw [if_neg hb_9] at w
      refine zq_run 1 (pc' := 46) (L' := [(.ref (0)), (zq_vi (x1)), (.ref (b_6)), zz_no]) (st' := [(.ref (0))]) (fun _ _ _ => rfl) ?_
      refine zq_getf_f (b := 5) rfl zq_a0 rfl rfl ?_
      refine zq_run 1 (pc' := 50) (L' := [(.ref (0)), (zq_vi (x1)), (.ref (b_6)), zz_no]) (st' := [(.ref (0)), (.ref (5))]) (fun _ _ _ => rfl) ?_
      refine zq_getf_f (b := 1) rfl zq_a0 rfl rfl ?_
      refine zq_run 1 (pc' := 54) (L' := [(.ref (0)), (zq_vi (x1)), (.ref (b_6)), zz_no]) (st' := [(.ref (0)), (.ref (1)), (.ref (5))]) (fun _ _ _ => rfl) ?_
      obtain ⟨b_10, hb_11, w⟩ := w
      refine zq_getf_rs (j := 10) rfl zq_a0 rfl rfl hb_11 ?_
      refine zq_call_i (i := .invokevirtual 120) (r := [1, 43, 2, 1, 3]) rfl rfl (fun h hp => zr_avv rfl (hp.obj zq_a5)) (of_decide_eq_false rfl) w (fun x_13 s_12 hx_14 w => ?_)
      refine zq_run 2 (pc' := 62) (L' := [(.ref (0)), (zq_vi (x1)), (.ref (b_6)), (zq_vi (x_13))]) (st' := [(.ref (0))]) (fun _ _ _ => rfl) ?_
      refine zq_getf_f (b := 1) rfl zq_a0 rfl rfl ?_
      refine zq_call_v (i := .invokevirtual 124) (r := [1, 15, 0, 1, 1]) rfl rfl (fun h hp => zr_avv rfl (hp.obj zq_a1)) (of_decide_eq_false rfl) w (fun s_15 w => ?_)
      refine zq_run 2 (pc' := 70) (L' := [(.ref (0)), (zq_vi (x1)), (.ref (b_6)), (zq_vi (x_13))]) (st' := [(zq_vi (x_13)), (.ref (0))]) (fun _ _ _ => rfl) ?_
      refine zq_eq0 rfl (zq_bo_in hx_14) (fun hb_16 => ?_) (fun hb_16 => ?_)
      · rw [if_pos hb_16] at w
        refine zq_run 1 (pc' := 78) (L' := [(.ref (0)), (zq_vi (x1)), (.ref (b_6)), (zq_vi (x_13))]) (st' := [(.ref (0)), (.ref (0))]) (fun _ _ _ => rfl) ?_
        refine zq_getf_f (b := 5) rfl zq_a0 rfl rfl ?_
        refine zq_have (fun hR_17 => ?_)
        refine zq_getf_i (j := 5) (v := zq_i s_15 (5) (5)) rfl zq_a5 rfl rfl rfl ?_
        refine zq_putf_i (j := 11) rfl zq_a0 rfl rfl rfl (hR_17.1 _ _) ?_
        refine zq_run 1 (pc' := 88) (L' := [(.ref (0)), (zq_vi (x1)), (.ref (b_6)), (zq_vi (x_13))]) (st' := [(zq_vi (x_13))]) (fun _ _ _ => rfl) ?_
        refine zq_ne0 rfl (zq_bo_in hx_14) (fun hb_18 => ?_) (fun hb_18 => ?_)
        · rw [if_neg hb_18] at w
          refine zq_run 3 (pc' := 102) (L' := [(.ref (0)), (zq_vi (x1)), (.ref (b_6)), (zq_vi (x_13))]) (st' := [(.ref (0)), (.ref (b_6)), (.ref (0))]) (fun _ _ _ => rfl) ?_
          refine zq_have (fun hR_19 => ?_)
          obtain ⟨b_20, hb_21, w⟩ := w
          refine zq_getf_rs (j := 10) rfl zq_a0 rfl rfl hb_21 ?_
          refine zq_call_r (i := .invokevirtual 130) (r := [1, 70, 1, 1, 7]) rfl rfl (fun h hp => zr_avv rfl (hp.obj hb_7)) (of_decide_eq_false rfl) w (fun s_22 w => ?_) (fun b_24 s_22 hb_25 w => ?_)
          · replace w := w.1 rfl
            refine zq_putf_r (j := 10) (v := none) (cj := 4) rfl zq_a0 rfl rfl rfl (fun b hb => by cases hb) ?_
            refine zq_run 1 (pc' := 112) (L' := [(.ref (0)), (zq_vi (x1)), (.ref (b_6)), (zq_vi (x_13))]) (st' := [(.ref (0))]) (fun _ _ _ => rfl) ?_
            refine zq_getf_f (b := 3) rfl zq_a0 rfl rfl ?_
            refine zq_call_v (i := .invokevirtual 134) (r := [1, 71, 0, 1, 2]) rfl rfl (fun h hp => zr_avv rfl (hp.obj zq_a3)) (of_decide_eq_false rfl) w (fun s_26 w => ?_)
            exact zq_vret rfl rfl (Or.inl ⟨rfl, w⟩)
          · replace w := w.2 b_24 rfl
            refine zq_putf_r (j := 10) (v := some (b_24)) (cj := 4) rfl zq_a0 rfl rfl rfl (fun b hb => by cases hb; exact hb_25) ?_
            refine zq_run 1 (pc' := 112) (L' := [(.ref (0)), (zq_vi (x1)), (.ref (b_6)), (zq_vi (x_13))]) (st' := [(.ref (0))]) (fun _ _ _ => rfl) ?_
            refine zq_getf_f (b := 3) rfl zq_a0 rfl rfl ?_
            refine zq_call_v (i := .invokevirtual 134) (r := [1, 71, 0, 1, 2]) rfl rfl (fun h hp => zr_avv rfl (hp.obj zq_a3)) (of_decide_eq_false rfl) w (fun s_27 w => ?_)
            exact zq_vret rfl rfl (Or.inl ⟨rfl, w⟩)
        · rw [if_pos hb_18] at w
          exact zq_throw rfl rfl (of_decide_eq_true rfl) w.1 (zq_thr w.2)
      · rw [if_neg hb_16] at w
        refine zq_run 2 (pc' := 84) (L' := [(.ref (0)), (zq_vi (x1)), (.ref (b_6)), (zq_vi (x_13))]) (st' := [(zq_vi ((-1))), (.ref (0))]) (fun _ _ _ => rfl) ?_
        refine zq_putf_i (j := 11) rfl zq_a0 rfl rfl rfl (of_decide_eq_true rfl) ?_
        refine zq_run 1 (pc' := 88) (L' := [(.ref (0)), (zq_vi (x1)), (.ref (b_6)), (zq_vi (x_13))]) (st' := [(zq_vi (x_13))]) (fun _ _ _ => rfl) ?_
        refine zq_ne0 rfl (zq_bo_in hx_14) (fun hb_28 => ?_) (fun hb_28 => ?_)
        · rw [if_neg hb_28] at w
          refine zq_run 3 (pc' := 102) (L' := [(.ref (0)), (zq_vi (x1)), (.ref (b_6)), (zq_vi (x_13))]) (st' := [(.ref (0)), (.ref (b_6)), (.ref (0))]) (fun _ _ _ => rfl) ?_
          refine zq_have (fun hR_29 => ?_)
          obtain ⟨b_30, hb_31, w⟩ := w
          refine zq_getf_rs (j := 10) rfl zq_a0 rfl rfl hb_31 ?_
          refine zq_call_r (i := .invokevirtual 130) (r := [1, 70, 1, 1, 7]) rfl rfl (fun h hp => zr_avv rfl (hp.obj hb_7)) (of_decide_eq_false rfl) w (fun s_32 w => ?_) (fun b_34 s_32 hb_35 w => ?_)
          · replace w := w.1 rfl
            refine zq_putf_r (j := 10) (v := none) (cj := 4) rfl zq_a0 rfl rfl rfl (fun b hb => by cases hb) ?_
            refine zq_run 1 (pc' := 112) (L' := [(.ref (0)), (zq_vi (x1)), (.ref (b_6)), (zq_vi (x_13))]) (st' := [(.ref (0))]) (fun _ _ _ => rfl) ?_
            refine zq_getf_f (b := 3) rfl zq_a0 rfl rfl ?_
            refine zq_call_v (i := .invokevirtual 134) (r := [1, 71, 0, 1, 2]) rfl rfl (fun h hp => zr_avv rfl (hp.obj zq_a3)) (of_decide_eq_false rfl) w (fun s_36 w => ?_)
            exact zq_vret rfl rfl (Or.inl ⟨rfl, w⟩)
          · replace w := w.2 b_34 rfl
            refine zq_putf_r (j := 10) (v := some (b_34)) (cj := 4) rfl zq_a0 rfl rfl rfl (fun b hb => by cases hb; exact hb_35) ?_
            refine zq_run 1 (pc' := 112) (L' := [(.ref (0)), (zq_vi (x1)), (.ref (b_6)), (zq_vi (x_13))]) (st' := [(.ref (0))]) (fun _ _ _ => rfl) ?_
            refine zq_getf_f (b := 3) rfl zq_a0 rfl rfl ?_
            refine zq_call_v (i := .invokevirtual 134) (r := [1, 71, 0, 1, 2]) rfl rfl (fun h hp => zr_avv rfl (hp.obj zq_a3)) (of_decide_eq_false rfl) w (fun s_37 w => ?_)
            exact zq_vret rfl rfl (Or.inl ⟨rfl, w⟩)
        · rw [if_pos hb_28] at w
          exact zq_throw rfl rfl (of_decide_eq_true rfl) w.1 (zq_thr w.2)
    · rw [if_pos hb_9] at w
      refine zq_run 1 (pc' := 29) (L' := [(.ref (0)), (zq_vi (x1)), (.ref (b_6)), zz_no]) (st' := [(.ref (b_6))]) (fun _ _ _ => rfl) ?_
      refine zq_getf_i (j := 3) (v := zq_i s_4 (b_6) (3)) rfl hb_7 rfl rfl rfl ?_
      refine zq_run 1 (pc' := 34) (L' := [(.ref (0)), (zq_vi (x1)), (.ref (b_6)), zz_no]) (st' := [(zq_vi (9)), (zq_vi (zq_i s_4 (b_6) (3)))]) (fun _ _ _ => rfl) ?_
      refine zq_ne rfl (hR_8.1 _ _) (of_decide_eq_true rfl) (fun hb_38 => ?_) (fun hb_38 => ?_)
      · rw [if_neg hb_38] at w
        refine zq_run 1 (pc' := 46) (L' := [(.ref (0)), (zq_vi (x1)), (.ref (b_6)), zz_no]) (st' := [(.ref (0))]) (fun _ _ _ => rfl) ?_
        refine zq_getf_f (b := 5) rfl zq_a0 rfl rfl ?_
        refine zq_run 1 (pc' := 50) (L' := [(.ref (0)), (zq_vi (x1)), (.ref (b_6)), zz_no]) (st' := [(.ref (0)), (.ref (5))]) (fun _ _ _ => rfl) ?_
        refine zq_getf_f (b := 1) rfl zq_a0 rfl rfl ?_
        refine zq_run 1 (pc' := 54) (L' := [(.ref (0)), (zq_vi (x1)), (.ref (b_6)), zz_no]) (st' := [(.ref (0)), (.ref (1)), (.ref (5))]) (fun _ _ _ => rfl) ?_
        obtain ⟨b_39, hb_40, w⟩ := w
        refine zq_getf_rs (j := 10) rfl zq_a0 rfl rfl hb_40 ?_
        refine zq_call_i (i := .invokevirtual 120) (r := [1, 43, 2, 1, 3]) rfl rfl (fun h hp => zr_avv rfl (hp.obj zq_a5)) (of_decide_eq_false rfl) w (fun x_42 s_41 hx_43 w => ?_)
        refine zq_run 2 (pc' := 62) (L' := [(.ref (0)), (zq_vi (x1)), (.ref (b_6)), (zq_vi (x_42))]) (st' := [(.ref (0))]) (fun _ _ _ => rfl) ?_
        refine zq_getf_f (b := 1) rfl zq_a0 rfl rfl ?_
        refine zq_call_v (i := .invokevirtual 124) (r := [1, 15, 0, 1, 1]) rfl rfl (fun h hp => zr_avv rfl (hp.obj zq_a1)) (of_decide_eq_false rfl) w (fun s_44 w => ?_)
        refine zq_run 2 (pc' := 70) (L' := [(.ref (0)), (zq_vi (x1)), (.ref (b_6)), (zq_vi (x_42))]) (st' := [(zq_vi (x_42)), (.ref (0))]) (fun _ _ _ => rfl) ?_
        refine zq_eq0 rfl (zq_bo_in hx_43) (fun hb_45 => ?_) (fun hb_45 => ?_)
        · rw [if_pos hb_45] at w
          refine zq_run 1 (pc' := 78) (L' := [(.ref (0)), (zq_vi (x1)), (.ref (b_6)), (zq_vi (x_42))]) (st' := [(.ref (0)), (.ref (0))]) (fun _ _ _ => rfl) ?_
          refine zq_getf_f (b := 5) rfl zq_a0 rfl rfl ?_
          refine zq_have (fun hR_46 => ?_)
          refine zq_getf_i (j := 5) (v := zq_i s_44 (5) (5)) rfl zq_a5 rfl rfl rfl ?_
          refine zq_putf_i (j := 11) rfl zq_a0 rfl rfl rfl (hR_46.1 _ _) ?_
          refine zq_run 1 (pc' := 88) (L' := [(.ref (0)), (zq_vi (x1)), (.ref (b_6)), (zq_vi (x_42))]) (st' := [(zq_vi (x_42))]) (fun _ _ _ => rfl) ?_
          refine zq_ne0 rfl (zq_bo_in hx_43) (fun hb_47 => ?_) (fun hb_47 => ?_)
          · rw [if_neg hb_47] at w
            refine zq_run 3 (pc' := 102) (L' := [(.ref (0)), (zq_vi (x1)), (.ref (b_6)), (zq_vi (x_42))]) (st' := [(.ref (0)), (.ref (b_6)), (.ref (0))]) (fun _ _ _ => rfl) ?_
            refine zq_have (fun hR_48 => ?_)
            obtain ⟨b_49, hb_50, w⟩ := w
            refine zq_getf_rs (j := 10) rfl zq_a0 rfl rfl hb_50 ?_
            refine zq_call_r (i := .invokevirtual 130) (r := [1, 70, 1, 1, 7]) rfl rfl (fun h hp => zr_avv rfl (hp.obj hb_7)) (of_decide_eq_false rfl) w (fun s_51 w => ?_) (fun b_53 s_51 hb_54 w => ?_)
            · replace w := w.1 rfl
              refine zq_putf_r (j := 10) (v := none) (cj := 4) rfl zq_a0 rfl rfl rfl (fun b hb => by cases hb) ?_
              refine zq_run 1 (pc' := 112) (L' := [(.ref (0)), (zq_vi (x1)), (.ref (b_6)), (zq_vi (x_42))]) (st' := [(.ref (0))]) (fun _ _ _ => rfl) ?_
              refine zq_getf_f (b := 3) rfl zq_a0 rfl rfl ?_
              refine zq_call_v (i := .invokevirtual 134) (r := [1, 71, 0, 1, 2]) rfl rfl (fun h hp => zr_avv rfl (hp.obj zq_a3)) (of_decide_eq_false rfl) w (fun s_55 w => ?_)
              exact zq_vret rfl rfl (Or.inl ⟨rfl, w⟩)
            · replace w := w.2 b_53 rfl
              refine zq_putf_r (j := 10) (v := some (b_53)) (cj := 4) rfl zq_a0 rfl rfl rfl (fun b hb => by cases hb; exact hb_54) ?_
              refine zq_run 1 (pc' := 112) (L' := [(.ref (0)), (zq_vi (x1)), (.ref (b_6)), (zq_vi (x_42))]) (st' := [(.ref (0))]) (fun _ _ _ => rfl) ?_
              refine zq_getf_f (b := 3) rfl zq_a0 rfl rfl ?_
              refine zq_call_v (i := .invokevirtual 134) (r := [1, 71, 0, 1, 2]) rfl rfl (fun h hp => zr_avv rfl (hp.obj zq_a3)) (of_decide_eq_false rfl) w (fun s_56 w => ?_)
              exact zq_vret rfl rfl (Or.inl ⟨rfl, w⟩)
          · rw [if_pos hb_47] at w
            exact zq_throw rfl rfl (of_decide_eq_true rfl) w.1 (zq_thr w.2)
        · rw [if_neg hb_45] at w
          refine zq_run 2 (pc' := 84) (L' := [(.ref (0)), (zq_vi (x1)), (.ref (b_6)), (zq_vi (x_42))]) (st' := [(zq_vi ((-1))), (.ref (0))]) (fun _ _ _ => rfl) ?_
          refine zq_putf_i (j := 11) rfl zq_a0 rfl rfl rfl (of_decide_eq_true rfl) ?_
          refine zq_run 1 (pc' := 88) (L' := [(.ref (0)), (zq_vi (x1)), (.ref (b_6)), (zq_vi (x_42))]) (st' := [(zq_vi (x_42))]) (fun _ _ _ => rfl) ?_
          refine zq_ne0 rfl (zq_bo_in hx_43) (fun hb_57 => ?_) (fun hb_57 => ?_)
          · rw [if_neg hb_57] at w
            refine zq_run 3 (pc' := 102) (L' := [(.ref (0)), (zq_vi (x1)), (.ref (b_6)), (zq_vi (x_42))]) (st' := [(.ref (0)), (.ref (b_6)), (.ref (0))]) (fun _ _ _ => rfl) ?_
            refine zq_have (fun hR_58 => ?_)
            obtain ⟨b_59, hb_60, w⟩ := w
            refine zq_getf_rs (j := 10) rfl zq_a0 rfl rfl hb_60 ?_
            refine zq_call_r (i := .invokevirtual 130) (r := [1, 70, 1, 1, 7]) rfl rfl (fun h hp => zr_avv rfl (hp.obj hb_7)) (of_decide_eq_false rfl) w (fun s_61 w => ?_) (fun b_63 s_61 hb_64 w => ?_)
            · replace w := w.1 rfl
              refine zq_putf_r (j := 10) (v := none) (cj := 4) rfl zq_a0 rfl rfl rfl (fun b hb => by cases hb) ?_
              refine zq_run 1 (pc' := 112) (L' := [(.ref (0)), (zq_vi (x1)), (.ref (b_6)), (zq_vi (x_42))]) (st' := [(.ref (0))]) (fun _ _ _ => rfl) ?_
              refine zq_getf_f (b := 3) rfl zq_a0 rfl rfl ?_
              refine zq_call_v (i := .invokevirtual 134) (r := [1, 71, 0, 1, 2]) rfl rfl (fun h hp => zr_avv rfl (hp.obj zq_a3)) (of_decide_eq_false rfl) w (fun s_65 w => ?_)
              exact zq_vret rfl rfl (Or.inl ⟨rfl, w⟩)
            · replace w := w.2 b_63 rfl
              refine zq_putf_r (j := 10) (v := some (b_63)) (cj := 4) rfl zq_a0 rfl rfl rfl (fun b hb => by cases hb; exact hb_64) ?_
              refine zq_run 1 (pc' := 112) (L' := [(.ref (0)), (zq_vi (x1)), (.ref (b_6)), (zq_vi (x_42))]) (st' := [(.ref (0))]) (fun _ _ _ => rfl) ?_
              refine zq_getf_f (b := 3) rfl zq_a0 rfl rfl ?_
              refine zq_call_v (i := .invokevirtual 134) (r := [1, 71, 0, 1, 2]) rfl rfl (fun h hp => zr_avv rfl (hp.obj zq_a3)) (of_decide_eq_false rfl) w (fun s_66 w => ?_)
              exact zq_vret rfl rfl (Or.inl ⟨rfl, w⟩)
          · rw [if_pos hb_57] at w
            exact zq_throw rfl rfl (of_decide_eq_true rfl) w.1 (zq_thr w.2)
      · rw [if_pos hb_38] at w
        exact zq_throw rfl rfl (of_decide_eq_true rfl) w.1 (zq_thr w.2)
/-- PaperObjects$Table.slot(I)LPaperObjects$Slot; -/
theorem zw_42 {X : Nat × (Nat → Int32)} {s : zq_S} {K : Option Nat → zq_S → Prop} {a0 : Nat} (ha0 : zq_o 8 a0) {x1 : Int} (hx1 : zq_iv x1) (w : (if x1 < 1 then K none s else (if x1 ≤ 9 then (((0 : Int) ≤ x1 - 1 ∧ x1 - 1 < 9) ∧ K (some (a0 + 1 + 8 + 10 * (x1 - 1).toNat)) s) else K none s))) : zq_Ex X 42 0 [(.ref (a0)), (zq_vi (x1))] [] s (zq_rr 7 K) := by
  refine zq_run 2 (pc' := 2) (L' := [(.ref (a0)), (zq_vi (x1))]) (st' := [(zq_vi (1)), (zq_vi (x1))]) (fun _ _ _ => rfl) ?_
  refine zq_lt rfl hx1 (of_decide_eq_true rfl) (fun hb_1 => ?_) (fun hb_1 => ?_)
  · rw [if_pos hb_1] at w
    refine zq_run 1 (pc' := 23) (L' := [(.ref (a0)), (zq_vi (x1))]) (st' := [.null]) (fun _ _ _ => rfl) ?_
    exact zq_aret (v := none) rfl rfl (⟨_, rfl, (fun b hb => by cases hb), w⟩)
  · rw [if_neg hb_1] at w
    refine zq_run 2 (pc' := 8) (L' := [(.ref (a0)), (zq_vi (x1))]) (st' := [(zq_vi (9)), (zq_vi (x1))]) (fun _ _ _ => rfl) ?_
    refine zq_gt rfl hx1 (of_decide_eq_true rfl) (fun hb_2 => ?_) (fun hb_2 => ?_)
    · rw [if_neg hb_2] at w
      refine zq_run 1 (pc' := 23) (L' := [(.ref (a0)), (zq_vi (x1))]) (st' := [.null]) (fun _ _ _ => rfl) ?_
      exact zq_aret (v := none) rfl rfl (⟨_, rfl, (fun b hb => by cases hb), w⟩)
    · rw [if_pos hb_2] at w
      refine zq_run 1 (pc' := 12) (L' := [(.ref (a0)), (zq_vi (x1))]) (st' := [(.ref (a0))]) (fun _ _ _ => rfl) ?_
      refine zq_getf_f (b := a0 + 1) rfl ha0 rfl rfl ?_
      refine zq_run 2 (pc' := 17) (L' := [(.ref (a0)), (zq_vi (x1))]) (st' := [(zq_vi (1)), (zq_vi (x1)), (.ref (a0 + 1))]) (fun _ _ _ => rfl) ?_
      refine zq_isub rfl ?_
      obtain ⟨g_3, w⟩ := w
      refine zq_ald_s rfl (zq_L8 ha0).1 g_3.1 g_3.2 ?_
      refine zq_run 1 (pc' := 23) (L' := [(.ref (a0)), (zq_vi (x1))]) (st' := [(.ref (a0 + 1 + 8 + 10 * (x1 - 1).toNat))]) (fun _ _ _ => rfl) ?_
      exact zq_aret (v := some (a0 + 1 + 8 + 10 * (x1 - 1).toNat)) rfl rfl (⟨_, rfl, (fun b hb => by cases hb; exact (zq_L8s ha0 g_3.1 g_3.2)), w⟩)
/-- PaperObjects$Reader.readWhole(LPaperObjects$Text;LPaperObjects$Tree;)Z -/
theorem zw_43 {X : Nat × (Nat → Int32)} {s : zq_S} {K : Int → zq_S → Prop} {a0 : Nat} (ha0 : zq_o 3 a0) {a1 : Nat} (ha1 : zq_o 1 a1) {a2 : Nat} (ha2 : zq_o 4 a2) (w : (zq_Ex X 44 0 [(.ref (a0)), (.ref (a1)), (zq_vi (0)), (.ref (a2)), zz_no] [] s (zq_rp zq_bo fun x_2 s_1 => (if x_2 = 0 then K (0) s_1 else (zq_Ex X 46 0 [(.ref (a1)), (zq_vi (zq_i s_1 (a0) (5))), zz_no] [] s_1 (zq_rp zq_iv fun x_7 s_6 => (if x_7 < zq_i (zq_si s_6 (a0) (5) (x_7)) (a1) (1) then K (0) (zq_si s_6 (a0) (5) (x_7)) else K (1) (zq_si s_6 (a0) (5) (x_7))))))))) : zq_Ex X 43 0 [(.ref (a0)), (.ref (a1)), (.ref (a2))] [] s (zq_rp zq_bo K) := by
  refine zq_run 4 (pc' := 4) (L' := [(.ref (a0)), (.ref (a1)), (.ref (a2))]) (st' := [(.ref (a2)), (zq_vi (0)), (.ref (a1)), (.ref (a0))]) (fun _ _ _ => rfl) ?_
  refine zq_call_i (i := .invokevirtual 34) (r := [1, 44, 3, 1, 3]) rfl rfl (fun h hp => zr_avv rfl (hp.obj ha0)) (of_decide_eq_false rfl) w (fun x_2 s_1 hx_3 w => ?_)
  refine zq_ne0 rfl (zq_bo_in hx_3) (fun hb_4 => ?_) (fun hb_4 => ?_)
  · rw [if_neg hb_4] at w
    refine zq_run 3 (pc' := 15) (L' := [(.ref (a0)), (.ref (a1)), (.ref (a2))]) (st' := [(.ref (a0)), (.ref (a1)), (.ref (a0))]) (fun _ _ _ => rfl) ?_
    refine zq_have (fun hR_5 => ?_)
    refine zq_getf_i (j := 5) (v := zq_i s_1 (a0) (5)) rfl ha0 rfl rfl rfl ?_
    refine zq_call_i (i := .invokevirtual 38) (r := [1, 46, 1, 1, 1]) rfl rfl (fun h hp => zr_avv rfl (hp.obj ha1)) (of_decide_eq_false rfl) w (fun x_7 s_6 hx_8 w => ?_)
    refine zq_putf_i (j := 5) rfl ha0 rfl rfl rfl hx_8 ?_
    refine zq_run 1 (pc' := 25) (L' := [(.ref (a0)), (.ref (a1)), (.ref (a2))]) (st' := [(.ref (a0))]) (fun _ _ _ => rfl) ?_
    refine zq_getf_i (j := 5) (v := x_7) rfl ha0 rfl rfl (by simp [zq_i_si, zq_i_sr, zq_i_sl]) ?_
    refine zq_run 1 (pc' := 29) (L' := [(.ref (a0)), (.ref (a1)), (.ref (a2))]) (st' := [(.ref (a1)), (zq_vi (x_7))]) (fun _ _ _ => rfl) ?_
    refine zq_have (fun hR_9 => ?_)
    refine zq_getf_i (j := 1) (v := zq_i (zq_si s_6 (a0) (5) (x_7)) (a1) (1)) rfl ha1 rfl rfl rfl ?_
    refine zq_lt rfl hx_8 (hR_9.1 _ _) (fun hb_10 => ?_) (fun hb_10 => ?_)
    · rw [if_pos hb_10] at w
      refine zq_run 1 (pc' := 40) (L' := [(.ref (a0)), (.ref (a1)), (.ref (a2))]) (st' := [(zq_vi (0))]) (fun _ _ _ => rfl) ?_
      exact zq_iret rfl rfl (congrArg Value.int (zq_nb (of_decide_eq_true rfl))) (⟨_, rfl, (of_decide_eq_true rfl), w⟩)
    · rw [if_neg hb_10] at w
      refine zq_run 2 (pc' := 40) (L' := [(.ref (a0)), (.ref (a1)), (.ref (a2))]) (st' := [(zq_vi (1))]) (fun _ _ _ => rfl) ?_
      exact zq_iret rfl rfl (congrArg Value.int (zq_nb (of_decide_eq_true rfl))) (⟨_, rfl, (of_decide_eq_true rfl), w⟩)
  · rw [if_pos hb_4] at w
    refine zq_run 1 (pc' := 11) (L' := [(.ref (a0)), (.ref (a1)), (.ref (a2))]) (st' := [(zq_vi (0))]) (fun _ _ _ => rfl) ?_
    exact zq_iret rfl rfl (congrArg Value.int (zq_nb (of_decide_eq_true rfl))) (⟨_, rfl, (of_decide_eq_true rfl), w⟩)
/-- PaperObjects$Reader.read(LPaperObjects$Text;ILPaperObjects$Tree;)Z -/
theorem zw_44 {X : Nat × (Nat → Int32)} {s : zq_S} {K : Int → zq_S → Prop} {a0 : Nat} (ha0 : zq_o 3 a0) {a1 : Nat} (ha1 : zq_o 1 a1) {x2 : Int} (hx2 : zq_iv x2) {a3 : Nat} (ha3 : zq_o 4 a3) (w : (zq_Ex X 45 0 [(.ref (a3))] [] (zq_sr (zq_sr s (a0) (0) (some (a1))) (a0) (1) (some (a3))) (zq_rv fun s_1 => zq_Ex X 44 35 [(.ref (a0)), (.ref (a1)), (zq_vi (x2)), (.ref (a3)), (zq_vi (0))] [] (zq_si (zq_sl (zq_si s_1 (a0) (3) (0)) (a0) (4) (0)) (a0) (5) (x2)) (zq_rp zq_bo K)))) : zq_Ex X 44 0 [(.ref (a0)), (.ref (a1)), (zq_vi (x2)), (.ref (a3)), zz_no] [] s (zq_rp zq_bo K) := by
  refine zq_run 2 (pc' := 2) (L' := [(.ref (a0)), (.ref (a1)), (zq_vi (x2)), (.ref (a3)), zz_no]) (st' := [(.ref (a1)), (.ref (a0))]) (fun _ _ _ => rfl) ?_
  refine zq_putf_r (j := 0) (v := some (a1)) (cj := 1) rfl ha0 rfl rfl rfl (fun b hb => by cases hb; exact ha1) ?_
  refine zq_run 2 (pc' := 7) (L' := [(.ref (a0)), (.ref (a1)), (zq_vi (x2)), (.ref (a3)), zz_no]) (st' := [(.ref (a3)), (.ref (a0))]) (fun _ _ _ => rfl) ?_
  refine zq_putf_r (j := 1) (v := some (a3)) (cj := 4) rfl ha0 rfl rfl rfl (fun b hb => by cases hb; exact ha3) ?_
  refine zq_run 1 (pc' := 11) (L' := [(.ref (a0)), (.ref (a1)), (zq_vi (x2)), (.ref (a3)), zz_no]) (st' := [(.ref (a0))]) (fun _ _ _ => rfl) ?_
  refine zq_getf_rs (j := 1) (b := a3) rfl ha0 rfl rfl (by simp [zq_r_si, zq_r_sr, zq_r_sl]) ?_
  refine zq_call_v (i := .invokevirtual 47) (r := [1, 45, 0, 1, 4]) rfl rfl (fun h hp => zr_avv rfl (hp.obj ha3)) (of_decide_eq_false rfl) w (fun s_1 w => ?_)
  refine zq_run 2 (pc' := 19) (L' := [(.ref (a0)), (.ref (a1)), (zq_vi (x2)), (.ref (a3)), zz_no]) (st' := [(zq_vi (0)), (.ref (a0))]) (fun _ _ _ => rfl) ?_
  refine zq_putf_i (j := 3) rfl ha0 rfl rfl rfl (of_decide_eq_true rfl) ?_
  refine zq_run 2 (pc' := 24) (L' := [(.ref (a0)), (.ref (a1)), (zq_vi (x2)), (.ref (a3)), zz_no]) (st' := [(.long (0)), (.ref (a0))]) (fun _ _ _ => rfl) ?_
  refine zq_putf_l (j := 4) rfl ha0 rfl rfl rfl ?_
  refine zq_run 2 (pc' := 29) (L' := [(.ref (a0)), (.ref (a1)), (zq_vi (x2)), (.ref (a3)), zz_no]) (st' := [(zq_vi (x2)), (.ref (a0))]) (fun _ _ _ => rfl) ?_
  refine zq_putf_i (j := 5) rfl ha0 rfl rfl rfl hx2 ?_
  refine zq_run 2 (pc' := 35) (L' := [(.ref (a0)), (.ref (a1)), (zq_vi (x2)), (.ref (a3)), (zq_vi (0))]) (st' := []) (fun _ _ _ => rfl) ?_
  exact w
/-- PaperObjects$Reader.read at 35 -/
theorem zw_44_35 {X : Nat × (Nat → Int32)} {s : zq_S} {K : Int → zq_S → Prop} {a0 : Nat} (ha0 : zq_o 3 a0) {a1 : Nat} (ha1 : zq_o 1 a1) {x2 : Int} (hx2 : zq_iv x2) {a3 : Nat} (ha3 : zq_o 4 a3) {x4 : Int} (hx4 : zq_iv x4) (w : (if x4 ≤ zq_i s (a1) (1) then (zq_Ex X 46 0 [(.ref (a1)), (zq_vi (zq_i s (a0) (5))), zz_no] [] s (zq_rp zq_iv fun x_4 s_3 => (zq_Ex X 47 0 [(.ref (a0)), zz_no] [] (zq_si s_3 (a0) (5) (x_4)) (zq_rp zq_bo fun x_7 s_6 => (if x_7 = 0 then (zq_Ex X 50 0 [(.ref (a0))] [] s_6 (zq_rp zq_bo fun x_13 s_12 => (if x_13 = 0 then (zq_Ex X 56 0 [(.ref (a0))] [] s_12 (zq_rp zq_bo fun x_17 s_16 => (if x_17 = 0 then K (0) s_16 else (if zq_i s_16 (a0) (3) = 0 then K (1) s_16 else zq_Ex X 44 35 [(.ref (a0)), (.ref (a1)), (zq_vi (x2)), (.ref (a3)), (zq_vi (x4 + 1))] [] s_16 (zq_rp zq_bo K))))) else (zq_Ex X 51 0 [(.ref (a0)), zz_no, zz_no, zz_no] [] s_12 (zq_rp zq_bo fun x_23 s_22 => (if x_23 = 0 then K (0) s_22 else (if zq_i s_22 (a0) (3) = 0 then K (1) s_22 else zq_Ex X 44 35 [(.ref (a0)), (.ref (a1)), (zq_vi (x2)), (.ref (a3)), (zq_vi (x4 + 1))] [] s_22 (zq_rp zq_bo K)))))))) else (if zq_i s_6 (a0) (3) = 0 then K (1) s_6 else zq_Ex X 44 35 [(.ref (a0)), (.ref (a1)), (zq_vi (x2)), (.ref (a3)), (zq_vi (x4 + 1))] [] s_6 (zq_rp zq_bo K))))))) else K (0) s)) : zq_Ex X 44 35 [(.ref (a0)), (.ref (a1)), (zq_vi (x2)), (.ref (a3)), (zq_vi (x4))] [] s (zq_rp zq_bo K) := by
  refine zq_run 2 (pc' := 38) (L' := [(.ref (a0)), (.ref (a1)), (zq_vi (x2)), (.ref (a3)), (zq_vi (x4))]) (st' := [(.ref (a1)), (zq_vi (x4))]) (fun _ _ _ => rfl) ?_
  refine zq_have (fun hR_1 => ?_)
  refine zq_getf_i (j := 1) (v := zq_i s (a1) (1)) rfl ha1 rfl rfl rfl ?_
  refine zq_gt rfl hx4 (hR_1.1 _ _) (fun hb_2 => ?_) (fun hb_2 => ?_)
  · rw [if_neg hb_2] at w
    refine zq_run 1 (pc' := 105) (L' := [(.ref (a0)), (.ref (a1)), (zq_vi (x2)), (.ref (a3)), (zq_vi (x4))]) (st' := [(zq_vi (0))]) (fun _ _ _ => rfl) ?_
    exact zq_iret rfl rfl (congrArg Value.int (zq_nb (of_decide_eq_true rfl))) (⟨_, rfl, (of_decide_eq_true rfl), w⟩)
  · rw [if_pos hb_2] at w
    refine zq_run 3 (pc' := 47) (L' := [(.ref (a0)), (.ref (a1)), (zq_vi (x2)), (.ref (a3)), (zq_vi (x4))]) (st' := [(.ref (a0)), (.ref (a1)), (.ref (a0))]) (fun _ _ _ => rfl) ?_
    refine zq_getf_i (j := 5) (v := zq_i s (a0) (5)) rfl ha0 rfl rfl rfl ?_
    refine zq_call_i (i := .invokevirtual 38) (r := [1, 46, 1, 1, 1]) rfl rfl (fun h hp => zr_avv rfl (hp.obj ha1)) (of_decide_eq_false rfl) w (fun x_4 s_3 hx_5 w => ?_)
    refine zq_putf_i (j := 5) rfl ha0 rfl rfl rfl hx_5 ?_
    refine zq_run 1 (pc' := 57) (L' := [(.ref (a0)), (.ref (a1)), (zq_vi (x2)), (.ref (a3)), (zq_vi (x4))]) (st' := [(.ref (a0))]) (fun _ _ _ => rfl) ?_
    refine zq_call_i (i := .invokevirtual 52) (r := [1, 47, 0, 1, 3]) rfl rfl (fun h hp => zr_avv rfl (hp.obj ha0)) (of_decide_eq_false rfl) w (fun x_7 s_6 hx_8 w => ?_)
    refine zq_ne0 rfl (zq_bo_in hx_8) (fun hb_9 => ?_) (fun hb_9 => ?_)
    · rw [if_neg hb_9] at w
      refine zq_run 1 (pc' := 90) (L' := [(.ref (a0)), (.ref (a1)), (zq_vi (x2)), (.ref (a3)), (zq_vi (x4))]) (st' := [(.ref (a0))]) (fun _ _ _ => rfl) ?_
      refine zq_have (fun hR_10 => ?_)
      refine zq_getf_i (j := 3) (v := zq_i s_6 (a0) (3)) rfl ha0 rfl rfl rfl ?_
      refine zq_ne0 rfl (hR_10.1 _ _) (fun hb_11 => ?_) (fun hb_11 => ?_)
      · rw [if_neg hb_11] at w
        refine zq_iinc (L' := [(.ref (a0)), (.ref (a1)), (zq_vi (x2)), (.ref (a3)), (zq_vi (x4 + 1))]) rfl rfl rfl ?_
        refine zq_run 1 (pc' := 35) (L' := [(.ref (a0)), (.ref (a1)), (zq_vi (x2)), (.ref (a3)), (zq_vi (x4 + 1))]) (st' := []) (fun _ _ _ => rfl) ?_
        exact w
      · rw [if_pos hb_11] at w
        refine zq_run 1 (pc' := 97) (L' := [(.ref (a0)), (.ref (a1)), (zq_vi (x2)), (.ref (a3)), (zq_vi (x4))]) (st' := [(zq_vi (1))]) (fun _ _ _ => rfl) ?_
        exact zq_iret rfl rfl (congrArg Value.int (zq_nb (of_decide_eq_true rfl))) (⟨_, rfl, (of_decide_eq_true rfl), w⟩)
    · rw [if_pos hb_9] at w
      refine zq_run 1 (pc' := 64) (L' := [(.ref (a0)), (.ref (a1)), (zq_vi (x2)), (.ref (a3)), (zq_vi (x4))]) (st' := [(.ref (a0))]) (fun _ _ _ => rfl) ?_
      refine zq_call_i (i := .invokevirtual 56) (r := [1, 50, 0, 1, 3]) rfl rfl (fun h hp => zr_avv rfl (hp.obj ha0)) (of_decide_eq_false rfl) w (fun x_13 s_12 hx_14 w => ?_)
      refine zq_eq0 rfl (zq_bo_in hx_14) (fun hb_15 => ?_) (fun hb_15 => ?_)
      · rw [if_pos hb_15] at w
        refine zq_run 1 (pc' := 81) (L' := [(.ref (a0)), (.ref (a1)), (zq_vi (x2)), (.ref (a3)), (zq_vi (x4))]) (st' := [(.ref (a0))]) (fun _ _ _ => rfl) ?_
        refine zq_call_i (i := .invokevirtual 62) (r := [1, 56, 0, 1, 3]) rfl rfl (fun h hp => zr_avv rfl (hp.obj ha0)) (of_decide_eq_false rfl) w (fun x_17 s_16 hx_18 w => ?_)
        refine zq_ne0 rfl (zq_bo_in hx_18) (fun hb_19 => ?_) (fun hb_19 => ?_)
        · rw [if_neg hb_19] at w
          refine zq_run 1 (pc' := 90) (L' := [(.ref (a0)), (.ref (a1)), (zq_vi (x2)), (.ref (a3)), (zq_vi (x4))]) (st' := [(.ref (a0))]) (fun _ _ _ => rfl) ?_
          refine zq_have (fun hR_20 => ?_)
          refine zq_getf_i (j := 3) (v := zq_i s_16 (a0) (3)) rfl ha0 rfl rfl rfl ?_
          refine zq_ne0 rfl (hR_20.1 _ _) (fun hb_21 => ?_) (fun hb_21 => ?_)
          · rw [if_neg hb_21] at w
            refine zq_iinc (L' := [(.ref (a0)), (.ref (a1)), (zq_vi (x2)), (.ref (a3)), (zq_vi (x4 + 1))]) rfl rfl rfl ?_
            refine zq_run 1 (pc' := 35) (L' := [(.ref (a0)), (.ref (a1)), (zq_vi (x2)), (.ref (a3)), (zq_vi (x4 + 1))]) (st' := []) (fun _ _ _ => rfl) ?_
            exact w
          · rw [if_pos hb_21] at w
            refine zq_run 1 (pc' := 97) (L' := [(.ref (a0)), (.ref (a1)), (zq_vi (x2)), (.ref (a3)), (zq_vi (x4))]) (st' := [(zq_vi (1))]) (fun _ _ _ => rfl) ?_
            exact zq_iret rfl rfl (congrArg Value.int (zq_nb (of_decide_eq_true rfl))) (⟨_, rfl, (of_decide_eq_true rfl), w⟩)
        · rw [if_pos hb_19] at w
          refine zq_run 1 (pc' := 88) (L' := [(.ref (a0)), (.ref (a1)), (zq_vi (x2)), (.ref (a3)), (zq_vi (x4))]) (st' := [(zq_vi (0))]) (fun _ _ _ => rfl) ?_
          exact zq_iret rfl rfl (congrArg Value.int (zq_nb (of_decide_eq_true rfl))) (⟨_, rfl, (of_decide_eq_true rfl), w⟩)
      · rw [if_neg hb_15] at w
        refine zq_run 1 (pc' := 71) (L' := [(.ref (a0)), (.ref (a1)), (zq_vi (x2)), (.ref (a3)), (zq_vi (x4))]) (st' := [(.ref (a0))]) (fun _ _ _ => rfl) ?_
        refine zq_call_i (i := .invokevirtual 59) (r := [1, 51, 0, 1, 3]) rfl rfl (fun h hp => zr_avv rfl (hp.obj ha0)) (of_decide_eq_false rfl) w (fun x_23 s_22 hx_24 w => ?_)
        refine zq_eq0 rfl (zq_bo_in hx_24) (fun hb_25 => ?_) (fun hb_25 => ?_)
        · rw [if_pos hb_25] at w
          refine zq_run 1 (pc' := 88) (L' := [(.ref (a0)), (.ref (a1)), (zq_vi (x2)), (.ref (a3)), (zq_vi (x4))]) (st' := [(zq_vi (0))]) (fun _ _ _ => rfl) ?_
          exact zq_iret rfl rfl (congrArg Value.int (zq_nb (of_decide_eq_true rfl))) (⟨_, rfl, (of_decide_eq_true rfl), w⟩)
        · rw [if_neg hb_25] at w
          refine zq_run 2 (pc' := 90) (L' := [(.ref (a0)), (.ref (a1)), (zq_vi (x2)), (.ref (a3)), (zq_vi (x4))]) (st' := [(.ref (a0))]) (fun _ _ _ => rfl) ?_
          refine zq_have (fun hR_26 => ?_)
          refine zq_getf_i (j := 3) (v := zq_i s_22 (a0) (3)) rfl ha0 rfl rfl rfl ?_
          refine zq_ne0 rfl (hR_26.1 _ _) (fun hb_27 => ?_) (fun hb_27 => ?_)
          · rw [if_neg hb_27] at w
            refine zq_iinc (L' := [(.ref (a0)), (.ref (a1)), (zq_vi (x2)), (.ref (a3)), (zq_vi (x4 + 1))]) rfl rfl rfl ?_
            refine zq_run 1 (pc' := 35) (L' := [(.ref (a0)), (.ref (a1)), (zq_vi (x2)), (.ref (a3)), (zq_vi (x4 + 1))]) (st' := []) (fun _ _ _ => rfl) ?_
            exact w
          · rw [if_pos hb_27] at w
            refine zq_run 1 (pc' := 97) (L' := [(.ref (a0)), (.ref (a1)), (zq_vi (x2)), (.ref (a3)), (zq_vi (x4))]) (st' := [(zq_vi (1))]) (fun _ _ _ => rfl) ?_
            exact zq_iret rfl rfl (congrArg Value.int (zq_nb (of_decide_eq_true rfl))) (⟨_, rfl, (of_decide_eq_true rfl), w⟩)
/-- PaperObjects$Tree.clear()V -/
theorem zw_45 {X : Nat × (Nat → Int32)} {s : zq_S} {K : zq_S → Prop} {a0 : Nat} (ha0 : zq_o 4 a0) (w : K (zq_si s (a0) (0) (0))) : zq_Ex X 45 0 [(.ref (a0))] [] s (zq_rv K) := by
  refine zq_run 2 (pc' := 2) (L' := [(.ref (a0))]) (st' := [(zq_vi (0)), (.ref (a0))]) (fun _ _ _ => rfl) ?_
  refine zq_putf_i (j := 0) rfl ha0 rfl rfl rfl (of_decide_eq_true rfl) ?_
  exact zq_vret rfl rfl (⟨rfl, w⟩)
/-- PaperObjects$Text.spacesEnd(I)I -/
theorem zw_46 {X : Nat × (Nat → Int32)} {s : zq_S} {K : Int → zq_S → Prop} {a0 : Nat} (ha0 : zq_o 1 a0) {x1 : Int} (hx1 : zq_iv x1) (w : zq_Ex X 46 2 [(.ref (a0)), (zq_vi (x1)), (zq_vi (x1))] [] s (zq_rp zq_iv K)) : zq_Ex X 46 0 [(.ref (a0)), (zq_vi (x1)), zz_no] [] s (zq_rp zq_iv K) := by
  refine zq_run 2 (pc' := 2) (L' := [(.ref (a0)), (zq_vi (x1)), (zq_vi (x1))]) (st' := []) (fun _ _ _ => rfl) ?_
  exact w
/-- PaperObjects$Text.spacesEnd at 2 -/
theorem zw_46_2 {X : Nat × (Nat → Int32)} {s : zq_S} {K : Int → zq_S → Prop} {a0 : Nat} (ha0 : zq_o 1 a0) {x1 : Int} (hx1 : zq_iv x1) {x2 : Int} (hx2 : zq_iv x2) (w : (if x2 < zq_i s (a0) (1) then (zq_Ex X 29 0 [(.ref (a0)), (zq_vi (x2))] [] s (zq_rp zq_iv fun x_4 s_3 => (if x_4 = 32 then zq_Ex X 46 2 [(.ref (a0)), (zq_vi (x1)), (zq_vi (x2 + 1))] [] s_3 (zq_rp zq_iv K) else (zq_Ex X 29 0 [(.ref (a0)), (zq_vi (x2))] [] s_3 (zq_rp zq_iv fun x_8 s_7 => (if x_8 = 10 then zq_Ex X 46 2 [(.ref (a0)), (zq_vi (x1)), (zq_vi (x2 + 1))] [] s_7 (zq_rp zq_iv K) else K (x2) s_7)))))) else K (x2) s)) : zq_Ex X 46 2 [(.ref (a0)), (zq_vi (x1)), (zq_vi (x2))] [] s (zq_rp zq_iv K) := by
  refine zq_run 2 (pc' := 4) (L' := [(.ref (a0)), (zq_vi (x1)), (zq_vi (x2))]) (st' := [(.ref (a0)), (zq_vi (x2))]) (fun _ _ _ => rfl) ?_
  refine zq_have (fun hR_1 => ?_)
  refine zq_getf_i (j := 1) (v := zq_i s (a0) (1)) rfl ha0 rfl rfl rfl ?_
  refine zq_ge rfl hx2 (hR_1.1 _ _) (fun hb_2 => ?_) (fun hb_2 => ?_)
  · rw [if_neg hb_2] at w
    refine zq_run 1 (pc' := 37) (L' := [(.ref (a0)), (zq_vi (x1)), (zq_vi (x2))]) (st' := [(zq_vi (x2))]) (fun _ _ _ => rfl) ?_
    exact zq_iret rfl rfl rfl (⟨_, rfl, hx2, w⟩)
  · rw [if_pos hb_2] at w
    refine zq_run 2 (pc' := 12) (L' := [(.ref (a0)), (zq_vi (x1)), (zq_vi (x2))]) (st' := [(zq_vi (x2)), (.ref (a0))]) (fun _ _ _ => rfl) ?_
    refine zq_call_i (i := .invokevirtual 36) (r := [1, 29, 1, 1, 1]) rfl rfl (fun h hp => zr_avv rfl (hp.obj ha0)) (of_decide_eq_false rfl) w (fun x_4 s_3 hx_5 w => ?_)
    refine zq_run 1 (pc' := 17) (L' := [(.ref (a0)), (zq_vi (x1)), (zq_vi (x2))]) (st' := [(zq_vi (32)), (zq_vi (x_4))]) (fun _ _ _ => rfl) ?_
    refine zq_eq rfl hx_5 (of_decide_eq_true rfl) (fun hb_6 => ?_) (fun hb_6 => ?_)
    · rw [if_pos hb_6] at w
      refine zq_iinc (L' := [(.ref (a0)), (zq_vi (x1)), (zq_vi (x2 + 1))]) rfl rfl rfl ?_
      refine zq_run 1 (pc' := 2) (L' := [(.ref (a0)), (zq_vi (x1)), (zq_vi (x2 + 1))]) (st' := []) (fun _ _ _ => rfl) ?_
      exact w
    · rw [if_neg hb_6] at w
      refine zq_run 2 (pc' := 22) (L' := [(.ref (a0)), (zq_vi (x1)), (zq_vi (x2))]) (st' := [(zq_vi (x2)), (.ref (a0))]) (fun _ _ _ => rfl) ?_
      refine zq_call_i (i := .invokevirtual 36) (r := [1, 29, 1, 1, 1]) rfl rfl (fun h hp => zr_avv rfl (hp.obj ha0)) (of_decide_eq_false rfl) w (fun x_8 s_7 hx_9 w => ?_)
      refine zq_run 1 (pc' := 27) (L' := [(.ref (a0)), (zq_vi (x1)), (zq_vi (x2))]) (st' := [(zq_vi (10)), (zq_vi (x_8))]) (fun _ _ _ => rfl) ?_
      refine zq_ne rfl hx_9 (of_decide_eq_true rfl) (fun hb_10 => ?_) (fun hb_10 => ?_)
      · rw [if_neg hb_10] at w
        refine zq_run 1 (pc' := 37) (L' := [(.ref (a0)), (zq_vi (x1)), (zq_vi (x2))]) (st' := [(zq_vi (x2))]) (fun _ _ _ => rfl) ?_
        exact zq_iret rfl rfl rfl (⟨_, rfl, hx2, w⟩)
      · rw [if_pos hb_10] at w
        refine zq_iinc (L' := [(.ref (a0)), (zq_vi (x1)), (zq_vi (x2 + 1))]) rfl rfl rfl ?_
        refine zq_run 1 (pc' := 2) (L' := [(.ref (a0)), (zq_vi (x1)), (zq_vi (x2 + 1))]) (st' := []) (fun _ _ _ => rfl) ?_
        exact w
/-- PaperObjects$Reader.takeClosing()Z -/
theorem zw_47 {X : Nat × (Nat → Int32)} {s : zq_S} {K : Int → zq_S → Prop} {a0 : Nat} (ha0 : zq_o 3 a0) (w : (if zq_i s (a0) (3) = 0 then K (0) s else (if (zq_l s (a0) 4) = (0) then (∃ b_4 : Nat, zq_r s (a0) 1 = some b_4 ∧ (((0 : Int) ≤ (zq_i s (a0) (3)) - 1 ∧ (zq_i s (a0) (3)) - 1 < (5 : Int)) ∧ (zq_Ex X 48 0 [(.ref (b_4)), (zq_vi (zq_i s (a0 + 1) ((zq_i s (a0) (3)) - 1)))] [] s (zq_rp zq_iv fun x_8 s_7 => (if x_8 = 6 then (∃ b_23 : Nat, zq_r s_7 (a0) 0 = some b_23 ∧ (zq_Ex X 49 0 [(.ref (b_23)), (zq_vi (zq_i s_7 (a0) (5))), (.ref (1000000 + 5)), zz_no] [] s_7 (zq_rp zq_bo fun x_26 s_25 => (if x_26 = 0 then K (0) s_25 else (zq_iv ((zq_i s_25 (a0) (5)) + 1) ∧ (zq_iv ((zq_i s_25 (a0) (3)) - 1) ∧ K (1) (zq_si (zq_si s_25 (a0) (5) ((zq_i s_25 (a0) (5)) + 1)) (a0) (3) ((zq_i s_25 (a0) (3)) - 1)))))))) else (∃ b_12 : Nat, zq_r s_7 (a0) 0 = some b_12 ∧ (zq_Ex X 49 0 [(.ref (b_12)), (zq_vi (zq_i s_7 (a0) (5))), (.ref (1000000 + 6)), zz_no] [] s_7 (zq_rp zq_bo fun x_15 s_14 => (if x_15 = 0 then K (0) s_14 else (zq_iv ((zq_i s_14 (a0) (5)) + 2) ∧ (zq_iv ((zq_i s_14 (a0) (3)) - 1) ∧ K (1) (zq_si (zq_si s_14 (a0) (5) ((zq_i s_14 (a0) (5)) + 2)) (a0) (3) ((zq_i s_14 (a0) (3)) - 1))))))))))))) else K (0) s))) : zq_Ex X 47 0 [(.ref (a0)), zz_no] [] s (zq_rp zq_bo K) := by
  refine zq_run 1 (pc' := 1) (L' := [(.ref (a0)), zz_no]) (st' := [(.ref (a0))]) (fun _ _ _ => rfl) ?_
  refine zq_have (fun hR_1 => ?_)
  refine zq_getf_i (j := 3) (v := zq_i s (a0) (3)) rfl ha0 rfl rfl rfl ?_
  refine zq_eq0 rfl (hR_1.1 _ _) (fun hb_2 => ?_) (fun hb_2 => ?_)
  · rw [if_pos hb_2] at w
    refine zq_run 1 (pc' := 17) (L' := [(.ref (a0)), zz_no]) (st' := [(zq_vi (0))]) (fun _ _ _ => rfl) ?_
    exact zq_iret rfl rfl (congrArg Value.int (zq_nb (of_decide_eq_true rfl))) (⟨_, rfl, (of_decide_eq_true rfl), w⟩)
  · rw [if_neg hb_2] at w
    refine zq_run 1 (pc' := 8) (L' := [(.ref (a0)), zz_no]) (st' := [(.ref (a0))]) (fun _ _ _ => rfl) ?_
    refine zq_getf_l (j := 4) (v := zq_l s (a0) 4) rfl ha0 rfl rfl rfl ?_
    refine zq_run 1 (pc' := 12) (L' := [(.ref (a0)), zz_no]) (st' := [(.long (0)), (.long (zq_l s (a0) 4))]) (fun _ _ _ => rfl) ?_
    refine zq_lceq rfl rfl (fun hb_3 => ?_) (fun hb_3 => ?_)
    · rw [if_pos hb_3] at w
      refine zq_run 1 (pc' := 19) (L' := [(.ref (a0)), zz_no]) (st' := [(.ref (a0))]) (fun _ _ _ => rfl) ?_
      obtain ⟨b_4, hb_5, w⟩ := w
      refine zq_getf_rs (j := 1) rfl ha0 rfl rfl hb_5 ?_
      refine zq_run 1 (pc' := 23) (L' := [(.ref (a0)), zz_no]) (st' := [(.ref (a0)), (.ref (b_4))]) (fun _ _ _ => rfl) ?_
      refine zq_getf_f (b := a0 + 1) rfl ha0 rfl rfl ?_
      refine zq_run 1 (pc' := 27) (L' := [(.ref (a0)), zz_no]) (st' := [(.ref (a0)), (.ref (a0 + 1)), (.ref (b_4))]) (fun _ _ _ => rfl) ?_
      refine zq_getf_i (j := 3) (v := zq_i s (a0) (3)) rfl ha0 rfl rfl rfl ?_
      refine zq_run 1 (pc' := 31) (L' := [(.ref (a0)), zz_no]) (st' := [(zq_vi (1)), (zq_vi (zq_i s (a0) (3))), (.ref (a0 + 1)), (.ref (b_4))]) (fun _ _ _ => rfl) ?_
      refine zq_isub rfl ?_
      obtain ⟨g_6, w⟩ := w
      refine zq_ald_i (v := zq_i s (a0 + 1) ((zq_i s (a0) (3)) - 1)) rfl (zq_L3 ha0) g_6.1 g_6.2 rfl ?_
      refine zq_call_i (i := .invokevirtual 65) (r := [1, 48, 1, 1, 4]) rfl rfl (fun h hp => zr_avv rfl (hp.obj (zq_fcls hR_1 (k := 1) (j := 1) (cj := 4) ha0 rfl rfl hb_5))) (of_decide_eq_false rfl) w (fun x_8 s_7 hx_9 w => ?_)
      refine zq_run 1 (pc' := 38) (L' := [(.ref (a0)), zz_no]) (st' := [(zq_vi (6)), (zq_vi (x_8))]) (fun _ _ _ => rfl) ?_
      refine zq_ne rfl hx_9 (of_decide_eq_true rfl) (fun hb_10 => ?_) (fun hb_10 => ?_)
      · rw [if_neg hb_10] at w
        refine zq_run 3 (pc' := 48) (L' := [(.ref (a0)), (zq_vi (0))]) (st' := [(.ref (a0))]) (fun _ _ _ => rfl) ?_
        refine zq_have (fun hR_11 => ?_)
        obtain ⟨b_12, hb_13, w⟩ := w
        refine zq_getf_rs (j := 0) rfl ha0 rfl rfl hb_13 ?_
        refine zq_run 1 (pc' := 52) (L' := [(.ref (a0)), (zq_vi (0))]) (st' := [(.ref (a0)), (.ref (b_12))]) (fun _ _ _ => rfl) ?_
        refine zq_getf_i (j := 5) (v := zq_i s_7 (a0) (5)) rfl ha0 rfl rfl rfl ?_
        refine zq_run 1 (pc' := 56) (L' := [(.ref (a0)), (zq_vi (0))]) (st' := [(zq_vi (0)), (zq_vi (zq_i s_7 (a0) (5))), (.ref (b_12))]) (fun _ _ _ => rfl) ?_
        refine zq_eq0 rfl (of_decide_eq_true rfl) (fun _ => ?_) (fun hb => absurd (by decide) hb)
        refine zq_run 1 (pc' := 66) (L' := [(.ref (a0)), (zq_vi (0))]) (st' := [(.ref (1000000 + 6)), (zq_vi (zq_i s_7 (a0) (5))), (.ref (b_12))]) (fun _ _ _ => rfl) ?_
        refine zq_call_i (i := .invokevirtual 72) (r := [1, 49, 2, 1, 1]) rfl rfl (fun h hp => zr_avv rfl (hp.obj (zq_fcls hR_11 (k := 0) (j := 0) (cj := 1) ha0 rfl rfl hb_13))) (of_decide_eq_false rfl) w (fun x_15 s_14 hx_16 w => ?_)
        refine zq_ne0 rfl (zq_bo_in hx_16) (fun hb_17 => ?_) (fun hb_17 => ?_)
        · rw [if_neg hb_17] at w
          refine zq_run 2 (pc' := 76) (L' := [(.ref (a0)), (zq_vi (0))]) (st' := [(.ref (a0)), (.ref (a0))]) (fun _ _ _ => rfl) ?_
          refine zq_have (fun hR_18 => ?_)
          refine zq_getf_i (j := 5) (v := zq_i s_14 (a0) (5)) rfl ha0 rfl rfl rfl ?_
          refine zq_run 1 (pc' := 80) (L' := [(.ref (a0)), (zq_vi (0))]) (st' := [(zq_vi (0)), (zq_vi (zq_i s_14 (a0) (5))), (.ref (a0))]) (fun _ _ _ => rfl) ?_
          refine zq_eq0 rfl (of_decide_eq_true rfl) (fun _ => ?_) (fun hb => absurd (by decide) hb)
          refine zq_run 1 (pc' := 88) (L' := [(.ref (a0)), (zq_vi (0))]) (st' := [(zq_vi (2)), (zq_vi (zq_i s_14 (a0) (5))), (.ref (a0))]) (fun _ _ _ => rfl) ?_
          refine zq_iadd rfl ?_
          obtain ⟨g_19, w⟩ := w
          refine zq_putf_i (j := 5) rfl ha0 rfl rfl rfl g_19 ?_
          refine zq_run 2 (pc' := 94) (L' := [(.ref (a0)), (zq_vi (0))]) (st' := [(.ref (a0)), (.ref (a0))]) (fun _ _ _ => rfl) ?_
          have e_20 : zq_i (zq_si s_14 (a0) (5) ((zq_i s_14 (a0) (5)) + 2)) (a0) (3) = zq_i s_14 (a0) (3) := by simp [zq_i_si, zq_i_sr, zq_i_sl]
          refine zq_getf_i (j := 3) (v := zq_i s_14 (a0) (3)) rfl ha0 rfl rfl e_20 ?_
          refine zq_run 1 (pc' := 98) (L' := [(.ref (a0)), (zq_vi (0))]) (st' := [(zq_vi (1)), (zq_vi (zq_i s_14 (a0) (3))), (.ref (a0))]) (fun _ _ _ => rfl) ?_
          refine zq_isub rfl ?_
          obtain ⟨g_21, w⟩ := w
          refine zq_putf_i (j := 3) rfl ha0 rfl rfl rfl g_21 ?_
          refine zq_run 1 (pc' := 103) (L' := [(.ref (a0)), (zq_vi (0))]) (st' := [(zq_vi (1))]) (fun _ _ _ => rfl) ?_
          exact zq_iret rfl rfl (congrArg Value.int (zq_nb (of_decide_eq_true rfl))) (⟨_, rfl, (of_decide_eq_true rfl), w⟩)
        · rw [if_pos hb_17] at w
          refine zq_run 1 (pc' := 73) (L' := [(.ref (a0)), (zq_vi (0))]) (st' := [(zq_vi (0))]) (fun _ _ _ => rfl) ?_
          exact zq_iret rfl rfl (congrArg Value.int (zq_nb (of_decide_eq_true rfl))) (⟨_, rfl, (of_decide_eq_true rfl), w⟩)
      · rw [if_pos hb_10] at w
        refine zq_run 4 (pc' := 48) (L' := [(.ref (a0)), (zq_vi (1))]) (st' := [(.ref (a0))]) (fun _ _ _ => rfl) ?_
        refine zq_have (fun hR_22 => ?_)
        obtain ⟨b_23, hb_24, w⟩ := w
        refine zq_getf_rs (j := 0) rfl ha0 rfl rfl hb_24 ?_
        refine zq_run 1 (pc' := 52) (L' := [(.ref (a0)), (zq_vi (1))]) (st' := [(.ref (a0)), (.ref (b_23))]) (fun _ _ _ => rfl) ?_
        refine zq_getf_i (j := 5) (v := zq_i s_7 (a0) (5)) rfl ha0 rfl rfl rfl ?_
        refine zq_run 1 (pc' := 56) (L' := [(.ref (a0)), (zq_vi (1))]) (st' := [(zq_vi (1)), (zq_vi (zq_i s_7 (a0) (5))), (.ref (b_23))]) (fun _ _ _ => rfl) ?_
        refine zq_eq0 rfl (of_decide_eq_true rfl) (fun hb => absurd hb (by decide)) (fun _ => ?_)
        refine zq_run 2 (pc' := 66) (L' := [(.ref (a0)), (zq_vi (1))]) (st' := [(.ref (1000000 + 5)), (zq_vi (zq_i s_7 (a0) (5))), (.ref (b_23))]) (fun _ _ _ => rfl) ?_
        refine zq_call_i (i := .invokevirtual 72) (r := [1, 49, 2, 1, 1]) rfl rfl (fun h hp => zr_avv rfl (hp.obj (zq_fcls hR_22 (k := 0) (j := 0) (cj := 1) ha0 rfl rfl hb_24))) (of_decide_eq_false rfl) w (fun x_26 s_25 hx_27 w => ?_)
        refine zq_ne0 rfl (zq_bo_in hx_27) (fun hb_28 => ?_) (fun hb_28 => ?_)
        · rw [if_neg hb_28] at w
          refine zq_run 2 (pc' := 76) (L' := [(.ref (a0)), (zq_vi (1))]) (st' := [(.ref (a0)), (.ref (a0))]) (fun _ _ _ => rfl) ?_
          refine zq_have (fun hR_29 => ?_)
          refine zq_getf_i (j := 5) (v := zq_i s_25 (a0) (5)) rfl ha0 rfl rfl rfl ?_
          refine zq_run 1 (pc' := 80) (L' := [(.ref (a0)), (zq_vi (1))]) (st' := [(zq_vi (1)), (zq_vi (zq_i s_25 (a0) (5))), (.ref (a0))]) (fun _ _ _ => rfl) ?_
          refine zq_eq0 rfl (of_decide_eq_true rfl) (fun hb => absurd hb (by decide)) (fun _ => ?_)
          refine zq_run 2 (pc' := 88) (L' := [(.ref (a0)), (zq_vi (1))]) (st' := [(zq_vi (1)), (zq_vi (zq_i s_25 (a0) (5))), (.ref (a0))]) (fun _ _ _ => rfl) ?_
          refine zq_iadd rfl ?_
          obtain ⟨g_30, w⟩ := w
          refine zq_putf_i (j := 5) rfl ha0 rfl rfl rfl g_30 ?_
          refine zq_run 2 (pc' := 94) (L' := [(.ref (a0)), (zq_vi (1))]) (st' := [(.ref (a0)), (.ref (a0))]) (fun _ _ _ => rfl) ?_
          have e_31 : zq_i (zq_si s_25 (a0) (5) ((zq_i s_25 (a0) (5)) + 1)) (a0) (3) = zq_i s_25 (a0) (3) := by simp [zq_i_si, zq_i_sr, zq_i_sl]
          refine zq_getf_i (j := 3) (v := zq_i s_25 (a0) (3)) rfl ha0 rfl rfl e_31 ?_
          refine zq_run 1 (pc' := 98) (L' := [(.ref (a0)), (zq_vi (1))]) (st' := [(zq_vi (1)), (zq_vi (zq_i s_25 (a0) (3))), (.ref (a0))]) (fun _ _ _ => rfl) ?_
          refine zq_isub rfl ?_
          obtain ⟨g_32, w⟩ := w
          refine zq_putf_i (j := 3) rfl ha0 rfl rfl rfl g_32 ?_
          refine zq_run 1 (pc' := 103) (L' := [(.ref (a0)), (zq_vi (1))]) (st' := [(zq_vi (1))]) (fun _ _ _ => rfl) ?_
          exact zq_iret rfl rfl (congrArg Value.int (zq_nb (of_decide_eq_true rfl))) (⟨_, rfl, (of_decide_eq_true rfl), w⟩)
        · rw [if_pos hb_28] at w
          refine zq_run 1 (pc' := 73) (L' := [(.ref (a0)), (zq_vi (1))]) (st' := [(zq_vi (0))]) (fun _ _ _ => rfl) ?_
          exact zq_iret rfl rfl (congrArg Value.int (zq_nb (of_decide_eq_true rfl))) (⟨_, rfl, (of_decide_eq_true rfl), w⟩)
    · rw [if_neg hb_3] at w
      refine zq_run 1 (pc' := 17) (L' := [(.ref (a0)), zz_no]) (st' := [(zq_vi (0))]) (fun _ _ _ => rfl) ?_
      exact zq_iret rfl rfl (congrArg Value.int (zq_nb (of_decide_eq_true rfl))) (⟨_, rfl, (of_decide_eq_true rfl), w⟩)
/-- PaperObjects$Tree.kindOf(I)I -/
theorem zw_48 {X : Nat × (Nat → Int32)} {s : zq_S} {K : Int → zq_S → Prop} {a0 : Nat} (ha0 : zq_o 4 a0) {x1 : Int} (hx1 : zq_iv x1) (w : (if x1 < 0 then K ((-1)) s else (if x1 < zq_i s (a0) (0) then (((0 : Int) ≤ x1 ∧ x1 < (12 : Int)) ∧ K (zq_i s (a0 + 1) (x1)) s) else K ((-1)) s))) : zq_Ex X 48 0 [(.ref (a0)), (zq_vi (x1))] [] s (zq_rp zq_iv K) := by
  refine zq_run 1 (pc' := 1) (L' := [(.ref (a0)), (zq_vi (x1))]) (st' := [(zq_vi (x1))]) (fun _ _ _ => rfl) ?_
  refine zq_lt0 rfl hx1 (fun hb_1 => ?_) (fun hb_1 => ?_)
  · rw [if_pos hb_1] at w
    refine zq_run 1 (pc' := 22) (L' := [(.ref (a0)), (zq_vi (x1))]) (st' := [(zq_vi ((-1)))]) (fun _ _ _ => rfl) ?_
    exact zq_iret rfl rfl rfl (⟨_, rfl, (of_decide_eq_true rfl), w⟩)
  · rw [if_neg hb_1] at w
    refine zq_run 2 (pc' := 6) (L' := [(.ref (a0)), (zq_vi (x1))]) (st' := [(.ref (a0)), (zq_vi (x1))]) (fun _ _ _ => rfl) ?_
    refine zq_have (fun hR_2 => ?_)
    refine zq_getf_i (j := 0) (v := zq_i s (a0) (0)) rfl ha0 rfl rfl rfl ?_
    refine zq_ge rfl hx1 (hR_2.1 _ _) (fun hb_3 => ?_) (fun hb_3 => ?_)
    · rw [if_neg hb_3] at w
      refine zq_run 1 (pc' := 22) (L' := [(.ref (a0)), (zq_vi (x1))]) (st' := [(zq_vi ((-1)))]) (fun _ _ _ => rfl) ?_
      exact zq_iret rfl rfl rfl (⟨_, rfl, (of_decide_eq_true rfl), w⟩)
    · rw [if_pos hb_3] at w
      refine zq_run 1 (pc' := 13) (L' := [(.ref (a0)), (zq_vi (x1))]) (st' := [(.ref (a0))]) (fun _ _ _ => rfl) ?_
      refine zq_getf_f (b := a0 + 1) rfl ha0 rfl rfl ?_
      refine zq_run 1 (pc' := 17) (L' := [(.ref (a0)), (zq_vi (x1))]) (st' := [(zq_vi (x1)), (.ref (a0 + 1))]) (fun _ _ _ => rfl) ?_
      obtain ⟨g_4, w⟩ := w
      refine zq_ald_i (v := zq_i s (a0 + 1) (x1)) rfl (zq_L4 ha0).1 g_4.1 g_4.2 rfl ?_
      refine zq_run 1 (pc' := 22) (L' := [(.ref (a0)), (zq_vi (x1))]) (st' := [(zq_vi (zq_i s (a0 + 1) (x1)))]) (fun _ _ _ => rfl) ?_
      exact zq_iret rfl rfl rfl (⟨_, rfl, (hR_2.1 _ _), w⟩)
/-- PaperObjects$Text.has(ILjava/lang/String;)Z -/
theorem zw_49 {X : Nat × (Nat → Int32)} {s : zq_S} {K : Int → zq_S → Prop} {a0 : Nat} (ha0 : zq_o 1 a0) {x1 : Int} (hx1 : zq_iv x1) {j2 : Nat} (hj_j2 : j2 < 1000000) (hl_j2 : (zq_str j2).length < 10000) (w : zq_Ex X 49 2 [(.ref (a0)), (zq_vi (x1)), (.ref (1000000 + j2)), (zq_vi (0))] [] s (zq_rp zq_bo K)) : zq_Ex X 49 0 [(.ref (a0)), (zq_vi (x1)), (.ref (1000000 + j2)), zz_no] [] s (zq_rp zq_bo K) := by
  refine zq_run 2 (pc' := 2) (L' := [(.ref (a0)), (zq_vi (x1)), (.ref (1000000 + j2)), (zq_vi (0))]) (st' := []) (fun _ _ _ => rfl) ?_
  exact w
/-- PaperObjects$Text.has at 2 -/
theorem zw_49_2 {X : Nat × (Nat → Int32)} {s : zq_S} {K : Int → zq_S → Prop} {a0 : Nat} (ha0 : zq_o 1 a0) {x1 : Int} (hx1 : zq_iv x1) {j2 : Nat} (hj_j2 : j2 < 1000000) (hl_j2 : (zq_str j2).length < 10000) {x3 : Int} (hx3 : zq_iv x3) (w : (if x3 < ((zq_str j2).length : Int) then (zq_Ex X 29 0 [(.ref (a0)), (zq_vi (x1 + x3))] [] s (zq_rp zq_iv fun x_3 s_2 => (((0 : Int) ≤ x3 ∧ x3 < ((zq_str j2).length : Int)) ∧ (zq_iv ((zq_str j2).getD (x3).toNat 0) ∧ (if x_3 = (zq_str j2).getD (x3).toNat 0 then zq_Ex X 49 2 [(.ref (a0)), (zq_vi (x1)), (.ref (1000000 + j2)), (zq_vi (x3 + 1))] [] s_2 (zq_rp zq_bo K) else K (0) s_2))))) else K (1) s)) : zq_Ex X 49 2 [(.ref (a0)), (zq_vi (x1)), (.ref (1000000 + j2)), (zq_vi (x3))] [] s (zq_rp zq_bo K) := by
  refine zq_run 2 (pc' := 4) (L' := [(.ref (a0)), (zq_vi (x1)), (.ref (1000000 + j2)), (zq_vi (x3))]) (st' := [(.ref (1000000 + j2)), (zq_vi (x3))]) (fun _ _ _ => rfl) ?_
  refine zq_strl (j := j2) (m := ((zq_str j2).length : Int)) rfl hj_j2 rfl rfl ?_
  refine zq_ge rfl hx3 (zq_inm hl_j2) (fun hb_1 => ?_) (fun hb_1 => ?_)
  · rw [if_neg hb_1] at w
    refine zq_run 1 (pc' := 34) (L' := [(.ref (a0)), (zq_vi (x1)), (.ref (1000000 + j2)), (zq_vi (x3))]) (st' := [(zq_vi (1))]) (fun _ _ _ => rfl) ?_
    exact zq_iret rfl rfl (congrArg Value.int (zq_nb (of_decide_eq_true rfl))) (⟨_, rfl, (of_decide_eq_true rfl), w⟩)
  · rw [if_pos hb_1] at w
    refine zq_run 3 (pc' := 13) (L' := [(.ref (a0)), (zq_vi (x1)), (.ref (1000000 + j2)), (zq_vi (x3))]) (st' := [(zq_vi (x3)), (zq_vi (x1)), (.ref (a0))]) (fun _ _ _ => rfl) ?_
    refine zq_iadd rfl ?_
    refine zq_call_i (i := .invokevirtual 36) (r := [1, 29, 1, 1, 1]) rfl rfl (fun h hp => zr_avv rfl (hp.obj ha0)) (of_decide_eq_false rfl) w (fun x_3 s_2 hx_4 w => ?_)
    refine zq_run 2 (pc' := 19) (L' := [(.ref (a0)), (zq_vi (x1)), (.ref (1000000 + j2)), (zq_vi (x3))]) (st' := [(zq_vi (x3)), (.ref (1000000 + j2)), (zq_vi (x_3))]) (fun _ _ _ => rfl) ?_
    obtain ⟨g_5, w⟩ := w
    refine zq_stra (j := j2) rfl hj_j2 hl_j2 g_5.1 g_5.2 rfl ?_
    obtain ⟨g_6, w⟩ := w
    refine zq_eq rfl hx_4 g_6 (fun hb_7 => ?_) (fun hb_7 => ?_)
    · rw [if_pos hb_7] at w
      refine zq_iinc (L' := [(.ref (a0)), (zq_vi (x1)), (.ref (1000000 + j2)), (zq_vi (x3 + 1))]) rfl rfl rfl ?_
      refine zq_run 1 (pc' := 2) (L' := [(.ref (a0)), (zq_vi (x1)), (.ref (1000000 + j2)), (zq_vi (x3 + 1))]) (st' := []) (fun _ _ _ => rfl) ?_
      exact w
    · rw [if_neg hb_7] at w
      refine zq_run 1 (pc' := 26) (L' := [(.ref (a0)), (zq_vi (x1)), (.ref (1000000 + j2)), (zq_vi (x3))]) (st' := [(zq_vi (0))]) (fun _ _ _ => rfl) ?_
      exact zq_iret rfl rfl (congrArg Value.int (zq_nb (of_decide_eq_true rfl))) (⟨_, rfl, (of_decide_eq_true rfl), w⟩)
/-- PaperObjects$Reader.wantsKey()Z -/
theorem zw_50 {X : Nat × (Nat → Int32)} {s : zq_S} {K : Int → zq_S → Prop} {a0 : Nat} (ha0 : zq_o 3 a0) (w : (if zq_i s (a0) (3) ≤ 0 then K (0) s else (if (zq_l s (a0) 4) = (0) then (∃ b_4 : Nat, zq_r s (a0) 1 = some b_4 ∧ (((0 : Int) ≤ (zq_i s (a0) (3)) - 1 ∧ (zq_i s (a0) (3)) - 1 < (5 : Int)) ∧ (zq_Ex X 48 0 [(.ref (b_4)), (zq_vi (zq_i s (a0 + 1) ((zq_i s (a0) (3)) - 1)))] [] s (zq_rp zq_iv fun x_8 s_7 => (if x_8 = 7 then K (1) s_7 else K (0) s_7))))) else K (0) s))) : zq_Ex X 50 0 [(.ref (a0))] [] s (zq_rp zq_bo K) := by
  refine zq_run 1 (pc' := 1) (L' := [(.ref (a0))]) (st' := [(.ref (a0))]) (fun _ _ _ => rfl) ?_
  refine zq_have (fun hR_1 => ?_)
  refine zq_getf_i (j := 3) (v := zq_i s (a0) (3)) rfl ha0 rfl rfl rfl ?_
  refine zq_le0 rfl (hR_1.1 _ _) (fun hb_2 => ?_) (fun hb_2 => ?_)
  · rw [if_pos hb_2] at w
    refine zq_run 1 (pc' := 44) (L' := [(.ref (a0))]) (st' := [(zq_vi (0))]) (fun _ _ _ => rfl) ?_
    exact zq_iret rfl rfl (congrArg Value.int (zq_nb (of_decide_eq_true rfl))) (⟨_, rfl, (of_decide_eq_true rfl), w⟩)
  · rw [if_neg hb_2] at w
    refine zq_run 1 (pc' := 8) (L' := [(.ref (a0))]) (st' := [(.ref (a0))]) (fun _ _ _ => rfl) ?_
    refine zq_getf_l (j := 4) (v := zq_l s (a0) 4) rfl ha0 rfl rfl rfl ?_
    refine zq_run 1 (pc' := 12) (L' := [(.ref (a0))]) (st' := [(.long (0)), (.long (zq_l s (a0) 4))]) (fun _ _ _ => rfl) ?_
    refine zq_lcne rfl rfl (fun hb_3 => ?_) (fun hb_3 => ?_)
    · rw [if_neg hb_3] at w
      refine zq_run 1 (pc' := 44) (L' := [(.ref (a0))]) (st' := [(zq_vi (0))]) (fun _ _ _ => rfl) ?_
      exact zq_iret rfl rfl (congrArg Value.int (zq_nb (of_decide_eq_true rfl))) (⟨_, rfl, (of_decide_eq_true rfl), w⟩)
    · rw [if_pos hb_3] at w
      refine zq_run 1 (pc' := 17) (L' := [(.ref (a0))]) (st' := [(.ref (a0))]) (fun _ _ _ => rfl) ?_
      obtain ⟨b_4, hb_5, w⟩ := w
      refine zq_getf_rs (j := 1) rfl ha0 rfl rfl hb_5 ?_
      refine zq_run 1 (pc' := 21) (L' := [(.ref (a0))]) (st' := [(.ref (a0)), (.ref (b_4))]) (fun _ _ _ => rfl) ?_
      refine zq_getf_f (b := a0 + 1) rfl ha0 rfl rfl ?_
      refine zq_run 1 (pc' := 25) (L' := [(.ref (a0))]) (st' := [(.ref (a0)), (.ref (a0 + 1)), (.ref (b_4))]) (fun _ _ _ => rfl) ?_
      refine zq_getf_i (j := 3) (v := zq_i s (a0) (3)) rfl ha0 rfl rfl rfl ?_
      refine zq_run 1 (pc' := 29) (L' := [(.ref (a0))]) (st' := [(zq_vi (1)), (zq_vi (zq_i s (a0) (3))), (.ref (a0 + 1)), (.ref (b_4))]) (fun _ _ _ => rfl) ?_
      refine zq_isub rfl ?_
      obtain ⟨g_6, w⟩ := w
      refine zq_ald_i (v := zq_i s (a0 + 1) ((zq_i s (a0) (3)) - 1)) rfl (zq_L3 ha0) g_6.1 g_6.2 rfl ?_
      refine zq_call_i (i := .invokevirtual 65) (r := [1, 48, 1, 1, 4]) rfl rfl (fun h hp => zr_avv rfl (hp.obj (zq_fcls hR_1 (k := 1) (j := 1) (cj := 4) ha0 rfl rfl hb_5))) (of_decide_eq_false rfl) w (fun x_8 s_7 hx_9 w => ?_)
      refine zq_run 1 (pc' := 36) (L' := [(.ref (a0))]) (st' := [(zq_vi (7)), (zq_vi (x_8))]) (fun _ _ _ => rfl) ?_
      refine zq_ne rfl hx_9 (of_decide_eq_true rfl) (fun hb_10 => ?_) (fun hb_10 => ?_)
      · rw [if_neg hb_10] at w
        refine zq_run 1 (pc' := 44) (L' := [(.ref (a0))]) (st' := [(zq_vi (0))]) (fun _ _ _ => rfl) ?_
        exact zq_iret rfl rfl (congrArg Value.int (zq_nb (of_decide_eq_true rfl))) (⟨_, rfl, (of_decide_eq_true rfl), w⟩)
      · rw [if_pos hb_10] at w
        refine zq_run 2 (pc' := 44) (L' := [(.ref (a0))]) (st' := [(zq_vi (1))]) (fun _ _ _ => rfl) ?_
        exact zq_iret rfl rfl (congrArg Value.int (zq_nb (of_decide_eq_true rfl))) (⟨_, rfl, (of_decide_eq_true rfl), w⟩)
/-- PaperObjects$Reader.takeKey()Z -/
theorem zw_51 {X : Nat × (Nat → Int32)} {s : zq_S} {K : Int → zq_S → Prop} {a0 : Nat} (ha0 : zq_o 3 a0) (w : (∃ b_2 : Nat, zq_r s (a0) 0 = some b_2 ∧ (zq_Ex X 52 0 [(.ref (b_2)), (zq_vi (zq_i s (a0) (5))), zz_no, zz_no] [] s (zq_rp zq_iv fun x_5 s_4 => (if x_5 = (-1) then K (0) s_4 else (∃ b_9 : Nat, zq_r s_4 (a0) 0 = some b_9 ∧ (zq_Ex X 54 0 [(.ref (b_9)), (zq_vi ((zq_i s_4 (a0) (5)) + 1)), (zq_vi (x_5)), zz_no, zz_no, zz_no] [] s_4 (zq_rl fun y_12 s_11 => (∃ b_14 : Nat, zq_r s_11 (a0) 1 = some b_14 ∧ (((0 : Int) ≤ (zq_i s_11 (a0) (3)) - 1 ∧ (zq_i s_11 (a0) (3)) - 1 < (5 : Int)) ∧ (zq_Ex X 55 0 [(.ref (b_14)), (zq_vi (zq_i s_11 (a0 + 1) ((zq_i s_11 (a0) (3)) - 1))), (.long (y_12)), zz_no, zz_no, zz_no] [] s_11 (zq_rp zq_iv fun x_18 s_17 => (if x_18 = (-1) then K (1) (zq_si (zq_sl s_17 (a0) (4) (y_12)) (a0) (5) (x_5)) else K (0) s_17))))))))))))) : zq_Ex X 51 0 [(.ref (a0)), zz_no, zz_no, zz_no] [] s (zq_rp zq_bo K) := by
  refine zq_run 1 (pc' := 1) (L' := [(.ref (a0)), zz_no, zz_no, zz_no]) (st' := [(.ref (a0))]) (fun _ _ _ => rfl) ?_
  refine zq_have (fun hR_1 => ?_)
  obtain ⟨b_2, hb_3, w⟩ := w
  refine zq_getf_rs (j := 0) rfl ha0 rfl rfl hb_3 ?_
  refine zq_run 1 (pc' := 5) (L' := [(.ref (a0)), zz_no, zz_no, zz_no]) (st' := [(.ref (a0)), (.ref (b_2))]) (fun _ _ _ => rfl) ?_
  refine zq_getf_i (j := 5) (v := zq_i s (a0) (5)) rfl ha0 rfl rfl rfl ?_
  refine zq_call_i (i := .invokevirtual 76) (r := [1, 52, 1, 1, 1]) rfl rfl (fun h hp => zr_avv rfl (hp.obj (zq_fcls hR_1 (k := 0) (j := 0) (cj := 1) ha0 rfl rfl hb_3))) (of_decide_eq_false rfl) w (fun x_5 s_4 hx_6 w => ?_)
  refine zq_run 3 (pc' := 14) (L' := [(.ref (a0)), (zq_vi (x_5)), zz_no, zz_no]) (st' := [(zq_vi ((-1))), (zq_vi (x_5))]) (fun _ _ _ => rfl) ?_
  refine zq_ne rfl hx_6 (of_decide_eq_true rfl) (fun hb_7 => ?_) (fun hb_7 => ?_)
  · rw [if_neg hb_7] at w
    refine zq_run 1 (pc' := 20) (L' := [(.ref (a0)), (zq_vi (x_5)), zz_no, zz_no]) (st' := [(.ref (a0))]) (fun _ _ _ => rfl) ?_
    refine zq_have (fun hR_8 => ?_)
    obtain ⟨b_9, hb_10, w⟩ := w
    refine zq_getf_rs (j := 0) rfl ha0 rfl rfl hb_10 ?_
    refine zq_run 1 (pc' := 24) (L' := [(.ref (a0)), (zq_vi (x_5)), zz_no, zz_no]) (st' := [(.ref (a0)), (.ref (b_9))]) (fun _ _ _ => rfl) ?_
    refine zq_getf_i (j := 5) (v := zq_i s_4 (a0) (5)) rfl ha0 rfl rfl rfl ?_
    refine zq_run 1 (pc' := 28) (L' := [(.ref (a0)), (zq_vi (x_5)), zz_no, zz_no]) (st' := [(zq_vi (1)), (zq_vi (zq_i s_4 (a0) (5))), (.ref (b_9))]) (fun _ _ _ => rfl) ?_
    refine zq_iadd rfl ?_
    refine zq_run 1 (pc' := 30) (L' := [(.ref (a0)), (zq_vi (x_5)), zz_no, zz_no]) (st' := [(zq_vi (x_5)), (zq_vi ((zq_i s_4 (a0) (5)) + 1)), (.ref (b_9))]) (fun _ _ _ => rfl) ?_
    refine zq_call_l (i := .invokevirtual 79) (r := [1, 54, 2, 1, 1]) rfl rfl (fun h hp => zr_avv rfl (hp.obj (zq_fcls hR_8 (k := 0) (j := 0) (cj := 1) ha0 rfl rfl hb_10))) (of_decide_eq_false rfl) w (fun y_12 s_11 w => ?_)
    refine zq_run 2 (pc' := 35) (L' := [(.ref (a0)), (zq_vi (x_5)), (.long (y_12)), zz_no]) (st' := [(.ref (a0))]) (fun _ _ _ => rfl) ?_
    refine zq_have (fun hR_13 => ?_)
    obtain ⟨b_14, hb_15, w⟩ := w
    refine zq_getf_rs (j := 1) rfl ha0 rfl rfl hb_15 ?_
    refine zq_run 1 (pc' := 39) (L' := [(.ref (a0)), (zq_vi (x_5)), (.long (y_12)), zz_no]) (st' := [(.ref (a0)), (.ref (b_14))]) (fun _ _ _ => rfl) ?_
    refine zq_getf_f (b := a0 + 1) rfl ha0 rfl rfl ?_
    refine zq_run 1 (pc' := 43) (L' := [(.ref (a0)), (zq_vi (x_5)), (.long (y_12)), zz_no]) (st' := [(.ref (a0)), (.ref (a0 + 1)), (.ref (b_14))]) (fun _ _ _ => rfl) ?_
    refine zq_getf_i (j := 3) (v := zq_i s_11 (a0) (3)) rfl ha0 rfl rfl rfl ?_
    refine zq_run 1 (pc' := 47) (L' := [(.ref (a0)), (zq_vi (x_5)), (.long (y_12)), zz_no]) (st' := [(zq_vi (1)), (zq_vi (zq_i s_11 (a0) (3))), (.ref (a0 + 1)), (.ref (b_14))]) (fun _ _ _ => rfl) ?_
    refine zq_isub rfl ?_
    obtain ⟨g_16, w⟩ := w
    refine zq_ald_i (v := zq_i s_11 (a0 + 1) ((zq_i s_11 (a0) (3)) - 1)) rfl (zq_L3 ha0) g_16.1 g_16.2 rfl ?_
    refine zq_run 1 (pc' := 50) (L' := [(.ref (a0)), (zq_vi (x_5)), (.long (y_12)), zz_no]) (st' := [(.long (y_12)), (zq_vi (zq_i s_11 (a0 + 1) ((zq_i s_11 (a0) (3)) - 1))), (.ref (b_14))]) (fun _ _ _ => rfl) ?_
    refine zq_call_i (i := .invokevirtual 83) (r := [1, 55, 2, 1, 4]) rfl rfl (fun h hp => zr_avv rfl (hp.obj (zq_fcls hR_13 (k := 1) (j := 1) (cj := 4) ha0 rfl rfl hb_15))) (of_decide_eq_false rfl) w (fun x_18 s_17 hx_19 w => ?_)
    refine zq_run 1 (pc' := 54) (L' := [(.ref (a0)), (zq_vi (x_5)), (.long (y_12)), zz_no]) (st' := [(zq_vi ((-1))), (zq_vi (x_18))]) (fun _ _ _ => rfl) ?_
    refine zq_eq rfl hx_19 (of_decide_eq_true rfl) (fun hb_20 => ?_) (fun hb_20 => ?_)
    · rw [if_pos hb_20] at w
      refine zq_run 2 (pc' := 61) (L' := [(.ref (a0)), (zq_vi (x_5)), (.long (y_12)), zz_no]) (st' := [(.long (y_12)), (.ref (a0))]) (fun _ _ _ => rfl) ?_
      refine zq_putf_l (j := 4) rfl ha0 rfl rfl rfl ?_
      refine zq_run 2 (pc' := 66) (L' := [(.ref (a0)), (zq_vi (x_5)), (.long (y_12)), zz_no]) (st' := [(zq_vi (x_5)), (.ref (a0))]) (fun _ _ _ => rfl) ?_
      refine zq_putf_i (j := 5) rfl ha0 rfl rfl rfl hx_6 ?_
      refine zq_run 1 (pc' := 70) (L' := [(.ref (a0)), (zq_vi (x_5)), (.long (y_12)), zz_no]) (st' := [(zq_vi (1))]) (fun _ _ _ => rfl) ?_
      exact zq_iret rfl rfl (congrArg Value.int (zq_nb (of_decide_eq_true rfl))) (⟨_, rfl, (of_decide_eq_true rfl), w⟩)
    · rw [if_neg hb_20] at w
      refine zq_run 1 (pc' := 58) (L' := [(.ref (a0)), (zq_vi (x_5)), (.long (y_12)), zz_no]) (st' := [(zq_vi (0))]) (fun _ _ _ => rfl) ?_
      exact zq_iret rfl rfl (congrArg Value.int (zq_nb (of_decide_eq_true rfl))) (⟨_, rfl, (of_decide_eq_true rfl), w⟩)
  · rw [if_pos hb_7] at w
    refine zq_run 1 (pc' := 18) (L' := [(.ref (a0)), (zq_vi (x_5)), zz_no, zz_no]) (st' := [(zq_vi (0))]) (fun _ _ _ => rfl) ?_
    exact zq_iret rfl rfl (congrArg Value.int (zq_nb (of_decide_eq_true rfl))) (⟨_, rfl, (of_decide_eq_true rfl), w⟩)
/-- PaperObjects$Text.nameEnd(I)I -/
theorem zw_52 {X : Nat × (Nat → Int32)} {s : zq_S} {K : Int → zq_S → Prop} {a0 : Nat} (ha0 : zq_o 1 a0) {x1 : Int} (hx1 : zq_iv x1) (w : zq_Ex X 52 4 [(.ref (a0)), (zq_vi (x1)), (zq_vi (x1 + 1)), zz_no] [] s (zq_rp zq_iv K)) : zq_Ex X 52 0 [(.ref (a0)), (zq_vi (x1)), zz_no, zz_no] [] s (zq_rp zq_iv K) := by
  refine zq_run 2 (pc' := 2) (L' := [(.ref (a0)), (zq_vi (x1)), zz_no, zz_no]) (st' := [(zq_vi (1)), (zq_vi (x1))]) (fun _ _ _ => rfl) ?_
  refine zq_iadd rfl ?_
  refine zq_run 1 (pc' := 4) (L' := [(.ref (a0)), (zq_vi (x1)), (zq_vi (x1 + 1)), zz_no]) (st' := []) (fun _ _ _ => rfl) ?_
  exact w
/-- PaperObjects$Text.nameEnd at 4 -/
theorem zw_52_4 {X : Nat × (Nat → Int32)} {s : zq_S} {K : Int → zq_S → Prop} {a0 : Nat} (ha0 : zq_o 1 a0) {x1 : Int} (hx1 : zq_iv x1) {x2 : Int} (hx2 : zq_iv x2) {v3 : Value} (hv3 : v3.category = 1) (w : (if x2 < zq_i s (a0) (1) then (zq_Ex X 29 0 [(.ref (a0)), (zq_vi (x2))] [] s (zq_rp zq_iv fun x_11 s_10 => (zq_Ex X 53 0 [(zq_vi (x_11))] [] s_10 (zq_rp zq_bo fun x_14 s_13 => (if x_14 = 0 then (zq_Ex X 29 0 [(.ref (a0)), (zq_vi (x1))] [] s_13 (zq_rp zq_iv fun x_18 s_17 => (if x_18 = 47 then (zq_iv ((x2 - x1) - 1) ∧ (if (x2 - x1) - 1 < 1 then K ((-1)) s_17 else (if (x2 - x1) - 1 ≤ 6 then K (x2) s_17 else K ((-1)) s_17))) else K ((-1)) s_17))) else zq_Ex X 52 4 [(.ref (a0)), (zq_vi (x1)), (zq_vi (x2 + 1)), v3] [] s_13 (zq_rp zq_iv K)))))) else (zq_Ex X 29 0 [(.ref (a0)), (zq_vi (x1))] [] s (zq_rp zq_iv fun x_4 s_3 => (if x_4 = 47 then (zq_iv ((x2 - x1) - 1) ∧ (if (x2 - x1) - 1 < 1 then K ((-1)) s_3 else (if (x2 - x1) - 1 ≤ 6 then K (x2) s_3 else K ((-1)) s_3))) else K ((-1)) s_3))))) : zq_Ex X 52 4 [(.ref (a0)), (zq_vi (x1)), (zq_vi (x2)), v3] [] s (zq_rp zq_iv K) := by
  refine zq_run 2 (pc' := 6) (L' := [(.ref (a0)), (zq_vi (x1)), (zq_vi (x2)), v3]) (st' := [(.ref (a0)), (zq_vi (x2))]) (fun _ _ _ => rfl) ?_
  refine zq_have (fun hR_1 => ?_)
  refine zq_getf_i (j := 1) (v := zq_i s (a0) (1)) rfl ha0 rfl rfl rfl ?_
  refine zq_ge rfl hx2 (hR_1.1 _ _) (fun hb_2 => ?_) (fun hb_2 => ?_)
  · rw [if_neg hb_2] at w
    refine zq_run 2 (pc' := 31) (L' := [(.ref (a0)), (zq_vi (x1)), (zq_vi (x2)), v3]) (st' := [(zq_vi (x1)), (zq_vi (x2))]) (fun _ _ _ => rfl) ?_
    refine zq_isub rfl ?_
    refine zq_run 1 (pc' := 33) (L' := [(.ref (a0)), (zq_vi (x1)), (zq_vi (x2)), v3]) (st' := [(zq_vi (1)), (zq_vi (x2 - x1))]) (fun _ _ _ => rfl) ?_
    refine zq_isub rfl ?_
    refine zq_run 3 (pc' := 37) (L' := [(.ref (a0)), (zq_vi (x1)), (zq_vi (x2)), (zq_vi ((x2 - x1) - 1))]) (st' := [(zq_vi (x1)), (.ref (a0))]) (fun _ _ _ => rfl) ?_
    refine zq_call_i (i := .invokevirtual 36) (r := [1, 29, 1, 1, 1]) rfl rfl (fun h hp => zr_avv rfl (hp.obj ha0)) (of_decide_eq_false rfl) w (fun x_4 s_3 hx_5 w => ?_)
    refine zq_run 1 (pc' := 42) (L' := [(.ref (a0)), (zq_vi (x1)), (zq_vi (x2)), (zq_vi ((x2 - x1) - 1))]) (st' := [(zq_vi (47)), (zq_vi (x_4))]) (fun _ _ _ => rfl) ?_
    refine zq_ne rfl hx_5 (of_decide_eq_true rfl) (fun hb_6 => ?_) (fun hb_6 => ?_)
    · rw [if_neg hb_6] at w
      refine zq_run 1 (pc' := 61) (L' := [(.ref (a0)), (zq_vi (x1)), (zq_vi (x2)), (zq_vi ((x2 - x1) - 1))]) (st' := [(zq_vi ((-1)))]) (fun _ _ _ => rfl) ?_
      exact zq_iret rfl rfl rfl (⟨_, rfl, (of_decide_eq_true rfl), w⟩)
    · rw [if_pos hb_6] at w
      refine zq_run 2 (pc' := 47) (L' := [(.ref (a0)), (zq_vi (x1)), (zq_vi (x2)), (zq_vi ((x2 - x1) - 1))]) (st' := [(zq_vi (1)), (zq_vi ((x2 - x1) - 1))]) (fun _ _ _ => rfl) ?_
      obtain ⟨g_7, w⟩ := w
      refine zq_lt rfl g_7 (of_decide_eq_true rfl) (fun hb_8 => ?_) (fun hb_8 => ?_)
      · rw [if_pos hb_8] at w
        refine zq_run 1 (pc' := 61) (L' := [(.ref (a0)), (zq_vi (x1)), (zq_vi (x2)), (zq_vi ((x2 - x1) - 1))]) (st' := [(zq_vi ((-1)))]) (fun _ _ _ => rfl) ?_
        exact zq_iret rfl rfl rfl (⟨_, rfl, (of_decide_eq_true rfl), w⟩)
      · rw [if_neg hb_8] at w
        refine zq_run 2 (pc' := 53) (L' := [(.ref (a0)), (zq_vi (x1)), (zq_vi (x2)), (zq_vi ((x2 - x1) - 1))]) (st' := [(zq_vi (6)), (zq_vi ((x2 - x1) - 1))]) (fun _ _ _ => rfl) ?_
        refine zq_gt rfl g_7 (of_decide_eq_true rfl) (fun hb_9 => ?_) (fun hb_9 => ?_)
        · rw [if_neg hb_9] at w
          refine zq_run 1 (pc' := 61) (L' := [(.ref (a0)), (zq_vi (x1)), (zq_vi (x2)), (zq_vi ((x2 - x1) - 1))]) (st' := [(zq_vi ((-1)))]) (fun _ _ _ => rfl) ?_
          exact zq_iret rfl rfl rfl (⟨_, rfl, (of_decide_eq_true rfl), w⟩)
        · rw [if_pos hb_9] at w
          refine zq_run 2 (pc' := 61) (L' := [(.ref (a0)), (zq_vi (x1)), (zq_vi (x2)), (zq_vi ((x2 - x1) - 1))]) (st' := [(zq_vi (x2))]) (fun _ _ _ => rfl) ?_
          exact zq_iret rfl rfl rfl (⟨_, rfl, hx2, w⟩)
  · rw [if_pos hb_2] at w
    refine zq_run 2 (pc' := 14) (L' := [(.ref (a0)), (zq_vi (x1)), (zq_vi (x2)), v3]) (st' := [(zq_vi (x2)), (.ref (a0))]) (fun _ _ _ => rfl) ?_
    refine zq_call_i (i := .invokevirtual 36) (r := [1, 29, 1, 1, 1]) rfl rfl (fun h hp => zr_avv rfl (hp.obj ha0)) (of_decide_eq_false rfl) w (fun x_11 s_10 hx_12 w => ?_)
    refine zq_call_i (i := .invokestatic 54) (r := [1, 53, 1, 0, 0]) rfl rfl (fun _ _ => rfl) (of_decide_eq_false rfl) w (fun x_14 s_13 hx_15 w => ?_)
    refine zq_eq0 rfl (zq_bo_in hx_15) (fun hb_16 => ?_) (fun hb_16 => ?_)
    · rw [if_pos hb_16] at w
      refine zq_run 2 (pc' := 31) (L' := [(.ref (a0)), (zq_vi (x1)), (zq_vi (x2)), v3]) (st' := [(zq_vi (x1)), (zq_vi (x2))]) (fun _ _ _ => rfl) ?_
      refine zq_isub rfl ?_
      refine zq_run 1 (pc' := 33) (L' := [(.ref (a0)), (zq_vi (x1)), (zq_vi (x2)), v3]) (st' := [(zq_vi (1)), (zq_vi (x2 - x1))]) (fun _ _ _ => rfl) ?_
      refine zq_isub rfl ?_
      refine zq_run 3 (pc' := 37) (L' := [(.ref (a0)), (zq_vi (x1)), (zq_vi (x2)), (zq_vi ((x2 - x1) - 1))]) (st' := [(zq_vi (x1)), (.ref (a0))]) (fun _ _ _ => rfl) ?_
      refine zq_call_i (i := .invokevirtual 36) (r := [1, 29, 1, 1, 1]) rfl rfl (fun h hp => zr_avv rfl (hp.obj ha0)) (of_decide_eq_false rfl) w (fun x_18 s_17 hx_19 w => ?_)
      refine zq_run 1 (pc' := 42) (L' := [(.ref (a0)), (zq_vi (x1)), (zq_vi (x2)), (zq_vi ((x2 - x1) - 1))]) (st' := [(zq_vi (47)), (zq_vi (x_18))]) (fun _ _ _ => rfl) ?_
      refine zq_ne rfl hx_19 (of_decide_eq_true rfl) (fun hb_20 => ?_) (fun hb_20 => ?_)
      · rw [if_neg hb_20] at w
        refine zq_run 1 (pc' := 61) (L' := [(.ref (a0)), (zq_vi (x1)), (zq_vi (x2)), (zq_vi ((x2 - x1) - 1))]) (st' := [(zq_vi ((-1)))]) (fun _ _ _ => rfl) ?_
        exact zq_iret rfl rfl rfl (⟨_, rfl, (of_decide_eq_true rfl), w⟩)
      · rw [if_pos hb_20] at w
        refine zq_run 2 (pc' := 47) (L' := [(.ref (a0)), (zq_vi (x1)), (zq_vi (x2)), (zq_vi ((x2 - x1) - 1))]) (st' := [(zq_vi (1)), (zq_vi ((x2 - x1) - 1))]) (fun _ _ _ => rfl) ?_
        obtain ⟨g_21, w⟩ := w
        refine zq_lt rfl g_21 (of_decide_eq_true rfl) (fun hb_22 => ?_) (fun hb_22 => ?_)
        · rw [if_pos hb_22] at w
          refine zq_run 1 (pc' := 61) (L' := [(.ref (a0)), (zq_vi (x1)), (zq_vi (x2)), (zq_vi ((x2 - x1) - 1))]) (st' := [(zq_vi ((-1)))]) (fun _ _ _ => rfl) ?_
          exact zq_iret rfl rfl rfl (⟨_, rfl, (of_decide_eq_true rfl), w⟩)
        · rw [if_neg hb_22] at w
          refine zq_run 2 (pc' := 53) (L' := [(.ref (a0)), (zq_vi (x1)), (zq_vi (x2)), (zq_vi ((x2 - x1) - 1))]) (st' := [(zq_vi (6)), (zq_vi ((x2 - x1) - 1))]) (fun _ _ _ => rfl) ?_
          refine zq_gt rfl g_21 (of_decide_eq_true rfl) (fun hb_23 => ?_) (fun hb_23 => ?_)
          · rw [if_neg hb_23] at w
            refine zq_run 1 (pc' := 61) (L' := [(.ref (a0)), (zq_vi (x1)), (zq_vi (x2)), (zq_vi ((x2 - x1) - 1))]) (st' := [(zq_vi ((-1)))]) (fun _ _ _ => rfl) ?_
            exact zq_iret rfl rfl rfl (⟨_, rfl, (of_decide_eq_true rfl), w⟩)
          · rw [if_pos hb_23] at w
            refine zq_run 2 (pc' := 61) (L' := [(.ref (a0)), (zq_vi (x1)), (zq_vi (x2)), (zq_vi ((x2 - x1) - 1))]) (st' := [(zq_vi (x2))]) (fun _ _ _ => rfl) ?_
            exact zq_iret rfl rfl rfl (⟨_, rfl, hx2, w⟩)
    · rw [if_neg hb_16] at w
      refine zq_iinc (L' := [(.ref (a0)), (zq_vi (x1)), (zq_vi (x2 + 1)), v3]) rfl rfl rfl ?_
      refine zq_run 1 (pc' := 4) (L' := [(.ref (a0)), (zq_vi (x1)), (zq_vi (x2 + 1)), v3]) (st' := []) (fun _ _ _ => rfl) ?_
      exact w
/-- PaperObjects.isNameCode(I)Z -/
theorem zw_53 {X : Nat × (Nat → Int32)} {s : zq_S} {K : Int → zq_S → Prop} {x0 : Int} (hx0 : zq_iv x0) (w : (if x0 < 48 then (if x0 < 97 then (if x0 < 65 then K (0) s else (if x0 ≤ 90 then K (1) s else K (0) s)) else (if x0 ≤ 122 then K (1) s else (if x0 < 65 then K (0) s else (if x0 ≤ 90 then K (1) s else K (0) s)))) else (if x0 ≤ 57 then K (1) s else (if x0 < 97 then (if x0 < 65 then K (0) s else (if x0 ≤ 90 then K (1) s else K (0) s)) else (if x0 ≤ 122 then K (1) s else (if x0 < 65 then K (0) s else (if x0 ≤ 90 then K (1) s else K (0) s))))))) : zq_Ex X 53 0 [(zq_vi (x0))] [] s (zq_rp zq_bo K) := by
  refine zq_run 2 (pc' := 3) (L' := [(zq_vi (x0))]) (st' := [(zq_vi (48)), (zq_vi (x0))]) (fun _ _ _ => rfl) ?_
  refine zq_lt rfl hx0 (of_decide_eq_true rfl) (fun hb_1 => ?_) (fun hb_1 => ?_)
  · rw [if_pos hb_1] at w
    refine zq_run 2 (pc' := 15) (L' := [(zq_vi (x0))]) (st' := [(zq_vi (97)), (zq_vi (x0))]) (fun _ _ _ => rfl) ?_
    refine zq_lt rfl hx0 (of_decide_eq_true rfl) (fun hb_2 => ?_) (fun hb_2 => ?_)
    · rw [if_pos hb_2] at w
      refine zq_run 2 (pc' := 27) (L' := [(zq_vi (x0))]) (st' := [(zq_vi (65)), (zq_vi (x0))]) (fun _ _ _ => rfl) ?_
      refine zq_lt rfl hx0 (of_decide_eq_true rfl) (fun hb_3 => ?_) (fun hb_3 => ?_)
      · rw [if_pos hb_3] at w
        refine zq_run 1 (pc' := 41) (L' := [(zq_vi (x0))]) (st' := [(zq_vi (0))]) (fun _ _ _ => rfl) ?_
        exact zq_iret rfl rfl (congrArg Value.int (zq_nb (of_decide_eq_true rfl))) (⟨_, rfl, (of_decide_eq_true rfl), w⟩)
      · rw [if_neg hb_3] at w
        refine zq_run 2 (pc' := 33) (L' := [(zq_vi (x0))]) (st' := [(zq_vi (90)), (zq_vi (x0))]) (fun _ _ _ => rfl) ?_
        refine zq_gt rfl hx0 (of_decide_eq_true rfl) (fun hb_4 => ?_) (fun hb_4 => ?_)
        · rw [if_neg hb_4] at w
          refine zq_run 1 (pc' := 41) (L' := [(zq_vi (x0))]) (st' := [(zq_vi (0))]) (fun _ _ _ => rfl) ?_
          exact zq_iret rfl rfl (congrArg Value.int (zq_nb (of_decide_eq_true rfl))) (⟨_, rfl, (of_decide_eq_true rfl), w⟩)
        · rw [if_pos hb_4] at w
          refine zq_run 2 (pc' := 41) (L' := [(zq_vi (x0))]) (st' := [(zq_vi (1))]) (fun _ _ _ => rfl) ?_
          exact zq_iret rfl rfl (congrArg Value.int (zq_nb (of_decide_eq_true rfl))) (⟨_, rfl, (of_decide_eq_true rfl), w⟩)
    · rw [if_neg hb_2] at w
      refine zq_run 2 (pc' := 21) (L' := [(zq_vi (x0))]) (st' := [(zq_vi (122)), (zq_vi (x0))]) (fun _ _ _ => rfl) ?_
      refine zq_le rfl hx0 (of_decide_eq_true rfl) (fun hb_5 => ?_) (fun hb_5 => ?_)
      · rw [if_pos hb_5] at w
        refine zq_run 2 (pc' := 41) (L' := [(zq_vi (x0))]) (st' := [(zq_vi (1))]) (fun _ _ _ => rfl) ?_
        exact zq_iret rfl rfl (congrArg Value.int (zq_nb (of_decide_eq_true rfl))) (⟨_, rfl, (of_decide_eq_true rfl), w⟩)
      · rw [if_neg hb_5] at w
        refine zq_run 2 (pc' := 27) (L' := [(zq_vi (x0))]) (st' := [(zq_vi (65)), (zq_vi (x0))]) (fun _ _ _ => rfl) ?_
        refine zq_lt rfl hx0 (of_decide_eq_true rfl) (fun hb_6 => ?_) (fun hb_6 => ?_)
        · rw [if_pos hb_6] at w
          refine zq_run 1 (pc' := 41) (L' := [(zq_vi (x0))]) (st' := [(zq_vi (0))]) (fun _ _ _ => rfl) ?_
          exact zq_iret rfl rfl (congrArg Value.int (zq_nb (of_decide_eq_true rfl))) (⟨_, rfl, (of_decide_eq_true rfl), w⟩)
        · rw [if_neg hb_6] at w
          refine zq_run 2 (pc' := 33) (L' := [(zq_vi (x0))]) (st' := [(zq_vi (90)), (zq_vi (x0))]) (fun _ _ _ => rfl) ?_
          refine zq_gt rfl hx0 (of_decide_eq_true rfl) (fun hb_7 => ?_) (fun hb_7 => ?_)
          · rw [if_neg hb_7] at w
            refine zq_run 1 (pc' := 41) (L' := [(zq_vi (x0))]) (st' := [(zq_vi (0))]) (fun _ _ _ => rfl) ?_
            exact zq_iret rfl rfl (congrArg Value.int (zq_nb (of_decide_eq_true rfl))) (⟨_, rfl, (of_decide_eq_true rfl), w⟩)
          · rw [if_pos hb_7] at w
            refine zq_run 2 (pc' := 41) (L' := [(zq_vi (x0))]) (st' := [(zq_vi (1))]) (fun _ _ _ => rfl) ?_
            exact zq_iret rfl rfl (congrArg Value.int (zq_nb (of_decide_eq_true rfl))) (⟨_, rfl, (of_decide_eq_true rfl), w⟩)
  · rw [if_neg hb_1] at w
    refine zq_run 2 (pc' := 9) (L' := [(zq_vi (x0))]) (st' := [(zq_vi (57)), (zq_vi (x0))]) (fun _ _ _ => rfl) ?_
    refine zq_le rfl hx0 (of_decide_eq_true rfl) (fun hb_8 => ?_) (fun hb_8 => ?_)
    · rw [if_pos hb_8] at w
      refine zq_run 2 (pc' := 41) (L' := [(zq_vi (x0))]) (st' := [(zq_vi (1))]) (fun _ _ _ => rfl) ?_
      exact zq_iret rfl rfl (congrArg Value.int (zq_nb (of_decide_eq_true rfl))) (⟨_, rfl, (of_decide_eq_true rfl), w⟩)
    · rw [if_neg hb_8] at w
      refine zq_run 2 (pc' := 15) (L' := [(zq_vi (x0))]) (st' := [(zq_vi (97)), (zq_vi (x0))]) (fun _ _ _ => rfl) ?_
      refine zq_lt rfl hx0 (of_decide_eq_true rfl) (fun hb_9 => ?_) (fun hb_9 => ?_)
      · rw [if_pos hb_9] at w
        refine zq_run 2 (pc' := 27) (L' := [(zq_vi (x0))]) (st' := [(zq_vi (65)), (zq_vi (x0))]) (fun _ _ _ => rfl) ?_
        refine zq_lt rfl hx0 (of_decide_eq_true rfl) (fun hb_10 => ?_) (fun hb_10 => ?_)
        · rw [if_pos hb_10] at w
          refine zq_run 1 (pc' := 41) (L' := [(zq_vi (x0))]) (st' := [(zq_vi (0))]) (fun _ _ _ => rfl) ?_
          exact zq_iret rfl rfl (congrArg Value.int (zq_nb (of_decide_eq_true rfl))) (⟨_, rfl, (of_decide_eq_true rfl), w⟩)
        · rw [if_neg hb_10] at w
          refine zq_run 2 (pc' := 33) (L' := [(zq_vi (x0))]) (st' := [(zq_vi (90)), (zq_vi (x0))]) (fun _ _ _ => rfl) ?_
          refine zq_gt rfl hx0 (of_decide_eq_true rfl) (fun hb_11 => ?_) (fun hb_11 => ?_)
          · rw [if_neg hb_11] at w
            refine zq_run 1 (pc' := 41) (L' := [(zq_vi (x0))]) (st' := [(zq_vi (0))]) (fun _ _ _ => rfl) ?_
            exact zq_iret rfl rfl (congrArg Value.int (zq_nb (of_decide_eq_true rfl))) (⟨_, rfl, (of_decide_eq_true rfl), w⟩)
          · rw [if_pos hb_11] at w
            refine zq_run 2 (pc' := 41) (L' := [(zq_vi (x0))]) (st' := [(zq_vi (1))]) (fun _ _ _ => rfl) ?_
            exact zq_iret rfl rfl (congrArg Value.int (zq_nb (of_decide_eq_true rfl))) (⟨_, rfl, (of_decide_eq_true rfl), w⟩)
      · rw [if_neg hb_9] at w
        refine zq_run 2 (pc' := 21) (L' := [(zq_vi (x0))]) (st' := [(zq_vi (122)), (zq_vi (x0))]) (fun _ _ _ => rfl) ?_
        refine zq_le rfl hx0 (of_decide_eq_true rfl) (fun hb_12 => ?_) (fun hb_12 => ?_)
        · rw [if_pos hb_12] at w
          refine zq_run 2 (pc' := 41) (L' := [(zq_vi (x0))]) (st' := [(zq_vi (1))]) (fun _ _ _ => rfl) ?_
          exact zq_iret rfl rfl (congrArg Value.int (zq_nb (of_decide_eq_true rfl))) (⟨_, rfl, (of_decide_eq_true rfl), w⟩)
        · rw [if_neg hb_12] at w
          refine zq_run 2 (pc' := 27) (L' := [(zq_vi (x0))]) (st' := [(zq_vi (65)), (zq_vi (x0))]) (fun _ _ _ => rfl) ?_
          refine zq_lt rfl hx0 (of_decide_eq_true rfl) (fun hb_13 => ?_) (fun hb_13 => ?_)
          · rw [if_pos hb_13] at w
            refine zq_run 1 (pc' := 41) (L' := [(zq_vi (x0))]) (st' := [(zq_vi (0))]) (fun _ _ _ => rfl) ?_
            exact zq_iret rfl rfl (congrArg Value.int (zq_nb (of_decide_eq_true rfl))) (⟨_, rfl, (of_decide_eq_true rfl), w⟩)
          · rw [if_neg hb_13] at w
            refine zq_run 2 (pc' := 33) (L' := [(zq_vi (x0))]) (st' := [(zq_vi (90)), (zq_vi (x0))]) (fun _ _ _ => rfl) ?_
            refine zq_gt rfl hx0 (of_decide_eq_true rfl) (fun hb_14 => ?_) (fun hb_14 => ?_)
            · rw [if_neg hb_14] at w
              refine zq_run 1 (pc' := 41) (L' := [(zq_vi (x0))]) (st' := [(zq_vi (0))]) (fun _ _ _ => rfl) ?_
              exact zq_iret rfl rfl (congrArg Value.int (zq_nb (of_decide_eq_true rfl))) (⟨_, rfl, (of_decide_eq_true rfl), w⟩)
            · rw [if_pos hb_14] at w
              refine zq_run 2 (pc' := 41) (L' := [(zq_vi (x0))]) (st' := [(zq_vi (1))]) (fun _ _ _ => rfl) ?_
              exact zq_iret rfl rfl (congrArg Value.int (zq_nb (of_decide_eq_true rfl))) (⟨_, rfl, (of_decide_eq_true rfl), w⟩)
/-- PaperObjects$Text.packed(II)J -/
theorem zw_54 {X : Nat × (Nat → Int32)} {s : zq_S} {K : Int64 → zq_S → Prop} {a0 : Nat} (ha0 : zq_o 1 a0) {x1 : Int} (hx1 : zq_iv x1) {x2 : Int} (hx2 : zq_iv x2) (w : zq_Ex X 54 5 [(.ref (a0)), (zq_vi (x1)), (zq_vi (x2)), (.long (0)), zz_no, (zq_vi (x1))] [] s (zq_rl K)) : zq_Ex X 54 0 [(.ref (a0)), (zq_vi (x1)), (zq_vi (x2)), zz_no, zz_no, zz_no] [] s (zq_rl K) := by
  refine zq_run 4 (pc' := 5) (L' := [(.ref (a0)), (zq_vi (x1)), (zq_vi (x2)), (.long (0)), zz_no, (zq_vi (x1))]) (st' := []) (fun _ _ _ => rfl) ?_
  exact w
/-- PaperObjects$Text.packed at 5 -/
theorem zw_54_5 {X : Nat × (Nat → Int32)} {s : zq_S} {K : Int64 → zq_S → Prop} {a0 : Nat} (ha0 : zq_o 1 a0) {x1 : Int} (hx1 : zq_iv x1) {x2 : Int} (hx2 : zq_iv x2) {y3 : Int64} {x5 : Int} (hx5 : zq_iv x5) (w : (if x5 < x2 then (zq_Ex X 29 0 [(.ref (a0)), (zq_vi (x5))] [] s (zq_rp zq_iv fun x_3 s_2 => zq_Ex X 54 5 [(.ref (a0)), (zq_vi (x1)), (zq_vi (x2)), (.long ((y3) ||| (((Int32.ofInt (x_3)).toInt64) <<< ((Int32.ofInt (8 * (x5 - x1))).toInt64 &&& 63)))), zz_no, (zq_vi (x5 + 1))] [] s_2 (zq_rl K))) else K (y3) s)) : zq_Ex X 54 5 [(.ref (a0)), (zq_vi (x1)), (zq_vi (x2)), (.long (y3)), zz_no, (zq_vi (x5))] [] s (zq_rl K) := by
  refine zq_run 2 (pc' := 8) (L' := [(.ref (a0)), (zq_vi (x1)), (zq_vi (x2)), (.long (y3)), zz_no, (zq_vi (x5))]) (st' := [(zq_vi (x2)), (zq_vi (x5))]) (fun _ _ _ => rfl) ?_
  refine zq_ge rfl hx5 hx2 (fun hb_1 => ?_) (fun hb_1 => ?_)
  · rw [if_neg hb_1] at w
    refine zq_run 1 (pc' := 36) (L' := [(.ref (a0)), (zq_vi (x1)), (zq_vi (x2)), (.long (y3)), zz_no, (zq_vi (x5))]) (st' := [(.long (y3))]) (fun _ _ _ => rfl) ?_
    exact zq_lret rfl rfl (⟨_, rfl, w⟩)
  · rw [if_pos hb_1] at w
    refine zq_run 3 (pc' := 15) (L' := [(.ref (a0)), (zq_vi (x1)), (zq_vi (x2)), (.long (y3)), zz_no, (zq_vi (x5))]) (st' := [(zq_vi (x5)), (.ref (a0)), (.long (y3))]) (fun _ _ _ => rfl) ?_
    refine zq_call_i (i := .invokevirtual 36) (r := [1, 29, 1, 1, 1]) rfl rfl (fun h hp => zr_avv rfl (hp.obj ha0)) (of_decide_eq_false rfl) w (fun x_3 s_2 hx_4 w => ?_)
    refine zq_run 4 (pc' := 24) (L' := [(.ref (a0)), (zq_vi (x1)), (zq_vi (x2)), (.long (y3)), zz_no, (zq_vi (x5))]) (st' := [(zq_vi (x1)), (zq_vi (x5)), (zq_vi (8)), (.long ((Int32.ofInt (x_3)).toInt64)), (.long (y3))]) (fun _ _ _ => rfl) ?_
    refine zq_isub rfl ?_
    refine zq_imul rfl ?_
    refine zq_run 3 (pc' := 29) (L' := [(.ref (a0)), (zq_vi (x1)), (zq_vi (x2)), (.long ((y3) ||| (((Int32.ofInt (x_3)).toInt64) <<< ((Int32.ofInt (8 * (x5 - x1))).toInt64 &&& 63)))), zz_no, (zq_vi (x5))]) (st' := []) (fun _ _ _ => rfl) ?_
    refine zq_iinc (L' := [(.ref (a0)), (zq_vi (x1)), (zq_vi (x2)), (.long ((y3) ||| (((Int32.ofInt (x_3)).toInt64) <<< ((Int32.ofInt (8 * (x5 - x1))).toInt64 &&& 63)))), zz_no, (zq_vi (x5 + 1))]) rfl rfl rfl ?_
    refine zq_run 1 (pc' := 5) (L' := [(.ref (a0)), (zq_vi (x1)), (zq_vi (x2)), (.long ((y3) ||| (((Int32.ofInt (x_3)).toInt64) <<< ((Int32.ofInt (8 * (x5 - x1))).toInt64 &&& 63)))), zz_no, (zq_vi (x5 + 1))]) (st' := []) (fun _ _ _ => rfl) ?_
    exact w
/-- PaperObjects$Tree.partWithKey(IJ)I -/
theorem zw_55 {X : Nat × (Nat → Int32)} {s : zq_S} {K : Int → zq_S → Prop} {a0 : Nat} (ha0 : zq_o 4 a0) {x1 : Int} (hx1 : zq_iv x1) {y2 : Int64} (w : (zq_Ex X 17 0 [(.ref (a0)), (zq_vi (x1)), zz_no] [] s (zq_rp zq_iv fun x_2 s_1 => zq_Ex X 55 12 [(.ref (a0)), (zq_vi (x1)), (.long (y2)), zz_no, (zq_vi (x_2)), (zq_vi (x1 + 1))] [] s_1 (zq_rp zq_iv K)))) : zq_Ex X 55 0 [(.ref (a0)), (zq_vi (x1)), (.long (y2)), zz_no, zz_no, zz_no] [] s (zq_rp zq_iv K) := by
  refine zq_run 2 (pc' := 2) (L' := [(.ref (a0)), (zq_vi (x1)), (.long (y2)), zz_no, zz_no, zz_no]) (st' := [(zq_vi (x1)), (.ref (a0))]) (fun _ _ _ => rfl) ?_
  refine zq_call_i (i := .invokevirtual 40) (r := [1, 17, 1, 1, 4]) rfl rfl (fun h hp => zr_avv rfl (hp.obj ha0)) (of_decide_eq_false rfl) w (fun x_2 s_1 hx_3 w => ?_)
  refine zq_run 3 (pc' := 9) (L' := [(.ref (a0)), (zq_vi (x1)), (.long (y2)), zz_no, (zq_vi (x_2)), zz_no]) (st' := [(zq_vi (1)), (zq_vi (x1))]) (fun _ _ _ => rfl) ?_
  refine zq_iadd rfl ?_
  refine zq_run 1 (pc' := 12) (L' := [(.ref (a0)), (zq_vi (x1)), (.long (y2)), zz_no, (zq_vi (x_2)), (zq_vi (x1 + 1))]) (st' := []) (fun _ _ _ => rfl) ?_
  exact w
/-- PaperObjects$Tree.partWithKey at 12 -/
theorem zw_55_12 {X : Nat × (Nat → Int32)} {s : zq_S} {K : Int → zq_S → Prop} {a0 : Nat} (ha0 : zq_o 4 a0) {x1 : Int} (hx1 : zq_iv x1) {y2 : Int64} {x4 : Int} (hx4 : zq_iv x4) {x5 : Int} (hx5 : zq_iv x5) (w : (if x5 < x4 then (((0 : Int) ≤ x5 ∧ x5 < (12 : Int)) ∧ (((0 : Int) ≤ x1 ∧ x1 < (12 : Int)) ∧ (zq_iv ((zq_i s (a0 + 2) (x1)) + 1) ∧ (if zq_i s (a0 + 2) (x5) = (zq_i s (a0 + 2) (x1)) + 1 then (((0 : Int) ≤ x5 ∧ x5 < (12 : Int)) ∧ (if (zq_l s (a0 + 5) (x5)) = (y2) then K (x5) s else zq_Ex X 55 12 [(.ref (a0)), (zq_vi (x1)), (.long (y2)), zz_no, (zq_vi (x4)), (zq_vi (x5 + 1))] [] s (zq_rp zq_iv K))) else zq_Ex X 55 12 [(.ref (a0)), (zq_vi (x1)), (.long (y2)), zz_no, (zq_vi (x4)), (zq_vi (x5 + 1))] [] s (zq_rp zq_iv K))))) else K ((-1)) s)) : zq_Ex X 55 12 [(.ref (a0)), (zq_vi (x1)), (.long (y2)), zz_no, (zq_vi (x4)), (zq_vi (x5))] [] s (zq_rp zq_iv K) := by
  refine zq_run 2 (pc' := 16) (L' := [(.ref (a0)), (zq_vi (x1)), (.long (y2)), zz_no, (zq_vi (x4)), (zq_vi (x5))]) (st' := [(zq_vi (x4)), (zq_vi (x5))]) (fun _ _ _ => rfl) ?_
  refine zq_ge rfl hx5 hx4 (fun hb_1 => ?_) (fun hb_1 => ?_)
  · rw [if_neg hb_1] at w
    refine zq_run 1 (pc' := 59) (L' := [(.ref (a0)), (zq_vi (x1)), (.long (y2)), zz_no, (zq_vi (x4)), (zq_vi (x5))]) (st' := [(zq_vi ((-1)))]) (fun _ _ _ => rfl) ?_
    exact zq_iret rfl rfl rfl (⟨_, rfl, (of_decide_eq_true rfl), w⟩)
  · rw [if_pos hb_1] at w
    refine zq_run 1 (pc' := 20) (L' := [(.ref (a0)), (zq_vi (x1)), (.long (y2)), zz_no, (zq_vi (x4)), (zq_vi (x5))]) (st' := [(.ref (a0))]) (fun _ _ _ => rfl) ?_
    refine zq_getf_f (b := a0 + 2) rfl ha0 rfl rfl ?_
    refine zq_run 1 (pc' := 25) (L' := [(.ref (a0)), (zq_vi (x1)), (.long (y2)), zz_no, (zq_vi (x4)), (zq_vi (x5))]) (st' := [(zq_vi (x5)), (.ref (a0 + 2))]) (fun _ _ _ => rfl) ?_
    obtain ⟨g_2, w⟩ := w
    refine zq_have (fun hR_3 => ?_)
    refine zq_ald_i (v := zq_i s (a0 + 2) (x5)) rfl (zq_L4 ha0).2.1 g_2.1 g_2.2 rfl ?_
    refine zq_run 1 (pc' := 27) (L' := [(.ref (a0)), (zq_vi (x1)), (.long (y2)), zz_no, (zq_vi (x4)), (zq_vi (x5))]) (st' := [(.ref (a0)), (zq_vi (zq_i s (a0 + 2) (x5)))]) (fun _ _ _ => rfl) ?_
    refine zq_getf_f (b := a0 + 2) rfl ha0 rfl rfl ?_
    refine zq_run 1 (pc' := 31) (L' := [(.ref (a0)), (zq_vi (x1)), (.long (y2)), zz_no, (zq_vi (x4)), (zq_vi (x5))]) (st' := [(zq_vi (x1)), (.ref (a0 + 2)), (zq_vi (zq_i s (a0 + 2) (x5)))]) (fun _ _ _ => rfl) ?_
    obtain ⟨g_4, w⟩ := w
    refine zq_ald_i (v := zq_i s (a0 + 2) (x1)) rfl (zq_L4 ha0).2.1 g_4.1 g_4.2 rfl ?_
    refine zq_run 1 (pc' := 33) (L' := [(.ref (a0)), (zq_vi (x1)), (.long (y2)), zz_no, (zq_vi (x4)), (zq_vi (x5))]) (st' := [(zq_vi (1)), (zq_vi (zq_i s (a0 + 2) (x1))), (zq_vi (zq_i s (a0 + 2) (x5)))]) (fun _ _ _ => rfl) ?_
    refine zq_iadd rfl ?_
    obtain ⟨g_5, w⟩ := w
    refine zq_ne rfl (hR_3.1 _ _) g_5 (fun hb_6 => ?_) (fun hb_6 => ?_)
    · rw [if_neg hb_6] at w
      refine zq_iinc (L' := [(.ref (a0)), (zq_vi (x1)), (.long (y2)), zz_no, (zq_vi (x4)), (zq_vi (x5 + 1))]) rfl rfl rfl ?_
      refine zq_run 1 (pc' := 12) (L' := [(.ref (a0)), (zq_vi (x1)), (.long (y2)), zz_no, (zq_vi (x4)), (zq_vi (x5 + 1))]) (st' := []) (fun _ _ _ => rfl) ?_
      exact w
    · rw [if_pos hb_6] at w
      refine zq_run 1 (pc' := 38) (L' := [(.ref (a0)), (zq_vi (x1)), (.long (y2)), zz_no, (zq_vi (x4)), (zq_vi (x5))]) (st' := [(.ref (a0))]) (fun _ _ _ => rfl) ?_
      refine zq_getf_f (b := a0 + 5) rfl ha0 rfl rfl ?_
      refine zq_run 1 (pc' := 43) (L' := [(.ref (a0)), (zq_vi (x1)), (.long (y2)), zz_no, (zq_vi (x4)), (zq_vi (x5))]) (st' := [(zq_vi (x5)), (.ref (a0 + 5))]) (fun _ _ _ => rfl) ?_
      obtain ⟨g_7, w⟩ := w
      refine zq_ald_l (v := zq_l s (a0 + 5) (x5)) rfl (zq_L4 ha0).2.2.2.2.1 g_7.1 g_7.2 rfl ?_
      refine zq_run 1 (pc' := 45) (L' := [(.ref (a0)), (zq_vi (x1)), (.long (y2)), zz_no, (zq_vi (x4)), (zq_vi (x5))]) (st' := [(.long (y2)), (.long (zq_l s (a0 + 5) (x5)))]) (fun _ _ _ => rfl) ?_
      refine zq_lcne rfl rfl (fun hb_8 => ?_) (fun hb_8 => ?_)
      · rw [if_neg hb_8] at w
        refine zq_iinc (L' := [(.ref (a0)), (zq_vi (x1)), (.long (y2)), zz_no, (zq_vi (x4)), (zq_vi (x5 + 1))]) rfl rfl rfl ?_
        refine zq_run 1 (pc' := 12) (L' := [(.ref (a0)), (zq_vi (x1)), (.long (y2)), zz_no, (zq_vi (x4)), (zq_vi (x5 + 1))]) (st' := []) (fun _ _ _ => rfl) ?_
        exact w
      · rw [if_pos hb_8] at w
        refine zq_run 1 (pc' := 51) (L' := [(.ref (a0)), (zq_vi (x1)), (.long (y2)), zz_no, (zq_vi (x4)), (zq_vi (x5))]) (st' := [(zq_vi (x5))]) (fun _ _ _ => rfl) ?_
        exact zq_iret rfl rfl rfl (⟨_, rfl, hx5, w⟩)
/-- PaperObjects$Reader.takeValue()Z -/
theorem zw_56 {X : Nat × (Nat → Int32)} {s : zq_S} {K : Int → zq_S → Prop} {a0 : Nat} (ha0 : zq_o 3 a0) (w : (if zq_i s (a0) (3) < 5 then (∃ b_3 : Nat, zq_r s (a0) 1 = some b_3 ∧ (if zq_i s (b_3) (0) < 12 then (∃ b_6 : Nat, zq_r s (a0) 0 = some b_6 ∧ (zq_Ex X 29 0 [(.ref (b_6)), (zq_vi (zq_i s (a0) (5)))] [] s (zq_rp zq_iv fun x_9 s_8 => (if x_9 = 40 then (zq_Ex X 61 0 [(.ref (a0)), zz_no, zz_no, zz_no] [] s_8 (zq_rp zq_bo fun x_13 s_12 => K (x_13) s_12)) else (if x_9 = 47 then (zq_Ex X 59 0 [(.ref (a0)), zz_no, zz_no, zz_no, zz_no] [] s_8 (zq_rp zq_bo fun x_17 s_16 => K (x_17) s_16)) else (if x_9 = 60 then (∃ b_21 : Nat, zq_r s_8 (a0) 0 = some b_21 ∧ (zq_Ex X 29 0 [(.ref (b_21)), (zq_vi ((zq_i s_8 (a0) (5)) + 1))] [] s_8 (zq_rp zq_iv fun x_24 s_23 => (if x_24 = 60 then (zq_Ex X 57 0 [(.ref (a0)), (zq_vi (7)), (zq_vi ((zq_i s_23 (a0) (5)) + 2))] [] s_23 (zq_rp zq_bo fun x_29 s_28 => (if x_29 = 0 then K (0) s_28 else K (1) s_28))) else K (0) s_23)))) else (if x_9 = 91 then (zq_Ex X 57 0 [(.ref (a0)), (zq_vi (6)), (zq_vi ((zq_i s_8 (a0) (5)) + 1))] [] s_8 (zq_rp zq_bo fun x_35 s_34 => K (x_35) s_34)) else (zq_Ex X 62 0 [(.ref (a0)), zz_no, zz_no, zz_no, zz_no, zz_no] [] s_8 (zq_rp zq_bo fun x_38 s_37 => (if x_38 = 0 then (zq_Ex X 66 0 [(.ref (a0)), zz_no, zz_no, zz_no, zz_no] [] s_37 (zq_rp zq_bo fun x_42 s_41 => (if x_42 = 0 then (zq_Ex X 69 0 [(.ref (a0)), (.ref (1000000 + 7)), (zq_vi (0)), zz_no] [] s_41 (zq_rp zq_bo fun x_46 s_45 => (if x_46 = 0 then (zq_Ex X 69 0 [(.ref (a0)), (.ref (1000000 + 8)), (zq_vi (1)), zz_no] [] s_45 (zq_rp zq_bo fun x_50 s_49 => (if x_50 = 0 then (zq_Ex X 69 0 [(.ref (a0)), (.ref (1000000 + 9)), (zq_vi (2)), zz_no] [] s_49 (zq_rp zq_bo fun x_54 s_53 => (if x_54 = 0 then K (0) s_53 else K (1) s_53))) else K (1) s_49))) else K (1) s_45))) else K (1) s_41))) else K (1) s_37)))))))))) else K (0) s)) else K (0) s)) : zq_Ex X 56 0 [(.ref (a0))] [] s (zq_rp zq_bo K) := by
  refine zq_run 1 (pc' := 1) (L' := [(.ref (a0))]) (st' := [(.ref (a0))]) (fun _ _ _ => rfl) ?_
  refine zq_have (fun hR_1 => ?_)
  refine zq_getf_i (j := 3) (v := zq_i s (a0) (3)) rfl ha0 rfl rfl rfl ?_
  refine zq_run 1 (pc' := 5) (L' := [(.ref (a0))]) (st' := [(zq_vi (5)), (zq_vi (zq_i s (a0) (3)))]) (fun _ _ _ => rfl) ?_
  refine zq_ge rfl (hR_1.1 _ _) (of_decide_eq_true rfl) (fun hb_2 => ?_) (fun hb_2 => ?_)
  · rw [if_neg hb_2] at w
    refine zq_run 1 (pc' := 21) (L' := [(.ref (a0))]) (st' := [(zq_vi (0))]) (fun _ _ _ => rfl) ?_
    exact zq_iret rfl rfl (congrArg Value.int (zq_nb (of_decide_eq_true rfl))) (⟨_, rfl, (of_decide_eq_true rfl), w⟩)
  · rw [if_pos hb_2] at w
    refine zq_run 1 (pc' := 9) (L' := [(.ref (a0))]) (st' := [(.ref (a0))]) (fun _ _ _ => rfl) ?_
    obtain ⟨b_3, hb_4, w⟩ := w
    refine zq_getf_rs (j := 1) rfl ha0 rfl rfl hb_4 ?_
    refine zq_getf_i (j := 0) (v := zq_i s (b_3) (0)) rfl (zq_fcls hR_1 (k := 1) (j := 1) (cj := 4) ha0 rfl rfl hb_4) rfl rfl rfl ?_
    refine zq_run 1 (pc' := 17) (L' := [(.ref (a0))]) (st' := [(zq_vi (12)), (zq_vi (zq_i s (b_3) (0)))]) (fun _ _ _ => rfl) ?_
    refine zq_lt rfl (hR_1.1 _ _) (of_decide_eq_true rfl) (fun hb_5 => ?_) (fun hb_5 => ?_)
    · rw [if_pos hb_5] at w
      refine zq_run 1 (pc' := 23) (L' := [(.ref (a0))]) (st' := [(.ref (a0))]) (fun _ _ _ => rfl) ?_
      obtain ⟨b_6, hb_7, w⟩ := w
      refine zq_getf_rs (j := 0) rfl ha0 rfl rfl hb_7 ?_
      refine zq_run 1 (pc' := 27) (L' := [(.ref (a0))]) (st' := [(.ref (a0)), (.ref (b_6))]) (fun _ _ _ => rfl) ?_
      refine zq_getf_i (j := 5) (v := zq_i s (a0) (5)) rfl ha0 rfl rfl rfl ?_
      refine zq_call_i (i := .invokevirtual 90) (r := [1, 29, 1, 1, 1]) rfl rfl (fun h hp => zr_avv rfl (hp.obj (zq_fcls hR_1 (k := 0) (j := 0) (cj := 1) ha0 rfl rfl hb_7))) (of_decide_eq_false rfl) w (fun x_9 s_8 hx_10 w => ?_)
      by_cases hb_11 : x_9 = 40
      · rw [if_pos hb_11] at w
        refine zq_lsw rfl (by rw [hb_11] <;> rfl) ?_
        refine zq_run 1 (pc' := 134) (L' := [(.ref (a0))]) (st' := [(.ref (a0))]) (fun _ _ _ => rfl) ?_
        refine zq_call_i (i := .invokevirtual 100) (r := [1, 61, 0, 1, 3]) rfl rfl (fun h hp => zr_avv rfl (hp.obj ha0)) (of_decide_eq_false rfl) w (fun x_13 s_12 hx_14 w => ?_)
        exact zq_iret rfl rfl (congrArg Value.int (zq_nb hx_14)) (⟨_, rfl, hx_14, w⟩)
      · rw [if_neg hb_11] at w
        by_cases hb_15 : x_9 = 47
        · rw [if_pos hb_15] at w
          refine zq_lsw rfl (by rw [hb_15] <;> rfl) ?_
          refine zq_run 1 (pc' := 129) (L' := [(.ref (a0))]) (st' := [(.ref (a0))]) (fun _ _ _ => rfl) ?_
          refine zq_call_i (i := .invokevirtual 97) (r := [1, 59, 0, 1, 3]) rfl rfl (fun h hp => zr_avv rfl (hp.obj ha0)) (of_decide_eq_false rfl) w (fun x_17 s_16 hx_18 w => ?_)
          exact zq_iret rfl rfl (congrArg Value.int (zq_nb hx_18)) (⟨_, rfl, hx_18, w⟩)
        · rw [if_neg hb_15] at w
          by_cases hb_19 : x_9 = 60
          · rw [if_pos hb_19] at w
            refine zq_lsw rfl (by rw [hb_19] <;> rfl) ?_
            refine zq_run 1 (pc' := 90) (L' := [(.ref (a0))]) (st' := [(.ref (a0))]) (fun _ _ _ => rfl) ?_
            refine zq_have (fun hR_20 => ?_)
            obtain ⟨b_21, hb_22, w⟩ := w
            refine zq_getf_rs (j := 0) rfl ha0 rfl rfl hb_22 ?_
            refine zq_run 1 (pc' := 94) (L' := [(.ref (a0))]) (st' := [(.ref (a0)), (.ref (b_21))]) (fun _ _ _ => rfl) ?_
            refine zq_getf_i (j := 5) (v := zq_i s_8 (a0) (5)) rfl ha0 rfl rfl rfl ?_
            refine zq_run 1 (pc' := 98) (L' := [(.ref (a0))]) (st' := [(zq_vi (1)), (zq_vi (zq_i s_8 (a0) (5))), (.ref (b_21))]) (fun _ _ _ => rfl) ?_
            refine zq_iadd rfl ?_
            refine zq_call_i (i := .invokevirtual 90) (r := [1, 29, 1, 1, 1]) rfl rfl (fun h hp => zr_avv rfl (hp.obj (zq_fcls hR_20 (k := 0) (j := 0) (cj := 1) ha0 rfl rfl hb_22))) (of_decide_eq_false rfl) w (fun x_24 s_23 hx_25 w => ?_)
            refine zq_run 1 (pc' := 104) (L' := [(.ref (a0))]) (st' := [(zq_vi (60)), (zq_vi (x_24))]) (fun _ _ _ => rfl) ?_
            refine zq_ne rfl hx_25 (of_decide_eq_true rfl) (fun hb_26 => ?_) (fun hb_26 => ?_)
            · rw [if_neg hb_26] at w
              refine zq_run 1 (pc' := 127) (L' := [(.ref (a0))]) (st' := [(zq_vi (0))]) (fun _ _ _ => rfl) ?_
              exact zq_iret rfl rfl (congrArg Value.int (zq_nb (of_decide_eq_true rfl))) (⟨_, rfl, (of_decide_eq_true rfl), w⟩)
            · rw [if_pos hb_26] at w
              refine zq_run 3 (pc' := 111) (L' := [(.ref (a0))]) (st' := [(.ref (a0)), (zq_vi (7)), (.ref (a0))]) (fun _ _ _ => rfl) ?_
              refine zq_have (fun hR_27 => ?_)
              refine zq_getf_i (j := 5) (v := zq_i s_23 (a0) (5)) rfl ha0 rfl rfl rfl ?_
              refine zq_run 1 (pc' := 115) (L' := [(.ref (a0))]) (st' := [(zq_vi (2)), (zq_vi (zq_i s_23 (a0) (5))), (zq_vi (7)), (.ref (a0))]) (fun _ _ _ => rfl) ?_
              refine zq_iadd rfl ?_
              refine zq_call_i (i := .invokevirtual 93) (r := [1, 57, 2, 1, 3]) rfl rfl (fun h hp => zr_avv rfl (hp.obj ha0)) (of_decide_eq_false rfl) w (fun x_29 s_28 hx_30 w => ?_)
              refine zq_eq0 rfl (zq_bo_in hx_30) (fun hb_31 => ?_) (fun hb_31 => ?_)
              · rw [if_pos hb_31] at w
                refine zq_run 1 (pc' := 127) (L' := [(.ref (a0))]) (st' := [(zq_vi (0))]) (fun _ _ _ => rfl) ?_
                exact zq_iret rfl rfl (congrArg Value.int (zq_nb (of_decide_eq_true rfl))) (⟨_, rfl, (of_decide_eq_true rfl), w⟩)
              · rw [if_neg hb_31] at w
                refine zq_run 2 (pc' := 127) (L' := [(.ref (a0))]) (st' := [(zq_vi (1))]) (fun _ _ _ => rfl) ?_
                exact zq_iret rfl rfl (congrArg Value.int (zq_nb (of_decide_eq_true rfl))) (⟨_, rfl, (of_decide_eq_true rfl), w⟩)
          · rw [if_neg hb_19] at w
            by_cases hb_32 : x_9 = 91
            · rw [if_pos hb_32] at w
              refine zq_lsw rfl (by rw [hb_32] <;> rfl) ?_
              refine zq_run 3 (pc' := 80) (L' := [(.ref (a0))]) (st' := [(.ref (a0)), (zq_vi (6)), (.ref (a0))]) (fun _ _ _ => rfl) ?_
              refine zq_have (fun hR_33 => ?_)
              refine zq_getf_i (j := 5) (v := zq_i s_8 (a0) (5)) rfl ha0 rfl rfl rfl ?_
              refine zq_run 1 (pc' := 84) (L' := [(.ref (a0))]) (st' := [(zq_vi (1)), (zq_vi (zq_i s_8 (a0) (5))), (zq_vi (6)), (.ref (a0))]) (fun _ _ _ => rfl) ?_
              refine zq_iadd rfl ?_
              refine zq_call_i (i := .invokevirtual 93) (r := [1, 57, 2, 1, 3]) rfl rfl (fun h hp => zr_avv rfl (hp.obj ha0)) (of_decide_eq_false rfl) w (fun x_35 s_34 hx_36 w => ?_)
              exact zq_iret rfl rfl (congrArg Value.int (zq_nb hx_36)) (⟨_, rfl, hx_36, w⟩)
            · rw [if_neg hb_32] at w
              refine zq_lsw (p := 138) rfl (by simp only [zz_lkp, zq_toInt hx_10] <;> simp [Ne.symm, hb_11, hb_15, hb_19, hb_32] <;> omega) ?_
              refine zq_run 1 (pc' := 139) (L' := [(.ref (a0))]) (st' := [(.ref (a0))]) (fun _ _ _ => rfl) ?_
              refine zq_call_i (i := .invokevirtual 103) (r := [1, 62, 0, 1, 3]) rfl rfl (fun h hp => zr_avv rfl (hp.obj ha0)) (of_decide_eq_false rfl) w (fun x_38 s_37 hx_39 w => ?_)
              refine zq_ne0 rfl (zq_bo_in hx_39) (fun hb_40 => ?_) (fun hb_40 => ?_)
              · rw [if_neg hb_40] at w
                refine zq_run 2 (pc' := 187) (L' := [(.ref (a0))]) (st' := [(zq_vi (1))]) (fun _ _ _ => rfl) ?_
                exact zq_iret rfl rfl (congrArg Value.int (zq_nb (of_decide_eq_true rfl))) (⟨_, rfl, (of_decide_eq_true rfl), w⟩)
              · rw [if_pos hb_40] at w
                refine zq_run 1 (pc' := 146) (L' := [(.ref (a0))]) (st' := [(.ref (a0))]) (fun _ _ _ => rfl) ?_
                refine zq_call_i (i := .invokevirtual 106) (r := [1, 66, 0, 1, 3]) rfl rfl (fun h hp => zr_avv rfl (hp.obj ha0)) (of_decide_eq_false rfl) w (fun x_42 s_41 hx_43 w => ?_)
                refine zq_ne0 rfl (zq_bo_in hx_43) (fun hb_44 => ?_) (fun hb_44 => ?_)
                · rw [if_neg hb_44] at w
                  refine zq_run 2 (pc' := 187) (L' := [(.ref (a0))]) (st' := [(zq_vi (1))]) (fun _ _ _ => rfl) ?_
                  exact zq_iret rfl rfl (congrArg Value.int (zq_nb (of_decide_eq_true rfl))) (⟨_, rfl, (of_decide_eq_true rfl), w⟩)
                · rw [if_pos hb_44] at w
                  refine zq_run 3 (pc' := 156) (L' := [(.ref (a0))]) (st' := [(zq_vi (0)), (.ref (1000000 + 7)), (.ref (a0))]) (fun _ _ _ => rfl) ?_
                  refine zq_call_i (i := .invokevirtual 111) (r := [1, 69, 2, 1, 3]) rfl rfl (fun h hp => zr_avv rfl (hp.obj ha0)) (of_decide_eq_false rfl) w (fun x_46 s_45 hx_47 w => ?_)
                  refine zq_ne0 rfl (zq_bo_in hx_47) (fun hb_48 => ?_) (fun hb_48 => ?_)
                  · rw [if_neg hb_48] at w
                    refine zq_run 2 (pc' := 187) (L' := [(.ref (a0))]) (st' := [(zq_vi (1))]) (fun _ _ _ => rfl) ?_
                    exact zq_iret rfl rfl (congrArg Value.int (zq_nb (of_decide_eq_true rfl))) (⟨_, rfl, (of_decide_eq_true rfl), w⟩)
                  · rw [if_pos hb_48] at w
                    refine zq_run 3 (pc' := 166) (L' := [(.ref (a0))]) (st' := [(zq_vi (1)), (.ref (1000000 + 8)), (.ref (a0))]) (fun _ _ _ => rfl) ?_
                    refine zq_call_i (i := .invokevirtual 111) (r := [1, 69, 2, 1, 3]) rfl rfl (fun h hp => zr_avv rfl (hp.obj ha0)) (of_decide_eq_false rfl) w (fun x_50 s_49 hx_51 w => ?_)
                    refine zq_ne0 rfl (zq_bo_in hx_51) (fun hb_52 => ?_) (fun hb_52 => ?_)
                    · rw [if_neg hb_52] at w
                      refine zq_run 2 (pc' := 187) (L' := [(.ref (a0))]) (st' := [(zq_vi (1))]) (fun _ _ _ => rfl) ?_
                      exact zq_iret rfl rfl (congrArg Value.int (zq_nb (of_decide_eq_true rfl))) (⟨_, rfl, (of_decide_eq_true rfl), w⟩)
                    · rw [if_pos hb_52] at w
                      refine zq_run 3 (pc' := 176) (L' := [(.ref (a0))]) (st' := [(zq_vi (2)), (.ref (1000000 + 9)), (.ref (a0))]) (fun _ _ _ => rfl) ?_
                      refine zq_call_i (i := .invokevirtual 111) (r := [1, 69, 2, 1, 3]) rfl rfl (fun h hp => zr_avv rfl (hp.obj ha0)) (of_decide_eq_false rfl) w (fun x_54 s_53 hx_55 w => ?_)
                      refine zq_eq0 rfl (zq_bo_in hx_55) (fun hb_56 => ?_) (fun hb_56 => ?_)
                      · rw [if_pos hb_56] at w
                        refine zq_run 1 (pc' := 187) (L' := [(.ref (a0))]) (st' := [(zq_vi (0))]) (fun _ _ _ => rfl) ?_
                        exact zq_iret rfl rfl (congrArg Value.int (zq_nb (of_decide_eq_true rfl))) (⟨_, rfl, (of_decide_eq_true rfl), w⟩)
                      · rw [if_neg hb_56] at w
                        refine zq_run 2 (pc' := 187) (L' := [(.ref (a0))]) (st' := [(zq_vi (1))]) (fun _ _ _ => rfl) ?_
                        exact zq_iret rfl rfl (congrArg Value.int (zq_nb (of_decide_eq_true rfl))) (⟨_, rfl, (of_decide_eq_true rfl), w⟩)
    · rw [if_neg hb_5] at w
      refine zq_run 1 (pc' := 21) (L' := [(.ref (a0))]) (st' := [(zq_vi (0))]) (fun _ _ _ => rfl) ?_
      exact zq_iret rfl rfl (congrArg Value.int (zq_nb (of_decide_eq_true rfl))) (⟨_, rfl, (of_decide_eq_true rfl), w⟩)
/-- PaperObjects$Reader.takeOpening(II)Z -/
theorem zw_57 {X : Nat × (Nat → Int32)} {s : zq_S} {K : Int → zq_S → Prop} {a0 : Nat} (ha0 : zq_o 3 a0) {x1 : Int} (hx1 : zq_iv x1) {x2 : Int} (hx2 : zq_iv x2) (w : (zq_Ex X 58 0 [(.ref (a0)), (zq_vi (x1)), (zq_vi (x2)), zz_no] [] s (zq_rp zq_iv fun x_3 s_2 => (((0 : Int) ≤ zq_i s (a0) (3) ∧ zq_i s (a0) (3) < (5 : Int)) ∧ (zq_iv ((zq_i s_2 (a0) (3)) + 1) ∧ K (1) (zq_si (zq_si s_2 (a0 + 1) (zq_i s (a0) (3)) (x_3)) (a0) (3) ((zq_i s_2 (a0) (3)) + 1))))))) : zq_Ex X 57 0 [(.ref (a0)), (zq_vi (x1)), (zq_vi (x2))] [] s (zq_rp zq_bo K) := by
  refine zq_run 1 (pc' := 1) (L' := [(.ref (a0)), (zq_vi (x1)), (zq_vi (x2))]) (st' := [(.ref (a0))]) (fun _ _ _ => rfl) ?_
  refine zq_getf_f (b := a0 + 1) rfl ha0 rfl rfl ?_
  refine zq_run 1 (pc' := 5) (L' := [(.ref (a0)), (zq_vi (x1)), (zq_vi (x2))]) (st' := [(.ref (a0)), (.ref (a0 + 1))]) (fun _ _ _ => rfl) ?_
  refine zq_have (fun hR_1 => ?_)
  refine zq_getf_i (j := 3) (v := zq_i s (a0) (3)) rfl ha0 rfl rfl rfl ?_
  refine zq_run 3 (pc' := 11) (L' := [(.ref (a0)), (zq_vi (x1)), (zq_vi (x2))]) (st' := [(zq_vi (x2)), (zq_vi (x1)), (.ref (a0)), (zq_vi (zq_i s (a0) (3))), (.ref (a0 + 1))]) (fun _ _ _ => rfl) ?_
  refine zq_call_i (i := .invokevirtual 123) (r := [1, 58, 2, 1, 3]) rfl rfl (fun h hp => zr_avv rfl (hp.obj ha0)) (of_decide_eq_false rfl) w (fun x_3 s_2 hx_4 w => ?_)
  obtain ⟨g_5, w⟩ := w
  refine zq_ast_i rfl (zq_L3 ha0) g_5.1 g_5.2 hx_4 ?_
  refine zq_run 2 (pc' := 17) (L' := [(.ref (a0)), (zq_vi (x1)), (zq_vi (x2))]) (st' := [(.ref (a0)), (.ref (a0))]) (fun _ _ _ => rfl) ?_
  have e_6 : zq_i (zq_si s_2 (a0 + 1) (zq_i s (a0) (3)) (x_3)) (a0) (3) = zq_i s_2 (a0) (3) := by simp [zq_i_si, zq_i_sr, zq_i_sl]
  refine zq_have (fun hR_7 => ?_)
  have g_8 : zq_iv (zq_i (zq_si s_2 (a0 + 1) (zq_i s (a0) (3)) (x_3)) (a0) (3)) := (hR_7.1 _ _)
  rw [e_6] at g_8
  refine zq_getf_i (j := 3) (v := zq_i s_2 (a0) (3)) rfl ha0 rfl rfl e_6 ?_
  refine zq_run 1 (pc' := 21) (L' := [(.ref (a0)), (zq_vi (x1)), (zq_vi (x2))]) (st' := [(zq_vi (1)), (zq_vi (zq_i s_2 (a0) (3))), (.ref (a0))]) (fun _ _ _ => rfl) ?_
  refine zq_iadd rfl ?_
  obtain ⟨g_9, w⟩ := w
  refine zq_putf_i (j := 3) rfl ha0 rfl rfl rfl g_9 ?_
  refine zq_run 1 (pc' := 26) (L' := [(.ref (a0)), (zq_vi (x1)), (zq_vi (x2))]) (st' := [(zq_vi (1))]) (fun _ _ _ => rfl) ?_
  exact zq_iret rfl rfl (congrArg Value.int (zq_nb (of_decide_eq_true rfl))) (⟨_, rfl, (of_decide_eq_true rfl), w⟩)
/-- PaperObjects$Reader.addNode(II)I -/
theorem zw_58 {X : Nat × (Nat → Int32)} {s : zq_S} {K : Int → zq_S → Prop} {a0 : Nat} (ha0 : zq_o 3 a0) {x1 : Int} (hx1 : zq_iv x1) {x2 : Int} (hx2 : zq_iv x2) (w : (∃ b_2 : Nat, zq_r s (a0) 1 = some b_2 ∧ (zq_Ex X 10 0 [(.ref (b_2)), (zq_vi (x1)), (zq_vi (zq_i s (a0) (3))), (.long (zq_l s (a0) 4)), zz_no, zz_no] [] s (zq_rp zq_iv fun x_5 s_4 => K (x_5) (zq_si (zq_sl s_4 (a0) (4) (0)) (a0) (5) (x2)))))) : zq_Ex X 58 0 [(.ref (a0)), (zq_vi (x1)), (zq_vi (x2)), zz_no] [] s (zq_rp zq_iv K) := by
  refine zq_run 1 (pc' := 1) (L' := [(.ref (a0)), (zq_vi (x1)), (zq_vi (x2)), zz_no]) (st' := [(.ref (a0))]) (fun _ _ _ => rfl) ?_
  refine zq_have (fun hR_1 => ?_)
  obtain ⟨b_2, hb_3, w⟩ := w
  refine zq_getf_rs (j := 1) rfl ha0 rfl rfl hb_3 ?_
  refine zq_run 2 (pc' := 6) (L' := [(.ref (a0)), (zq_vi (x1)), (zq_vi (x2)), zz_no]) (st' := [(.ref (a0)), (zq_vi (x1)), (.ref (b_2))]) (fun _ _ _ => rfl) ?_
  refine zq_getf_i (j := 3) (v := zq_i s (a0) (3)) rfl ha0 rfl rfl rfl ?_
  refine zq_run 1 (pc' := 10) (L' := [(.ref (a0)), (zq_vi (x1)), (zq_vi (x2)), zz_no]) (st' := [(.ref (a0)), (zq_vi (zq_i s (a0) (3))), (zq_vi (x1)), (.ref (b_2))]) (fun _ _ _ => rfl) ?_
  refine zq_getf_l (j := 4) (v := zq_l s (a0) 4) rfl ha0 rfl rfl rfl ?_
  refine zq_call_i (i := .invokevirtual 119) (r := [1, 10, 3, 1, 4]) rfl rfl (fun h hp => zr_avv rfl (hp.obj (zq_fcls hR_1 (k := 1) (j := 1) (cj := 4) ha0 rfl rfl hb_3))) (of_decide_eq_false rfl) w (fun x_5 s_4 hx_6 w => ?_)
  refine zq_run 3 (pc' := 19) (L' := [(.ref (a0)), (zq_vi (x1)), (zq_vi (x2)), (zq_vi (x_5))]) (st' := [(.long (0)), (.ref (a0))]) (fun _ _ _ => rfl) ?_
  refine zq_putf_l (j := 4) rfl ha0 rfl rfl rfl ?_
  refine zq_run 2 (pc' := 24) (L' := [(.ref (a0)), (zq_vi (x1)), (zq_vi (x2)), (zq_vi (x_5))]) (st' := [(zq_vi (x2)), (.ref (a0))]) (fun _ _ _ => rfl) ?_
  refine zq_putf_i (j := 5) rfl ha0 rfl rfl rfl hx2 ?_
  refine zq_run 1 (pc' := 28) (L' := [(.ref (a0)), (zq_vi (x1)), (zq_vi (x2)), (zq_vi (x_5))]) (st' := [(zq_vi (x_5))]) (fun _ _ _ => rfl) ?_
  exact zq_iret rfl rfl rfl (⟨_, rfl, hx_6, w⟩)
/-- PaperObjects$Reader.takeName()Z -/
theorem zw_59 {X : Nat × (Nat → Int32)} {s : zq_S} {K : Int → zq_S → Prop} {a0 : Nat} (ha0 : zq_o 3 a0) (w : (∃ b_2 : Nat, zq_r s (a0) 0 = some b_2 ∧ (zq_Ex X 52 0 [(.ref (b_2)), (zq_vi (zq_i s (a0) (5))), zz_no, zz_no] [] s (zq_rp zq_iv fun x_5 s_4 => (if x_5 = (-1) then K (0) s_4 else (zq_Ex X 58 0 [(.ref (a0)), (zq_vi (4)), (zq_vi (x_5)), zz_no] [] s_4 (zq_rp zq_iv fun x_10 s_9 => zq_Ex X 59 36 [(.ref (a0)), (zq_vi (x_5)), (zq_vi ((zq_i s_4 (a0) (5)) + 1)), (zq_vi (x_10)), (zq_vi ((zq_i s_4 (a0) (5)) + 1))] [] s_9 (zq_rp zq_bo K)))))))) : zq_Ex X 59 0 [(.ref (a0)), zz_no, zz_no, zz_no, zz_no] [] s (zq_rp zq_bo K) := by
  refine zq_run 1 (pc' := 1) (L' := [(.ref (a0)), zz_no, zz_no, zz_no, zz_no]) (st' := [(.ref (a0))]) (fun _ _ _ => rfl) ?_
  refine zq_have (fun hR_1 => ?_)
  obtain ⟨b_2, hb_3, w⟩ := w
  refine zq_getf_rs (j := 0) rfl ha0 rfl rfl hb_3 ?_
  refine zq_run 1 (pc' := 5) (L' := [(.ref (a0)), zz_no, zz_no, zz_no, zz_no]) (st' := [(.ref (a0)), (.ref (b_2))]) (fun _ _ _ => rfl) ?_
  refine zq_getf_i (j := 5) (v := zq_i s (a0) (5)) rfl ha0 rfl rfl rfl ?_
  refine zq_call_i (i := .invokevirtual 76) (r := [1, 52, 1, 1, 1]) rfl rfl (fun h hp => zr_avv rfl (hp.obj (zq_fcls hR_1 (k := 0) (j := 0) (cj := 1) ha0 rfl rfl hb_3))) (of_decide_eq_false rfl) w (fun x_5 s_4 hx_6 w => ?_)
  refine zq_run 3 (pc' := 14) (L' := [(.ref (a0)), (zq_vi (x_5)), zz_no, zz_no, zz_no]) (st' := [(zq_vi ((-1))), (zq_vi (x_5))]) (fun _ _ _ => rfl) ?_
  refine zq_ne rfl hx_6 (of_decide_eq_true rfl) (fun hb_7 => ?_) (fun hb_7 => ?_)
  · rw [if_neg hb_7] at w
    refine zq_run 1 (pc' := 20) (L' := [(.ref (a0)), (zq_vi (x_5)), zz_no, zz_no, zz_no]) (st' := [(.ref (a0))]) (fun _ _ _ => rfl) ?_
    refine zq_have (fun hR_8 => ?_)
    refine zq_getf_i (j := 5) (v := zq_i s_4 (a0) (5)) rfl ha0 rfl rfl rfl ?_
    refine zq_run 1 (pc' := 24) (L' := [(.ref (a0)), (zq_vi (x_5)), zz_no, zz_no, zz_no]) (st' := [(zq_vi (1)), (zq_vi (zq_i s_4 (a0) (5)))]) (fun _ _ _ => rfl) ?_
    refine zq_iadd rfl ?_
    refine zq_run 4 (pc' := 29) (L' := [(.ref (a0)), (zq_vi (x_5)), (zq_vi ((zq_i s_4 (a0) (5)) + 1)), zz_no, zz_no]) (st' := [(zq_vi (x_5)), (zq_vi (4)), (.ref (a0))]) (fun _ _ _ => rfl) ?_
    refine zq_call_i (i := .invokevirtual 123) (r := [1, 58, 2, 1, 3]) rfl rfl (fun h hp => zr_avv rfl (hp.obj ha0)) (of_decide_eq_false rfl) w (fun x_10 s_9 hx_11 w => ?_)
    refine zq_run 3 (pc' := 36) (L' := [(.ref (a0)), (zq_vi (x_5)), (zq_vi ((zq_i s_4 (a0) (5)) + 1)), (zq_vi (x_10)), (zq_vi ((zq_i s_4 (a0) (5)) + 1))]) (st' := []) (fun _ _ _ => rfl) ?_
    exact w
  · rw [if_pos hb_7] at w
    refine zq_run 1 (pc' := 18) (L' := [(.ref (a0)), (zq_vi (x_5)), zz_no, zz_no, zz_no]) (st' := [(zq_vi (0))]) (fun _ _ _ => rfl) ?_
    exact zq_iret rfl rfl (congrArg Value.int (zq_nb (of_decide_eq_true rfl))) (⟨_, rfl, (of_decide_eq_true rfl), w⟩)
/-- PaperObjects$Reader.takeName at 36 -/
theorem zw_59_36 {X : Nat × (Nat → Int32)} {s : zq_S} {K : Int → zq_S → Prop} {a0 : Nat} (ha0 : zq_o 3 a0) {x1 : Int} (hx1 : zq_iv x1) {x2 : Int} (hx2 : zq_iv x2) {x3 : Int} (hx3 : zq_iv x3) {x4 : Int} (hx4 : zq_iv x4) (w : (if x4 < x1 then (∃ b_3 : Nat, zq_r s (a0) 1 = some b_3 ∧ (∃ b_5 : Nat, zq_r s (a0) 0 = some b_5 ∧ (zq_Ex X 29 0 [(.ref (b_5)), (zq_vi (x4))] [] s (zq_rp zq_iv fun x_8 s_7 => (zq_Ex X 60 0 [(.ref (b_3)), (zq_vi (x3)), (zq_vi (x_8))] [] s_7 (zq_rv fun s_10 => zq_Ex X 59 36 [(.ref (a0)), (zq_vi (x1)), (zq_vi (x2)), (zq_vi (x3)), (zq_vi (x4 + 1))] [] s_10 (zq_rp zq_bo K))))))) else K (1) s)) : zq_Ex X 59 36 [(.ref (a0)), (zq_vi (x1)), (zq_vi (x2)), (zq_vi (x3)), (zq_vi (x4))] [] s (zq_rp zq_bo K) := by
  refine zq_run 2 (pc' := 39) (L' := [(.ref (a0)), (zq_vi (x1)), (zq_vi (x2)), (zq_vi (x3)), (zq_vi (x4))]) (st' := [(zq_vi (x1)), (zq_vi (x4))]) (fun _ _ _ => rfl) ?_
  refine zq_ge rfl hx4 hx1 (fun hb_1 => ?_) (fun hb_1 => ?_)
  · rw [if_neg hb_1] at w
    refine zq_run 1 (pc' := 66) (L' := [(.ref (a0)), (zq_vi (x1)), (zq_vi (x2)), (zq_vi (x3)), (zq_vi (x4))]) (st' := [(zq_vi (1))]) (fun _ _ _ => rfl) ?_
    exact zq_iret rfl rfl (congrArg Value.int (zq_nb (of_decide_eq_true rfl))) (⟨_, rfl, (of_decide_eq_true rfl), w⟩)
  · rw [if_pos hb_1] at w
    refine zq_run 1 (pc' := 43) (L' := [(.ref (a0)), (zq_vi (x1)), (zq_vi (x2)), (zq_vi (x3)), (zq_vi (x4))]) (st' := [(.ref (a0))]) (fun _ _ _ => rfl) ?_
    refine zq_have (fun hR_2 => ?_)
    obtain ⟨b_3, hb_4, w⟩ := w
    refine zq_getf_rs (j := 1) rfl ha0 rfl rfl hb_4 ?_
    refine zq_run 2 (pc' := 48) (L' := [(.ref (a0)), (zq_vi (x1)), (zq_vi (x2)), (zq_vi (x3)), (zq_vi (x4))]) (st' := [(.ref (a0)), (zq_vi (x3)), (.ref (b_3))]) (fun _ _ _ => rfl) ?_
    obtain ⟨b_5, hb_6, w⟩ := w
    refine zq_getf_rs (j := 0) rfl ha0 rfl rfl hb_6 ?_
    refine zq_run 1 (pc' := 53) (L' := [(.ref (a0)), (zq_vi (x1)), (zq_vi (x2)), (zq_vi (x3)), (zq_vi (x4))]) (st' := [(zq_vi (x4)), (.ref (b_5)), (zq_vi (x3)), (.ref (b_3))]) (fun _ _ _ => rfl) ?_
    refine zq_call_i (i := .invokevirtual 90) (r := [1, 29, 1, 1, 1]) rfl rfl (fun h hp => zr_avv rfl (hp.obj (zq_fcls hR_2 (k := 0) (j := 0) (cj := 1) ha0 rfl rfl hb_6))) (of_decide_eq_false rfl) w (fun x_8 s_7 hx_9 w => ?_)
    refine zq_call_v (i := .invokevirtual 127) (r := [1, 60, 2, 1, 4]) rfl rfl (fun h hp => zr_avv rfl (hp.obj (zq_fcls hR_2 (k := 1) (j := 1) (cj := 4) ha0 rfl rfl hb_4))) (of_decide_eq_false rfl) w (fun s_10 w => ?_)
    refine zq_iinc (L' := [(.ref (a0)), (zq_vi (x1)), (zq_vi (x2)), (zq_vi (x3)), (zq_vi (x4 + 1))]) rfl rfl rfl ?_
    refine zq_run 1 (pc' := 36) (L' := [(.ref (a0)), (zq_vi (x1)), (zq_vi (x2)), (zq_vi (x3)), (zq_vi (x4 + 1))]) (st' := []) (fun _ _ _ => rfl) ?_
    exact w
/-- PaperObjects$Tree.addLetter(II)V -/
theorem zw_60 {X : Nat × (Nat → Int32)} {s : zq_S} {K : zq_S → Prop} {a0 : Nat} (ha0 : zq_o 4 a0) {x1 : Int} (hx1 : zq_iv x1) {x2 : Int} (hx2 : zq_iv x2) (w : (((0 : Int) ≤ x1 ∧ x1 < (12 : Int)) ∧ (if zq_i s (a0 + 3) (x1) < 12 then (((0 : Int) ≤ x1 ∧ x1 < (12 : Int)) ∧ (((0 : Int) ≤ (x1 * 12) + (zq_i s (a0 + 3) (x1)) ∧ (x1 * 12) + (zq_i s (a0 + 3) (x1)) < (144 : Int)) ∧ (((0 : Int) ≤ x1 ∧ x1 < (12 : Int)) ∧ (((0 : Int) ≤ x1 ∧ x1 < (12 : Int)) ∧ (zq_iv ((zq_i s (a0 + 3) (x1)) + 1) ∧ K (zq_si (zq_si s (a0 + 6) ((x1 * 12) + (zq_i s (a0 + 3) (x1))) ((x2) % 65536)) (a0 + 3) (x1) ((zq_i s (a0 + 3) (x1)) + 1))))))) else K s))) : zq_Ex X 60 0 [(.ref (a0)), (zq_vi (x1)), (zq_vi (x2))] [] s (zq_rv K) := by
  refine zq_run 1 (pc' := 1) (L' := [(.ref (a0)), (zq_vi (x1)), (zq_vi (x2))]) (st' := [(.ref (a0))]) (fun _ _ _ => rfl) ?_
  refine zq_getf_f (b := a0 + 3) rfl ha0 rfl rfl ?_
  refine zq_run 1 (pc' := 5) (L' := [(.ref (a0)), (zq_vi (x1)), (zq_vi (x2))]) (st' := [(zq_vi (x1)), (.ref (a0 + 3))]) (fun _ _ _ => rfl) ?_
  obtain ⟨g_1, w⟩ := w
  refine zq_have (fun hR_2 => ?_)
  refine zq_ald_i (v := zq_i s (a0 + 3) (x1)) rfl (zq_L4 ha0).2.2.1 g_1.1 g_1.2 rfl ?_
  refine zq_run 1 (pc' := 8) (L' := [(.ref (a0)), (zq_vi (x1)), (zq_vi (x2))]) (st' := [(zq_vi (12)), (zq_vi (zq_i s (a0 + 3) (x1)))]) (fun _ _ _ => rfl) ?_
  refine zq_ge rfl (hR_2.1 _ _) (of_decide_eq_true rfl) (fun hb_3 => ?_) (fun hb_3 => ?_)
  · rw [if_neg hb_3] at w
    exact zq_vret rfl rfl (⟨rfl, w⟩)
  · rw [if_pos hb_3] at w
    refine zq_run 1 (pc' := 12) (L' := [(.ref (a0)), (zq_vi (x1)), (zq_vi (x2))]) (st' := [(.ref (a0))]) (fun _ _ _ => rfl) ?_
    refine zq_getf_f (b := a0 + 6) rfl ha0 rfl rfl ?_
    refine zq_run 2 (pc' := 18) (L' := [(.ref (a0)), (zq_vi (x1)), (zq_vi (x2))]) (st' := [(zq_vi (12)), (zq_vi (x1)), (.ref (a0 + 6))]) (fun _ _ _ => rfl) ?_
    refine zq_imul rfl ?_
    refine zq_run 1 (pc' := 20) (L' := [(.ref (a0)), (zq_vi (x1)), (zq_vi (x2))]) (st' := [(.ref (a0)), (zq_vi (x1 * 12)), (.ref (a0 + 6))]) (fun _ _ _ => rfl) ?_
    refine zq_getf_f (b := a0 + 3) rfl ha0 rfl rfl ?_
    refine zq_run 1 (pc' := 24) (L' := [(.ref (a0)), (zq_vi (x1)), (zq_vi (x2))]) (st' := [(zq_vi (x1)), (.ref (a0 + 3)), (zq_vi (x1 * 12)), (.ref (a0 + 6))]) (fun _ _ _ => rfl) ?_
    obtain ⟨g_4, w⟩ := w
    refine zq_ald_i (v := zq_i s (a0 + 3) (x1)) rfl (zq_L4 ha0).2.2.1 g_4.1 g_4.2 rfl ?_
    refine zq_iadd rfl ?_
    refine zq_run 1 (pc' := 27) (L' := [(.ref (a0)), (zq_vi (x1)), (zq_vi (x2))]) (st' := [(zq_vi (x2)), (zq_vi ((x1 * 12) + (zq_i s (a0 + 3) (x1)))), (.ref (a0 + 6))]) (fun _ _ _ => rfl) ?_
    refine zq_i2c rfl ?_
    obtain ⟨g_5, w⟩ := w
    refine zq_ast_c rfl (zq_L4 ha0).2.2.2.2.2 g_5.1 g_5.2 (zq_chm _) ?_
    refine zq_run 1 (pc' := 30) (L' := [(.ref (a0)), (zq_vi (x1)), (zq_vi (x2))]) (st' := [(.ref (a0))]) (fun _ _ _ => rfl) ?_
    refine zq_getf_f (b := a0 + 3) rfl ha0 rfl rfl ?_
    refine zq_run 2 (pc' := 35) (L' := [(.ref (a0)), (zq_vi (x1)), (zq_vi (x2))]) (st' := [(zq_vi (x1)), (.ref (a0 + 3)), (zq_vi (x1)), (.ref (a0 + 3))]) (fun _ _ _ => rfl) ?_
    obtain ⟨g_6, w⟩ := w
    have e_7 : zq_i (zq_si s (a0 + 6) ((x1 * 12) + (zq_i s (a0 + 3) (x1))) ((x2) % 65536)) (a0 + 3) (x1) = zq_i s (a0 + 3) (x1) := by simp [zq_i_si, zq_i_sr, zq_i_sl]
    refine zq_ald_i (v := zq_i s (a0 + 3) (x1)) rfl (zq_L4 ha0).2.2.1 g_6.1 g_6.2 e_7 ?_
    refine zq_run 1 (pc' := 37) (L' := [(.ref (a0)), (zq_vi (x1)), (zq_vi (x2))]) (st' := [(zq_vi (1)), (zq_vi (zq_i s (a0 + 3) (x1))), (zq_vi (x1)), (.ref (a0 + 3))]) (fun _ _ _ => rfl) ?_
    refine zq_iadd rfl ?_
    obtain ⟨g_8, w⟩ := w
    obtain ⟨g_9, w⟩ := w
    refine zq_ast_i rfl (zq_L4 ha0).2.2.1 g_8.1 g_8.2 g_9 ?_
    exact zq_vret rfl rfl (⟨rfl, w⟩)
/-- PaperObjects$Reader.takeString()Z -/
theorem zw_61 {X : Nat × (Nat → Int32)} {s : zq_S} {K : Int → zq_S → Prop} {a0 : Nat} (ha0 : zq_o 3 a0) (w : (∃ b_2 : Nat, zq_r s (a0) 1 = some b_2 ∧ (zq_Ex X 10 0 [(.ref (b_2)), (zq_vi (5)), (zq_vi (zq_i s (a0) (3))), (.long (zq_l s (a0) 4)), zz_no, zz_no] [] s (zq_rp zq_iv fun x_5 s_4 => zq_Ex X 61 24 [(.ref (a0)), (zq_vi (x_5)), (zq_vi ((zq_i s_4 (a0) (5)) + 1)), zz_no] [] s_4 (zq_rp zq_bo K))))) : zq_Ex X 61 0 [(.ref (a0)), zz_no, zz_no, zz_no] [] s (zq_rp zq_bo K) := by
  refine zq_run 1 (pc' := 1) (L' := [(.ref (a0)), zz_no, zz_no, zz_no]) (st' := [(.ref (a0))]) (fun _ _ _ => rfl) ?_
  refine zq_have (fun hR_1 => ?_)
  obtain ⟨b_2, hb_3, w⟩ := w
  refine zq_getf_rs (j := 1) rfl ha0 rfl rfl hb_3 ?_
  refine zq_run 2 (pc' := 6) (L' := [(.ref (a0)), zz_no, zz_no, zz_no]) (st' := [(.ref (a0)), (zq_vi (5)), (.ref (b_2))]) (fun _ _ _ => rfl) ?_
  refine zq_getf_i (j := 3) (v := zq_i s (a0) (3)) rfl ha0 rfl rfl rfl ?_
  refine zq_run 1 (pc' := 10) (L' := [(.ref (a0)), zz_no, zz_no, zz_no]) (st' := [(.ref (a0)), (zq_vi (zq_i s (a0) (3))), (zq_vi (5)), (.ref (b_2))]) (fun _ _ _ => rfl) ?_
  refine zq_getf_l (j := 4) (v := zq_l s (a0) 4) rfl ha0 rfl rfl rfl ?_
  refine zq_call_i (i := .invokevirtual 119) (r := [1, 10, 3, 1, 4]) rfl rfl (fun h hp => zr_avv rfl (hp.obj (zq_fcls hR_1 (k := 1) (j := 1) (cj := 4) ha0 rfl rfl hb_3))) (of_decide_eq_false rfl) w (fun x_5 s_4 hx_6 w => ?_)
  refine zq_run 2 (pc' := 18) (L' := [(.ref (a0)), (zq_vi (x_5)), zz_no, zz_no]) (st' := [(.ref (a0))]) (fun _ _ _ => rfl) ?_
  refine zq_have (fun hR_7 => ?_)
  refine zq_getf_i (j := 5) (v := zq_i s_4 (a0) (5)) rfl ha0 rfl rfl rfl ?_
  refine zq_run 1 (pc' := 22) (L' := [(.ref (a0)), (zq_vi (x_5)), zz_no, zz_no]) (st' := [(zq_vi (1)), (zq_vi (zq_i s_4 (a0) (5)))]) (fun _ _ _ => rfl) ?_
  refine zq_iadd rfl ?_
  refine zq_run 1 (pc' := 24) (L' := [(.ref (a0)), (zq_vi (x_5)), (zq_vi ((zq_i s_4 (a0) (5)) + 1)), zz_no]) (st' := []) (fun _ _ _ => rfl) ?_
  exact w
/-- PaperObjects$Reader.takeString at 24 -/
theorem zw_61_24 {X : Nat × (Nat → Int32)} {s : zq_S} {K : Int → zq_S → Prop} {a0 : Nat} (ha0 : zq_o 3 a0) {x1 : Int} (hx1 : zq_iv x1) {x2 : Int} (hx2 : zq_iv x2) {v3 : Value} (hv3 : v3.category = 1) (w : (∃ b_2 : Nat, zq_r s (a0) 0 = some b_2 ∧ (if x2 < zq_i s (b_2) (1) then (zq_Ex X 29 0 [(.ref (b_2)), (zq_vi (x2))] [] s (zq_rp zq_iv fun x_6 s_5 => (if x_6 = 41 then (zq_iv (x2 + 1) ∧ K (1) (zq_si (zq_sl s_5 (a0) (4) (0)) (a0) (5) (x2 + 1))) else (if x_6 = 92 then (∃ b_18 : Nat, zq_r s_5 (a0) 0 = some b_18 ∧ (zq_Ex X 29 0 [(.ref (b_18)), (zq_vi (x2 + 1))] [] s_5 (zq_rp zq_iv fun x_21 s_20 => (if x_21 = 40 then (if x_21 = 10 then K (0) s_20 else (∃ b_26 : Nat, zq_r s_20 (a0) 1 = some b_26 ∧ (((0 : Int) ≤ x1 ∧ x1 < (12 : Int)) ∧ (if zq_i s_20 (b_26 + 3) (x1) = 12 then K (0) s_20 else (zq_Ex X 60 0 [(.ref (b_26)), (zq_vi (x1)), (zq_vi (x_21))] [] s_20 (zq_rv fun s_30 => zq_Ex X 61 24 [(.ref (a0)), (zq_vi (x1)), (zq_vi ((x2 + 1) + 1)), (zq_vi (x_21))] [] s_30 (zq_rp zq_bo K))))))) else (if x_21 = 41 then (if x_21 = 10 then K (0) s_20 else (∃ b_34 : Nat, zq_r s_20 (a0) 1 = some b_34 ∧ (((0 : Int) ≤ x1 ∧ x1 < (12 : Int)) ∧ (if zq_i s_20 (b_34 + 3) (x1) = 12 then K (0) s_20 else (zq_Ex X 60 0 [(.ref (b_34)), (zq_vi (x1)), (zq_vi (x_21))] [] s_20 (zq_rv fun s_38 => zq_Ex X 61 24 [(.ref (a0)), (zq_vi (x1)), (zq_vi ((x2 + 1) + 1)), (zq_vi (x_21))] [] s_38 (zq_rp zq_bo K))))))) else (if x_21 = 92 then (if x_21 = 10 then K (0) s_20 else (∃ b_42 : Nat, zq_r s_20 (a0) 1 = some b_42 ∧ (((0 : Int) ≤ x1 ∧ x1 < (12 : Int)) ∧ (if zq_i s_20 (b_42 + 3) (x1) = 12 then K (0) s_20 else (zq_Ex X 60 0 [(.ref (b_42)), (zq_vi (x1)), (zq_vi (x_21))] [] s_20 (zq_rv fun s_46 => zq_Ex X 61 24 [(.ref (a0)), (zq_vi (x1)), (zq_vi ((x2 + 1) + 1)), (zq_vi (x_21))] [] s_46 (zq_rp zq_bo K))))))) else K (0) s_20)))))) else (if x_6 = 10 then K (0) s_5 else (∃ b_12 : Nat, zq_r s_5 (a0) 1 = some b_12 ∧ (((0 : Int) ≤ x1 ∧ x1 < (12 : Int)) ∧ (if zq_i s_5 (b_12 + 3) (x1) = 12 then K (0) s_5 else (zq_Ex X 60 0 [(.ref (b_12)), (zq_vi (x1)), (zq_vi (x_6))] [] s_5 (zq_rv fun s_16 => zq_Ex X 61 24 [(.ref (a0)), (zq_vi (x1)), (zq_vi (x2 + 1)), (zq_vi (x_6))] [] s_16 (zq_rp zq_bo K))))))))))) else K (0) s))) : zq_Ex X 61 24 [(.ref (a0)), (zq_vi (x1)), (zq_vi (x2)), v3] [] s (zq_rp zq_bo K) := by
  refine zq_run 2 (pc' := 26) (L' := [(.ref (a0)), (zq_vi (x1)), (zq_vi (x2)), v3]) (st' := [(.ref (a0)), (zq_vi (x2))]) (fun _ _ _ => rfl) ?_
  refine zq_have (fun hR_1 => ?_)
  obtain ⟨b_2, hb_3, w⟩ := w
  refine zq_getf_rs (j := 0) rfl ha0 rfl rfl hb_3 ?_
  refine zq_getf_i (j := 1) (v := zq_i s (b_2) (1)) rfl (zq_fcls hR_1 (k := 0) (j := 0) (cj := 1) ha0 rfl rfl hb_3) rfl rfl rfl ?_
  refine zq_ge rfl hx2 (hR_1.1 _ _) (fun hb_4 => ?_) (fun hb_4 => ?_)
  · rw [if_neg hb_4] at w
    refine zq_run 1 (pc' := 140) (L' := [(.ref (a0)), (zq_vi (x1)), (zq_vi (x2)), v3]) (st' := [(zq_vi (0))]) (fun _ _ _ => rfl) ?_
    exact zq_iret rfl rfl (congrArg Value.int (zq_nb (of_decide_eq_true rfl))) (⟨_, rfl, (of_decide_eq_true rfl), w⟩)
  · rw [if_pos hb_4] at w
    refine zq_run 1 (pc' := 36) (L' := [(.ref (a0)), (zq_vi (x1)), (zq_vi (x2)), v3]) (st' := [(.ref (a0))]) (fun _ _ _ => rfl) ?_
    refine zq_getf_rs (j := 0) (b := b_2) rfl ha0 rfl rfl hb_3 ?_
    refine zq_run 1 (pc' := 40) (L' := [(.ref (a0)), (zq_vi (x1)), (zq_vi (x2)), v3]) (st' := [(zq_vi (x2)), (.ref (b_2))]) (fun _ _ _ => rfl) ?_
    refine zq_call_i (i := .invokevirtual 90) (r := [1, 29, 1, 1, 1]) rfl rfl (fun h hp => zr_avv rfl (hp.obj (zq_fcls hR_1 (k := 0) (j := 0) (cj := 1) ha0 rfl rfl hb_3))) (of_decide_eq_false rfl) w (fun x_6 s_5 hx_7 w => ?_)
    refine zq_run 3 (pc' := 47) (L' := [(.ref (a0)), (zq_vi (x1)), (zq_vi (x2)), (zq_vi (x_6))]) (st' := [(zq_vi (41)), (zq_vi (x_6))]) (fun _ _ _ => rfl) ?_
    refine zq_ne rfl hx_7 (of_decide_eq_true rfl) (fun hb_8 => ?_) (fun hb_8 => ?_)
    · rw [if_neg hb_8] at w
      refine zq_run 2 (pc' := 67) (L' := [(.ref (a0)), (zq_vi (x1)), (zq_vi (x2)), (zq_vi (x_6))]) (st' := [(zq_vi (92)), (zq_vi (x_6))]) (fun _ _ _ => rfl) ?_
      refine zq_ne rfl hx_7 (of_decide_eq_true rfl) (fun hb_9 => ?_) (fun hb_9 => ?_)
      · rw [if_neg hb_9] at w
        refine zq_run 2 (pc' := 105) (L' := [(.ref (a0)), (zq_vi (x1)), (zq_vi (x2)), (zq_vi (x_6))]) (st' := [(zq_vi (10)), (zq_vi (x_6))]) (fun _ _ _ => rfl) ?_
        refine zq_eq rfl hx_7 (of_decide_eq_true rfl) (fun hb_10 => ?_) (fun hb_10 => ?_)
        · rw [if_pos hb_10] at w
          refine zq_run 1 (pc' := 123) (L' := [(.ref (a0)), (zq_vi (x1)), (zq_vi (x2)), (zq_vi (x_6))]) (st' := [(zq_vi (0))]) (fun _ _ _ => rfl) ?_
          exact zq_iret rfl rfl (congrArg Value.int (zq_nb (of_decide_eq_true rfl))) (⟨_, rfl, (of_decide_eq_true rfl), w⟩)
        · rw [if_neg hb_10] at w
          refine zq_run 1 (pc' := 109) (L' := [(.ref (a0)), (zq_vi (x1)), (zq_vi (x2)), (zq_vi (x_6))]) (st' := [(.ref (a0))]) (fun _ _ _ => rfl) ?_
          refine zq_have (fun hR_11 => ?_)
          obtain ⟨b_12, hb_13, w⟩ := w
          refine zq_getf_rs (j := 1) rfl ha0 rfl rfl hb_13 ?_
          refine zq_getf_f (b := b_12 + 3) rfl (zq_fcls hR_11 (k := 1) (j := 1) (cj := 4) ha0 rfl rfl hb_13) rfl rfl ?_
          refine zq_run 1 (pc' := 116) (L' := [(.ref (a0)), (zq_vi (x1)), (zq_vi (x2)), (zq_vi (x_6))]) (st' := [(zq_vi (x1)), (.ref (b_12 + 3))]) (fun _ _ _ => rfl) ?_
          obtain ⟨g_14, w⟩ := w
          refine zq_ald_i (v := zq_i s_5 (b_12 + 3) (x1)) rfl (zq_L4 (zq_fcls hR_11 (k := 1) (j := 1) (cj := 4) ha0 rfl rfl hb_13)).2.2.1 g_14.1 g_14.2 rfl ?_
          refine zq_run 1 (pc' := 119) (L' := [(.ref (a0)), (zq_vi (x1)), (zq_vi (x2)), (zq_vi (x_6))]) (st' := [(zq_vi (12)), (zq_vi (zq_i s_5 (b_12 + 3) (x1)))]) (fun _ _ _ => rfl) ?_
          refine zq_ne rfl (hR_11.1 _ _) (of_decide_eq_true rfl) (fun hb_15 => ?_) (fun hb_15 => ?_)
          · rw [if_neg hb_15] at w
            refine zq_run 1 (pc' := 125) (L' := [(.ref (a0)), (zq_vi (x1)), (zq_vi (x2)), (zq_vi (x_6))]) (st' := [(.ref (a0))]) (fun _ _ _ => rfl) ?_
            refine zq_getf_rs (j := 1) (b := b_12) rfl ha0 rfl rfl hb_13 ?_
            refine zq_run 2 (pc' := 130) (L' := [(.ref (a0)), (zq_vi (x1)), (zq_vi (x2)), (zq_vi (x_6))]) (st' := [(zq_vi (x_6)), (zq_vi (x1)), (.ref (b_12))]) (fun _ _ _ => rfl) ?_
            refine zq_call_v (i := .invokevirtual 127) (r := [1, 60, 2, 1, 4]) rfl rfl (fun h hp => zr_avv rfl (hp.obj (zq_fcls hR_11 (k := 1) (j := 1) (cj := 4) ha0 rfl rfl hb_13))) (of_decide_eq_false rfl) w (fun s_16 w => ?_)
            refine zq_iinc (L' := [(.ref (a0)), (zq_vi (x1)), (zq_vi (x2 + 1)), (zq_vi (x_6))]) rfl rfl rfl ?_
            refine zq_run 1 (pc' := 24) (L' := [(.ref (a0)), (zq_vi (x1)), (zq_vi (x2 + 1)), (zq_vi (x_6))]) (st' := []) (fun _ _ _ => rfl) ?_
            exact w
          · rw [if_pos hb_15] at w
            refine zq_run 1 (pc' := 123) (L' := [(.ref (a0)), (zq_vi (x1)), (zq_vi (x2)), (zq_vi (x_6))]) (st' := [(zq_vi (0))]) (fun _ _ _ => rfl) ?_
            exact zq_iret rfl rfl (congrArg Value.int (zq_nb (of_decide_eq_true rfl))) (⟨_, rfl, (of_decide_eq_true rfl), w⟩)
      · rw [if_pos hb_9] at w
        refine zq_iinc (L' := [(.ref (a0)), (zq_vi (x1)), (zq_vi (x2 + 1)), (zq_vi (x_6))]) rfl rfl rfl ?_
        refine zq_run 1 (pc' := 74) (L' := [(.ref (a0)), (zq_vi (x1)), (zq_vi (x2 + 1)), (zq_vi (x_6))]) (st' := [(.ref (a0))]) (fun _ _ _ => rfl) ?_
        refine zq_have (fun hR_17 => ?_)
        obtain ⟨b_18, hb_19, w⟩ := w
        refine zq_getf_rs (j := 0) rfl ha0 rfl rfl hb_19 ?_
        refine zq_run 1 (pc' := 78) (L' := [(.ref (a0)), (zq_vi (x1)), (zq_vi (x2 + 1)), (zq_vi (x_6))]) (st' := [(zq_vi (x2 + 1)), (.ref (b_18))]) (fun _ _ _ => rfl) ?_
        refine zq_call_i (i := .invokevirtual 90) (r := [1, 29, 1, 1, 1]) rfl rfl (fun h hp => zr_avv rfl (hp.obj (zq_fcls hR_17 (k := 0) (j := 0) (cj := 1) ha0 rfl rfl hb_19))) (of_decide_eq_false rfl) w (fun x_21 s_20 hx_22 w => ?_)
        refine zq_run 3 (pc' := 85) (L' := [(.ref (a0)), (zq_vi (x1)), (zq_vi (x2 + 1)), (zq_vi (x_21))]) (st' := [(zq_vi (40)), (zq_vi (x_21))]) (fun _ _ _ => rfl) ?_
        refine zq_eq rfl hx_22 (of_decide_eq_true rfl) (fun hb_23 => ?_) (fun hb_23 => ?_)
        · rw [if_pos hb_23] at w
          refine zq_run 2 (pc' := 105) (L' := [(.ref (a0)), (zq_vi (x1)), (zq_vi (x2 + 1)), (zq_vi (x_21))]) (st' := [(zq_vi (10)), (zq_vi (x_21))]) (fun _ _ _ => rfl) ?_
          refine zq_eq rfl hx_22 (of_decide_eq_true rfl) (fun hb_24 => ?_) (fun hb_24 => ?_)
          · rw [if_pos hb_24] at w
            refine zq_run 1 (pc' := 123) (L' := [(.ref (a0)), (zq_vi (x1)), (zq_vi (x2 + 1)), (zq_vi (x_21))]) (st' := [(zq_vi (0))]) (fun _ _ _ => rfl) ?_
            exact zq_iret rfl rfl (congrArg Value.int (zq_nb (of_decide_eq_true rfl))) (⟨_, rfl, (of_decide_eq_true rfl), w⟩)
          · rw [if_neg hb_24] at w
            refine zq_run 1 (pc' := 109) (L' := [(.ref (a0)), (zq_vi (x1)), (zq_vi (x2 + 1)), (zq_vi (x_21))]) (st' := [(.ref (a0))]) (fun _ _ _ => rfl) ?_
            refine zq_have (fun hR_25 => ?_)
            obtain ⟨b_26, hb_27, w⟩ := w
            refine zq_getf_rs (j := 1) rfl ha0 rfl rfl hb_27 ?_
            refine zq_getf_f (b := b_26 + 3) rfl (zq_fcls hR_25 (k := 1) (j := 1) (cj := 4) ha0 rfl rfl hb_27) rfl rfl ?_
            refine zq_run 1 (pc' := 116) (L' := [(.ref (a0)), (zq_vi (x1)), (zq_vi (x2 + 1)), (zq_vi (x_21))]) (st' := [(zq_vi (x1)), (.ref (b_26 + 3))]) (fun _ _ _ => rfl) ?_
            obtain ⟨g_28, w⟩ := w
            refine zq_ald_i (v := zq_i s_20 (b_26 + 3) (x1)) rfl (zq_L4 (zq_fcls hR_25 (k := 1) (j := 1) (cj := 4) ha0 rfl rfl hb_27)).2.2.1 g_28.1 g_28.2 rfl ?_
            refine zq_run 1 (pc' := 119) (L' := [(.ref (a0)), (zq_vi (x1)), (zq_vi (x2 + 1)), (zq_vi (x_21))]) (st' := [(zq_vi (12)), (zq_vi (zq_i s_20 (b_26 + 3) (x1)))]) (fun _ _ _ => rfl) ?_
            refine zq_ne rfl (hR_25.1 _ _) (of_decide_eq_true rfl) (fun hb_29 => ?_) (fun hb_29 => ?_)
            · rw [if_neg hb_29] at w
              refine zq_run 1 (pc' := 125) (L' := [(.ref (a0)), (zq_vi (x1)), (zq_vi (x2 + 1)), (zq_vi (x_21))]) (st' := [(.ref (a0))]) (fun _ _ _ => rfl) ?_
              refine zq_getf_rs (j := 1) (b := b_26) rfl ha0 rfl rfl hb_27 ?_
              refine zq_run 2 (pc' := 130) (L' := [(.ref (a0)), (zq_vi (x1)), (zq_vi (x2 + 1)), (zq_vi (x_21))]) (st' := [(zq_vi (x_21)), (zq_vi (x1)), (.ref (b_26))]) (fun _ _ _ => rfl) ?_
              refine zq_call_v (i := .invokevirtual 127) (r := [1, 60, 2, 1, 4]) rfl rfl (fun h hp => zr_avv rfl (hp.obj (zq_fcls hR_25 (k := 1) (j := 1) (cj := 4) ha0 rfl rfl hb_27))) (of_decide_eq_false rfl) w (fun s_30 w => ?_)
              refine zq_iinc (L' := [(.ref (a0)), (zq_vi (x1)), (zq_vi ((x2 + 1) + 1)), (zq_vi (x_21))]) rfl rfl rfl ?_
              refine zq_run 1 (pc' := 24) (L' := [(.ref (a0)), (zq_vi (x1)), (zq_vi ((x2 + 1) + 1)), (zq_vi (x_21))]) (st' := []) (fun _ _ _ => rfl) ?_
              exact w
            · rw [if_pos hb_29] at w
              refine zq_run 1 (pc' := 123) (L' := [(.ref (a0)), (zq_vi (x1)), (zq_vi (x2 + 1)), (zq_vi (x_21))]) (st' := [(zq_vi (0))]) (fun _ _ _ => rfl) ?_
              exact zq_iret rfl rfl (congrArg Value.int (zq_nb (of_decide_eq_true rfl))) (⟨_, rfl, (of_decide_eq_true rfl), w⟩)
        · rw [if_neg hb_23] at w
          refine zq_run 2 (pc' := 91) (L' := [(.ref (a0)), (zq_vi (x1)), (zq_vi (x2 + 1)), (zq_vi (x_21))]) (st' := [(zq_vi (41)), (zq_vi (x_21))]) (fun _ _ _ => rfl) ?_
          refine zq_eq rfl hx_22 (of_decide_eq_true rfl) (fun hb_31 => ?_) (fun hb_31 => ?_)
          · rw [if_pos hb_31] at w
            refine zq_run 2 (pc' := 105) (L' := [(.ref (a0)), (zq_vi (x1)), (zq_vi (x2 + 1)), (zq_vi (x_21))]) (st' := [(zq_vi (10)), (zq_vi (x_21))]) (fun _ _ _ => rfl) ?_
            refine zq_eq rfl hx_22 (of_decide_eq_true rfl) (fun hb_32 => ?_) (fun hb_32 => ?_)
            · rw [if_pos hb_32] at w
              refine zq_run 1 (pc' := 123) (L' := [(.ref (a0)), (zq_vi (x1)), (zq_vi (x2 + 1)), (zq_vi (x_21))]) (st' := [(zq_vi (0))]) (fun _ _ _ => rfl) ?_
              exact zq_iret rfl rfl (congrArg Value.int (zq_nb (of_decide_eq_true rfl))) (⟨_, rfl, (of_decide_eq_true rfl), w⟩)
            · rw [if_neg hb_32] at w
              refine zq_run 1 (pc' := 109) (L' := [(.ref (a0)), (zq_vi (x1)), (zq_vi (x2 + 1)), (zq_vi (x_21))]) (st' := [(.ref (a0))]) (fun _ _ _ => rfl) ?_
              refine zq_have (fun hR_33 => ?_)
              obtain ⟨b_34, hb_35, w⟩ := w
              refine zq_getf_rs (j := 1) rfl ha0 rfl rfl hb_35 ?_
              refine zq_getf_f (b := b_34 + 3) rfl (zq_fcls hR_33 (k := 1) (j := 1) (cj := 4) ha0 rfl rfl hb_35) rfl rfl ?_
              refine zq_run 1 (pc' := 116) (L' := [(.ref (a0)), (zq_vi (x1)), (zq_vi (x2 + 1)), (zq_vi (x_21))]) (st' := [(zq_vi (x1)), (.ref (b_34 + 3))]) (fun _ _ _ => rfl) ?_
              obtain ⟨g_36, w⟩ := w
              refine zq_ald_i (v := zq_i s_20 (b_34 + 3) (x1)) rfl (zq_L4 (zq_fcls hR_33 (k := 1) (j := 1) (cj := 4) ha0 rfl rfl hb_35)).2.2.1 g_36.1 g_36.2 rfl ?_
              refine zq_run 1 (pc' := 119) (L' := [(.ref (a0)), (zq_vi (x1)), (zq_vi (x2 + 1)), (zq_vi (x_21))]) (st' := [(zq_vi (12)), (zq_vi (zq_i s_20 (b_34 + 3) (x1)))]) (fun _ _ _ => rfl) ?_
              refine zq_ne rfl (hR_33.1 _ _) (of_decide_eq_true rfl) (fun hb_37 => ?_) (fun hb_37 => ?_)
              · rw [if_neg hb_37] at w
                refine zq_run 1 (pc' := 125) (L' := [(.ref (a0)), (zq_vi (x1)), (zq_vi (x2 + 1)), (zq_vi (x_21))]) (st' := [(.ref (a0))]) (fun _ _ _ => rfl) ?_
                refine zq_getf_rs (j := 1) (b := b_34) rfl ha0 rfl rfl hb_35 ?_
                refine zq_run 2 (pc' := 130) (L' := [(.ref (a0)), (zq_vi (x1)), (zq_vi (x2 + 1)), (zq_vi (x_21))]) (st' := [(zq_vi (x_21)), (zq_vi (x1)), (.ref (b_34))]) (fun _ _ _ => rfl) ?_
                refine zq_call_v (i := .invokevirtual 127) (r := [1, 60, 2, 1, 4]) rfl rfl (fun h hp => zr_avv rfl (hp.obj (zq_fcls hR_33 (k := 1) (j := 1) (cj := 4) ha0 rfl rfl hb_35))) (of_decide_eq_false rfl) w (fun s_38 w => ?_)
                refine zq_iinc (L' := [(.ref (a0)), (zq_vi (x1)), (zq_vi ((x2 + 1) + 1)), (zq_vi (x_21))]) rfl rfl rfl ?_
                refine zq_run 1 (pc' := 24) (L' := [(.ref (a0)), (zq_vi (x1)), (zq_vi ((x2 + 1) + 1)), (zq_vi (x_21))]) (st' := []) (fun _ _ _ => rfl) ?_
                exact w
              · rw [if_pos hb_37] at w
                refine zq_run 1 (pc' := 123) (L' := [(.ref (a0)), (zq_vi (x1)), (zq_vi (x2 + 1)), (zq_vi (x_21))]) (st' := [(zq_vi (0))]) (fun _ _ _ => rfl) ?_
                exact zq_iret rfl rfl (congrArg Value.int (zq_nb (of_decide_eq_true rfl))) (⟨_, rfl, (of_decide_eq_true rfl), w⟩)
          · rw [if_neg hb_31] at w
            refine zq_run 2 (pc' := 97) (L' := [(.ref (a0)), (zq_vi (x1)), (zq_vi (x2 + 1)), (zq_vi (x_21))]) (st' := [(zq_vi (92)), (zq_vi (x_21))]) (fun _ _ _ => rfl) ?_
            refine zq_eq rfl hx_22 (of_decide_eq_true rfl) (fun hb_39 => ?_) (fun hb_39 => ?_)
            · rw [if_pos hb_39] at w
              refine zq_run 2 (pc' := 105) (L' := [(.ref (a0)), (zq_vi (x1)), (zq_vi (x2 + 1)), (zq_vi (x_21))]) (st' := [(zq_vi (10)), (zq_vi (x_21))]) (fun _ _ _ => rfl) ?_
              refine zq_eq rfl hx_22 (of_decide_eq_true rfl) (fun hb_40 => ?_) (fun hb_40 => ?_)
              · rw [if_pos hb_40] at w
                refine zq_run 1 (pc' := 123) (L' := [(.ref (a0)), (zq_vi (x1)), (zq_vi (x2 + 1)), (zq_vi (x_21))]) (st' := [(zq_vi (0))]) (fun _ _ _ => rfl) ?_
                exact zq_iret rfl rfl (congrArg Value.int (zq_nb (of_decide_eq_true rfl))) (⟨_, rfl, (of_decide_eq_true rfl), w⟩)
              · rw [if_neg hb_40] at w
                refine zq_run 1 (pc' := 109) (L' := [(.ref (a0)), (zq_vi (x1)), (zq_vi (x2 + 1)), (zq_vi (x_21))]) (st' := [(.ref (a0))]) (fun _ _ _ => rfl) ?_
                refine zq_have (fun hR_41 => ?_)
                obtain ⟨b_42, hb_43, w⟩ := w
                refine zq_getf_rs (j := 1) rfl ha0 rfl rfl hb_43 ?_
                refine zq_getf_f (b := b_42 + 3) rfl (zq_fcls hR_41 (k := 1) (j := 1) (cj := 4) ha0 rfl rfl hb_43) rfl rfl ?_
                refine zq_run 1 (pc' := 116) (L' := [(.ref (a0)), (zq_vi (x1)), (zq_vi (x2 + 1)), (zq_vi (x_21))]) (st' := [(zq_vi (x1)), (.ref (b_42 + 3))]) (fun _ _ _ => rfl) ?_
                obtain ⟨g_44, w⟩ := w
                refine zq_ald_i (v := zq_i s_20 (b_42 + 3) (x1)) rfl (zq_L4 (zq_fcls hR_41 (k := 1) (j := 1) (cj := 4) ha0 rfl rfl hb_43)).2.2.1 g_44.1 g_44.2 rfl ?_
                refine zq_run 1 (pc' := 119) (L' := [(.ref (a0)), (zq_vi (x1)), (zq_vi (x2 + 1)), (zq_vi (x_21))]) (st' := [(zq_vi (12)), (zq_vi (zq_i s_20 (b_42 + 3) (x1)))]) (fun _ _ _ => rfl) ?_
                refine zq_ne rfl (hR_41.1 _ _) (of_decide_eq_true rfl) (fun hb_45 => ?_) (fun hb_45 => ?_)
                · rw [if_neg hb_45] at w
                  refine zq_run 1 (pc' := 125) (L' := [(.ref (a0)), (zq_vi (x1)), (zq_vi (x2 + 1)), (zq_vi (x_21))]) (st' := [(.ref (a0))]) (fun _ _ _ => rfl) ?_
                  refine zq_getf_rs (j := 1) (b := b_42) rfl ha0 rfl rfl hb_43 ?_
                  refine zq_run 2 (pc' := 130) (L' := [(.ref (a0)), (zq_vi (x1)), (zq_vi (x2 + 1)), (zq_vi (x_21))]) (st' := [(zq_vi (x_21)), (zq_vi (x1)), (.ref (b_42))]) (fun _ _ _ => rfl) ?_
                  refine zq_call_v (i := .invokevirtual 127) (r := [1, 60, 2, 1, 4]) rfl rfl (fun h hp => zr_avv rfl (hp.obj (zq_fcls hR_41 (k := 1) (j := 1) (cj := 4) ha0 rfl rfl hb_43))) (of_decide_eq_false rfl) w (fun s_46 w => ?_)
                  refine zq_iinc (L' := [(.ref (a0)), (zq_vi (x1)), (zq_vi ((x2 + 1) + 1)), (zq_vi (x_21))]) rfl rfl rfl ?_
                  refine zq_run 1 (pc' := 24) (L' := [(.ref (a0)), (zq_vi (x1)), (zq_vi ((x2 + 1) + 1)), (zq_vi (x_21))]) (st' := []) (fun _ _ _ => rfl) ?_
                  exact w
                · rw [if_pos hb_45] at w
                  refine zq_run 1 (pc' := 123) (L' := [(.ref (a0)), (zq_vi (x1)), (zq_vi (x2 + 1)), (zq_vi (x_21))]) (st' := [(zq_vi (0))]) (fun _ _ _ => rfl) ?_
                  exact zq_iret rfl rfl (congrArg Value.int (zq_nb (of_decide_eq_true rfl))) (⟨_, rfl, (of_decide_eq_true rfl), w⟩)
            · rw [if_neg hb_39] at w
              refine zq_run 1 (pc' := 101) (L' := [(.ref (a0)), (zq_vi (x1)), (zq_vi (x2 + 1)), (zq_vi (x_21))]) (st' := [(zq_vi (0))]) (fun _ _ _ => rfl) ?_
              exact zq_iret rfl rfl (congrArg Value.int (zq_nb (of_decide_eq_true rfl))) (⟨_, rfl, (of_decide_eq_true rfl), w⟩)
    · rw [if_pos hb_8] at w
      refine zq_run 2 (pc' := 52) (L' := [(.ref (a0)), (zq_vi (x1)), (zq_vi (x2)), (zq_vi (x_6))]) (st' := [(.long (0)), (.ref (a0))]) (fun _ _ _ => rfl) ?_
      refine zq_putf_l (j := 4) rfl ha0 rfl rfl rfl ?_
      refine zq_run 3 (pc' := 58) (L' := [(.ref (a0)), (zq_vi (x1)), (zq_vi (x2)), (zq_vi (x_6))]) (st' := [(zq_vi (1)), (zq_vi (x2)), (.ref (a0))]) (fun _ _ _ => rfl) ?_
      refine zq_iadd rfl ?_
      obtain ⟨g_47, w⟩ := w
      refine zq_putf_i (j := 5) rfl ha0 rfl rfl rfl g_47 ?_
      refine zq_run 1 (pc' := 63) (L' := [(.ref (a0)), (zq_vi (x1)), (zq_vi (x2)), (zq_vi (x_6))]) (st' := [(zq_vi (1))]) (fun _ _ _ => rfl) ?_
      exact zq_iret rfl rfl (congrArg Value.int (zq_nb (of_decide_eq_true rfl))) (⟨_, rfl, (of_decide_eq_true rfl), w⟩)
/-- PaperObjects$Reader.takeReference()Z -/
theorem zw_62 {X : Nat × (Nat → Int32)} {s : zq_S} {K : Int → zq_S → Prop} {a0 : Nat} (ha0 : zq_o 3 a0) (w : (∃ b_2 : Nat, zq_r s (a0) 0 = some b_2 ∧ (zq_Ex X 46 0 [(.ref (b_2)), (zq_vi ((zq_i s (a0) (5)) + 1)), zz_no] [] s (zq_rp zq_iv fun x_5 s_4 => (∃ b_8 : Nat, zq_r s_4 (a0) 0 = some b_8 ∧ (zq_Ex X 46 0 [(.ref (b_8)), (zq_vi (x_5 + 1)), zz_no] [] s_4 (zq_rp zq_iv fun x_11 s_10 => (zq_Ex X 63 0 [(.ref (a0)), (zq_vi (zq_i s_10 (a0) (5)))] [] s_10 (zq_rp zq_bo fun x_15 s_14 => (if x_15 = 0 then K (0) s_14 else (∃ b_19 : Nat, zq_r s_14 (a0) 0 = some b_19 ∧ (zq_Ex X 29 0 [(.ref (b_19)), (zq_vi (zq_i s_14 (a0) (5)))] [] s_14 (zq_rp zq_iv fun x_22 s_21 => (if x_22 = 48 then K (0) s_21 else (zq_Ex X 63 0 [(.ref (a0)), (zq_vi (x_5))] [] s_21 (zq_rp zq_bo fun x_26 s_25 => (if x_26 = 0 then K (0) s_25 else (∃ b_30 : Nat, zq_r s_25 (a0) 0 = some b_30 ∧ (zq_Ex X 29 0 [(.ref (b_30)), (zq_vi (x_11))] [] s_25 (zq_rp zq_iv fun x_33 s_32 => (if x_33 = 82 then (∃ b_37 : Nat, zq_r s_32 (a0) 0 = some b_37 ∧ (zq_Ex X 29 0 [(.ref (b_37)), (zq_vi (x_11 + 1))] [] s_32 (zq_rp zq_iv fun x_40 s_39 => (zq_Ex X 65 0 [(zq_vi (x_40))] [] s_39 (zq_rp zq_bo fun x_43 s_42 => (if x_43 = 0 then (∃ b_47 : Nat, zq_r s_42 (a0) 0 = some b_47 ∧ (zq_Ex X 29 0 [(.ref (b_47)), (zq_vi (zq_i s_42 (a0) (5)))] [] s_42 (zq_rp zq_iv fun x_50 s_49 => (zq_Ex X 58 0 [(.ref (a0)), (zq_vi (8)), (zq_vi (x_11 + 1)), zz_no] [] s_49 (zq_rp zq_iv fun x_53 s_52 => (∃ b_56 : Nat, zq_r s_52 (a0) 1 = some b_56 ∧ (((0 : Int) ≤ x_53 ∧ x_53 < (12 : Int)) ∧ (zq_iv (x_50 - 48) ∧ (∃ b_61 : Nat, zq_r s_52 (a0) 0 = some b_61 ∧ (zq_Ex X 29 0 [(.ref (b_61)), (zq_vi (x_5))] [] (zq_si s_52 (b_56 + 3) (x_53) (x_50 - 48)) (zq_rp zq_iv fun x_64 s_63 => (((0 : Int) ≤ x_53 ∧ x_53 < (12 : Int)) ∧ (zq_iv (x_64 - 48) ∧ K (1) (zq_si s_63 (b_56 + 4) (x_53) (x_64 - 48))))))))))))))) else K (0) s_42)))))) else K (0) s_32))))))))))))))))))))) : zq_Ex X 62 0 [(.ref (a0)), zz_no, zz_no, zz_no, zz_no, zz_no] [] s (zq_rp zq_bo K) := by
  refine zq_run 1 (pc' := 1) (L' := [(.ref (a0)), zz_no, zz_no, zz_no, zz_no, zz_no]) (st' := [(.ref (a0))]) (fun _ _ _ => rfl) ?_
  refine zq_have (fun hR_1 => ?_)
  obtain ⟨b_2, hb_3, w⟩ := w
  refine zq_getf_rs (j := 0) rfl ha0 rfl rfl hb_3 ?_
  refine zq_run 1 (pc' := 5) (L' := [(.ref (a0)), zz_no, zz_no, zz_no, zz_no, zz_no]) (st' := [(.ref (a0)), (.ref (b_2))]) (fun _ _ _ => rfl) ?_
  refine zq_getf_i (j := 5) (v := zq_i s (a0) (5)) rfl ha0 rfl rfl rfl ?_
  refine zq_run 1 (pc' := 9) (L' := [(.ref (a0)), zz_no, zz_no, zz_no, zz_no, zz_no]) (st' := [(zq_vi (1)), (zq_vi (zq_i s (a0) (5))), (.ref (b_2))]) (fun _ _ _ => rfl) ?_
  refine zq_iadd rfl ?_
  refine zq_call_i (i := .invokevirtual 38) (r := [1, 46, 1, 1, 1]) rfl rfl (fun h hp => zr_avv rfl (hp.obj (zq_fcls hR_1 (k := 0) (j := 0) (cj := 1) ha0 rfl rfl hb_3))) (of_decide_eq_false rfl) w (fun x_5 s_4 hx_6 w => ?_)
  refine zq_run 2 (pc' := 15) (L' := [(.ref (a0)), (zq_vi (x_5)), zz_no, zz_no, zz_no, zz_no]) (st' := [(.ref (a0))]) (fun _ _ _ => rfl) ?_
  refine zq_have (fun hR_7 => ?_)
  obtain ⟨b_8, hb_9, w⟩ := w
  refine zq_getf_rs (j := 0) rfl ha0 rfl rfl hb_9 ?_
  refine zq_run 2 (pc' := 20) (L' := [(.ref (a0)), (zq_vi (x_5)), zz_no, zz_no, zz_no, zz_no]) (st' := [(zq_vi (1)), (zq_vi (x_5)), (.ref (b_8))]) (fun _ _ _ => rfl) ?_
  refine zq_iadd rfl ?_
  refine zq_call_i (i := .invokevirtual 38) (r := [1, 46, 1, 1, 1]) rfl rfl (fun h hp => zr_avv rfl (hp.obj (zq_fcls hR_7 (k := 0) (j := 0) (cj := 1) ha0 rfl rfl hb_9))) (of_decide_eq_false rfl) w (fun x_11 s_10 hx_12 w => ?_)
  refine zq_run 3 (pc' := 27) (L' := [(.ref (a0)), (zq_vi (x_5)), (zq_vi (x_11)), zz_no, zz_no, zz_no]) (st' := [(.ref (a0)), (.ref (a0))]) (fun _ _ _ => rfl) ?_
  refine zq_have (fun hR_13 => ?_)
  refine zq_getf_i (j := 5) (v := zq_i s_10 (a0) (5)) rfl ha0 rfl rfl rfl ?_
  refine zq_call_i (i := .invokevirtual 134) (r := [1, 63, 1, 1, 3]) rfl rfl (fun h hp => zr_avv rfl (hp.obj ha0)) (of_decide_eq_false rfl) w (fun x_15 s_14 hx_16 w => ?_)
  refine zq_eq0 rfl (zq_bo_in hx_16) (fun hb_17 => ?_) (fun hb_17 => ?_)
  · rw [if_pos hb_17] at w
    refine zq_run 3 (pc' := 96) (L' := [(.ref (a0)), (zq_vi (x_5)), (zq_vi (x_11)), (zq_vi (0)), zz_no, zz_no]) (st' := [(zq_vi (0))]) (fun _ _ _ => rfl) ?_
    refine zq_ne0 rfl (of_decide_eq_true rfl) (fun hb => absurd (by decide) hb) (fun _ => ?_)
    refine zq_run 1 (pc' := 100) (L' := [(.ref (a0)), (zq_vi (x_5)), (zq_vi (x_11)), (zq_vi (0)), zz_no, zz_no]) (st' := [(zq_vi (0))]) (fun _ _ _ => rfl) ?_
    exact zq_iret rfl rfl (congrArg Value.int (zq_nb (of_decide_eq_true rfl))) (⟨_, rfl, (of_decide_eq_true rfl), w⟩)
  · rw [if_neg hb_17] at w
    refine zq_run 1 (pc' := 37) (L' := [(.ref (a0)), (zq_vi (x_5)), (zq_vi (x_11)), zz_no, zz_no, zz_no]) (st' := [(.ref (a0))]) (fun _ _ _ => rfl) ?_
    refine zq_have (fun hR_18 => ?_)
    obtain ⟨b_19, hb_20, w⟩ := w
    refine zq_getf_rs (j := 0) rfl ha0 rfl rfl hb_20 ?_
    refine zq_run 1 (pc' := 41) (L' := [(.ref (a0)), (zq_vi (x_5)), (zq_vi (x_11)), zz_no, zz_no, zz_no]) (st' := [(.ref (a0)), (.ref (b_19))]) (fun _ _ _ => rfl) ?_
    refine zq_getf_i (j := 5) (v := zq_i s_14 (a0) (5)) rfl ha0 rfl rfl rfl ?_
    refine zq_call_i (i := .invokevirtual 90) (r := [1, 29, 1, 1, 1]) rfl rfl (fun h hp => zr_avv rfl (hp.obj (zq_fcls hR_18 (k := 0) (j := 0) (cj := 1) ha0 rfl rfl hb_20))) (of_decide_eq_false rfl) w (fun x_22 s_21 hx_23 w => ?_)
    refine zq_run 1 (pc' := 49) (L' := [(.ref (a0)), (zq_vi (x_5)), (zq_vi (x_11)), zz_no, zz_no, zz_no]) (st' := [(zq_vi (48)), (zq_vi (x_22))]) (fun _ _ _ => rfl) ?_
    refine zq_eq rfl hx_23 (of_decide_eq_true rfl) (fun hb_24 => ?_) (fun hb_24 => ?_)
    · rw [if_pos hb_24] at w
      refine zq_run 3 (pc' := 96) (L' := [(.ref (a0)), (zq_vi (x_5)), (zq_vi (x_11)), (zq_vi (0)), zz_no, zz_no]) (st' := [(zq_vi (0))]) (fun _ _ _ => rfl) ?_
      refine zq_ne0 rfl (of_decide_eq_true rfl) (fun hb => absurd (by decide) hb) (fun _ => ?_)
      refine zq_run 1 (pc' := 100) (L' := [(.ref (a0)), (zq_vi (x_5)), (zq_vi (x_11)), (zq_vi (0)), zz_no, zz_no]) (st' := [(zq_vi (0))]) (fun _ _ _ => rfl) ?_
      exact zq_iret rfl rfl (congrArg Value.int (zq_nb (of_decide_eq_true rfl))) (⟨_, rfl, (of_decide_eq_true rfl), w⟩)
    · rw [if_neg hb_24] at w
      refine zq_run 2 (pc' := 54) (L' := [(.ref (a0)), (zq_vi (x_5)), (zq_vi (x_11)), zz_no, zz_no, zz_no]) (st' := [(zq_vi (x_5)), (.ref (a0))]) (fun _ _ _ => rfl) ?_
      refine zq_call_i (i := .invokevirtual 134) (r := [1, 63, 1, 1, 3]) rfl rfl (fun h hp => zr_avv rfl (hp.obj ha0)) (of_decide_eq_false rfl) w (fun x_26 s_25 hx_27 w => ?_)
      refine zq_eq0 rfl (zq_bo_in hx_27) (fun hb_28 => ?_) (fun hb_28 => ?_)
      · rw [if_pos hb_28] at w
        refine zq_run 3 (pc' := 96) (L' := [(.ref (a0)), (zq_vi (x_5)), (zq_vi (x_11)), (zq_vi (0)), zz_no, zz_no]) (st' := [(zq_vi (0))]) (fun _ _ _ => rfl) ?_
        refine zq_ne0 rfl (of_decide_eq_true rfl) (fun hb => absurd (by decide) hb) (fun _ => ?_)
        refine zq_run 1 (pc' := 100) (L' := [(.ref (a0)), (zq_vi (x_5)), (zq_vi (x_11)), (zq_vi (0)), zz_no, zz_no]) (st' := [(zq_vi (0))]) (fun _ _ _ => rfl) ?_
        exact zq_iret rfl rfl (congrArg Value.int (zq_nb (of_decide_eq_true rfl))) (⟨_, rfl, (of_decide_eq_true rfl), w⟩)
      · rw [if_neg hb_28] at w
        refine zq_run 1 (pc' := 61) (L' := [(.ref (a0)), (zq_vi (x_5)), (zq_vi (x_11)), zz_no, zz_no, zz_no]) (st' := [(.ref (a0))]) (fun _ _ _ => rfl) ?_
        refine zq_have (fun hR_29 => ?_)
        obtain ⟨b_30, hb_31, w⟩ := w
        refine zq_getf_rs (j := 0) rfl ha0 rfl rfl hb_31 ?_
        refine zq_run 1 (pc' := 65) (L' := [(.ref (a0)), (zq_vi (x_5)), (zq_vi (x_11)), zz_no, zz_no, zz_no]) (st' := [(zq_vi (x_11)), (.ref (b_30))]) (fun _ _ _ => rfl) ?_
        refine zq_call_i (i := .invokevirtual 90) (r := [1, 29, 1, 1, 1]) rfl rfl (fun h hp => zr_avv rfl (hp.obj (zq_fcls hR_29 (k := 0) (j := 0) (cj := 1) ha0 rfl rfl hb_31))) (of_decide_eq_false rfl) w (fun x_33 s_32 hx_34 w => ?_)
        refine zq_run 1 (pc' := 70) (L' := [(.ref (a0)), (zq_vi (x_5)), (zq_vi (x_11)), zz_no, zz_no, zz_no]) (st' := [(zq_vi (82)), (zq_vi (x_33))]) (fun _ _ _ => rfl) ?_
        refine zq_ne rfl hx_34 (of_decide_eq_true rfl) (fun hb_35 => ?_) (fun hb_35 => ?_)
        · rw [if_neg hb_35] at w
          refine zq_run 3 (pc' := 96) (L' := [(.ref (a0)), (zq_vi (x_5)), (zq_vi (x_11)), (zq_vi (0)), zz_no, zz_no]) (st' := [(zq_vi (0))]) (fun _ _ _ => rfl) ?_
          refine zq_ne0 rfl (of_decide_eq_true rfl) (fun hb => absurd (by decide) hb) (fun _ => ?_)
          refine zq_run 1 (pc' := 100) (L' := [(.ref (a0)), (zq_vi (x_5)), (zq_vi (x_11)), (zq_vi (0)), zz_no, zz_no]) (st' := [(zq_vi (0))]) (fun _ _ _ => rfl) ?_
          exact zq_iret rfl rfl (congrArg Value.int (zq_nb (of_decide_eq_true rfl))) (⟨_, rfl, (of_decide_eq_true rfl), w⟩)
        · rw [if_pos hb_35] at w
          refine zq_run 1 (pc' := 74) (L' := [(.ref (a0)), (zq_vi (x_5)), (zq_vi (x_11)), zz_no, zz_no, zz_no]) (st' := [(.ref (a0))]) (fun _ _ _ => rfl) ?_
          refine zq_have (fun hR_36 => ?_)
          obtain ⟨b_37, hb_38, w⟩ := w
          refine zq_getf_rs (j := 0) rfl ha0 rfl rfl hb_38 ?_
          refine zq_run 2 (pc' := 79) (L' := [(.ref (a0)), (zq_vi (x_5)), (zq_vi (x_11)), zz_no, zz_no, zz_no]) (st' := [(zq_vi (1)), (zq_vi (x_11)), (.ref (b_37))]) (fun _ _ _ => rfl) ?_
          refine zq_iadd rfl ?_
          refine zq_call_i (i := .invokevirtual 90) (r := [1, 29, 1, 1, 1]) rfl rfl (fun h hp => zr_avv rfl (hp.obj (zq_fcls hR_36 (k := 0) (j := 0) (cj := 1) ha0 rfl rfl hb_38))) (of_decide_eq_false rfl) w (fun x_40 s_39 hx_41 w => ?_)
          refine zq_call_i (i := .invokestatic 138) (r := [1, 65, 1, 0, 0]) rfl rfl (fun _ _ => rfl) (of_decide_eq_false rfl) w (fun x_43 s_42 hx_44 w => ?_)
          refine zq_ne0 rfl (zq_bo_in hx_44) (fun hb_45 => ?_) (fun hb_45 => ?_)
          · rw [if_neg hb_45] at w
            refine zq_run 3 (pc' := 96) (L' := [(.ref (a0)), (zq_vi (x_5)), (zq_vi (x_11)), (zq_vi (0)), zz_no, zz_no]) (st' := [(zq_vi (0))]) (fun _ _ _ => rfl) ?_
            refine zq_ne0 rfl (of_decide_eq_true rfl) (fun hb => absurd (by decide) hb) (fun _ => ?_)
            refine zq_run 1 (pc' := 100) (L' := [(.ref (a0)), (zq_vi (x_5)), (zq_vi (x_11)), (zq_vi (0)), zz_no, zz_no]) (st' := [(zq_vi (0))]) (fun _ _ _ => rfl) ?_
            exact zq_iret rfl rfl (congrArg Value.int (zq_nb (of_decide_eq_true rfl))) (⟨_, rfl, (of_decide_eq_true rfl), w⟩)
          · rw [if_pos hb_45] at w
            refine zq_run 4 (pc' := 96) (L' := [(.ref (a0)), (zq_vi (x_5)), (zq_vi (x_11)), (zq_vi (1)), zz_no, zz_no]) (st' := [(zq_vi (1))]) (fun _ _ _ => rfl) ?_
            refine zq_ne0 rfl (of_decide_eq_true rfl) (fun _ => ?_) (fun hb => absurd hb (by decide))
            refine zq_run 1 (pc' := 102) (L' := [(.ref (a0)), (zq_vi (x_5)), (zq_vi (x_11)), (zq_vi (1)), zz_no, zz_no]) (st' := [(.ref (a0))]) (fun _ _ _ => rfl) ?_
            refine zq_have (fun hR_46 => ?_)
            obtain ⟨b_47, hb_48, w⟩ := w
            refine zq_getf_rs (j := 0) rfl ha0 rfl rfl hb_48 ?_
            refine zq_run 1 (pc' := 106) (L' := [(.ref (a0)), (zq_vi (x_5)), (zq_vi (x_11)), (zq_vi (1)), zz_no, zz_no]) (st' := [(.ref (a0)), (.ref (b_47))]) (fun _ _ _ => rfl) ?_
            refine zq_getf_i (j := 5) (v := zq_i s_42 (a0) (5)) rfl ha0 rfl rfl rfl ?_
            refine zq_call_i (i := .invokevirtual 90) (r := [1, 29, 1, 1, 1]) rfl rfl (fun h hp => zr_avv rfl (hp.obj (zq_fcls hR_46 (k := 0) (j := 0) (cj := 1) ha0 rfl rfl hb_48))) (of_decide_eq_false rfl) w (fun x_50 s_49 hx_51 w => ?_)
            refine zq_run 1 (pc' := 114) (L' := [(.ref (a0)), (zq_vi (x_5)), (zq_vi (x_11)), (zq_vi (1)), zz_no, zz_no]) (st' := [(zq_vi (48)), (zq_vi (x_50))]) (fun _ _ _ => rfl) ?_
            refine zq_isub rfl ?_
            refine zq_run 5 (pc' := 122) (L' := [(.ref (a0)), (zq_vi (x_5)), (zq_vi (x_11)), (zq_vi (1)), (zq_vi (x_50 - 48)), zz_no]) (st' := [(zq_vi (1)), (zq_vi (x_11)), (zq_vi (8)), (.ref (a0))]) (fun _ _ _ => rfl) ?_
            refine zq_iadd rfl ?_
            refine zq_call_i (i := .invokevirtual 123) (r := [1, 58, 2, 1, 3]) rfl rfl (fun h hp => zr_avv rfl (hp.obj ha0)) (of_decide_eq_false rfl) w (fun x_53 s_52 hx_54 w => ?_)
            refine zq_run 2 (pc' := 129) (L' := [(.ref (a0)), (zq_vi (x_5)), (zq_vi (x_11)), (zq_vi (1)), (zq_vi (x_50 - 48)), (zq_vi (x_53))]) (st' := [(.ref (a0))]) (fun _ _ _ => rfl) ?_
            refine zq_have (fun hR_55 => ?_)
            obtain ⟨b_56, hb_57, w⟩ := w
            refine zq_getf_rs (j := 1) rfl ha0 rfl rfl hb_57 ?_
            refine zq_getf_f (b := b_56 + 3) rfl (zq_fcls hR_55 (k := 1) (j := 1) (cj := 4) ha0 rfl rfl hb_57) rfl rfl ?_
            refine zq_run 2 (pc' := 139) (L' := [(.ref (a0)), (zq_vi (x_5)), (zq_vi (x_11)), (zq_vi (1)), (zq_vi (x_50 - 48)), (zq_vi (x_53))]) (st' := [(zq_vi (x_50 - 48)), (zq_vi (x_53)), (.ref (b_56 + 3))]) (fun _ _ _ => rfl) ?_
            obtain ⟨g_58, w⟩ := w
            obtain ⟨g_59, w⟩ := w
            refine zq_ast_i rfl (zq_L4 (zq_fcls hR_55 (k := 1) (j := 1) (cj := 4) ha0 rfl rfl hb_57)).2.2.1 g_58.1 g_58.2 g_59 ?_
            refine zq_run 1 (pc' := 141) (L' := [(.ref (a0)), (zq_vi (x_5)), (zq_vi (x_11)), (zq_vi (1)), (zq_vi (x_50 - 48)), (zq_vi (x_53))]) (st' := [(.ref (a0))]) (fun _ _ _ => rfl) ?_
            refine zq_getf_rs (j := 1) (b := b_56) rfl ha0 rfl rfl hb_57 ?_
            refine zq_getf_f (b := b_56 + 4) rfl (zq_fcls hR_55 (k := 1) (j := 1) (cj := 4) ha0 rfl rfl hb_57) rfl rfl ?_
            refine zq_run 2 (pc' := 150) (L' := [(.ref (a0)), (zq_vi (x_5)), (zq_vi (x_11)), (zq_vi (1)), (zq_vi (x_50 - 48)), (zq_vi (x_53))]) (st' := [(.ref (a0)), (zq_vi (x_53)), (.ref (b_56 + 4))]) (fun _ _ _ => rfl) ?_
            refine zq_have (fun hR_60 => ?_)
            obtain ⟨b_61, hb_62, w⟩ := w
            refine zq_getf_rs (j := 0) rfl ha0 rfl rfl hb_62 ?_
            refine zq_run 1 (pc' := 154) (L' := [(.ref (a0)), (zq_vi (x_5)), (zq_vi (x_11)), (zq_vi (1)), (zq_vi (x_50 - 48)), (zq_vi (x_53))]) (st' := [(zq_vi (x_5)), (.ref (b_61)), (zq_vi (x_53)), (.ref (b_56 + 4))]) (fun _ _ _ => rfl) ?_
            refine zq_call_i (i := .invokevirtual 90) (r := [1, 29, 1, 1, 1]) rfl rfl (fun h hp => zr_avv rfl (hp.obj (zq_fcls hR_60 (k := 0) (j := 0) (cj := 1) ha0 rfl rfl hb_62))) (of_decide_eq_false rfl) w (fun x_64 s_63 hx_65 w => ?_)
            refine zq_run 1 (pc' := 159) (L' := [(.ref (a0)), (zq_vi (x_5)), (zq_vi (x_11)), (zq_vi (1)), (zq_vi (x_50 - 48)), (zq_vi (x_53))]) (st' := [(zq_vi (48)), (zq_vi (x_64)), (zq_vi (x_53)), (.ref (b_56 + 4))]) (fun _ _ _ => rfl) ?_
            refine zq_isub rfl ?_
            obtain ⟨g_66, w⟩ := w
            obtain ⟨g_67, w⟩ := w
            refine zq_ast_i rfl (zq_L4 (zq_fcls hR_55 (k := 1) (j := 1) (cj := 4) ha0 rfl rfl hb_57)).2.2.2.1 g_66.1 g_66.2 g_67 ?_
            refine zq_run 1 (pc' := 162) (L' := [(.ref (a0)), (zq_vi (x_5)), (zq_vi (x_11)), (zq_vi (1)), (zq_vi (x_50 - 48)), (zq_vi (x_53))]) (st' := [(zq_vi (1))]) (fun _ _ _ => rfl) ?_
            exact zq_iret rfl rfl (congrArg Value.int (zq_nb (of_decide_eq_true rfl))) (⟨_, rfl, (of_decide_eq_true rfl), w⟩)
/-- PaperObjects$Reader.isDigitWord(I)Z -/
theorem zw_63 {X : Nat × (Nat → Int32)} {s : zq_S} {K : Int → zq_S → Prop} {a0 : Nat} (ha0 : zq_o 3 a0) {x1 : Int} (hx1 : zq_iv x1) (w : (∃ b_2 : Nat, zq_r s (a0) 0 = some b_2 ∧ (zq_Ex X 29 0 [(.ref (b_2)), (zq_vi (x1))] [] s (zq_rp zq_iv fun x_5 s_4 => (zq_Ex X 64 0 [(zq_vi (x_5))] [] s_4 (zq_rp zq_bo fun x_8 s_7 => (if x_8 = 0 then K (0) s_7 else (∃ b_12 : Nat, zq_r s_7 (a0) 0 = some b_12 ∧ (zq_Ex X 29 0 [(.ref (b_12)), (zq_vi (x1 + 1))] [] s_7 (zq_rp zq_iv fun x_15 s_14 => (zq_Ex X 65 0 [(zq_vi (x_15))] [] s_14 (zq_rp zq_bo fun x_18 s_17 => (if x_18 = 0 then K (1) s_17 else K (0) s_17))))))))))))) : zq_Ex X 63 0 [(.ref (a0)), (zq_vi (x1))] [] s (zq_rp zq_bo K) := by
  refine zq_run 1 (pc' := 1) (L' := [(.ref (a0)), (zq_vi (x1))]) (st' := [(.ref (a0))]) (fun _ _ _ => rfl) ?_
  refine zq_have (fun hR_1 => ?_)
  obtain ⟨b_2, hb_3, w⟩ := w
  refine zq_getf_rs (j := 0) rfl ha0 rfl rfl hb_3 ?_
  refine zq_run 1 (pc' := 5) (L' := [(.ref (a0)), (zq_vi (x1))]) (st' := [(zq_vi (x1)), (.ref (b_2))]) (fun _ _ _ => rfl) ?_
  refine zq_call_i (i := .invokevirtual 90) (r := [1, 29, 1, 1, 1]) rfl rfl (fun h hp => zr_avv rfl (hp.obj (zq_fcls hR_1 (k := 0) (j := 0) (cj := 1) ha0 rfl rfl hb_3))) (of_decide_eq_false rfl) w (fun x_5 s_4 hx_6 w => ?_)
  refine zq_call_i (i := .invokestatic 144) (r := [1, 64, 1, 0, 0]) rfl rfl (fun _ _ => rfl) (of_decide_eq_false rfl) w (fun x_8 s_7 hx_9 w => ?_)
  refine zq_eq0 rfl (zq_bo_in hx_9) (fun hb_10 => ?_) (fun hb_10 => ?_)
  · rw [if_pos hb_10] at w
    refine zq_run 1 (pc' := 35) (L' := [(.ref (a0)), (zq_vi (x1))]) (st' := [(zq_vi (0))]) (fun _ _ _ => rfl) ?_
    exact zq_iret rfl rfl (congrArg Value.int (zq_nb (of_decide_eq_true rfl))) (⟨_, rfl, (of_decide_eq_true rfl), w⟩)
  · rw [if_neg hb_10] at w
    refine zq_run 1 (pc' := 15) (L' := [(.ref (a0)), (zq_vi (x1))]) (st' := [(.ref (a0))]) (fun _ _ _ => rfl) ?_
    refine zq_have (fun hR_11 => ?_)
    obtain ⟨b_12, hb_13, w⟩ := w
    refine zq_getf_rs (j := 0) rfl ha0 rfl rfl hb_13 ?_
    refine zq_run 2 (pc' := 20) (L' := [(.ref (a0)), (zq_vi (x1))]) (st' := [(zq_vi (1)), (zq_vi (x1)), (.ref (b_12))]) (fun _ _ _ => rfl) ?_
    refine zq_iadd rfl ?_
    refine zq_call_i (i := .invokevirtual 90) (r := [1, 29, 1, 1, 1]) rfl rfl (fun h hp => zr_avv rfl (hp.obj (zq_fcls hR_11 (k := 0) (j := 0) (cj := 1) ha0 rfl rfl hb_13))) (of_decide_eq_false rfl) w (fun x_15 s_14 hx_16 w => ?_)
    refine zq_call_i (i := .invokestatic 138) (r := [1, 65, 1, 0, 0]) rfl rfl (fun _ _ => rfl) (of_decide_eq_false rfl) w (fun x_18 s_17 hx_19 w => ?_)
    refine zq_ne0 rfl (zq_bo_in hx_19) (fun hb_20 => ?_) (fun hb_20 => ?_)
    · rw [if_neg hb_20] at w
      refine zq_run 1 (pc' := 35) (L' := [(.ref (a0)), (zq_vi (x1))]) (st' := [(zq_vi (0))]) (fun _ _ _ => rfl) ?_
      exact zq_iret rfl rfl (congrArg Value.int (zq_nb (of_decide_eq_true rfl))) (⟨_, rfl, (of_decide_eq_true rfl), w⟩)
    · rw [if_pos hb_20] at w
      refine zq_run 2 (pc' := 35) (L' := [(.ref (a0)), (zq_vi (x1))]) (st' := [(zq_vi (1))]) (fun _ _ _ => rfl) ?_
      exact zq_iret rfl rfl (congrArg Value.int (zq_nb (of_decide_eq_true rfl))) (⟨_, rfl, (of_decide_eq_true rfl), w⟩)
/-- PaperObjects.isDigit(I)Z -/
theorem zw_64 {X : Nat × (Nat → Int32)} {s : zq_S} {K : Int → zq_S → Prop} {x0 : Int} (hx0 : zq_iv x0) (w : (if x0 < 48 then K (0) s else (if x0 ≤ 57 then K (1) s else K (0) s))) : zq_Ex X 64 0 [(zq_vi (x0))] [] s (zq_rp zq_bo K) := by
  refine zq_run 2 (pc' := 3) (L' := [(zq_vi (x0))]) (st' := [(zq_vi (48)), (zq_vi (x0))]) (fun _ _ _ => rfl) ?_
  refine zq_lt rfl hx0 (of_decide_eq_true rfl) (fun hb_1 => ?_) (fun hb_1 => ?_)
  · rw [if_pos hb_1] at w
    refine zq_run 1 (pc' := 17) (L' := [(zq_vi (x0))]) (st' := [(zq_vi (0))]) (fun _ _ _ => rfl) ?_
    exact zq_iret rfl rfl (congrArg Value.int (zq_nb (of_decide_eq_true rfl))) (⟨_, rfl, (of_decide_eq_true rfl), w⟩)
  · rw [if_neg hb_1] at w
    refine zq_run 2 (pc' := 9) (L' := [(zq_vi (x0))]) (st' := [(zq_vi (57)), (zq_vi (x0))]) (fun _ _ _ => rfl) ?_
    refine zq_gt rfl hx0 (of_decide_eq_true rfl) (fun hb_2 => ?_) (fun hb_2 => ?_)
    · rw [if_neg hb_2] at w
      refine zq_run 1 (pc' := 17) (L' := [(zq_vi (x0))]) (st' := [(zq_vi (0))]) (fun _ _ _ => rfl) ?_
      exact zq_iret rfl rfl (congrArg Value.int (zq_nb (of_decide_eq_true rfl))) (⟨_, rfl, (of_decide_eq_true rfl), w⟩)
    · rw [if_pos hb_2] at w
      refine zq_run 2 (pc' := 17) (L' := [(zq_vi (x0))]) (st' := [(zq_vi (1))]) (fun _ _ _ => rfl) ?_
      exact zq_iret rfl rfl (congrArg Value.int (zq_nb (of_decide_eq_true rfl))) (⟨_, rfl, (of_decide_eq_true rfl), w⟩)
/-- PaperObjects.isWordCode(I)Z -/
theorem zw_65 {X : Nat × (Nat → Int32)} {s : zq_S} {K : Int → zq_S → Prop} {x0 : Int} (hx0 : zq_iv x0) (w : (if x0 = 45 then K (1) s else (if x0 < 48 then (if x0 < 97 then (if x0 < 65 then K (0) s else (if x0 ≤ 90 then K (1) s else K (0) s)) else (if x0 ≤ 122 then K (1) s else (if x0 < 65 then K (0) s else (if x0 ≤ 90 then K (1) s else K (0) s)))) else (if x0 ≤ 57 then K (1) s else (if x0 < 97 then (if x0 < 65 then K (0) s else (if x0 ≤ 90 then K (1) s else K (0) s)) else (if x0 ≤ 122 then K (1) s else (if x0 < 65 then K (0) s else (if x0 ≤ 90 then K (1) s else K (0) s)))))))) : zq_Ex X 65 0 [(zq_vi (x0))] [] s (zq_rp zq_bo K) := by
  refine zq_run 2 (pc' := 3) (L' := [(zq_vi (x0))]) (st' := [(zq_vi (45)), (zq_vi (x0))]) (fun _ _ _ => rfl) ?_
  refine zq_eq rfl hx0 (of_decide_eq_true rfl) (fun hb_1 => ?_) (fun hb_1 => ?_)
  · rw [if_pos hb_1] at w
    refine zq_run 2 (pc' := 47) (L' := [(zq_vi (x0))]) (st' := [(zq_vi (1))]) (fun _ _ _ => rfl) ?_
    exact zq_iret rfl rfl (congrArg Value.int (zq_nb (of_decide_eq_true rfl))) (⟨_, rfl, (of_decide_eq_true rfl), w⟩)
  · rw [if_neg hb_1] at w
    refine zq_run 2 (pc' := 9) (L' := [(zq_vi (x0))]) (st' := [(zq_vi (48)), (zq_vi (x0))]) (fun _ _ _ => rfl) ?_
    refine zq_lt rfl hx0 (of_decide_eq_true rfl) (fun hb_2 => ?_) (fun hb_2 => ?_)
    · rw [if_pos hb_2] at w
      refine zq_run 2 (pc' := 21) (L' := [(zq_vi (x0))]) (st' := [(zq_vi (97)), (zq_vi (x0))]) (fun _ _ _ => rfl) ?_
      refine zq_lt rfl hx0 (of_decide_eq_true rfl) (fun hb_3 => ?_) (fun hb_3 => ?_)
      · rw [if_pos hb_3] at w
        refine zq_run 2 (pc' := 33) (L' := [(zq_vi (x0))]) (st' := [(zq_vi (65)), (zq_vi (x0))]) (fun _ _ _ => rfl) ?_
        refine zq_lt rfl hx0 (of_decide_eq_true rfl) (fun hb_4 => ?_) (fun hb_4 => ?_)
        · rw [if_pos hb_4] at w
          refine zq_run 1 (pc' := 47) (L' := [(zq_vi (x0))]) (st' := [(zq_vi (0))]) (fun _ _ _ => rfl) ?_
          exact zq_iret rfl rfl (congrArg Value.int (zq_nb (of_decide_eq_true rfl))) (⟨_, rfl, (of_decide_eq_true rfl), w⟩)
        · rw [if_neg hb_4] at w
          refine zq_run 2 (pc' := 39) (L' := [(zq_vi (x0))]) (st' := [(zq_vi (90)), (zq_vi (x0))]) (fun _ _ _ => rfl) ?_
          refine zq_gt rfl hx0 (of_decide_eq_true rfl) (fun hb_5 => ?_) (fun hb_5 => ?_)
          · rw [if_neg hb_5] at w
            refine zq_run 1 (pc' := 47) (L' := [(zq_vi (x0))]) (st' := [(zq_vi (0))]) (fun _ _ _ => rfl) ?_
            exact zq_iret rfl rfl (congrArg Value.int (zq_nb (of_decide_eq_true rfl))) (⟨_, rfl, (of_decide_eq_true rfl), w⟩)
          · rw [if_pos hb_5] at w
            refine zq_run 2 (pc' := 47) (L' := [(zq_vi (x0))]) (st' := [(zq_vi (1))]) (fun _ _ _ => rfl) ?_
            exact zq_iret rfl rfl (congrArg Value.int (zq_nb (of_decide_eq_true rfl))) (⟨_, rfl, (of_decide_eq_true rfl), w⟩)
      · rw [if_neg hb_3] at w
        refine zq_run 2 (pc' := 27) (L' := [(zq_vi (x0))]) (st' := [(zq_vi (122)), (zq_vi (x0))]) (fun _ _ _ => rfl) ?_
        refine zq_le rfl hx0 (of_decide_eq_true rfl) (fun hb_6 => ?_) (fun hb_6 => ?_)
        · rw [if_pos hb_6] at w
          refine zq_run 2 (pc' := 47) (L' := [(zq_vi (x0))]) (st' := [(zq_vi (1))]) (fun _ _ _ => rfl) ?_
          exact zq_iret rfl rfl (congrArg Value.int (zq_nb (of_decide_eq_true rfl))) (⟨_, rfl, (of_decide_eq_true rfl), w⟩)
        · rw [if_neg hb_6] at w
          refine zq_run 2 (pc' := 33) (L' := [(zq_vi (x0))]) (st' := [(zq_vi (65)), (zq_vi (x0))]) (fun _ _ _ => rfl) ?_
          refine zq_lt rfl hx0 (of_decide_eq_true rfl) (fun hb_7 => ?_) (fun hb_7 => ?_)
          · rw [if_pos hb_7] at w
            refine zq_run 1 (pc' := 47) (L' := [(zq_vi (x0))]) (st' := [(zq_vi (0))]) (fun _ _ _ => rfl) ?_
            exact zq_iret rfl rfl (congrArg Value.int (zq_nb (of_decide_eq_true rfl))) (⟨_, rfl, (of_decide_eq_true rfl), w⟩)
          · rw [if_neg hb_7] at w
            refine zq_run 2 (pc' := 39) (L' := [(zq_vi (x0))]) (st' := [(zq_vi (90)), (zq_vi (x0))]) (fun _ _ _ => rfl) ?_
            refine zq_gt rfl hx0 (of_decide_eq_true rfl) (fun hb_8 => ?_) (fun hb_8 => ?_)
            · rw [if_neg hb_8] at w
              refine zq_run 1 (pc' := 47) (L' := [(zq_vi (x0))]) (st' := [(zq_vi (0))]) (fun _ _ _ => rfl) ?_
              exact zq_iret rfl rfl (congrArg Value.int (zq_nb (of_decide_eq_true rfl))) (⟨_, rfl, (of_decide_eq_true rfl), w⟩)
            · rw [if_pos hb_8] at w
              refine zq_run 2 (pc' := 47) (L' := [(zq_vi (x0))]) (st' := [(zq_vi (1))]) (fun _ _ _ => rfl) ?_
              exact zq_iret rfl rfl (congrArg Value.int (zq_nb (of_decide_eq_true rfl))) (⟨_, rfl, (of_decide_eq_true rfl), w⟩)
    · rw [if_neg hb_2] at w
      refine zq_run 2 (pc' := 15) (L' := [(zq_vi (x0))]) (st' := [(zq_vi (57)), (zq_vi (x0))]) (fun _ _ _ => rfl) ?_
      refine zq_le rfl hx0 (of_decide_eq_true rfl) (fun hb_9 => ?_) (fun hb_9 => ?_)
      · rw [if_pos hb_9] at w
        refine zq_run 2 (pc' := 47) (L' := [(zq_vi (x0))]) (st' := [(zq_vi (1))]) (fun _ _ _ => rfl) ?_
        exact zq_iret rfl rfl (congrArg Value.int (zq_nb (of_decide_eq_true rfl))) (⟨_, rfl, (of_decide_eq_true rfl), w⟩)
      · rw [if_neg hb_9] at w
        refine zq_run 2 (pc' := 21) (L' := [(zq_vi (x0))]) (st' := [(zq_vi (97)), (zq_vi (x0))]) (fun _ _ _ => rfl) ?_
        refine zq_lt rfl hx0 (of_decide_eq_true rfl) (fun hb_10 => ?_) (fun hb_10 => ?_)
        · rw [if_pos hb_10] at w
          refine zq_run 2 (pc' := 33) (L' := [(zq_vi (x0))]) (st' := [(zq_vi (65)), (zq_vi (x0))]) (fun _ _ _ => rfl) ?_
          refine zq_lt rfl hx0 (of_decide_eq_true rfl) (fun hb_11 => ?_) (fun hb_11 => ?_)
          · rw [if_pos hb_11] at w
            refine zq_run 1 (pc' := 47) (L' := [(zq_vi (x0))]) (st' := [(zq_vi (0))]) (fun _ _ _ => rfl) ?_
            exact zq_iret rfl rfl (congrArg Value.int (zq_nb (of_decide_eq_true rfl))) (⟨_, rfl, (of_decide_eq_true rfl), w⟩)
          · rw [if_neg hb_11] at w
            refine zq_run 2 (pc' := 39) (L' := [(zq_vi (x0))]) (st' := [(zq_vi (90)), (zq_vi (x0))]) (fun _ _ _ => rfl) ?_
            refine zq_gt rfl hx0 (of_decide_eq_true rfl) (fun hb_12 => ?_) (fun hb_12 => ?_)
            · rw [if_neg hb_12] at w
              refine zq_run 1 (pc' := 47) (L' := [(zq_vi (x0))]) (st' := [(zq_vi (0))]) (fun _ _ _ => rfl) ?_
              exact zq_iret rfl rfl (congrArg Value.int (zq_nb (of_decide_eq_true rfl))) (⟨_, rfl, (of_decide_eq_true rfl), w⟩)
            · rw [if_pos hb_12] at w
              refine zq_run 2 (pc' := 47) (L' := [(zq_vi (x0))]) (st' := [(zq_vi (1))]) (fun _ _ _ => rfl) ?_
              exact zq_iret rfl rfl (congrArg Value.int (zq_nb (of_decide_eq_true rfl))) (⟨_, rfl, (of_decide_eq_true rfl), w⟩)
        · rw [if_neg hb_10] at w
          refine zq_run 2 (pc' := 27) (L' := [(zq_vi (x0))]) (st' := [(zq_vi (122)), (zq_vi (x0))]) (fun _ _ _ => rfl) ?_
          refine zq_le rfl hx0 (of_decide_eq_true rfl) (fun hb_13 => ?_) (fun hb_13 => ?_)
          · rw [if_pos hb_13] at w
            refine zq_run 2 (pc' := 47) (L' := [(zq_vi (x0))]) (st' := [(zq_vi (1))]) (fun _ _ _ => rfl) ?_
            exact zq_iret rfl rfl (congrArg Value.int (zq_nb (of_decide_eq_true rfl))) (⟨_, rfl, (of_decide_eq_true rfl), w⟩)
          · rw [if_neg hb_13] at w
            refine zq_run 2 (pc' := 33) (L' := [(zq_vi (x0))]) (st' := [(zq_vi (65)), (zq_vi (x0))]) (fun _ _ _ => rfl) ?_
            refine zq_lt rfl hx0 (of_decide_eq_true rfl) (fun hb_14 => ?_) (fun hb_14 => ?_)
            · rw [if_pos hb_14] at w
              refine zq_run 1 (pc' := 47) (L' := [(zq_vi (x0))]) (st' := [(zq_vi (0))]) (fun _ _ _ => rfl) ?_
              exact zq_iret rfl rfl (congrArg Value.int (zq_nb (of_decide_eq_true rfl))) (⟨_, rfl, (of_decide_eq_true rfl), w⟩)
            · rw [if_neg hb_14] at w
              refine zq_run 2 (pc' := 39) (L' := [(zq_vi (x0))]) (st' := [(zq_vi (90)), (zq_vi (x0))]) (fun _ _ _ => rfl) ?_
              refine zq_gt rfl hx0 (of_decide_eq_true rfl) (fun hb_15 => ?_) (fun hb_15 => ?_)
              · rw [if_neg hb_15] at w
                refine zq_run 1 (pc' := 47) (L' := [(zq_vi (x0))]) (st' := [(zq_vi (0))]) (fun _ _ _ => rfl) ?_
                exact zq_iret rfl rfl (congrArg Value.int (zq_nb (of_decide_eq_true rfl))) (⟨_, rfl, (of_decide_eq_true rfl), w⟩)
              · rw [if_pos hb_15] at w
                refine zq_run 2 (pc' := 47) (L' := [(zq_vi (x0))]) (st' := [(zq_vi (1))]) (fun _ _ _ => rfl) ?_
                exact zq_iret rfl rfl (congrArg Value.int (zq_nb (of_decide_eq_true rfl))) (⟨_, rfl, (of_decide_eq_true rfl), w⟩)
/-- PaperObjects$Reader.takeNumber()Z -/
theorem zw_66 {X : Nat × (Nat → Int32)} {s : zq_S} {K : Int → zq_S → Prop} {a0 : Nat} (ha0 : zq_o 3 a0) (w : (∃ b_2 : Nat, zq_r s (a0) 0 = some b_2 ∧ (zq_Ex X 67 0 [(.ref (b_2)), (zq_vi (zq_i s (a0) (5))), zz_no] [] s (zq_rp zq_iv fun x_5 s_4 => (∃ b_8 : Nat, zq_r s_4 (a0) 0 = some b_8 ∧ (zq_Ex X 29 0 [(.ref (b_8)), (zq_vi (zq_i s_4 (a0) (5)))] [] s_4 (zq_rp zq_iv fun x_11 s_10 => (if x_11 = 45 then (∃ b_29 : Nat, zq_r s_10 (a0) 0 = some b_29 ∧ (zq_Ex X 68 0 [(.ref (b_29)), (zq_vi ((zq_i s_10 (a0) (5)) + 1)), (zq_vi (x_5)), zz_no, zz_no] [] s_10 (zq_rp zq_iv fun x_32 s_31 => (if x_32 = (-1) then K (0) s_31 else (zq_Ex X 58 0 [(.ref (a0)), (zq_vi (3)), (zq_vi (x_5)), zz_no] [] s_31 (zq_rp zq_iv fun x_36 s_35 => (∃ b_39 : Nat, zq_r s_35 (a0) 1 = some b_39 ∧ (((0 : Int) ≤ x_36 ∧ x_36 < (12 : Int)) ∧ (zq_iv (-(x_32)) ∧ K (1) (zq_si s_35 (b_39 + 3) (x_36) (-(x_32)))))))))))) else (∃ b_15 : Nat, zq_r s_10 (a0) 0 = some b_15 ∧ (zq_Ex X 68 0 [(.ref (b_15)), (zq_vi (zq_i s_10 (a0) (5))), (zq_vi (x_5)), zz_no, zz_no] [] s_10 (zq_rp zq_iv fun x_18 s_17 => (if x_18 = (-1) then K (0) s_17 else (zq_Ex X 58 0 [(.ref (a0)), (zq_vi (3)), (zq_vi (x_5)), zz_no] [] s_17 (zq_rp zq_iv fun x_22 s_21 => (∃ b_25 : Nat, zq_r s_21 (a0) 1 = some b_25 ∧ (((0 : Int) ≤ x_22 ∧ x_22 < (12 : Int)) ∧ K (1) (zq_si s_21 (b_25 + 3) (x_22) (x_18)))))))))))))))))) : zq_Ex X 66 0 [(.ref (a0)), zz_no, zz_no, zz_no, zz_no] [] s (zq_rp zq_bo K) := by
  refine zq_run 1 (pc' := 1) (L' := [(.ref (a0)), zz_no, zz_no, zz_no, zz_no]) (st' := [(.ref (a0))]) (fun _ _ _ => rfl) ?_
  refine zq_have (fun hR_1 => ?_)
  obtain ⟨b_2, hb_3, w⟩ := w
  refine zq_getf_rs (j := 0) rfl ha0 rfl rfl hb_3 ?_
  refine zq_run 1 (pc' := 5) (L' := [(.ref (a0)), zz_no, zz_no, zz_no, zz_no]) (st' := [(.ref (a0)), (.ref (b_2))]) (fun _ _ _ => rfl) ?_
  refine zq_getf_i (j := 5) (v := zq_i s (a0) (5)) rfl ha0 rfl rfl rfl ?_
  refine zq_call_i (i := .invokevirtual 147) (r := [1, 67, 1, 1, 1]) rfl rfl (fun h hp => zr_avv rfl (hp.obj (zq_fcls hR_1 (k := 0) (j := 0) (cj := 1) ha0 rfl rfl hb_3))) (of_decide_eq_false rfl) w (fun x_5 s_4 hx_6 w => ?_)
  refine zq_run 2 (pc' := 13) (L' := [(.ref (a0)), (zq_vi (x_5)), zz_no, zz_no, zz_no]) (st' := [(.ref (a0))]) (fun _ _ _ => rfl) ?_
  refine zq_have (fun hR_7 => ?_)
  obtain ⟨b_8, hb_9, w⟩ := w
  refine zq_getf_rs (j := 0) rfl ha0 rfl rfl hb_9 ?_
  refine zq_run 1 (pc' := 17) (L' := [(.ref (a0)), (zq_vi (x_5)), zz_no, zz_no, zz_no]) (st' := [(.ref (a0)), (.ref (b_8))]) (fun _ _ _ => rfl) ?_
  refine zq_getf_i (j := 5) (v := zq_i s_4 (a0) (5)) rfl ha0 rfl rfl rfl ?_
  refine zq_call_i (i := .invokevirtual 90) (r := [1, 29, 1, 1, 1]) rfl rfl (fun h hp => zr_avv rfl (hp.obj (zq_fcls hR_7 (k := 0) (j := 0) (cj := 1) ha0 rfl rfl hb_9))) (of_decide_eq_false rfl) w (fun x_11 s_10 hx_12 w => ?_)
  refine zq_run 1 (pc' := 25) (L' := [(.ref (a0)), (zq_vi (x_5)), zz_no, zz_no, zz_no]) (st' := [(zq_vi (45)), (zq_vi (x_11))]) (fun _ _ _ => rfl) ?_
  refine zq_ne rfl hx_12 (of_decide_eq_true rfl) (fun hb_13 => ?_) (fun hb_13 => ?_)
  · rw [if_neg hb_13] at w
    refine zq_run 3 (pc' := 35) (L' := [(.ref (a0)), (zq_vi (x_5)), (zq_vi (0)), zz_no, zz_no]) (st' := [(.ref (a0))]) (fun _ _ _ => rfl) ?_
    refine zq_have (fun hR_14 => ?_)
    obtain ⟨b_15, hb_16, w⟩ := w
    refine zq_getf_rs (j := 0) rfl ha0 rfl rfl hb_16 ?_
    refine zq_run 1 (pc' := 39) (L' := [(.ref (a0)), (zq_vi (x_5)), (zq_vi (0)), zz_no, zz_no]) (st' := [(zq_vi (0)), (.ref (b_15))]) (fun _ _ _ => rfl) ?_
    refine zq_eq0 rfl (of_decide_eq_true rfl) (fun _ => ?_) (fun hb => absurd (by decide) hb)
    refine zq_run 1 (pc' := 52) (L' := [(.ref (a0)), (zq_vi (x_5)), (zq_vi (0)), zz_no, zz_no]) (st' := [(.ref (a0)), (.ref (b_15))]) (fun _ _ _ => rfl) ?_
    refine zq_getf_i (j := 5) (v := zq_i s_10 (a0) (5)) rfl ha0 rfl rfl rfl ?_
    refine zq_run 1 (pc' := 56) (L' := [(.ref (a0)), (zq_vi (x_5)), (zq_vi (0)), zz_no, zz_no]) (st' := [(zq_vi (x_5)), (zq_vi (zq_i s_10 (a0) (5))), (.ref (b_15))]) (fun _ _ _ => rfl) ?_
    refine zq_call_i (i := .invokevirtual 150) (r := [1, 68, 2, 1, 1]) rfl rfl (fun h hp => zr_avv rfl (hp.obj (zq_fcls hR_14 (k := 0) (j := 0) (cj := 1) ha0 rfl rfl hb_16))) (of_decide_eq_false rfl) w (fun x_18 s_17 hx_19 w => ?_)
    refine zq_run 3 (pc' := 62) (L' := [(.ref (a0)), (zq_vi (x_5)), (zq_vi (0)), (zq_vi (x_18)), zz_no]) (st' := [(zq_vi ((-1))), (zq_vi (x_18))]) (fun _ _ _ => rfl) ?_
    refine zq_ne rfl hx_19 (of_decide_eq_true rfl) (fun hb_20 => ?_) (fun hb_20 => ?_)
    · rw [if_neg hb_20] at w
      refine zq_run 3 (pc' := 70) (L' := [(.ref (a0)), (zq_vi (x_5)), (zq_vi (0)), (zq_vi (x_18)), zz_no]) (st' := [(zq_vi (x_5)), (zq_vi (3)), (.ref (a0))]) (fun _ _ _ => rfl) ?_
      refine zq_call_i (i := .invokevirtual 123) (r := [1, 58, 2, 1, 3]) rfl rfl (fun h hp => zr_avv rfl (hp.obj ha0)) (of_decide_eq_false rfl) w (fun x_22 s_21 hx_23 w => ?_)
      refine zq_run 2 (pc' := 76) (L' := [(.ref (a0)), (zq_vi (x_5)), (zq_vi (0)), (zq_vi (x_18)), (zq_vi (x_22))]) (st' := [(.ref (a0))]) (fun _ _ _ => rfl) ?_
      refine zq_have (fun hR_24 => ?_)
      obtain ⟨b_25, hb_26, w⟩ := w
      refine zq_getf_rs (j := 1) rfl ha0 rfl rfl hb_26 ?_
      refine zq_getf_f (b := b_25 + 3) rfl (zq_fcls hR_24 (k := 1) (j := 1) (cj := 4) ha0 rfl rfl hb_26) rfl rfl ?_
      refine zq_run 2 (pc' := 85) (L' := [(.ref (a0)), (zq_vi (x_5)), (zq_vi (0)), (zq_vi (x_18)), (zq_vi (x_22))]) (st' := [(zq_vi (0)), (zq_vi (x_22)), (.ref (b_25 + 3))]) (fun _ _ _ => rfl) ?_
      refine zq_eq0 rfl (of_decide_eq_true rfl) (fun _ => ?_) (fun hb => absurd (by decide) hb)
      refine zq_run 1 (pc' := 94) (L' := [(.ref (a0)), (zq_vi (x_5)), (zq_vi (0)), (zq_vi (x_18)), (zq_vi (x_22))]) (st' := [(zq_vi (x_18)), (zq_vi (x_22)), (.ref (b_25 + 3))]) (fun _ _ _ => rfl) ?_
      obtain ⟨g_27, w⟩ := w
      refine zq_ast_i rfl (zq_L4 (zq_fcls hR_24 (k := 1) (j := 1) (cj := 4) ha0 rfl rfl hb_26)).2.2.1 g_27.1 g_27.2 hx_19 ?_
      refine zq_run 1 (pc' := 96) (L' := [(.ref (a0)), (zq_vi (x_5)), (zq_vi (0)), (zq_vi (x_18)), (zq_vi (x_22))]) (st' := [(zq_vi (1))]) (fun _ _ _ => rfl) ?_
      exact zq_iret rfl rfl (congrArg Value.int (zq_nb (of_decide_eq_true rfl))) (⟨_, rfl, (of_decide_eq_true rfl), w⟩)
    · rw [if_pos hb_20] at w
      refine zq_run 1 (pc' := 66) (L' := [(.ref (a0)), (zq_vi (x_5)), (zq_vi (0)), (zq_vi (x_18)), zz_no]) (st' := [(zq_vi (0))]) (fun _ _ _ => rfl) ?_
      exact zq_iret rfl rfl (congrArg Value.int (zq_nb (of_decide_eq_true rfl))) (⟨_, rfl, (of_decide_eq_true rfl), w⟩)
  · rw [if_pos hb_13] at w
    refine zq_run 4 (pc' := 35) (L' := [(.ref (a0)), (zq_vi (x_5)), (zq_vi (1)), zz_no, zz_no]) (st' := [(.ref (a0))]) (fun _ _ _ => rfl) ?_
    refine zq_have (fun hR_28 => ?_)
    obtain ⟨b_29, hb_30, w⟩ := w
    refine zq_getf_rs (j := 0) rfl ha0 rfl rfl hb_30 ?_
    refine zq_run 1 (pc' := 39) (L' := [(.ref (a0)), (zq_vi (x_5)), (zq_vi (1)), zz_no, zz_no]) (st' := [(zq_vi (1)), (.ref (b_29))]) (fun _ _ _ => rfl) ?_
    refine zq_eq0 rfl (of_decide_eq_true rfl) (fun hb => absurd hb (by decide)) (fun _ => ?_)
    refine zq_run 1 (pc' := 43) (L' := [(.ref (a0)), (zq_vi (x_5)), (zq_vi (1)), zz_no, zz_no]) (st' := [(.ref (a0)), (.ref (b_29))]) (fun _ _ _ => rfl) ?_
    refine zq_getf_i (j := 5) (v := zq_i s_10 (a0) (5)) rfl ha0 rfl rfl rfl ?_
    refine zq_run 1 (pc' := 47) (L' := [(.ref (a0)), (zq_vi (x_5)), (zq_vi (1)), zz_no, zz_no]) (st' := [(zq_vi (1)), (zq_vi (zq_i s_10 (a0) (5))), (.ref (b_29))]) (fun _ _ _ => rfl) ?_
    refine zq_iadd rfl ?_
    refine zq_run 2 (pc' := 56) (L' := [(.ref (a0)), (zq_vi (x_5)), (zq_vi (1)), zz_no, zz_no]) (st' := [(zq_vi (x_5)), (zq_vi ((zq_i s_10 (a0) (5)) + 1)), (.ref (b_29))]) (fun _ _ _ => rfl) ?_
    refine zq_call_i (i := .invokevirtual 150) (r := [1, 68, 2, 1, 1]) rfl rfl (fun h hp => zr_avv rfl (hp.obj (zq_fcls hR_28 (k := 0) (j := 0) (cj := 1) ha0 rfl rfl hb_30))) (of_decide_eq_false rfl) w (fun x_32 s_31 hx_33 w => ?_)
    refine zq_run 3 (pc' := 62) (L' := [(.ref (a0)), (zq_vi (x_5)), (zq_vi (1)), (zq_vi (x_32)), zz_no]) (st' := [(zq_vi ((-1))), (zq_vi (x_32))]) (fun _ _ _ => rfl) ?_
    refine zq_ne rfl hx_33 (of_decide_eq_true rfl) (fun hb_34 => ?_) (fun hb_34 => ?_)
    · rw [if_neg hb_34] at w
      refine zq_run 3 (pc' := 70) (L' := [(.ref (a0)), (zq_vi (x_5)), (zq_vi (1)), (zq_vi (x_32)), zz_no]) (st' := [(zq_vi (x_5)), (zq_vi (3)), (.ref (a0))]) (fun _ _ _ => rfl) ?_
      refine zq_call_i (i := .invokevirtual 123) (r := [1, 58, 2, 1, 3]) rfl rfl (fun h hp => zr_avv rfl (hp.obj ha0)) (of_decide_eq_false rfl) w (fun x_36 s_35 hx_37 w => ?_)
      refine zq_run 2 (pc' := 76) (L' := [(.ref (a0)), (zq_vi (x_5)), (zq_vi (1)), (zq_vi (x_32)), (zq_vi (x_36))]) (st' := [(.ref (a0))]) (fun _ _ _ => rfl) ?_
      refine zq_have (fun hR_38 => ?_)
      obtain ⟨b_39, hb_40, w⟩ := w
      refine zq_getf_rs (j := 1) rfl ha0 rfl rfl hb_40 ?_
      refine zq_getf_f (b := b_39 + 3) rfl (zq_fcls hR_38 (k := 1) (j := 1) (cj := 4) ha0 rfl rfl hb_40) rfl rfl ?_
      refine zq_run 2 (pc' := 85) (L' := [(.ref (a0)), (zq_vi (x_5)), (zq_vi (1)), (zq_vi (x_32)), (zq_vi (x_36))]) (st' := [(zq_vi (1)), (zq_vi (x_36)), (.ref (b_39 + 3))]) (fun _ _ _ => rfl) ?_
      refine zq_eq0 rfl (of_decide_eq_true rfl) (fun hb => absurd hb (by decide)) (fun _ => ?_)
      refine zq_run 1 (pc' := 89) (L' := [(.ref (a0)), (zq_vi (x_5)), (zq_vi (1)), (zq_vi (x_32)), (zq_vi (x_36))]) (st' := [(zq_vi (x_32)), (zq_vi (x_36)), (.ref (b_39 + 3))]) (fun _ _ _ => rfl) ?_
      refine zq_ineg rfl ?_
      refine zq_run 1 (pc' := 94) (L' := [(.ref (a0)), (zq_vi (x_5)), (zq_vi (1)), (zq_vi (x_32)), (zq_vi (x_36))]) (st' := [(zq_vi (-(x_32))), (zq_vi (x_36)), (.ref (b_39 + 3))]) (fun _ _ _ => rfl) ?_
      obtain ⟨g_41, w⟩ := w
      obtain ⟨g_42, w⟩ := w
      refine zq_ast_i rfl (zq_L4 (zq_fcls hR_38 (k := 1) (j := 1) (cj := 4) ha0 rfl rfl hb_40)).2.2.1 g_41.1 g_41.2 g_42 ?_
      refine zq_run 1 (pc' := 96) (L' := [(.ref (a0)), (zq_vi (x_5)), (zq_vi (1)), (zq_vi (x_32)), (zq_vi (x_36))]) (st' := [(zq_vi (1))]) (fun _ _ _ => rfl) ?_
      exact zq_iret rfl rfl (congrArg Value.int (zq_nb (of_decide_eq_true rfl))) (⟨_, rfl, (of_decide_eq_true rfl), w⟩)
    · rw [if_pos hb_34] at w
      refine zq_run 1 (pc' := 66) (L' := [(.ref (a0)), (zq_vi (x_5)), (zq_vi (1)), (zq_vi (x_32)), zz_no]) (st' := [(zq_vi (0))]) (fun _ _ _ => rfl) ?_
      exact zq_iret rfl rfl (congrArg Value.int (zq_nb (of_decide_eq_true rfl))) (⟨_, rfl, (of_decide_eq_true rfl), w⟩)
/-- PaperObjects$Text.wordEnd(I)I -/
theorem zw_67 {X : Nat × (Nat → Int32)} {s : zq_S} {K : Int → zq_S → Prop} {a0 : Nat} (ha0 : zq_o 1 a0) {x1 : Int} (hx1 : zq_iv x1) (w : zq_Ex X 67 2 [(.ref (a0)), (zq_vi (x1)), (zq_vi (x1))] [] s (zq_rp zq_iv K)) : zq_Ex X 67 0 [(.ref (a0)), (zq_vi (x1)), zz_no] [] s (zq_rp zq_iv K) := by
  refine zq_run 2 (pc' := 2) (L' := [(.ref (a0)), (zq_vi (x1)), (zq_vi (x1))]) (st' := []) (fun _ _ _ => rfl) ?_
  exact w
/-- PaperObjects$Text.wordEnd at 2 -/
theorem zw_67_2 {X : Nat × (Nat → Int32)} {s : zq_S} {K : Int → zq_S → Prop} {a0 : Nat} (ha0 : zq_o 1 a0) {x1 : Int} (hx1 : zq_iv x1) {x2 : Int} (hx2 : zq_iv x2) (w : (if x2 < zq_i s (a0) (1) then (zq_Ex X 29 0 [(.ref (a0)), (zq_vi (x2))] [] s (zq_rp zq_iv fun x_4 s_3 => (zq_Ex X 65 0 [(zq_vi (x_4))] [] s_3 (zq_rp zq_bo fun x_7 s_6 => (if x_7 = 0 then K (x2) s_6 else zq_Ex X 67 2 [(.ref (a0)), (zq_vi (x1)), (zq_vi (x2 + 1))] [] s_6 (zq_rp zq_iv K)))))) else K (x2) s)) : zq_Ex X 67 2 [(.ref (a0)), (zq_vi (x1)), (zq_vi (x2))] [] s (zq_rp zq_iv K) := by
  refine zq_run 2 (pc' := 4) (L' := [(.ref (a0)), (zq_vi (x1)), (zq_vi (x2))]) (st' := [(.ref (a0)), (zq_vi (x2))]) (fun _ _ _ => rfl) ?_
  refine zq_have (fun hR_1 => ?_)
  refine zq_getf_i (j := 1) (v := zq_i s (a0) (1)) rfl ha0 rfl rfl rfl ?_
  refine zq_ge rfl hx2 (hR_1.1 _ _) (fun hb_2 => ?_) (fun hb_2 => ?_)
  · rw [if_neg hb_2] at w
    refine zq_run 1 (pc' := 28) (L' := [(.ref (a0)), (zq_vi (x1)), (zq_vi (x2))]) (st' := [(zq_vi (x2))]) (fun _ _ _ => rfl) ?_
    exact zq_iret rfl rfl rfl (⟨_, rfl, hx2, w⟩)
  · rw [if_pos hb_2] at w
    refine zq_run 2 (pc' := 12) (L' := [(.ref (a0)), (zq_vi (x1)), (zq_vi (x2))]) (st' := [(zq_vi (x2)), (.ref (a0))]) (fun _ _ _ => rfl) ?_
    refine zq_call_i (i := .invokevirtual 36) (r := [1, 29, 1, 1, 1]) rfl rfl (fun h hp => zr_avv rfl (hp.obj ha0)) (of_decide_eq_false rfl) w (fun x_4 s_3 hx_5 w => ?_)
    refine zq_call_i (i := .invokestatic 50) (r := [1, 65, 1, 0, 0]) rfl rfl (fun _ _ => rfl) (of_decide_eq_false rfl) w (fun x_7 s_6 hx_8 w => ?_)
    refine zq_eq0 rfl (zq_bo_in hx_8) (fun hb_9 => ?_) (fun hb_9 => ?_)
    · rw [if_pos hb_9] at w
      refine zq_run 1 (pc' := 28) (L' := [(.ref (a0)), (zq_vi (x1)), (zq_vi (x2))]) (st' := [(zq_vi (x2))]) (fun _ _ _ => rfl) ?_
      exact zq_iret rfl rfl rfl (⟨_, rfl, hx2, w⟩)
    · rw [if_neg hb_9] at w
      refine zq_iinc (L' := [(.ref (a0)), (zq_vi (x1)), (zq_vi (x2 + 1))]) rfl rfl rfl ?_
      refine zq_run 1 (pc' := 2) (L' := [(.ref (a0)), (zq_vi (x1)), (zq_vi (x2 + 1))]) (st' := []) (fun _ _ _ => rfl) ?_
      exact w
/-- PaperObjects$Text.digits(II)I -/
theorem zw_68 {X : Nat × (Nat → Int32)} {s : zq_S} {K : Int → zq_S → Prop} {a0 : Nat} (ha0 : zq_o 1 a0) {x1 : Int} (hx1 : zq_iv x1) {x2 : Int} (hx2 : zq_iv x2) (w : (if x2 ≤ x1 then K ((-1)) s else (zq_iv (x2 - x1) ∧ (if x2 - x1 ≤ 6 then zq_Ex X 68 20 [(.ref (a0)), (zq_vi (x1)), (zq_vi (x2)), (zq_vi (0)), (zq_vi (x1))] [] s (zq_rp zq_iv K) else K ((-1)) s)))) : zq_Ex X 68 0 [(.ref (a0)), (zq_vi (x1)), (zq_vi (x2)), zz_no, zz_no] [] s (zq_rp zq_iv K) := by
  refine zq_run 2 (pc' := 2) (L' := [(.ref (a0)), (zq_vi (x1)), (zq_vi (x2)), zz_no, zz_no]) (st' := [(zq_vi (x1)), (zq_vi (x2))]) (fun _ _ _ => rfl) ?_
  refine zq_le rfl hx2 hx1 (fun hb_1 => ?_) (fun hb_1 => ?_)
  · rw [if_pos hb_1] at w
    refine zq_run 1 (pc' := 14) (L' := [(.ref (a0)), (zq_vi (x1)), (zq_vi (x2)), zz_no, zz_no]) (st' := [(zq_vi ((-1)))]) (fun _ _ _ => rfl) ?_
    exact zq_iret rfl rfl rfl (⟨_, rfl, (of_decide_eq_true rfl), w⟩)
  · rw [if_neg hb_1] at w
    refine zq_run 2 (pc' := 7) (L' := [(.ref (a0)), (zq_vi (x1)), (zq_vi (x2)), zz_no, zz_no]) (st' := [(zq_vi (x1)), (zq_vi (x2))]) (fun _ _ _ => rfl) ?_
    refine zq_isub rfl ?_
    refine zq_run 1 (pc' := 10) (L' := [(.ref (a0)), (zq_vi (x1)), (zq_vi (x2)), zz_no, zz_no]) (st' := [(zq_vi (6)), (zq_vi (x2 - x1))]) (fun _ _ _ => rfl) ?_
    obtain ⟨g_2, w⟩ := w
    refine zq_le rfl g_2 (of_decide_eq_true rfl) (fun hb_3 => ?_) (fun hb_3 => ?_)
    · rw [if_pos hb_3] at w
      refine zq_run 4 (pc' := 20) (L' := [(.ref (a0)), (zq_vi (x1)), (zq_vi (x2)), (zq_vi (0)), (zq_vi (x1))]) (st' := []) (fun _ _ _ => rfl) ?_
      exact w
    · rw [if_neg hb_3] at w
      refine zq_run 1 (pc' := 14) (L' := [(.ref (a0)), (zq_vi (x1)), (zq_vi (x2)), zz_no, zz_no]) (st' := [(zq_vi ((-1)))]) (fun _ _ _ => rfl) ?_
      exact zq_iret rfl rfl rfl (⟨_, rfl, (of_decide_eq_true rfl), w⟩)
/-- PaperObjects$Text.digits at 20 -/
theorem zw_68_20 {X : Nat × (Nat → Int32)} {s : zq_S} {K : Int → zq_S → Prop} {a0 : Nat} (ha0 : zq_o 1 a0) {x1 : Int} (hx1 : zq_iv x1) {x2 : Int} (hx2 : zq_iv x2) {x3 : Int} (hx3 : zq_iv x3) {x4 : Int} (hx4 : zq_iv x4) (w : (if x4 < x2 then (zq_Ex X 29 0 [(.ref (a0)), (zq_vi (x4))] [] s (zq_rp zq_iv fun x_3 s_2 => (zq_Ex X 64 0 [(zq_vi (x_3))] [] s_2 (zq_rp zq_bo fun x_6 s_5 => (if x_6 = 0 then K ((-1)) s_5 else (zq_Ex X 29 0 [(.ref (a0)), (zq_vi (x4))] [] s_5 (zq_rp zq_iv fun x_10 s_9 => zq_Ex X 68 20 [(.ref (a0)), (zq_vi (x1)), (zq_vi (x2)), (zq_vi (((10 * x3) + x_10) - 48)), (zq_vi (x4 + 1))] [] s_9 (zq_rp zq_iv K)))))))) else K (x3) s)) : zq_Ex X 68 20 [(.ref (a0)), (zq_vi (x1)), (zq_vi (x2)), (zq_vi (x3)), (zq_vi (x4))] [] s (zq_rp zq_iv K) := by
  refine zq_run 2 (pc' := 23) (L' := [(.ref (a0)), (zq_vi (x1)), (zq_vi (x2)), (zq_vi (x3)), (zq_vi (x4))]) (st' := [(zq_vi (x2)), (zq_vi (x4))]) (fun _ _ _ => rfl) ?_
  refine zq_ge rfl hx4 hx2 (fun hb_1 => ?_) (fun hb_1 => ?_)
  · rw [if_neg hb_1] at w
    refine zq_run 1 (pc' := 62) (L' := [(.ref (a0)), (zq_vi (x1)), (zq_vi (x2)), (zq_vi (x3)), (zq_vi (x4))]) (st' := [(zq_vi (x3))]) (fun _ _ _ => rfl) ?_
    exact zq_iret rfl rfl rfl (⟨_, rfl, hx3, w⟩)
  · rw [if_pos hb_1] at w
    refine zq_run 2 (pc' := 29) (L' := [(.ref (a0)), (zq_vi (x1)), (zq_vi (x2)), (zq_vi (x3)), (zq_vi (x4))]) (st' := [(zq_vi (x4)), (.ref (a0))]) (fun _ _ _ => rfl) ?_
    refine zq_call_i (i := .invokevirtual 36) (r := [1, 29, 1, 1, 1]) rfl rfl (fun h hp => zr_avv rfl (hp.obj ha0)) (of_decide_eq_false rfl) w (fun x_3 s_2 hx_4 w => ?_)
    refine zq_call_i (i := .invokestatic 57) (r := [1, 64, 1, 0, 0]) rfl rfl (fun _ _ => rfl) (of_decide_eq_false rfl) w (fun x_6 s_5 hx_7 w => ?_)
    refine zq_ne0 rfl (zq_bo_in hx_7) (fun hb_8 => ?_) (fun hb_8 => ?_)
    · rw [if_neg hb_8] at w
      refine zq_run 2 (pc' := 43) (L' := [(.ref (a0)), (zq_vi (x1)), (zq_vi (x2)), (zq_vi (x3)), (zq_vi (x4))]) (st' := [(zq_vi (x3)), (zq_vi (10))]) (fun _ _ _ => rfl) ?_
      refine zq_imul rfl ?_
      refine zq_run 2 (pc' := 47) (L' := [(.ref (a0)), (zq_vi (x1)), (zq_vi (x2)), (zq_vi (x3)), (zq_vi (x4))]) (st' := [(zq_vi (x4)), (.ref (a0)), (zq_vi (10 * x3))]) (fun _ _ _ => rfl) ?_
      refine zq_call_i (i := .invokevirtual 36) (r := [1, 29, 1, 1, 1]) rfl rfl (fun h hp => zr_avv rfl (hp.obj ha0)) (of_decide_eq_false rfl) w (fun x_10 s_9 hx_11 w => ?_)
      refine zq_iadd rfl ?_
      refine zq_run 1 (pc' := 53) (L' := [(.ref (a0)), (zq_vi (x1)), (zq_vi (x2)), (zq_vi (x3)), (zq_vi (x4))]) (st' := [(zq_vi (48)), (zq_vi ((10 * x3) + x_10))]) (fun _ _ _ => rfl) ?_
      refine zq_isub rfl ?_
      refine zq_run 1 (pc' := 55) (L' := [(.ref (a0)), (zq_vi (x1)), (zq_vi (x2)), (zq_vi (((10 * x3) + x_10) - 48)), (zq_vi (x4))]) (st' := []) (fun _ _ _ => rfl) ?_
      refine zq_iinc (L' := [(.ref (a0)), (zq_vi (x1)), (zq_vi (x2)), (zq_vi (((10 * x3) + x_10) - 48)), (zq_vi (x4 + 1))]) rfl rfl rfl ?_
      refine zq_run 1 (pc' := 20) (L' := [(.ref (a0)), (zq_vi (x1)), (zq_vi (x2)), (zq_vi (((10 * x3) + x_10) - 48)), (zq_vi (x4 + 1))]) (st' := []) (fun _ _ _ => rfl) ?_
      exact w
    · rw [if_pos hb_8] at w
      refine zq_run 1 (pc' := 39) (L' := [(.ref (a0)), (zq_vi (x1)), (zq_vi (x2)), (zq_vi (x3)), (zq_vi (x4))]) (st' := [(zq_vi ((-1)))]) (fun _ _ _ => rfl) ?_
      exact zq_iret rfl rfl rfl (⟨_, rfl, (of_decide_eq_true rfl), w⟩)
/-- PaperObjects$Reader.takeConstant(Ljava/lang/String;I)Z -/
theorem zw_69 {X : Nat × (Nat → Int32)} {s : zq_S} {K : Int → zq_S → Prop} {a0 : Nat} (ha0 : zq_o 3 a0) {j1 : Nat} (hj_j1 : j1 < 1000000) (hl_j1 : (zq_str j1).length < 10000) {x2 : Int} (hx2 : zq_iv x2) (w : (∃ b_2 : Nat, zq_r s (a0) 0 = some b_2 ∧ (zq_Ex X 49 0 [(.ref (b_2)), (zq_vi (zq_i s (a0) (5))), (.ref (1000000 + j1)), zz_no] [] s (zq_rp zq_bo fun x_5 s_4 => (if x_5 = 0 then K (0) s_4 else (∃ b_9 : Nat, zq_r s_4 (a0) 0 = some b_9 ∧ (zq_Ex X 29 0 [(.ref (b_9)), (zq_vi ((zq_i s (a0) (5)) + (((zq_str j1).length : Int))))] [] s_4 (zq_rp zq_iv fun x_12 s_11 => (zq_Ex X 65 0 [(zq_vi (x_12))] [] s_11 (zq_rp zq_bo fun x_15 s_14 => (if x_15 = 0 then (zq_Ex X 58 0 [(.ref (a0)), (zq_vi (x2)), (zq_vi ((zq_i s (a0) (5)) + (((zq_str j1).length : Int)))), zz_no] [] s_14 (zq_rp zq_iv fun x_19 s_18 => K (1) s_18)) else K (0) s_14))))))))))) : zq_Ex X 69 0 [(.ref (a0)), (.ref (1000000 + j1)), (zq_vi (x2)), zz_no] [] s (zq_rp zq_bo K) := by
  refine zq_run 1 (pc' := 1) (L' := [(.ref (a0)), (.ref (1000000 + j1)), (zq_vi (x2)), zz_no]) (st' := [(.ref (a0))]) (fun _ _ _ => rfl) ?_
  refine zq_have (fun hR_1 => ?_)
  refine zq_getf_i (j := 5) (v := zq_i s (a0) (5)) rfl ha0 rfl rfl rfl ?_
  refine zq_run 1 (pc' := 5) (L' := [(.ref (a0)), (.ref (1000000 + j1)), (zq_vi (x2)), zz_no]) (st' := [(.ref (1000000 + j1)), (zq_vi (zq_i s (a0) (5)))]) (fun _ _ _ => rfl) ?_
  refine zq_strl (j := j1) (m := ((zq_str j1).length : Int)) rfl hj_j1 rfl rfl ?_
  refine zq_iadd rfl ?_
  refine zq_run 2 (pc' := 11) (L' := [(.ref (a0)), (.ref (1000000 + j1)), (zq_vi (x2)), (zq_vi ((zq_i s (a0) (5)) + (((zq_str j1).length : Int))))]) (st' := [(.ref (a0))]) (fun _ _ _ => rfl) ?_
  obtain ⟨b_2, hb_3, w⟩ := w
  refine zq_getf_rs (j := 0) rfl ha0 rfl rfl hb_3 ?_
  refine zq_run 1 (pc' := 15) (L' := [(.ref (a0)), (.ref (1000000 + j1)), (zq_vi (x2)), (zq_vi ((zq_i s (a0) (5)) + (((zq_str j1).length : Int))))]) (st' := [(.ref (a0)), (.ref (b_2))]) (fun _ _ _ => rfl) ?_
  refine zq_getf_i (j := 5) (v := zq_i s (a0) (5)) rfl ha0 rfl rfl rfl ?_
  refine zq_run 1 (pc' := 19) (L' := [(.ref (a0)), (.ref (1000000 + j1)), (zq_vi (x2)), (zq_vi ((zq_i s (a0) (5)) + (((zq_str j1).length : Int))))]) (st' := [(.ref (1000000 + j1)), (zq_vi (zq_i s (a0) (5))), (.ref (b_2))]) (fun _ _ _ => rfl) ?_
  refine zq_call_i (i := .invokevirtual 72) (r := [1, 49, 2, 1, 1]) rfl rfl (fun h hp => zr_avv rfl (hp.obj (zq_fcls hR_1 (k := 0) (j := 0) (cj := 1) ha0 rfl rfl hb_3))) (of_decide_eq_false rfl) w (fun x_5 s_4 hx_6 w => ?_)
  refine zq_eq0 rfl (zq_bo_in hx_6) (fun hb_7 => ?_) (fun hb_7 => ?_)
  · rw [if_pos hb_7] at w
    refine zq_run 1 (pc' := 40) (L' := [(.ref (a0)), (.ref (1000000 + j1)), (zq_vi (x2)), (zq_vi ((zq_i s (a0) (5)) + (((zq_str j1).length : Int))))]) (st' := [(zq_vi (0))]) (fun _ _ _ => rfl) ?_
    exact zq_iret rfl rfl (congrArg Value.int (zq_nb (of_decide_eq_true rfl))) (⟨_, rfl, (of_decide_eq_true rfl), w⟩)
  · rw [if_neg hb_7] at w
    refine zq_run 1 (pc' := 26) (L' := [(.ref (a0)), (.ref (1000000 + j1)), (zq_vi (x2)), (zq_vi ((zq_i s (a0) (5)) + (((zq_str j1).length : Int))))]) (st' := [(.ref (a0))]) (fun _ _ _ => rfl) ?_
    refine zq_have (fun hR_8 => ?_)
    obtain ⟨b_9, hb_10, w⟩ := w
    refine zq_getf_rs (j := 0) rfl ha0 rfl rfl hb_10 ?_
    refine zq_run 1 (pc' := 30) (L' := [(.ref (a0)), (.ref (1000000 + j1)), (zq_vi (x2)), (zq_vi ((zq_i s (a0) (5)) + (((zq_str j1).length : Int))))]) (st' := [(zq_vi ((zq_i s (a0) (5)) + (((zq_str j1).length : Int)))), (.ref (b_9))]) (fun _ _ _ => rfl) ?_
    refine zq_call_i (i := .invokevirtual 90) (r := [1, 29, 1, 1, 1]) rfl rfl (fun h hp => zr_avv rfl (hp.obj (zq_fcls hR_8 (k := 0) (j := 0) (cj := 1) ha0 rfl rfl hb_10))) (of_decide_eq_false rfl) w (fun x_12 s_11 hx_13 w => ?_)
    refine zq_call_i (i := .invokestatic 138) (r := [1, 65, 1, 0, 0]) rfl rfl (fun _ _ => rfl) (of_decide_eq_false rfl) w (fun x_15 s_14 hx_16 w => ?_)
    refine zq_eq0 rfl (zq_bo_in hx_16) (fun hb_17 => ?_) (fun hb_17 => ?_)
    · rw [if_pos hb_17] at w
      refine zq_run 3 (pc' := 44) (L' := [(.ref (a0)), (.ref (1000000 + j1)), (zq_vi (x2)), (zq_vi ((zq_i s (a0) (5)) + (((zq_str j1).length : Int))))]) (st' := [(zq_vi ((zq_i s (a0) (5)) + (((zq_str j1).length : Int)))), (zq_vi (x2)), (.ref (a0))]) (fun _ _ _ => rfl) ?_
      refine zq_call_i (i := .invokevirtual 123) (r := [1, 58, 2, 1, 3]) rfl rfl (fun h hp => zr_avv rfl (hp.obj ha0)) (of_decide_eq_false rfl) w (fun x_19 s_18 hx_20 w => ?_)
      refine zq_run 2 (pc' := 49) (L' := [(.ref (a0)), (.ref (1000000 + j1)), (zq_vi (x2)), (zq_vi ((zq_i s (a0) (5)) + (((zq_str j1).length : Int))))]) (st' := [(zq_vi (1))]) (fun _ _ _ => rfl) ?_
      exact zq_iret rfl rfl (congrArg Value.int (zq_nb (of_decide_eq_true rfl))) (⟨_, rfl, (of_decide_eq_true rfl), w⟩)
    · rw [if_neg hb_17] at w
      refine zq_run 1 (pc' := 40) (L' := [(.ref (a0)), (.ref (1000000 + j1)), (zq_vi (x2)), (zq_vi ((zq_i s (a0) (5)) + (((zq_str j1).length : Int))))]) (st' := [(zq_vi (0))]) (fun _ _ _ => rfl) ?_
      exact zq_iret rfl rfl (congrArg Value.int (zq_nb (of_decide_eq_true rfl))) (⟨_, rfl, (of_decide_eq_true rfl), w⟩)
/-- PaperObjects$Slot.exchange(LPaperObjects$Tree;)LPaperObjects$Tree; -/
theorem zw_70 {X : Nat × (Nat → Int32)} {s : zq_S} {K : Option Nat → zq_S → Prop} {a0 : Nat} (ha0 : zq_o 7 a0) {a1 : Nat} (ha1 : zq_o 4 a1) (w : (∃ b_2 : Nat, zq_r s (a0) 4 = some b_2 ∧ K (some (b_2)) (zq_si (zq_si (zq_si (zq_sr s (a0) (4) (some (a1))) (a0) (0) (1)) (a0) (1) (1)) (a0) (2) (0)))) : zq_Ex X 70 0 [(.ref (a0)), (.ref (a1)), zz_no] [] s (zq_rr 4 K) := by
  refine zq_run 1 (pc' := 1) (L' := [(.ref (a0)), (.ref (a1)), zz_no]) (st' := [(.ref (a0))]) (fun _ _ _ => rfl) ?_
  refine zq_have (fun hR_1 => ?_)
  obtain ⟨b_2, hb_3, w⟩ := w
  refine zq_getf_rs (j := 4) rfl ha0 rfl rfl hb_3 ?_
  refine zq_run 3 (pc' := 7) (L' := [(.ref (a0)), (.ref (a1)), (.ref (b_2))]) (st' := [(.ref (a1)), (.ref (a0))]) (fun _ _ _ => rfl) ?_
  refine zq_putf_r (j := 4) (v := some (a1)) (cj := 4) rfl ha0 rfl rfl rfl (fun b hb => by cases hb; exact ha1) ?_
  refine zq_run 2 (pc' := 12) (L' := [(.ref (a0)), (.ref (a1)), (.ref (b_2))]) (st' := [(zq_vi (1)), (.ref (a0))]) (fun _ _ _ => rfl) ?_
  refine zq_putf_b (j := 0) rfl ha0 rfl rfl rfl (of_decide_eq_true rfl) ?_
  refine zq_run 2 (pc' := 17) (L' := [(.ref (a0)), (.ref (a1)), (.ref (b_2))]) (st' := [(zq_vi (1)), (.ref (a0))]) (fun _ _ _ => rfl) ?_
  refine zq_putf_b (j := 1) rfl ha0 rfl rfl rfl (of_decide_eq_true rfl) ?_
  refine zq_run 2 (pc' := 22) (L' := [(.ref (a0)), (.ref (a1)), (.ref (b_2))]) (st' := [(zq_vi (0)), (.ref (a0))]) (fun _ _ _ => rfl) ?_
  refine zq_putf_b (j := 2) rfl ha0 rfl rfl rfl (of_decide_eq_true rfl) ?_
  refine zq_run 1 (pc' := 26) (L' := [(.ref (a0)), (.ref (a1)), (.ref (b_2))]) (st' := [(.ref (b_2))]) (fun _ _ _ => rfl) ?_
  exact zq_aret (v := some (b_2)) rfl rfl (⟨_, rfl, (fun b hb => by cases hb; exact (zq_fcls hR_1 (k := 4) (j := 4) (cj := 4) ha0 rfl rfl hb_3)), w⟩)
/-- PaperObjects$Cursor.clear()V -/
theorem zw_71 {X : Nat × (Nat → Int32)} {s : zq_S} {K : zq_S → Prop} {a0 : Nat} (ha0 : zq_o 2 a0) (w : K (zq_sr s (a0) (0) (none))) : zq_Ex X 71 0 [(.ref (a0))] [] s (zq_rv K) := by
  refine zq_run 2 (pc' := 2) (L' := [(.ref (a0))]) (st' := [.null, (.ref (a0))]) (fun _ _ _ => rfl) ?_
  refine zq_putf_r (j := 0) (v := none) (cj := 4) rfl ha0 rfl rfl rfl (fun b hb => by cases hb) ?_
  exact zq_vret rfl rfl (⟨rfl, w⟩)
/-- PaperObjects.content(I)V -/
theorem zw_72 {X : Nat × (Nat → Int32)} {s : zq_S} {K : zq_S → Prop} {T : Nat → zq_S → Prop} {x1 : Int} (hx1 : zq_iv x1) (w : (∃ b_2 : Nat, zq_r s (0) 8 = some b_2 ∧ (zq_Ex X 33 0 [(.ref (b_2)), (zq_vi (x1)), zz_no] [] s (zq_rr 7 fun o_5 s_4 => ((o_5 = none → (zq_n s_4 < 1000 ∧ T 13 (zq_sx s_4 13))) ∧ (∀ b_6 : Nat, o_5 = some b_6 → (∃ b_9 : Nat, zq_r s_4 (b_6) 4 = some b_9 ∧ (zq_Ex X 73 0 [(.ref (b_9))] [] s_4 (zq_rp zq_bo fun x_12 s_11 => (if x_12 = 0 then (zq_n s_11 < 1000 ∧ T 11 (zq_sx s_11 11)) else (if zq_i s_11 (1) (1) ≤ 12 then (zq_Ex X 76 0 [(.ref (1)), zz_no] [] s_11 (zq_rp zq_bo fun x_18 s_17 => (if x_18 = 0 then (zq_Ex X 77 0 [(.ref (b_6)), (.ref (1))] [] s_17 (zq_rv fun s_21 => (zq_Ex X 15 0 [(.ref (1))] [] s_21 (zq_rv fun s_22 => (zq_Ex X 71 0 [(.ref (3))] [] (zq_si s_22 (0) (11) ((-1))) (zq_rv fun s_23 => K s_23)))))) else (zq_n (zq_si s_17 (0) (11) (0)) < 1000 ∧ T 10 (zq_sx (zq_si s_17 (0) (11) (0)) 10))))) else (zq_n (zq_si s_11 (0) (11) (0)) < 1000 ∧ T 10 (zq_sx (zq_si s_11 (0) (11) (0)) 10))))))))))))) : zq_Ex X 72 0 [(.ref (0)), (zq_vi (x1)), zz_no] [] s (zq_rx (zq_rv K) T) := by
  refine zq_run 1 (pc' := 1) (L' := [(.ref (0)), (zq_vi (x1)), zz_no]) (st' := [(.ref (0))]) (fun _ _ _ => rfl) ?_
  refine zq_have (fun hR_1 => ?_)
  obtain ⟨b_2, hb_3, w⟩ := w
  refine zq_getf_rs (j := 8) rfl zq_a0 rfl rfl hb_3 ?_
  refine zq_run 1 (pc' := 5) (L' := [(.ref (0)), (zq_vi (x1)), zz_no]) (st' := [(zq_vi (x1)), (.ref (b_2))]) (fun _ _ _ => rfl) ?_
  refine zq_call_r (i := .invokevirtual 135) (r := [1, 33, 1, 1, 8]) rfl rfl (fun h hp => zr_avv rfl (hp.obj (zq_fcls hR_1 (k := 8) (j := 8) (cj := 8) zq_a0 rfl rfl hb_3))) (of_decide_eq_false rfl) w (fun s_4 w => ?_) (fun b_6 s_4 hb_7 w => ?_)
  · replace w := w.1 rfl
    refine zq_run 3 (pc' := 13) (L' := [(.ref (0)), (zq_vi (x1)), .null]) (st' := []) (fun _ _ _ => rfl) ?_
    exact zq_throw rfl rfl (of_decide_eq_true rfl) w.1 (zq_thr w.2)
  · replace w := w.2 b_6 rfl
    refine zq_run 4 (pc' := 22) (L' := [(.ref (0)), (zq_vi (x1)), (.ref (b_6))]) (st' := [(.ref (b_6))]) (fun _ _ _ => rfl) ?_
    refine zq_have (fun hR_8 => ?_)
    obtain ⟨b_9, hb_10, w⟩ := w
    refine zq_getf_rs (j := 4) rfl hb_7 rfl rfl hb_10 ?_
    refine zq_call_i (i := .invokevirtual 144) (r := [1, 73, 0, 1, 4]) rfl rfl (fun h hp => zr_avv rfl (hp.obj (zq_fcls hR_8 (k := 4) (j := 4) (cj := 4) hb_7 rfl rfl hb_10))) (of_decide_eq_false rfl) w (fun x_12 s_11 hx_13 w => ?_)
    refine zq_ne0 rfl (zq_bo_in hx_13) (fun hb_14 => ?_) (fun hb_14 => ?_)
    · rw [if_neg hb_14] at w
      refine zq_run 1 (pc' := 40) (L' := [(.ref (0)), (zq_vi (x1)), (.ref (b_6))]) (st' := [(.ref (0))]) (fun _ _ _ => rfl) ?_
      refine zq_getf_f (b := 1) rfl zq_a0 rfl rfl ?_
      refine zq_have (fun hR_15 => ?_)
      refine zq_getf_i (j := 1) (v := zq_i s_11 (1) (1)) rfl zq_a1 rfl rfl rfl ?_
      refine zq_run 1 (pc' := 48) (L' := [(.ref (0)), (zq_vi (x1)), (.ref (b_6))]) (st' := [(zq_vi (12)), (zq_vi (zq_i s_11 (1) (1)))]) (fun _ _ _ => rfl) ?_
      refine zq_gt rfl (hR_15.1 _ _) (of_decide_eq_true rfl) (fun hb_16 => ?_) (fun hb_16 => ?_)
      · rw [if_neg hb_16] at w
        refine zq_run 2 (pc' := 63) (L' := [(.ref (0)), (zq_vi (x1)), (.ref (b_6))]) (st' := [(zq_vi (0)), (.ref (0))]) (fun _ _ _ => rfl) ?_
        refine zq_putf_i (j := 11) rfl zq_a0 rfl rfl rfl (of_decide_eq_true rfl) ?_
        exact zq_throw rfl rfl (of_decide_eq_true rfl) w.1 (zq_thr w.2)
      · rw [if_pos hb_16] at w
        refine zq_run 1 (pc' := 52) (L' := [(.ref (0)), (zq_vi (x1)), (.ref (b_6))]) (st' := [(.ref (0))]) (fun _ _ _ => rfl) ?_
        refine zq_getf_f (b := 1) rfl zq_a0 rfl rfl ?_
        refine zq_call_i (i := .invokevirtual 148) (r := [1, 76, 0, 1, 1]) rfl rfl (fun h hp => zr_avv rfl (hp.obj zq_a1)) (of_decide_eq_false rfl) w (fun x_18 s_17 hx_19 w => ?_)
        refine zq_eq0 rfl (zq_bo_in hx_19) (fun hb_20 => ?_) (fun hb_20 => ?_)
        · rw [if_pos hb_20] at w
          refine zq_run 2 (pc' := 76) (L' := [(.ref (0)), (zq_vi (x1)), (.ref (b_6))]) (st' := [(.ref (0)), (.ref (b_6))]) (fun _ _ _ => rfl) ?_
          refine zq_getf_f (b := 1) rfl zq_a0 rfl rfl ?_
          refine zq_call_v (i := .invokevirtual 151) (r := [1, 77, 1, 1, 7]) rfl rfl (fun h hp => zr_avv rfl (hp.obj hb_7)) (of_decide_eq_false rfl) w (fun s_21 w => ?_)
          refine zq_run 1 (pc' := 83) (L' := [(.ref (0)), (zq_vi (x1)), (.ref (b_6))]) (st' := [(.ref (0))]) (fun _ _ _ => rfl) ?_
          refine zq_getf_f (b := 1) rfl zq_a0 rfl rfl ?_
          refine zq_call_v (i := .invokevirtual 124) (r := [1, 15, 0, 1, 1]) rfl rfl (fun h hp => zr_avv rfl (hp.obj zq_a1)) (of_decide_eq_false rfl) w (fun s_22 w => ?_)
          refine zq_run 2 (pc' := 91) (L' := [(.ref (0)), (zq_vi (x1)), (.ref (b_6))]) (st' := [(zq_vi ((-1))), (.ref (0))]) (fun _ _ _ => rfl) ?_
          refine zq_putf_i (j := 11) rfl zq_a0 rfl rfl rfl (of_decide_eq_true rfl) ?_
          refine zq_run 1 (pc' := 95) (L' := [(.ref (0)), (zq_vi (x1)), (.ref (b_6))]) (st' := [(.ref (0))]) (fun _ _ _ => rfl) ?_
          refine zq_getf_f (b := 3) rfl zq_a0 rfl rfl ?_
          refine zq_call_v (i := .invokevirtual 134) (r := [1, 71, 0, 1, 2]) rfl rfl (fun h hp => zr_avv rfl (hp.obj zq_a3)) (of_decide_eq_false rfl) w (fun s_23 w => ?_)
          exact zq_vret rfl rfl (Or.inl ⟨rfl, w⟩)
        · rw [if_neg hb_20] at w
          refine zq_run 2 (pc' := 63) (L' := [(.ref (0)), (zq_vi (x1)), (.ref (b_6))]) (st' := [(zq_vi (0)), (.ref (0))]) (fun _ _ _ => rfl) ?_
          refine zq_putf_i (j := 11) rfl zq_a0 rfl rfl rfl (of_decide_eq_true rfl) ?_
          exact zq_throw rfl rfl (of_decide_eq_true rfl) w.1 (zq_thr w.2)
    · rw [if_pos hb_14] at w
      exact zq_throw rfl rfl (of_decide_eq_true rfl) w.1 (zq_thr w.2)
/-- PaperObjects$Tree.canHaveLength()Z -/
theorem zw_73 {X : Nat × (Nat → Int32)} {s : zq_S} {K : Int → zq_S → Prop} {a0 : Nat} (ha0 : zq_o 4 a0) (w : (zq_Ex X 48 0 [(.ref (a0)), (zq_vi (0))] [] s (zq_rp zq_iv fun x_2 s_1 => (if x_2 = 7 then (if zq_i s_1 (a0) (0) < 12 then K (1) s_1 else (zq_Ex X 74 0 [(.ref (a0))] [] s_1 (zq_rp zq_iv fun x_8 s_7 => (if x_8 = (-1) then K (0) s_7 else K (1) s_7)))) else K (0) s_1)))) : zq_Ex X 73 0 [(.ref (a0))] [] s (zq_rp zq_bo K) := by
  refine zq_run 2 (pc' := 2) (L' := [(.ref (a0))]) (st' := [(zq_vi (0)), (.ref (a0))]) (fun _ _ _ => rfl) ?_
  refine zq_call_i (i := .invokevirtual 36) (r := [1, 48, 1, 1, 4]) rfl rfl (fun h hp => zr_avv rfl (hp.obj ha0)) (of_decide_eq_false rfl) w (fun x_2 s_1 hx_3 w => ?_)
  refine zq_run 1 (pc' := 7) (L' := [(.ref (a0))]) (st' := [(zq_vi (7)), (zq_vi (x_2))]) (fun _ _ _ => rfl) ?_
  refine zq_ne rfl hx_3 (of_decide_eq_true rfl) (fun hb_4 => ?_) (fun hb_4 => ?_)
  · rw [if_neg hb_4] at w
    refine zq_run 1 (pc' := 32) (L' := [(.ref (a0))]) (st' := [(zq_vi (0))]) (fun _ _ _ => rfl) ?_
    exact zq_iret rfl rfl (congrArg Value.int (zq_nb (of_decide_eq_true rfl))) (⟨_, rfl, (of_decide_eq_true rfl), w⟩)
  · rw [if_pos hb_4] at w
    refine zq_run 1 (pc' := 11) (L' := [(.ref (a0))]) (st' := [(.ref (a0))]) (fun _ _ _ => rfl) ?_
    refine zq_have (fun hR_5 => ?_)
    refine zq_getf_i (j := 0) (v := zq_i s_1 (a0) (0)) rfl ha0 rfl rfl rfl ?_
    refine zq_run 1 (pc' := 16) (L' := [(.ref (a0))]) (st' := [(zq_vi (12)), (zq_vi (zq_i s_1 (a0) (0)))]) (fun _ _ _ => rfl) ?_
    refine zq_lt rfl (hR_5.1 _ _) (of_decide_eq_true rfl) (fun hb_6 => ?_) (fun hb_6 => ?_)
    · rw [if_pos hb_6] at w
      refine zq_run 2 (pc' := 32) (L' := [(.ref (a0))]) (st' := [(zq_vi (1))]) (fun _ _ _ => rfl) ?_
      exact zq_iret rfl rfl (congrArg Value.int (zq_nb (of_decide_eq_true rfl))) (⟨_, rfl, (of_decide_eq_true rfl), w⟩)
    · rw [if_neg hb_6] at w
      refine zq_run 1 (pc' := 20) (L' := [(.ref (a0))]) (st' := [(.ref (a0))]) (fun _ _ _ => rfl) ?_
      refine zq_call_i (i := .invokevirtual 59) (r := [1, 74, 0, 1, 4]) rfl rfl (fun h hp => zr_avv rfl (hp.obj ha0)) (of_decide_eq_false rfl) w (fun x_8 s_7 hx_9 w => ?_)
      refine zq_run 1 (pc' := 24) (L' := [(.ref (a0))]) (st' := [(zq_vi ((-1))), (zq_vi (x_8))]) (fun _ _ _ => rfl) ?_
      refine zq_eq rfl hx_9 (of_decide_eq_true rfl) (fun hb_10 => ?_) (fun hb_10 => ?_)
      · rw [if_pos hb_10] at w
        refine zq_run 1 (pc' := 32) (L' := [(.ref (a0))]) (st' := [(zq_vi (0))]) (fun _ _ _ => rfl) ?_
        exact zq_iret rfl rfl (congrArg Value.int (zq_nb (of_decide_eq_true rfl))) (⟨_, rfl, (of_decide_eq_true rfl), w⟩)
      · rw [if_neg hb_10] at w
        refine zq_run 2 (pc' := 32) (L' := [(.ref (a0))]) (st' := [(zq_vi (1))]) (fun _ _ _ => rfl) ?_
        exact zq_iret rfl rfl (congrArg Value.int (zq_nb (of_decide_eq_true rfl))) (⟨_, rfl, (of_decide_eq_true rfl), w⟩)
/-- PaperObjects$Tree.lengthPart()I -/
theorem zw_74 {X : Nat × (Nat → Int32)} {s : zq_S} {K : Int → zq_S → Prop} {a0 : Nat} (ha0 : zq_o 4 a0) (w : (zq_Ex X 75 0 [(.ref (1000000 + 10)), zz_no, zz_no, zz_no] [] s (zq_rl fun y_2 s_1 => (zq_Ex X 55 0 [(.ref (a0)), (zq_vi (0)), (.long (y_2)), zz_no, zz_no, zz_no] [] s_1 (zq_rp zq_iv fun x_4 s_3 => K (x_4) s_3))))) : zq_Ex X 74 0 [(.ref (a0))] [] s (zq_rp zq_iv K) := by
  refine zq_run 3 (pc' := 4) (L' := [(.ref (a0))]) (st' := [(.ref (1000000 + 10)), (zq_vi (0)), (.ref (a0))]) (fun _ _ _ => rfl) ?_
  refine zq_call_l (i := .invokestatic 51) (r := [1, 75, 1, 0, 0]) rfl rfl (fun _ _ => rfl) (of_decide_eq_false rfl) w (fun y_2 s_1 w => ?_)
  refine zq_call_i (i := .invokevirtual 55) (r := [1, 55, 2, 1, 4]) rfl rfl (fun h hp => zr_avv rfl (hp.obj ha0)) (of_decide_eq_false rfl) w (fun x_4 s_3 hx_5 w => ?_)
  exact zq_iret rfl rfl rfl (⟨_, rfl, hx_5, w⟩)
/-- PaperObjects.packedName(Ljava/lang/String;)J -/
theorem zw_75 {X : Nat × (Nat → Int32)} {s : zq_S} {K : Int64 → zq_S → Prop} {j0 : Nat} (hj_j0 : j0 < 1000000) (hl_j0 : (zq_str j0).length < 10000) (w : zq_Ex X 75 4 [(.ref (1000000 + j0)), (.long (0)), zz_no, (zq_vi (0))] [] s (zq_rl K)) : zq_Ex X 75 0 [(.ref (1000000 + j0)), zz_no, zz_no, zz_no] [] s (zq_rl K) := by
  refine zq_run 4 (pc' := 4) (L' := [(.ref (1000000 + j0)), (.long (0)), zz_no, (zq_vi (0))]) (st' := []) (fun _ _ _ => rfl) ?_
  exact w
/-- PaperObjects.packedName at 4 -/
theorem zw_75_4 {X : Nat × (Nat → Int32)} {s : zq_S} {K : Int64 → zq_S → Prop} {j0 : Nat} (hj_j0 : j0 < 1000000) (hl_j0 : (zq_str j0).length < 10000) {y1 : Int64} {x3 : Int} (hx3 : zq_iv x3) (w : (if x3 < ((zq_str j0).length : Int) then (((0 : Int) ≤ x3 ∧ x3 < ((zq_str j0).length : Int)) ∧ zq_Ex X 75 4 [(.ref (1000000 + j0)), (.long ((y1) ||| (((Int32.ofInt ((zq_str j0).getD (x3).toNat 0)).toInt64) <<< ((Int32.ofInt (8 * x3)).toInt64 &&& 63)))), zz_no, (zq_vi (x3 + 1))] [] s (zq_rl K)) else K (y1) s)) : zq_Ex X 75 4 [(.ref (1000000 + j0)), (.long (y1)), zz_no, (zq_vi (x3))] [] s (zq_rl K) := by
  refine zq_run 2 (pc' := 6) (L' := [(.ref (1000000 + j0)), (.long (y1)), zz_no, (zq_vi (x3))]) (st' := [(.ref (1000000 + j0)), (zq_vi (x3))]) (fun _ _ _ => rfl) ?_
  refine zq_strl (j := j0) (m := ((zq_str j0).length : Int)) rfl hj_j0 rfl rfl ?_
  refine zq_ge rfl hx3 (zq_inm hl_j0) (fun hb_1 => ?_) (fun hb_1 => ?_)
  · rw [if_neg hb_1] at w
    refine zq_run 1 (pc' := 33) (L' := [(.ref (1000000 + j0)), (.long (y1)), zz_no, (zq_vi (x3))]) (st' := [(.long (y1))]) (fun _ _ _ => rfl) ?_
    exact zq_lret rfl rfl (⟨_, rfl, w⟩)
  · rw [if_pos hb_1] at w
    refine zq_run 3 (pc' := 15) (L' := [(.ref (1000000 + j0)), (.long (y1)), zz_no, (zq_vi (x3))]) (st' := [(zq_vi (x3)), (.ref (1000000 + j0)), (.long (y1))]) (fun _ _ _ => rfl) ?_
    obtain ⟨g_2, w⟩ := w
    refine zq_stra (j := j0) rfl hj_j0 hl_j0 g_2.1 g_2.2 rfl ?_
    refine zq_run 3 (pc' := 22) (L' := [(.ref (1000000 + j0)), (.long (y1)), zz_no, (zq_vi (x3))]) (st' := [(zq_vi (x3)), (zq_vi (8)), (.long ((Int32.ofInt ((zq_str j0).getD (x3).toNat 0)).toInt64)), (.long (y1))]) (fun _ _ _ => rfl) ?_
    refine zq_imul rfl ?_
    refine zq_run 3 (pc' := 26) (L' := [(.ref (1000000 + j0)), (.long ((y1) ||| (((Int32.ofInt ((zq_str j0).getD (x3).toNat 0)).toInt64) <<< ((Int32.ofInt (8 * x3)).toInt64 &&& 63)))), zz_no, (zq_vi (x3))]) (st' := []) (fun _ _ _ => rfl) ?_
    refine zq_iinc (L' := [(.ref (1000000 + j0)), (.long ((y1) ||| (((Int32.ofInt ((zq_str j0).getD (x3).toNat 0)).toInt64) <<< ((Int32.ofInt (8 * x3)).toInt64 &&& 63)))), zz_no, (zq_vi (x3 + 1))]) rfl rfl rfl ?_
    refine zq_run 1 (pc' := 4) (L' := [(.ref (1000000 + j0)), (.long ((y1) ||| (((Int32.ofInt ((zq_str j0).getD (x3).toNat 0)).toInt64) <<< ((Int32.ofInt (8 * x3)).toInt64 &&& 63)))), zz_no, (zq_vi (x3 + 1))]) (st' := []) (fun _ _ _ => rfl) ?_
    exact w
/-- PaperObjects$Text.hasNewline()Z -/
theorem zw_76 {X : Nat × (Nat → Int32)} {s : zq_S} {K : Int → zq_S → Prop} {a0 : Nat} (ha0 : zq_o 1 a0) (w : zq_Ex X 76 2 [(.ref (a0)), (zq_vi (0))] [] s (zq_rp zq_bo K)) : zq_Ex X 76 0 [(.ref (a0)), zz_no] [] s (zq_rp zq_bo K) := by
  refine zq_run 2 (pc' := 2) (L' := [(.ref (a0)), (zq_vi (0))]) (st' := []) (fun _ _ _ => rfl) ?_
  exact w
/-- PaperObjects$Text.hasNewline at 2 -/
theorem zw_76_2 {X : Nat × (Nat → Int32)} {s : zq_S} {K : Int → zq_S → Prop} {a0 : Nat} (ha0 : zq_o 1 a0) {x1 : Int} (hx1 : zq_iv x1) (w : (if x1 < zq_i s (a0) (1) then (zq_Ex X 29 0 [(.ref (a0)), (zq_vi (x1))] [] s (zq_rp zq_iv fun x_4 s_3 => (if x_4 = 10 then K (1) s_3 else zq_Ex X 76 2 [(.ref (a0)), (zq_vi (x1 + 1))] [] s_3 (zq_rp zq_bo K)))) else K (0) s)) : zq_Ex X 76 2 [(.ref (a0)), (zq_vi (x1))] [] s (zq_rp zq_bo K) := by
  refine zq_run 2 (pc' := 4) (L' := [(.ref (a0)), (zq_vi (x1))]) (st' := [(.ref (a0)), (zq_vi (x1))]) (fun _ _ _ => rfl) ?_
  refine zq_have (fun hR_1 => ?_)
  refine zq_getf_i (j := 1) (v := zq_i s (a0) (1)) rfl ha0 rfl rfl rfl ?_
  refine zq_ge rfl hx1 (hR_1.1 _ _) (fun hb_2 => ?_) (fun hb_2 => ?_)
  · rw [if_neg hb_2] at w
    refine zq_run 1 (pc' := 29) (L' := [(.ref (a0)), (zq_vi (x1))]) (st' := [(zq_vi (0))]) (fun _ _ _ => rfl) ?_
    exact zq_iret rfl rfl (congrArg Value.int (zq_nb (of_decide_eq_true rfl))) (⟨_, rfl, (of_decide_eq_true rfl), w⟩)
  · rw [if_pos hb_2] at w
    refine zq_run 2 (pc' := 12) (L' := [(.ref (a0)), (zq_vi (x1))]) (st' := [(zq_vi (x1)), (.ref (a0))]) (fun _ _ _ => rfl) ?_
    refine zq_call_i (i := .invokevirtual 36) (r := [1, 29, 1, 1, 1]) rfl rfl (fun h hp => zr_avv rfl (hp.obj ha0)) (of_decide_eq_false rfl) w (fun x_4 s_3 hx_5 w => ?_)
    refine zq_run 1 (pc' := 17) (L' := [(.ref (a0)), (zq_vi (x1))]) (st' := [(zq_vi (10)), (zq_vi (x_4))]) (fun _ _ _ => rfl) ?_
    refine zq_ne rfl hx_5 (of_decide_eq_true rfl) (fun hb_6 => ?_) (fun hb_6 => ?_)
    · rw [if_neg hb_6] at w
      refine zq_iinc (L' := [(.ref (a0)), (zq_vi (x1 + 1))]) rfl rfl rfl ?_
      refine zq_run 1 (pc' := 2) (L' := [(.ref (a0)), (zq_vi (x1 + 1))]) (st' := []) (fun _ _ _ => rfl) ?_
      exact w
    · rw [if_pos hb_6] at w
      refine zq_run 1 (pc' := 21) (L' := [(.ref (a0)), (zq_vi (x1))]) (st' := [(zq_vi (1))]) (fun _ _ _ => rfl) ?_
      exact zq_iret rfl rfl (congrArg Value.int (zq_nb (of_decide_eq_true rfl))) (⟨_, rfl, (of_decide_eq_true rfl), w⟩)
/-- PaperObjects$Slot.takeContents(LPaperObjects$Text;)V -/
theorem zw_77 {X : Nat × (Nat → Int32)} {s : zq_S} {K : zq_S → Prop} {a0 : Nat} (ha0 : zq_o 7 a0) {a1 : Nat} (ha1 : zq_o 1 a1) (w : (∃ b_2 : Nat, zq_r s (a0) 4 = some b_2 ∧ (zq_Ex X 78 0 [(.ref (b_2)), (zq_vi (zq_i s (a1) (1))), zz_no] [] s (zq_rv fun s_4 => (zq_Ex X 15 0 [(.ref (a0 + 8))] [] s_4 (zq_rv fun s_5 => (zq_Ex X 80 0 [(.ref (a0 + 8)), (.ref (a1)), zz_no] [] s_5 (zq_rv fun s_6 => K (zq_si (zq_si s_6 (a0) (2) (1)) (a0) (1) (1)))))))))) : zq_Ex X 77 0 [(.ref (a0)), (.ref (a1))] [] s (zq_rv K) := by
  refine zq_run 1 (pc' := 1) (L' := [(.ref (a0)), (.ref (a1))]) (st' := [(.ref (a0))]) (fun _ _ _ => rfl) ?_
  refine zq_have (fun hR_1 => ?_)
  obtain ⟨b_2, hb_3, w⟩ := w
  refine zq_getf_rs (j := 4) rfl ha0 rfl rfl hb_3 ?_
  refine zq_run 1 (pc' := 5) (L' := [(.ref (a0)), (.ref (a1))]) (st' := [(.ref (a1)), (.ref (b_2))]) (fun _ _ _ => rfl) ?_
  refine zq_getf_i (j := 1) (v := zq_i s (a1) (1)) rfl ha1 rfl rfl rfl ?_
  refine zq_call_v (i := .invokevirtual 44) (r := [1, 78, 1, 1, 4]) rfl rfl (fun h hp => zr_avv rfl (hp.obj (zq_fcls hR_1 (k := 4) (j := 4) (cj := 4) ha0 rfl rfl hb_3))) (of_decide_eq_false rfl) w (fun s_4 w => ?_)
  refine zq_run 1 (pc' := 12) (L' := [(.ref (a0)), (.ref (a1))]) (st' := [(.ref (a0))]) (fun _ _ _ => rfl) ?_
  refine zq_getf_f (b := a0 + 8) rfl ha0 rfl rfl ?_
  refine zq_call_v (i := .invokevirtual 47) (r := [1, 15, 0, 1, 1]) rfl rfl (fun h hp => zr_avv rfl (hp.obj (zq_L7 ha0))) (of_decide_eq_false rfl) w (fun s_5 w => ?_)
  refine zq_run 1 (pc' := 19) (L' := [(.ref (a0)), (.ref (a1))]) (st' := [(.ref (a0))]) (fun _ _ _ => rfl) ?_
  refine zq_getf_f (b := a0 + 8) rfl ha0 rfl rfl ?_
  refine zq_run 1 (pc' := 23) (L' := [(.ref (a0)), (.ref (a1))]) (st' := [(.ref (a1)), (.ref (a0 + 8))]) (fun _ _ _ => rfl) ?_
  refine zq_call_v (i := .invokevirtual 50) (r := [1, 80, 1, 1, 1]) rfl rfl (fun h hp => zr_avv rfl (hp.obj (zq_L7 ha0))) (of_decide_eq_false rfl) w (fun s_6 w => ?_)
  refine zq_run 2 (pc' := 28) (L' := [(.ref (a0)), (.ref (a1))]) (st' := [(zq_vi (1)), (.ref (a0))]) (fun _ _ _ => rfl) ?_
  refine zq_putf_b (j := 2) rfl ha0 rfl rfl rfl (of_decide_eq_true rfl) ?_
  refine zq_run 2 (pc' := 33) (L' := [(.ref (a0)), (.ref (a1))]) (st' := [(zq_vi (1)), (.ref (a0))]) (fun _ _ _ => rfl) ?_
  refine zq_putf_b (j := 1) rfl ha0 rfl rfl rfl (of_decide_eq_true rfl) ?_
  exact zq_vret rfl rfl (⟨rfl, w⟩)
/-- PaperObjects$Tree.giveLength(I)V -/
theorem zw_78 {X : Nat × (Nat → Int32)} {s : zq_S} {K : zq_S → Prop} {a0 : Nat} (ha0 : zq_o 4 a0) {x1 : Int} (hx1 : zq_iv x1) (w : (zq_Ex X 74 0 [(.ref (a0))] [] s (zq_rp zq_iv fun x_2 s_1 => (zq_Ex X 48 0 [(.ref (a0)), (zq_vi (x_2))] [] s_1 (zq_rp zq_iv fun x_5 s_4 => (if x_5 = 8 then K s_4 else (if x_2 = (-1) then (zq_Ex X 75 0 [(.ref (1000000 + 10)), zz_no, zz_no, zz_no] [] s_4 (zq_rl fun y_13 s_12 => (zq_Ex X 10 0 [(.ref (a0)), (zq_vi (3)), (zq_vi (1)), (.long (y_13)), zz_no, zz_no] [] s_12 (zq_rp zq_iv fun x_15 s_14 => (zq_Ex X 79 0 [(.ref (a0)), (zq_vi (x_15)), zz_no, zz_no, zz_no] [] s_14 (zq_rv fun s_17 => (((0 : Int) ≤ x_15 ∧ x_15 < (12 : Int)) ∧ (((0 : Int) ≤ x_15 ∧ x_15 < (12 : Int)) ∧ K (zq_si (zq_si s_17 (a0 + 1) (x_15) (3)) (a0 + 3) (x_15) (x1)))))))))) else (zq_Ex X 79 0 [(.ref (a0)), (zq_vi (x_2)), zz_no, zz_no, zz_no] [] s_4 (zq_rv fun s_9 => (((0 : Int) ≤ x_2 ∧ x_2 < (12 : Int)) ∧ (((0 : Int) ≤ x_2 ∧ x_2 < (12 : Int)) ∧ K (zq_si (zq_si s_9 (a0 + 1) (x_2) (3)) (a0 + 3) (x_2) (x1))))))))))))) : zq_Ex X 78 0 [(.ref (a0)), (zq_vi (x1)), zz_no] [] s (zq_rv K) := by
  refine zq_run 1 (pc' := 1) (L' := [(.ref (a0)), (zq_vi (x1)), zz_no]) (st' := [(.ref (a0))]) (fun _ _ _ => rfl) ?_
  refine zq_call_i (i := .invokevirtual 59) (r := [1, 74, 0, 1, 4]) rfl rfl (fun h hp => zr_avv rfl (hp.obj ha0)) (of_decide_eq_false rfl) w (fun x_2 s_1 hx_3 w => ?_)
  refine zq_run 3 (pc' := 7) (L' := [(.ref (a0)), (zq_vi (x1)), (zq_vi (x_2))]) (st' := [(zq_vi (x_2)), (.ref (a0))]) (fun _ _ _ => rfl) ?_
  refine zq_call_i (i := .invokevirtual 36) (r := [1, 48, 1, 1, 4]) rfl rfl (fun h hp => zr_avv rfl (hp.obj ha0)) (of_decide_eq_false rfl) w (fun x_5 s_4 hx_6 w => ?_)
  refine zq_run 1 (pc' := 12) (L' := [(.ref (a0)), (zq_vi (x1)), (zq_vi (x_2))]) (st' := [(zq_vi (8)), (zq_vi (x_5))]) (fun _ _ _ => rfl) ?_
  refine zq_ne rfl hx_6 (of_decide_eq_true rfl) (fun hb_7 => ?_) (fun hb_7 => ?_)
  · rw [if_neg hb_7] at w
    refine zq_run 2 (pc' := 18) (L' := [(.ref (a0)), (zq_vi (x1)), (zq_vi (x_2))]) (st' := [(zq_vi ((-1))), (zq_vi (x_2))]) (fun _ _ _ => rfl) ?_
    refine zq_ne rfl hx_3 (of_decide_eq_true rfl) (fun hb_8 => ?_) (fun hb_8 => ?_)
    · rw [if_neg hb_8] at w
      refine zq_run 2 (pc' := 35) (L' := [(.ref (a0)), (zq_vi (x1)), (zq_vi (x_2))]) (st' := [(zq_vi (x_2)), (.ref (a0))]) (fun _ _ _ => rfl) ?_
      refine zq_call_v (i := .invokevirtual 67) (r := [1, 79, 1, 1, 4]) rfl rfl (fun h hp => zr_avv rfl (hp.obj ha0)) (of_decide_eq_false rfl) w (fun s_9 w => ?_)
      refine zq_run 1 (pc' := 39) (L' := [(.ref (a0)), (zq_vi (x1)), (zq_vi (x_2))]) (st' := [(.ref (a0))]) (fun _ _ _ => rfl) ?_
      refine zq_getf_f (b := a0 + 1) rfl ha0 rfl rfl ?_
      refine zq_run 2 (pc' := 44) (L' := [(.ref (a0)), (zq_vi (x1)), (zq_vi (x_2))]) (st' := [(zq_vi (3)), (zq_vi (x_2)), (.ref (a0 + 1))]) (fun _ _ _ => rfl) ?_
      obtain ⟨g_10, w⟩ := w
      refine zq_ast_i rfl (zq_L4 ha0).1 g_10.1 g_10.2 (of_decide_eq_true rfl) ?_
      refine zq_run 1 (pc' := 46) (L' := [(.ref (a0)), (zq_vi (x1)), (zq_vi (x_2))]) (st' := [(.ref (a0))]) (fun _ _ _ => rfl) ?_
      refine zq_getf_f (b := a0 + 3) rfl ha0 rfl rfl ?_
      refine zq_run 2 (pc' := 51) (L' := [(.ref (a0)), (zq_vi (x1)), (zq_vi (x_2))]) (st' := [(zq_vi (x1)), (zq_vi (x_2)), (.ref (a0 + 3))]) (fun _ _ _ => rfl) ?_
      obtain ⟨g_11, w⟩ := w
      refine zq_ast_i rfl (zq_L4 ha0).2.2.1 g_11.1 g_11.2 hx1 ?_
      exact zq_vret rfl rfl (⟨rfl, w⟩)
    · rw [if_pos hb_8] at w
      refine zq_run 4 (pc' := 26) (L' := [(.ref (a0)), (zq_vi (x1)), (zq_vi (x_2))]) (st' := [(.ref (1000000 + 10)), (zq_vi (1)), (zq_vi (3)), (.ref (a0))]) (fun _ _ _ => rfl) ?_
      refine zq_call_l (i := .invokestatic 51) (r := [1, 75, 1, 0, 0]) rfl rfl (fun _ _ => rfl) (of_decide_eq_false rfl) w (fun y_13 s_12 w => ?_)
      refine zq_call_i (i := .invokevirtual 63) (r := [1, 10, 3, 1, 4]) rfl rfl (fun h hp => zr_avv rfl (hp.obj ha0)) (of_decide_eq_false rfl) w (fun x_15 s_14 hx_16 w => ?_)
      refine zq_run 3 (pc' := 35) (L' := [(.ref (a0)), (zq_vi (x1)), (zq_vi (x_15))]) (st' := [(zq_vi (x_15)), (.ref (a0))]) (fun _ _ _ => rfl) ?_
      refine zq_call_v (i := .invokevirtual 67) (r := [1, 79, 1, 1, 4]) rfl rfl (fun h hp => zr_avv rfl (hp.obj ha0)) (of_decide_eq_false rfl) w (fun s_17 w => ?_)
      refine zq_run 1 (pc' := 39) (L' := [(.ref (a0)), (zq_vi (x1)), (zq_vi (x_15))]) (st' := [(.ref (a0))]) (fun _ _ _ => rfl) ?_
      refine zq_getf_f (b := a0 + 1) rfl ha0 rfl rfl ?_
      refine zq_run 2 (pc' := 44) (L' := [(.ref (a0)), (zq_vi (x1)), (zq_vi (x_15))]) (st' := [(zq_vi (3)), (zq_vi (x_15)), (.ref (a0 + 1))]) (fun _ _ _ => rfl) ?_
      obtain ⟨g_18, w⟩ := w
      refine zq_ast_i rfl (zq_L4 ha0).1 g_18.1 g_18.2 (of_decide_eq_true rfl) ?_
      refine zq_run 1 (pc' := 46) (L' := [(.ref (a0)), (zq_vi (x1)), (zq_vi (x_15))]) (st' := [(.ref (a0))]) (fun _ _ _ => rfl) ?_
      refine zq_getf_f (b := a0 + 3) rfl ha0 rfl rfl ?_
      refine zq_run 2 (pc' := 51) (L' := [(.ref (a0)), (zq_vi (x1)), (zq_vi (x_15))]) (st' := [(zq_vi (x1)), (zq_vi (x_15)), (.ref (a0 + 3))]) (fun _ _ _ => rfl) ?_
      obtain ⟨g_19, w⟩ := w
      refine zq_ast_i rfl (zq_L4 ha0).2.2.1 g_19.1 g_19.2 hx1 ?_
      exact zq_vret rfl rfl (⟨rfl, w⟩)
  · rw [if_pos hb_7] at w
    exact zq_vret rfl rfl (⟨rfl, w⟩)
/-- PaperObjects$Text.addText(LPaperObjects$Text;)V -/
theorem zw_80 {X : Nat × (Nat → Int32)} {s : zq_S} {K : zq_S → Prop} {a0 : Nat} (ha0 : zq_o 1 a0) {a1 : Nat} (ha1 : zq_o 1 a1) (w : zq_Ex X 80 2 [(.ref (a0)), (.ref (a1)), (zq_vi (0))] [] s (zq_rv K)) : zq_Ex X 80 0 [(.ref (a0)), (.ref (a1)), zz_no] [] s (zq_rv K) := by
  refine zq_run 2 (pc' := 2) (L' := [(.ref (a0)), (.ref (a1)), (zq_vi (0))]) (st' := []) (fun _ _ _ => rfl) ?_
  exact w
/-- PaperObjects$Text.addText at 2 -/
theorem zw_80_2 {X : Nat × (Nat → Int32)} {s : zq_S} {K : zq_S → Prop} {a0 : Nat} (ha0 : zq_o 1 a0) {a1 : Nat} (ha1 : zq_o 1 a1) {x2 : Int} (hx2 : zq_iv x2) (w : (if x2 < zq_i s (a1) (1) then (zq_Ex X 29 0 [(.ref (a1)), (zq_vi (x2))] [] s (zq_rp zq_iv fun x_4 s_3 => (zq_Ex X 19 0 [(.ref (a0)), (zq_vi (x_4))] [] s_3 (zq_rv fun s_6 => zq_Ex X 80 2 [(.ref (a0)), (.ref (a1)), (zq_vi (x2 + 1))] [] s_6 (zq_rv K))))) else K s)) : zq_Ex X 80 2 [(.ref (a0)), (.ref (a1)), (zq_vi (x2))] [] s (zq_rv K) := by
  refine zq_run 2 (pc' := 4) (L' := [(.ref (a0)), (.ref (a1)), (zq_vi (x2))]) (st' := [(.ref (a1)), (zq_vi (x2))]) (fun _ _ _ => rfl) ?_
  refine zq_have (fun hR_1 => ?_)
  refine zq_getf_i (j := 1) (v := zq_i s (a1) (1)) rfl ha1 rfl rfl rfl ?_
  refine zq_ge rfl hx2 (hR_1.1 _ _) (fun hb_2 => ?_) (fun hb_2 => ?_)
  · rw [if_neg hb_2] at w
    exact zq_vret rfl rfl (⟨rfl, w⟩)
  · rw [if_pos hb_2] at w
    refine zq_run 3 (pc' := 13) (L' := [(.ref (a0)), (.ref (a1)), (zq_vi (x2))]) (st' := [(zq_vi (x2)), (.ref (a1)), (.ref (a0))]) (fun _ _ _ => rfl) ?_
    refine zq_call_i (i := .invokevirtual 36) (r := [1, 29, 1, 1, 1]) rfl rfl (fun h hp => zr_avv rfl (hp.obj ha1)) (of_decide_eq_false rfl) w (fun x_4 s_3 hx_5 w => ?_)
    refine zq_call_v (i := .invokevirtual 23) (r := [1, 19, 1, 1, 1]) rfl rfl (fun h hp => zr_avv rfl (hp.obj ha0)) (of_decide_eq_false rfl) w (fun s_6 w => ?_)
    refine zq_iinc (L' := [(.ref (a0)), (.ref (a1)), (zq_vi (x2 + 1))]) rfl rfl rfl ?_
    refine zq_run 1 (pc' := 2) (L' := [(.ref (a0)), (.ref (a1)), (zq_vi (x2 + 1))]) (st' := []) (fun _ _ _ => rfl) ?_
    exact w
/-- PaperObjects.free(I)V -/
theorem zw_81 {X : Nat × (Nat → Int32)} {s : zq_S} {K : zq_S → Prop} {T : Nat → zq_S → Prop} {x1 : Int} (hx1 : zq_iv x1) (w : (∃ b_2 : Nat, zq_r s (0) 8 = some b_2 ∧ (zq_Ex X 33 0 [(.ref (b_2)), (zq_vi (x1)), zz_no] [] s (zq_rr 7 fun o_5 s_4 => ((o_5 = none → (zq_n s_4 < 1000 ∧ T 13 (zq_sx s_4 13))) ∧ (∀ b_6 : Nat, o_5 = some b_6 → (zq_Ex X 82 0 [(.ref (b_6))] [] s_4 (zq_rv fun s_8 => (zq_Ex X 71 0 [(.ref (3))] [] s_8 (zq_rv fun s_9 => K s_9)))))))))) : zq_Ex X 81 0 [(.ref (0)), (zq_vi (x1)), zz_no] [] s (zq_rx (zq_rv K) T) := by
  refine zq_run 1 (pc' := 1) (L' := [(.ref (0)), (zq_vi (x1)), zz_no]) (st' := [(.ref (0))]) (fun _ _ _ => rfl) ?_
  refine zq_have (fun hR_1 => ?_)
  obtain ⟨b_2, hb_3, w⟩ := w
  refine zq_getf_rs (j := 8) rfl zq_a0 rfl rfl hb_3 ?_
  refine zq_run 1 (pc' := 5) (L' := [(.ref (0)), (zq_vi (x1)), zz_no]) (st' := [(zq_vi (x1)), (.ref (b_2))]) (fun _ _ _ => rfl) ?_
  refine zq_call_r (i := .invokevirtual 135) (r := [1, 33, 1, 1, 8]) rfl rfl (fun h hp => zr_avv rfl (hp.obj (zq_fcls hR_1 (k := 8) (j := 8) (cj := 8) zq_a0 rfl rfl hb_3))) (of_decide_eq_false rfl) w (fun s_4 w => ?_) (fun b_6 s_4 hb_7 w => ?_)
  · replace w := w.1 rfl
    refine zq_run 3 (pc' := 13) (L' := [(.ref (0)), (zq_vi (x1)), .null]) (st' := []) (fun _ _ _ => rfl) ?_
    exact zq_throw rfl rfl (of_decide_eq_true rfl) w.1 (zq_thr w.2)
  · replace w := w.2 b_6 rfl
    refine zq_run 4 (pc' := 22) (L' := [(.ref (0)), (zq_vi (x1)), (.ref (b_6))]) (st' := [(.ref (b_6))]) (fun _ _ _ => rfl) ?_
    refine zq_call_v (i := .invokevirtual 155) (r := [1, 82, 0, 1, 7]) rfl rfl (fun h hp => zr_avv rfl (hp.obj hb_7)) (of_decide_eq_false rfl) w (fun s_8 w => ?_)
    refine zq_run 1 (pc' := 26) (L' := [(.ref (0)), (zq_vi (x1)), (.ref (b_6))]) (st' := [(.ref (0))]) (fun _ _ _ => rfl) ?_
    refine zq_getf_f (b := 3) rfl zq_a0 rfl rfl ?_
    refine zq_call_v (i := .invokevirtual 134) (r := [1, 71, 0, 1, 2]) rfl rfl (fun h hp => zr_avv rfl (hp.obj zq_a3)) (of_decide_eq_false rfl) w (fun s_9 w => ?_)
    exact zq_vret rfl rfl (Or.inl ⟨rfl, w⟩)
/-- PaperObjects$Slot.release()V -/
theorem zw_82 {X : Nat × (Nat → Int32)} {s : zq_S} {K : zq_S → Prop} {a0 : Nat} (ha0 : zq_o 7 a0) (w : (zq_Ex X 83 0 [(.ref (a0))] [] s (zq_rp zq_iv fun x_2 s_1 => K (zq_si (zq_si (zq_si (zq_si s_1 (a0) (3) (x_2)) (a0) (0) (0)) (a0) (1) (1)) (a0) (2) (0))))) : zq_Ex X 82 0 [(.ref (a0))] [] s (zq_rv K) := by
  refine zq_run 2 (pc' := 2) (L' := [(.ref (a0))]) (st' := [(.ref (a0)), (.ref (a0))]) (fun _ _ _ => rfl) ?_
  refine zq_call_i (i := .invokevirtual 60) (r := [1, 83, 0, 1, 7]) rfl rfl (fun h hp => zr_avv rfl (hp.obj ha0)) (of_decide_eq_false rfl) w (fun x_2 s_1 hx_3 w => ?_)
  refine zq_putf_i (j := 3) rfl ha0 rfl rfl rfl hx_3 ?_
  refine zq_run 2 (pc' := 10) (L' := [(.ref (a0))]) (st' := [(zq_vi (0)), (.ref (a0))]) (fun _ _ _ => rfl) ?_
  refine zq_putf_b (j := 0) rfl ha0 rfl rfl rfl (of_decide_eq_true rfl) ?_
  refine zq_run 2 (pc' := 15) (L' := [(.ref (a0))]) (st' := [(zq_vi (1)), (.ref (a0))]) (fun _ _ _ => rfl) ?_
  refine zq_putf_b (j := 1) rfl ha0 rfl rfl rfl (of_decide_eq_true rfl) ?_
  refine zq_run 2 (pc' := 20) (L' := [(.ref (a0))]) (st' := [(zq_vi (0)), (.ref (a0))]) (fun _ _ _ => rfl) ?_
  refine zq_putf_b (j := 2) rfl ha0 rfl rfl rfl (of_decide_eq_true rfl) ?_
  exact zq_vret rfl rfl (⟨rfl, w⟩)
/-- PaperObjects$Slot.nextGeneration()I -/
theorem zw_83 {X : Nat × (Nat → Int32)} {s : zq_S} {K : Int → zq_S → Prop} {a0 : Nat} (ha0 : zq_o 7 a0) (w : (zq_Ex X 84 0 [(zq_vi ((zq_i s (a0) (3)) + 1)), (zq_vi (9))] [] s (zq_rp zq_iv fun x_3 s_2 => K (x_3) s_2))) : zq_Ex X 83 0 [(.ref (a0))] [] s (zq_rp zq_iv K) := by
  refine zq_run 1 (pc' := 1) (L' := [(.ref (a0))]) (st' := [(.ref (a0))]) (fun _ _ _ => rfl) ?_
  refine zq_have (fun hR_1 => ?_)
  refine zq_getf_i (j := 3) (v := zq_i s (a0) (3)) rfl ha0 rfl rfl rfl ?_
  refine zq_run 1 (pc' := 5) (L' := [(.ref (a0))]) (st' := [(zq_vi (1)), (zq_vi (zq_i s (a0) (3)))]) (fun _ _ _ => rfl) ?_
  refine zq_iadd rfl ?_
  refine zq_run 1 (pc' := 8) (L' := [(.ref (a0))]) (st' := [(zq_vi (9)), (zq_vi ((zq_i s (a0) (3)) + 1))]) (fun _ _ _ => rfl) ?_
  refine zq_call_i (i := .invokestatic 54) (r := [1, 84, 2, 0, 0]) rfl rfl (fun _ _ => rfl) (of_decide_eq_false rfl) w (fun x_3 s_2 hx_4 w => ?_)
  exact zq_iret rfl rfl rfl (⟨_, rfl, hx_4, w⟩)
/-- java/lang/Math.min(II)I -/
theorem zw_84 {X : Nat × (Nat → Int32)} {s : zq_S} {K : Int → zq_S → Prop} {x0 : Int} (hx0 : zq_iv x0) {x1 : Int} (hx1 : zq_iv x1) (w : (if x0 ≤ x1 then K (x0) s else K (x1) s)) : zq_Ex X 84 0 [(zq_vi (x0)), (zq_vi (x1))] [] s (zq_rp zq_iv K) := by
  refine zq_run 2 (pc' := 2) (L' := [(zq_vi (x0)), (zq_vi (x1))]) (st' := [(zq_vi (x1)), (zq_vi (x0))]) (fun _ _ _ => rfl) ?_
  refine zq_gt rfl hx0 hx1 (fun hb_1 => ?_) (fun hb_1 => ?_)
  · rw [if_neg hb_1] at w
    refine zq_run 1 (pc' := 10) (L' := [(zq_vi (x0)), (zq_vi (x1))]) (st' := [(zq_vi (x1))]) (fun _ _ _ => rfl) ?_
    exact zq_iret rfl rfl rfl (⟨_, rfl, hx1, w⟩)
  · rw [if_pos hb_1] at w
    refine zq_run 2 (pc' := 10) (L' := [(zq_vi (x0)), (zq_vi (x1))]) (st' := [(zq_vi (x0))]) (fun _ _ _ => rfl) ?_
    exact zq_iret rfl rfl rfl (⟨_, rfl, hx0, w⟩)
/-- PaperObjects.root(I)V -/
theorem zw_85 {X : Nat × (Nat → Int32)} {s : zq_S} {K : zq_S → Prop} {T : Nat → zq_S → Prop} {x1 : Int} (hx1 : zq_iv x1) (w : (∃ b_2 : Nat, zq_r s (0) 8 = some b_2 ∧ (zq_Ex X 33 0 [(.ref (b_2)), (zq_vi (x1)), zz_no] [] s (zq_rr 7 fun o_5 s_4 => ((o_5 = none → (zq_n s_4 < 1000 ∧ T 13 (zq_sx s_4 13))) ∧ (∀ b_6 : Nat, o_5 = some b_6 → (∃ b_9 : Nat, zq_r s_4 (0) 8 = some b_9 ∧ K (zq_si (zq_si s_4 (b_9) (2) (x1)) (b_9) (3) (zq_i (zq_si s_4 (b_9) (2) (x1)) (b_6) (3)))))))))) : zq_Ex X 85 0 [(.ref (0)), (zq_vi (x1)), zz_no] [] s (zq_rx (zq_rv K) T) := by
  refine zq_run 1 (pc' := 1) (L' := [(.ref (0)), (zq_vi (x1)), zz_no]) (st' := [(.ref (0))]) (fun _ _ _ => rfl) ?_
  refine zq_have (fun hR_1 => ?_)
  obtain ⟨b_2, hb_3, w⟩ := w
  refine zq_getf_rs (j := 8) rfl zq_a0 rfl rfl hb_3 ?_
  refine zq_run 1 (pc' := 5) (L' := [(.ref (0)), (zq_vi (x1)), zz_no]) (st' := [(zq_vi (x1)), (.ref (b_2))]) (fun _ _ _ => rfl) ?_
  refine zq_call_r (i := .invokevirtual 135) (r := [1, 33, 1, 1, 8]) rfl rfl (fun h hp => zr_avv rfl (hp.obj (zq_fcls hR_1 (k := 8) (j := 8) (cj := 8) zq_a0 rfl rfl hb_3))) (of_decide_eq_false rfl) w (fun s_4 w => ?_) (fun b_6 s_4 hb_7 w => ?_)
  · replace w := w.1 rfl
    refine zq_run 3 (pc' := 13) (L' := [(.ref (0)), (zq_vi (x1)), .null]) (st' := []) (fun _ _ _ => rfl) ?_
    exact zq_throw rfl rfl (of_decide_eq_true rfl) w.1 (zq_thr w.2)
  · replace w := w.2 b_6 rfl
    refine zq_run 4 (pc' := 22) (L' := [(.ref (0)), (zq_vi (x1)), (.ref (b_6))]) (st' := [(.ref (0))]) (fun _ _ _ => rfl) ?_
    refine zq_have (fun hR_8 => ?_)
    obtain ⟨b_9, hb_10, w⟩ := w
    refine zq_getf_rs (j := 8) rfl zq_a0 rfl rfl hb_10 ?_
    refine zq_run 1 (pc' := 26) (L' := [(.ref (0)), (zq_vi (x1)), (.ref (b_6))]) (st' := [(zq_vi (x1)), (.ref (b_9))]) (fun _ _ _ => rfl) ?_
    refine zq_putf_i (j := 2) rfl (zq_fcls hR_8 (k := 8) (j := 8) (cj := 8) zq_a0 rfl rfl hb_10) rfl rfl rfl hx1 ?_
    refine zq_run 1 (pc' := 30) (L' := [(.ref (0)), (zq_vi (x1)), (.ref (b_6))]) (st' := [(.ref (0))]) (fun _ _ _ => rfl) ?_
    refine zq_getf_rs (j := 8) (b := b_9) rfl zq_a0 rfl rfl hb_10 ?_
    refine zq_run 1 (pc' := 34) (L' := [(.ref (0)), (zq_vi (x1)), (.ref (b_6))]) (st' := [(.ref (b_6)), (.ref (b_9))]) (fun _ _ _ => rfl) ?_
    refine zq_have (fun hR_11 => ?_)
    refine zq_getf_i (j := 3) (v := zq_i (zq_si s_4 (b_9) (2) (x1)) (b_6) (3)) rfl hb_7 rfl rfl rfl ?_
    refine zq_putf_i (j := 3) rfl (zq_fcls hR_8 (k := 8) (j := 8) (cj := 8) zq_a0 rfl rfl hb_10) rfl rfl rfl (hR_11.1 _ _) ?_
    exact zq_vret rfl rfl (Or.inl ⟨rfl, w⟩)
