/-! weakest preconditions of methods 10-38: printed by program (genW.py) -/
/-- PaperObjects$Tree.add(IIJ)I -/
theorem zw_10 {X : Nat × (Nat → Int32)} {s : zq_S} {K : Int → zq_S → Prop} {a0 : Nat} (ha0 : zq_o 4 a0) {x1 : Int} (hx1 : zq_iv x1) {x2 : Int} (hx2 : zq_iv x2) {y3 : Int64} (w : (((0 : Int) ≤ zq_i s (a0) (0) ∧ zq_i s (a0) (0) < (12 : Int)) ∧ (((0 : Int) ≤ zq_i s (a0) (0) ∧ zq_i s (a0) (0) < (12 : Int)) ∧ (((0 : Int) ≤ zq_i s (a0) (0) ∧ zq_i s (a0) (0) < (12 : Int)) ∧ (((0 : Int) ≤ zq_i s (a0) (0) ∧ zq_i s (a0) (0) < (12 : Int)) ∧ (((0 : Int) ≤ zq_i s (a0) (0) ∧ zq_i s (a0) (0) < (12 : Int)) ∧ (zq_iv ((zq_i s (a0) (0)) + 1) ∧ K (zq_i s (a0) (0)) (zq_si (zq_sl (zq_si (zq_si (zq_si (zq_si s (a0 + 1) (zq_i s (a0) (0)) (x1)) (a0 + 2) (zq_i s (a0) (0)) (x2)) (a0 + 3) (zq_i s (a0) (0)) (0)) (a0 + 4) (zq_i s (a0) (0)) (0)) (a0 + 5) (zq_i s (a0) (0)) (y3)) (a0) (0) ((zq_i s (a0) (0)) + 1))))))))) : zq_Ex X 10 0 [(.ref (a0)), (zq_vi (x1)), (zq_vi (x2)), (.long (y3)), zz_no, zz_no] [] s (zq_rp zq_iv K) := by
  refine zq_run 1 (pc' := 1) (L' := [(.ref (a0)), (zq_vi (x1)), (zq_vi (x2)), (.long (y3)), zz_no, zz_no]) (st' := [(.ref (a0))]) (fun _ _ _ => rfl) ?_
  refine zq_have (fun hR_1 => ?_)
  refine zq_getf_i (j := 0) (v := zq_i s (a0) (0)) rfl ha0 rfl rfl rfl ?_
  refine zq_run 2 (pc' := 7) (L' := [(.ref (a0)), (zq_vi (x1)), (zq_vi (x2)), (.long (y3)), zz_no, (zq_vi (zq_i s (a0) (0)))]) (st' := [(.ref (a0))]) (fun _ _ _ => rfl) ?_
  refine zq_getf_f (b := a0 + 1) rfl ha0 rfl rfl ?_
  refine zq_run 2 (pc' := 13) (L' := [(.ref (a0)), (zq_vi (x1)), (zq_vi (x2)), (.long (y3)), zz_no, (zq_vi (zq_i s (a0) (0)))]) (st' := [(zq_vi (x1)), (zq_vi (zq_i s (a0) (0))), (.ref (a0 + 1))]) (fun _ _ _ => rfl) ?_
  obtain ⟨g_2, w⟩ := w
  refine zq_ast_i rfl (zq_L4 ha0).1 g_2.1 g_2.2 hx1 ?_
  refine zq_run 1 (pc' := 15) (L' := [(.ref (a0)), (zq_vi (x1)), (zq_vi (x2)), (.long (y3)), zz_no, (zq_vi (zq_i s (a0) (0)))]) (st' := [(.ref (a0))]) (fun _ _ _ => rfl) ?_
  refine zq_getf_f (b := a0 + 2) rfl ha0 rfl rfl ?_
  refine zq_run 2 (pc' := 21) (L' := [(.ref (a0)), (zq_vi (x1)), (zq_vi (x2)), (.long (y3)), zz_no, (zq_vi (zq_i s (a0) (0)))]) (st' := [(zq_vi (x2)), (zq_vi (zq_i s (a0) (0))), (.ref (a0 + 2))]) (fun _ _ _ => rfl) ?_
  obtain ⟨g_3, w⟩ := w
  refine zq_ast_i rfl (zq_L4 ha0).2.1 g_3.1 g_3.2 hx2 ?_
  refine zq_run 1 (pc' := 23) (L' := [(.ref (a0)), (zq_vi (x1)), (zq_vi (x2)), (.long (y3)), zz_no, (zq_vi (zq_i s (a0) (0)))]) (st' := [(.ref (a0))]) (fun _ _ _ => rfl) ?_
  refine zq_getf_f (b := a0 + 3) rfl ha0 rfl rfl ?_
  refine zq_run 2 (pc' := 29) (L' := [(.ref (a0)), (zq_vi (x1)), (zq_vi (x2)), (.long (y3)), zz_no, (zq_vi (zq_i s (a0) (0)))]) (st' := [(zq_vi (0)), (zq_vi (zq_i s (a0) (0))), (.ref (a0 + 3))]) (fun _ _ _ => rfl) ?_
  obtain ⟨g_4, w⟩ := w
  refine zq_ast_i rfl (zq_L4 ha0).2.2.1 g_4.1 g_4.2 (of_decide_eq_true rfl) ?_
  refine zq_run 1 (pc' := 31) (L' := [(.ref (a0)), (zq_vi (x1)), (zq_vi (x2)), (.long (y3)), zz_no, (zq_vi (zq_i s (a0) (0)))]) (st' := [(.ref (a0))]) (fun _ _ _ => rfl) ?_
  refine zq_getf_f (b := a0 + 4) rfl ha0 rfl rfl ?_
  refine zq_run 2 (pc' := 37) (L' := [(.ref (a0)), (zq_vi (x1)), (zq_vi (x2)), (.long (y3)), zz_no, (zq_vi (zq_i s (a0) (0)))]) (st' := [(zq_vi (0)), (zq_vi (zq_i s (a0) (0))), (.ref (a0 + 4))]) (fun _ _ _ => rfl) ?_
  obtain ⟨g_5, w⟩ := w
  refine zq_ast_i rfl (zq_L4 ha0).2.2.2.1 g_5.1 g_5.2 (of_decide_eq_true rfl) ?_
  refine zq_run 1 (pc' := 39) (L' := [(.ref (a0)), (zq_vi (x1)), (zq_vi (x2)), (.long (y3)), zz_no, (zq_vi (zq_i s (a0) (0)))]) (st' := [(.ref (a0))]) (fun _ _ _ => rfl) ?_
  refine zq_getf_f (b := a0 + 5) rfl ha0 rfl rfl ?_
  refine zq_run 2 (pc' := 45) (L' := [(.ref (a0)), (zq_vi (x1)), (zq_vi (x2)), (.long (y3)), zz_no, (zq_vi (zq_i s (a0) (0)))]) (st' := [(.long (y3)), (zq_vi (zq_i s (a0) (0))), (.ref (a0 + 5))]) (fun _ _ _ => rfl) ?_
  obtain ⟨g_6, w⟩ := w
  refine zq_ast_l rfl (zq_L4 ha0).2.2.2.2.1 g_6.1 g_6.2  ?_
  refine zq_run 2 (pc' := 48) (L' := [(.ref (a0)), (zq_vi (x1)), (zq_vi (x2)), (.long (y3)), zz_no, (zq_vi (zq_i s (a0) (0)))]) (st' := [(.ref (a0)), (.ref (a0))]) (fun _ _ _ => rfl) ?_
  have e_7 : zq_i (zq_sl (zq_si (zq_si (zq_si (zq_si s (a0 + 1) (zq_i s (a0) (0)) (x1)) (a0 + 2) (zq_i s (a0) (0)) (x2)) (a0 + 3) (zq_i s (a0) (0)) (0)) (a0 + 4) (zq_i s (a0) (0)) (0)) (a0 + 5) (zq_i s (a0) (0)) (y3)) (a0) (0) = zq_i s (a0) (0) := by simp [zq_i_si, zq_i_sr, zq_i_sl]
  refine zq_getf_i (j := 0) (v := zq_i s (a0) (0)) rfl ha0 rfl rfl e_7 ?_
  refine zq_run 1 (pc' := 52) (L' := [(.ref (a0)), (zq_vi (x1)), (zq_vi (x2)), (.long (y3)), zz_no, (zq_vi (zq_i s (a0) (0)))]) (st' := [(zq_vi (1)), (zq_vi (zq_i s (a0) (0))), (.ref (a0))]) (fun _ _ _ => rfl) ?_
  refine zq_iadd rfl ?_
  obtain ⟨g_8, w⟩ := w
  refine zq_putf_i (j := 0) rfl ha0 rfl rfl rfl g_8 ?_
  refine zq_run 1 (pc' := 58) (L' := [(.ref (a0)), (zq_vi (x1)), (zq_vi (x2)), (.long (y3)), zz_no, (zq_vi (zq_i s (a0) (0)))]) (st' := [(zq_vi (zq_i s (a0) (0)))]) (fun _ _ _ => rfl) ?_
  exact zq_iret rfl rfl rfl (⟨_, rfl, (hR_1.1 _ _), w⟩)
/-- PaperObjects.at()I -/
theorem zw_11 {X : Nat × (Nat → Int32)} {s : zq_S} {K : Int → zq_S → Prop}  (w : K (zq_i s (0) (11)) s) : zq_Ex X 11 0 [(.ref (0))] [] s (zq_rp zq_iv K) := by
  refine zq_run 1 (pc' := 1) (L' := [(.ref (0))]) (st' := [(.ref (0))]) (fun _ _ _ => rfl) ?_
  refine zq_have (fun hR_1 => ?_)
  refine zq_getf_i (j := 11) (v := zq_i s (0) (11)) rfl zq_a0 rfl rfl rfl ?_
  exact zq_iret rfl rfl rfl (⟨_, rfl, (hR_1.1 _ _), w⟩)
/-- PaperObjects.fault()I -/
theorem zw_12 {X : Nat × (Nat → Int32)} {s : zq_S} {K : Int → zq_S → Prop}  (w : K (zq_i s (0) (12)) s) : zq_Ex X 12 0 [(.ref (0))] [] s (zq_rp zq_iv K) := by
  refine zq_run 1 (pc' := 1) (L' := [(.ref (0))]) (st' := [(.ref (0))]) (fun _ _ _ => rfl) ?_
  refine zq_have (fun hR_1 => ?_)
  refine zq_getf_i (j := 12) (v := zq_i s (0) (12)) rfl zq_a0 rfl rfl rfl ?_
  exact zq_iret rfl rfl rfl (⟨_, rfl, (hR_1.1 _ _), w⟩)
/-- PaperObjects.size()I -/
theorem zw_13 {X : Nat × (Nat → Int32)} {s : zq_S} {K : Int → zq_S → Prop}  (w : (∃ b_2 : Nat, zq_r s (0) 6 = some b_2 ∧ K (zq_i s (b_2) (1)) s)) : zq_Ex X 13 0 [(.ref (0))] [] s (zq_rp zq_iv K) := by
  refine zq_run 1 (pc' := 1) (L' := [(.ref (0))]) (st' := [(.ref (0))]) (fun _ _ _ => rfl) ?_
  refine zq_have (fun hR_1 => ?_)
  obtain ⟨b_2, hb_3, w⟩ := w
  refine zq_getf_rs (j := 6) rfl zq_a0 rfl rfl hb_3 ?_
  refine zq_getf_i (j := 1) (v := zq_i s (b_2) (1)) rfl (zq_fcls hR_1 (k := 6) (j := 6) (cj := 1) zq_a0 rfl rfl hb_3) rfl rfl rfl ?_
  exact zq_iret rfl rfl rfl (⟨_, rfl, (hR_1.1 _ _), w⟩)
/-- PaperObjects.printed(I)I -/
theorem zw_14 {X : Nat × (Nat → Int32)} {s : zq_S} {K : Int → zq_S → Prop} {x1 : Int} (hx1 : zq_iv x1) (w : ((zq_r s (3) 0 = none → K ((-1)) s) ∧ (∀ b_2 : Nat, zq_r s (3) 0 = some b_2 → (∃ b_4 : Nat, zq_r s (0) 7 = some b_4 ∧ (zq_Ex X 15 0 [(.ref (b_4))] [] s (zq_rv fun s_6 => ((zq_r s_6 (3) 0 = none → (∃ b_10 : Nat, zq_r s_6 (0) 7 = some b_10 ∧ False)) ∧ (∀ b_8 : Nat, zq_r s_6 (3) 0 = some b_8 → (∃ b_12 : Nat, zq_r s_6 (0) 7 = some b_12 ∧ (zq_Ex X 16 0 [(.ref (b_8)), (zq_vi (zq_i s_6 (3) (1))), (.ref (b_12)), zz_no, zz_no, zz_no] [] s_6 (zq_rv fun s_14 => (∃ b_16 : Nat, zq_r s_14 (0) 7 = some b_16 ∧ (zq_Ex X 29 0 [(.ref (b_16)), (zq_vi (x1))] [] s_14 (zq_rp zq_iv fun x_19 s_18 => K (x_19) s_18)))))))))))))) : zq_Ex X 14 0 [(.ref (0)), (zq_vi (x1))] [] s (zq_rp zq_iv K) := by
  refine zq_run 1 (pc' := 1) (L' := [(.ref (0)), (zq_vi (x1))]) (st' := [(.ref (0))]) (fun _ _ _ => rfl) ?_
  refine zq_getf_f (b := 3) rfl zq_a0 rfl rfl ?_
  refine zq_have (fun hR_1 => ?_)
  refine zq_getf_r2 (j := 0) rfl zq_a3 rfl rfl (fun hb_3 => ?_) (fun b_2 hb_3 => ?_)
  · replace w := w.1 hb_3
    refine zq_run 2 (pc' := 11) (L' := [(.ref (0)), (zq_vi (x1))]) (st' := [(zq_vi ((-1)))]) (fun _ _ _ => rfl) ?_
    exact zq_iret rfl rfl rfl (⟨_, rfl, (of_decide_eq_true rfl), w⟩)
  · replace w := w.2 b_2 hb_3
    refine zq_run 2 (pc' := 13) (L' := [(.ref (0)), (zq_vi (x1))]) (st' := [(.ref (0))]) (fun _ _ _ => rfl) ?_
    obtain ⟨b_4, hb_5, w⟩ := w
    refine zq_getf_rs (j := 7) rfl zq_a0 rfl rfl hb_5 ?_
    refine zq_call_v (i := .invokevirtual 124) (r := [1, 15, 0, 1, 1]) rfl rfl (fun h hp => zr_avv rfl (hp.obj (zq_fcls hR_1 (k := 7) (j := 7) (cj := 1) zq_a0 rfl rfl hb_5))) (of_decide_eq_false rfl) w (fun s_6 w => ?_)
    refine zq_run 1 (pc' := 20) (L' := [(.ref (0)), (zq_vi (x1))]) (st' := [(.ref (0))]) (fun _ _ _ => rfl) ?_
    refine zq_getf_f (b := 3) rfl zq_a0 rfl rfl ?_
    refine zq_have (fun hR_7 => ?_)
    refine zq_getf_r2 (j := 0) rfl zq_a3 rfl rfl (fun hb_9 => ?_) (fun b_8 hb_9 => ?_)
    · replace w := w.1 hb_9
      refine zq_run 1 (pc' := 27) (L' := [(.ref (0)), (zq_vi (x1))]) (st' := [(.ref (0)), .null]) (fun _ _ _ => rfl) ?_
      refine zq_getf_f (b := 3) rfl zq_a0 rfl rfl ?_
      refine zq_getf_i (j := 1) (v := zq_i s_6 (3) (1)) rfl zq_a3 rfl rfl rfl ?_
      refine zq_run 1 (pc' := 34) (L' := [(.ref (0)), (zq_vi (x1))]) (st' := [(.ref (0)), (zq_vi (zq_i s_6 (3) (1))), .null]) (fun _ _ _ => rfl) ?_
      obtain ⟨b_10, hb_11, w⟩ := w
      refine zq_getf_rs (j := 7) rfl zq_a0 rfl rfl hb_11 ?_
      exact w.elim
    · replace w := w.2 b_8 hb_9
      refine zq_run 1 (pc' := 27) (L' := [(.ref (0)), (zq_vi (x1))]) (st' := [(.ref (0)), (.ref (b_8))]) (fun _ _ _ => rfl) ?_
      refine zq_getf_f (b := 3) rfl zq_a0 rfl rfl ?_
      refine zq_getf_i (j := 1) (v := zq_i s_6 (3) (1)) rfl zq_a3 rfl rfl rfl ?_
      refine zq_run 1 (pc' := 34) (L' := [(.ref (0)), (zq_vi (x1))]) (st' := [(.ref (0)), (zq_vi (zq_i s_6 (3) (1))), (.ref (b_8))]) (fun _ _ _ => rfl) ?_
      obtain ⟨b_12, hb_13, w⟩ := w
      refine zq_getf_rs (j := 7) rfl zq_a0 rfl rfl hb_13 ?_
      refine zq_call_v (i := .invokevirtual 273) (r := [1, 16, 2, 1, 4]) rfl rfl (fun h hp => zr_avv rfl (hp.obj (zq_fcls hR_7 (k := 0) (j := 0) (cj := 4) zq_a3 rfl rfl hb_9))) (of_decide_eq_false rfl) w (fun s_14 w => ?_)
      refine zq_run 1 (pc' := 41) (L' := [(.ref (0)), (zq_vi (x1))]) (st' := [(.ref (0))]) (fun _ _ _ => rfl) ?_
      refine zq_have (fun hR_15 => ?_)
      obtain ⟨b_16, hb_17, w⟩ := w
      refine zq_getf_rs (j := 7) rfl zq_a0 rfl rfl hb_17 ?_
      refine zq_run 1 (pc' := 45) (L' := [(.ref (0)), (zq_vi (x1))]) (st' := [(zq_vi (x1)), (.ref (b_16))]) (fun _ _ _ => rfl) ?_
      refine zq_call_i (i := .invokevirtual 234) (r := [1, 29, 1, 1, 1]) rfl rfl (fun h hp => zr_avv rfl (hp.obj (zq_fcls hR_15 (k := 7) (j := 7) (cj := 1) zq_a0 rfl rfl hb_17))) (of_decide_eq_false rfl) w (fun x_19 s_18 hx_20 w => ?_)
      exact zq_iret rfl rfl rfl (⟨_, rfl, hx_20, w⟩)
/-- PaperObjects$Text.clear()V -/
theorem zw_15 {X : Nat × (Nat → Int32)} {s : zq_S} {K : zq_S → Prop} {a0 : Nat} (ha0 : zq_o 1 a0) (w : K (zq_si (zq_si s (a0) (1) (0)) (a0) (2) (0))) : zq_Ex X 15 0 [(.ref (a0))] [] s (zq_rv K) := by
  refine zq_run 2 (pc' := 2) (L' := [(.ref (a0))]) (st' := [(zq_vi (0)), (.ref (a0))]) (fun _ _ _ => rfl) ?_
  refine zq_putf_i (j := 1) rfl ha0 rfl rfl rfl (of_decide_eq_true rfl) ?_
  refine zq_run 2 (pc' := 7) (L' := [(.ref (a0))]) (st' := [(zq_vi (0)), (.ref (a0))]) (fun _ _ _ => rfl) ?_
  refine zq_putf_b (j := 2) rfl ha0 rfl rfl rfl (of_decide_eq_true rfl) ?_
  exact zq_vret rfl rfl (⟨rfl, w⟩)
/-- PaperObjects$Tree.print(ILPaperObjects$Text;)V -/
theorem zw_16 {X : Nat × (Nat → Int32)} {s : zq_S} {K : zq_S → Prop} {a0 : Nat} (ha0 : zq_o 4 a0) {x1 : Int} (hx1 : zq_iv x1) {a2 : Nat} (ha2 : zq_o 1 a2) (w : (zq_Ex X 17 0 [(.ref (a0)), (zq_vi (x1)), zz_no] [] s (zq_rp zq_iv fun x_2 s_1 => zq_Ex X 16 9 [(.ref (a0)), (zq_vi (x1)), (.ref (a2)), (zq_vi (x_2)), (zq_vi (x1)), zz_no] [] s_1 (zq_rv K)))) : zq_Ex X 16 0 [(.ref (a0)), (zq_vi (x1)), (.ref (a2)), zz_no, zz_no, zz_no] [] s (zq_rv K) := by
  refine zq_run 2 (pc' := 2) (L' := [(.ref (a0)), (zq_vi (x1)), (.ref (a2)), zz_no, zz_no, zz_no]) (st' := [(zq_vi (x1)), (.ref (a0))]) (fun _ _ _ => rfl) ?_
  refine zq_call_i (i := .invokevirtual 40) (r := [1, 17, 1, 1, 4]) rfl rfl (fun h hp => zr_avv rfl (hp.obj ha0)) (of_decide_eq_false rfl) w (fun x_2 s_1 hx_3 w => ?_)
  refine zq_run 3 (pc' := 9) (L' := [(.ref (a0)), (zq_vi (x1)), (.ref (a2)), (zq_vi (x_2)), (zq_vi (x1)), zz_no]) (st' := []) (fun _ _ _ => rfl) ?_
  exact w
/-- PaperObjects$Tree.print at 9 -/
theorem zw_16_9 {X : Nat × (Nat → Int32)} {s : zq_S} {K : zq_S → Prop} {a0 : Nat} (ha0 : zq_o 4 a0) {x1 : Int} (hx1 : zq_iv x1) {a2 : Nat} (ha2 : zq_o 1 a2) {x3 : Int} (hx3 : zq_iv x3) {x4 : Int} (hx4 : zq_iv x4) {v5 : Value} (hv5 : v5.category = 1) (w : (if x4 < x3 then (if x4 ≤ x1 then (zq_Ex X 22 0 [(.ref (a0)), (zq_vi (x4)), (.ref (a2))] [] s (zq_rv fun s_3 => zq_Ex X 16 39 [(.ref (a0)), (zq_vi (x1)), (.ref (a2)), (zq_vi (x3)), (zq_vi (x4)), (zq_vi (x4))] [] s_3 (zq_rv K))) else (zq_Ex X 18 0 [(.ref (a0)), (zq_vi (x4)), (.ref (a2)), zz_no] [] s (zq_rv fun s_4 => (zq_Ex X 22 0 [(.ref (a0)), (zq_vi (x4)), (.ref (a2))] [] s_4 (zq_rv fun s_5 => zq_Ex X 16 39 [(.ref (a0)), (zq_vi (x1)), (.ref (a2)), (zq_vi (x3)), (zq_vi (x4)), (zq_vi (x4))] [] s_5 (zq_rv K)))))) else K s)) : zq_Ex X 16 9 [(.ref (a0)), (zq_vi (x1)), (.ref (a2)), (zq_vi (x3)), (zq_vi (x4)), v5] [] s (zq_rv K) := by
  refine zq_run 2 (pc' := 12) (L' := [(.ref (a0)), (zq_vi (x1)), (.ref (a2)), (zq_vi (x3)), (zq_vi (x4)), v5]) (st' := [(zq_vi (x3)), (zq_vi (x4))]) (fun _ _ _ => rfl) ?_
  refine zq_ge rfl hx4 hx3 (fun hb_1 => ?_) (fun hb_1 => ?_)
  · rw [if_neg hb_1] at w
    exact zq_vret rfl rfl (⟨rfl, w⟩)
  · rw [if_pos hb_1] at w
    refine zq_run 2 (pc' := 18) (L' := [(.ref (a0)), (zq_vi (x1)), (.ref (a2)), (zq_vi (x3)), (zq_vi (x4)), v5]) (st' := [(zq_vi (x1)), (zq_vi (x4))]) (fun _ _ _ => rfl) ?_
    refine zq_le rfl hx4 hx1 (fun hb_2 => ?_) (fun hb_2 => ?_)
    · rw [if_pos hb_2] at w
      refine zq_run 3 (pc' := 32) (L' := [(.ref (a0)), (zq_vi (x1)), (.ref (a2)), (zq_vi (x3)), (zq_vi (x4)), v5]) (st' := [(.ref (a2)), (zq_vi (x4)), (.ref (a0))]) (fun _ _ _ => rfl) ?_
      refine zq_call_v (i := .invokevirtual 81) (r := [1, 22, 2, 1, 4]) rfl rfl (fun h hp => zr_avv rfl (hp.obj ha0)) (of_decide_eq_false rfl) w (fun s_3 w => ?_)
      refine zq_run 2 (pc' := 39) (L' := [(.ref (a0)), (zq_vi (x1)), (.ref (a2)), (zq_vi (x3)), (zq_vi (x4)), (zq_vi (x4))]) (st' := []) (fun _ _ _ => rfl) ?_
      exact w
    · rw [if_neg hb_2] at w
      refine zq_run 3 (pc' := 25) (L' := [(.ref (a0)), (zq_vi (x1)), (.ref (a2)), (zq_vi (x3)), (zq_vi (x4)), v5]) (st' := [(.ref (a2)), (zq_vi (x4)), (.ref (a0))]) (fun _ _ _ => rfl) ?_
      refine zq_call_v (i := .invokevirtual 77) (r := [1, 18, 2, 1, 4]) rfl rfl (fun h hp => zr_avv rfl (hp.obj ha0)) (of_decide_eq_false rfl) w (fun s_4 w => ?_)
      refine zq_run 3 (pc' := 32) (L' := [(.ref (a0)), (zq_vi (x1)), (.ref (a2)), (zq_vi (x3)), (zq_vi (x4)), v5]) (st' := [(.ref (a2)), (zq_vi (x4)), (.ref (a0))]) (fun _ _ _ => rfl) ?_
      refine zq_call_v (i := .invokevirtual 81) (r := [1, 22, 2, 1, 4]) rfl rfl (fun h hp => zr_avv rfl (hp.obj ha0)) (of_decide_eq_false rfl) w (fun s_5 w => ?_)
      refine zq_run 2 (pc' := 39) (L' := [(.ref (a0)), (zq_vi (x1)), (.ref (a2)), (zq_vi (x3)), (zq_vi (x4)), (zq_vi (x4))]) (st' := []) (fun _ _ _ => rfl) ?_
      exact w
/-- PaperObjects$Tree.print at 39 -/
theorem zw_16_39 {X : Nat × (Nat → Int32)} {s : zq_S} {K : zq_S → Prop} {a0 : Nat} (ha0 : zq_o 4 a0) {x1 : Int} (hx1 : zq_iv x1) {a2 : Nat} (ha2 : zq_o 1 a2) {x3 : Int} (hx3 : zq_iv x3) {x4 : Int} (hx4 : zq_iv x4) {x5 : Int} (hx5 : zq_iv x5) (w : (if x5 < x1 then zq_Ex X 16 9 [(.ref (a0)), (zq_vi (x1)), (.ref (a2)), (zq_vi (x3)), (zq_vi (x4 + 1)), (zq_vi (x5))] [] s (zq_rv K) else (zq_Ex X 17 0 [(.ref (a0)), (zq_vi (x5)), zz_no] [] s (zq_rp zq_iv fun x_3 s_2 => (zq_iv (x4 + 1) ∧ (if x_3 = x4 + 1 then (zq_Ex X 28 0 [(.ref (a0)), (zq_vi (x5)), (.ref (a2))] [] s_2 (zq_rv fun s_7 => zq_Ex X 16 39 [(.ref (a0)), (zq_vi (x1)), (.ref (a2)), (zq_vi (x3)), (zq_vi (x4)), (zq_vi (x5 + (-1)))] [] s_7 (zq_rv K))) else zq_Ex X 16 39 [(.ref (a0)), (zq_vi (x1)), (.ref (a2)), (zq_vi (x3)), (zq_vi (x4)), (zq_vi (x5 + (-1)))] [] s_2 (zq_rv K))))))) : zq_Ex X 16 39 [(.ref (a0)), (zq_vi (x1)), (.ref (a2)), (zq_vi (x3)), (zq_vi (x4)), (zq_vi (x5))] [] s (zq_rv K) := by
  refine zq_run 2 (pc' := 42) (L' := [(.ref (a0)), (zq_vi (x1)), (.ref (a2)), (zq_vi (x3)), (zq_vi (x4)), (zq_vi (x5))]) (st' := [(zq_vi (x1)), (zq_vi (x5))]) (fun _ _ _ => rfl) ?_
  refine zq_lt rfl hx5 hx1 (fun hb_1 => ?_) (fun hb_1 => ?_)
  · rw [if_pos hb_1] at w
    refine zq_iinc (L' := [(.ref (a0)), (zq_vi (x1)), (.ref (a2)), (zq_vi (x3)), (zq_vi (x4 + 1)), (zq_vi (x5))]) rfl rfl rfl ?_
    refine zq_run 1 (pc' := 9) (L' := [(.ref (a0)), (zq_vi (x1)), (.ref (a2)), (zq_vi (x3)), (zq_vi (x4 + 1)), (zq_vi (x5))]) (st' := []) (fun _ _ _ => rfl) ?_
    exact w
  · rw [if_neg hb_1] at w
    refine zq_run 2 (pc' := 48) (L' := [(.ref (a0)), (zq_vi (x1)), (.ref (a2)), (zq_vi (x3)), (zq_vi (x4)), (zq_vi (x5))]) (st' := [(zq_vi (x5)), (.ref (a0))]) (fun _ _ _ => rfl) ?_
    refine zq_call_i (i := .invokevirtual 40) (r := [1, 17, 1, 1, 4]) rfl rfl (fun h hp => zr_avv rfl (hp.obj ha0)) (of_decide_eq_false rfl) w (fun x_3 s_2 hx_4 w => ?_)
    refine zq_run 2 (pc' := 54) (L' := [(.ref (a0)), (zq_vi (x1)), (.ref (a2)), (zq_vi (x3)), (zq_vi (x4)), (zq_vi (x5))]) (st' := [(zq_vi (1)), (zq_vi (x4)), (zq_vi (x_3))]) (fun _ _ _ => rfl) ?_
    refine zq_iadd rfl ?_
    obtain ⟨g_5, w⟩ := w
    refine zq_ne rfl hx_4 g_5 (fun hb_6 => ?_) (fun hb_6 => ?_)
    · rw [if_neg hb_6] at w
      refine zq_iinc (L' := [(.ref (a0)), (zq_vi (x1)), (.ref (a2)), (zq_vi (x3)), (zq_vi (x4)), (zq_vi (x5 + (-1)))]) rfl rfl rfl ?_
      refine zq_run 1 (pc' := 39) (L' := [(.ref (a0)), (zq_vi (x1)), (.ref (a2)), (zq_vi (x3)), (zq_vi (x4)), (zq_vi (x5 + (-1)))]) (st' := []) (fun _ _ _ => rfl) ?_
      exact w
    · rw [if_pos hb_6] at w
      refine zq_run 3 (pc' := 62) (L' := [(.ref (a0)), (zq_vi (x1)), (.ref (a2)), (zq_vi (x3)), (zq_vi (x4)), (zq_vi (x5))]) (st' := [(.ref (a2)), (zq_vi (x5)), (.ref (a0))]) (fun _ _ _ => rfl) ?_
      refine zq_call_v (i := .invokevirtual 84) (r := [1, 28, 2, 1, 4]) rfl rfl (fun h hp => zr_avv rfl (hp.obj ha0)) (of_decide_eq_false rfl) w (fun s_7 w => ?_)
      refine zq_iinc (L' := [(.ref (a0)), (zq_vi (x1)), (.ref (a2)), (zq_vi (x3)), (zq_vi (x4)), (zq_vi (x5 + (-1)))]) rfl rfl rfl ?_
      refine zq_run 1 (pc' := 39) (L' := [(.ref (a0)), (zq_vi (x1)), (.ref (a2)), (zq_vi (x3)), (zq_vi (x4)), (zq_vi (x5 + (-1)))]) (st' := []) (fun _ _ _ => rfl) ?_
      exact w
/-- PaperObjects$Tree.end(I)I -/
theorem zw_17 {X : Nat × (Nat → Int32)} {s : zq_S} {K : Int → zq_S → Prop} {a0 : Nat} (ha0 : zq_o 4 a0) {x1 : Int} (hx1 : zq_iv x1) (w : zq_Ex X 17 4 [(.ref (a0)), (zq_vi (x1)), (zq_vi (x1 + 1))] [] s (zq_rp zq_iv K)) : zq_Ex X 17 0 [(.ref (a0)), (zq_vi (x1)), zz_no] [] s (zq_rp zq_iv K) := by
  refine zq_run 2 (pc' := 2) (L' := [(.ref (a0)), (zq_vi (x1)), zz_no]) (st' := [(zq_vi (1)), (zq_vi (x1))]) (fun _ _ _ => rfl) ?_
  refine zq_iadd rfl ?_
  refine zq_run 1 (pc' := 4) (L' := [(.ref (a0)), (zq_vi (x1)), (zq_vi (x1 + 1))]) (st' := []) (fun _ _ _ => rfl) ?_
  exact w
/-- PaperObjects$Tree.end at 4 -/
theorem zw_17_4 {X : Nat × (Nat → Int32)} {s : zq_S} {K : Int → zq_S → Prop} {a0 : Nat} (ha0 : zq_o 4 a0) {x1 : Int} (hx1 : zq_iv x1) {x2 : Int} (hx2 : zq_iv x2) (w : (if x2 < zq_i s (a0) (0) then (((0 : Int) ≤ x2 ∧ x2 < (12 : Int)) ∧ (((0 : Int) ≤ x1 ∧ x1 < (12 : Int)) ∧ (if zq_i s (a0 + 2) (x2) ≤ zq_i s (a0 + 2) (x1) then K (x2) s else zq_Ex X 17 4 [(.ref (a0)), (zq_vi (x1)), (zq_vi (x2 + 1))] [] s (zq_rp zq_iv K)))) else K (x2) s)) : zq_Ex X 17 4 [(.ref (a0)), (zq_vi (x1)), (zq_vi (x2))] [] s (zq_rp zq_iv K) := by
  refine zq_run 2 (pc' := 6) (L' := [(.ref (a0)), (zq_vi (x1)), (zq_vi (x2))]) (st' := [(.ref (a0)), (zq_vi (x2))]) (fun _ _ _ => rfl) ?_
  refine zq_have (fun hR_1 => ?_)
  refine zq_getf_i (j := 0) (v := zq_i s (a0) (0)) rfl ha0 rfl rfl rfl ?_
  refine zq_ge rfl hx2 (hR_1.1 _ _) (fun hb_2 => ?_) (fun hb_2 => ?_)
  · rw [if_neg hb_2] at w
    refine zq_run 1 (pc' := 34) (L' := [(.ref (a0)), (zq_vi (x1)), (zq_vi (x2))]) (st' := [(zq_vi (x2))]) (fun _ _ _ => rfl) ?_
    exact zq_iret rfl rfl rfl (⟨_, rfl, hx2, w⟩)
  · rw [if_pos hb_2] at w
    refine zq_run 1 (pc' := 13) (L' := [(.ref (a0)), (zq_vi (x1)), (zq_vi (x2))]) (st' := [(.ref (a0))]) (fun _ _ _ => rfl) ?_
    refine zq_getf_f (b := a0 + 2) rfl ha0 rfl rfl ?_
    refine zq_run 1 (pc' := 17) (L' := [(.ref (a0)), (zq_vi (x1)), (zq_vi (x2))]) (st' := [(zq_vi (x2)), (.ref (a0 + 2))]) (fun _ _ _ => rfl) ?_
    obtain ⟨g_3, w⟩ := w
    refine zq_ald_i (v := zq_i s (a0 + 2) (x2)) rfl (zq_L4 ha0).2.1 g_3.1 g_3.2 rfl ?_
    refine zq_run 1 (pc' := 19) (L' := [(.ref (a0)), (zq_vi (x1)), (zq_vi (x2))]) (st' := [(.ref (a0)), (zq_vi (zq_i s (a0 + 2) (x2)))]) (fun _ _ _ => rfl) ?_
    refine zq_getf_f (b := a0 + 2) rfl ha0 rfl rfl ?_
    refine zq_run 1 (pc' := 23) (L' := [(.ref (a0)), (zq_vi (x1)), (zq_vi (x2))]) (st' := [(zq_vi (x1)), (.ref (a0 + 2)), (zq_vi (zq_i s (a0 + 2) (x2)))]) (fun _ _ _ => rfl) ?_
    obtain ⟨g_4, w⟩ := w
    refine zq_ald_i (v := zq_i s (a0 + 2) (x1)) rfl (zq_L4 ha0).2.1 g_4.1 g_4.2 rfl ?_
    refine zq_le rfl (hR_1.1 _ _) (hR_1.1 _ _) (fun hb_5 => ?_) (fun hb_5 => ?_)
    · rw [if_pos hb_5] at w
      refine zq_run 1 (pc' := 34) (L' := [(.ref (a0)), (zq_vi (x1)), (zq_vi (x2))]) (st' := [(zq_vi (x2))]) (fun _ _ _ => rfl) ?_
      exact zq_iret rfl rfl rfl (⟨_, rfl, hx2, w⟩)
    · rw [if_neg hb_5] at w
      refine zq_iinc (L' := [(.ref (a0)), (zq_vi (x1)), (zq_vi (x2 + 1))]) rfl rfl rfl ?_
      refine zq_run 1 (pc' := 4) (L' := [(.ref (a0)), (zq_vi (x1)), (zq_vi (x2 + 1))]) (st' := []) (fun _ _ _ => rfl) ?_
      exact w
/-- PaperObjects$Tree.printBefore(ILPaperObjects$Text;)V -/
theorem zw_18 {X : Nat × (Nat → Int32)} {s : zq_S} {K : zq_S → Prop} {a0 : Nat} (ha0 : zq_o 4 a0) {x1 : Int} (hx1 : zq_iv x1) {a2 : Nat} (ha2 : zq_o 1 a2) (w : (((0 : Int) ≤ x1 ∧ x1 < (12 : Int)) ∧ (((0 : Int) ≤ x1 - 1 ∧ x1 - 1 < (12 : Int)) ∧ (if zq_i s (a0 + 2) (x1) ≤ zq_i s (a0 + 2) (x1 - 1) then (zq_Ex X 19 0 [(.ref (a2)), (zq_vi (32))] [] s (zq_rv fun s_5 => (((0 : Int) ≤ x1 ∧ x1 < (12 : Int)) ∧ (if (zq_l s_5 (a0 + 5) (x1)) = (0) then K s_5 else (zq_Ex X 19 0 [(.ref (a2)), (zq_vi (47))] [] s_5 (zq_rv fun s_8 => (((0 : Int) ≤ x1 ∧ x1 < (12 : Int)) ∧ (zq_Ex X 20 0 [(.ref (a2)), (.long (zq_l s_8 (a0 + 5) (x1))), zz_no, zz_no] [] s_8 (zq_rv fun s_10 => (zq_Ex X 19 0 [(.ref (a2)), (zq_vi (32))] [] s_10 (zq_rv fun s_11 => K s_11))))))))))) else (((0 : Int) ≤ x1 ∧ x1 < (12 : Int)) ∧ (if (zq_l s (a0 + 5) (x1)) = (0) then K s else (zq_Ex X 19 0 [(.ref (a2)), (zq_vi (47))] [] s (zq_rv fun s_14 => (((0 : Int) ≤ x1 ∧ x1 < (12 : Int)) ∧ (zq_Ex X 20 0 [(.ref (a2)), (.long (zq_l s_14 (a0 + 5) (x1))), zz_no, zz_no] [] s_14 (zq_rv fun s_16 => (zq_Ex X 19 0 [(.ref (a2)), (zq_vi (32))] [] s_16 (zq_rv fun s_17 => K s_17))))))))))))) : zq_Ex X 18 0 [(.ref (a0)), (zq_vi (x1)), (.ref (a2)), zz_no] [] s (zq_rv K) := by
  refine zq_run 1 (pc' := 1) (L' := [(.ref (a0)), (zq_vi (x1)), (.ref (a2)), zz_no]) (st' := [(.ref (a0))]) (fun _ _ _ => rfl) ?_
  refine zq_getf_f (b := a0 + 2) rfl ha0 rfl rfl ?_
  refine zq_run 1 (pc' := 5) (L' := [(.ref (a0)), (zq_vi (x1)), (.ref (a2)), zz_no]) (st' := [(zq_vi (x1)), (.ref (a0 + 2))]) (fun _ _ _ => rfl) ?_
  obtain ⟨g_1, w⟩ := w
  refine zq_have (fun hR_2 => ?_)
  refine zq_ald_i (v := zq_i s (a0 + 2) (x1)) rfl (zq_L4 ha0).2.1 g_1.1 g_1.2 rfl ?_
  refine zq_run 1 (pc' := 7) (L' := [(.ref (a0)), (zq_vi (x1)), (.ref (a2)), zz_no]) (st' := [(.ref (a0)), (zq_vi (zq_i s (a0 + 2) (x1)))]) (fun _ _ _ => rfl) ?_
  refine zq_getf_f (b := a0 + 2) rfl ha0 rfl rfl ?_
  refine zq_run 2 (pc' := 12) (L' := [(.ref (a0)), (zq_vi (x1)), (.ref (a2)), zz_no]) (st' := [(zq_vi (1)), (zq_vi (x1)), (.ref (a0 + 2)), (zq_vi (zq_i s (a0 + 2) (x1)))]) (fun _ _ _ => rfl) ?_
  refine zq_isub rfl ?_
  obtain ⟨g_3, w⟩ := w
  refine zq_ald_i (v := zq_i s (a0 + 2) (x1 - 1)) rfl (zq_L4 ha0).2.1 g_3.1 g_3.2 rfl ?_
  refine zq_le rfl (hR_2.1 _ _) (hR_2.1 _ _) (fun hb_4 => ?_) (fun hb_4 => ?_)
  · rw [if_pos hb_4] at w
    refine zq_run 3 (pc' := 24) (L' := [(.ref (a0)), (zq_vi (x1)), (.ref (a2)), (zq_vi (0))]) (st' := [(zq_vi (0))]) (fun _ _ _ => rfl) ?_
    refine zq_ne0 rfl (of_decide_eq_true rfl) (fun hb => absurd (by decide) hb) (fun _ => ?_)
    refine zq_run 2 (pc' := 30) (L' := [(.ref (a0)), (zq_vi (x1)), (.ref (a2)), (zq_vi (0))]) (st' := [(zq_vi (32)), (.ref (a2))]) (fun _ _ _ => rfl) ?_
    refine zq_call_v (i := .invokevirtual 87) (r := [1, 19, 1, 1, 1]) rfl rfl (fun h hp => zr_avv rfl (hp.obj ha2)) (of_decide_eq_false rfl) w (fun s_5 w => ?_)
    refine zq_run 1 (pc' := 34) (L' := [(.ref (a0)), (zq_vi (x1)), (.ref (a2)), (zq_vi (0))]) (st' := [(.ref (a0))]) (fun _ _ _ => rfl) ?_
    refine zq_getf_f (b := a0 + 5) rfl ha0 rfl rfl ?_
    refine zq_run 1 (pc' := 38) (L' := [(.ref (a0)), (zq_vi (x1)), (.ref (a2)), (zq_vi (0))]) (st' := [(zq_vi (x1)), (.ref (a0 + 5))]) (fun _ _ _ => rfl) ?_
    obtain ⟨g_6, w⟩ := w
    refine zq_ald_l (v := zq_l s_5 (a0 + 5) (x1)) rfl (zq_L4 ha0).2.2.2.2.1 g_6.1 g_6.2 rfl ?_
    refine zq_run 1 (pc' := 40) (L' := [(.ref (a0)), (zq_vi (x1)), (.ref (a2)), (zq_vi (0))]) (st' := [(.long (0)), (.long (zq_l s_5 (a0 + 5) (x1)))]) (fun _ _ _ => rfl) ?_
    refine zq_lceq rfl rfl (fun hb_7 => ?_) (fun hb_7 => ?_)
    · rw [if_pos hb_7] at w
      exact zq_vret rfl rfl (⟨rfl, w⟩)
    · rw [if_neg hb_7] at w
      refine zq_run 2 (pc' := 47) (L' := [(.ref (a0)), (zq_vi (x1)), (.ref (a2)), (zq_vi (0))]) (st' := [(zq_vi (47)), (.ref (a2))]) (fun _ _ _ => rfl) ?_
      refine zq_call_v (i := .invokevirtual 87) (r := [1, 19, 1, 1, 1]) rfl rfl (fun h hp => zr_avv rfl (hp.obj ha2)) (of_decide_eq_false rfl) w (fun s_8 w => ?_)
      refine zq_run 2 (pc' := 52) (L' := [(.ref (a0)), (zq_vi (x1)), (.ref (a2)), (zq_vi (0))]) (st' := [(.ref (a0)), (.ref (a2))]) (fun _ _ _ => rfl) ?_
      refine zq_getf_f (b := a0 + 5) rfl ha0 rfl rfl ?_
      refine zq_run 1 (pc' := 56) (L' := [(.ref (a0)), (zq_vi (x1)), (.ref (a2)), (zq_vi (0))]) (st' := [(zq_vi (x1)), (.ref (a0 + 5)), (.ref (a2))]) (fun _ _ _ => rfl) ?_
      obtain ⟨g_9, w⟩ := w
      refine zq_ald_l (v := zq_l s_8 (a0 + 5) (x1)) rfl (zq_L4 ha0).2.2.2.2.1 g_9.1 g_9.2 rfl ?_
      refine zq_call_v (i := .invokevirtual 91) (r := [1, 20, 1, 1, 1]) rfl rfl (fun h hp => zr_avv rfl (hp.obj ha2)) (of_decide_eq_false rfl) w (fun s_10 w => ?_)
      refine zq_run 2 (pc' := 63) (L' := [(.ref (a0)), (zq_vi (x1)), (.ref (a2)), (zq_vi (0))]) (st' := [(zq_vi (32)), (.ref (a2))]) (fun _ _ _ => rfl) ?_
      refine zq_call_v (i := .invokevirtual 87) (r := [1, 19, 1, 1, 1]) rfl rfl (fun h hp => zr_avv rfl (hp.obj ha2)) (of_decide_eq_false rfl) w (fun s_11 w => ?_)
      exact zq_vret rfl rfl (⟨rfl, w⟩)
  · rw [if_neg hb_4] at w
    refine zq_run 4 (pc' := 24) (L' := [(.ref (a0)), (zq_vi (x1)), (.ref (a2)), (zq_vi (1))]) (st' := [(zq_vi (1))]) (fun _ _ _ => rfl) ?_
    refine zq_ne0 rfl (of_decide_eq_true rfl) (fun _ => ?_) (fun hb => absurd hb (by decide))
    refine zq_run 1 (pc' := 34) (L' := [(.ref (a0)), (zq_vi (x1)), (.ref (a2)), (zq_vi (1))]) (st' := [(.ref (a0))]) (fun _ _ _ => rfl) ?_
    refine zq_getf_f (b := a0 + 5) rfl ha0 rfl rfl ?_
    refine zq_run 1 (pc' := 38) (L' := [(.ref (a0)), (zq_vi (x1)), (.ref (a2)), (zq_vi (1))]) (st' := [(zq_vi (x1)), (.ref (a0 + 5))]) (fun _ _ _ => rfl) ?_
    obtain ⟨g_12, w⟩ := w
    refine zq_ald_l (v := zq_l s (a0 + 5) (x1)) rfl (zq_L4 ha0).2.2.2.2.1 g_12.1 g_12.2 rfl ?_
    refine zq_run 1 (pc' := 40) (L' := [(.ref (a0)), (zq_vi (x1)), (.ref (a2)), (zq_vi (1))]) (st' := [(.long (0)), (.long (zq_l s (a0 + 5) (x1)))]) (fun _ _ _ => rfl) ?_
    refine zq_lceq rfl rfl (fun hb_13 => ?_) (fun hb_13 => ?_)
    · rw [if_pos hb_13] at w
      exact zq_vret rfl rfl (⟨rfl, w⟩)
    · rw [if_neg hb_13] at w
      refine zq_run 2 (pc' := 47) (L' := [(.ref (a0)), (zq_vi (x1)), (.ref (a2)), (zq_vi (1))]) (st' := [(zq_vi (47)), (.ref (a2))]) (fun _ _ _ => rfl) ?_
      refine zq_call_v (i := .invokevirtual 87) (r := [1, 19, 1, 1, 1]) rfl rfl (fun h hp => zr_avv rfl (hp.obj ha2)) (of_decide_eq_false rfl) w (fun s_14 w => ?_)
      refine zq_run 2 (pc' := 52) (L' := [(.ref (a0)), (zq_vi (x1)), (.ref (a2)), (zq_vi (1))]) (st' := [(.ref (a0)), (.ref (a2))]) (fun _ _ _ => rfl) ?_
      refine zq_getf_f (b := a0 + 5) rfl ha0 rfl rfl ?_
      refine zq_run 1 (pc' := 56) (L' := [(.ref (a0)), (zq_vi (x1)), (.ref (a2)), (zq_vi (1))]) (st' := [(zq_vi (x1)), (.ref (a0 + 5)), (.ref (a2))]) (fun _ _ _ => rfl) ?_
      obtain ⟨g_15, w⟩ := w
      refine zq_ald_l (v := zq_l s_14 (a0 + 5) (x1)) rfl (zq_L4 ha0).2.2.2.2.1 g_15.1 g_15.2 rfl ?_
      refine zq_call_v (i := .invokevirtual 91) (r := [1, 20, 1, 1, 1]) rfl rfl (fun h hp => zr_avv rfl (hp.obj ha2)) (of_decide_eq_false rfl) w (fun s_16 w => ?_)
      refine zq_run 2 (pc' := 63) (L' := [(.ref (a0)), (zq_vi (x1)), (.ref (a2)), (zq_vi (1))]) (st' := [(zq_vi (32)), (.ref (a2))]) (fun _ _ _ => rfl) ?_
      refine zq_call_v (i := .invokevirtual 87) (r := [1, 19, 1, 1, 1]) rfl rfl (fun h hp => zr_avv rfl (hp.obj ha2)) (of_decide_eq_false rfl) w (fun s_17 w => ?_)
      exact zq_vret rfl rfl (⟨rfl, w⟩)
/-- PaperObjects$Text.add(I)V -/
theorem zw_19 {X : Nat × (Nat → Int32)} {s : zq_S} {K : zq_S → Prop} {a0 : Nat} (ha0 : zq_o 1 a0) {x1 : Int} (hx1 : zq_iv x1) (w : (if zq_i s (a0) (1) < ((zq_T (a0) : Nat) : Int) then (((0 : Int) ≤ zq_i s (a0) (1) ∧ zq_i s (a0) (1) < ((zq_T (a0) : Nat) : Int)) ∧ (zq_iv ((zq_i s (a0) (1)) + 1) ∧ K (zq_si (zq_si s (a0 + 1) (zq_i s (a0) (1)) ((x1) % 65536)) (a0) (1) ((zq_i s (a0) (1)) + 1)))) else K (zq_si s (a0) (2) (1)))) : zq_Ex X 19 0 [(.ref (a0)), (zq_vi (x1))] [] s (zq_rv K) := by
  refine zq_run 1 (pc' := 1) (L' := [(.ref (a0)), (zq_vi (x1))]) (st' := [(.ref (a0))]) (fun _ _ _ => rfl) ?_
  refine zq_have (fun hR_1 => ?_)
  refine zq_getf_i (j := 1) (v := zq_i s (a0) (1)) rfl ha0 rfl rfl rfl ?_
  refine zq_run 1 (pc' := 5) (L' := [(.ref (a0)), (zq_vi (x1))]) (st' := [(.ref (a0)), (zq_vi (zq_i s (a0) (1)))]) (fun _ _ _ => rfl) ?_
  refine zq_getf_f (b := a0 + 1) rfl ha0 rfl rfl ?_
  refine zq_alen rfl (zq_L1 ha0) ?_
  refine zq_ge rfl (hR_1.1 _ _) (zq_inm (zq_km (zq_L1 ha0) (by decide))) (fun hb_2 => ?_) (fun hb_2 => ?_)
  · rw [if_neg hb_2] at w
    refine zq_run 2 (pc' := 38) (L' := [(.ref (a0)), (zq_vi (x1))]) (st' := [(zq_vi (1)), (.ref (a0))]) (fun _ _ _ => rfl) ?_
    refine zq_putf_b (j := 2) rfl ha0 rfl rfl rfl (of_decide_eq_true rfl) ?_
    exact zq_vret rfl rfl (⟨rfl, w⟩)
  · rw [if_pos hb_2] at w
    refine zq_run 1 (pc' := 13) (L' := [(.ref (a0)), (zq_vi (x1))]) (st' := [(.ref (a0))]) (fun _ _ _ => rfl) ?_
    refine zq_getf_f (b := a0 + 1) rfl ha0 rfl rfl ?_
    refine zq_run 1 (pc' := 17) (L' := [(.ref (a0)), (zq_vi (x1))]) (st' := [(.ref (a0)), (.ref (a0 + 1))]) (fun _ _ _ => rfl) ?_
    refine zq_getf_i (j := 1) (v := zq_i s (a0) (1)) rfl ha0 rfl rfl rfl ?_
    refine zq_run 1 (pc' := 21) (L' := [(.ref (a0)), (zq_vi (x1))]) (st' := [(zq_vi (x1)), (zq_vi (zq_i s (a0) (1))), (.ref (a0 + 1))]) (fun _ _ _ => rfl) ?_
    refine zq_i2c rfl ?_
    obtain ⟨g_3, w⟩ := w
    refine zq_ast_c rfl (zq_L1 ha0) g_3.1 g_3.2 (zq_chm _) ?_
    refine zq_run 2 (pc' := 25) (L' := [(.ref (a0)), (zq_vi (x1))]) (st' := [(.ref (a0)), (.ref (a0))]) (fun _ _ _ => rfl) ?_
    have e_4 : zq_i (zq_si s (a0 + 1) (zq_i s (a0) (1)) ((x1) % 65536)) (a0) (1) = zq_i s (a0) (1) := by simp [zq_i_si, zq_i_sr, zq_i_sl]
    refine zq_getf_i (j := 1) (v := zq_i s (a0) (1)) rfl ha0 rfl rfl e_4 ?_
    refine zq_run 1 (pc' := 29) (L' := [(.ref (a0)), (zq_vi (x1))]) (st' := [(zq_vi (1)), (zq_vi (zq_i s (a0) (1))), (.ref (a0))]) (fun _ _ _ => rfl) ?_
    refine zq_iadd rfl ?_
    obtain ⟨g_5, w⟩ := w
    refine zq_putf_i (j := 1) rfl ha0 rfl rfl rfl g_5 ?_
    refine zq_run 1 (pc' := 41) (L' := [(.ref (a0)), (zq_vi (x1))]) (st' := []) (fun _ _ _ => rfl) ?_
    exact zq_vret rfl rfl (⟨rfl, w⟩)
/-- PaperObjects$Text.addPacked(J)V -/
theorem zw_20 {X : Nat × (Nat → Int32)} {s : zq_S} {K : zq_S → Prop} {a0 : Nat} (ha0 : zq_o 1 a0) {y1 : Int64} (w : zq_Ex X 20 2 [(.ref (a0)), (.long (y1)), zz_no, (zq_vi (0))] [] s (zq_rv K)) : zq_Ex X 20 0 [(.ref (a0)), (.long (y1)), zz_no, zz_no] [] s (zq_rv K) := by
  refine zq_run 2 (pc' := 2) (L' := [(.ref (a0)), (.long (y1)), zz_no, (zq_vi (0))]) (st' := []) (fun _ _ _ => rfl) ?_
  exact w
/-- PaperObjects$Text.addPacked at 2 -/
theorem zw_20_2 {X : Nat × (Nat → Int32)} {s : zq_S} {K : zq_S → Prop} {a0 : Nat} (ha0 : zq_o 1 a0) {y1 : Int64} {x3 : Int} (hx3 : zq_iv x3) (w : (if x3 < 8 then (zq_Ex X 21 0 [(.long (y1)), zz_no, (zq_vi (x3))] [] s (zq_rp zq_iv fun x_3 s_2 => (if x_3 = 0 then K s_2 else (zq_Ex X 21 0 [(.long (y1)), zz_no, (zq_vi (x3))] [] s_2 (zq_rp zq_iv fun x_7 s_6 => (zq_Ex X 19 0 [(.ref (a0)), (zq_vi (x_7))] [] s_6 (zq_rv fun s_9 => zq_Ex X 20 2 [(.ref (a0)), (.long (y1)), zz_no, (zq_vi (x3 + 1))] [] s_9 (zq_rv K)))))))) else K s)) : zq_Ex X 20 2 [(.ref (a0)), (.long (y1)), zz_no, (zq_vi (x3))] [] s (zq_rv K) := by
  refine zq_run 2 (pc' := 5) (L' := [(.ref (a0)), (.long (y1)), zz_no, (zq_vi (x3))]) (st' := [(zq_vi (8)), (zq_vi (x3))]) (fun _ _ _ => rfl) ?_
  refine zq_ge rfl hx3 (of_decide_eq_true rfl) (fun hb_1 => ?_) (fun hb_1 => ?_)
  · rw [if_neg hb_1] at w
    exact zq_vret rfl rfl (⟨rfl, w⟩)
  · rw [if_pos hb_1] at w
    refine zq_run 2 (pc' := 10) (L' := [(.ref (a0)), (.long (y1)), zz_no, (zq_vi (x3))]) (st' := [(zq_vi (x3)), (.long (y1))]) (fun _ _ _ => rfl) ?_
    refine zq_call_i (i := .invokestatic 40) (r := [1, 21, 2, 0, 0]) rfl rfl (fun _ _ => rfl) (of_decide_eq_false rfl) w (fun x_3 s_2 hx_4 w => ?_)
    refine zq_eq0 rfl hx_4 (fun hb_5 => ?_) (fun hb_5 => ?_)
    · rw [if_pos hb_5] at w
      exact zq_vret rfl rfl (⟨rfl, w⟩)
    · rw [if_neg hb_5] at w
      refine zq_run 3 (pc' := 19) (L' := [(.ref (a0)), (.long (y1)), zz_no, (zq_vi (x3))]) (st' := [(zq_vi (x3)), (.long (y1)), (.ref (a0))]) (fun _ _ _ => rfl) ?_
      refine zq_call_i (i := .invokestatic 40) (r := [1, 21, 2, 0, 0]) rfl rfl (fun _ _ => rfl) (of_decide_eq_false rfl) w (fun x_7 s_6 hx_8 w => ?_)
      refine zq_call_v (i := .invokevirtual 23) (r := [1, 19, 1, 1, 1]) rfl rfl (fun h hp => zr_avv rfl (hp.obj ha0)) (of_decide_eq_false rfl) w (fun s_9 w => ?_)
      refine zq_iinc (L' := [(.ref (a0)), (.long (y1)), zz_no, (zq_vi (x3 + 1))]) rfl rfl rfl ?_
      refine zq_run 1 (pc' := 2) (L' := [(.ref (a0)), (.long (y1)), zz_no, (zq_vi (x3 + 1))]) (st' := []) (fun _ _ _ => rfl) ?_
      exact w
/-- PaperObjects.byteOf(JI)I -/
theorem zw_21 {X : Nat × (Nat → Int32)} {s : zq_S} {K : Int → zq_S → Prop} {y0 : Int64} {x2 : Int} (hx2 : zq_iv x2) (w : K (zq_and ((((y0).toUInt64 >>> ((Int32.ofInt (8 * x2)).toInt64.toUInt64 &&& Int64.toUInt64 63)).toInt64).toInt32.toInt) (255)) s) : zq_Ex X 21 0 [(.long (y0)), zz_no, (zq_vi (x2))] [] s (zq_rp zq_iv K) := by
  refine zq_run 3 (pc' := 4) (L' := [(.long (y0)), zz_no, (zq_vi (x2))]) (st' := [(zq_vi (x2)), (zq_vi (8)), (.long (y0))]) (fun _ _ _ => rfl) ?_
  refine zq_imul rfl ?_
  refine zq_run 1 (pc' := 6) (L' := [(.long (y0)), zz_no, (zq_vi (x2))]) (st' := [(.long (((y0).toUInt64 >>> ((Int32.ofInt (8 * x2)).toInt64.toUInt64 &&& Int64.toUInt64 63)).toInt64))]) (fun _ _ _ => rfl) ?_
  refine zq_l2i rfl ?_
  refine zq_run 1 (pc' := 10) (L' := [(.long (y0)), zz_no, (zq_vi (x2))]) (st' := [(zq_vi (255)), (zq_vi ((((y0).toUInt64 >>> ((Int32.ofInt (8 * x2)).toInt64.toUInt64 &&& Int64.toUInt64 63)).toInt64).toInt32.toInt))]) (fun _ _ _ => rfl) ?_
  refine zq_iand rfl ?_
  exact zq_iret rfl rfl rfl (⟨_, rfl, (zq_in32 _), w⟩)
/-- PaperObjects$Tree.printOpening(ILPaperObjects$Text;)V -/
theorem zw_22 {X : Nat × (Nat → Int32)} {s : zq_S} {K : zq_S → Prop} {a0 : Nat} (ha0 : zq_o 4 a0) {x1 : Int} (hx1 : zq_iv x1) {a2 : Nat} (ha2 : zq_o 1 a2) (w : (((0 : Int) ≤ x1 ∧ x1 < (12 : Int)) ∧ (if zq_i s (a0 + 1) (x1) = 0 then (zq_Ex X 23 0 [(.ref (a2)), (.ref (1000000 + 0)), zz_no] [] s (zq_rv fun s_4 => K s_4)) else (if zq_i s (a0 + 1) (x1) = 1 then (zq_Ex X 23 0 [(.ref (a2)), (.ref (1000000 + 1)), zz_no] [] s (zq_rv fun s_6 => K s_6)) else (if zq_i s (a0 + 1) (x1) = 2 then (zq_Ex X 23 0 [(.ref (a2)), (.ref (1000000 + 2)), zz_no] [] s (zq_rv fun s_8 => K s_8)) else (if zq_i s (a0 + 1) (x1) = 3 then (((0 : Int) ≤ x1 ∧ x1 < (12 : Int)) ∧ (zq_Ex X 24 0 [(.ref (a2)), (zq_vi (zq_i s (a0 + 3) (x1))), zz_no, zz_no, zz_no, zz_no] [] s (zq_rv fun s_11 => K s_11))) else (if zq_i s (a0 + 1) (x1) = 4 then (zq_Ex X 19 0 [(.ref (a2)), (zq_vi (47))] [] s (zq_rv fun s_13 => (zq_Ex X 26 0 [(.ref (a0)), (zq_vi (x1)), (.ref (a2)), zz_no, zz_no] [] s_13 (zq_rv fun s_14 => K s_14)))) else (if zq_i s (a0 + 1) (x1) = 5 then (zq_Ex X 19 0 [(.ref (a2)), (zq_vi (40))] [] s (zq_rv fun s_16 => (zq_Ex X 26 0 [(.ref (a0)), (zq_vi (x1)), (.ref (a2)), zz_no, zz_no] [] s_16 (zq_rv fun s_17 => (zq_Ex X 19 0 [(.ref (a2)), (zq_vi (41))] [] s_17 (zq_rv fun s_18 => K s_18)))))) else (if zq_i s (a0 + 1) (x1) = 6 then (zq_Ex X 19 0 [(.ref (a2)), (zq_vi (91))] [] s (zq_rv fun s_20 => K s_20)) else (if zq_i s (a0 + 1) (x1) = 7 then (zq_Ex X 23 0 [(.ref (a2)), (.ref (1000000 + 3)), zz_no] [] s (zq_rv fun s_22 => K s_22)) else (((0 : Int) ≤ x1 ∧ x1 < (12 : Int)) ∧ (((0 : Int) ≤ x1 ∧ x1 < (12 : Int)) ∧ (zq_Ex X 27 0 [(.ref (a2)), (zq_vi (zq_i s (a0 + 3) (x1))), (zq_vi (zq_i s (a0 + 4) (x1)))] [] s (zq_rv fun s_25 => K s_25)))))))))))))) : zq_Ex X 22 0 [(.ref (a0)), (zq_vi (x1)), (.ref (a2))] [] s (zq_rv K) := by
  refine zq_run 1 (pc' := 1) (L' := [(.ref (a0)), (zq_vi (x1)), (.ref (a2))]) (st' := [(.ref (a0))]) (fun _ _ _ => rfl) ?_
  refine zq_getf_f (b := a0 + 1) rfl ha0 rfl rfl ?_
  refine zq_run 1 (pc' := 5) (L' := [(.ref (a0)), (zq_vi (x1)), (.ref (a2))]) (st' := [(zq_vi (x1)), (.ref (a0 + 1))]) (fun _ _ _ => rfl) ?_
  obtain ⟨g_1, w⟩ := w
  refine zq_have (fun hR_2 => ?_)
  refine zq_ald_i (v := zq_i s (a0 + 1) (x1)) rfl (zq_L4 ha0).1 g_1.1 g_1.2 rfl ?_
  by_cases hb_3 : zq_i s (a0 + 1) (x1) = 0
  · rw [if_pos hb_3] at w
    refine zq_tsw rfl (by rw [hb_3] <;> rfl) ?_
    refine zq_run 2 (pc' := 55) (L' := [(.ref (a0)), (zq_vi (x1)), (.ref (a2))]) (st' := [(.ref (1000000 + 0)), (.ref (a2))]) (fun _ _ _ => rfl) ?_
    refine zq_call_v (i := .invokevirtual 97) (r := [1, 23, 1, 1, 1]) rfl rfl (fun h hp => zr_avv rfl (hp.obj ha2)) (of_decide_eq_false rfl) w (fun s_4 w => ?_)
    refine zq_run 1 (pc' := 162) (L' := [(.ref (a0)), (zq_vi (x1)), (.ref (a2))]) (st' := []) (fun _ _ _ => rfl) ?_
    exact zq_vret rfl rfl (⟨rfl, w⟩)
  · rw [if_neg hb_3] at w
    by_cases hb_5 : zq_i s (a0 + 1) (x1) = 1
    · rw [if_pos hb_5] at w
      refine zq_tsw rfl (by rw [hb_5] <;> rfl) ?_
      refine zq_run 2 (pc' := 64) (L' := [(.ref (a0)), (zq_vi (x1)), (.ref (a2))]) (st' := [(.ref (1000000 + 1)), (.ref (a2))]) (fun _ _ _ => rfl) ?_
      refine zq_call_v (i := .invokevirtual 97) (r := [1, 23, 1, 1, 1]) rfl rfl (fun h hp => zr_avv rfl (hp.obj ha2)) (of_decide_eq_false rfl) w (fun s_6 w => ?_)
      refine zq_run 1 (pc' := 162) (L' := [(.ref (a0)), (zq_vi (x1)), (.ref (a2))]) (st' := []) (fun _ _ _ => rfl) ?_
      exact zq_vret rfl rfl (⟨rfl, w⟩)
    · rw [if_neg hb_5] at w
      by_cases hb_7 : zq_i s (a0 + 1) (x1) = 2
      · rw [if_pos hb_7] at w
        refine zq_tsw rfl (by rw [hb_7] <;> rfl) ?_
        refine zq_run 2 (pc' := 73) (L' := [(.ref (a0)), (zq_vi (x1)), (.ref (a2))]) (st' := [(.ref (1000000 + 2)), (.ref (a2))]) (fun _ _ _ => rfl) ?_
        refine zq_call_v (i := .invokevirtual 97) (r := [1, 23, 1, 1, 1]) rfl rfl (fun h hp => zr_avv rfl (hp.obj ha2)) (of_decide_eq_false rfl) w (fun s_8 w => ?_)
        refine zq_run 1 (pc' := 162) (L' := [(.ref (a0)), (zq_vi (x1)), (.ref (a2))]) (st' := []) (fun _ _ _ => rfl) ?_
        exact zq_vret rfl rfl (⟨rfl, w⟩)
      · rw [if_neg hb_7] at w
        by_cases hb_9 : zq_i s (a0 + 1) (x1) = 3
        · rw [if_pos hb_9] at w
          refine zq_tsw rfl (by rw [hb_9] <;> rfl) ?_
          refine zq_run 2 (pc' := 81) (L' := [(.ref (a0)), (zq_vi (x1)), (.ref (a2))]) (st' := [(.ref (a0)), (.ref (a2))]) (fun _ _ _ => rfl) ?_
          refine zq_getf_f (b := a0 + 3) rfl ha0 rfl rfl ?_
          refine zq_run 1 (pc' := 85) (L' := [(.ref (a0)), (zq_vi (x1)), (.ref (a2))]) (st' := [(zq_vi (x1)), (.ref (a0 + 3)), (.ref (a2))]) (fun _ _ _ => rfl) ?_
          obtain ⟨g_10, w⟩ := w
          refine zq_ald_i (v := zq_i s (a0 + 3) (x1)) rfl (zq_L4 ha0).2.2.1 g_10.1 g_10.2 rfl ?_
          refine zq_call_v (i := .invokevirtual 105) (r := [1, 24, 1, 1, 1]) rfl rfl (fun h hp => zr_avv rfl (hp.obj ha2)) (of_decide_eq_false rfl) w (fun s_11 w => ?_)
          refine zq_run 1 (pc' := 162) (L' := [(.ref (a0)), (zq_vi (x1)), (.ref (a2))]) (st' := []) (fun _ _ _ => rfl) ?_
          exact zq_vret rfl rfl (⟨rfl, w⟩)
        · rw [if_neg hb_9] at w
          by_cases hb_12 : zq_i s (a0 + 1) (x1) = 4
          · rw [if_pos hb_12] at w
            refine zq_tsw rfl (by rw [hb_12] <;> rfl) ?_
            refine zq_run 2 (pc' := 95) (L' := [(.ref (a0)), (zq_vi (x1)), (.ref (a2))]) (st' := [(zq_vi (47)), (.ref (a2))]) (fun _ _ _ => rfl) ?_
            refine zq_call_v (i := .invokevirtual 87) (r := [1, 19, 1, 1, 1]) rfl rfl (fun h hp => zr_avv rfl (hp.obj ha2)) (of_decide_eq_false rfl) w (fun s_13 w => ?_)
            refine zq_run 3 (pc' := 101) (L' := [(.ref (a0)), (zq_vi (x1)), (.ref (a2))]) (st' := [(.ref (a2)), (zq_vi (x1)), (.ref (a0))]) (fun _ _ _ => rfl) ?_
            refine zq_call_v (i := .invokevirtual 108) (r := [1, 26, 2, 1, 4]) rfl rfl (fun h hp => zr_avv rfl (hp.obj ha0)) (of_decide_eq_false rfl) w (fun s_14 w => ?_)
            refine zq_run 1 (pc' := 162) (L' := [(.ref (a0)), (zq_vi (x1)), (.ref (a2))]) (st' := []) (fun _ _ _ => rfl) ?_
            exact zq_vret rfl rfl (⟨rfl, w⟩)
          · rw [if_neg hb_12] at w
            by_cases hb_15 : zq_i s (a0 + 1) (x1) = 5
            · rw [if_pos hb_15] at w
              refine zq_tsw rfl (by rw [hb_15] <;> rfl) ?_
              refine zq_run 2 (pc' := 110) (L' := [(.ref (a0)), (zq_vi (x1)), (.ref (a2))]) (st' := [(zq_vi (40)), (.ref (a2))]) (fun _ _ _ => rfl) ?_
              refine zq_call_v (i := .invokevirtual 87) (r := [1, 19, 1, 1, 1]) rfl rfl (fun h hp => zr_avv rfl (hp.obj ha2)) (of_decide_eq_false rfl) w (fun s_16 w => ?_)
              refine zq_run 3 (pc' := 116) (L' := [(.ref (a0)), (zq_vi (x1)), (.ref (a2))]) (st' := [(.ref (a2)), (zq_vi (x1)), (.ref (a0))]) (fun _ _ _ => rfl) ?_
              refine zq_call_v (i := .invokevirtual 108) (r := [1, 26, 2, 1, 4]) rfl rfl (fun h hp => zr_avv rfl (hp.obj ha0)) (of_decide_eq_false rfl) w (fun s_17 w => ?_)
              refine zq_run 2 (pc' := 122) (L' := [(.ref (a0)), (zq_vi (x1)), (.ref (a2))]) (st' := [(zq_vi (41)), (.ref (a2))]) (fun _ _ _ => rfl) ?_
              refine zq_call_v (i := .invokevirtual 87) (r := [1, 19, 1, 1, 1]) rfl rfl (fun h hp => zr_avv rfl (hp.obj ha2)) (of_decide_eq_false rfl) w (fun s_18 w => ?_)
              refine zq_run 1 (pc' := 162) (L' := [(.ref (a0)), (zq_vi (x1)), (.ref (a2))]) (st' := []) (fun _ _ _ => rfl) ?_
              exact zq_vret rfl rfl (⟨rfl, w⟩)
            · rw [if_neg hb_15] at w
              by_cases hb_19 : zq_i s (a0 + 1) (x1) = 6
              · rw [if_pos hb_19] at w
                refine zq_tsw rfl (by rw [hb_19] <;> rfl) ?_
                refine zq_run 2 (pc' := 131) (L' := [(.ref (a0)), (zq_vi (x1)), (.ref (a2))]) (st' := [(zq_vi (91)), (.ref (a2))]) (fun _ _ _ => rfl) ?_
                refine zq_call_v (i := .invokevirtual 87) (r := [1, 19, 1, 1, 1]) rfl rfl (fun h hp => zr_avv rfl (hp.obj ha2)) (of_decide_eq_false rfl) w (fun s_20 w => ?_)
                refine zq_run 1 (pc' := 162) (L' := [(.ref (a0)), (zq_vi (x1)), (.ref (a2))]) (st' := []) (fun _ _ _ => rfl) ?_
                exact zq_vret rfl rfl (⟨rfl, w⟩)
              · rw [if_neg hb_19] at w
                by_cases hb_21 : zq_i s (a0 + 1) (x1) = 7
                · rw [if_pos hb_21] at w
                  refine zq_tsw rfl (by rw [hb_21] <;> rfl) ?_
                  refine zq_run 2 (pc' := 140) (L' := [(.ref (a0)), (zq_vi (x1)), (.ref (a2))]) (st' := [(.ref (1000000 + 3)), (.ref (a2))]) (fun _ _ _ => rfl) ?_
                  refine zq_call_v (i := .invokevirtual 97) (r := [1, 23, 1, 1, 1]) rfl rfl (fun h hp => zr_avv rfl (hp.obj ha2)) (of_decide_eq_false rfl) w (fun s_22 w => ?_)
                  refine zq_run 1 (pc' := 162) (L' := [(.ref (a0)), (zq_vi (x1)), (.ref (a2))]) (st' := []) (fun _ _ _ => rfl) ?_
                  exact zq_vret rfl rfl (⟨rfl, w⟩)
                · rw [if_neg hb_21] at w
                  refine zq_tsw rfl (zq_tabd (hR_2.1 _ _) (by omega)) ?_
                  refine zq_run 2 (pc' := 148) (L' := [(.ref (a0)), (zq_vi (x1)), (.ref (a2))]) (st' := [(.ref (a0)), (.ref (a2))]) (fun _ _ _ => rfl) ?_
                  refine zq_getf_f (b := a0 + 3) rfl ha0 rfl rfl ?_
                  refine zq_run 1 (pc' := 152) (L' := [(.ref (a0)), (zq_vi (x1)), (.ref (a2))]) (st' := [(zq_vi (x1)), (.ref (a0 + 3)), (.ref (a2))]) (fun _ _ _ => rfl) ?_
                  obtain ⟨g_23, w⟩ := w
                  refine zq_ald_i (v := zq_i s (a0 + 3) (x1)) rfl (zq_L4 ha0).2.2.1 g_23.1 g_23.2 rfl ?_
                  refine zq_run 1 (pc' := 154) (L' := [(.ref (a0)), (zq_vi (x1)), (.ref (a2))]) (st' := [(.ref (a0)), (zq_vi (zq_i s (a0 + 3) (x1))), (.ref (a2))]) (fun _ _ _ => rfl) ?_
                  refine zq_getf_f (b := a0 + 4) rfl ha0 rfl rfl ?_
                  refine zq_run 1 (pc' := 158) (L' := [(.ref (a0)), (zq_vi (x1)), (.ref (a2))]) (st' := [(zq_vi (x1)), (.ref (a0 + 4)), (zq_vi (zq_i s (a0 + 3) (x1))), (.ref (a2))]) (fun _ _ _ => rfl) ?_
                  obtain ⟨g_24, w⟩ := w
                  refine zq_ald_i (v := zq_i s (a0 + 4) (x1)) rfl (zq_L4 ha0).2.2.2.1 g_24.1 g_24.2 rfl ?_
                  refine zq_call_v (i := .invokevirtual 113) (r := [1, 27, 2, 1, 1]) rfl rfl (fun h hp => zr_avv rfl (hp.obj ha2)) (of_decide_eq_false rfl) w (fun s_25 w => ?_)
                  exact zq_vret rfl rfl (⟨rfl, w⟩)
/-- PaperObjects$Text.addAll(Ljava/lang/String;)V -/
theorem zw_23 {X : Nat × (Nat → Int32)} {s : zq_S} {K : zq_S → Prop} {a0 : Nat} (ha0 : zq_o 1 a0) {j1 : Nat} (hj_j1 : j1 < 1000000) (hl_j1 : (zq_str j1).length < 10000) (w : zq_Ex X 23 2 [(.ref (a0)), (.ref (1000000 + j1)), (zq_vi (0))] [] s (zq_rv K)) : zq_Ex X 23 0 [(.ref (a0)), (.ref (1000000 + j1)), zz_no] [] s (zq_rv K) := by
  refine zq_run 2 (pc' := 2) (L' := [(.ref (a0)), (.ref (1000000 + j1)), (zq_vi (0))]) (st' := []) (fun _ _ _ => rfl) ?_
  exact w
/-- PaperObjects$Text.addAll at 2 -/
theorem zw_23_2 {X : Nat × (Nat → Int32)} {s : zq_S} {K : zq_S → Prop} {a0 : Nat} (ha0 : zq_o 1 a0) {j1 : Nat} (hj_j1 : j1 < 1000000) (hl_j1 : (zq_str j1).length < 10000) {x2 : Int} (hx2 : zq_iv x2) (w : (if x2 < ((zq_str j1).length : Int) then (((0 : Int) ≤ x2 ∧ x2 < ((zq_str j1).length : Int)) ∧ (zq_Ex X 19 0 [(.ref (a0)), (zq_vi ((zq_str j1).getD (x2).toNat 0))] [] s (zq_rv fun s_3 => zq_Ex X 23 2 [(.ref (a0)), (.ref (1000000 + j1)), (zq_vi (x2 + 1))] [] s_3 (zq_rv K)))) else K s)) : zq_Ex X 23 2 [(.ref (a0)), (.ref (1000000 + j1)), (zq_vi (x2))] [] s (zq_rv K) := by
  refine zq_run 2 (pc' := 4) (L' := [(.ref (a0)), (.ref (1000000 + j1)), (zq_vi (x2))]) (st' := [(.ref (1000000 + j1)), (zq_vi (x2))]) (fun _ _ _ => rfl) ?_
  refine zq_strl (j := j1) (m := ((zq_str j1).length : Int)) rfl hj_j1 rfl rfl ?_
  refine zq_ge rfl hx2 (zq_inm hl_j1) (fun hb_1 => ?_) (fun hb_1 => ?_)
  · rw [if_neg hb_1] at w
    exact zq_vret rfl rfl (⟨rfl, w⟩)
  · rw [if_pos hb_1] at w
    refine zq_run 3 (pc' := 13) (L' := [(.ref (a0)), (.ref (1000000 + j1)), (zq_vi (x2))]) (st' := [(zq_vi (x2)), (.ref (1000000 + j1)), (.ref (a0))]) (fun _ _ _ => rfl) ?_
    obtain ⟨g_2, w⟩ := w
    refine zq_stra (j := j1) rfl hj_j1 hl_j1 g_2.1 g_2.2 rfl ?_
    refine zq_call_v (i := .invokevirtual 23) (r := [1, 19, 1, 1, 1]) rfl rfl (fun h hp => zr_avv rfl (hp.obj ha0)) (of_decide_eq_false rfl) w (fun s_3 w => ?_)
    refine zq_iinc (L' := [(.ref (a0)), (.ref (1000000 + j1)), (zq_vi (x2 + 1))]) rfl rfl rfl ?_
    refine zq_run 1 (pc' := 2) (L' := [(.ref (a0)), (.ref (1000000 + j1)), (zq_vi (x2 + 1))]) (st' := []) (fun _ _ _ => rfl) ?_
    exact w
/-- PaperObjects$Text.addNumber(I)V -/
theorem zw_24 {X : Nat × (Nat → Int32)} {s : zq_S} {K : zq_S → Prop} {a0 : Nat} (ha0 : zq_o 1 a0) {x1 : Int} (hx1 : zq_iv x1) (w : (if x1 < 0 then (zq_Ex X 19 0 [(.ref (a0)), (zq_vi (45))] [] s (zq_rv fun s_5 => (zq_Ex X 25 0 [(zq_vi (x1))] [] s_5 (zq_rp zq_iv fun x_7 s_6 => zq_Ex X 24 21 [(.ref (a0)), (zq_vi (x1)), (zq_vi (x_7)), (zq_vi (0)), (zq_vi (100000)), zz_no] [] s_6 (zq_rv K))))) else (zq_Ex X 25 0 [(zq_vi (x1))] [] s (zq_rp zq_iv fun x_3 s_2 => zq_Ex X 24 21 [(.ref (a0)), (zq_vi (x1)), (zq_vi (x_3)), (zq_vi (0)), (zq_vi (100000)), zz_no] [] s_2 (zq_rv K))))) : zq_Ex X 24 0 [(.ref (a0)), (zq_vi (x1)), zz_no, zz_no, zz_no, zz_no] [] s (zq_rv K) := by
  refine zq_run 1 (pc' := 1) (L' := [(.ref (a0)), (zq_vi (x1)), zz_no, zz_no, zz_no, zz_no]) (st' := [(zq_vi (x1))]) (fun _ _ _ => rfl) ?_
  refine zq_ge0 rfl hx1 (fun hb_1 => ?_) (fun hb_1 => ?_)
  · rw [if_neg hb_1] at w
    refine zq_run 1 (pc' := 11) (L' := [(.ref (a0)), (zq_vi (x1)), zz_no, zz_no, zz_no, zz_no]) (st' := [(zq_vi (x1))]) (fun _ _ _ => rfl) ?_
    refine zq_call_i (i := .invokestatic 44) (r := [1, 25, 1, 0, 0]) rfl rfl (fun _ _ => rfl) (of_decide_eq_false rfl) w (fun x_3 s_2 hx_4 w => ?_)
    refine zq_run 5 (pc' := 21) (L' := [(.ref (a0)), (zq_vi (x1)), (zq_vi (x_3)), (zq_vi (0)), (zq_vi (100000)), zz_no]) (st' := []) (fun _ _ _ => rfl) ?_
    exact w
  · rw [if_pos hb_1] at w
    refine zq_run 2 (pc' := 7) (L' := [(.ref (a0)), (zq_vi (x1)), zz_no, zz_no, zz_no, zz_no]) (st' := [(zq_vi (45)), (.ref (a0))]) (fun _ _ _ => rfl) ?_
    refine zq_call_v (i := .invokevirtual 23) (r := [1, 19, 1, 1, 1]) rfl rfl (fun h hp => zr_avv rfl (hp.obj ha0)) (of_decide_eq_false rfl) w (fun s_5 w => ?_)
    refine zq_run 1 (pc' := 11) (L' := [(.ref (a0)), (zq_vi (x1)), zz_no, zz_no, zz_no, zz_no]) (st' := [(zq_vi (x1))]) (fun _ _ _ => rfl) ?_
    refine zq_call_i (i := .invokestatic 44) (r := [1, 25, 1, 0, 0]) rfl rfl (fun _ _ => rfl) (of_decide_eq_false rfl) w (fun x_7 s_6 hx_8 w => ?_)
    refine zq_run 5 (pc' := 21) (L' := [(.ref (a0)), (zq_vi (x1)), (zq_vi (x_7)), (zq_vi (0)), (zq_vi (100000)), zz_no]) (st' := []) (fun _ _ _ => rfl) ?_
    exact w
/-- PaperObjects$Text.addNumber at 21 -/
theorem zw_24_21 {X : Nat × (Nat → Int32)} {s : zq_S} {K : zq_S → Prop} {a0 : Nat} (ha0 : zq_o 1 a0) {x1 : Int} (hx1 : zq_iv x1) {x2 : Int} (hx2 : zq_iv x2) {x3 : Int} (hx3 : zq_bo x3) {x4 : Int} (hx4 : zq_iv x4) {v5 : Value} (hv5 : v5.category = 1) (w : (if x4 ≤ 0 then K s else (x4 ≠ 0 ∧ (if x3 = 0 then (if zq_rem (zq_div (x2) (x4)) (10) ≤ 0 then (if x4 = 1 then (zq_Ex X 19 0 [(.ref (a0)), (zq_vi (48 + (zq_rem (zq_div (x2) (x4)) (10))))] [] s (zq_rv fun s_8 => zq_Ex X 24 21 [(.ref (a0)), (zq_vi (x1)), (zq_vi (x2)), (zq_vi (1)), (zq_vi (zq_div (x4) (10))), (zq_vi (zq_rem (zq_div (x2) (x4)) (10)))] [] s_8 (zq_rv K))) else zq_Ex X 24 21 [(.ref (a0)), (zq_vi (x1)), (zq_vi (x2)), (zq_vi (0)), (zq_vi (zq_div (x4) (10))), (zq_vi (zq_rem (zq_div (x2) (x4)) (10)))] [] s (zq_rv K)) else (zq_Ex X 19 0 [(.ref (a0)), (zq_vi (48 + (zq_rem (zq_div (x2) (x4)) (10))))] [] s (zq_rv fun s_6 => zq_Ex X 24 21 [(.ref (a0)), (zq_vi (x1)), (zq_vi (x2)), (zq_vi (1)), (zq_vi (zq_div (x4) (10))), (zq_vi (zq_rem (zq_div (x2) (x4)) (10)))] [] s_6 (zq_rv K)))) else (zq_Ex X 19 0 [(.ref (a0)), (zq_vi (48 + (zq_rem (zq_div (x2) (x4)) (10))))] [] s (zq_rv fun s_4 => zq_Ex X 24 21 [(.ref (a0)), (zq_vi (x1)), (zq_vi (x2)), (zq_vi (1)), (zq_vi (zq_div (x4) (10))), (zq_vi (zq_rem (zq_div (x2) (x4)) (10)))] [] s_4 (zq_rv K))))))) : zq_Ex X 24 21 [(.ref (a0)), (zq_vi (x1)), (zq_vi (x2)), (zq_vi (x3)), (zq_vi (x4)), v5] [] s (zq_rv K) := by
  refine zq_run 1 (pc' := 23) (L' := [(.ref (a0)), (zq_vi (x1)), (zq_vi (x2)), (zq_vi (x3)), (zq_vi (x4)), v5]) (st' := [(zq_vi (x4))]) (fun _ _ _ => rfl) ?_
  refine zq_le0 rfl hx4 (fun hb_1 => ?_) (fun hb_1 => ?_)
  · rw [if_pos hb_1] at w
    exact zq_vret rfl rfl (⟨rfl, w⟩)
  · rw [if_neg hb_1] at w
    refine zq_run 2 (pc' := 29) (L' := [(.ref (a0)), (zq_vi (x1)), (zq_vi (x2)), (zq_vi (x3)), (zq_vi (x4)), v5]) (st' := [(zq_vi (x4)), (zq_vi (x2))]) (fun _ _ _ => rfl) ?_
    obtain ⟨g_2, w⟩ := w
    refine zq_idiv rfl hx4 g_2 ?_
    refine zq_run 1 (pc' := 32) (L' := [(.ref (a0)), (zq_vi (x1)), (zq_vi (x2)), (zq_vi (x3)), (zq_vi (x4)), v5]) (st' := [(zq_vi (10)), (zq_vi (zq_div (x2) (x4)))]) (fun _ _ _ => rfl) ?_
    refine zq_irem rfl (of_decide_eq_true rfl) (of_decide_eq_true rfl) ?_
    refine zq_run 2 (pc' := 36) (L' := [(.ref (a0)), (zq_vi (x1)), (zq_vi (x2)), (zq_vi (x3)), (zq_vi (x4)), (zq_vi (zq_rem (zq_div (x2) (x4)) (10)))]) (st' := [(zq_vi (x3))]) (fun _ _ _ => rfl) ?_
    refine zq_ne0 rfl (zq_bo_in hx3) (fun hb_3 => ?_) (fun hb_3 => ?_)
    · rw [if_neg hb_3] at w
      refine zq_run 4 (pc' := 57) (L' := [(.ref (a0)), (zq_vi (x1)), (zq_vi (x2)), (zq_vi (1)), (zq_vi (x4)), (zq_vi (zq_rem (zq_div (x2) (x4)) (10)))]) (st' := [(zq_vi (1))]) (fun _ _ _ => rfl) ?_
      refine zq_eq0 rfl (of_decide_eq_true rfl) (fun hb => absurd hb (by decide)) (fun _ => ?_)
      refine zq_run 3 (pc' := 65) (L' := [(.ref (a0)), (zq_vi (x1)), (zq_vi (x2)), (zq_vi (1)), (zq_vi (x4)), (zq_vi (zq_rem (zq_div (x2) (x4)) (10)))]) (st' := [(zq_vi (zq_rem (zq_div (x2) (x4)) (10))), (zq_vi (48)), (.ref (a0))]) (fun _ _ _ => rfl) ?_
      refine zq_iadd rfl ?_
      refine zq_call_v (i := .invokevirtual 23) (r := [1, 19, 1, 1, 1]) rfl rfl (fun h hp => zr_avv rfl (hp.obj ha0)) (of_decide_eq_false rfl) w (fun s_4 w => ?_)
      refine zq_run 2 (pc' := 73) (L' := [(.ref (a0)), (zq_vi (x1)), (zq_vi (x2)), (zq_vi (1)), (zq_vi (x4)), (zq_vi (zq_rem (zq_div (x2) (x4)) (10)))]) (st' := [(zq_vi (10)), (zq_vi (x4))]) (fun _ _ _ => rfl) ?_
      refine zq_idiv rfl (of_decide_eq_true rfl) (of_decide_eq_true rfl) ?_
      refine zq_run 2 (pc' := 21) (L' := [(.ref (a0)), (zq_vi (x1)), (zq_vi (x2)), (zq_vi (1)), (zq_vi (zq_div (x4) (10))), (zq_vi (zq_rem (zq_div (x2) (x4)) (10)))]) (st' := []) (fun _ _ _ => rfl) ?_
      exact w
    · rw [if_pos hb_3] at w
      refine zq_run 1 (pc' := 41) (L' := [(.ref (a0)), (zq_vi (x1)), (zq_vi (x2)), (zq_vi (x3)), (zq_vi (x4)), (zq_vi (zq_rem (zq_div (x2) (x4)) (10)))]) (st' := [(zq_vi (zq_rem (zq_div (x2) (x4)) (10)))]) (fun _ _ _ => rfl) ?_
      refine zq_gt0 rfl (zq_in32 _) (fun hb_5 => ?_) (fun hb_5 => ?_)
      · rw [if_neg hb_5] at w
        refine zq_run 4 (pc' := 57) (L' := [(.ref (a0)), (zq_vi (x1)), (zq_vi (x2)), (zq_vi (1)), (zq_vi (x4)), (zq_vi (zq_rem (zq_div (x2) (x4)) (10)))]) (st' := [(zq_vi (1))]) (fun _ _ _ => rfl) ?_
        refine zq_eq0 rfl (of_decide_eq_true rfl) (fun hb => absurd hb (by decide)) (fun _ => ?_)
        refine zq_run 3 (pc' := 65) (L' := [(.ref (a0)), (zq_vi (x1)), (zq_vi (x2)), (zq_vi (1)), (zq_vi (x4)), (zq_vi (zq_rem (zq_div (x2) (x4)) (10)))]) (st' := [(zq_vi (zq_rem (zq_div (x2) (x4)) (10))), (zq_vi (48)), (.ref (a0))]) (fun _ _ _ => rfl) ?_
        refine zq_iadd rfl ?_
        refine zq_call_v (i := .invokevirtual 23) (r := [1, 19, 1, 1, 1]) rfl rfl (fun h hp => zr_avv rfl (hp.obj ha0)) (of_decide_eq_false rfl) w (fun s_6 w => ?_)
        refine zq_run 2 (pc' := 73) (L' := [(.ref (a0)), (zq_vi (x1)), (zq_vi (x2)), (zq_vi (1)), (zq_vi (x4)), (zq_vi (zq_rem (zq_div (x2) (x4)) (10)))]) (st' := [(zq_vi (10)), (zq_vi (x4))]) (fun _ _ _ => rfl) ?_
        refine zq_idiv rfl (of_decide_eq_true rfl) (of_decide_eq_true rfl) ?_
        refine zq_run 2 (pc' := 21) (L' := [(.ref (a0)), (zq_vi (x1)), (zq_vi (x2)), (zq_vi (1)), (zq_vi (zq_div (x4) (10))), (zq_vi (zq_rem (zq_div (x2) (x4)) (10)))]) (st' := []) (fun _ _ _ => rfl) ?_
        exact w
      · rw [if_pos hb_5] at w
        refine zq_run 2 (pc' := 47) (L' := [(.ref (a0)), (zq_vi (x1)), (zq_vi (x2)), (zq_vi (x3)), (zq_vi (x4)), (zq_vi (zq_rem (zq_div (x2) (x4)) (10)))]) (st' := [(zq_vi (1)), (zq_vi (x4))]) (fun _ _ _ => rfl) ?_
        refine zq_ne rfl hx4 (of_decide_eq_true rfl) (fun hb_7 => ?_) (fun hb_7 => ?_)
        · rw [if_neg hb_7] at w
          refine zq_run 3 (pc' := 57) (L' := [(.ref (a0)), (zq_vi (x1)), (zq_vi (x2)), (zq_vi (0)), (zq_vi (x4)), (zq_vi (zq_rem (zq_div (x2) (x4)) (10)))]) (st' := [(zq_vi (0))]) (fun _ _ _ => rfl) ?_
          refine zq_eq0 rfl (of_decide_eq_true rfl) (fun _ => ?_) (fun hb => absurd (by decide) hb)
          refine zq_run 2 (pc' := 73) (L' := [(.ref (a0)), (zq_vi (x1)), (zq_vi (x2)), (zq_vi (0)), (zq_vi (x4)), (zq_vi (zq_rem (zq_div (x2) (x4)) (10)))]) (st' := [(zq_vi (10)), (zq_vi (x4))]) (fun _ _ _ => rfl) ?_
          refine zq_idiv rfl (of_decide_eq_true rfl) (of_decide_eq_true rfl) ?_
          refine zq_run 2 (pc' := 21) (L' := [(.ref (a0)), (zq_vi (x1)), (zq_vi (x2)), (zq_vi (0)), (zq_vi (zq_div (x4) (10))), (zq_vi (zq_rem (zq_div (x2) (x4)) (10)))]) (st' := []) (fun _ _ _ => rfl) ?_
          exact w
        · rw [if_pos hb_7] at w
          refine zq_run 4 (pc' := 57) (L' := [(.ref (a0)), (zq_vi (x1)), (zq_vi (x2)), (zq_vi (1)), (zq_vi (x4)), (zq_vi (zq_rem (zq_div (x2) (x4)) (10)))]) (st' := [(zq_vi (1))]) (fun _ _ _ => rfl) ?_
          refine zq_eq0 rfl (of_decide_eq_true rfl) (fun hb => absurd hb (by decide)) (fun _ => ?_)
          refine zq_run 3 (pc' := 65) (L' := [(.ref (a0)), (zq_vi (x1)), (zq_vi (x2)), (zq_vi (1)), (zq_vi (x4)), (zq_vi (zq_rem (zq_div (x2) (x4)) (10)))]) (st' := [(zq_vi (zq_rem (zq_div (x2) (x4)) (10))), (zq_vi (48)), (.ref (a0))]) (fun _ _ _ => rfl) ?_
          refine zq_iadd rfl ?_
          refine zq_call_v (i := .invokevirtual 23) (r := [1, 19, 1, 1, 1]) rfl rfl (fun h hp => zr_avv rfl (hp.obj ha0)) (of_decide_eq_false rfl) w (fun s_8 w => ?_)
          refine zq_run 2 (pc' := 73) (L' := [(.ref (a0)), (zq_vi (x1)), (zq_vi (x2)), (zq_vi (1)), (zq_vi (x4)), (zq_vi (zq_rem (zq_div (x2) (x4)) (10)))]) (st' := [(zq_vi (10)), (zq_vi (x4))]) (fun _ _ _ => rfl) ?_
          refine zq_idiv rfl (of_decide_eq_true rfl) (of_decide_eq_true rfl) ?_
          refine zq_run 2 (pc' := 21) (L' := [(.ref (a0)), (zq_vi (x1)), (zq_vi (x2)), (zq_vi (1)), (zq_vi (zq_div (x4) (10))), (zq_vi (zq_rem (zq_div (x2) (x4)) (10)))]) (st' := []) (fun _ _ _ => rfl) ?_
          exact w
/-- java/lang/Math.abs(I)I -/
theorem zw_25 {X : Nat × (Nat → Int32)} {s : zq_S} {K : Int → zq_S → Prop} {x0 : Int} (hx0 : zq_iv x0) (w : (if x0 < 0 then (zq_iv (-(x0)) ∧ K (-(x0)) s) else K (x0) s)) : zq_Ex X 25 0 [(zq_vi (x0))] [] s (zq_rp zq_iv K) := by
  refine zq_run 1 (pc' := 1) (L' := [(zq_vi (x0))]) (st' := [(zq_vi (x0))]) (fun _ _ _ => rfl) ?_
  refine zq_ge0 rfl hx0 (fun hb_1 => ?_) (fun hb_1 => ?_)
  · rw [if_neg hb_1] at w
    refine zq_run 1 (pc' := 10) (L' := [(zq_vi (x0))]) (st' := [(zq_vi (x0))]) (fun _ _ _ => rfl) ?_
    exact zq_iret rfl rfl rfl (⟨_, rfl, hx0, w⟩)
  · rw [if_pos hb_1] at w
    refine zq_run 1 (pc' := 5) (L' := [(zq_vi (x0))]) (st' := [(zq_vi (x0))]) (fun _ _ _ => rfl) ?_
    refine zq_ineg rfl ?_
    refine zq_run 1 (pc' := 10) (L' := [(zq_vi (x0))]) (st' := [(zq_vi (-(x0)))]) (fun _ _ _ => rfl) ?_
    obtain ⟨g_2, w⟩ := w
    exact zq_iret rfl rfl rfl (⟨_, rfl, g_2, w⟩)
/-- PaperObjects$Tree.printLetters(ILPaperObjects$Text;)V -/
theorem zw_26 {X : Nat × (Nat → Int32)} {s : zq_S} {K : zq_S → Prop} {a0 : Nat} (ha0 : zq_o 4 a0) {x1 : Int} (hx1 : zq_iv x1) {a2 : Nat} (ha2 : zq_o 1 a2) (w : zq_Ex X 26 2 [(.ref (a0)), (zq_vi (x1)), (.ref (a2)), (zq_vi (0)), zz_no] [] s (zq_rv K)) : zq_Ex X 26 0 [(.ref (a0)), (zq_vi (x1)), (.ref (a2)), zz_no, zz_no] [] s (zq_rv K) := by
  refine zq_run 2 (pc' := 2) (L' := [(.ref (a0)), (zq_vi (x1)), (.ref (a2)), (zq_vi (0)), zz_no]) (st' := []) (fun _ _ _ => rfl) ?_
  exact w
/-- PaperObjects$Tree.printLetters at 2 -/
theorem zw_26_2 {X : Nat × (Nat → Int32)} {s : zq_S} {K : zq_S → Prop} {a0 : Nat} (ha0 : zq_o 4 a0) {x1 : Int} (hx1 : zq_iv x1) {a2 : Nat} (ha2 : zq_o 1 a2) {x3 : Int} (hx3 : zq_iv x3) {v4 : Value} (hv4 : v4.category = 1) (w : (((0 : Int) ≤ x1 ∧ x1 < (12 : Int)) ∧ (if x3 < zq_i s (a0 + 3) (x1) then (((0 : Int) ≤ (x1 * 12) + x3 ∧ (x1 * 12) + x3 < (144 : Int)) ∧ (if zq_i s (a0 + 6) ((x1 * 12) + x3) = 40 then (zq_Ex X 19 0 [(.ref (a2)), (zq_vi (92))] [] s (zq_rv fun s_6 => (zq_Ex X 19 0 [(.ref (a2)), (zq_vi (zq_i s (a0 + 6) ((x1 * 12) + x3)))] [] s_6 (zq_rv fun s_7 => zq_Ex X 26 2 [(.ref (a0)), (zq_vi (x1)), (.ref (a2)), (zq_vi (x3 + 1)), (zq_vi (zq_i s (a0 + 6) ((x1 * 12) + x3)))] [] s_7 (zq_rv K))))) else (if zq_i s (a0 + 6) ((x1 * 12) + x3) = 41 then (zq_Ex X 19 0 [(.ref (a2)), (zq_vi (92))] [] s (zq_rv fun s_9 => (zq_Ex X 19 0 [(.ref (a2)), (zq_vi (zq_i s (a0 + 6) ((x1 * 12) + x3)))] [] s_9 (zq_rv fun s_10 => zq_Ex X 26 2 [(.ref (a0)), (zq_vi (x1)), (.ref (a2)), (zq_vi (x3 + 1)), (zq_vi (zq_i s (a0 + 6) ((x1 * 12) + x3)))] [] s_10 (zq_rv K))))) else (if zq_i s (a0 + 6) ((x1 * 12) + x3) = 92 then (zq_Ex X 19 0 [(.ref (a2)), (zq_vi (92))] [] s (zq_rv fun s_13 => (zq_Ex X 19 0 [(.ref (a2)), (zq_vi (zq_i s (a0 + 6) ((x1 * 12) + x3)))] [] s_13 (zq_rv fun s_14 => zq_Ex X 26 2 [(.ref (a0)), (zq_vi (x1)), (.ref (a2)), (zq_vi (x3 + 1)), (zq_vi (zq_i s (a0 + 6) ((x1 * 12) + x3)))] [] s_14 (zq_rv K))))) else (zq_Ex X 19 0 [(.ref (a2)), (zq_vi (zq_i s (a0 + 6) ((x1 * 12) + x3)))] [] s (zq_rv fun s_12 => zq_Ex X 26 2 [(.ref (a0)), (zq_vi (x1)), (.ref (a2)), (zq_vi (x3 + 1)), (zq_vi (zq_i s (a0 + 6) ((x1 * 12) + x3)))] [] s_12 (zq_rv K))))))) else K s))) : zq_Ex X 26 2 [(.ref (a0)), (zq_vi (x1)), (.ref (a2)), (zq_vi (x3)), v4] [] s (zq_rv K) := by
  refine zq_run 2 (pc' := 4) (L' := [(.ref (a0)), (zq_vi (x1)), (.ref (a2)), (zq_vi (x3)), v4]) (st' := [(.ref (a0)), (zq_vi (x3))]) (fun _ _ _ => rfl) ?_
  refine zq_getf_f (b := a0 + 3) rfl ha0 rfl rfl ?_
  refine zq_run 1 (pc' := 8) (L' := [(.ref (a0)), (zq_vi (x1)), (.ref (a2)), (zq_vi (x3)), v4]) (st' := [(zq_vi (x1)), (.ref (a0 + 3)), (zq_vi (x3))]) (fun _ _ _ => rfl) ?_
  obtain ⟨g_1, w⟩ := w
  refine zq_have (fun hR_2 => ?_)
  refine zq_ald_i (v := zq_i s (a0 + 3) (x1)) rfl (zq_L4 ha0).2.2.1 g_1.1 g_1.2 rfl ?_
  refine zq_ge rfl hx3 (hR_2.1 _ _) (fun hb_3 => ?_) (fun hb_3 => ?_)
  · rw [if_neg hb_3] at w
    exact zq_vret rfl rfl (⟨rfl, w⟩)
  · rw [if_pos hb_3] at w
    refine zq_run 1 (pc' := 13) (L' := [(.ref (a0)), (zq_vi (x1)), (.ref (a2)), (zq_vi (x3)), v4]) (st' := [(.ref (a0))]) (fun _ _ _ => rfl) ?_
    refine zq_getf_f (b := a0 + 6) rfl ha0 rfl rfl ?_
    refine zq_run 2 (pc' := 19) (L' := [(.ref (a0)), (zq_vi (x1)), (.ref (a2)), (zq_vi (x3)), v4]) (st' := [(zq_vi (12)), (zq_vi (x1)), (.ref (a0 + 6))]) (fun _ _ _ => rfl) ?_
    refine zq_imul rfl ?_
    refine zq_run 1 (pc' := 21) (L' := [(.ref (a0)), (zq_vi (x1)), (.ref (a2)), (zq_vi (x3)), v4]) (st' := [(zq_vi (x3)), (zq_vi (x1 * 12)), (.ref (a0 + 6))]) (fun _ _ _ => rfl) ?_
    refine zq_iadd rfl ?_
    obtain ⟨g_4, w⟩ := w
    refine zq_ald_c (v := zq_i s (a0 + 6) ((x1 * 12) + x3)) rfl (zq_L4 ha0).2.2.2.2.2 g_4.1 g_4.2 rfl ?_
    refine zq_run 3 (pc' := 29) (L' := [(.ref (a0)), (zq_vi (x1)), (.ref (a2)), (zq_vi (x3)), (zq_vi (zq_i s (a0 + 6) ((x1 * 12) + x3)))]) (st' := [(zq_vi (40)), (zq_vi (zq_i s (a0 + 6) ((x1 * 12) + x3)))]) (fun _ _ _ => rfl) ?_
    refine zq_eq rfl (zq_ch_in (hR_2.2.1 _ _ _ (zq_L4 ha0).2.2.2.2.2)) (of_decide_eq_true rfl) (fun hb_5 => ?_) (fun hb_5 => ?_)
    · rw [if_pos hb_5] at w
      refine zq_run 2 (pc' := 49) (L' := [(.ref (a0)), (zq_vi (x1)), (.ref (a2)), (zq_vi (x3)), (zq_vi (zq_i s (a0 + 6) ((x1 * 12) + x3)))]) (st' := [(zq_vi (92)), (.ref (a2))]) (fun _ _ _ => rfl) ?_
      refine zq_call_v (i := .invokevirtual 87) (r := [1, 19, 1, 1, 1]) rfl rfl (fun h hp => zr_avv rfl (hp.obj ha2)) (of_decide_eq_false rfl) w (fun s_6 w => ?_)
      refine zq_run 2 (pc' := 55) (L' := [(.ref (a0)), (zq_vi (x1)), (.ref (a2)), (zq_vi (x3)), (zq_vi (zq_i s (a0 + 6) ((x1 * 12) + x3)))]) (st' := [(zq_vi (zq_i s (a0 + 6) ((x1 * 12) + x3))), (.ref (a2))]) (fun _ _ _ => rfl) ?_
      refine zq_call_v (i := .invokevirtual 87) (r := [1, 19, 1, 1, 1]) rfl rfl (fun h hp => zr_avv rfl (hp.obj ha2)) (of_decide_eq_false rfl) w (fun s_7 w => ?_)
      refine zq_iinc (L' := [(.ref (a0)), (zq_vi (x1)), (.ref (a2)), (zq_vi (x3 + 1)), (zq_vi (zq_i s (a0 + 6) ((x1 * 12) + x3)))]) rfl rfl rfl ?_
      refine zq_run 1 (pc' := 2) (L' := [(.ref (a0)), (zq_vi (x1)), (.ref (a2)), (zq_vi (x3 + 1)), (zq_vi (zq_i s (a0 + 6) ((x1 * 12) + x3)))]) (st' := []) (fun _ _ _ => rfl) ?_
      exact w
    · rw [if_neg hb_5] at w
      refine zq_run 2 (pc' := 36) (L' := [(.ref (a0)), (zq_vi (x1)), (.ref (a2)), (zq_vi (x3)), (zq_vi (zq_i s (a0 + 6) ((x1 * 12) + x3)))]) (st' := [(zq_vi (41)), (zq_vi (zq_i s (a0 + 6) ((x1 * 12) + x3)))]) (fun _ _ _ => rfl) ?_
      refine zq_eq rfl (zq_ch_in (hR_2.2.1 _ _ _ (zq_L4 ha0).2.2.2.2.2)) (of_decide_eq_true rfl) (fun hb_8 => ?_) (fun hb_8 => ?_)
      · rw [if_pos hb_8] at w
        refine zq_run 2 (pc' := 49) (L' := [(.ref (a0)), (zq_vi (x1)), (.ref (a2)), (zq_vi (x3)), (zq_vi (zq_i s (a0 + 6) ((x1 * 12) + x3)))]) (st' := [(zq_vi (92)), (.ref (a2))]) (fun _ _ _ => rfl) ?_
        refine zq_call_v (i := .invokevirtual 87) (r := [1, 19, 1, 1, 1]) rfl rfl (fun h hp => zr_avv rfl (hp.obj ha2)) (of_decide_eq_false rfl) w (fun s_9 w => ?_)
        refine zq_run 2 (pc' := 55) (L' := [(.ref (a0)), (zq_vi (x1)), (.ref (a2)), (zq_vi (x3)), (zq_vi (zq_i s (a0 + 6) ((x1 * 12) + x3)))]) (st' := [(zq_vi (zq_i s (a0 + 6) ((x1 * 12) + x3))), (.ref (a2))]) (fun _ _ _ => rfl) ?_
        refine zq_call_v (i := .invokevirtual 87) (r := [1, 19, 1, 1, 1]) rfl rfl (fun h hp => zr_avv rfl (hp.obj ha2)) (of_decide_eq_false rfl) w (fun s_10 w => ?_)
        refine zq_iinc (L' := [(.ref (a0)), (zq_vi (x1)), (.ref (a2)), (zq_vi (x3 + 1)), (zq_vi (zq_i s (a0 + 6) ((x1 * 12) + x3)))]) rfl rfl rfl ?_
        refine zq_run 1 (pc' := 2) (L' := [(.ref (a0)), (zq_vi (x1)), (.ref (a2)), (zq_vi (x3 + 1)), (zq_vi (zq_i s (a0 + 6) ((x1 * 12) + x3)))]) (st' := []) (fun _ _ _ => rfl) ?_
        exact w
      · rw [if_neg hb_8] at w
        refine zq_run 2 (pc' := 43) (L' := [(.ref (a0)), (zq_vi (x1)), (.ref (a2)), (zq_vi (x3)), (zq_vi (zq_i s (a0 + 6) ((x1 * 12) + x3)))]) (st' := [(zq_vi (92)), (zq_vi (zq_i s (a0 + 6) ((x1 * 12) + x3)))]) (fun _ _ _ => rfl) ?_
        refine zq_ne rfl (zq_ch_in (hR_2.2.1 _ _ _ (zq_L4 ha0).2.2.2.2.2)) (of_decide_eq_true rfl) (fun hb_11 => ?_) (fun hb_11 => ?_)
        · rw [if_neg hb_11] at w
          refine zq_run 2 (pc' := 55) (L' := [(.ref (a0)), (zq_vi (x1)), (.ref (a2)), (zq_vi (x3)), (zq_vi (zq_i s (a0 + 6) ((x1 * 12) + x3)))]) (st' := [(zq_vi (zq_i s (a0 + 6) ((x1 * 12) + x3))), (.ref (a2))]) (fun _ _ _ => rfl) ?_
          refine zq_call_v (i := .invokevirtual 87) (r := [1, 19, 1, 1, 1]) rfl rfl (fun h hp => zr_avv rfl (hp.obj ha2)) (of_decide_eq_false rfl) w (fun s_12 w => ?_)
          refine zq_iinc (L' := [(.ref (a0)), (zq_vi (x1)), (.ref (a2)), (zq_vi (x3 + 1)), (zq_vi (zq_i s (a0 + 6) ((x1 * 12) + x3)))]) rfl rfl rfl ?_
          refine zq_run 1 (pc' := 2) (L' := [(.ref (a0)), (zq_vi (x1)), (.ref (a2)), (zq_vi (x3 + 1)), (zq_vi (zq_i s (a0 + 6) ((x1 * 12) + x3)))]) (st' := []) (fun _ _ _ => rfl) ?_
          exact w
        · rw [if_pos hb_11] at w
          refine zq_run 2 (pc' := 49) (L' := [(.ref (a0)), (zq_vi (x1)), (.ref (a2)), (zq_vi (x3)), (zq_vi (zq_i s (a0 + 6) ((x1 * 12) + x3)))]) (st' := [(zq_vi (92)), (.ref (a2))]) (fun _ _ _ => rfl) ?_
          refine zq_call_v (i := .invokevirtual 87) (r := [1, 19, 1, 1, 1]) rfl rfl (fun h hp => zr_avv rfl (hp.obj ha2)) (of_decide_eq_false rfl) w (fun s_13 w => ?_)
          refine zq_run 2 (pc' := 55) (L' := [(.ref (a0)), (zq_vi (x1)), (.ref (a2)), (zq_vi (x3)), (zq_vi (zq_i s (a0 + 6) ((x1 * 12) + x3)))]) (st' := [(zq_vi (zq_i s (a0 + 6) ((x1 * 12) + x3))), (.ref (a2))]) (fun _ _ _ => rfl) ?_
          refine zq_call_v (i := .invokevirtual 87) (r := [1, 19, 1, 1, 1]) rfl rfl (fun h hp => zr_avv rfl (hp.obj ha2)) (of_decide_eq_false rfl) w (fun s_14 w => ?_)
          refine zq_iinc (L' := [(.ref (a0)), (zq_vi (x1)), (.ref (a2)), (zq_vi (x3 + 1)), (zq_vi (zq_i s (a0 + 6) ((x1 * 12) + x3)))]) rfl rfl rfl ?_
          refine zq_run 1 (pc' := 2) (L' := [(.ref (a0)), (zq_vi (x1)), (.ref (a2)), (zq_vi (x3 + 1)), (zq_vi (zq_i s (a0 + 6) ((x1 * 12) + x3)))]) (st' := []) (fun _ _ _ => rfl) ?_
          exact w
/-- PaperObjects$Text.addReference(II)V -/
theorem zw_27 {X : Nat × (Nat → Int32)} {s : zq_S} {K : zq_S → Prop} {a0 : Nat} (ha0 : zq_o 1 a0) {x1 : Int} (hx1 : zq_iv x1) {x2 : Int} (hx2 : zq_iv x2) (w : (zq_Ex X 19 0 [(.ref (a0)), (zq_vi (48 + x1))] [] s (zq_rv fun s_1 => (zq_Ex X 19 0 [(.ref (a0)), (zq_vi (32))] [] s_1 (zq_rv fun s_2 => (zq_Ex X 19 0 [(.ref (a0)), (zq_vi (48 + x2))] [] s_2 (zq_rv fun s_3 => (zq_Ex X 19 0 [(.ref (a0)), (zq_vi (32))] [] s_3 (zq_rv fun s_4 => (zq_Ex X 19 0 [(.ref (a0)), (zq_vi (82))] [] s_4 (zq_rv fun s_5 => K s_5))))))))))) : zq_Ex X 27 0 [(.ref (a0)), (zq_vi (x1)), (zq_vi (x2))] [] s (zq_rv K) := by
  refine zq_run 3 (pc' := 4) (L' := [(.ref (a0)), (zq_vi (x1)), (zq_vi (x2))]) (st' := [(zq_vi (x1)), (zq_vi (48)), (.ref (a0))]) (fun _ _ _ => rfl) ?_
  refine zq_iadd rfl ?_
  refine zq_call_v (i := .invokevirtual 23) (r := [1, 19, 1, 1, 1]) rfl rfl (fun h hp => zr_avv rfl (hp.obj ha0)) (of_decide_eq_false rfl) w (fun s_1 w => ?_)
  refine zq_run 2 (pc' := 11) (L' := [(.ref (a0)), (zq_vi (x1)), (zq_vi (x2))]) (st' := [(zq_vi (32)), (.ref (a0))]) (fun _ _ _ => rfl) ?_
  refine zq_call_v (i := .invokevirtual 23) (r := [1, 19, 1, 1, 1]) rfl rfl (fun h hp => zr_avv rfl (hp.obj ha0)) (of_decide_eq_false rfl) w (fun s_2 w => ?_)
  refine zq_run 3 (pc' := 18) (L' := [(.ref (a0)), (zq_vi (x1)), (zq_vi (x2))]) (st' := [(zq_vi (x2)), (zq_vi (48)), (.ref (a0))]) (fun _ _ _ => rfl) ?_
  refine zq_iadd rfl ?_
  refine zq_call_v (i := .invokevirtual 23) (r := [1, 19, 1, 1, 1]) rfl rfl (fun h hp => zr_avv rfl (hp.obj ha0)) (of_decide_eq_false rfl) w (fun s_3 w => ?_)
  refine zq_run 2 (pc' := 25) (L' := [(.ref (a0)), (zq_vi (x1)), (zq_vi (x2))]) (st' := [(zq_vi (32)), (.ref (a0))]) (fun _ _ _ => rfl) ?_
  refine zq_call_v (i := .invokevirtual 23) (r := [1, 19, 1, 1, 1]) rfl rfl (fun h hp => zr_avv rfl (hp.obj ha0)) (of_decide_eq_false rfl) w (fun s_4 w => ?_)
  refine zq_run 2 (pc' := 31) (L' := [(.ref (a0)), (zq_vi (x1)), (zq_vi (x2))]) (st' := [(zq_vi (82)), (.ref (a0))]) (fun _ _ _ => rfl) ?_
  refine zq_call_v (i := .invokevirtual 23) (r := [1, 19, 1, 1, 1]) rfl rfl (fun h hp => zr_avv rfl (hp.obj ha0)) (of_decide_eq_false rfl) w (fun s_5 w => ?_)
  exact zq_vret rfl rfl (⟨rfl, w⟩)
/-- PaperObjects$Tree.printClosing(ILPaperObjects$Text;)V -/
theorem zw_28 {X : Nat × (Nat → Int32)} {s : zq_S} {K : zq_S → Prop} {a0 : Nat} (ha0 : zq_o 4 a0) {x1 : Int} (hx1 : zq_iv x1) {a2 : Nat} (ha2 : zq_o 1 a2) (w : (((0 : Int) ≤ x1 ∧ x1 < (12 : Int)) ∧ (if zq_i s (a0 + 1) (x1) = 6 then (zq_Ex X 19 0 [(.ref (a2)), (zq_vi (93))] [] s (zq_rv fun s_7 => K s_7)) else (((0 : Int) ≤ x1 ∧ x1 < (12 : Int)) ∧ (if zq_i s (a0 + 1) (x1) = 7 then (zq_Ex X 23 0 [(.ref (a2)), (.ref (1000000 + 4)), zz_no] [] s (zq_rv fun s_6 => K s_6)) else K s))))) : zq_Ex X 28 0 [(.ref (a0)), (zq_vi (x1)), (.ref (a2))] [] s (zq_rv K) := by
  refine zq_run 1 (pc' := 1) (L' := [(.ref (a0)), (zq_vi (x1)), (.ref (a2))]) (st' := [(.ref (a0))]) (fun _ _ _ => rfl) ?_
  refine zq_getf_f (b := a0 + 1) rfl ha0 rfl rfl ?_
  refine zq_run 1 (pc' := 5) (L' := [(.ref (a0)), (zq_vi (x1)), (.ref (a2))]) (st' := [(zq_vi (x1)), (.ref (a0 + 1))]) (fun _ _ _ => rfl) ?_
  obtain ⟨g_1, w⟩ := w
  refine zq_have (fun hR_2 => ?_)
  refine zq_ald_i (v := zq_i s (a0 + 1) (x1)) rfl (zq_L4 ha0).1 g_1.1 g_1.2 rfl ?_
  refine zq_run 1 (pc' := 8) (L' := [(.ref (a0)), (zq_vi (x1)), (.ref (a2))]) (st' := [(zq_vi (6)), (zq_vi (zq_i s (a0 + 1) (x1)))]) (fun _ _ _ => rfl) ?_
  refine zq_ne rfl (hR_2.1 _ _) (of_decide_eq_true rfl) (fun hb_3 => ?_) (fun hb_3 => ?_)
  · rw [if_neg hb_3] at w
    refine zq_run 1 (pc' := 21) (L' := [(.ref (a0)), (zq_vi (x1)), (.ref (a2))]) (st' := [(.ref (a0))]) (fun _ _ _ => rfl) ?_
    refine zq_getf_f (b := a0 + 1) rfl ha0 rfl rfl ?_
    refine zq_run 1 (pc' := 25) (L' := [(.ref (a0)), (zq_vi (x1)), (.ref (a2))]) (st' := [(zq_vi (x1)), (.ref (a0 + 1))]) (fun _ _ _ => rfl) ?_
    obtain ⟨g_4, w⟩ := w
    refine zq_ald_i (v := zq_i s (a0 + 1) (x1)) rfl (zq_L4 ha0).1 g_4.1 g_4.2 rfl ?_
    refine zq_run 1 (pc' := 28) (L' := [(.ref (a0)), (zq_vi (x1)), (.ref (a2))]) (st' := [(zq_vi (7)), (zq_vi (zq_i s (a0 + 1) (x1)))]) (fun _ _ _ => rfl) ?_
    refine zq_ne rfl (hR_2.1 _ _) (of_decide_eq_true rfl) (fun hb_5 => ?_) (fun hb_5 => ?_)
    · rw [if_neg hb_5] at w
      exact zq_vret rfl rfl (⟨rfl, w⟩)
    · rw [if_pos hb_5] at w
      refine zq_run 2 (pc' := 34) (L' := [(.ref (a0)), (zq_vi (x1)), (.ref (a2))]) (st' := [(.ref (1000000 + 4)), (.ref (a2))]) (fun _ _ _ => rfl) ?_
      refine zq_call_v (i := .invokevirtual 97) (r := [1, 23, 1, 1, 1]) rfl rfl (fun h hp => zr_avv rfl (hp.obj ha2)) (of_decide_eq_false rfl) w (fun s_6 w => ?_)
      exact zq_vret rfl rfl (⟨rfl, w⟩)
  · rw [if_pos hb_3] at w
    refine zq_run 2 (pc' := 14) (L' := [(.ref (a0)), (zq_vi (x1)), (.ref (a2))]) (st' := [(zq_vi (93)), (.ref (a2))]) (fun _ _ _ => rfl) ?_
    refine zq_call_v (i := .invokevirtual 87) (r := [1, 19, 1, 1, 1]) rfl rfl (fun h hp => zr_avv rfl (hp.obj ha2)) (of_decide_eq_false rfl) w (fun s_7 w => ?_)
    refine zq_run 1 (pc' := 37) (L' := [(.ref (a0)), (zq_vi (x1)), (.ref (a2))]) (st' := []) (fun _ _ _ => rfl) ?_
    exact zq_vret rfl rfl (⟨rfl, w⟩)
/-- PaperObjects$Text.code(I)I -/
theorem zw_29 {X : Nat × (Nat → Int32)} {s : zq_S} {K : Int → zq_S → Prop} {a0 : Nat} (ha0 : zq_o 1 a0) {x1 : Int} (hx1 : zq_iv x1) (w : (if x1 < 0 then K ((-1)) s else (if x1 < zq_i s (a0) (1) then (((0 : Int) ≤ x1 ∧ x1 < ((zq_T (a0) : Nat) : Int)) ∧ K (zq_i s (a0 + 1) (x1)) s) else K ((-1)) s))) : zq_Ex X 29 0 [(.ref (a0)), (zq_vi (x1))] [] s (zq_rp zq_iv K) := by
  refine zq_run 1 (pc' := 1) (L' := [(.ref (a0)), (zq_vi (x1))]) (st' := [(zq_vi (x1))]) (fun _ _ _ => rfl) ?_
  refine zq_lt0 rfl hx1 (fun hb_1 => ?_) (fun hb_1 => ?_)
  · rw [if_pos hb_1] at w
    refine zq_run 1 (pc' := 22) (L' := [(.ref (a0)), (zq_vi (x1))]) (st' := [(zq_vi ((-1)))]) (fun _ _ _ => rfl) ?_
    exact zq_iret rfl rfl rfl (⟨_, rfl, (of_decide_eq_true rfl), w⟩)
  · rw [if_neg hb_1] at w
    refine zq_run 2 (pc' := 6) (L' := [(.ref (a0)), (zq_vi (x1))]) (st' := [(.ref (a0)), (zq_vi (x1))]) (fun _ _ _ => rfl) ?_
    refine zq_have (fun hR_2 => ?_)
    refine zq_getf_i (j := 1) (v := zq_i s (a0) (1)) rfl ha0 rfl rfl rfl ?_
    refine zq_ge rfl hx1 (hR_2.1 _ _) (fun hb_3 => ?_) (fun hb_3 => ?_)
    · rw [if_neg hb_3] at w
      refine zq_run 1 (pc' := 22) (L' := [(.ref (a0)), (zq_vi (x1))]) (st' := [(zq_vi ((-1)))]) (fun _ _ _ => rfl) ?_
      exact zq_iret rfl rfl rfl (⟨_, rfl, (of_decide_eq_true rfl), w⟩)
    · rw [if_pos hb_3] at w
      refine zq_run 1 (pc' := 13) (L' := [(.ref (a0)), (zq_vi (x1))]) (st' := [(.ref (a0))]) (fun _ _ _ => rfl) ?_
      refine zq_getf_f (b := a0 + 1) rfl ha0 rfl rfl ?_
      refine zq_run 1 (pc' := 17) (L' := [(.ref (a0)), (zq_vi (x1))]) (st' := [(zq_vi (x1)), (.ref (a0 + 1))]) (fun _ _ _ => rfl) ?_
      obtain ⟨g_4, w⟩ := w
      refine zq_ald_c (v := zq_i s (a0 + 1) (x1)) rfl (zq_L1 ha0) g_4.1 g_4.2 rfl ?_
      refine zq_run 1 (pc' := 22) (L' := [(.ref (a0)), (zq_vi (x1))]) (st' := [(zq_vi (zq_i s (a0 + 1) (x1)))]) (fun _ _ _ => rfl) ?_
      exact zq_iret rfl rfl rfl (⟨_, rfl, (zq_ch_in (hR_2.2.1 _ _ _ (zq_L1 ha0))), w⟩)
/-- PaperObjects.reached()I -/
theorem zw_30 {X : Nat × (Nat → Int32)} {s : zq_S} {K : Int → zq_S → Prop}  (w : (∃ b_2 : Nat, zq_r s (0) 8 = some b_2 ∧ (zq_Ex X 31 0 [(.ref (b_2)), zz_no, zz_no] [] s (zq_rp zq_iv fun x_5 s_4 => (zq_Ex X 37 0 [(zq_vi (x_5))] [] s_4 (zq_rp zq_iv fun x_8 s_7 => K (x_8) s_7)))))) : zq_Ex X 30 0 [(.ref (0))] [] s (zq_rp zq_iv K) := by
  refine zq_run 1 (pc' := 1) (L' := [(.ref (0))]) (st' := [(.ref (0))]) (fun _ _ _ => rfl) ?_
  refine zq_have (fun hR_1 => ?_)
  obtain ⟨b_2, hb_3, w⟩ := w
  refine zq_getf_rs (j := 8) rfl zq_a0 rfl rfl hb_3 ?_
  refine zq_call_i (i := .invokevirtual 171) (r := [1, 31, 0, 1, 8]) rfl rfl (fun h hp => zr_avv rfl (hp.obj (zq_fcls hR_1 (k := 8) (j := 8) (cj := 8) zq_a0 rfl rfl hb_3))) (of_decide_eq_false rfl) w (fun x_5 s_4 hx_6 w => ?_)
  refine zq_call_i (i := .invokestatic 224) (r := [1, 37, 1, 0, 0]) rfl rfl (fun _ _ => rfl) (of_decide_eq_false rfl) w (fun x_8 s_7 hx_9 w => ?_)
  exact zq_iret rfl rfl rfl (⟨_, rfl, hx_9, w⟩)
/-- PaperObjects$Table.reachedOnes()I -/
theorem zw_31 {X : Nat × (Nat → Int32)} {s : zq_S} {K : Int → zq_S → Prop} {a0 : Nat} (ha0 : zq_o 8 a0) (w : (zq_Ex X 32 0 [(.ref (a0)), (zq_vi (zq_i s (a0) (2))), (zq_vi (zq_i s (a0) (3))), zz_no] [] s (zq_rr 7 fun o_3 s_2 => ((o_3 = none → zq_Ex X 31 28 [(.ref (a0)), (zq_vi (0)), (zq_vi (0))] [] s_2 (zq_rp zq_iv K)) ∧ (∀ b_4 : Nat, o_3 = some b_4 → zq_Ex X 31 28 [(.ref (a0)), (zq_vi (zq_shl (1) (zq_i s_2 (a0) (2)))), (zq_vi (0))] [] s_2 (zq_rp zq_iv K)))))) : zq_Ex X 31 0 [(.ref (a0)), zz_no, zz_no] [] s (zq_rp zq_iv K) := by
  refine zq_run 2 (pc' := 2) (L' := [(.ref (a0)), zz_no, zz_no]) (st' := [(.ref (a0)), (.ref (a0))]) (fun _ _ _ => rfl) ?_
  refine zq_have (fun hR_1 => ?_)
  refine zq_getf_i (j := 2) (v := zq_i s (a0) (2)) rfl ha0 rfl rfl rfl ?_
  refine zq_run 1 (pc' := 6) (L' := [(.ref (a0)), zz_no, zz_no]) (st' := [(.ref (a0)), (zq_vi (zq_i s (a0) (2))), (.ref (a0))]) (fun _ _ _ => rfl) ?_
  refine zq_getf_i (j := 3) (v := zq_i s (a0) (3)) rfl ha0 rfl rfl rfl ?_
  refine zq_call_r (i := .invokevirtual 53) (r := [1, 32, 2, 1, 8]) rfl rfl (fun h hp => zr_avv rfl (hp.obj ha0)) (of_decide_eq_false rfl) w (fun s_2 w => ?_) (fun b_4 s_2 hb_5 w => ?_)
  · replace w := w.1 rfl
    refine zq_run 6 (pc' := 28) (L' := [(.ref (a0)), (zq_vi (0)), (zq_vi (0))]) (st' := []) (fun _ _ _ => rfl) ?_
    exact w
  · replace w := w.2 b_4 rfl
    refine zq_run 3 (pc' := 21) (L' := [(.ref (a0)), zz_no, zz_no]) (st' := [(.ref (a0)), (zq_vi (1))]) (fun _ _ _ => rfl) ?_
    refine zq_have (fun hR_6 => ?_)
    refine zq_getf_i (j := 2) (v := zq_i s_2 (a0) (2)) rfl ha0 rfl rfl rfl ?_
    refine zq_ishl rfl ?_
    refine zq_run 3 (pc' := 28) (L' := [(.ref (a0)), (zq_vi (zq_shl (1) (zq_i s_2 (a0) (2)))), (zq_vi (0))]) (st' := []) (fun _ _ _ => rfl) ?_
    exact w
/-- PaperObjects$Table.reachedOnes at 28 -/
theorem zw_31_28 {X : Nat × (Nat → Int32)} {s : zq_S} {K : Int → zq_S → Prop} {a0 : Nat} (ha0 : zq_o 8 a0) {x1 : Int} (hx1 : zq_iv x1) {x2 : Int} (hx2 : zq_iv x2) (w : (if x2 < 9 then (zq_Ex X 34 0 [(.ref (a0)), (zq_vi (x1)), zz_no, zz_no] [] s (zq_rp zq_iv fun x_3 s_2 => zq_Ex X 31 28 [(.ref (a0)), (zq_vi (zq_or (x1) (x_3))), (zq_vi (x2 + 1))] [] s_2 (zq_rp zq_iv K))) else K (x1) s)) : zq_Ex X 31 28 [(.ref (a0)), (zq_vi (x1)), (zq_vi (x2))] [] s (zq_rp zq_iv K) := by
  refine zq_run 2 (pc' := 31) (L' := [(.ref (a0)), (zq_vi (x1)), (zq_vi (x2))]) (st' := [(zq_vi (9)), (zq_vi (x2))]) (fun _ _ _ => rfl) ?_
  refine zq_ge rfl hx2 (of_decide_eq_true rfl) (fun hb_1 => ?_) (fun hb_1 => ?_)
  · rw [if_neg hb_1] at w
    refine zq_run 1 (pc' := 49) (L' := [(.ref (a0)), (zq_vi (x1)), (zq_vi (x2))]) (st' := [(zq_vi (x1))]) (fun _ _ _ => rfl) ?_
    exact zq_iret rfl rfl rfl (⟨_, rfl, hx1, w⟩)
  · rw [if_pos hb_1] at w
    refine zq_run 3 (pc' := 37) (L' := [(.ref (a0)), (zq_vi (x1)), (zq_vi (x2))]) (st' := [(zq_vi (x1)), (.ref (a0)), (zq_vi (x1))]) (fun _ _ _ => rfl) ?_
    refine zq_call_i (i := .invokevirtual 57) (r := [1, 34, 1, 1, 8]) rfl rfl (fun h hp => zr_avv rfl (hp.obj ha0)) (of_decide_eq_false rfl) w (fun x_3 s_2 hx_4 w => ?_)
    refine zq_ior rfl ?_
    refine zq_run 1 (pc' := 42) (L' := [(.ref (a0)), (zq_vi (zq_or (x1) (x_3))), (zq_vi (x2))]) (st' := []) (fun _ _ _ => rfl) ?_
    refine zq_iinc (L' := [(.ref (a0)), (zq_vi (zq_or (x1) (x_3))), (zq_vi (x2 + 1))]) rfl rfl rfl ?_
    refine zq_run 1 (pc' := 28) (L' := [(.ref (a0)), (zq_vi (zq_or (x1) (x_3))), (zq_vi (x2 + 1))]) (st' := []) (fun _ _ _ => rfl) ?_
    exact w
/-- PaperObjects$Table.meant(II)LPaperObjects$Slot; -/
theorem zw_32 {X : Nat × (Nat → Int32)} {s : zq_S} {K : Option Nat → zq_S → Prop} {a0 : Nat} (ha0 : zq_o 8 a0) {x1 : Int} (hx1 : zq_iv x1) {x2 : Int} (hx2 : zq_iv x2) (w : (zq_Ex X 33 0 [(.ref (a0)), (zq_vi (x1)), zz_no] [] s (zq_rr 7 fun o_2 s_1 => ((o_2 = none → K none s_1) ∧ (∀ b_3 : Nat, o_2 = some b_3 → (if zq_i s_1 (b_3) (3) = x2 then K (some (b_3)) s_1 else K none s_1)))))) : zq_Ex X 32 0 [(.ref (a0)), (zq_vi (x1)), (zq_vi (x2)), zz_no] [] s (zq_rr 7 K) := by
  refine zq_run 2 (pc' := 2) (L' := [(.ref (a0)), (zq_vi (x1)), (zq_vi (x2)), zz_no]) (st' := [(zq_vi (x1)), (.ref (a0))]) (fun _ _ _ => rfl) ?_
  refine zq_call_r (i := .invokevirtual 40) (r := [1, 33, 1, 1, 8]) rfl rfl (fun h hp => zr_avv rfl (hp.obj ha0)) (of_decide_eq_false rfl) w (fun s_1 w => ?_) (fun b_3 s_1 hb_4 w => ?_)
  · replace w := w.1 rfl
    refine zq_run 4 (pc' := 23) (L' := [(.ref (a0)), (zq_vi (x1)), (zq_vi (x2)), .null]) (st' := [.null]) (fun _ _ _ => rfl) ?_
    exact zq_aret (v := none) rfl rfl (⟨_, rfl, (fun b hb => by cases hb), w⟩)
  · replace w := w.2 b_3 rfl
    refine zq_run 4 (pc' := 11) (L' := [(.ref (a0)), (zq_vi (x1)), (zq_vi (x2)), (.ref (b_3))]) (st' := [(.ref (b_3))]) (fun _ _ _ => rfl) ?_
    refine zq_have (fun hR_5 => ?_)
    refine zq_getf_i (j := 3) (v := zq_i s_1 (b_3) (3)) rfl hb_4 rfl rfl rfl ?_
    refine zq_run 1 (pc' := 15) (L' := [(.ref (a0)), (zq_vi (x1)), (zq_vi (x2)), (.ref (b_3))]) (st' := [(zq_vi (x2)), (zq_vi (zq_i s_1 (b_3) (3)))]) (fun _ _ _ => rfl) ?_
    refine zq_ne rfl (hR_5.1 _ _) hx2 (fun hb_6 => ?_) (fun hb_6 => ?_)
    · rw [if_neg hb_6] at w
      refine zq_run 1 (pc' := 23) (L' := [(.ref (a0)), (zq_vi (x1)), (zq_vi (x2)), (.ref (b_3))]) (st' := [.null]) (fun _ _ _ => rfl) ?_
      exact zq_aret (v := none) rfl rfl (⟨_, rfl, (fun b hb => by cases hb), w⟩)
    · rw [if_pos hb_6] at w
      refine zq_run 2 (pc' := 23) (L' := [(.ref (a0)), (zq_vi (x1)), (zq_vi (x2)), (.ref (b_3))]) (st' := [(.ref (b_3))]) (fun _ _ _ => rfl) ?_
      exact zq_aret (v := some (b_3)) rfl rfl (⟨_, rfl, (fun b hb => by cases hb; exact hb_4), w⟩)
/-- PaperObjects$Table.slotInUse(I)LPaperObjects$Slot; -/
theorem zw_33 {X : Nat × (Nat → Int32)} {s : zq_S} {K : Option Nat → zq_S → Prop} {a0 : Nat} (ha0 : zq_o 8 a0) {x1 : Int} (hx1 : zq_iv x1) (w : (if x1 < 1 then K none s else (if x1 ≤ 9 then (((0 : Int) ≤ x1 - 1 ∧ x1 - 1 < 9) ∧ (if zq_i s (a0 + 1 + 8 + 10 * (x1 - 1).toNat) (0) = 0 then K none s else (((0 : Int) ≤ x1 - 1 ∧ x1 - 1 < 9) ∧ K (some (a0 + 1 + 8 + 10 * (x1 - 1).toNat)) s))) else K none s))) : zq_Ex X 33 0 [(.ref (a0)), (zq_vi (x1)), zz_no] [] s (zq_rr 7 K) := by
  refine zq_run 2 (pc' := 2) (L' := [(.ref (a0)), (zq_vi (x1)), zz_no]) (st' := [(zq_vi (1)), (zq_vi (x1))]) (fun _ _ _ => rfl) ?_
  refine zq_lt rfl hx1 (of_decide_eq_true rfl) (fun hb_1 => ?_) (fun hb_1 => ?_)
  · rw [if_pos hb_1] at w
    refine zq_run 3 (pc' := 32) (L' := [(.ref (a0)), (zq_vi (x1)), (zq_vi (0))]) (st' := [(zq_vi (0))]) (fun _ _ _ => rfl) ?_
    refine zq_eq0 rfl (of_decide_eq_true rfl) (fun _ => ?_) (fun hb => absurd (by decide) hb)
    refine zq_run 1 (pc' := 47) (L' := [(.ref (a0)), (zq_vi (x1)), (zq_vi (0))]) (st' := [.null]) (fun _ _ _ => rfl) ?_
    exact zq_aret (v := none) rfl rfl (⟨_, rfl, (fun b hb => by cases hb), w⟩)
  · rw [if_neg hb_1] at w
    refine zq_run 2 (pc' := 8) (L' := [(.ref (a0)), (zq_vi (x1)), zz_no]) (st' := [(zq_vi (9)), (zq_vi (x1))]) (fun _ _ _ => rfl) ?_
    refine zq_gt rfl hx1 (of_decide_eq_true rfl) (fun hb_2 => ?_) (fun hb_2 => ?_)
    · rw [if_neg hb_2] at w
      refine zq_run 3 (pc' := 32) (L' := [(.ref (a0)), (zq_vi (x1)), (zq_vi (0))]) (st' := [(zq_vi (0))]) (fun _ _ _ => rfl) ?_
      refine zq_eq0 rfl (of_decide_eq_true rfl) (fun _ => ?_) (fun hb => absurd (by decide) hb)
      refine zq_run 1 (pc' := 47) (L' := [(.ref (a0)), (zq_vi (x1)), (zq_vi (0))]) (st' := [.null]) (fun _ _ _ => rfl) ?_
      exact zq_aret (v := none) rfl rfl (⟨_, rfl, (fun b hb => by cases hb), w⟩)
    · rw [if_pos hb_2] at w
      refine zq_run 1 (pc' := 12) (L' := [(.ref (a0)), (zq_vi (x1)), zz_no]) (st' := [(.ref (a0))]) (fun _ _ _ => rfl) ?_
      refine zq_getf_f (b := a0 + 1) rfl ha0 rfl rfl ?_
      refine zq_run 2 (pc' := 17) (L' := [(.ref (a0)), (zq_vi (x1)), zz_no]) (st' := [(zq_vi (1)), (zq_vi (x1)), (.ref (a0 + 1))]) (fun _ _ _ => rfl) ?_
      refine zq_isub rfl ?_
      obtain ⟨g_3, w⟩ := w
      refine zq_ald_s rfl (zq_L8 ha0).1 g_3.1 g_3.2 ?_
      refine zq_have (fun hR_4 => ?_)
      refine zq_getf_i (j := 0) (v := zq_i s (a0 + 1 + 8 + 10 * (x1 - 1).toNat) (0)) rfl (zq_L8s ha0 g_3.1 g_3.2) rfl rfl rfl ?_
      refine zq_eq0 rfl (zq_bo_in (hR_4.2.2.2.1 _ 7 0 (zq_L8s ha0 g_3.1 g_3.2) rfl)) (fun hb_5 => ?_) (fun hb_5 => ?_)
      · rw [if_pos hb_5] at w
        refine zq_run 3 (pc' := 32) (L' := [(.ref (a0)), (zq_vi (x1)), (zq_vi (0))]) (st' := [(zq_vi (0))]) (fun _ _ _ => rfl) ?_
        refine zq_eq0 rfl (of_decide_eq_true rfl) (fun _ => ?_) (fun hb => absurd (by decide) hb)
        refine zq_run 1 (pc' := 47) (L' := [(.ref (a0)), (zq_vi (x1)), (zq_vi (0))]) (st' := [.null]) (fun _ _ _ => rfl) ?_
        exact zq_aret (v := none) rfl rfl (⟨_, rfl, (fun b hb => by cases hb), w⟩)
      · rw [if_neg hb_5] at w
        refine zq_run 4 (pc' := 32) (L' := [(.ref (a0)), (zq_vi (x1)), (zq_vi (1))]) (st' := [(zq_vi (1))]) (fun _ _ _ => rfl) ?_
        refine zq_eq0 rfl (of_decide_eq_true rfl) (fun hb => absurd hb (by decide)) (fun _ => ?_)
        refine zq_run 1 (pc' := 36) (L' := [(.ref (a0)), (zq_vi (x1)), (zq_vi (1))]) (st' := [(.ref (a0))]) (fun _ _ _ => rfl) ?_
        refine zq_getf_f (b := a0 + 1) rfl ha0 rfl rfl ?_
        refine zq_run 2 (pc' := 41) (L' := [(.ref (a0)), (zq_vi (x1)), (zq_vi (1))]) (st' := [(zq_vi (1)), (zq_vi (x1)), (.ref (a0 + 1))]) (fun _ _ _ => rfl) ?_
        refine zq_isub rfl ?_
        obtain ⟨g_6, w⟩ := w
        refine zq_ald_s rfl (zq_L8 ha0).1 g_6.1 g_6.2 ?_
        refine zq_run 1 (pc' := 47) (L' := [(.ref (a0)), (zq_vi (x1)), (zq_vi (1))]) (st' := [(.ref (a0 + 1 + 8 + 10 * (x1 - 1).toNat))]) (fun _ _ _ => rfl) ?_
        exact zq_aret (v := some (a0 + 1 + 8 + 10 * (x1 - 1).toNat)) rfl rfl (⟨_, rfl, (fun b hb => by cases hb; exact (zq_L8s ha0 g_6.1 g_6.2)), w⟩)
/-- PaperObjects$Table.onesMeantBy(I)I -/
theorem zw_34 {X : Nat × (Nat → Int32)} {s : zq_S} {K : Int → zq_S → Prop} {a0 : Nat} (ha0 : zq_o 8 a0) {x1 : Int} (hx1 : zq_iv x1) (w : zq_Ex X 34 4 [(.ref (a0)), (zq_vi (x1)), (zq_vi (0)), (zq_vi (0))] [] s (zq_rp zq_iv K)) : zq_Ex X 34 0 [(.ref (a0)), (zq_vi (x1)), zz_no, zz_no] [] s (zq_rp zq_iv K) := by
  refine zq_run 4 (pc' := 4) (L' := [(.ref (a0)), (zq_vi (x1)), (zq_vi (0)), (zq_vi (0))]) (st' := []) (fun _ _ _ => rfl) ?_
  exact w
/-- PaperObjects$Table.onesMeantBy at 4 -/
theorem zw_34_4 {X : Nat × (Nat → Int32)} {s : zq_S} {K : Int → zq_S → Prop} {a0 : Nat} (ha0 : zq_o 8 a0) {x1 : Int} (hx1 : zq_iv x1) {x2 : Int} (hx2 : zq_iv x2) {x3 : Int} (hx3 : zq_iv x3) (w : (if x3 < 9 then (zq_Ex X 35 0 [(zq_vi (x1)), (zq_vi (x3 + 1))] [] s (zq_rp zq_bo fun x_3 s_2 => (if x_3 = 0 then zq_Ex X 34 4 [(.ref (a0)), (zq_vi (x1)), (zq_vi (x2)), (zq_vi (x3 + 1))] [] s_2 (zq_rp zq_iv K) else (((0 : Int) ≤ x3 ∧ x3 < 9) ∧ (∃ b_8 : Nat, zq_r s_2 (a0 + 1 + 8 + 10 * (x3).toNat) 4 = some b_8 ∧ (zq_Ex X 36 0 [(.ref (a0)), (.ref (b_8)), zz_no, zz_no, zz_no] [] s_2 (zq_rp zq_iv fun x_11 s_10 => zq_Ex X 34 4 [(.ref (a0)), (zq_vi (x1)), (zq_vi (zq_or (x2) (x_11))), (zq_vi (x3 + 1))] [] s_10 (zq_rp zq_iv K)))))))) else K (x2) s)) : zq_Ex X 34 4 [(.ref (a0)), (zq_vi (x1)), (zq_vi (x2)), (zq_vi (x3))] [] s (zq_rp zq_iv K) := by
  refine zq_run 2 (pc' := 7) (L' := [(.ref (a0)), (zq_vi (x1)), (zq_vi (x2)), (zq_vi (x3))]) (st' := [(zq_vi (9)), (zq_vi (x3))]) (fun _ _ _ => rfl) ?_
  refine zq_ge rfl hx3 (of_decide_eq_true rfl) (fun hb_1 => ?_) (fun hb_1 => ?_)
  · rw [if_neg hb_1] at w
    refine zq_run 1 (pc' := 43) (L' := [(.ref (a0)), (zq_vi (x1)), (zq_vi (x2)), (zq_vi (x3))]) (st' := [(zq_vi (x2))]) (fun _ _ _ => rfl) ?_
    exact zq_iret rfl rfl rfl (⟨_, rfl, hx2, w⟩)
  · rw [if_pos hb_1] at w
    refine zq_run 3 (pc' := 13) (L' := [(.ref (a0)), (zq_vi (x1)), (zq_vi (x2)), (zq_vi (x3))]) (st' := [(zq_vi (1)), (zq_vi (x3)), (zq_vi (x1))]) (fun _ _ _ => rfl) ?_
    refine zq_iadd rfl ?_
    refine zq_call_i (i := .invokestatic 61) (r := [1, 35, 2, 0, 0]) rfl rfl (fun _ _ => rfl) (of_decide_eq_false rfl) w (fun x_3 s_2 hx_4 w => ?_)
    refine zq_eq0 rfl (zq_bo_in hx_4) (fun hb_5 => ?_) (fun hb_5 => ?_)
    · rw [if_pos hb_5] at w
      refine zq_iinc (L' := [(.ref (a0)), (zq_vi (x1)), (zq_vi (x2)), (zq_vi (x3 + 1))]) rfl rfl rfl ?_
      refine zq_run 1 (pc' := 4) (L' := [(.ref (a0)), (zq_vi (x1)), (zq_vi (x2)), (zq_vi (x3 + 1))]) (st' := []) (fun _ _ _ => rfl) ?_
      exact w
    · rw [if_neg hb_5] at w
      refine zq_run 3 (pc' := 23) (L' := [(.ref (a0)), (zq_vi (x1)), (zq_vi (x2)), (zq_vi (x3))]) (st' := [(.ref (a0)), (.ref (a0)), (zq_vi (x2))]) (fun _ _ _ => rfl) ?_
      refine zq_getf_f (b := a0 + 1) rfl ha0 rfl rfl ?_
      refine zq_run 1 (pc' := 27) (L' := [(.ref (a0)), (zq_vi (x1)), (zq_vi (x2)), (zq_vi (x3))]) (st' := [(zq_vi (x3)), (.ref (a0 + 1)), (.ref (a0)), (zq_vi (x2))]) (fun _ _ _ => rfl) ?_
      obtain ⟨g_6, w⟩ := w
      refine zq_ald_s rfl (zq_L8 ha0).1 g_6.1 g_6.2 ?_
      refine zq_have (fun hR_7 => ?_)
      obtain ⟨b_8, hb_9, w⟩ := w
      refine zq_getf_rs (j := 4) rfl (zq_L8s ha0 g_6.1 g_6.2) rfl rfl hb_9 ?_
      refine zq_call_i (i := .invokevirtual 68) (r := [1, 36, 1, 1, 8]) rfl rfl (fun h hp => zr_avv rfl (hp.obj ha0)) (of_decide_eq_false rfl) w (fun x_11 s_10 hx_12 w => ?_)
      refine zq_ior rfl ?_
      refine zq_run 1 (pc' := 36) (L' := [(.ref (a0)), (zq_vi (x1)), (zq_vi (zq_or (x2) (x_11))), (zq_vi (x3))]) (st' := []) (fun _ _ _ => rfl) ?_
      refine zq_iinc (L' := [(.ref (a0)), (zq_vi (x1)), (zq_vi (zq_or (x2) (x_11))), (zq_vi (x3 + 1))]) rfl rfl rfl ?_
      refine zq_run 1 (pc' := 4) (L' := [(.ref (a0)), (zq_vi (x1)), (zq_vi (zq_or (x2) (x_11))), (zq_vi (x3 + 1))]) (st' := []) (fun _ _ _ => rfl) ?_
      exact w
/-- PaperObjects.contains(II)Z -/
theorem zw_35 {X : Nat × (Nat → Int32)} {s : zq_S} {K : Int → zq_S → Prop} {x0 : Int} (hx0 : zq_iv x0) {x1 : Int} (hx1 : zq_iv x1) (w : (if zq_and (zq_shr (x0) (x1)) (1) = 1 then K (1) s else K (0) s)) : zq_Ex X 35 0 [(zq_vi (x0)), (zq_vi (x1))] [] s (zq_rp zq_bo K) := by
  refine zq_run 2 (pc' := 2) (L' := [(zq_vi (x0)), (zq_vi (x1))]) (st' := [(zq_vi (x1)), (zq_vi (x0))]) (fun _ _ _ => rfl) ?_
  refine zq_ishr rfl ?_
  refine zq_run 1 (pc' := 4) (L' := [(zq_vi (x0)), (zq_vi (x1))]) (st' := [(zq_vi (1)), (zq_vi (zq_shr (x0) (x1)))]) (fun _ _ _ => rfl) ?_
  refine zq_iand rfl ?_
  refine zq_run 1 (pc' := 6) (L' := [(zq_vi (x0)), (zq_vi (x1))]) (st' := [(zq_vi (1)), (zq_vi (zq_and (zq_shr (x0) (x1)) (1)))]) (fun _ _ _ => rfl) ?_
  refine zq_ne rfl (zq_in32 _) (of_decide_eq_true rfl) (fun hb_1 => ?_) (fun hb_1 => ?_)
  · rw [if_neg hb_1] at w
    refine zq_run 1 (pc' := 14) (L' := [(zq_vi (x0)), (zq_vi (x1))]) (st' := [(zq_vi (0))]) (fun _ _ _ => rfl) ?_
    exact zq_iret rfl rfl (congrArg Value.int (zq_nb (of_decide_eq_true rfl))) (⟨_, rfl, (of_decide_eq_true rfl), w⟩)
  · rw [if_pos hb_1] at w
    refine zq_run 2 (pc' := 14) (L' := [(zq_vi (x0)), (zq_vi (x1))]) (st' := [(zq_vi (1))]) (fun _ _ _ => rfl) ?_
    exact zq_iret rfl rfl (congrArg Value.int (zq_nb (of_decide_eq_true rfl))) (⟨_, rfl, (of_decide_eq_true rfl), w⟩)
/-- PaperObjects$Table.onesMeantIn(LPaperObjects$Tree;)I -/
theorem zw_36 {X : Nat × (Nat → Int32)} {s : zq_S} {K : Int → zq_S → Prop} {a0 : Nat} (ha0 : zq_o 8 a0) {a1 : Nat} (ha1 : zq_o 4 a1) (w : zq_Ex X 36 4 [(.ref (a0)), (.ref (a1)), (zq_vi (0)), (zq_vi (0)), zz_no] [] s (zq_rp zq_iv K)) : zq_Ex X 36 0 [(.ref (a0)), (.ref (a1)), zz_no, zz_no, zz_no] [] s (zq_rp zq_iv K) := by
  refine zq_run 4 (pc' := 4) (L' := [(.ref (a0)), (.ref (a1)), (zq_vi (0)), (zq_vi (0)), zz_no]) (st' := []) (fun _ _ _ => rfl) ?_
  exact w
/-- PaperObjects$Table.onesMeantIn at 4 -/
theorem zw_36_4 {X : Nat × (Nat → Int32)} {s : zq_S} {K : Int → zq_S → Prop} {a0 : Nat} (ha0 : zq_o 8 a0) {a1 : Nat} (ha1 : zq_o 4 a1) {x2 : Int} (hx2 : zq_iv x2) {x3 : Int} (hx3 : zq_iv x3) {v4 : Value} (hv4 : v4.category = 1) (w : (if x3 < zq_i s (a1) (0) then (((0 : Int) ≤ x3 ∧ x3 < (12 : Int)) ∧ (if zq_i s (a1 + 1) (x3) = 8 then (((0 : Int) ≤ x3 ∧ x3 < (12 : Int)) ∧ (((0 : Int) ≤ x3 ∧ x3 < (12 : Int)) ∧ (zq_Ex X 32 0 [(.ref (a0)), (zq_vi (zq_i s (a1 + 3) (x3))), (zq_vi (zq_i s (a1 + 4) (x3))), zz_no] [] s (zq_rr 7 fun o_8 s_7 => ((o_8 = none → zq_Ex X 36 4 [(.ref (a0)), (.ref (a1)), (zq_vi (zq_or (x2) (0))), (zq_vi (x3 + 1)), (zq_vi (0))] [] s_7 (zq_rp zq_iv K)) ∧ (∀ b_9 : Nat, o_8 = some b_9 → (((0 : Int) ≤ x3 ∧ x3 < (12 : Int)) ∧ zq_Ex X 36 4 [(.ref (a0)), (.ref (a1)), (zq_vi (zq_or (x2) (zq_shl (1) (zq_i s_7 (a1 + 3) (x3))))), (zq_vi (x3 + 1)), (zq_vi (1))] [] s_7 (zq_rp zq_iv K)))))))) else zq_Ex X 36 4 [(.ref (a0)), (.ref (a1)), (zq_vi (zq_or (x2) (0))), (zq_vi (x3 + 1)), (zq_vi (0))] [] s (zq_rp zq_iv K))) else K (x2) s)) : zq_Ex X 36 4 [(.ref (a0)), (.ref (a1)), (zq_vi (x2)), (zq_vi (x3)), v4] [] s (zq_rp zq_iv K) := by
  refine zq_run 2 (pc' := 6) (L' := [(.ref (a0)), (.ref (a1)), (zq_vi (x2)), (zq_vi (x3)), v4]) (st' := [(.ref (a1)), (zq_vi (x3))]) (fun _ _ _ => rfl) ?_
  refine zq_have (fun hR_1 => ?_)
  refine zq_getf_i (j := 0) (v := zq_i s (a1) (0)) rfl ha1 rfl rfl rfl ?_
  refine zq_ge rfl hx3 (hR_1.1 _ _) (fun hb_2 => ?_) (fun hb_2 => ?_)
  · rw [if_neg hb_2] at w
    refine zq_run 1 (pc' := 76) (L' := [(.ref (a0)), (.ref (a1)), (zq_vi (x2)), (zq_vi (x3)), v4]) (st' := [(zq_vi (x2))]) (fun _ _ _ => rfl) ?_
    exact zq_iret rfl rfl rfl (⟨_, rfl, hx2, w⟩)
  · rw [if_pos hb_2] at w
    refine zq_run 1 (pc' := 13) (L' := [(.ref (a0)), (.ref (a1)), (zq_vi (x2)), (zq_vi (x3)), v4]) (st' := [(.ref (a1))]) (fun _ _ _ => rfl) ?_
    refine zq_getf_f (b := a1 + 1) rfl ha1 rfl rfl ?_
    refine zq_run 1 (pc' := 17) (L' := [(.ref (a0)), (.ref (a1)), (zq_vi (x2)), (zq_vi (x3)), v4]) (st' := [(zq_vi (x3)), (.ref (a1 + 1))]) (fun _ _ _ => rfl) ?_
    obtain ⟨g_3, w⟩ := w
    refine zq_ald_i (v := zq_i s (a1 + 1) (x3)) rfl (zq_L4 ha1).1 g_3.1 g_3.2 rfl ?_
    refine zq_run 1 (pc' := 20) (L' := [(.ref (a0)), (.ref (a1)), (zq_vi (x2)), (zq_vi (x3)), v4]) (st' := [(zq_vi (8)), (zq_vi (zq_i s (a1 + 1) (x3)))]) (fun _ _ _ => rfl) ?_
    refine zq_ne rfl (hR_1.1 _ _) (of_decide_eq_true rfl) (fun hb_4 => ?_) (fun hb_4 => ?_)
    · rw [if_neg hb_4] at w
      refine zq_run 4 (pc' := 52) (L' := [(.ref (a0)), (.ref (a1)), (zq_vi (x2)), (zq_vi (x3)), (zq_vi (0))]) (st' := [(zq_vi (0)), (zq_vi (x2))]) (fun _ _ _ => rfl) ?_
      refine zq_eq0 rfl (of_decide_eq_true rfl) (fun _ => ?_) (fun hb => absurd (by decide) hb)
      refine zq_run 1 (pc' := 67) (L' := [(.ref (a0)), (.ref (a1)), (zq_vi (x2)), (zq_vi (x3)), (zq_vi (0))]) (st' := [(zq_vi (0)), (zq_vi (x2))]) (fun _ _ _ => rfl) ?_
      refine zq_ior rfl ?_
      refine zq_run 1 (pc' := 69) (L' := [(.ref (a0)), (.ref (a1)), (zq_vi (zq_or (x2) (0))), (zq_vi (x3)), (zq_vi (0))]) (st' := []) (fun _ _ _ => rfl) ?_
      refine zq_iinc (L' := [(.ref (a0)), (.ref (a1)), (zq_vi (zq_or (x2) (0))), (zq_vi (x3 + 1)), (zq_vi (0))]) rfl rfl rfl ?_
      refine zq_run 1 (pc' := 4) (L' := [(.ref (a0)), (.ref (a1)), (zq_vi (zq_or (x2) (0))), (zq_vi (x3 + 1)), (zq_vi (0))]) (st' := []) (fun _ _ _ => rfl) ?_
      exact w
    · rw [if_pos hb_4] at w
      refine zq_run 2 (pc' := 25) (L' := [(.ref (a0)), (.ref (a1)), (zq_vi (x2)), (zq_vi (x3)), v4]) (st' := [(.ref (a1)), (.ref (a0))]) (fun _ _ _ => rfl) ?_
      refine zq_getf_f (b := a1 + 3) rfl ha1 rfl rfl ?_
      refine zq_run 1 (pc' := 29) (L' := [(.ref (a0)), (.ref (a1)), (zq_vi (x2)), (zq_vi (x3)), v4]) (st' := [(zq_vi (x3)), (.ref (a1 + 3)), (.ref (a0))]) (fun _ _ _ => rfl) ?_
      obtain ⟨g_5, w⟩ := w
      refine zq_ald_i (v := zq_i s (a1 + 3) (x3)) rfl (zq_L4 ha1).2.2.1 g_5.1 g_5.2 rfl ?_
      refine zq_run 1 (pc' := 31) (L' := [(.ref (a0)), (.ref (a1)), (zq_vi (x2)), (zq_vi (x3)), v4]) (st' := [(.ref (a1)), (zq_vi (zq_i s (a1 + 3) (x3))), (.ref (a0))]) (fun _ _ _ => rfl) ?_
      refine zq_getf_f (b := a1 + 4) rfl ha1 rfl rfl ?_
      refine zq_run 1 (pc' := 35) (L' := [(.ref (a0)), (.ref (a1)), (zq_vi (x2)), (zq_vi (x3)), v4]) (st' := [(zq_vi (x3)), (.ref (a1 + 4)), (zq_vi (zq_i s (a1 + 3) (x3))), (.ref (a0))]) (fun _ _ _ => rfl) ?_
      obtain ⟨g_6, w⟩ := w
      refine zq_ald_i (v := zq_i s (a1 + 4) (x3)) rfl (zq_L4 ha1).2.2.2.1 g_6.1 g_6.2 rfl ?_
      refine zq_call_r (i := .invokevirtual 53) (r := [1, 32, 2, 1, 8]) rfl rfl (fun h hp => zr_avv rfl (hp.obj ha0)) (of_decide_eq_false rfl) w (fun s_7 w => ?_) (fun b_9 s_7 hb_10 w => ?_)
      · replace w := w.1 rfl
        refine zq_run 5 (pc' := 52) (L' := [(.ref (a0)), (.ref (a1)), (zq_vi (x2)), (zq_vi (x3)), (zq_vi (0))]) (st' := [(zq_vi (0)), (zq_vi (x2))]) (fun _ _ _ => rfl) ?_
        refine zq_eq0 rfl (of_decide_eq_true rfl) (fun _ => ?_) (fun hb => absurd (by decide) hb)
        refine zq_run 1 (pc' := 67) (L' := [(.ref (a0)), (.ref (a1)), (zq_vi (x2)), (zq_vi (x3)), (zq_vi (0))]) (st' := [(zq_vi (0)), (zq_vi (x2))]) (fun _ _ _ => rfl) ?_
        refine zq_ior rfl ?_
        refine zq_run 1 (pc' := 69) (L' := [(.ref (a0)), (.ref (a1)), (zq_vi (zq_or (x2) (0))), (zq_vi (x3)), (zq_vi (0))]) (st' := []) (fun _ _ _ => rfl) ?_
        refine zq_iinc (L' := [(.ref (a0)), (.ref (a1)), (zq_vi (zq_or (x2) (0))), (zq_vi (x3 + 1)), (zq_vi (0))]) rfl rfl rfl ?_
        refine zq_run 1 (pc' := 4) (L' := [(.ref (a0)), (.ref (a1)), (zq_vi (zq_or (x2) (0))), (zq_vi (x3 + 1)), (zq_vi (0))]) (st' := []) (fun _ _ _ => rfl) ?_
        exact w
      · replace w := w.2 b_9 rfl
        refine zq_run 6 (pc' := 52) (L' := [(.ref (a0)), (.ref (a1)), (zq_vi (x2)), (zq_vi (x3)), (zq_vi (1))]) (st' := [(zq_vi (1)), (zq_vi (x2))]) (fun _ _ _ => rfl) ?_
        refine zq_eq0 rfl (of_decide_eq_true rfl) (fun hb => absurd hb (by decide)) (fun _ => ?_)
        refine zq_run 2 (pc' := 57) (L' := [(.ref (a0)), (.ref (a1)), (zq_vi (x2)), (zq_vi (x3)), (zq_vi (1))]) (st' := [(.ref (a1)), (zq_vi (1)), (zq_vi (x2))]) (fun _ _ _ => rfl) ?_
        refine zq_getf_f (b := a1 + 3) rfl ha1 rfl rfl ?_
        refine zq_run 1 (pc' := 61) (L' := [(.ref (a0)), (.ref (a1)), (zq_vi (x2)), (zq_vi (x3)), (zq_vi (1))]) (st' := [(zq_vi (x3)), (.ref (a1 + 3)), (zq_vi (1)), (zq_vi (x2))]) (fun _ _ _ => rfl) ?_
        obtain ⟨g_11, w⟩ := w
        refine zq_have (fun hR_12 => ?_)
        refine zq_ald_i (v := zq_i s_7 (a1 + 3) (x3)) rfl (zq_L4 ha1).2.2.1 g_11.1 g_11.2 rfl ?_
        refine zq_ishl rfl ?_
        refine zq_run 1 (pc' := 67) (L' := [(.ref (a0)), (.ref (a1)), (zq_vi (x2)), (zq_vi (x3)), (zq_vi (1))]) (st' := [(zq_vi (zq_shl (1) (zq_i s_7 (a1 + 3) (x3)))), (zq_vi (x2))]) (fun _ _ _ => rfl) ?_
        refine zq_ior rfl ?_
        refine zq_run 1 (pc' := 69) (L' := [(.ref (a0)), (.ref (a1)), (zq_vi (zq_or (x2) (zq_shl (1) (zq_i s_7 (a1 + 3) (x3))))), (zq_vi (x3)), (zq_vi (1))]) (st' := []) (fun _ _ _ => rfl) ?_
        refine zq_iinc (L' := [(.ref (a0)), (.ref (a1)), (zq_vi (zq_or (x2) (zq_shl (1) (zq_i s_7 (a1 + 3) (x3))))), (zq_vi (x3 + 1)), (zq_vi (1))]) rfl rfl rfl ?_
        refine zq_run 1 (pc' := 4) (L' := [(.ref (a0)), (.ref (a1)), (zq_vi (zq_or (x2) (zq_shl (1) (zq_i s_7 (a1 + 3) (x3))))), (zq_vi (x3 + 1)), (zq_vi (1))]) (st' := []) (fun _ _ _ => rfl) ?_
        exact w
/-- java/lang/Integer.bitCount(I)I -/
theorem zw_37 {X : Nat × (Nat → Int32)} {s : zq_S} {K : Int → zq_S → Prop} {x0 : Int} (hx0 : zq_iv x0) (w : K (zq_and (((zq_and (((zq_and (x0 - (zq_and (zq_ush (x0) (1)) (1431655765))) (858993459)) + (zq_and (zq_ush (x0 - (zq_and (zq_ush (x0) (1)) (1431655765))) (2)) (858993459))) + (zq_ush ((zq_and (x0 - (zq_and (zq_ush (x0) (1)) (1431655765))) (858993459)) + (zq_and (zq_ush (x0 - (zq_and (zq_ush (x0) (1)) (1431655765))) (2)) (858993459))) (4))) (252645135)) + (zq_ush (zq_and (((zq_and (x0 - (zq_and (zq_ush (x0) (1)) (1431655765))) (858993459)) + (zq_and (zq_ush (x0 - (zq_and (zq_ush (x0) (1)) (1431655765))) (2)) (858993459))) + (zq_ush ((zq_and (x0 - (zq_and (zq_ush (x0) (1)) (1431655765))) (858993459)) + (zq_and (zq_ush (x0 - (zq_and (zq_ush (x0) (1)) (1431655765))) (2)) (858993459))) (4))) (252645135)) (8))) + (zq_ush ((zq_and (((zq_and (x0 - (zq_and (zq_ush (x0) (1)) (1431655765))) (858993459)) + (zq_and (zq_ush (x0 - (zq_and (zq_ush (x0) (1)) (1431655765))) (2)) (858993459))) + (zq_ush ((zq_and (x0 - (zq_and (zq_ush (x0) (1)) (1431655765))) (858993459)) + (zq_and (zq_ush (x0 - (zq_and (zq_ush (x0) (1)) (1431655765))) (2)) (858993459))) (4))) (252645135)) + (zq_ush (zq_and (((zq_and (x0 - (zq_and (zq_ush (x0) (1)) (1431655765))) (858993459)) + (zq_and (zq_ush (x0 - (zq_and (zq_ush (x0) (1)) (1431655765))) (2)) (858993459))) + (zq_ush ((zq_and (x0 - (zq_and (zq_ush (x0) (1)) (1431655765))) (858993459)) + (zq_and (zq_ush (x0 - (zq_and (zq_ush (x0) (1)) (1431655765))) (2)) (858993459))) (4))) (252645135)) (8))) (16))) (63)) s) : zq_Ex X 37 0 [(zq_vi (x0))] [] s (zq_rp zq_iv K) := by
  refine zq_run 3 (pc' := 3) (L' := [(zq_vi (x0))]) (st' := [(zq_vi (1)), (zq_vi (x0)), (zq_vi (x0))]) (fun _ _ _ => rfl) ?_
  refine zq_iush rfl ?_
  refine zq_run 1 (pc' := 7) (L' := [(zq_vi (x0))]) (st' := [(zq_vi (1431655765)), (zq_vi (zq_ush (x0) (1))), (zq_vi (x0))]) (fun _ _ _ => rfl) ?_
  refine zq_iand rfl ?_
  refine zq_isub rfl ?_
  refine zq_run 3 (pc' := 14) (L' := [(zq_vi (x0 - (zq_and (zq_ush (x0) (1)) (1431655765))))]) (st' := [(zq_vi (858993459)), (zq_vi (x0 - (zq_and (zq_ush (x0) (1)) (1431655765))))]) (fun _ _ _ => rfl) ?_
  refine zq_iand rfl ?_
  refine zq_run 2 (pc' := 17) (L' := [(zq_vi (x0 - (zq_and (zq_ush (x0) (1)) (1431655765))))]) (st' := [(zq_vi (2)), (zq_vi (x0 - (zq_and (zq_ush (x0) (1)) (1431655765)))), (zq_vi (zq_and (x0 - (zq_and (zq_ush (x0) (1)) (1431655765))) (858993459)))]) (fun _ _ _ => rfl) ?_
  refine zq_iush rfl ?_
  refine zq_run 1 (pc' := 21) (L' := [(zq_vi (x0 - (zq_and (zq_ush (x0) (1)) (1431655765))))]) (st' := [(zq_vi (858993459)), (zq_vi (zq_ush (x0 - (zq_and (zq_ush (x0) (1)) (1431655765))) (2))), (zq_vi (zq_and (x0 - (zq_and (zq_ush (x0) (1)) (1431655765))) (858993459)))]) (fun _ _ _ => rfl) ?_
  refine zq_iand rfl ?_
  refine zq_iadd rfl ?_
  refine zq_run 4 (pc' := 27) (L' := [(zq_vi ((zq_and (x0 - (zq_and (zq_ush (x0) (1)) (1431655765))) (858993459)) + (zq_and (zq_ush (x0 - (zq_and (zq_ush (x0) (1)) (1431655765))) (2)) (858993459))))]) (st' := [(zq_vi (4)), (zq_vi ((zq_and (x0 - (zq_and (zq_ush (x0) (1)) (1431655765))) (858993459)) + (zq_and (zq_ush (x0 - (zq_and (zq_ush (x0) (1)) (1431655765))) (2)) (858993459)))), (zq_vi ((zq_and (x0 - (zq_and (zq_ush (x0) (1)) (1431655765))) (858993459)) + (zq_and (zq_ush (x0 - (zq_and (zq_ush (x0) (1)) (1431655765))) (2)) (858993459))))]) (fun _ _ _ => rfl) ?_
  refine zq_iush rfl ?_
  refine zq_iadd rfl ?_
  refine zq_run 1 (pc' := 32) (L' := [(zq_vi ((zq_and (x0 - (zq_and (zq_ush (x0) (1)) (1431655765))) (858993459)) + (zq_and (zq_ush (x0 - (zq_and (zq_ush (x0) (1)) (1431655765))) (2)) (858993459))))]) (st' := [(zq_vi (252645135)), (zq_vi (((zq_and (x0 - (zq_and (zq_ush (x0) (1)) (1431655765))) (858993459)) + (zq_and (zq_ush (x0 - (zq_and (zq_ush (x0) (1)) (1431655765))) (2)) (858993459))) + (zq_ush ((zq_and (x0 - (zq_and (zq_ush (x0) (1)) (1431655765))) (858993459)) + (zq_and (zq_ush (x0 - (zq_and (zq_ush (x0) (1)) (1431655765))) (2)) (858993459))) (4))))]) (fun _ _ _ => rfl) ?_
  refine zq_iand rfl ?_
  refine zq_run 4 (pc' := 38) (L' := [(zq_vi (zq_and (((zq_and (x0 - (zq_and (zq_ush (x0) (1)) (1431655765))) (858993459)) + (zq_and (zq_ush (x0 - (zq_and (zq_ush (x0) (1)) (1431655765))) (2)) (858993459))) + (zq_ush ((zq_and (x0 - (zq_and (zq_ush (x0) (1)) (1431655765))) (858993459)) + (zq_and (zq_ush (x0 - (zq_and (zq_ush (x0) (1)) (1431655765))) (2)) (858993459))) (4))) (252645135)))]) (st' := [(zq_vi (8)), (zq_vi (zq_and (((zq_and (x0 - (zq_and (zq_ush (x0) (1)) (1431655765))) (858993459)) + (zq_and (zq_ush (x0 - (zq_and (zq_ush (x0) (1)) (1431655765))) (2)) (858993459))) + (zq_ush ((zq_and (x0 - (zq_and (zq_ush (x0) (1)) (1431655765))) (858993459)) + (zq_and (zq_ush (x0 - (zq_and (zq_ush (x0) (1)) (1431655765))) (2)) (858993459))) (4))) (252645135))), (zq_vi (zq_and (((zq_and (x0 - (zq_and (zq_ush (x0) (1)) (1431655765))) (858993459)) + (zq_and (zq_ush (x0 - (zq_and (zq_ush (x0) (1)) (1431655765))) (2)) (858993459))) + (zq_ush ((zq_and (x0 - (zq_and (zq_ush (x0) (1)) (1431655765))) (858993459)) + (zq_and (zq_ush (x0 - (zq_and (zq_ush (x0) (1)) (1431655765))) (2)) (858993459))) (4))) (252645135)))]) (fun _ _ _ => rfl) ?_
  refine zq_iush rfl ?_
  refine zq_iadd rfl ?_
  refine zq_run 4 (pc' := 45) (L' := [(zq_vi ((zq_and (((zq_and (x0 - (zq_and (zq_ush (x0) (1)) (1431655765))) (858993459)) + (zq_and (zq_ush (x0 - (zq_and (zq_ush (x0) (1)) (1431655765))) (2)) (858993459))) + (zq_ush ((zq_and (x0 - (zq_and (zq_ush (x0) (1)) (1431655765))) (858993459)) + (zq_and (zq_ush (x0 - (zq_and (zq_ush (x0) (1)) (1431655765))) (2)) (858993459))) (4))) (252645135)) + (zq_ush (zq_and (((zq_and (x0 - (zq_and (zq_ush (x0) (1)) (1431655765))) (858993459)) + (zq_and (zq_ush (x0 - (zq_and (zq_ush (x0) (1)) (1431655765))) (2)) (858993459))) + (zq_ush ((zq_and (x0 - (zq_and (zq_ush (x0) (1)) (1431655765))) (858993459)) + (zq_and (zq_ush (x0 - (zq_and (zq_ush (x0) (1)) (1431655765))) (2)) (858993459))) (4))) (252645135)) (8))))]) (st' := [(zq_vi (16)), (zq_vi ((zq_and (((zq_and (x0 - (zq_and (zq_ush (x0) (1)) (1431655765))) (858993459)) + (zq_and (zq_ush (x0 - (zq_and (zq_ush (x0) (1)) (1431655765))) (2)) (858993459))) + (zq_ush ((zq_and (x0 - (zq_and (zq_ush (x0) (1)) (1431655765))) (858993459)) + (zq_and (zq_ush (x0 - (zq_and (zq_ush (x0) (1)) (1431655765))) (2)) (858993459))) (4))) (252645135)) + (zq_ush (zq_and (((zq_and (x0 - (zq_and (zq_ush (x0) (1)) (1431655765))) (858993459)) + (zq_and (zq_ush (x0 - (zq_and (zq_ush (x0) (1)) (1431655765))) (2)) (858993459))) + (zq_ush ((zq_and (x0 - (zq_and (zq_ush (x0) (1)) (1431655765))) (858993459)) + (zq_and (zq_ush (x0 - (zq_and (zq_ush (x0) (1)) (1431655765))) (2)) (858993459))) (4))) (252645135)) (8)))), (zq_vi ((zq_and (((zq_and (x0 - (zq_and (zq_ush (x0) (1)) (1431655765))) (858993459)) + (zq_and (zq_ush (x0 - (zq_and (zq_ush (x0) (1)) (1431655765))) (2)) (858993459))) + (zq_ush ((zq_and (x0 - (zq_and (zq_ush (x0) (1)) (1431655765))) (858993459)) + (zq_and (zq_ush (x0 - (zq_and (zq_ush (x0) (1)) (1431655765))) (2)) (858993459))) (4))) (252645135)) + (zq_ush (zq_and (((zq_and (x0 - (zq_and (zq_ush (x0) (1)) (1431655765))) (858993459)) + (zq_and (zq_ush (x0 - (zq_and (zq_ush (x0) (1)) (1431655765))) (2)) (858993459))) + (zq_ush ((zq_and (x0 - (zq_and (zq_ush (x0) (1)) (1431655765))) (858993459)) + (zq_and (zq_ush (x0 - (zq_and (zq_ush (x0) (1)) (1431655765))) (2)) (858993459))) (4))) (252645135)) (8))))]) (fun _ _ _ => rfl) ?_
  refine zq_iush rfl ?_
  refine zq_iadd rfl ?_
  refine zq_run 3 (pc' := 51) (L' := [(zq_vi (((zq_and (((zq_and (x0 - (zq_and (zq_ush (x0) (1)) (1431655765))) (858993459)) + (zq_and (zq_ush (x0 - (zq_and (zq_ush (x0) (1)) (1431655765))) (2)) (858993459))) + (zq_ush ((zq_and (x0 - (zq_and (zq_ush (x0) (1)) (1431655765))) (858993459)) + (zq_and (zq_ush (x0 - (zq_and (zq_ush (x0) (1)) (1431655765))) (2)) (858993459))) (4))) (252645135)) + (zq_ush (zq_and (((zq_and (x0 - (zq_and (zq_ush (x0) (1)) (1431655765))) (858993459)) + (zq_and (zq_ush (x0 - (zq_and (zq_ush (x0) (1)) (1431655765))) (2)) (858993459))) + (zq_ush ((zq_and (x0 - (zq_and (zq_ush (x0) (1)) (1431655765))) (858993459)) + (zq_and (zq_ush (x0 - (zq_and (zq_ush (x0) (1)) (1431655765))) (2)) (858993459))) (4))) (252645135)) (8))) + (zq_ush ((zq_and (((zq_and (x0 - (zq_and (zq_ush (x0) (1)) (1431655765))) (858993459)) + (zq_and (zq_ush (x0 - (zq_and (zq_ush (x0) (1)) (1431655765))) (2)) (858993459))) + (zq_ush ((zq_and (x0 - (zq_and (zq_ush (x0) (1)) (1431655765))) (858993459)) + (zq_and (zq_ush (x0 - (zq_and (zq_ush (x0) (1)) (1431655765))) (2)) (858993459))) (4))) (252645135)) + (zq_ush (zq_and (((zq_and (x0 - (zq_and (zq_ush (x0) (1)) (1431655765))) (858993459)) + (zq_and (zq_ush (x0 - (zq_and (zq_ush (x0) (1)) (1431655765))) (2)) (858993459))) + (zq_ush ((zq_and (x0 - (zq_and (zq_ush (x0) (1)) (1431655765))) (858993459)) + (zq_and (zq_ush (x0 - (zq_and (zq_ush (x0) (1)) (1431655765))) (2)) (858993459))) (4))) (252645135)) (8))) (16))))]) (st' := [(zq_vi (63)), (zq_vi (((zq_and (((zq_and (x0 - (zq_and (zq_ush (x0) (1)) (1431655765))) (858993459)) + (zq_and (zq_ush (x0 - (zq_and (zq_ush (x0) (1)) (1431655765))) (2)) (858993459))) + (zq_ush ((zq_and (x0 - (zq_and (zq_ush (x0) (1)) (1431655765))) (858993459)) + (zq_and (zq_ush (x0 - (zq_and (zq_ush (x0) (1)) (1431655765))) (2)) (858993459))) (4))) (252645135)) + (zq_ush (zq_and (((zq_and (x0 - (zq_and (zq_ush (x0) (1)) (1431655765))) (858993459)) + (zq_and (zq_ush (x0 - (zq_and (zq_ush (x0) (1)) (1431655765))) (2)) (858993459))) + (zq_ush ((zq_and (x0 - (zq_and (zq_ush (x0) (1)) (1431655765))) (858993459)) + (zq_and (zq_ush (x0 - (zq_and (zq_ush (x0) (1)) (1431655765))) (2)) (858993459))) (4))) (252645135)) (8))) + (zq_ush ((zq_and (((zq_and (x0 - (zq_and (zq_ush (x0) (1)) (1431655765))) (858993459)) + (zq_and (zq_ush (x0 - (zq_and (zq_ush (x0) (1)) (1431655765))) (2)) (858993459))) + (zq_ush ((zq_and (x0 - (zq_and (zq_ush (x0) (1)) (1431655765))) (858993459)) + (zq_and (zq_ush (x0 - (zq_and (zq_ush (x0) (1)) (1431655765))) (2)) (858993459))) (4))) (252645135)) + (zq_ush (zq_and (((zq_and (x0 - (zq_and (zq_ush (x0) (1)) (1431655765))) (858993459)) + (zq_and (zq_ush (x0 - (zq_and (zq_ush (x0) (1)) (1431655765))) (2)) (858993459))) + (zq_ush ((zq_and (x0 - (zq_and (zq_ush (x0) (1)) (1431655765))) (858993459)) + (zq_and (zq_ush (x0 - (zq_and (zq_ush (x0) (1)) (1431655765))) (2)) (858993459))) (4))) (252645135)) (8))) (16))))]) (fun _ _ _ => rfl) ?_
  refine zq_iand rfl ?_
  exact zq_iret rfl rfl rfl (⟨_, rfl, (zq_in32 _), w⟩)
/-- PaperObjects.type(J)I -/
theorem zw_38 {X : Nat × (Nat → Int32)} {s : zq_S} {K : Int → zq_S → Prop} {T : Nat → zq_S → Prop} {y1 : Int64} (w : (zq_Ex X 39 0 [(.long (y1)), zz_no, zz_no] [] s (zq_rp zq_iv fun x_2 s_1 => zq_Ex X 38 8 [(.ref (0)), (.long (y1)), zz_no, (zq_vi (x_2)), (zq_vi (0))] [] s_1 (zq_rx (zq_rp zq_iv K) T)))) : zq_Ex X 38 0 [(.ref (0)), (.long (y1)), zz_no, zz_no, zz_no] [] s (zq_rx (zq_rp zq_iv K) T) := by
  refine zq_run 1 (pc' := 1) (L' := [(.ref (0)), (.long (y1)), zz_no, zz_no, zz_no]) (st' := [(.long (y1))]) (fun _ _ _ => rfl) ?_
  refine zq_call_i (i := .invokestatic 79) (r := [1, 39, 1, 0, 0]) rfl rfl (fun _ _ => rfl) (of_decide_eq_false rfl) w (fun x_2 s_1 hx_3 w => ?_)
  refine zq_run 3 (pc' := 8) (L' := [(.ref (0)), (.long (y1)), zz_no, (zq_vi (x_2)), (zq_vi (0))]) (st' := []) (fun _ _ _ => rfl) ?_
  exact w
/-- PaperObjects.type at 8 -/
theorem zw_38_8 {X : Nat × (Nat → Int32)} {s : zq_S} {K : Int → zq_S → Prop} {T : Nat → zq_S → Prop} {y1 : Int64} {x3 : Int} (hx3 : zq_iv x3) {x4 : Int} (hx4 : zq_iv x4) (w : (if x4 < x3 then (zq_Ex X 21 0 [(.long (y1)), zz_no, (zq_vi (x4))] [] s (zq_rp zq_iv fun x_8 s_7 => (zq_Ex X 40 0 [(zq_vi (x_8))] [] s_7 (zq_rp zq_bo fun x_11 s_10 => (if x_11 = 0 then (zq_n s_10 < 1000 ∧ T 10 (zq_sx s_10 10)) else zq_Ex X 38 8 [(.ref (0)), (.long (y1)), zz_no, (zq_vi (x3)), (zq_vi (x4 + 1))] [] s_10 (zq_rx (zq_rp zq_iv K) T)))))) else (zq_iv ((zq_i s (1) (1)) + x3) ∧ (if (zq_i s (1) (1)) + x3 ≤ 100 then (zq_Ex X 20 0 [(.ref (1)), (.long (y1)), zz_no, zz_no] [] s (zq_rv fun s_5 => K (zq_i s_5 (1) (1)) s_5)) else (zq_n s < 1000 ∧ T 10 (zq_sx s 10)))))) : zq_Ex X 38 8 [(.ref (0)), (.long (y1)), zz_no, (zq_vi (x3)), (zq_vi (x4))] [] s (zq_rx (zq_rp zq_iv K) T) := by
  refine zq_run 2 (pc' := 11) (L' := [(.ref (0)), (.long (y1)), zz_no, (zq_vi (x3)), (zq_vi (x4))]) (st' := [(zq_vi (x3)), (zq_vi (x4))]) (fun _ _ _ => rfl) ?_
  refine zq_ge rfl hx4 hx3 (fun hb_1 => ?_) (fun hb_1 => ?_)
  · rw [if_neg hb_1] at w
    refine zq_run 1 (pc' := 41) (L' := [(.ref (0)), (.long (y1)), zz_no, (zq_vi (x3)), (zq_vi (x4))]) (st' := [(.ref (0))]) (fun _ _ _ => rfl) ?_
    refine zq_getf_f (b := 1) rfl zq_a0 rfl rfl ?_
    refine zq_have (fun hR_2 => ?_)
    refine zq_getf_i (j := 1) (v := zq_i s (1) (1)) rfl zq_a1 rfl rfl rfl ?_
    refine zq_run 1 (pc' := 48) (L' := [(.ref (0)), (.long (y1)), zz_no, (zq_vi (x3)), (zq_vi (x4))]) (st' := [(zq_vi (x3)), (zq_vi (zq_i s (1) (1)))]) (fun _ _ _ => rfl) ?_
    refine zq_iadd rfl ?_
    refine zq_run 1 (pc' := 51) (L' := [(.ref (0)), (.long (y1)), zz_no, (zq_vi (x3)), (zq_vi (x4))]) (st' := [(zq_vi (100)), (zq_vi ((zq_i s (1) (1)) + x3))]) (fun _ _ _ => rfl) ?_
    obtain ⟨g_3, w⟩ := w
    refine zq_le rfl g_3 (of_decide_eq_true rfl) (fun hb_4 => ?_) (fun hb_4 => ?_)
    · rw [if_pos hb_4] at w
      refine zq_run 1 (pc' := 63) (L' := [(.ref (0)), (.long (y1)), zz_no, (zq_vi (x3)), (zq_vi (x4))]) (st' := [(.ref (0))]) (fun _ _ _ => rfl) ?_
      refine zq_getf_f (b := 1) rfl zq_a0 rfl rfl ?_
      refine zq_run 1 (pc' := 67) (L' := [(.ref (0)), (.long (y1)), zz_no, (zq_vi (x3)), (zq_vi (x4))]) (st' := [(.long (y1)), (.ref (1))]) (fun _ _ _ => rfl) ?_
      refine zq_call_v (i := .invokevirtual 97) (r := [1, 20, 1, 1, 1]) rfl rfl (fun h hp => zr_avv rfl (hp.obj zq_a1)) (of_decide_eq_false rfl) w (fun s_5 w => ?_)
      refine zq_run 1 (pc' := 71) (L' := [(.ref (0)), (.long (y1)), zz_no, (zq_vi (x3)), (zq_vi (x4))]) (st' := [(.ref (0))]) (fun _ _ _ => rfl) ?_
      refine zq_getf_f (b := 1) rfl zq_a0 rfl rfl ?_
      refine zq_have (fun hR_6 => ?_)
      refine zq_getf_i (j := 1) (v := zq_i s_5 (1) (1)) rfl zq_a1 rfl rfl rfl ?_
      exact zq_iret rfl rfl rfl (Or.inl ⟨_, rfl, (hR_6.1 _ _), w⟩)
    · rw [if_neg hb_4] at w
      exact zq_throw rfl rfl (of_decide_eq_true rfl) w.1 (zq_thr w.2)
  · rw [if_pos hb_1] at w
    refine zq_run 2 (pc' := 17) (L' := [(.ref (0)), (.long (y1)), zz_no, (zq_vi (x3)), (zq_vi (x4))]) (st' := [(zq_vi (x4)), (.long (y1))]) (fun _ _ _ => rfl) ?_
    refine zq_call_i (i := .invokestatic 83) (r := [1, 21, 2, 0, 0]) rfl rfl (fun _ _ => rfl) (of_decide_eq_false rfl) w (fun x_8 s_7 hx_9 w => ?_)
    refine zq_call_i (i := .invokestatic 87) (r := [1, 40, 1, 0, 0]) rfl rfl (fun _ _ => rfl) (of_decide_eq_false rfl) w (fun x_11 s_10 hx_12 w => ?_)
    refine zq_ne0 rfl (zq_bo_in hx_12) (fun hb_13 => ?_) (fun hb_13 => ?_)
    · rw [if_neg hb_13] at w
      refine zq_iinc (L' := [(.ref (0)), (.long (y1)), zz_no, (zq_vi (x3)), (zq_vi (x4 + 1))]) rfl rfl rfl ?_
      refine zq_run 1 (pc' := 8) (L' := [(.ref (0)), (.long (y1)), zz_no, (zq_vi (x3)), (zq_vi (x4 + 1))]) (st' := []) (fun _ _ _ => rfl) ?_
      exact w
    · rw [if_pos hb_13] at w
      exact zq_throw rfl rfl (of_decide_eq_true rfl) w.1 (zq_thr w.2)
