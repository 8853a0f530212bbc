/-! weakest preconditions of methods 86-138: printed by program (genW.py) -/
/-- PaperObjects.save(Z)I -/
theorem zw_86 {X : Nat × (Nat → Int32)} {s : zq_S} {K : Int → zq_S → Prop} {T : Nat → zq_S → Prop} {x1 : Int} (hx1 : zq_bo x1) (w : (∃ b_2 : Nat, zq_r s (0) 6 = some b_2 ∧ (zq_Ex X 87 0 [(.ref (b_2)), zz_no, zz_no, zz_no] [] s (zq_rp zq_iv fun x_5 s_4 => (∃ b_8 : Nat, zq_r s_4 (0) 8 = some b_8 ∧ (if zq_i s_4 (b_8) (2) = 0 then (zq_n s_4 < 1000 ∧ T 11 (zq_sx s_4 11)) else (if x1 = 0 then (if x_5 = (-1) then (zq_n s_4 < 1000 ∧ T 11 (zq_sx s_4 11)) else zq_Ex X 86 35 [(.ref (0)), (zq_vi (x1)), (zq_vi (x_5)), zz_no, zz_no] [] s_4 (zq_rx (zq_rp zq_iv K) T)) else zq_Ex X 86 35 [(.ref (0)), (zq_vi (x1)), (zq_vi (x_5)), zz_no, zz_no] [] s_4 (zq_rx (zq_rp zq_iv K) T)))))))) : zq_Ex X 86 0 [(.ref (0)), (zq_vi (x1)), zz_no, zz_no, zz_no] [] s (zq_rx (zq_rp zq_iv K) T) := by
  refine zq_run 1 (pc' := 1) (L' := [(.ref (0)), (zq_vi (x1)), zz_no, zz_no, zz_no]) (st' := [(.ref (0))]) (fun _ _ _ => rfl) ?_
  refine zq_have (fun hR_1 => ?_)
  obtain ⟨b_2, hb_3, w⟩ := w
  refine zq_getf_rs (j := 6) rfl zq_a0 rfl rfl hb_3 ?_
  refine zq_call_i (i := .invokevirtual 164) (r := [1, 87, 0, 1, 1]) rfl rfl (fun h hp => zr_avv rfl (hp.obj (zq_fcls hR_1 (k := 6) (j := 6) (cj := 1) zq_a0 rfl rfl hb_3))) (of_decide_eq_false rfl) w (fun x_5 s_4 hx_6 w => ?_)
  refine zq_run 2 (pc' := 9) (L' := [(.ref (0)), (zq_vi (x1)), (zq_vi (x_5)), zz_no, zz_no]) (st' := [(.ref (0))]) (fun _ _ _ => rfl) ?_
  refine zq_have (fun hR_7 => ?_)
  obtain ⟨b_8, hb_9, w⟩ := w
  refine zq_getf_rs (j := 8) rfl zq_a0 rfl rfl hb_9 ?_
  refine zq_getf_i (j := 2) (v := zq_i s_4 (b_8) (2)) rfl (zq_fcls hR_7 (k := 8) (j := 8) (cj := 8) zq_a0 rfl rfl hb_9) rfl rfl rfl ?_
  refine zq_eq0 rfl (hR_7.1 _ _) (fun hb_10 => ?_) (fun hb_10 => ?_)
  · rw [if_pos hb_10] at w
    exact zq_throw rfl rfl (of_decide_eq_true rfl) w.1 (zq_thr w.2)
  · rw [if_neg hb_10] at w
    refine zq_run 1 (pc' := 19) (L' := [(.ref (0)), (zq_vi (x1)), (zq_vi (x_5)), zz_no, zz_no]) (st' := [(zq_vi (x1))]) (fun _ _ _ => rfl) ?_
    refine zq_ne0 rfl (zq_bo_in hx1) (fun hb_11 => ?_) (fun hb_11 => ?_)
    · rw [if_neg hb_11] at w
      exact w
    · rw [if_pos hb_11] at w
      refine zq_run 2 (pc' := 24) (L' := [(.ref (0)), (zq_vi (x1)), (zq_vi (x_5)), zz_no, zz_no]) (st' := [(zq_vi ((-1))), (zq_vi (x_5))]) (fun _ _ _ => rfl) ?_
      refine zq_ne rfl hx_6 (of_decide_eq_true rfl) (fun hb_12 => ?_) (fun hb_12 => ?_)
      · rw [if_neg hb_12] at w
        exact w
      · rw [if_pos hb_12] at w
        exact zq_throw rfl rfl (of_decide_eq_true rfl) w.1 (zq_thr w.2)
/-- PaperObjects.save at 35 -/
theorem zw_86_35 {X : Nat × (Nat → Int32)} {s : zq_S} {K : Int → zq_S → Prop} {T : Nat → zq_S → Prop} {x1 : Int} (hx1 : zq_bo x1) {x2 : Int} (hx2 : zq_iv x2) {v3 : Value} (hv3 : v3.category = 1) {v4 : Value} (hv4 : v4.category = 1) (w : (if x1 = 0 then (∃ b_3 : Nat, zq_r s (0) 8 = some b_3 ∧ (zq_Ex X 88 0 [(.ref (b_3)), zz_no, zz_no] [] s (zq_rp zq_iv fun x_6 s_5 => (if x1 = 0 then (∃ b_10 : Nat, zq_r s_5 (0) 8 = some b_10 ∧ (zq_Ex X 89 0 [(.ref (b_10)), zz_no, zz_no] [] s_5 (zq_rp zq_iv fun x_13 s_12 => (∃ b_16 : Nat, zq_r s_12 (0) 8 = some b_16 ∧ (zq_Ex X 90 0 [(.ref (b_16)), (zq_vi (zq_and (x_6) (x_13))), (.ref (4)), zz_no, zz_no] [] s_12 (zq_rp zq_bo fun x_19 s_18 => (if x_19 = 0 then (zq_n s_18 < 1000 ∧ T 11 (zq_sx s_18 11)) else (zq_Ex X 95 0 [(.ref (0)), (zq_vi (x1))] [] s_18 (zq_rv fun s_22 => (∃ b_24 : Nat, zq_r s_22 (0) 7 = some b_24 ∧ (∃ b_26 : Nat, zq_r s_22 (0) 8 = some b_26 ∧ (zq_Ex X 96 0 [(.ref (21)), (.ref (b_24)), (.ref (b_26)), (zq_vi (zq_and (x_6) (x_13))), zz_no, zz_no] [] s_22 (zq_rv fun s_28 => (∃ b_30 : Nat, zq_r s_28 (0) 7 = some b_30 ∧ (∃ b_32 : Nat, zq_r s_28 (0) 8 = some b_32 ∧ (if x1 = 0 then (zq_Ex X 98 0 [(.ref (21)), (.ref (b_30)), (.ref (b_32)), (zq_vi (x_6)), (zq_vi (zq_and (x_6) (x_13))), (zq_vi (x2)), zz_no, zz_no] [] s_28 (zq_rv fun s_35 => (∃ b_37 : Nat, zq_r s_35 (0) 7 = some b_37 ∧ (if zq_i s_35 (b_37) (2) = 0 then (if x1 = 0 then zq_Ex X 86 182 [(.ref (0)), (zq_vi (x1)), (zq_vi (x2)), (zq_vi (x_6)), (zq_vi (zq_and (x_6) (x_13)))] [] s_35 (zq_rx (zq_rp zq_iv K) T) else (∃ b_41 : Nat, zq_r s_35 (0) 8 = some b_41 ∧ (zq_Ex X 103 0 [(.ref (b_41)), (zq_vi (zq_and (x_6) (x_13))), zz_no] [] s_35 (zq_rv fun s_43 => zq_Ex X 86 182 [(.ref (0)), (zq_vi (x1)), (zq_vi (x2)), (zq_vi (x_6)), (zq_vi (zq_and (x_6) (x_13)))] [] s_43 (zq_rx (zq_rp zq_iv K) T))))) else (zq_n s_35 < 1000 ∧ T 14 (zq_sx s_35 14)))))) else (zq_Ex X 98 0 [(.ref (21)), (.ref (b_30)), (.ref (b_32)), (zq_vi (x_6)), (zq_vi (zq_and (x_6) (x_13))), (zq_vi ((-1))), zz_no, zz_no] [] s_28 (zq_rv fun s_44 => (∃ b_46 : Nat, zq_r s_44 (0) 7 = some b_46 ∧ (if zq_i s_44 (b_46) (2) = 0 then (if x1 = 0 then zq_Ex X 86 182 [(.ref (0)), (zq_vi (x1)), (zq_vi (x2)), (zq_vi (x_6)), (zq_vi (zq_and (x_6) (x_13)))] [] s_44 (zq_rx (zq_rp zq_iv K) T) else (∃ b_50 : Nat, zq_r s_44 (0) 8 = some b_50 ∧ (zq_Ex X 103 0 [(.ref (b_50)), (zq_vi (zq_and (x_6) (x_13))), zz_no] [] s_44 (zq_rv fun s_52 => zq_Ex X 86 182 [(.ref (0)), (zq_vi (x1)), (zq_vi (x2)), (zq_vi (x_6)), (zq_vi (zq_and (x_6) (x_13)))] [] s_52 (zq_rx (zq_rp zq_iv K) T))))) else (zq_n s_44 < 1000 ∧ T 14 (zq_sx s_44 14)))))))))))))))))))))) else (∃ b_54 : Nat, zq_r s_5 (0) 8 = some b_54 ∧ (zq_Ex X 31 0 [(.ref (b_54)), zz_no, zz_no] [] s_5 (zq_rp zq_iv fun x_57 s_56 => (∃ b_60 : Nat, zq_r s_56 (0) 8 = some b_60 ∧ (zq_Ex X 90 0 [(.ref (b_60)), (zq_vi (x_57)), (.ref (4)), zz_no, zz_no] [] s_56 (zq_rp zq_bo fun x_63 s_62 => (if x_63 = 0 then (zq_n s_62 < 1000 ∧ T 11 (zq_sx s_62 11)) else (zq_Ex X 95 0 [(.ref (0)), (zq_vi (x1))] [] s_62 (zq_rv fun s_66 => (∃ b_68 : Nat, zq_r s_66 (0) 7 = some b_68 ∧ (∃ b_70 : Nat, zq_r s_66 (0) 8 = some b_70 ∧ (zq_Ex X 96 0 [(.ref (21)), (.ref (b_68)), (.ref (b_70)), (zq_vi (x_57)), zz_no, zz_no] [] s_66 (zq_rv fun s_72 => (∃ b_74 : Nat, zq_r s_72 (0) 7 = some b_74 ∧ (∃ b_76 : Nat, zq_r s_72 (0) 8 = some b_76 ∧ (if x1 = 0 then (zq_Ex X 98 0 [(.ref (21)), (.ref (b_74)), (.ref (b_76)), (zq_vi (x_6)), (zq_vi (x_57)), (zq_vi (x2)), zz_no, zz_no] [] s_72 (zq_rv fun s_79 => (∃ b_81 : Nat, zq_r s_79 (0) 7 = some b_81 ∧ (if zq_i s_79 (b_81) (2) = 0 then (if x1 = 0 then zq_Ex X 86 182 [(.ref (0)), (zq_vi (x1)), (zq_vi (x2)), (zq_vi (x_6)), (zq_vi (x_57))] [] s_79 (zq_rx (zq_rp zq_iv K) T) else (∃ b_85 : Nat, zq_r s_79 (0) 8 = some b_85 ∧ (zq_Ex X 103 0 [(.ref (b_85)), (zq_vi (x_57)), zz_no] [] s_79 (zq_rv fun s_87 => zq_Ex X 86 182 [(.ref (0)), (zq_vi (x1)), (zq_vi (x2)), (zq_vi (x_6)), (zq_vi (x_57))] [] s_87 (zq_rx (zq_rp zq_iv K) T))))) else (zq_n s_79 < 1000 ∧ T 14 (zq_sx s_79 14)))))) else (zq_Ex X 98 0 [(.ref (21)), (.ref (b_74)), (.ref (b_76)), (zq_vi (x_6)), (zq_vi (x_57)), (zq_vi ((-1))), zz_no, zz_no] [] s_72 (zq_rv fun s_88 => (∃ b_90 : Nat, zq_r s_88 (0) 7 = some b_90 ∧ (if zq_i s_88 (b_90) (2) = 0 then (if x1 = 0 then zq_Ex X 86 182 [(.ref (0)), (zq_vi (x1)), (zq_vi (x2)), (zq_vi (x_6)), (zq_vi (x_57))] [] s_88 (zq_rx (zq_rp zq_iv K) T) else (∃ b_94 : Nat, zq_r s_88 (0) 8 = some b_94 ∧ (zq_Ex X 103 0 [(.ref (b_94)), (zq_vi (x_57)), zz_no] [] s_88 (zq_rv fun s_96 => zq_Ex X 86 182 [(.ref (0)), (zq_vi (x1)), (zq_vi (x2)), (zq_vi (x_6)), (zq_vi (x_57))] [] s_96 (zq_rx (zq_rp zq_iv K) T))))) else (zq_n s_88 < 1000 ∧ T 14 (zq_sx s_88 14)))))))))))))))))))))))))) else (if x1 = 0 then (∃ b_99 : Nat, zq_r s (0) 8 = some b_99 ∧ (zq_Ex X 89 0 [(.ref (b_99)), zz_no, zz_no] [] s (zq_rp zq_iv fun x_102 s_101 => (∃ b_105 : Nat, zq_r s_101 (0) 8 = some b_105 ∧ (zq_Ex X 90 0 [(.ref (b_105)), (zq_vi (zq_and (1022) (x_102))), (.ref (4)), zz_no, zz_no] [] s_101 (zq_rp zq_bo fun x_108 s_107 => (if x_108 = 0 then (zq_n s_107 < 1000 ∧ T 11 (zq_sx s_107 11)) else (zq_Ex X 95 0 [(.ref (0)), (zq_vi (x1))] [] s_107 (zq_rv fun s_111 => (∃ b_113 : Nat, zq_r s_111 (0) 7 = some b_113 ∧ (∃ b_115 : Nat, zq_r s_111 (0) 8 = some b_115 ∧ (zq_Ex X 96 0 [(.ref (21)), (.ref (b_113)), (.ref (b_115)), (zq_vi (zq_and (1022) (x_102))), zz_no, zz_no] [] s_111 (zq_rv fun s_117 => (∃ b_119 : Nat, zq_r s_117 (0) 7 = some b_119 ∧ (∃ b_121 : Nat, zq_r s_117 (0) 8 = some b_121 ∧ (if x1 = 0 then (zq_Ex X 98 0 [(.ref (21)), (.ref (b_119)), (.ref (b_121)), (zq_vi (1022)), (zq_vi (zq_and (1022) (x_102))), (zq_vi (x2)), zz_no, zz_no] [] s_117 (zq_rv fun s_124 => (∃ b_126 : Nat, zq_r s_124 (0) 7 = some b_126 ∧ (if zq_i s_124 (b_126) (2) = 0 then (if x1 = 0 then zq_Ex X 86 182 [(.ref (0)), (zq_vi (x1)), (zq_vi (x2)), (zq_vi (1022)), (zq_vi (zq_and (1022) (x_102)))] [] s_124 (zq_rx (zq_rp zq_iv K) T) else (∃ b_130 : Nat, zq_r s_124 (0) 8 = some b_130 ∧ (zq_Ex X 103 0 [(.ref (b_130)), (zq_vi (zq_and (1022) (x_102))), zz_no] [] s_124 (zq_rv fun s_132 => zq_Ex X 86 182 [(.ref (0)), (zq_vi (x1)), (zq_vi (x2)), (zq_vi (1022)), (zq_vi (zq_and (1022) (x_102)))] [] s_132 (zq_rx (zq_rp zq_iv K) T))))) else (zq_n s_124 < 1000 ∧ T 14 (zq_sx s_124 14)))))) else (zq_Ex X 98 0 [(.ref (21)), (.ref (b_119)), (.ref (b_121)), (zq_vi (1022)), (zq_vi (zq_and (1022) (x_102))), (zq_vi ((-1))), zz_no, zz_no] [] s_117 (zq_rv fun s_133 => (∃ b_135 : Nat, zq_r s_133 (0) 7 = some b_135 ∧ (if zq_i s_133 (b_135) (2) = 0 then (if x1 = 0 then zq_Ex X 86 182 [(.ref (0)), (zq_vi (x1)), (zq_vi (x2)), (zq_vi (1022)), (zq_vi (zq_and (1022) (x_102)))] [] s_133 (zq_rx (zq_rp zq_iv K) T) else (∃ b_139 : Nat, zq_r s_133 (0) 8 = some b_139 ∧ (zq_Ex X 103 0 [(.ref (b_139)), (zq_vi (zq_and (1022) (x_102))), zz_no] [] s_133 (zq_rv fun s_141 => zq_Ex X 86 182 [(.ref (0)), (zq_vi (x1)), (zq_vi (x2)), (zq_vi (1022)), (zq_vi (zq_and (1022) (x_102)))] [] s_141 (zq_rx (zq_rp zq_iv K) T))))) else (zq_n s_133 < 1000 ∧ T 14 (zq_sx s_133 14)))))))))))))))))))))) else (∃ b_143 : Nat, zq_r s (0) 8 = some b_143 ∧ (zq_Ex X 31 0 [(.ref (b_143)), zz_no, zz_no] [] s (zq_rp zq_iv fun x_146 s_145 => (∃ b_149 : Nat, zq_r s_145 (0) 8 = some b_149 ∧ (zq_Ex X 90 0 [(.ref (b_149)), (zq_vi (x_146)), (.ref (4)), zz_no, zz_no] [] s_145 (zq_rp zq_bo fun x_152 s_151 => (if x_152 = 0 then (zq_n s_151 < 1000 ∧ T 11 (zq_sx s_151 11)) else (zq_Ex X 95 0 [(.ref (0)), (zq_vi (x1))] [] s_151 (zq_rv fun s_155 => (∃ b_157 : Nat, zq_r s_155 (0) 7 = some b_157 ∧ (∃ b_159 : Nat, zq_r s_155 (0) 8 = some b_159 ∧ (zq_Ex X 96 0 [(.ref (21)), (.ref (b_157)), (.ref (b_159)), (zq_vi (x_146)), zz_no, zz_no] [] s_155 (zq_rv fun s_161 => (∃ b_163 : Nat, zq_r s_161 (0) 7 = some b_163 ∧ (∃ b_165 : Nat, zq_r s_161 (0) 8 = some b_165 ∧ (if x1 = 0 then (zq_Ex X 98 0 [(.ref (21)), (.ref (b_163)), (.ref (b_165)), (zq_vi (1022)), (zq_vi (x_146)), (zq_vi (x2)), zz_no, zz_no] [] s_161 (zq_rv fun s_168 => (∃ b_170 : Nat, zq_r s_168 (0) 7 = some b_170 ∧ (if zq_i s_168 (b_170) (2) = 0 then (if x1 = 0 then zq_Ex X 86 182 [(.ref (0)), (zq_vi (x1)), (zq_vi (x2)), (zq_vi (1022)), (zq_vi (x_146))] [] s_168 (zq_rx (zq_rp zq_iv K) T) else (∃ b_174 : Nat, zq_r s_168 (0) 8 = some b_174 ∧ (zq_Ex X 103 0 [(.ref (b_174)), (zq_vi (x_146)), zz_no] [] s_168 (zq_rv fun s_176 => zq_Ex X 86 182 [(.ref (0)), (zq_vi (x1)), (zq_vi (x2)), (zq_vi (1022)), (zq_vi (x_146))] [] s_176 (zq_rx (zq_rp zq_iv K) T))))) else (zq_n s_168 < 1000 ∧ T 14 (zq_sx s_168 14)))))) else (zq_Ex X 98 0 [(.ref (21)), (.ref (b_163)), (.ref (b_165)), (zq_vi (1022)), (zq_vi (x_146)), (zq_vi ((-1))), zz_no, zz_no] [] s_161 (zq_rv fun s_177 => (∃ b_179 : Nat, zq_r s_177 (0) 7 = some b_179 ∧ (if zq_i s_177 (b_179) (2) = 0 then (if x1 = 0 then zq_Ex X 86 182 [(.ref (0)), (zq_vi (x1)), (zq_vi (x2)), (zq_vi (1022)), (zq_vi (x_146))] [] s_177 (zq_rx (zq_rp zq_iv K) T) else (∃ b_183 : Nat, zq_r s_177 (0) 8 = some b_183 ∧ (zq_Ex X 103 0 [(.ref (b_183)), (zq_vi (x_146)), zz_no] [] s_177 (zq_rv fun s_185 => zq_Ex X 86 182 [(.ref (0)), (zq_vi (x1)), (zq_vi (x2)), (zq_vi (1022)), (zq_vi (x_146))] [] s_185 (zq_rx (zq_rp zq_iv K) T))))) else (zq_n s_177 < 1000 ∧ T 14 (zq_sx s_177 14))))))))))))))))))))))))) : zq_Ex X 86 35 [(.ref (0)), (zq_vi (x1)), (zq_vi (x2)), v3, v4] [] s (zq_rx (zq_rp zq_iv K) T) := by
  refine zq_run 1 (pc' := 36) (L' := [(.ref (0)), (zq_vi (x1)), (zq_vi (x2)), v3, v4]) (st' := [(zq_vi (x1))]) (fun _ _ _ => rfl) ?_
  refine zq_eq0 rfl (zq_bo_in hx1) (fun hb_1 => ?_) (fun hb_1 => ?_)
  · rw [if_pos hb_1] at w
    refine zq_run 1 (pc' := 46) (L' := [(.ref (0)), (zq_vi (x1)), (zq_vi (x2)), v3, v4]) (st' := [(.ref (0))]) (fun _ _ _ => rfl) ?_
    refine zq_have (fun hR_2 => ?_)
    obtain ⟨b_3, hb_4, w⟩ := w
    refine zq_getf_rs (j := 8) rfl zq_a0 rfl rfl hb_4 ?_
    refine zq_call_i (i := .invokevirtual 168) (r := [1, 88, 0, 1, 8]) rfl rfl (fun h hp => zr_avv rfl (hp.obj (zq_fcls hR_2 (k := 8) (j := 8) (cj := 8) zq_a0 rfl rfl hb_4))) (of_decide_eq_false rfl) w (fun x_6 s_5 hx_7 w => ?_)
    refine zq_run 2 (pc' := 54) (L' := [(.ref (0)), (zq_vi (x1)), (zq_vi (x2)), (zq_vi (x_6)), v4]) (st' := [(zq_vi (x1))]) (fun _ _ _ => rfl) ?_
    refine zq_eq0 rfl (zq_bo_in hx1) (fun hb_8 => ?_) (fun hb_8 => ?_)
    · rw [if_pos hb_8] at w
      refine zq_run 2 (pc' := 69) (L' := [(.ref (0)), (zq_vi (x1)), (zq_vi (x2)), (zq_vi (x_6)), v4]) (st' := [(.ref (0)), (zq_vi (x_6))]) (fun _ _ _ => rfl) ?_
      refine zq_have (fun hR_9 => ?_)
      obtain ⟨b_10, hb_11, w⟩ := w
      refine zq_getf_rs (j := 8) rfl zq_a0 rfl rfl hb_11 ?_
      refine zq_call_i (i := .invokevirtual 174) (r := [1, 89, 0, 1, 8]) rfl rfl (fun h hp => zr_avv rfl (hp.obj (zq_fcls hR_9 (k := 8) (j := 8) (cj := 8) zq_a0 rfl rfl hb_11))) (of_decide_eq_false rfl) w (fun x_13 s_12 hx_14 w => ?_)
      refine zq_iand rfl ?_
      refine zq_run 2 (pc' := 79) (L' := [(.ref (0)), (zq_vi (x1)), (zq_vi (x2)), (zq_vi (x_6)), (zq_vi (zq_and (x_6) (x_13)))]) (st' := [(.ref (0))]) (fun _ _ _ => rfl) ?_
      refine zq_have (fun hR_15 => ?_)
      obtain ⟨b_16, hb_17, w⟩ := w
      refine zq_getf_rs (j := 8) rfl zq_a0 rfl rfl hb_17 ?_
      refine zq_run 2 (pc' := 85) (L' := [(.ref (0)), (zq_vi (x1)), (zq_vi (x2)), (zq_vi (x_6)), (zq_vi (zq_and (x_6) (x_13)))]) (st' := [(.ref (0)), (zq_vi (zq_and (x_6) (x_13))), (.ref (b_16))]) (fun _ _ _ => rfl) ?_
      refine zq_getf_f (b := 4) rfl zq_a0 rfl rfl ?_
      refine zq_call_i (i := .invokevirtual 177) (r := [1, 90, 2, 1, 8]) rfl rfl (fun h hp => zr_avv rfl (hp.obj (zq_fcls hR_15 (k := 8) (j := 8) (cj := 8) zq_a0 rfl rfl hb_17))) (of_decide_eq_false rfl) w (fun x_19 s_18 hx_20 w => ?_)
      refine zq_ne0 rfl (zq_bo_in hx_20) (fun hb_21 => ?_) (fun hb_21 => ?_)
      · rw [if_neg hb_21] at w
        refine zq_run 2 (pc' := 104) (L' := [(.ref (0)), (zq_vi (x1)), (zq_vi (x2)), (zq_vi (x_6)), (zq_vi (zq_and (x_6) (x_13)))]) (st' := [(zq_vi (x1)), (.ref (0))]) (fun _ _ _ => rfl) ?_
        refine zq_call_v (i := .invokevirtual 181) (r := [1, 95, 1, 1, 0]) rfl rfl (fun h hp => zr_avv rfl (hp.obj zq_a0)) (of_decide_eq_false rfl) w (fun s_22 w => ?_)
        refine zq_run 1 (pc' := 108) (L' := [(.ref (0)), (zq_vi (x1)), (zq_vi (x2)), (zq_vi (x_6)), (zq_vi (zq_and (x_6) (x_13)))]) (st' := [(.ref (0))]) (fun _ _ _ => rfl) ?_
        refine zq_getf_f (b := 21) rfl zq_a0 rfl rfl ?_
        refine zq_run 1 (pc' := 112) (L' := [(.ref (0)), (zq_vi (x1)), (zq_vi (x2)), (zq_vi (x_6)), (zq_vi (zq_and (x_6) (x_13)))]) (st' := [(.ref (0)), (.ref (21))]) (fun _ _ _ => rfl) ?_
        refine zq_have (fun hR_23 => ?_)
        obtain ⟨b_24, hb_25, w⟩ := w
        refine zq_getf_rs (j := 7) rfl zq_a0 rfl rfl hb_25 ?_
        refine zq_run 1 (pc' := 116) (L' := [(.ref (0)), (zq_vi (x1)), (zq_vi (x2)), (zq_vi (x_6)), (zq_vi (zq_and (x_6) (x_13)))]) (st' := [(.ref (0)), (.ref (b_24)), (.ref (21))]) (fun _ _ _ => rfl) ?_
        obtain ⟨b_26, hb_27, w⟩ := w
        refine zq_getf_rs (j := 8) rfl zq_a0 rfl rfl hb_27 ?_
        refine zq_run 1 (pc' := 121) (L' := [(.ref (0)), (zq_vi (x1)), (zq_vi (x2)), (zq_vi (x_6)), (zq_vi (zq_and (x_6) (x_13)))]) (st' := [(zq_vi (zq_and (x_6) (x_13))), (.ref (b_26)), (.ref (b_24)), (.ref (21))]) (fun _ _ _ => rfl) ?_
        refine zq_call_v (i := .invokevirtual 185) (r := [1, 96, 3, 1, 6]) rfl rfl (fun h hp => zr_avv rfl (hp.obj zq_a21)) (of_decide_eq_false rfl) w (fun s_28 w => ?_)
        refine zq_run 1 (pc' := 125) (L' := [(.ref (0)), (zq_vi (x1)), (zq_vi (x2)), (zq_vi (x_6)), (zq_vi (zq_and (x_6) (x_13)))]) (st' := [(.ref (0))]) (fun _ _ _ => rfl) ?_
        refine zq_getf_f (b := 21) rfl zq_a0 rfl rfl ?_
        refine zq_run 1 (pc' := 129) (L' := [(.ref (0)), (zq_vi (x1)), (zq_vi (x2)), (zq_vi (x_6)), (zq_vi (zq_and (x_6) (x_13)))]) (st' := [(.ref (0)), (.ref (21))]) (fun _ _ _ => rfl) ?_
        refine zq_have (fun hR_29 => ?_)
        obtain ⟨b_30, hb_31, w⟩ := w
        refine zq_getf_rs (j := 7) rfl zq_a0 rfl rfl hb_31 ?_
        refine zq_run 1 (pc' := 133) (L' := [(.ref (0)), (zq_vi (x1)), (zq_vi (x2)), (zq_vi (x_6)), (zq_vi (zq_and (x_6) (x_13)))]) (st' := [(.ref (0)), (.ref (b_30)), (.ref (21))]) (fun _ _ _ => rfl) ?_
        obtain ⟨b_32, hb_33, w⟩ := w
        refine zq_getf_rs (j := 8) rfl zq_a0 rfl rfl hb_33 ?_
        refine zq_run 3 (pc' := 140) (L' := [(.ref (0)), (zq_vi (x1)), (zq_vi (x2)), (zq_vi (x_6)), (zq_vi (zq_and (x_6) (x_13)))]) (st' := [(zq_vi (x1)), (zq_vi (zq_and (x_6) (x_13))), (zq_vi (x_6)), (.ref (b_32)), (.ref (b_30)), (.ref (21))]) (fun _ _ _ => rfl) ?_
        refine zq_eq0 rfl (zq_bo_in hx1) (fun hb_34 => ?_) (fun hb_34 => ?_)
        · rw [if_pos hb_34] at w
          refine zq_run 1 (pc' := 148) (L' := [(.ref (0)), (zq_vi (x1)), (zq_vi (x2)), (zq_vi (x_6)), (zq_vi (zq_and (x_6) (x_13)))]) (st' := [(zq_vi (x2)), (zq_vi (zq_and (x_6) (x_13))), (zq_vi (x_6)), (.ref (b_32)), (.ref (b_30)), (.ref (21))]) (fun _ _ _ => rfl) ?_
          refine zq_call_v (i := .invokevirtual 189) (r := [1, 98, 5, 1, 6]) rfl rfl (fun h hp => zr_avv rfl (hp.obj zq_a21)) (of_decide_eq_false rfl) w (fun s_35 w => ?_)
          refine zq_run 1 (pc' := 152) (L' := [(.ref (0)), (zq_vi (x1)), (zq_vi (x2)), (zq_vi (x_6)), (zq_vi (zq_and (x_6) (x_13)))]) (st' := [(.ref (0))]) (fun _ _ _ => rfl) ?_
          refine zq_have (fun hR_36 => ?_)
          obtain ⟨b_37, hb_38, w⟩ := w
          refine zq_getf_rs (j := 7) rfl zq_a0 rfl rfl hb_38 ?_
          refine zq_getf_i (j := 2) (v := zq_i s_35 (b_37) (2)) rfl (zq_fcls hR_36 (k := 7) (j := 7) (cj := 1) zq_a0 rfl rfl hb_38) rfl rfl rfl ?_
          refine zq_eq0 rfl (zq_bo_in (hR_36.2.2.2.1 _ 1 2 (zq_fcls hR_36 (k := 7) (j := 7) (cj := 1) zq_a0 rfl rfl hb_38) rfl)) (fun hb_39 => ?_) (fun hb_39 => ?_)
          · rw [if_pos hb_39] at w
            refine zq_run 1 (pc' := 170) (L' := [(.ref (0)), (zq_vi (x1)), (zq_vi (x2)), (zq_vi (x_6)), (zq_vi (zq_and (x_6) (x_13)))]) (st' := [(zq_vi (x1))]) (fun _ _ _ => rfl) ?_
            refine zq_eq0 rfl (zq_bo_in hx1) (fun hb_40 => ?_) (fun hb_40 => ?_)
            · rw [if_pos hb_40] at w
              exact w
            · rw [if_neg hb_40] at w
              refine zq_run 1 (pc' := 174) (L' := [(.ref (0)), (zq_vi (x1)), (zq_vi (x2)), (zq_vi (x_6)), (zq_vi (zq_and (x_6) (x_13)))]) (st' := [(.ref (0))]) (fun _ _ _ => rfl) ?_
              obtain ⟨b_41, hb_42, w⟩ := w
              refine zq_getf_rs (j := 8) rfl zq_a0 rfl rfl hb_42 ?_
              refine zq_run 1 (pc' := 179) (L' := [(.ref (0)), (zq_vi (x1)), (zq_vi (x2)), (zq_vi (x_6)), (zq_vi (zq_and (x_6) (x_13)))]) (st' := [(zq_vi (zq_and (x_6) (x_13))), (.ref (b_41))]) (fun _ _ _ => rfl) ?_
              refine zq_call_v (i := .invokevirtual 199) (r := [1, 103, 1, 1, 8]) rfl rfl (fun h hp => zr_avv rfl (hp.obj (zq_fcls hR_36 (k := 8) (j := 8) (cj := 8) zq_a0 rfl rfl hb_42))) (of_decide_eq_false rfl) w (fun s_43 w => ?_)
              exact w
          · rw [if_neg hb_39] at w
            exact zq_throw rfl rfl (of_decide_eq_true rfl) w.1 (zq_thr w.2)
        · rw [if_neg hb_34] at w
          refine zq_run 2 (pc' := 148) (L' := [(.ref (0)), (zq_vi (x1)), (zq_vi (x2)), (zq_vi (x_6)), (zq_vi (zq_and (x_6) (x_13)))]) (st' := [(zq_vi ((-1))), (zq_vi (zq_and (x_6) (x_13))), (zq_vi (x_6)), (.ref (b_32)), (.ref (b_30)), (.ref (21))]) (fun _ _ _ => rfl) ?_
          refine zq_call_v (i := .invokevirtual 189) (r := [1, 98, 5, 1, 6]) rfl rfl (fun h hp => zr_avv rfl (hp.obj zq_a21)) (of_decide_eq_false rfl) w (fun s_44 w => ?_)
          refine zq_run 1 (pc' := 152) (L' := [(.ref (0)), (zq_vi (x1)), (zq_vi (x2)), (zq_vi (x_6)), (zq_vi (zq_and (x_6) (x_13)))]) (st' := [(.ref (0))]) (fun _ _ _ => rfl) ?_
          refine zq_have (fun hR_45 => ?_)
          obtain ⟨b_46, hb_47, w⟩ := w
          refine zq_getf_rs (j := 7) rfl zq_a0 rfl rfl hb_47 ?_
          refine zq_getf_i (j := 2) (v := zq_i s_44 (b_46) (2)) rfl (zq_fcls hR_45 (k := 7) (j := 7) (cj := 1) zq_a0 rfl rfl hb_47) rfl rfl rfl ?_
          refine zq_eq0 rfl (zq_bo_in (hR_45.2.2.2.1 _ 1 2 (zq_fcls hR_45 (k := 7) (j := 7) (cj := 1) zq_a0 rfl rfl hb_47) rfl)) (fun hb_48 => ?_) (fun hb_48 => ?_)
          · rw [if_pos hb_48] at w
            refine zq_run 1 (pc' := 170) (L' := [(.ref (0)), (zq_vi (x1)), (zq_vi (x2)), (zq_vi (x_6)), (zq_vi (zq_and (x_6) (x_13)))]) (st' := [(zq_vi (x1))]) (fun _ _ _ => rfl) ?_
            refine zq_eq0 rfl (zq_bo_in hx1) (fun hb_49 => ?_) (fun hb_49 => ?_)
            · rw [if_pos hb_49] at w
              exact w
            · rw [if_neg hb_49] at w
              refine zq_run 1 (pc' := 174) (L' := [(.ref (0)), (zq_vi (x1)), (zq_vi (x2)), (zq_vi (x_6)), (zq_vi (zq_and (x_6) (x_13)))]) (st' := [(.ref (0))]) (fun _ _ _ => rfl) ?_
              obtain ⟨b_50, hb_51, w⟩ := w
              refine zq_getf_rs (j := 8) rfl zq_a0 rfl rfl hb_51 ?_
              refine zq_run 1 (pc' := 179) (L' := [(.ref (0)), (zq_vi (x1)), (zq_vi (x2)), (zq_vi (x_6)), (zq_vi (zq_and (x_6) (x_13)))]) (st' := [(zq_vi (zq_and (x_6) (x_13))), (.ref (b_50))]) (fun _ _ _ => rfl) ?_
              refine zq_call_v (i := .invokevirtual 199) (r := [1, 103, 1, 1, 8]) rfl rfl (fun h hp => zr_avv rfl (hp.obj (zq_fcls hR_45 (k := 8) (j := 8) (cj := 8) zq_a0 rfl rfl hb_51))) (of_decide_eq_false rfl) w (fun s_52 w => ?_)
              exact w
          · rw [if_neg hb_48] at w
            exact zq_throw rfl rfl (of_decide_eq_true rfl) w.1 (zq_thr w.2)
      · rw [if_pos hb_21] at w
        exact zq_throw rfl rfl (of_decide_eq_true rfl) w.1 (zq_thr w.2)
    · rw [if_neg hb_8] at w
      refine zq_run 1 (pc' := 58) (L' := [(.ref (0)), (zq_vi (x1)), (zq_vi (x2)), (zq_vi (x_6)), v4]) (st' := [(.ref (0))]) (fun _ _ _ => rfl) ?_
      refine zq_have (fun hR_53 => ?_)
      obtain ⟨b_54, hb_55, w⟩ := w
      refine zq_getf_rs (j := 8) rfl zq_a0 rfl rfl hb_55 ?_
      refine zq_call_i (i := .invokevirtual 171) (r := [1, 31, 0, 1, 8]) rfl rfl (fun h hp => zr_avv rfl (hp.obj (zq_fcls hR_53 (k := 8) (j := 8) (cj := 8) zq_a0 rfl rfl hb_55))) (of_decide_eq_false rfl) w (fun x_57 s_56 hx_58 w => ?_)
      refine zq_run 3 (pc' := 79) (L' := [(.ref (0)), (zq_vi (x1)), (zq_vi (x2)), (zq_vi (x_6)), (zq_vi (x_57))]) (st' := [(.ref (0))]) (fun _ _ _ => rfl) ?_
      refine zq_have (fun hR_59 => ?_)
      obtain ⟨b_60, hb_61, w⟩ := w
      refine zq_getf_rs (j := 8) rfl zq_a0 rfl rfl hb_61 ?_
      refine zq_run 2 (pc' := 85) (L' := [(.ref (0)), (zq_vi (x1)), (zq_vi (x2)), (zq_vi (x_6)), (zq_vi (x_57))]) (st' := [(.ref (0)), (zq_vi (x_57)), (.ref (b_60))]) (fun _ _ _ => rfl) ?_
      refine zq_getf_f (b := 4) rfl zq_a0 rfl rfl ?_
      refine zq_call_i (i := .invokevirtual 177) (r := [1, 90, 2, 1, 8]) rfl rfl (fun h hp => zr_avv rfl (hp.obj (zq_fcls hR_59 (k := 8) (j := 8) (cj := 8) zq_a0 rfl rfl hb_61))) (of_decide_eq_false rfl) w (fun x_63 s_62 hx_64 w => ?_)
      refine zq_ne0 rfl (zq_bo_in hx_64) (fun hb_65 => ?_) (fun hb_65 => ?_)
      · rw [if_neg hb_65] at w
        refine zq_run 2 (pc' := 104) (L' := [(.ref (0)), (zq_vi (x1)), (zq_vi (x2)), (zq_vi (x_6)), (zq_vi (x_57))]) (st' := [(zq_vi (x1)), (.ref (0))]) (fun _ _ _ => rfl) ?_
        refine zq_call_v (i := .invokevirtual 181) (r := [1, 95, 1, 1, 0]) rfl rfl (fun h hp => zr_avv rfl (hp.obj zq_a0)) (of_decide_eq_false rfl) w (fun s_66 w => ?_)
        refine zq_run 1 (pc' := 108) (L' := [(.ref (0)), (zq_vi (x1)), (zq_vi (x2)), (zq_vi (x_6)), (zq_vi (x_57))]) (st' := [(.ref (0))]) (fun _ _ _ => rfl) ?_
        refine zq_getf_f (b := 21) rfl zq_a0 rfl rfl ?_
        refine zq_run 1 (pc' := 112) (L' := [(.ref (0)), (zq_vi (x1)), (zq_vi (x2)), (zq_vi (x_6)), (zq_vi (x_57))]) (st' := [(.ref (0)), (.ref (21))]) (fun _ _ _ => rfl) ?_
        refine zq_have (fun hR_67 => ?_)
        obtain ⟨b_68, hb_69, w⟩ := w
        refine zq_getf_rs (j := 7) rfl zq_a0 rfl rfl hb_69 ?_
        refine zq_run 1 (pc' := 116) (L' := [(.ref (0)), (zq_vi (x1)), (zq_vi (x2)), (zq_vi (x_6)), (zq_vi (x_57))]) (st' := [(.ref (0)), (.ref (b_68)), (.ref (21))]) (fun _ _ _ => rfl) ?_
        obtain ⟨b_70, hb_71, w⟩ := w
        refine zq_getf_rs (j := 8) rfl zq_a0 rfl rfl hb_71 ?_
        refine zq_run 1 (pc' := 121) (L' := [(.ref (0)), (zq_vi (x1)), (zq_vi (x2)), (zq_vi (x_6)), (zq_vi (x_57))]) (st' := [(zq_vi (x_57)), (.ref (b_70)), (.ref (b_68)), (.ref (21))]) (fun _ _ _ => rfl) ?_
        refine zq_call_v (i := .invokevirtual 185) (r := [1, 96, 3, 1, 6]) rfl rfl (fun h hp => zr_avv rfl (hp.obj zq_a21)) (of_decide_eq_false rfl) w (fun s_72 w => ?_)
        refine zq_run 1 (pc' := 125) (L' := [(.ref (0)), (zq_vi (x1)), (zq_vi (x2)), (zq_vi (x_6)), (zq_vi (x_57))]) (st' := [(.ref (0))]) (fun _ _ _ => rfl) ?_
        refine zq_getf_f (b := 21) rfl zq_a0 rfl rfl ?_
        refine zq_run 1 (pc' := 129) (L' := [(.ref (0)), (zq_vi (x1)), (zq_vi (x2)), (zq_vi (x_6)), (zq_vi (x_57))]) (st' := [(.ref (0)), (.ref (21))]) (fun _ _ _ => rfl) ?_
        refine zq_have (fun hR_73 => ?_)
        obtain ⟨b_74, hb_75, w⟩ := w
        refine zq_getf_rs (j := 7) rfl zq_a0 rfl rfl hb_75 ?_
        refine zq_run 1 (pc' := 133) (L' := [(.ref (0)), (zq_vi (x1)), (zq_vi (x2)), (zq_vi (x_6)), (zq_vi (x_57))]) (st' := [(.ref (0)), (.ref (b_74)), (.ref (21))]) (fun _ _ _ => rfl) ?_
        obtain ⟨b_76, hb_77, w⟩ := w
        refine zq_getf_rs (j := 8) rfl zq_a0 rfl rfl hb_77 ?_
        refine zq_run 3 (pc' := 140) (L' := [(.ref (0)), (zq_vi (x1)), (zq_vi (x2)), (zq_vi (x_6)), (zq_vi (x_57))]) (st' := [(zq_vi (x1)), (zq_vi (x_57)), (zq_vi (x_6)), (.ref (b_76)), (.ref (b_74)), (.ref (21))]) (fun _ _ _ => rfl) ?_
        refine zq_eq0 rfl (zq_bo_in hx1) (fun hb_78 => ?_) (fun hb_78 => ?_)
        · rw [if_pos hb_78] at w
          refine zq_run 1 (pc' := 148) (L' := [(.ref (0)), (zq_vi (x1)), (zq_vi (x2)), (zq_vi (x_6)), (zq_vi (x_57))]) (st' := [(zq_vi (x2)), (zq_vi (x_57)), (zq_vi (x_6)), (.ref (b_76)), (.ref (b_74)), (.ref (21))]) (fun _ _ _ => rfl) ?_
          refine zq_call_v (i := .invokevirtual 189) (r := [1, 98, 5, 1, 6]) rfl rfl (fun h hp => zr_avv rfl (hp.obj zq_a21)) (of_decide_eq_false rfl) w (fun s_79 w => ?_)
          refine zq_run 1 (pc' := 152) (L' := [(.ref (0)), (zq_vi (x1)), (zq_vi (x2)), (zq_vi (x_6)), (zq_vi (x_57))]) (st' := [(.ref (0))]) (fun _ _ _ => rfl) ?_
          refine zq_have (fun hR_80 => ?_)
          obtain ⟨b_81, hb_82, w⟩ := w
          refine zq_getf_rs (j := 7) rfl zq_a0 rfl rfl hb_82 ?_
          refine zq_getf_i (j := 2) (v := zq_i s_79 (b_81) (2)) rfl (zq_fcls hR_80 (k := 7) (j := 7) (cj := 1) zq_a0 rfl rfl hb_82) rfl rfl rfl ?_
          refine zq_eq0 rfl (zq_bo_in (hR_80.2.2.2.1 _ 1 2 (zq_fcls hR_80 (k := 7) (j := 7) (cj := 1) zq_a0 rfl rfl hb_82) rfl)) (fun hb_83 => ?_) (fun hb_83 => ?_)
          · rw [if_pos hb_83] at w
            refine zq_run 1 (pc' := 170) (L' := [(.ref (0)), (zq_vi (x1)), (zq_vi (x2)), (zq_vi (x_6)), (zq_vi (x_57))]) (st' := [(zq_vi (x1))]) (fun _ _ _ => rfl) ?_
            refine zq_eq0 rfl (zq_bo_in hx1) (fun hb_84 => ?_) (fun hb_84 => ?_)
            · rw [if_pos hb_84] at w
              exact w
            · rw [if_neg hb_84] at w
              refine zq_run 1 (pc' := 174) (L' := [(.ref (0)), (zq_vi (x1)), (zq_vi (x2)), (zq_vi (x_6)), (zq_vi (x_57))]) (st' := [(.ref (0))]) (fun _ _ _ => rfl) ?_
              obtain ⟨b_85, hb_86, w⟩ := w
              refine zq_getf_rs (j := 8) rfl zq_a0 rfl rfl hb_86 ?_
              refine zq_run 1 (pc' := 179) (L' := [(.ref (0)), (zq_vi (x1)), (zq_vi (x2)), (zq_vi (x_6)), (zq_vi (x_57))]) (st' := [(zq_vi (x_57)), (.ref (b_85))]) (fun _ _ _ => rfl) ?_
              refine zq_call_v (i := .invokevirtual 199) (r := [1, 103, 1, 1, 8]) rfl rfl (fun h hp => zr_avv rfl (hp.obj (zq_fcls hR_80 (k := 8) (j := 8) (cj := 8) zq_a0 rfl rfl hb_86))) (of_decide_eq_false rfl) w (fun s_87 w => ?_)
              exact w
          · rw [if_neg hb_83] at w
            exact zq_throw rfl rfl (of_decide_eq_true rfl) w.1 (zq_thr w.2)
        · rw [if_neg hb_78] at w
          refine zq_run 2 (pc' := 148) (L' := [(.ref (0)), (zq_vi (x1)), (zq_vi (x2)), (zq_vi (x_6)), (zq_vi (x_57))]) (st' := [(zq_vi ((-1))), (zq_vi (x_57)), (zq_vi (x_6)), (.ref (b_76)), (.ref (b_74)), (.ref (21))]) (fun _ _ _ => rfl) ?_
          refine zq_call_v (i := .invokevirtual 189) (r := [1, 98, 5, 1, 6]) rfl rfl (fun h hp => zr_avv rfl (hp.obj zq_a21)) (of_decide_eq_false rfl) w (fun s_88 w => ?_)
          refine zq_run 1 (pc' := 152) (L' := [(.ref (0)), (zq_vi (x1)), (zq_vi (x2)), (zq_vi (x_6)), (zq_vi (x_57))]) (st' := [(.ref (0))]) (fun _ _ _ => rfl) ?_
          refine zq_have (fun hR_89 => ?_)
          obtain ⟨b_90, hb_91, w⟩ := w
          refine zq_getf_rs (j := 7) rfl zq_a0 rfl rfl hb_91 ?_
          refine zq_getf_i (j := 2) (v := zq_i s_88 (b_90) (2)) rfl (zq_fcls hR_89 (k := 7) (j := 7) (cj := 1) zq_a0 rfl rfl hb_91) rfl rfl rfl ?_
          refine zq_eq0 rfl (zq_bo_in (hR_89.2.2.2.1 _ 1 2 (zq_fcls hR_89 (k := 7) (j := 7) (cj := 1) zq_a0 rfl rfl hb_91) rfl)) (fun hb_92 => ?_) (fun hb_92 => ?_)
          · rw [if_pos hb_92] at w
            refine zq_run 1 (pc' := 170) (L' := [(.ref (0)), (zq_vi (x1)), (zq_vi (x2)), (zq_vi (x_6)), (zq_vi (x_57))]) (st' := [(zq_vi (x1))]) (fun _ _ _ => rfl) ?_
            refine zq_eq0 rfl (zq_bo_in hx1) (fun hb_93 => ?_) (fun hb_93 => ?_)
            · rw [if_pos hb_93] at w
              exact w
            · rw [if_neg hb_93] at w
              refine zq_run 1 (pc' := 174) (L' := [(.ref (0)), (zq_vi (x1)), (zq_vi (x2)), (zq_vi (x_6)), (zq_vi (x_57))]) (st' := [(.ref (0))]) (fun _ _ _ => rfl) ?_
              obtain ⟨b_94, hb_95, w⟩ := w
              refine zq_getf_rs (j := 8) rfl zq_a0 rfl rfl hb_95 ?_
              refine zq_run 1 (pc' := 179) (L' := [(.ref (0)), (zq_vi (x1)), (zq_vi (x2)), (zq_vi (x_6)), (zq_vi (x_57))]) (st' := [(zq_vi (x_57)), (.ref (b_94))]) (fun _ _ _ => rfl) ?_
              refine zq_call_v (i := .invokevirtual 199) (r := [1, 103, 1, 1, 8]) rfl rfl (fun h hp => zr_avv rfl (hp.obj (zq_fcls hR_89 (k := 8) (j := 8) (cj := 8) zq_a0 rfl rfl hb_95))) (of_decide_eq_false rfl) w (fun s_96 w => ?_)
              exact w
          · rw [if_neg hb_92] at w
            exact zq_throw rfl rfl (of_decide_eq_true rfl) w.1 (zq_thr w.2)
      · rw [if_pos hb_65] at w
        exact zq_throw rfl rfl (of_decide_eq_true rfl) w.1 (zq_thr w.2)
  · rw [if_neg hb_1] at w
    refine zq_run 4 (pc' := 54) (L' := [(.ref (0)), (zq_vi (x1)), (zq_vi (x2)), (zq_vi (1022)), v4]) (st' := [(zq_vi (x1))]) (fun _ _ _ => rfl) ?_
    refine zq_eq0 rfl (zq_bo_in hx1) (fun hb_97 => ?_) (fun hb_97 => ?_)
    · rw [if_pos hb_97] at w
      refine zq_run 2 (pc' := 69) (L' := [(.ref (0)), (zq_vi (x1)), (zq_vi (x2)), (zq_vi (1022)), v4]) (st' := [(.ref (0)), (zq_vi (1022))]) (fun _ _ _ => rfl) ?_
      refine zq_have (fun hR_98 => ?_)
      obtain ⟨b_99, hb_100, w⟩ := w
      refine zq_getf_rs (j := 8) rfl zq_a0 rfl rfl hb_100 ?_
      refine zq_call_i (i := .invokevirtual 174) (r := [1, 89, 0, 1, 8]) rfl rfl (fun h hp => zr_avv rfl (hp.obj (zq_fcls hR_98 (k := 8) (j := 8) (cj := 8) zq_a0 rfl rfl hb_100))) (of_decide_eq_false rfl) w (fun x_102 s_101 hx_103 w => ?_)
      refine zq_iand rfl ?_
      refine zq_run 2 (pc' := 79) (L' := [(.ref (0)), (zq_vi (x1)), (zq_vi (x2)), (zq_vi (1022)), (zq_vi (zq_and (1022) (x_102)))]) (st' := [(.ref (0))]) (fun _ _ _ => rfl) ?_
      refine zq_have (fun hR_104 => ?_)
      obtain ⟨b_105, hb_106, w⟩ := w
      refine zq_getf_rs (j := 8) rfl zq_a0 rfl rfl hb_106 ?_
      refine zq_run 2 (pc' := 85) (L' := [(.ref (0)), (zq_vi (x1)), (zq_vi (x2)), (zq_vi (1022)), (zq_vi (zq_and (1022) (x_102)))]) (st' := [(.ref (0)), (zq_vi (zq_and (1022) (x_102))), (.ref (b_105))]) (fun _ _ _ => rfl) ?_
      refine zq_getf_f (b := 4) rfl zq_a0 rfl rfl ?_
      refine zq_call_i (i := .invokevirtual 177) (r := [1, 90, 2, 1, 8]) rfl rfl (fun h hp => zr_avv rfl (hp.obj (zq_fcls hR_104 (k := 8) (j := 8) (cj := 8) zq_a0 rfl rfl hb_106))) (of_decide_eq_false rfl) w (fun x_108 s_107 hx_109 w => ?_)
      refine zq_ne0 rfl (zq_bo_in hx_109) (fun hb_110 => ?_) (fun hb_110 => ?_)
      · rw [if_neg hb_110] at w
        refine zq_run 2 (pc' := 104) (L' := [(.ref (0)), (zq_vi (x1)), (zq_vi (x2)), (zq_vi (1022)), (zq_vi (zq_and (1022) (x_102)))]) (st' := [(zq_vi (x1)), (.ref (0))]) (fun _ _ _ => rfl) ?_
        refine zq_call_v (i := .invokevirtual 181) (r := [1, 95, 1, 1, 0]) rfl rfl (fun h hp => zr_avv rfl (hp.obj zq_a0)) (of_decide_eq_false rfl) w (fun s_111 w => ?_)
        refine zq_run 1 (pc' := 108) (L' := [(.ref (0)), (zq_vi (x1)), (zq_vi (x2)), (zq_vi (1022)), (zq_vi (zq_and (1022) (x_102)))]) (st' := [(.ref (0))]) (fun _ _ _ => rfl) ?_
        refine zq_getf_f (b := 21) rfl zq_a0 rfl rfl ?_
        refine zq_run 1 (pc' := 112) (L' := [(.ref (0)), (zq_vi (x1)), (zq_vi (x2)), (zq_vi (1022)), (zq_vi (zq_and (1022) (x_102)))]) (st' := [(.ref (0)), (.ref (21))]) (fun _ _ _ => rfl) ?_
        refine zq_have (fun hR_112 => ?_)
        obtain ⟨b_113, hb_114, w⟩ := w
        refine zq_getf_rs (j := 7) rfl zq_a0 rfl rfl hb_114 ?_
        refine zq_run 1 (pc' := 116) (L' := [(.ref (0)), (zq_vi (x1)), (zq_vi (x2)), (zq_vi (1022)), (zq_vi (zq_and (1022) (x_102)))]) (st' := [(.ref (0)), (.ref (b_113)), (.ref (21))]) (fun _ _ _ => rfl) ?_
        obtain ⟨b_115, hb_116, w⟩ := w
        refine zq_getf_rs (j := 8) rfl zq_a0 rfl rfl hb_116 ?_
        refine zq_run 1 (pc' := 121) (L' := [(.ref (0)), (zq_vi (x1)), (zq_vi (x2)), (zq_vi (1022)), (zq_vi (zq_and (1022) (x_102)))]) (st' := [(zq_vi (zq_and (1022) (x_102))), (.ref (b_115)), (.ref (b_113)), (.ref (21))]) (fun _ _ _ => rfl) ?_
        refine zq_call_v (i := .invokevirtual 185) (r := [1, 96, 3, 1, 6]) rfl rfl (fun h hp => zr_avv rfl (hp.obj zq_a21)) (of_decide_eq_false rfl) w (fun s_117 w => ?_)
        refine zq_run 1 (pc' := 125) (L' := [(.ref (0)), (zq_vi (x1)), (zq_vi (x2)), (zq_vi (1022)), (zq_vi (zq_and (1022) (x_102)))]) (st' := [(.ref (0))]) (fun _ _ _ => rfl) ?_
        refine zq_getf_f (b := 21) rfl zq_a0 rfl rfl ?_
        refine zq_run 1 (pc' := 129) (L' := [(.ref (0)), (zq_vi (x1)), (zq_vi (x2)), (zq_vi (1022)), (zq_vi (zq_and (1022) (x_102)))]) (st' := [(.ref (0)), (.ref (21))]) (fun _ _ _ => rfl) ?_
        refine zq_have (fun hR_118 => ?_)
        obtain ⟨b_119, hb_120, w⟩ := w
        refine zq_getf_rs (j := 7) rfl zq_a0 rfl rfl hb_120 ?_
        refine zq_run 1 (pc' := 133) (L' := [(.ref (0)), (zq_vi (x1)), (zq_vi (x2)), (zq_vi (1022)), (zq_vi (zq_and (1022) (x_102)))]) (st' := [(.ref (0)), (.ref (b_119)), (.ref (21))]) (fun _ _ _ => rfl) ?_
        obtain ⟨b_121, hb_122, w⟩ := w
        refine zq_getf_rs (j := 8) rfl zq_a0 rfl rfl hb_122 ?_
        refine zq_run 3 (pc' := 140) (L' := [(.ref (0)), (zq_vi (x1)), (zq_vi (x2)), (zq_vi (1022)), (zq_vi (zq_and (1022) (x_102)))]) (st' := [(zq_vi (x1)), (zq_vi (zq_and (1022) (x_102))), (zq_vi (1022)), (.ref (b_121)), (.ref (b_119)), (.ref (21))]) (fun _ _ _ => rfl) ?_
        refine zq_eq0 rfl (zq_bo_in hx1) (fun hb_123 => ?_) (fun hb_123 => ?_)
        · rw [if_pos hb_123] at w
          refine zq_run 1 (pc' := 148) (L' := [(.ref (0)), (zq_vi (x1)), (zq_vi (x2)), (zq_vi (1022)), (zq_vi (zq_and (1022) (x_102)))]) (st' := [(zq_vi (x2)), (zq_vi (zq_and (1022) (x_102))), (zq_vi (1022)), (.ref (b_121)), (.ref (b_119)), (.ref (21))]) (fun _ _ _ => rfl) ?_
          refine zq_call_v (i := .invokevirtual 189) (r := [1, 98, 5, 1, 6]) rfl rfl (fun h hp => zr_avv rfl (hp.obj zq_a21)) (of_decide_eq_false rfl) w (fun s_124 w => ?_)
          refine zq_run 1 (pc' := 152) (L' := [(.ref (0)), (zq_vi (x1)), (zq_vi (x2)), (zq_vi (1022)), (zq_vi (zq_and (1022) (x_102)))]) (st' := [(.ref (0))]) (fun _ _ _ => rfl) ?_
          refine zq_have (fun hR_125 => ?_)
          obtain ⟨b_126, hb_127, w⟩ := w
          refine zq_getf_rs (j := 7) rfl zq_a0 rfl rfl hb_127 ?_
          refine zq_getf_i (j := 2) (v := zq_i s_124 (b_126) (2)) rfl (zq_fcls hR_125 (k := 7) (j := 7) (cj := 1) zq_a0 rfl rfl hb_127) rfl rfl rfl ?_
          refine zq_eq0 rfl (zq_bo_in (hR_125.2.2.2.1 _ 1 2 (zq_fcls hR_125 (k := 7) (j := 7) (cj := 1) zq_a0 rfl rfl hb_127) rfl)) (fun hb_128 => ?_) (fun hb_128 => ?_)
          · rw [if_pos hb_128] at w
            refine zq_run 1 (pc' := 170) (L' := [(.ref (0)), (zq_vi (x1)), (zq_vi (x2)), (zq_vi (1022)), (zq_vi (zq_and (1022) (x_102)))]) (st' := [(zq_vi (x1))]) (fun _ _ _ => rfl) ?_
            refine zq_eq0 rfl (zq_bo_in hx1) (fun hb_129 => ?_) (fun hb_129 => ?_)
            · rw [if_pos hb_129] at w
              exact w
            · rw [if_neg hb_129] at w
              refine zq_run 1 (pc' := 174) (L' := [(.ref (0)), (zq_vi (x1)), (zq_vi (x2)), (zq_vi (1022)), (zq_vi (zq_and (1022) (x_102)))]) (st' := [(.ref (0))]) (fun _ _ _ => rfl) ?_
              obtain ⟨b_130, hb_131, w⟩ := w
              refine zq_getf_rs (j := 8) rfl zq_a0 rfl rfl hb_131 ?_
              refine zq_run 1 (pc' := 179) (L' := [(.ref (0)), (zq_vi (x1)), (zq_vi (x2)), (zq_vi (1022)), (zq_vi (zq_and (1022) (x_102)))]) (st' := [(zq_vi (zq_and (1022) (x_102))), (.ref (b_130))]) (fun _ _ _ => rfl) ?_
              refine zq_call_v (i := .invokevirtual 199) (r := [1, 103, 1, 1, 8]) rfl rfl (fun h hp => zr_avv rfl (hp.obj (zq_fcls hR_125 (k := 8) (j := 8) (cj := 8) zq_a0 rfl rfl hb_131))) (of_decide_eq_false rfl) w (fun s_132 w => ?_)
              exact w
          · rw [if_neg hb_128] at w
            exact zq_throw rfl rfl (of_decide_eq_true rfl) w.1 (zq_thr w.2)
        · rw [if_neg hb_123] at w
          refine zq_run 2 (pc' := 148) (L' := [(.ref (0)), (zq_vi (x1)), (zq_vi (x2)), (zq_vi (1022)), (zq_vi (zq_and (1022) (x_102)))]) (st' := [(zq_vi ((-1))), (zq_vi (zq_and (1022) (x_102))), (zq_vi (1022)), (.ref (b_121)), (.ref (b_119)), (.ref (21))]) (fun _ _ _ => rfl) ?_
          refine zq_call_v (i := .invokevirtual 189) (r := [1, 98, 5, 1, 6]) rfl rfl (fun h hp => zr_avv rfl (hp.obj zq_a21)) (of_decide_eq_false rfl) w (fun s_133 w => ?_)
          refine zq_run 1 (pc' := 152) (L' := [(.ref (0)), (zq_vi (x1)), (zq_vi (x2)), (zq_vi (1022)), (zq_vi (zq_and (1022) (x_102)))]) (st' := [(.ref (0))]) (fun _ _ _ => rfl) ?_
          refine zq_have (fun hR_134 => ?_)
          obtain ⟨b_135, hb_136, w⟩ := w
          refine zq_getf_rs (j := 7) rfl zq_a0 rfl rfl hb_136 ?_
          refine zq_getf_i (j := 2) (v := zq_i s_133 (b_135) (2)) rfl (zq_fcls hR_134 (k := 7) (j := 7) (cj := 1) zq_a0 rfl rfl hb_136) rfl rfl rfl ?_
          refine zq_eq0 rfl (zq_bo_in (hR_134.2.2.2.1 _ 1 2 (zq_fcls hR_134 (k := 7) (j := 7) (cj := 1) zq_a0 rfl rfl hb_136) rfl)) (fun hb_137 => ?_) (fun hb_137 => ?_)
          · rw [if_pos hb_137] at w
            refine zq_run 1 (pc' := 170) (L' := [(.ref (0)), (zq_vi (x1)), (zq_vi (x2)), (zq_vi (1022)), (zq_vi (zq_and (1022) (x_102)))]) (st' := [(zq_vi (x1))]) (fun _ _ _ => rfl) ?_
            refine zq_eq0 rfl (zq_bo_in hx1) (fun hb_138 => ?_) (fun hb_138 => ?_)
            · rw [if_pos hb_138] at w
              exact w
            · rw [if_neg hb_138] at w
              refine zq_run 1 (pc' := 174) (L' := [(.ref (0)), (zq_vi (x1)), (zq_vi (x2)), (zq_vi (1022)), (zq_vi (zq_and (1022) (x_102)))]) (st' := [(.ref (0))]) (fun _ _ _ => rfl) ?_
              obtain ⟨b_139, hb_140, w⟩ := w
              refine zq_getf_rs (j := 8) rfl zq_a0 rfl rfl hb_140 ?_
              refine zq_run 1 (pc' := 179) (L' := [(.ref (0)), (zq_vi (x1)), (zq_vi (x2)), (zq_vi (1022)), (zq_vi (zq_and (1022) (x_102)))]) (st' := [(zq_vi (zq_and (1022) (x_102))), (.ref (b_139))]) (fun _ _ _ => rfl) ?_
              refine zq_call_v (i := .invokevirtual 199) (r := [1, 103, 1, 1, 8]) rfl rfl (fun h hp => zr_avv rfl (hp.obj (zq_fcls hR_134 (k := 8) (j := 8) (cj := 8) zq_a0 rfl rfl hb_140))) (of_decide_eq_false rfl) w (fun s_141 w => ?_)
              exact w
          · rw [if_neg hb_137] at w
            exact zq_throw rfl rfl (of_decide_eq_true rfl) w.1 (zq_thr w.2)
      · rw [if_pos hb_110] at w
        exact zq_throw rfl rfl (of_decide_eq_true rfl) w.1 (zq_thr w.2)
    · rw [if_neg hb_97] at w
      refine zq_run 1 (pc' := 58) (L' := [(.ref (0)), (zq_vi (x1)), (zq_vi (x2)), (zq_vi (1022)), v4]) (st' := [(.ref (0))]) (fun _ _ _ => rfl) ?_
      refine zq_have (fun hR_142 => ?_)
      obtain ⟨b_143, hb_144, w⟩ := w
      refine zq_getf_rs (j := 8) rfl zq_a0 rfl rfl hb_144 ?_
      refine zq_call_i (i := .invokevirtual 171) (r := [1, 31, 0, 1, 8]) rfl rfl (fun h hp => zr_avv rfl (hp.obj (zq_fcls hR_142 (k := 8) (j := 8) (cj := 8) zq_a0 rfl rfl hb_144))) (of_decide_eq_false rfl) w (fun x_146 s_145 hx_147 w => ?_)
      refine zq_run 3 (pc' := 79) (L' := [(.ref (0)), (zq_vi (x1)), (zq_vi (x2)), (zq_vi (1022)), (zq_vi (x_146))]) (st' := [(.ref (0))]) (fun _ _ _ => rfl) ?_
      refine zq_have (fun hR_148 => ?_)
      obtain ⟨b_149, hb_150, w⟩ := w
      refine zq_getf_rs (j := 8) rfl zq_a0 rfl rfl hb_150 ?_
      refine zq_run 2 (pc' := 85) (L' := [(.ref (0)), (zq_vi (x1)), (zq_vi (x2)), (zq_vi (1022)), (zq_vi (x_146))]) (st' := [(.ref (0)), (zq_vi (x_146)), (.ref (b_149))]) (fun _ _ _ => rfl) ?_
      refine zq_getf_f (b := 4) rfl zq_a0 rfl rfl ?_
      refine zq_call_i (i := .invokevirtual 177) (r := [1, 90, 2, 1, 8]) rfl rfl (fun h hp => zr_avv rfl (hp.obj (zq_fcls hR_148 (k := 8) (j := 8) (cj := 8) zq_a0 rfl rfl hb_150))) (of_decide_eq_false rfl) w (fun x_152 s_151 hx_153 w => ?_)
      refine zq_ne0 rfl (zq_bo_in hx_153) (fun hb_154 => ?_) (fun hb_154 => ?_)
      · rw [if_neg hb_154] at w
        refine zq_run 2 (pc' := 104) (L' := [(.ref (0)), (zq_vi (x1)), (zq_vi (x2)), (zq_vi (1022)), (zq_vi (x_146))]) (st' := [(zq_vi (x1)), (.ref (0))]) (fun _ _ _ => rfl) ?_
        refine zq_call_v (i := .invokevirtual 181) (r := [1, 95, 1, 1, 0]) rfl rfl (fun h hp => zr_avv rfl (hp.obj zq_a0)) (of_decide_eq_false rfl) w (fun s_155 w => ?_)
        refine zq_run 1 (pc' := 108) (L' := [(.ref (0)), (zq_vi (x1)), (zq_vi (x2)), (zq_vi (1022)), (zq_vi (x_146))]) (st' := [(.ref (0))]) (fun _ _ _ => rfl) ?_
        refine zq_getf_f (b := 21) rfl zq_a0 rfl rfl ?_
        refine zq_run 1 (pc' := 112) (L' := [(.ref (0)), (zq_vi (x1)), (zq_vi (x2)), (zq_vi (1022)), (zq_vi (x_146))]) (st' := [(.ref (0)), (.ref (21))]) (fun _ _ _ => rfl) ?_
        refine zq_have (fun hR_156 => ?_)
        obtain ⟨b_157, hb_158, w⟩ := w
        refine zq_getf_rs (j := 7) rfl zq_a0 rfl rfl hb_158 ?_
        refine zq_run 1 (pc' := 116) (L' := [(.ref (0)), (zq_vi (x1)), (zq_vi (x2)), (zq_vi (1022)), (zq_vi (x_146))]) (st' := [(.ref (0)), (.ref (b_157)), (.ref (21))]) (fun _ _ _ => rfl) ?_
        obtain ⟨b_159, hb_160, w⟩ := w
        refine zq_getf_rs (j := 8) rfl zq_a0 rfl rfl hb_160 ?_
        refine zq_run 1 (pc' := 121) (L' := [(.ref (0)), (zq_vi (x1)), (zq_vi (x2)), (zq_vi (1022)), (zq_vi (x_146))]) (st' := [(zq_vi (x_146)), (.ref (b_159)), (.ref (b_157)), (.ref (21))]) (fun _ _ _ => rfl) ?_
        refine zq_call_v (i := .invokevirtual 185) (r := [1, 96, 3, 1, 6]) rfl rfl (fun h hp => zr_avv rfl (hp.obj zq_a21)) (of_decide_eq_false rfl) w (fun s_161 w => ?_)
        refine zq_run 1 (pc' := 125) (L' := [(.ref (0)), (zq_vi (x1)), (zq_vi (x2)), (zq_vi (1022)), (zq_vi (x_146))]) (st' := [(.ref (0))]) (fun _ _ _ => rfl) ?_
        refine zq_getf_f (b := 21) rfl zq_a0 rfl rfl ?_
        refine zq_run 1 (pc' := 129) (L' := [(.ref (0)), (zq_vi (x1)), (zq_vi (x2)), (zq_vi (1022)), (zq_vi (x_146))]) (st' := [(.ref (0)), (.ref (21))]) (fun _ _ _ => rfl) ?_
        refine zq_have (fun hR_162 => ?_)
        obtain ⟨b_163, hb_164, w⟩ := w
        refine zq_getf_rs (j := 7) rfl zq_a0 rfl rfl hb_164 ?_
        refine zq_run 1 (pc' := 133) (L' := [(.ref (0)), (zq_vi (x1)), (zq_vi (x2)), (zq_vi (1022)), (zq_vi (x_146))]) (st' := [(.ref (0)), (.ref (b_163)), (.ref (21))]) (fun _ _ _ => rfl) ?_
        obtain ⟨b_165, hb_166, w⟩ := w
        refine zq_getf_rs (j := 8) rfl zq_a0 rfl rfl hb_166 ?_
        refine zq_run 3 (pc' := 140) (L' := [(.ref (0)), (zq_vi (x1)), (zq_vi (x2)), (zq_vi (1022)), (zq_vi (x_146))]) (st' := [(zq_vi (x1)), (zq_vi (x_146)), (zq_vi (1022)), (.ref (b_165)), (.ref (b_163)), (.ref (21))]) (fun _ _ _ => rfl) ?_
        refine zq_eq0 rfl (zq_bo_in hx1) (fun hb_167 => ?_) (fun hb_167 => ?_)
        · rw [if_pos hb_167] at w
          refine zq_run 1 (pc' := 148) (L' := [(.ref (0)), (zq_vi (x1)), (zq_vi (x2)), (zq_vi (1022)), (zq_vi (x_146))]) (st' := [(zq_vi (x2)), (zq_vi (x_146)), (zq_vi (1022)), (.ref (b_165)), (.ref (b_163)), (.ref (21))]) (fun _ _ _ => rfl) ?_
          refine zq_call_v (i := .invokevirtual 189) (r := [1, 98, 5, 1, 6]) rfl rfl (fun h hp => zr_avv rfl (hp.obj zq_a21)) (of_decide_eq_false rfl) w (fun s_168 w => ?_)
          refine zq_run 1 (pc' := 152) (L' := [(.ref (0)), (zq_vi (x1)), (zq_vi (x2)), (zq_vi (1022)), (zq_vi (x_146))]) (st' := [(.ref (0))]) (fun _ _ _ => rfl) ?_
          refine zq_have (fun hR_169 => ?_)
          obtain ⟨b_170, hb_171, w⟩ := w
          refine zq_getf_rs (j := 7) rfl zq_a0 rfl rfl hb_171 ?_
          refine zq_getf_i (j := 2) (v := zq_i s_168 (b_170) (2)) rfl (zq_fcls hR_169 (k := 7) (j := 7) (cj := 1) zq_a0 rfl rfl hb_171) rfl rfl rfl ?_
          refine zq_eq0 rfl (zq_bo_in (hR_169.2.2.2.1 _ 1 2 (zq_fcls hR_169 (k := 7) (j := 7) (cj := 1) zq_a0 rfl rfl hb_171) rfl)) (fun hb_172 => ?_) (fun hb_172 => ?_)
          · rw [if_pos hb_172] at w
            refine zq_run 1 (pc' := 170) (L' := [(.ref (0)), (zq_vi (x1)), (zq_vi (x2)), (zq_vi (1022)), (zq_vi (x_146))]) (st' := [(zq_vi (x1))]) (fun _ _ _ => rfl) ?_
            refine zq_eq0 rfl (zq_bo_in hx1) (fun hb_173 => ?_) (fun hb_173 => ?_)
            · rw [if_pos hb_173] at w
              exact w
            · rw [if_neg hb_173] at w
              refine zq_run 1 (pc' := 174) (L' := [(.ref (0)), (zq_vi (x1)), (zq_vi (x2)), (zq_vi (1022)), (zq_vi (x_146))]) (st' := [(.ref (0))]) (fun _ _ _ => rfl) ?_
              obtain ⟨b_174, hb_175, w⟩ := w
              refine zq_getf_rs (j := 8) rfl zq_a0 rfl rfl hb_175 ?_
              refine zq_run 1 (pc' := 179) (L' := [(.ref (0)), (zq_vi (x1)), (zq_vi (x2)), (zq_vi (1022)), (zq_vi (x_146))]) (st' := [(zq_vi (x_146)), (.ref (b_174))]) (fun _ _ _ => rfl) ?_
              refine zq_call_v (i := .invokevirtual 199) (r := [1, 103, 1, 1, 8]) rfl rfl (fun h hp => zr_avv rfl (hp.obj (zq_fcls hR_169 (k := 8) (j := 8) (cj := 8) zq_a0 rfl rfl hb_175))) (of_decide_eq_false rfl) w (fun s_176 w => ?_)
              exact w
          · rw [if_neg hb_172] at w
            exact zq_throw rfl rfl (of_decide_eq_true rfl) w.1 (zq_thr w.2)
        · rw [if_neg hb_167] at w
          refine zq_run 2 (pc' := 148) (L' := [(.ref (0)), (zq_vi (x1)), (zq_vi (x2)), (zq_vi (1022)), (zq_vi (x_146))]) (st' := [(zq_vi ((-1))), (zq_vi (x_146)), (zq_vi (1022)), (.ref (b_165)), (.ref (b_163)), (.ref (21))]) (fun _ _ _ => rfl) ?_
          refine zq_call_v (i := .invokevirtual 189) (r := [1, 98, 5, 1, 6]) rfl rfl (fun h hp => zr_avv rfl (hp.obj zq_a21)) (of_decide_eq_false rfl) w (fun s_177 w => ?_)
          refine zq_run 1 (pc' := 152) (L' := [(.ref (0)), (zq_vi (x1)), (zq_vi (x2)), (zq_vi (1022)), (zq_vi (x_146))]) (st' := [(.ref (0))]) (fun _ _ _ => rfl) ?_
          refine zq_have (fun hR_178 => ?_)
          obtain ⟨b_179, hb_180, w⟩ := w
          refine zq_getf_rs (j := 7) rfl zq_a0 rfl rfl hb_180 ?_
          refine zq_getf_i (j := 2) (v := zq_i s_177 (b_179) (2)) rfl (zq_fcls hR_178 (k := 7) (j := 7) (cj := 1) zq_a0 rfl rfl hb_180) rfl rfl rfl ?_
          refine zq_eq0 rfl (zq_bo_in (hR_178.2.2.2.1 _ 1 2 (zq_fcls hR_178 (k := 7) (j := 7) (cj := 1) zq_a0 rfl rfl hb_180) rfl)) (fun hb_181 => ?_) (fun hb_181 => ?_)
          · rw [if_pos hb_181] at w
            refine zq_run 1 (pc' := 170) (L' := [(.ref (0)), (zq_vi (x1)), (zq_vi (x2)), (zq_vi (1022)), (zq_vi (x_146))]) (st' := [(zq_vi (x1))]) (fun _ _ _ => rfl) ?_
            refine zq_eq0 rfl (zq_bo_in hx1) (fun hb_182 => ?_) (fun hb_182 => ?_)
            · rw [if_pos hb_182] at w
              exact w
            · rw [if_neg hb_182] at w
              refine zq_run 1 (pc' := 174) (L' := [(.ref (0)), (zq_vi (x1)), (zq_vi (x2)), (zq_vi (1022)), (zq_vi (x_146))]) (st' := [(.ref (0))]) (fun _ _ _ => rfl) ?_
              obtain ⟨b_183, hb_184, w⟩ := w
              refine zq_getf_rs (j := 8) rfl zq_a0 rfl rfl hb_184 ?_
              refine zq_run 1 (pc' := 179) (L' := [(.ref (0)), (zq_vi (x1)), (zq_vi (x2)), (zq_vi (1022)), (zq_vi (x_146))]) (st' := [(zq_vi (x_146)), (.ref (b_183))]) (fun _ _ _ => rfl) ?_
              refine zq_call_v (i := .invokevirtual 199) (r := [1, 103, 1, 1, 8]) rfl rfl (fun h hp => zr_avv rfl (hp.obj (zq_fcls hR_178 (k := 8) (j := 8) (cj := 8) zq_a0 rfl rfl hb_184))) (of_decide_eq_false rfl) w (fun s_185 w => ?_)
              exact w
          · rw [if_neg hb_181] at w
            exact zq_throw rfl rfl (of_decide_eq_true rfl) w.1 (zq_thr w.2)
      · rw [if_pos hb_154] at w
        exact zq_throw rfl rfl (of_decide_eq_true rfl) w.1 (zq_thr w.2)
/-- PaperObjects.save at 182 -/
theorem zw_86_182 {X : Nat × (Nat → Int32)} {s : zq_S} {K : Int → zq_S → Prop} {T : Nat → zq_S → Prop} {x1 : Int} (hx1 : zq_bo x1) {x2 : Int} (hx2 : zq_iv x2) {x3 : Int} (hx3 : zq_iv x3) {x4 : Int} (hx4 : zq_iv x4) (w : (∃ b_2 : Nat, zq_r s (0) 8 = some b_2 ∧ (zq_Ex X 104 0 [(.ref (b_2)), zz_no] [] s (zq_rv fun s_4 => (zq_Ex X 105 0 [(.ref (0)), zz_no] [] s_4 (zq_rv fun s_5 => (zq_Ex X 71 0 [(.ref (3))] [] s_5 (zq_rv fun s_6 => (∃ b_8 : Nat, zq_r s_6 (0) 6 = some b_8 ∧ K (zq_i s_6 (b_8) (1)) s_6))))))))) : zq_Ex X 86 182 [(.ref (0)), (zq_vi (x1)), (zq_vi (x2)), (zq_vi (x3)), (zq_vi (x4))] [] s (zq_rx (zq_rp zq_iv K) T) := by
  refine zq_run 1 (pc' := 183) (L' := [(.ref (0)), (zq_vi (x1)), (zq_vi (x2)), (zq_vi (x3)), (zq_vi (x4))]) (st' := [(.ref (0))]) (fun _ _ _ => rfl) ?_
  refine zq_have (fun hR_1 => ?_)
  obtain ⟨b_2, hb_3, w⟩ := w
  refine zq_getf_rs (j := 8) rfl zq_a0 rfl rfl hb_3 ?_
  refine zq_call_v (i := .invokevirtual 202) (r := [1, 104, 0, 1, 8]) rfl rfl (fun h hp => zr_avv rfl (hp.obj (zq_fcls hR_1 (k := 8) (j := 8) (cj := 8) zq_a0 rfl rfl hb_3))) (of_decide_eq_false rfl) w (fun s_4 w => ?_)
  refine zq_run 1 (pc' := 190) (L' := [(.ref (0)), (zq_vi (x1)), (zq_vi (x2)), (zq_vi (x3)), (zq_vi (x4))]) (st' := [(.ref (0))]) (fun _ _ _ => rfl) ?_
  refine zq_call_v (i := .invokevirtual 205) (r := [1, 105, 0, 1, 0]) rfl rfl (fun h hp => zr_avv rfl (hp.obj zq_a0)) (of_decide_eq_false rfl) w (fun s_5 w => ?_)
  refine zq_run 1 (pc' := 194) (L' := [(.ref (0)), (zq_vi (x1)), (zq_vi (x2)), (zq_vi (x3)), (zq_vi (x4))]) (st' := [(.ref (0))]) (fun _ _ _ => rfl) ?_
  refine zq_getf_f (b := 3) rfl zq_a0 rfl rfl ?_
  refine zq_call_v (i := .invokevirtual 134) (r := [1, 71, 0, 1, 2]) rfl rfl (fun h hp => zr_avv rfl (hp.obj zq_a3)) (of_decide_eq_false rfl) w (fun s_6 w => ?_)
  refine zq_run 1 (pc' := 201) (L' := [(.ref (0)), (zq_vi (x1)), (zq_vi (x2)), (zq_vi (x3)), (zq_vi (x4))]) (st' := [(.ref (0))]) (fun _ _ _ => rfl) ?_
  refine zq_have (fun hR_7 => ?_)
  obtain ⟨b_8, hb_9, w⟩ := w
  refine zq_getf_rs (j := 6) rfl zq_a0 rfl rfl hb_9 ?_
  refine zq_getf_i (j := 1) (v := zq_i s_6 (b_8) (1)) rfl (zq_fcls hR_7 (k := 6) (j := 6) (cj := 1) zq_a0 rfl rfl hb_9) rfl rfl rfl ?_
  exact zq_iret rfl rfl rfl (Or.inl ⟨_, rfl, (hR_7.1 _ _), w⟩)
/-- PaperObjects$Text.tailNumber()I -/
theorem zw_87 {X : Nat × (Nat → Int32)} {s : zq_S} {K : Int → zq_S → Prop} {a0 : Nat} (ha0 : zq_o 1 a0) (w : zq_Ex X 87 13 [(.ref (a0)), (zq_vi ((zq_i s (a0) (1)) - 7)), (zq_vi ((zq_i s (a0) (1)) - 7)), zz_no] [] s (zq_rp zq_iv K)) : zq_Ex X 87 0 [(.ref (a0)), zz_no, zz_no, zz_no] [] s (zq_rp zq_iv K) := by
  refine zq_run 1 (pc' := 1) (L' := [(.ref (a0)), zz_no, zz_no, zz_no]) (st' := [(.ref (a0))]) (fun _ _ _ => rfl) ?_
  refine zq_have (fun hR_1 => ?_)
  refine zq_getf_i (j := 1) (v := zq_i s (a0) (1)) rfl ha0 rfl rfl rfl ?_
  refine zq_run 1 (pc' := 6) (L' := [(.ref (a0)), zz_no, zz_no, zz_no]) (st' := [(.ref (1000000 + 11)), (zq_vi (zq_i s (a0) (1)))]) (fun _ _ _ => rfl) ?_
  refine zq_strl (j := 11) (m := 7) rfl (of_decide_eq_true rfl) rfl rfl ?_
  refine zq_isub rfl ?_
  refine zq_run 3 (pc' := 13) (L' := [(.ref (a0)), (zq_vi ((zq_i s (a0) (1)) - 7)), (zq_vi ((zq_i s (a0) (1)) - 7)), zz_no]) (st' := []) (fun _ _ _ => rfl) ?_
  exact w
/-- PaperObjects$Text.tailNumber at 13 -/
theorem zw_87_13 {X : Nat × (Nat → Int32)} {s : zq_S} {K : Int → zq_S → Prop} {a0 : Nat} (ha0 : zq_o 1 a0) {x1 : Int} (hx1 : zq_iv x1) {x2 : Int} (hx2 : zq_iv x2) {v3 : Value} (hv3 : v3.category = 1) (w : (zq_iv (x1 - x2) ∧ (if x1 - x2 < 3 then (zq_Ex X 29 0 [(.ref (a0)), (zq_vi (x2 - 1))] [] s (zq_rp zq_iv fun x_15 s_14 => (zq_Ex X 64 0 [(zq_vi (x_15))] [] s_14 (zq_rp zq_bo fun x_18 s_17 => (if x_18 = 0 then (zq_Ex X 49 0 [(.ref (a0)), (zq_vi (x2 - 10)), (.ref (1000000 + 12)), zz_no] [] s_17 (zq_rp zq_bo fun x_22 s_21 => (if x_22 = 0 then K ((-1)) s_21 else (zq_Ex X 49 0 [(.ref (a0)), (zq_vi (x1)), (.ref (1000000 + 11)), zz_no] [] s_21 (zq_rp zq_bo fun x_26 s_25 => (if x_26 = 0 then K ((-1)) s_25 else (zq_Ex X 68 0 [(.ref (a0)), (zq_vi (x2)), (zq_vi (x1)), zz_no, zz_no] [] s_25 (zq_rp zq_iv fun x_30 s_29 => K (x_30) s_29)))))))) else zq_Ex X 87 13 [(.ref (a0)), (zq_vi (x1)), (zq_vi (x2 + (-1))), v3] [] s_17 (zq_rp zq_iv K)))))) else (zq_Ex X 49 0 [(.ref (a0)), (zq_vi (x2 - 10)), (.ref (1000000 + 12)), zz_no] [] s (zq_rp zq_bo fun x_4 s_3 => (if x_4 = 0 then K ((-1)) s_3 else (zq_Ex X 49 0 [(.ref (a0)), (zq_vi (x1)), (.ref (1000000 + 11)), zz_no] [] s_3 (zq_rp zq_bo fun x_8 s_7 => (if x_8 = 0 then K ((-1)) s_7 else (zq_Ex X 68 0 [(.ref (a0)), (zq_vi (x2)), (zq_vi (x1)), zz_no, zz_no] [] s_7 (zq_rp zq_iv fun x_12 s_11 => K (x_12) s_11))))))))))) : zq_Ex X 87 13 [(.ref (a0)), (zq_vi (x1)), (zq_vi (x2)), v3] [] s (zq_rp zq_iv K) := by
  refine zq_run 2 (pc' := 15) (L' := [(.ref (a0)), (zq_vi (x1)), (zq_vi (x2)), v3]) (st' := [(zq_vi (x2)), (zq_vi (x1))]) (fun _ _ _ => rfl) ?_
  refine zq_isub rfl ?_
  refine zq_run 1 (pc' := 17) (L' := [(.ref (a0)), (zq_vi (x1)), (zq_vi (x2)), v3]) (st' := [(zq_vi (3)), (zq_vi (x1 - x2))]) (fun _ _ _ => rfl) ?_
  obtain ⟨g_1, w⟩ := w
  refine zq_ge rfl g_1 (of_decide_eq_true rfl) (fun hb_2 => ?_) (fun hb_2 => ?_)
  · rw [if_neg hb_2] at w
    refine zq_run 3 (pc' := 43) (L' := [(.ref (a0)), (zq_vi (x1)), (zq_vi (x2)), v3]) (st' := [(.ref (1000000 + 12)), (zq_vi (x2)), (.ref (a0))]) (fun _ _ _ => rfl) ?_
    refine zq_strl (j := 12) (m := 10) rfl (of_decide_eq_true rfl) rfl rfl ?_
    refine zq_isub rfl ?_
    refine zq_run 1 (pc' := 49) (L' := [(.ref (a0)), (zq_vi (x1)), (zq_vi (x2)), v3]) (st' := [(.ref (1000000 + 12)), (zq_vi (x2 - 10)), (.ref (a0))]) (fun _ _ _ => rfl) ?_
    refine zq_call_i (i := .invokevirtual 64) (r := [1, 49, 2, 1, 1]) rfl rfl (fun h hp => zr_avv rfl (hp.obj ha0)) (of_decide_eq_false rfl) w (fun x_4 s_3 hx_5 w => ?_)
    refine zq_eq0 rfl (zq_bo_in hx_5) (fun hb_6 => ?_) (fun hb_6 => ?_)
    · rw [if_pos hb_6] at w
      refine zq_run 3 (pc' := 72) (L' := [(.ref (a0)), (zq_vi (x1)), (zq_vi (x2)), (zq_vi (0))]) (st' := [(zq_vi (0))]) (fun _ _ _ => rfl) ?_
      refine zq_eq0 rfl (of_decide_eq_true rfl) (fun _ => ?_) (fun hb => absurd (by decide) hb)
      refine zq_run 1 (pc' := 85) (L' := [(.ref (a0)), (zq_vi (x1)), (zq_vi (x2)), (zq_vi (0))]) (st' := [(zq_vi ((-1)))]) (fun _ _ _ => rfl) ?_
      exact zq_iret rfl rfl rfl (⟨_, rfl, (of_decide_eq_true rfl), w⟩)
    · rw [if_neg hb_6] at w
      refine zq_run 3 (pc' := 59) (L' := [(.ref (a0)), (zq_vi (x1)), (zq_vi (x2)), v3]) (st' := [(.ref (1000000 + 11)), (zq_vi (x1)), (.ref (a0))]) (fun _ _ _ => rfl) ?_
      refine zq_call_i (i := .invokevirtual 64) (r := [1, 49, 2, 1, 1]) rfl rfl (fun h hp => zr_avv rfl (hp.obj ha0)) (of_decide_eq_false rfl) w (fun x_8 s_7 hx_9 w => ?_)
      refine zq_eq0 rfl (zq_bo_in hx_9) (fun hb_10 => ?_) (fun hb_10 => ?_)
      · rw [if_pos hb_10] at w
        refine zq_run 3 (pc' := 72) (L' := [(.ref (a0)), (zq_vi (x1)), (zq_vi (x2)), (zq_vi (0))]) (st' := [(zq_vi (0))]) (fun _ _ _ => rfl) ?_
        refine zq_eq0 rfl (of_decide_eq_true rfl) (fun _ => ?_) (fun hb => absurd (by decide) hb)
        refine zq_run 1 (pc' := 85) (L' := [(.ref (a0)), (zq_vi (x1)), (zq_vi (x2)), (zq_vi (0))]) (st' := [(zq_vi ((-1)))]) (fun _ _ _ => rfl) ?_
        exact zq_iret rfl rfl rfl (⟨_, rfl, (of_decide_eq_true rfl), w⟩)
      · rw [if_neg hb_10] at w
        refine zq_run 4 (pc' := 72) (L' := [(.ref (a0)), (zq_vi (x1)), (zq_vi (x2)), (zq_vi (1))]) (st' := [(zq_vi (1))]) (fun _ _ _ => rfl) ?_
        refine zq_eq0 rfl (of_decide_eq_true rfl) (fun hb => absurd hb (by decide)) (fun _ => ?_)
        refine zq_run 3 (pc' := 78) (L' := [(.ref (a0)), (zq_vi (x1)), (zq_vi (x2)), (zq_vi (1))]) (st' := [(zq_vi (x1)), (zq_vi (x2)), (.ref (a0))]) (fun _ _ _ => rfl) ?_
        refine zq_call_i (i := .invokevirtual 68) (r := [1, 68, 2, 1, 1]) rfl rfl (fun h hp => zr_avv rfl (hp.obj ha0)) (of_decide_eq_false rfl) w (fun x_12 s_11 hx_13 w => ?_)
        refine zq_run 1 (pc' := 85) (L' := [(.ref (a0)), (zq_vi (x1)), (zq_vi (x2)), (zq_vi (1))]) (st' := [(zq_vi (x_12))]) (fun _ _ _ => rfl) ?_
        exact zq_iret rfl rfl rfl (⟨_, rfl, hx_13, w⟩)
  · rw [if_pos hb_2] at w
    refine zq_run 3 (pc' := 23) (L' := [(.ref (a0)), (zq_vi (x1)), (zq_vi (x2)), v3]) (st' := [(zq_vi (1)), (zq_vi (x2)), (.ref (a0))]) (fun _ _ _ => rfl) ?_
    refine zq_isub rfl ?_
    refine zq_call_i (i := .invokevirtual 36) (r := [1, 29, 1, 1, 1]) rfl rfl (fun h hp => zr_avv rfl (hp.obj ha0)) (of_decide_eq_false rfl) w (fun x_15 s_14 hx_16 w => ?_)
    refine zq_call_i (i := .invokestatic 57) (r := [1, 64, 1, 0, 0]) rfl rfl (fun _ _ => rfl) (of_decide_eq_false rfl) w (fun x_18 s_17 hx_19 w => ?_)
    refine zq_eq0 rfl (zq_bo_in hx_19) (fun hb_20 => ?_) (fun hb_20 => ?_)
    · rw [if_pos hb_20] at w
      refine zq_run 3 (pc' := 43) (L' := [(.ref (a0)), (zq_vi (x1)), (zq_vi (x2)), v3]) (st' := [(.ref (1000000 + 12)), (zq_vi (x2)), (.ref (a0))]) (fun _ _ _ => rfl) ?_
      refine zq_strl (j := 12) (m := 10) rfl (of_decide_eq_true rfl) rfl rfl ?_
      refine zq_isub rfl ?_
      refine zq_run 1 (pc' := 49) (L' := [(.ref (a0)), (zq_vi (x1)), (zq_vi (x2)), v3]) (st' := [(.ref (1000000 + 12)), (zq_vi (x2 - 10)), (.ref (a0))]) (fun _ _ _ => rfl) ?_
      refine zq_call_i (i := .invokevirtual 64) (r := [1, 49, 2, 1, 1]) rfl rfl (fun h hp => zr_avv rfl (hp.obj ha0)) (of_decide_eq_false rfl) w (fun x_22 s_21 hx_23 w => ?_)
      refine zq_eq0 rfl (zq_bo_in hx_23) (fun hb_24 => ?_) (fun hb_24 => ?_)
      · rw [if_pos hb_24] at w
        refine zq_run 3 (pc' := 72) (L' := [(.ref (a0)), (zq_vi (x1)), (zq_vi (x2)), (zq_vi (0))]) (st' := [(zq_vi (0))]) (fun _ _ _ => rfl) ?_
        refine zq_eq0 rfl (of_decide_eq_true rfl) (fun _ => ?_) (fun hb => absurd (by decide) hb)
        refine zq_run 1 (pc' := 85) (L' := [(.ref (a0)), (zq_vi (x1)), (zq_vi (x2)), (zq_vi (0))]) (st' := [(zq_vi ((-1)))]) (fun _ _ _ => rfl) ?_
        exact zq_iret rfl rfl rfl (⟨_, rfl, (of_decide_eq_true rfl), w⟩)
      · rw [if_neg hb_24] at w
        refine zq_run 3 (pc' := 59) (L' := [(.ref (a0)), (zq_vi (x1)), (zq_vi (x2)), v3]) (st' := [(.ref (1000000 + 11)), (zq_vi (x1)), (.ref (a0))]) (fun _ _ _ => rfl) ?_
        refine zq_call_i (i := .invokevirtual 64) (r := [1, 49, 2, 1, 1]) rfl rfl (fun h hp => zr_avv rfl (hp.obj ha0)) (of_decide_eq_false rfl) w (fun x_26 s_25 hx_27 w => ?_)
        refine zq_eq0 rfl (zq_bo_in hx_27) (fun hb_28 => ?_) (fun hb_28 => ?_)
        · rw [if_pos hb_28] at w
          refine zq_run 3 (pc' := 72) (L' := [(.ref (a0)), (zq_vi (x1)), (zq_vi (x2)), (zq_vi (0))]) (st' := [(zq_vi (0))]) (fun _ _ _ => rfl) ?_
          refine zq_eq0 rfl (of_decide_eq_true rfl) (fun _ => ?_) (fun hb => absurd (by decide) hb)
          refine zq_run 1 (pc' := 85) (L' := [(.ref (a0)), (zq_vi (x1)), (zq_vi (x2)), (zq_vi (0))]) (st' := [(zq_vi ((-1)))]) (fun _ _ _ => rfl) ?_
          exact zq_iret rfl rfl rfl (⟨_, rfl, (of_decide_eq_true rfl), w⟩)
        · rw [if_neg hb_28] at w
          refine zq_run 4 (pc' := 72) (L' := [(.ref (a0)), (zq_vi (x1)), (zq_vi (x2)), (zq_vi (1))]) (st' := [(zq_vi (1))]) (fun _ _ _ => rfl) ?_
          refine zq_eq0 rfl (of_decide_eq_true rfl) (fun hb => absurd hb (by decide)) (fun _ => ?_)
          refine zq_run 3 (pc' := 78) (L' := [(.ref (a0)), (zq_vi (x1)), (zq_vi (x2)), (zq_vi (1))]) (st' := [(zq_vi (x1)), (zq_vi (x2)), (.ref (a0))]) (fun _ _ _ => rfl) ?_
          refine zq_call_i (i := .invokevirtual 68) (r := [1, 68, 2, 1, 1]) rfl rfl (fun h hp => zr_avv rfl (hp.obj ha0)) (of_decide_eq_false rfl) w (fun x_30 s_29 hx_31 w => ?_)
          refine zq_run 1 (pc' := 85) (L' := [(.ref (a0)), (zq_vi (x1)), (zq_vi (x2)), (zq_vi (1))]) (st' := [(zq_vi (x_30))]) (fun _ _ _ => rfl) ?_
          exact zq_iret rfl rfl rfl (⟨_, rfl, hx_31, w⟩)
    · rw [if_neg hb_20] at w
      refine zq_iinc (L' := [(.ref (a0)), (zq_vi (x1)), (zq_vi (x2 + (-1))), v3]) rfl rfl rfl ?_
      refine zq_run 1 (pc' := 13) (L' := [(.ref (a0)), (zq_vi (x1)), (zq_vi (x2 + (-1))), v3]) (st' := []) (fun _ _ _ => rfl) ?_
      exact w
/-- PaperObjects$Table.changedOnes()I -/
theorem zw_88 {X : Nat × (Nat → Int32)} {s : zq_S} {K : Int → zq_S → Prop} {a0 : Nat} (ha0 : zq_o 8 a0) (w : zq_Ex X 88 4 [(.ref (a0)), (zq_vi (0)), (zq_vi (0))] [] s (zq_rp zq_iv K)) : zq_Ex X 88 0 [(.ref (a0)), zz_no, zz_no] [] s (zq_rp zq_iv K) := by
  refine zq_run 4 (pc' := 4) (L' := [(.ref (a0)), (zq_vi (0)), (zq_vi (0))]) (st' := []) (fun _ _ _ => rfl) ?_
  exact w
/-- PaperObjects$Table.changedOnes at 4 -/
theorem zw_88_4 {X : Nat × (Nat → Int32)} {s : zq_S} {K : Int → zq_S → Prop} {a0 : Nat} (ha0 : zq_o 8 a0) {x1 : Int} (hx1 : zq_iv x1) {x2 : Int} (hx2 : zq_iv x2) (w : (if x2 < 9 then (((0 : Int) ≤ x2 ∧ x2 < 9) ∧ (if zq_i s (a0 + 1 + 8 + 10 * (x2).toNat) (1) = 0 then zq_Ex X 88 4 [(.ref (a0)), (zq_vi (zq_or (x1) (0))), (zq_vi (x2 + 1))] [] s (zq_rp zq_iv K) else zq_Ex X 88 4 [(.ref (a0)), (zq_vi (zq_or (x1) (zq_shl (2) (x2)))), (zq_vi (x2 + 1))] [] s (zq_rp zq_iv K))) else K (x1) s)) : zq_Ex X 88 4 [(.ref (a0)), (zq_vi (x1)), (zq_vi (x2))] [] s (zq_rp zq_iv K) := by
  refine zq_run 2 (pc' := 7) (L' := [(.ref (a0)), (zq_vi (x1)), (zq_vi (x2))]) (st' := [(zq_vi (9)), (zq_vi (x2))]) (fun _ _ _ => rfl) ?_
  refine zq_ge rfl hx2 (of_decide_eq_true rfl) (fun hb_1 => ?_) (fun hb_1 => ?_)
  · rw [if_neg hb_1] at w
    refine zq_run 1 (pc' := 39) (L' := [(.ref (a0)), (zq_vi (x1)), (zq_vi (x2))]) (st' := [(zq_vi (x1))]) (fun _ _ _ => rfl) ?_
    exact zq_iret rfl rfl rfl (⟨_, rfl, hx1, w⟩)
  · rw [if_pos hb_1] at w
    refine zq_run 2 (pc' := 12) (L' := [(.ref (a0)), (zq_vi (x1)), (zq_vi (x2))]) (st' := [(.ref (a0)), (zq_vi (x1))]) (fun _ _ _ => rfl) ?_
    refine zq_getf_f (b := a0 + 1) rfl ha0 rfl rfl ?_
    refine zq_run 1 (pc' := 16) (L' := [(.ref (a0)), (zq_vi (x1)), (zq_vi (x2))]) (st' := [(zq_vi (x2)), (.ref (a0 + 1)), (zq_vi (x1))]) (fun _ _ _ => rfl) ?_
    obtain ⟨g_2, w⟩ := w
    refine zq_ald_s rfl (zq_L8 ha0).1 g_2.1 g_2.2 ?_
    refine zq_have (fun hR_3 => ?_)
    refine zq_getf_i (j := 1) (v := zq_i s (a0 + 1 + 8 + 10 * (x2).toNat) (1)) rfl (zq_L8s ha0 g_2.1 g_2.2) rfl rfl rfl ?_
    refine zq_eq0 rfl (zq_bo_in (hR_3.2.2.2.1 _ 7 1 (zq_L8s ha0 g_2.1 g_2.2) rfl)) (fun hb_4 => ?_) (fun hb_4 => ?_)
    · rw [if_pos hb_4] at w
      refine zq_run 1 (pc' := 30) (L' := [(.ref (a0)), (zq_vi (x1)), (zq_vi (x2))]) (st' := [(zq_vi (0)), (zq_vi (x1))]) (fun _ _ _ => rfl) ?_
      refine zq_ior rfl ?_
      refine zq_run 1 (pc' := 32) (L' := [(.ref (a0)), (zq_vi (zq_or (x1) (0))), (zq_vi (x2))]) (st' := []) (fun _ _ _ => rfl) ?_
      refine zq_iinc (L' := [(.ref (a0)), (zq_vi (zq_or (x1) (0))), (zq_vi (x2 + 1))]) rfl rfl rfl ?_
      refine zq_run 1 (pc' := 4) (L' := [(.ref (a0)), (zq_vi (zq_or (x1) (0))), (zq_vi (x2 + 1))]) (st' := []) (fun _ _ _ => rfl) ?_
      exact w
    · rw [if_neg hb_4] at w
      refine zq_run 2 (pc' := 25) (L' := [(.ref (a0)), (zq_vi (x1)), (zq_vi (x2))]) (st' := [(zq_vi (x2)), (zq_vi (2)), (zq_vi (x1))]) (fun _ _ _ => rfl) ?_
      refine zq_ishl rfl ?_
      refine zq_run 1 (pc' := 30) (L' := [(.ref (a0)), (zq_vi (x1)), (zq_vi (x2))]) (st' := [(zq_vi (zq_shl (2) (x2))), (zq_vi (x1))]) (fun _ _ _ => rfl) ?_
      refine zq_ior rfl ?_
      refine zq_run 1 (pc' := 32) (L' := [(.ref (a0)), (zq_vi (zq_or (x1) (zq_shl (2) (x2)))), (zq_vi (x2))]) (st' := []) (fun _ _ _ => rfl) ?_
      refine zq_iinc (L' := [(.ref (a0)), (zq_vi (zq_or (x1) (zq_shl (2) (x2)))), (zq_vi (x2 + 1))]) rfl rfl rfl ?_
      refine zq_run 1 (pc' := 4) (L' := [(.ref (a0)), (zq_vi (zq_or (x1) (zq_shl (2) (x2)))), (zq_vi (x2 + 1))]) (st' := []) (fun _ _ _ => rfl) ?_
      exact w
/-- PaperObjects$Table.usedOnes()I -/
theorem zw_89 {X : Nat × (Nat → Int32)} {s : zq_S} {K : Int → zq_S → Prop} {a0 : Nat} (ha0 : zq_o 8 a0) (w : zq_Ex X 89 4 [(.ref (a0)), (zq_vi (0)), (zq_vi (0))] [] s (zq_rp zq_iv K)) : zq_Ex X 89 0 [(.ref (a0)), zz_no, zz_no] [] s (zq_rp zq_iv K) := by
  refine zq_run 4 (pc' := 4) (L' := [(.ref (a0)), (zq_vi (0)), (zq_vi (0))]) (st' := []) (fun _ _ _ => rfl) ?_
  exact w
/-- PaperObjects$Table.usedOnes at 4 -/
theorem zw_89_4 {X : Nat × (Nat → Int32)} {s : zq_S} {K : Int → zq_S → Prop} {a0 : Nat} (ha0 : zq_o 8 a0) {x1 : Int} (hx1 : zq_iv x1) {x2 : Int} (hx2 : zq_iv x2) (w : (if x2 < 9 then (((0 : Int) ≤ x2 ∧ x2 < 9) ∧ (if zq_i s (a0 + 1 + 8 + 10 * (x2).toNat) (0) = 0 then zq_Ex X 89 4 [(.ref (a0)), (zq_vi (zq_or (x1) (0))), (zq_vi (x2 + 1))] [] s (zq_rp zq_iv K) else zq_Ex X 89 4 [(.ref (a0)), (zq_vi (zq_or (x1) (zq_shl (2) (x2)))), (zq_vi (x2 + 1))] [] s (zq_rp zq_iv K))) else K (x1) s)) : zq_Ex X 89 4 [(.ref (a0)), (zq_vi (x1)), (zq_vi (x2))] [] s (zq_rp zq_iv K) := by
  refine zq_run 2 (pc' := 7) (L' := [(.ref (a0)), (zq_vi (x1)), (zq_vi (x2))]) (st' := [(zq_vi (9)), (zq_vi (x2))]) (fun _ _ _ => rfl) ?_
  refine zq_ge rfl hx2 (of_decide_eq_true rfl) (fun hb_1 => ?_) (fun hb_1 => ?_)
  · rw [if_neg hb_1] at w
    refine zq_run 1 (pc' := 39) (L' := [(.ref (a0)), (zq_vi (x1)), (zq_vi (x2))]) (st' := [(zq_vi (x1))]) (fun _ _ _ => rfl) ?_
    exact zq_iret rfl rfl rfl (⟨_, rfl, hx1, w⟩)
  · rw [if_pos hb_1] at w
    refine zq_run 2 (pc' := 12) (L' := [(.ref (a0)), (zq_vi (x1)), (zq_vi (x2))]) (st' := [(.ref (a0)), (zq_vi (x1))]) (fun _ _ _ => rfl) ?_
    refine zq_getf_f (b := a0 + 1) rfl ha0 rfl rfl ?_
    refine zq_run 1 (pc' := 16) (L' := [(.ref (a0)), (zq_vi (x1)), (zq_vi (x2))]) (st' := [(zq_vi (x2)), (.ref (a0 + 1)), (zq_vi (x1))]) (fun _ _ _ => rfl) ?_
    obtain ⟨g_2, w⟩ := w
    refine zq_ald_s rfl (zq_L8 ha0).1 g_2.1 g_2.2 ?_
    refine zq_have (fun hR_3 => ?_)
    refine zq_getf_i (j := 0) (v := zq_i s (a0 + 1 + 8 + 10 * (x2).toNat) (0)) rfl (zq_L8s ha0 g_2.1 g_2.2) rfl rfl rfl ?_
    refine zq_eq0 rfl (zq_bo_in (hR_3.2.2.2.1 _ 7 0 (zq_L8s ha0 g_2.1 g_2.2) rfl)) (fun hb_4 => ?_) (fun hb_4 => ?_)
    · rw [if_pos hb_4] at w
      refine zq_run 1 (pc' := 30) (L' := [(.ref (a0)), (zq_vi (x1)), (zq_vi (x2))]) (st' := [(zq_vi (0)), (zq_vi (x1))]) (fun _ _ _ => rfl) ?_
      refine zq_ior rfl ?_
      refine zq_run 1 (pc' := 32) (L' := [(.ref (a0)), (zq_vi (zq_or (x1) (0))), (zq_vi (x2))]) (st' := []) (fun _ _ _ => rfl) ?_
      refine zq_iinc (L' := [(.ref (a0)), (zq_vi (zq_or (x1) (0))), (zq_vi (x2 + 1))]) rfl rfl rfl ?_
      refine zq_run 1 (pc' := 4) (L' := [(.ref (a0)), (zq_vi (zq_or (x1) (0))), (zq_vi (x2 + 1))]) (st' := []) (fun _ _ _ => rfl) ?_
      exact w
    · rw [if_neg hb_4] at w
      refine zq_run 2 (pc' := 25) (L' := [(.ref (a0)), (zq_vi (x1)), (zq_vi (x2))]) (st' := [(zq_vi (x2)), (zq_vi (2)), (zq_vi (x1))]) (fun _ _ _ => rfl) ?_
      refine zq_ishl rfl ?_
      refine zq_run 1 (pc' := 30) (L' := [(.ref (a0)), (zq_vi (x1)), (zq_vi (x2))]) (st' := [(zq_vi (zq_shl (2) (x2))), (zq_vi (x1))]) (fun _ _ _ => rfl) ?_
      refine zq_ior rfl ?_
      refine zq_run 1 (pc' := 32) (L' := [(.ref (a0)), (zq_vi (zq_or (x1) (zq_shl (2) (x2)))), (zq_vi (x2))]) (st' := []) (fun _ _ _ => rfl) ?_
      refine zq_iinc (L' := [(.ref (a0)), (zq_vi (zq_or (x1) (zq_shl (2) (x2)))), (zq_vi (x2 + 1))]) rfl rfl rfl ?_
      refine zq_run 1 (pc' := 4) (L' := [(.ref (a0)), (zq_vi (zq_or (x1) (zq_shl (2) (x2)))), (zq_vi (x2 + 1))]) (st' := []) (fun _ _ _ => rfl) ?_
      exact w
/-- PaperObjects$Table.lengthsHold(ILPaperObjects$Cursor;)Z -/
theorem zw_90 {X : Nat × (Nat → Int32)} {s : zq_S} {K : Int → zq_S → Prop} {a0 : Nat} (ha0 : zq_o 8 a0) {x1 : Int} (hx1 : zq_iv x1) {a2 : Nat} (ha2 : zq_o 2 a2) (w : zq_Ex X 90 2 [(.ref (a0)), (zq_vi (x1)), (.ref (a2)), (zq_vi (0)), zz_no] [] s (zq_rp zq_bo K)) : zq_Ex X 90 0 [(.ref (a0)), (zq_vi (x1)), (.ref (a2)), zz_no, zz_no] [] s (zq_rp zq_bo K) := by
  refine zq_run 2 (pc' := 2) (L' := [(.ref (a0)), (zq_vi (x1)), (.ref (a2)), (zq_vi (0)), zz_no]) (st' := []) (fun _ _ _ => rfl) ?_
  exact w
/-- PaperObjects$Table.lengthsHold at 2 -/
theorem zw_90_2 {X : Nat × (Nat → Int32)} {s : zq_S} {K : Int → zq_S → Prop} {a0 : Nat} (ha0 : zq_o 8 a0) {x1 : Int} (hx1 : zq_iv x1) {a2 : Nat} (ha2 : zq_o 2 a2) {x3 : Int} (hx3 : zq_iv x3) {v4 : Value} (hv4 : v4.category = 1) (w : (if x3 < 9 then (((0 : Int) ≤ x3 ∧ x3 < 9) ∧ (zq_Ex X 35 0 [(zq_vi (x1)), (zq_vi (x3 + 1))] [] s (zq_rp zq_bo fun x_4 s_3 => (if x_4 = 0 then zq_Ex X 90 2 [(.ref (a0)), (zq_vi (x1)), (.ref (a2)), (zq_vi (x3 + 1)), (.ref (a0 + 1 + 8 + 10 * (x3).toNat))] [] s_3 (zq_rp zq_bo K) else (if zq_i s_3 (a0 + 1 + 8 + 10 * (x3).toNat) (2) = 0 then zq_Ex X 90 2 [(.ref (a0)), (zq_vi (x1)), (.ref (a2)), (zq_vi (x3 + 1)), (.ref (a0 + 1 + 8 + 10 * (x3).toNat))] [] s_3 (zq_rp zq_bo K) else (∃ b_9 : Nat, zq_r s_3 (a0 + 1 + 8 + 10 * (x3).toNat) 4 = some b_9 ∧ (zq_Ex X 91 0 [(.ref (a0)), (.ref (b_9)), (.ref (a2)), zz_no, zz_no] [] s_3 (zq_rp zq_iv fun x_12 s_11 => (if x_12 = zq_i s_11 (a0 + 1 + 8 + 10 * (x3).toNat + 8) (1) then zq_Ex X 90 2 [(.ref (a0)), (zq_vi (x1)), (.ref (a2)), (zq_vi (x3 + 1)), (.ref (a0 + 1 + 8 + 10 * (x3).toNat))] [] s_11 (zq_rp zq_bo K) else K (0) s_11))))))))) else K (1) s)) : zq_Ex X 90 2 [(.ref (a0)), (zq_vi (x1)), (.ref (a2)), (zq_vi (x3)), v4] [] s (zq_rp zq_bo K) := by
  refine zq_run 2 (pc' := 5) (L' := [(.ref (a0)), (zq_vi (x1)), (.ref (a2)), (zq_vi (x3)), v4]) (st' := [(zq_vi (9)), (zq_vi (x3))]) (fun _ _ _ => rfl) ?_
  refine zq_ge rfl hx3 (of_decide_eq_true rfl) (fun hb_1 => ?_) (fun hb_1 => ?_)
  · rw [if_neg hb_1] at w
    refine zq_run 1 (pc' := 64) (L' := [(.ref (a0)), (zq_vi (x1)), (.ref (a2)), (zq_vi (x3)), v4]) (st' := [(zq_vi (1))]) (fun _ _ _ => rfl) ?_
    exact zq_iret rfl rfl (congrArg Value.int (zq_nb (of_decide_eq_true rfl))) (⟨_, rfl, (of_decide_eq_true rfl), w⟩)
  · rw [if_pos hb_1] at w
    refine zq_run 1 (pc' := 9) (L' := [(.ref (a0)), (zq_vi (x1)), (.ref (a2)), (zq_vi (x3)), v4]) (st' := [(.ref (a0))]) (fun _ _ _ => rfl) ?_
    refine zq_getf_f (b := a0 + 1) rfl ha0 rfl rfl ?_
    refine zq_run 1 (pc' := 13) (L' := [(.ref (a0)), (zq_vi (x1)), (.ref (a2)), (zq_vi (x3)), v4]) (st' := [(zq_vi (x3)), (.ref (a0 + 1))]) (fun _ _ _ => rfl) ?_
    obtain ⟨g_2, w⟩ := w
    refine zq_ald_s rfl (zq_L8 ha0).1 g_2.1 g_2.2 ?_
    refine zq_run 4 (pc' := 19) (L' := [(.ref (a0)), (zq_vi (x1)), (.ref (a2)), (zq_vi (x3)), (.ref (a0 + 1 + 8 + 10 * (x3).toNat))]) (st' := [(zq_vi (1)), (zq_vi (x3)), (zq_vi (x1))]) (fun _ _ _ => rfl) ?_
    refine zq_iadd rfl ?_
    refine zq_call_i (i := .invokestatic 61) (r := [1, 35, 2, 0, 0]) rfl rfl (fun _ _ => rfl) (of_decide_eq_false rfl) w (fun x_4 s_3 hx_5 w => ?_)
    refine zq_eq0 rfl (zq_bo_in hx_5) (fun hb_6 => ?_) (fun hb_6 => ?_)
    · rw [if_pos hb_6] at w
      refine zq_iinc (L' := [(.ref (a0)), (zq_vi (x1)), (.ref (a2)), (zq_vi (x3 + 1)), (.ref (a0 + 1 + 8 + 10 * (x3).toNat))]) rfl rfl rfl ?_
      refine zq_run 1 (pc' := 2) (L' := [(.ref (a0)), (zq_vi (x1)), (.ref (a2)), (zq_vi (x3 + 1)), (.ref (a0 + 1 + 8 + 10 * (x3).toNat))]) (st' := []) (fun _ _ _ => rfl) ?_
      exact w
    · rw [if_neg hb_6] at w
      refine zq_run 1 (pc' := 28) (L' := [(.ref (a0)), (zq_vi (x1)), (.ref (a2)), (zq_vi (x3)), (.ref (a0 + 1 + 8 + 10 * (x3).toNat))]) (st' := [(.ref (a0 + 1 + 8 + 10 * (x3).toNat))]) (fun _ _ _ => rfl) ?_
      refine zq_have (fun hR_7 => ?_)
      refine zq_getf_i (j := 2) (v := zq_i s_3 (a0 + 1 + 8 + 10 * (x3).toNat) (2)) rfl (zq_L8s ha0 g_2.1 g_2.2) rfl rfl rfl ?_
      refine zq_eq0 rfl (zq_bo_in (hR_7.2.2.2.1 _ 7 2 (zq_L8s ha0 g_2.1 g_2.2) rfl)) (fun hb_8 => ?_) (fun hb_8 => ?_)
      · rw [if_pos hb_8] at w
        refine zq_iinc (L' := [(.ref (a0)), (zq_vi (x1)), (.ref (a2)), (zq_vi (x3 + 1)), (.ref (a0 + 1 + 8 + 10 * (x3).toNat))]) rfl rfl rfl ?_
        refine zq_run 1 (pc' := 2) (L' := [(.ref (a0)), (zq_vi (x1)), (.ref (a2)), (zq_vi (x3 + 1)), (.ref (a0 + 1 + 8 + 10 * (x3).toNat))]) (st' := []) (fun _ _ _ => rfl) ?_
        exact w
      · rw [if_neg hb_8] at w
        refine zq_run 2 (pc' := 37) (L' := [(.ref (a0)), (zq_vi (x1)), (.ref (a2)), (zq_vi (x3)), (.ref (a0 + 1 + 8 + 10 * (x3).toNat))]) (st' := [(.ref (a0 + 1 + 8 + 10 * (x3).toNat)), (.ref (a0))]) (fun _ _ _ => rfl) ?_
        obtain ⟨b_9, hb_10, w⟩ := w
        refine zq_getf_rs (j := 4) rfl (zq_L8s ha0 g_2.1 g_2.2) rfl rfl hb_10 ?_
        refine zq_run 1 (pc' := 41) (L' := [(.ref (a0)), (zq_vi (x1)), (.ref (a2)), (zq_vi (x3)), (.ref (a0 + 1 + 8 + 10 * (x3).toNat))]) (st' := [(.ref (a2)), (.ref (b_9)), (.ref (a0))]) (fun _ _ _ => rfl) ?_
        refine zq_call_i (i := .invokevirtual 111) (r := [1, 91, 2, 1, 8]) rfl rfl (fun h hp => zr_avv rfl (hp.obj ha0)) (of_decide_eq_false rfl) w (fun x_12 s_11 hx_13 w => ?_)
        refine zq_run 1 (pc' := 46) (L' := [(.ref (a0)), (zq_vi (x1)), (.ref (a2)), (zq_vi (x3)), (.ref (a0 + 1 + 8 + 10 * (x3).toNat))]) (st' := [(.ref (a0 + 1 + 8 + 10 * (x3).toNat)), (zq_vi (x_12))]) (fun _ _ _ => rfl) ?_
        refine zq_getf_f (b := a0 + 1 + 8 + 10 * (x3).toNat + 8) rfl (zq_L8s ha0 g_2.1 g_2.2) rfl rfl ?_
        refine zq_have (fun hR_14 => ?_)
        refine zq_getf_i (j := 1) (v := zq_i s_11 (a0 + 1 + 8 + 10 * (x3).toNat + 8) (1)) rfl (zq_L7 (zq_L8s ha0 g_2.1 g_2.2)) rfl rfl rfl ?_
        refine zq_eq rfl hx_13 (hR_14.1 _ _) (fun hb_15 => ?_) (fun hb_15 => ?_)
        · rw [if_pos hb_15] at w
          refine zq_iinc (L' := [(.ref (a0)), (zq_vi (x1)), (.ref (a2)), (zq_vi (x3 + 1)), (.ref (a0 + 1 + 8 + 10 * (x3).toNat))]) rfl rfl rfl ?_
          refine zq_run 1 (pc' := 2) (L' := [(.ref (a0)), (zq_vi (x1)), (.ref (a2)), (zq_vi (x3 + 1)), (.ref (a0 + 1 + 8 + 10 * (x3).toNat))]) (st' := []) (fun _ _ _ => rfl) ?_
          exact w
        · rw [if_neg hb_15] at w
          refine zq_run 1 (pc' := 56) (L' := [(.ref (a0)), (zq_vi (x1)), (.ref (a2)), (zq_vi (x3)), (.ref (a0 + 1 + 8 + 10 * (x3).toNat))]) (st' := [(zq_vi (0))]) (fun _ _ _ => rfl) ?_
          exact zq_iret rfl rfl (congrArg Value.int (zq_nb (of_decide_eq_true rfl))) (⟨_, rfl, (of_decide_eq_true rfl), w⟩)
/-- PaperObjects$Table.resolvedLength(LPaperObjects$Tree;LPaperObjects$Cursor;)I -/
theorem zw_91 {X : Nat × (Nat → Int32)} {s : zq_S} {K : Int → zq_S → Prop} {a0 : Nat} (ha0 : zq_o 8 a0) {a1 : Nat} (ha1 : zq_o 4 a1) {a2 : Nat} (ha2 : zq_o 2 a2) (w : (zq_Ex X 74 0 [(.ref (a1))] [] s (zq_rp zq_iv fun x_2 s_1 => (zq_Ex X 92 0 [(.ref (a2)), (.ref (a0 + 2)), (zq_vi (0))] [] s_1 (zq_rv fun s_4 => (if x_2 = (-1) then (zq_Ex X 93 0 [(.ref (a0)), (.ref (a2)), zz_no, zz_no, zz_no, zz_no] [] s_4 (zq_rp zq_bo fun x_7 s_6 => (if x_7 = 0 then K ((-1)) s_6 else (zq_Ex X 94 0 [(.ref (a2))] [] s_6 (zq_rp zq_iv fun x_11 s_10 => (if x_11 = 3 then ((zq_r s_10 (a2) 0 = none → False) ∧ (∀ b_15 : Nat, zq_r s_10 (a2) 0 = some b_15 → (((0 : Int) ≤ zq_i s_10 (a2) (1) ∧ zq_i s_10 (a2) (1) < (12 : Int)) ∧ K (zq_i s_10 (b_15 + 3) (zq_i s_10 (a2) (1))) s_10))) else K ((-1)) s_10)))))) else (zq_Ex X 92 0 [(.ref (a2)), (.ref (a1)), (zq_vi (x_2))] [] s_4 (zq_rv fun s_18 => (zq_Ex X 93 0 [(.ref (a0)), (.ref (a2)), zz_no, zz_no, zz_no, zz_no] [] s_18 (zq_rp zq_bo fun x_20 s_19 => (if x_20 = 0 then K ((-1)) s_19 else (zq_Ex X 94 0 [(.ref (a2))] [] s_19 (zq_rp zq_iv fun x_24 s_23 => (if x_24 = 3 then ((zq_r s_23 (a2) 0 = none → False) ∧ (∀ b_28 : Nat, zq_r s_23 (a2) 0 = some b_28 → (((0 : Int) ≤ zq_i s_23 (a2) (1) ∧ zq_i s_23 (a2) (1) < (12 : Int)) ∧ K (zq_i s_23 (b_28 + 3) (zq_i s_23 (a2) (1))) s_23))) else K ((-1)) s_23)))))))))))))) : zq_Ex X 91 0 [(.ref (a0)), (.ref (a1)), (.ref (a2)), zz_no, zz_no] [] s (zq_rp zq_iv K) := by
  refine zq_run 1 (pc' := 1) (L' := [(.ref (a0)), (.ref (a1)), (.ref (a2)), zz_no, zz_no]) (st' := [(.ref (a1))]) (fun _ _ _ => rfl) ?_
  refine zq_call_i (i := .invokevirtual 101) (r := [1, 74, 0, 1, 4]) rfl rfl (fun h hp => zr_avv rfl (hp.obj ha1)) (of_decide_eq_false rfl) w (fun x_2 s_1 hx_3 w => ?_)
  refine zq_run 3 (pc' := 7) (L' := [(.ref (a0)), (.ref (a1)), (.ref (a2)), (zq_vi (x_2)), zz_no]) (st' := [(.ref (a0)), (.ref (a2))]) (fun _ _ _ => rfl) ?_
  refine zq_getf_f (b := a0 + 2) rfl ha0 rfl rfl ?_
  refine zq_run 1 (pc' := 11) (L' := [(.ref (a0)), (.ref (a1)), (.ref (a2)), (zq_vi (x_2)), zz_no]) (st' := [(zq_vi (0)), (.ref (a0 + 2)), (.ref (a2))]) (fun _ _ _ => rfl) ?_
  refine zq_call_v (i := .invokevirtual 94) (r := [1, 92, 2, 1, 2]) rfl rfl (fun h hp => zr_avv rfl (hp.obj ha2)) (of_decide_eq_false rfl) w (fun s_4 w => ?_)
  refine zq_run 2 (pc' := 16) (L' := [(.ref (a0)), (.ref (a1)), (.ref (a2)), (zq_vi (x_2)), zz_no]) (st' := [(zq_vi ((-1))), (zq_vi (x_2))]) (fun _ _ _ => rfl) ?_
  refine zq_eq rfl hx_3 (of_decide_eq_true rfl) (fun hb_5 => ?_) (fun hb_5 => ?_)
  · rw [if_pos hb_5] at w
    refine zq_run 2 (pc' := 27) (L' := [(.ref (a0)), (.ref (a1)), (.ref (a2)), (zq_vi (x_2)), zz_no]) (st' := [(.ref (a2)), (.ref (a0))]) (fun _ _ _ => rfl) ?_
    refine zq_call_i (i := .invokevirtual 104) (r := [1, 93, 1, 1, 8]) rfl rfl (fun h hp => zr_avv rfl (hp.obj ha0)) (of_decide_eq_false rfl) w (fun x_7 s_6 hx_8 w => ?_)
    refine zq_eq0 rfl (zq_bo_in hx_8) (fun hb_9 => ?_) (fun hb_9 => ?_)
    · rw [if_pos hb_9] at w
      refine zq_run 3 (pc' := 50) (L' := [(.ref (a0)), (.ref (a1)), (.ref (a2)), (zq_vi (x_2)), (zq_vi (0))]) (st' := [(zq_vi (0))]) (fun _ _ _ => rfl) ?_
      refine zq_eq0 rfl (of_decide_eq_true rfl) (fun _ => ?_) (fun hb => absurd (by decide) hb)
      refine zq_run 1 (pc' := 69) (L' := [(.ref (a0)), (.ref (a1)), (.ref (a2)), (zq_vi (x_2)), (zq_vi (0))]) (st' := [(zq_vi ((-1)))]) (fun _ _ _ => rfl) ?_
      exact zq_iret rfl rfl rfl (⟨_, rfl, (of_decide_eq_true rfl), w⟩)
    · rw [if_neg hb_9] at w
      refine zq_run 1 (pc' := 34) (L' := [(.ref (a0)), (.ref (a1)), (.ref (a2)), (zq_vi (x_2)), zz_no]) (st' := [(.ref (a2))]) (fun _ _ _ => rfl) ?_
      refine zq_call_i (i := .invokevirtual 84) (r := [1, 94, 0, 1, 2]) rfl rfl (fun h hp => zr_avv rfl (hp.obj ha2)) (of_decide_eq_false rfl) w (fun x_11 s_10 hx_12 w => ?_)
      refine zq_run 1 (pc' := 38) (L' := [(.ref (a0)), (.ref (a1)), (.ref (a2)), (zq_vi (x_2)), zz_no]) (st' := [(zq_vi (3)), (zq_vi (x_11))]) (fun _ _ _ => rfl) ?_
      refine zq_ne rfl hx_12 (of_decide_eq_true rfl) (fun hb_13 => ?_) (fun hb_13 => ?_)
      · rw [if_neg hb_13] at w
        refine zq_run 3 (pc' := 50) (L' := [(.ref (a0)), (.ref (a1)), (.ref (a2)), (zq_vi (x_2)), (zq_vi (0))]) (st' := [(zq_vi (0))]) (fun _ _ _ => rfl) ?_
        refine zq_eq0 rfl (of_decide_eq_true rfl) (fun _ => ?_) (fun hb => absurd (by decide) hb)
        refine zq_run 1 (pc' := 69) (L' := [(.ref (a0)), (.ref (a1)), (.ref (a2)), (zq_vi (x_2)), (zq_vi (0))]) (st' := [(zq_vi ((-1)))]) (fun _ _ _ => rfl) ?_
        exact zq_iret rfl rfl rfl (⟨_, rfl, (of_decide_eq_true rfl), w⟩)
      · rw [if_pos hb_13] at w
        refine zq_run 4 (pc' := 50) (L' := [(.ref (a0)), (.ref (a1)), (.ref (a2)), (zq_vi (x_2)), (zq_vi (1))]) (st' := [(zq_vi (1))]) (fun _ _ _ => rfl) ?_
        refine zq_eq0 rfl (of_decide_eq_true rfl) (fun hb => absurd hb (by decide)) (fun _ => ?_)
        refine zq_run 1 (pc' := 54) (L' := [(.ref (a0)), (.ref (a1)), (.ref (a2)), (zq_vi (x_2)), (zq_vi (1))]) (st' := [(.ref (a2))]) (fun _ _ _ => rfl) ?_
        refine zq_have (fun hR_14 => ?_)
        refine zq_getf_r2 (j := 0) rfl ha2 rfl rfl (fun hb_16 => ?_) (fun b_15 hb_16 => ?_)
        · replace w := w.1 hb_16
          exact w.elim
        · replace w := w.2 b_15 hb_16
          refine zq_getf_f (b := b_15 + 3) rfl (zq_fcls hR_14 (k := 0) (j := 0) (cj := 4) ha2 rfl rfl hb_16) rfl rfl ?_
          refine zq_run 1 (pc' := 61) (L' := [(.ref (a0)), (.ref (a1)), (.ref (a2)), (zq_vi (x_2)), (zq_vi (1))]) (st' := [(.ref (a2)), (.ref (b_15 + 3))]) (fun _ _ _ => rfl) ?_
          refine zq_getf_i (j := 1) (v := zq_i s_10 (a2) (1)) rfl ha2 rfl rfl rfl ?_
          obtain ⟨g_17, w⟩ := w
          refine zq_ald_i (v := zq_i s_10 (b_15 + 3) (zq_i s_10 (a2) (1))) rfl (zq_L4 (zq_fcls hR_14 (k := 0) (j := 0) (cj := 4) ha2 rfl rfl hb_16)).2.2.1 g_17.1 g_17.2 rfl ?_
          refine zq_run 1 (pc' := 69) (L' := [(.ref (a0)), (.ref (a1)), (.ref (a2)), (zq_vi (x_2)), (zq_vi (1))]) (st' := [(zq_vi (zq_i s_10 (b_15 + 3) (zq_i s_10 (a2) (1))))]) (fun _ _ _ => rfl) ?_
          exact zq_iret rfl rfl rfl (⟨_, rfl, (hR_14.1 _ _), w⟩)
  · rw [if_neg hb_5] at w
    refine zq_run 3 (pc' := 22) (L' := [(.ref (a0)), (.ref (a1)), (.ref (a2)), (zq_vi (x_2)), zz_no]) (st' := [(zq_vi (x_2)), (.ref (a1)), (.ref (a2))]) (fun _ _ _ => rfl) ?_
    refine zq_call_v (i := .invokevirtual 94) (r := [1, 92, 2, 1, 2]) rfl rfl (fun h hp => zr_avv rfl (hp.obj ha2)) (of_decide_eq_false rfl) w (fun s_18 w => ?_)
    refine zq_run 2 (pc' := 27) (L' := [(.ref (a0)), (.ref (a1)), (.ref (a2)), (zq_vi (x_2)), zz_no]) (st' := [(.ref (a2)), (.ref (a0))]) (fun _ _ _ => rfl) ?_
    refine zq_call_i (i := .invokevirtual 104) (r := [1, 93, 1, 1, 8]) rfl rfl (fun h hp => zr_avv rfl (hp.obj ha0)) (of_decide_eq_false rfl) w (fun x_20 s_19 hx_21 w => ?_)
    refine zq_eq0 rfl (zq_bo_in hx_21) (fun hb_22 => ?_) (fun hb_22 => ?_)
    · rw [if_pos hb_22] at w
      refine zq_run 3 (pc' := 50) (L' := [(.ref (a0)), (.ref (a1)), (.ref (a2)), (zq_vi (x_2)), (zq_vi (0))]) (st' := [(zq_vi (0))]) (fun _ _ _ => rfl) ?_
      refine zq_eq0 rfl (of_decide_eq_true rfl) (fun _ => ?_) (fun hb => absurd (by decide) hb)
      refine zq_run 1 (pc' := 69) (L' := [(.ref (a0)), (.ref (a1)), (.ref (a2)), (zq_vi (x_2)), (zq_vi (0))]) (st' := [(zq_vi ((-1)))]) (fun _ _ _ => rfl) ?_
      exact zq_iret rfl rfl rfl (⟨_, rfl, (of_decide_eq_true rfl), w⟩)
    · rw [if_neg hb_22] at w
      refine zq_run 1 (pc' := 34) (L' := [(.ref (a0)), (.ref (a1)), (.ref (a2)), (zq_vi (x_2)), zz_no]) (st' := [(.ref (a2))]) (fun _ _ _ => rfl) ?_
      refine zq_call_i (i := .invokevirtual 84) (r := [1, 94, 0, 1, 2]) rfl rfl (fun h hp => zr_avv rfl (hp.obj ha2)) (of_decide_eq_false rfl) w (fun x_24 s_23 hx_25 w => ?_)
      refine zq_run 1 (pc' := 38) (L' := [(.ref (a0)), (.ref (a1)), (.ref (a2)), (zq_vi (x_2)), zz_no]) (st' := [(zq_vi (3)), (zq_vi (x_24))]) (fun _ _ _ => rfl) ?_
      refine zq_ne rfl hx_25 (of_decide_eq_true rfl) (fun hb_26 => ?_) (fun hb_26 => ?_)
      · rw [if_neg hb_26] at w
        refine zq_run 3 (pc' := 50) (L' := [(.ref (a0)), (.ref (a1)), (.ref (a2)), (zq_vi (x_2)), (zq_vi (0))]) (st' := [(zq_vi (0))]) (fun _ _ _ => rfl) ?_
        refine zq_eq0 rfl (of_decide_eq_true rfl) (fun _ => ?_) (fun hb => absurd (by decide) hb)
        refine zq_run 1 (pc' := 69) (L' := [(.ref (a0)), (.ref (a1)), (.ref (a2)), (zq_vi (x_2)), (zq_vi (0))]) (st' := [(zq_vi ((-1)))]) (fun _ _ _ => rfl) ?_
        exact zq_iret rfl rfl rfl (⟨_, rfl, (of_decide_eq_true rfl), w⟩)
      · rw [if_pos hb_26] at w
        refine zq_run 4 (pc' := 50) (L' := [(.ref (a0)), (.ref (a1)), (.ref (a2)), (zq_vi (x_2)), (zq_vi (1))]) (st' := [(zq_vi (1))]) (fun _ _ _ => rfl) ?_
        refine zq_eq0 rfl (of_decide_eq_true rfl) (fun hb => absurd hb (by decide)) (fun _ => ?_)
        refine zq_run 1 (pc' := 54) (L' := [(.ref (a0)), (.ref (a1)), (.ref (a2)), (zq_vi (x_2)), (zq_vi (1))]) (st' := [(.ref (a2))]) (fun _ _ _ => rfl) ?_
        refine zq_have (fun hR_27 => ?_)
        refine zq_getf_r2 (j := 0) rfl ha2 rfl rfl (fun hb_29 => ?_) (fun b_28 hb_29 => ?_)
        · replace w := w.1 hb_29
          exact w.elim
        · replace w := w.2 b_28 hb_29
          refine zq_getf_f (b := b_28 + 3) rfl (zq_fcls hR_27 (k := 0) (j := 0) (cj := 4) ha2 rfl rfl hb_29) rfl rfl ?_
          refine zq_run 1 (pc' := 61) (L' := [(.ref (a0)), (.ref (a1)), (.ref (a2)), (zq_vi (x_2)), (zq_vi (1))]) (st' := [(.ref (a2)), (.ref (b_28 + 3))]) (fun _ _ _ => rfl) ?_
          refine zq_getf_i (j := 1) (v := zq_i s_23 (a2) (1)) rfl ha2 rfl rfl rfl ?_
          obtain ⟨g_30, w⟩ := w
          refine zq_ald_i (v := zq_i s_23 (b_28 + 3) (zq_i s_23 (a2) (1))) rfl (zq_L4 (zq_fcls hR_27 (k := 0) (j := 0) (cj := 4) ha2 rfl rfl hb_29)).2.2.1 g_30.1 g_30.2 rfl ?_
          refine zq_run 1 (pc' := 69) (L' := [(.ref (a0)), (.ref (a1)), (.ref (a2)), (zq_vi (x_2)), (zq_vi (1))]) (st' := [(zq_vi (zq_i s_23 (b_28 + 3) (zq_i s_23 (a2) (1))))]) (fun _ _ _ => rfl) ?_
          exact zq_iret rfl rfl rfl (⟨_, rfl, (hR_27.1 _ _), w⟩)
/-- PaperObjects$Cursor.set(LPaperObjects$Tree;I)V -/
theorem zw_92 {X : Nat × (Nat → Int32)} {s : zq_S} {K : zq_S → Prop} {a0 : Nat} (ha0 : zq_o 2 a0) {a1 : Nat} (ha1 : zq_o 4 a1) {x2 : Int} (hx2 : zq_iv x2) (w : K (zq_si (zq_sr s (a0) (0) (some (a1))) (a0) (1) (x2))) : zq_Ex X 92 0 [(.ref (a0)), (.ref (a1)), (zq_vi (x2))] [] s (zq_rv K) := by
  refine zq_run 2 (pc' := 2) (L' := [(.ref (a0)), (.ref (a1)), (zq_vi (x2))]) (st' := [(.ref (a1)), (.ref (a0))]) (fun _ _ _ => rfl) ?_
  refine zq_putf_r (j := 0) (v := some (a1)) (cj := 4) rfl ha0 rfl rfl rfl (fun b hb => by cases hb; exact ha1) ?_
  refine zq_run 2 (pc' := 7) (L' := [(.ref (a0)), (.ref (a1)), (zq_vi (x2))]) (st' := [(zq_vi (x2)), (.ref (a0))]) (fun _ _ _ => rfl) ?_
  refine zq_putf_i (j := 1) rfl ha0 rfl rfl rfl hx2 ?_
  exact zq_vret rfl rfl (⟨rfl, w⟩)
/-- PaperObjects$Table.resolve(LPaperObjects$Cursor;)Z -/
theorem zw_93 {X : Nat × (Nat → Int32)} {s : zq_S} {K : Int → zq_S → Prop} {a0 : Nat} (ha0 : zq_o 8 a0) {a1 : Nat} (ha1 : zq_o 2 a1) (w : zq_Ex X 93 4 [(.ref (a0)), (.ref (a1)), (zq_vi (0)), (zq_vi (0)), zz_no, zz_no] [] s (zq_rp zq_bo K)) : zq_Ex X 93 0 [(.ref (a0)), (.ref (a1)), zz_no, zz_no, zz_no, zz_no] [] s (zq_rp zq_bo K) := by
  refine zq_run 4 (pc' := 4) (L' := [(.ref (a0)), (.ref (a1)), (zq_vi (0)), (zq_vi (0)), zz_no, zz_no]) (st' := []) (fun _ _ _ => rfl) ?_
  exact w
/-- PaperObjects$Table.resolve at 4 -/
theorem zw_93_4 {X : Nat × (Nat → Int32)} {s : zq_S} {K : Int → zq_S → Prop} {a0 : Nat} (ha0 : zq_o 8 a0) {a1 : Nat} (ha1 : zq_o 2 a1) {x2 : Int} (hx2 : zq_iv x2) {x3 : Int} (hx3 : zq_iv x3) {v4 : Value} (hv4 : v4.category = 1) {v5 : Value} (hv5 : v5.category = 1) (w : (if x3 ≤ 9 then (zq_Ex X 94 0 [(.ref (a1))] [] s (zq_rp zq_iv fun x_3 s_2 => (if x_3 = 8 then ((zq_r s_2 (a1) 0 = none → False) ∧ (∀ b_7 : Nat, zq_r s_2 (a1) 0 = some b_7 → (((0 : Int) ≤ zq_i s_2 (a1) (1) ∧ zq_i s_2 (a1) (1) < (12 : Int)) ∧ (((0 : Int) ≤ zq_i s_2 (a1) (1) ∧ zq_i s_2 (a1) (1) < (12 : Int)) ∧ (zq_Ex X 32 0 [(.ref (a0)), (zq_vi (zq_i s_2 (b_7 + 3) (zq_i s_2 (a1) (1)))), (zq_vi (zq_i s_2 (b_7 + 4) (zq_i s_2 (a1) (1)))), zz_no] [] s_2 (zq_rr 7 fun o_12 s_11 => ((o_12 = none → (zq_Ex X 92 0 [(.ref (a1)), (.ref (a0 + 2)), (zq_vi (0))] [] s_11 (zq_rv fun s_15 => K (1) s_15))) ∧ (∀ b_13 : Nat, o_12 = some b_13 → (zq_Ex X 35 0 [(zq_vi (x2)), (zq_vi (zq_i s_2 (b_7 + 3) (zq_i s_2 (a1) (1))))] [] s_11 (zq_rp zq_bo fun x_17 s_16 => (if x_17 = 0 then (∃ b_21 : Nat, zq_r s_16 (b_13) 4 = some b_21 ∧ (zq_Ex X 92 0 [(.ref (a1)), (.ref (b_21)), (zq_vi (0))] [] (zq_si s_16 (a1) (2) (zq_i s_2 (b_7 + 3) (zq_i s_2 (a1) (1)))) (zq_rv fun s_23 => zq_Ex X 93 4 [(.ref (a0)), (.ref (a1)), (zq_vi (zq_or (x2) (zq_shl (1) (zq_i s_2 (b_7 + 3) (zq_i s_2 (a1) (1)))))), (zq_vi (x3 + 1)), (zq_vi (zq_i s_2 (b_7 + 3) (zq_i s_2 (a1) (1)))), (.ref (b_13))] [] s_23 (zq_rp zq_bo K)))) else K (0) s_16))))))))))) else K (1) s_2))) else K (0) s)) : zq_Ex X 93 4 [(.ref (a0)), (.ref (a1)), (zq_vi (x2)), (zq_vi (x3)), v4, v5] [] s (zq_rp zq_bo K) := by
  refine zq_run 2 (pc' := 7) (L' := [(.ref (a0)), (.ref (a1)), (zq_vi (x2)), (zq_vi (x3)), v4, v5]) (st' := [(zq_vi (9)), (zq_vi (x3))]) (fun _ _ _ => rfl) ?_
  refine zq_gt rfl hx3 (of_decide_eq_true rfl) (fun hb_1 => ?_) (fun hb_1 => ?_)
  · rw [if_neg hb_1] at w
    refine zq_run 1 (pc' := 112) (L' := [(.ref (a0)), (.ref (a1)), (zq_vi (x2)), (zq_vi (x3)), v4, v5]) (st' := [(zq_vi (0))]) (fun _ _ _ => rfl) ?_
    exact zq_iret rfl rfl (congrArg Value.int (zq_nb (of_decide_eq_true rfl))) (⟨_, rfl, (of_decide_eq_true rfl), w⟩)
  · rw [if_pos hb_1] at w
    refine zq_run 1 (pc' := 11) (L' := [(.ref (a0)), (.ref (a1)), (zq_vi (x2)), (zq_vi (x3)), v4, v5]) (st' := [(.ref (a1))]) (fun _ _ _ => rfl) ?_
    refine zq_call_i (i := .invokevirtual 84) (r := [1, 94, 0, 1, 2]) rfl rfl (fun h hp => zr_avv rfl (hp.obj ha1)) (of_decide_eq_false rfl) w (fun x_3 s_2 hx_4 w => ?_)
    refine zq_run 1 (pc' := 16) (L' := [(.ref (a0)), (.ref (a1)), (zq_vi (x2)), (zq_vi (x3)), v4, v5]) (st' := [(zq_vi (8)), (zq_vi (x_3))]) (fun _ _ _ => rfl) ?_
    refine zq_eq rfl hx_4 (of_decide_eq_true rfl) (fun hb_5 => ?_) (fun hb_5 => ?_)
    · rw [if_pos hb_5] at w
      refine zq_run 1 (pc' := 22) (L' := [(.ref (a0)), (.ref (a1)), (zq_vi (x2)), (zq_vi (x3)), v4, v5]) (st' := [(.ref (a1))]) (fun _ _ _ => rfl) ?_
      refine zq_have (fun hR_6 => ?_)
      refine zq_getf_r2 (j := 0) rfl ha1 rfl rfl (fun hb_8 => ?_) (fun b_7 hb_8 => ?_)
      · replace w := w.1 hb_8
        exact w.elim
      · replace w := w.2 b_7 hb_8
        refine zq_getf_f (b := b_7 + 3) rfl (zq_fcls hR_6 (k := 0) (j := 0) (cj := 4) ha1 rfl rfl hb_8) rfl rfl ?_
        refine zq_run 1 (pc' := 29) (L' := [(.ref (a0)), (.ref (a1)), (zq_vi (x2)), (zq_vi (x3)), v4, v5]) (st' := [(.ref (a1)), (.ref (b_7 + 3))]) (fun _ _ _ => rfl) ?_
        refine zq_getf_i (j := 1) (v := zq_i s_2 (a1) (1)) rfl ha1 rfl rfl rfl ?_
        obtain ⟨g_9, w⟩ := w
        refine zq_ald_i (v := zq_i s_2 (b_7 + 3) (zq_i s_2 (a1) (1))) rfl (zq_L4 (zq_fcls hR_6 (k := 0) (j := 0) (cj := 4) ha1 rfl rfl hb_8)).2.2.1 g_9.1 g_9.2 rfl ?_
        refine zq_run 4 (pc' := 39) (L' := [(.ref (a0)), (.ref (a1)), (zq_vi (x2)), (zq_vi (x3)), (zq_vi (zq_i s_2 (b_7 + 3) (zq_i s_2 (a1) (1)))), v5]) (st' := [(.ref (a1)), (zq_vi (zq_i s_2 (b_7 + 3) (zq_i s_2 (a1) (1)))), (.ref (a0))]) (fun _ _ _ => rfl) ?_
        refine zq_getf_rs (j := 0) (b := b_7) rfl ha1 rfl rfl hb_8 ?_
        refine zq_getf_f (b := b_7 + 4) rfl (zq_fcls hR_6 (k := 0) (j := 0) (cj := 4) ha1 rfl rfl hb_8) rfl rfl ?_
        refine zq_run 1 (pc' := 46) (L' := [(.ref (a0)), (.ref (a1)), (zq_vi (x2)), (zq_vi (x3)), (zq_vi (zq_i s_2 (b_7 + 3) (zq_i s_2 (a1) (1)))), v5]) (st' := [(.ref (a1)), (.ref (b_7 + 4)), (zq_vi (zq_i s_2 (b_7 + 3) (zq_i s_2 (a1) (1)))), (.ref (a0))]) (fun _ _ _ => rfl) ?_
        refine zq_getf_i (j := 1) (v := zq_i s_2 (a1) (1)) rfl ha1 rfl rfl rfl ?_
        obtain ⟨g_10, w⟩ := w
        refine zq_ald_i (v := zq_i s_2 (b_7 + 4) (zq_i s_2 (a1) (1))) rfl (zq_L4 (zq_fcls hR_6 (k := 0) (j := 0) (cj := 4) ha1 rfl rfl hb_8)).2.2.2.1 g_10.1 g_10.2 rfl ?_
        refine zq_call_r (i := .invokevirtual 53) (r := [1, 32, 2, 1, 8]) rfl rfl (fun h hp => zr_avv rfl (hp.obj ha0)) (of_decide_eq_false rfl) w (fun s_11 w => ?_) (fun b_13 s_11 hb_14 w => ?_)
        · replace w := w.1 rfl
          refine zq_run 5 (pc' := 62) (L' := [(.ref (a0)), (.ref (a1)), (zq_vi (x2)), (zq_vi (x3)), (zq_vi (zq_i s_2 (b_7 + 3) (zq_i s_2 (a1) (1)))), .null]) (st' := [(.ref (a0)), (.ref (a1))]) (fun _ _ _ => rfl) ?_
          refine zq_getf_f (b := a0 + 2) rfl ha0 rfl rfl ?_
          refine zq_run 1 (pc' := 66) (L' := [(.ref (a0)), (.ref (a1)), (zq_vi (x2)), (zq_vi (x3)), (zq_vi (zq_i s_2 (b_7 + 3) (zq_i s_2 (a1) (1)))), .null]) (st' := [(zq_vi (0)), (.ref (a0 + 2)), (.ref (a1))]) (fun _ _ _ => rfl) ?_
          refine zq_call_v (i := .invokevirtual 94) (r := [1, 92, 2, 1, 2]) rfl rfl (fun h hp => zr_avv rfl (hp.obj ha1)) (of_decide_eq_false rfl) w (fun s_15 w => ?_)
          refine zq_run 1 (pc' := 70) (L' := [(.ref (a0)), (.ref (a1)), (zq_vi (x2)), (zq_vi (x3)), (zq_vi (zq_i s_2 (b_7 + 3) (zq_i s_2 (a1) (1)))), .null]) (st' := [(zq_vi (1))]) (fun _ _ _ => rfl) ?_
          exact zq_iret rfl rfl (congrArg Value.int (zq_nb (of_decide_eq_true rfl))) (⟨_, rfl, (of_decide_eq_true rfl), w⟩)
        · replace w := w.2 b_13 rfl
          refine zq_run 5 (pc' := 74) (L' := [(.ref (a0)), (.ref (a1)), (zq_vi (x2)), (zq_vi (x3)), (zq_vi (zq_i s_2 (b_7 + 3) (zq_i s_2 (a1) (1)))), (.ref (b_13))]) (st' := [(zq_vi (zq_i s_2 (b_7 + 3) (zq_i s_2 (a1) (1)))), (zq_vi (x2))]) (fun _ _ _ => rfl) ?_
          refine zq_call_i (i := .invokestatic 61) (r := [1, 35, 2, 0, 0]) rfl rfl (fun _ _ => rfl) (of_decide_eq_false rfl) w (fun x_17 s_16 hx_18 w => ?_)
          refine zq_eq0 rfl (zq_bo_in hx_18) (fun hb_19 => ?_) (fun hb_19 => ?_)
          · rw [if_pos hb_19] at w
            refine zq_run 3 (pc' := 86) (L' := [(.ref (a0)), (.ref (a1)), (zq_vi (x2)), (zq_vi (x3)), (zq_vi (zq_i s_2 (b_7 + 3) (zq_i s_2 (a1) (1)))), (.ref (b_13))]) (st' := [(zq_vi (zq_i s_2 (b_7 + 3) (zq_i s_2 (a1) (1)))), (zq_vi (1)), (zq_vi (x2))]) (fun _ _ _ => rfl) ?_
            refine zq_ishl rfl ?_
            refine zq_ior rfl ?_
            refine zq_run 3 (pc' := 92) (L' := [(.ref (a0)), (.ref (a1)), (zq_vi (zq_or (x2) (zq_shl (1) (zq_i s_2 (b_7 + 3) (zq_i s_2 (a1) (1)))))), (zq_vi (x3)), (zq_vi (zq_i s_2 (b_7 + 3) (zq_i s_2 (a1) (1)))), (.ref (b_13))]) (st' := [(zq_vi (zq_i s_2 (b_7 + 3) (zq_i s_2 (a1) (1)))), (.ref (a1))]) (fun _ _ _ => rfl) ?_
            refine zq_putf_i (j := 2) rfl ha1 rfl rfl rfl (hR_6.1 _ _) ?_
            refine zq_run 2 (pc' := 98) (L' := [(.ref (a0)), (.ref (a1)), (zq_vi (zq_or (x2) (zq_shl (1) (zq_i s_2 (b_7 + 3) (zq_i s_2 (a1) (1)))))), (zq_vi (x3)), (zq_vi (zq_i s_2 (b_7 + 3) (zq_i s_2 (a1) (1)))), (.ref (b_13))]) (st' := [(.ref (b_13)), (.ref (a1))]) (fun _ _ _ => rfl) ?_
            refine zq_have (fun hR_20 => ?_)
            obtain ⟨b_21, hb_22, w⟩ := w
            refine zq_getf_rs (j := 4) rfl hb_14 rfl rfl hb_22 ?_
            refine zq_run 1 (pc' := 102) (L' := [(.ref (a0)), (.ref (a1)), (zq_vi (zq_or (x2) (zq_shl (1) (zq_i s_2 (b_7 + 3) (zq_i s_2 (a1) (1)))))), (zq_vi (x3)), (zq_vi (zq_i s_2 (b_7 + 3) (zq_i s_2 (a1) (1)))), (.ref (b_13))]) (st' := [(zq_vi (0)), (.ref (b_21)), (.ref (a1))]) (fun _ _ _ => rfl) ?_
            refine zq_call_v (i := .invokevirtual 94) (r := [1, 92, 2, 1, 2]) rfl rfl (fun h hp => zr_avv rfl (hp.obj ha1)) (of_decide_eq_false rfl) w (fun s_23 w => ?_)
            refine zq_iinc (L' := [(.ref (a0)), (.ref (a1)), (zq_vi (zq_or (x2) (zq_shl (1) (zq_i s_2 (b_7 + 3) (zq_i s_2 (a1) (1)))))), (zq_vi (x3 + 1)), (zq_vi (zq_i s_2 (b_7 + 3) (zq_i s_2 (a1) (1)))), (.ref (b_13))]) rfl rfl rfl ?_
            refine zq_run 1 (pc' := 4) (L' := [(.ref (a0)), (.ref (a1)), (zq_vi (zq_or (x2) (zq_shl (1) (zq_i s_2 (b_7 + 3) (zq_i s_2 (a1) (1)))))), (zq_vi (x3 + 1)), (zq_vi (zq_i s_2 (b_7 + 3) (zq_i s_2 (a1) (1)))), (.ref (b_13))]) (st' := []) (fun _ _ _ => rfl) ?_
            exact w
          · rw [if_neg hb_19] at w
            refine zq_run 1 (pc' := 81) (L' := [(.ref (a0)), (.ref (a1)), (zq_vi (x2)), (zq_vi (x3)), (zq_vi (zq_i s_2 (b_7 + 3) (zq_i s_2 (a1) (1)))), (.ref (b_13))]) (st' := [(zq_vi (0))]) (fun _ _ _ => rfl) ?_
            exact zq_iret rfl rfl (congrArg Value.int (zq_nb (of_decide_eq_true rfl))) (⟨_, rfl, (of_decide_eq_true rfl), w⟩)
    · rw [if_neg hb_5] at w
      refine zq_run 1 (pc' := 20) (L' := [(.ref (a0)), (.ref (a1)), (zq_vi (x2)), (zq_vi (x3)), v4, v5]) (st' := [(zq_vi (1))]) (fun _ _ _ => rfl) ?_
      exact zq_iret rfl rfl (congrArg Value.int (zq_nb (of_decide_eq_true rfl))) (⟨_, rfl, (of_decide_eq_true rfl), w⟩)
/-- PaperObjects$Cursor.kind()I -/
theorem zw_94 {X : Nat × (Nat → Int32)} {s : zq_S} {K : Int → zq_S → Prop} {a0 : Nat} (ha0 : zq_o 2 a0) (w : ((zq_r s (a0) 0 = none → K ((-1)) s) ∧ (∀ b_2 : Nat, zq_r s (a0) 0 = some b_2 → (zq_Ex X 48 0 [(.ref (b_2)), (zq_vi (zq_i s (a0) (1)))] [] s (zq_rp zq_iv fun x_5 s_4 => K (x_5) s_4))))) : zq_Ex X 94 0 [(.ref (a0))] [] s (zq_rp zq_iv K) := by
  refine zq_run 1 (pc' := 1) (L' := [(.ref (a0))]) (st' := [(.ref (a0))]) (fun _ _ _ => rfl) ?_
  refine zq_have (fun hR_1 => ?_)
  refine zq_getf_r2 (j := 0) rfl ha0 rfl rfl (fun hb_3 => ?_) (fun b_2 hb_3 => ?_)
  · replace w := w.1 hb_3
    refine zq_run 3 (pc' := 22) (L' := [(.ref (a0))]) (st' := [(zq_vi ((-1)))]) (fun _ _ _ => rfl) ?_
    exact zq_iret rfl rfl rfl (⟨_, rfl, (of_decide_eq_true rfl), w⟩)
  · replace w := w.2 b_2 hb_3
    refine zq_run 2 (pc' := 12) (L' := [(.ref (a0))]) (st' := [(.ref (a0))]) (fun _ _ _ => rfl) ?_
    refine zq_getf_rs (j := 0) (b := b_2) rfl ha0 rfl rfl hb_3 ?_
    refine zq_run 1 (pc' := 16) (L' := [(.ref (a0))]) (st' := [(.ref (a0)), (.ref (b_2))]) (fun _ _ _ => rfl) ?_
    refine zq_getf_i (j := 1) (v := zq_i s (a0) (1)) rfl ha0 rfl rfl rfl ?_
    refine zq_call_i (i := .invokevirtual 22) (r := [1, 48, 1, 1, 4]) rfl rfl (fun h hp => zr_avv rfl (hp.obj (zq_fcls hR_1 (k := 0) (j := 0) (cj := 4) ha0 rfl rfl hb_3))) (of_decide_eq_false rfl) w (fun x_5 s_4 hx_6 w => ?_)
    exact zq_iret rfl rfl rfl (⟨_, rfl, hx_6, w⟩)
/-- PaperObjects.startSpareFile(Z)V -/
theorem zw_95 {X : Nat × (Nat → Int32)} {s : zq_S} {K : zq_S → Prop} {x1 : Int} (hx1 : zq_bo x1) (w : (∃ b_2 : Nat, zq_r s (0) 7 = some b_2 ∧ (zq_Ex X 15 0 [(.ref (b_2))] [] s (zq_rv fun s_4 => (if x1 = 0 then (∃ b_7 : Nat, zq_r s_4 (0) 7 = some b_7 ∧ (∃ b_9 : Nat, zq_r s_4 (0) 6 = some b_9 ∧ (zq_Ex X 80 0 [(.ref (b_7)), (.ref (b_9)), zz_no] [] s_4 (zq_rv fun s_11 => K s_11)))) else (∃ b_13 : Nat, zq_r s_4 (0) 7 = some b_13 ∧ (zq_Ex X 23 0 [(.ref (b_13)), (.ref (1000000 + 13)), zz_no] [] s_4 (zq_rv fun s_15 => K s_15)))))))) : zq_Ex X 95 0 [(.ref (0)), (zq_vi (x1))] [] s (zq_rv K) := by
  refine zq_run 1 (pc' := 1) (L' := [(.ref (0)), (zq_vi (x1))]) (st' := [(.ref (0))]) (fun _ _ _ => rfl) ?_
  refine zq_have (fun hR_1 => ?_)
  obtain ⟨b_2, hb_3, w⟩ := w
  refine zq_getf_rs (j := 7) rfl zq_a0 rfl rfl hb_3 ?_
  refine zq_call_v (i := .invokevirtual 124) (r := [1, 15, 0, 1, 1]) rfl rfl (fun h hp => zr_avv rfl (hp.obj (zq_fcls hR_1 (k := 7) (j := 7) (cj := 1) zq_a0 rfl rfl hb_3))) (of_decide_eq_false rfl) w (fun s_4 w => ?_)
  refine zq_run 1 (pc' := 8) (L' := [(.ref (0)), (zq_vi (x1))]) (st' := [(zq_vi (x1))]) (fun _ _ _ => rfl) ?_
  refine zq_eq0 rfl (zq_bo_in hx1) (fun hb_5 => ?_) (fun hb_5 => ?_)
  · rw [if_pos hb_5] at w
    refine zq_run 1 (pc' := 25) (L' := [(.ref (0)), (zq_vi (x1))]) (st' := [(.ref (0))]) (fun _ _ _ => rfl) ?_
    refine zq_have (fun hR_6 => ?_)
    obtain ⟨b_7, hb_8, w⟩ := w
    refine zq_getf_rs (j := 7) rfl zq_a0 rfl rfl hb_8 ?_
    refine zq_run 1 (pc' := 29) (L' := [(.ref (0)), (zq_vi (x1))]) (st' := [(.ref (0)), (.ref (b_7))]) (fun _ _ _ => rfl) ?_
    obtain ⟨b_9, hb_10, w⟩ := w
    refine zq_getf_rs (j := 6) rfl zq_a0 rfl rfl hb_10 ?_
    refine zq_call_v (i := .invokevirtual 283) (r := [1, 80, 1, 1, 1]) rfl rfl (fun h hp => zr_avv rfl (hp.obj (zq_fcls hR_6 (k := 7) (j := 7) (cj := 1) zq_a0 rfl rfl hb_8))) (of_decide_eq_false rfl) w (fun s_11 w => ?_)
    exact zq_vret rfl rfl (⟨rfl, w⟩)
  · rw [if_neg hb_5] at w
    refine zq_run 1 (pc' := 12) (L' := [(.ref (0)), (zq_vi (x1))]) (st' := [(.ref (0))]) (fun _ _ _ => rfl) ?_
    refine zq_have (fun hR_12 => ?_)
    obtain ⟨b_13, hb_14, w⟩ := w
    refine zq_getf_rs (j := 7) rfl zq_a0 rfl rfl hb_14 ?_
    refine zq_run 1 (pc' := 18) (L' := [(.ref (0)), (zq_vi (x1))]) (st' := [(.ref (1000000 + 13)), (.ref (b_13))]) (fun _ _ _ => rfl) ?_
    refine zq_call_v (i := .invokevirtual 279) (r := [1, 23, 1, 1, 1]) rfl rfl (fun h hp => zr_avv rfl (hp.obj (zq_fcls hR_12 (k := 7) (j := 7) (cj := 1) zq_a0 rfl rfl hb_14))) (of_decide_eq_false rfl) w (fun s_15 w => ?_)
    refine zq_run 1 (pc' := 35) (L' := [(.ref (0)), (zq_vi (x1))]) (st' := []) (fun _ _ _ => rfl) ?_
    exact zq_vret rfl rfl (⟨rfl, w⟩)
/-- PaperObjects$Writer.addObjects(LPaperObjects$Text;LPaperObjects$Table;I)V -/
theorem zw_96 {X : Nat × (Nat → Int32)} {s : zq_S} {K : zq_S → Prop} {a1 : Nat} (ha1 : zq_o 1 a1) {a2 : Nat} (ha2 : zq_o 8 a2) {x3 : Int} (hx3 : zq_iv x3) (w : zq_Ex X 96 3 [(.ref (21)), (.ref (a1)), (.ref (a2)), (zq_vi (x3)), (zq_vi (1)), zz_no] [] s (zq_rv K)) : zq_Ex X 96 0 [(.ref (21)), (.ref (a1)), (.ref (a2)), (zq_vi (x3)), zz_no, zz_no] [] s (zq_rv K) := by
  refine zq_run 2 (pc' := 3) (L' := [(.ref (21)), (.ref (a1)), (.ref (a2)), (zq_vi (x3)), (zq_vi (1)), zz_no]) (st' := []) (fun _ _ _ => rfl) ?_
  exact w
/-- PaperObjects$Writer.addObjects at 3 -/
theorem zw_96_3 {X : Nat × (Nat → Int32)} {s : zq_S} {K : zq_S → Prop} {a1 : Nat} (ha1 : zq_o 1 a1) {a2 : Nat} (ha2 : zq_o 8 a2) {x3 : Int} (hx3 : zq_iv x3) {x4 : Int} (hx4 : zq_iv x4) {v5 : Value} (hv5 : v5.category = 1) (w : (if x4 ≤ 9 then (zq_Ex X 33 0 [(.ref (a2)), (zq_vi (x4)), zz_no] [] s (zq_rr 7 fun o_3 s_2 => ((o_3 = none → zq_Ex X 96 3 [(.ref (21)), (.ref (a1)), (.ref (a2)), (zq_vi (x3)), (zq_vi (x4 + 1)), .null] [] s_2 (zq_rv K)) ∧ (∀ b_4 : Nat, o_3 = some b_4 → (zq_Ex X 35 0 [(zq_vi (x3)), (zq_vi (x4))] [] s_2 (zq_rp zq_bo fun x_7 s_6 => (if x_7 = 0 then zq_Ex X 96 3 [(.ref (21)), (.ref (a1)), (.ref (a2)), (zq_vi (x3)), (zq_vi (x4 + 1)), (.ref (b_4))] [] s_6 (zq_rv K) else (((0 : Int) ≤ x4 ∧ x4 < (10 : Int)) ∧ (zq_Ex X 97 0 [(.ref (21)), (.ref (a1)), (zq_vi (x4)), (.ref (b_4))] [] (zq_si s_6 (22) (x4) (zq_i s_6 (a1) (1))) (zq_rv fun s_12 => zq_Ex X 96 3 [(.ref (21)), (.ref (a1)), (.ref (a2)), (zq_vi (x3)), (zq_vi (x4 + 1)), (.ref (b_4))] [] s_12 (zq_rv K))))))))))) else K s)) : zq_Ex X 96 3 [(.ref (21)), (.ref (a1)), (.ref (a2)), (zq_vi (x3)), (zq_vi (x4)), v5] [] s (zq_rv K) := by
  refine zq_run 2 (pc' := 7) (L' := [(.ref (21)), (.ref (a1)), (.ref (a2)), (zq_vi (x3)), (zq_vi (x4)), v5]) (st' := [(zq_vi (9)), (zq_vi (x4))]) (fun _ _ _ => rfl) ?_
  refine zq_gt rfl hx4 (of_decide_eq_true rfl) (fun hb_1 => ?_) (fun hb_1 => ?_)
  · rw [if_neg hb_1] at w
    exact zq_vret rfl rfl (⟨rfl, w⟩)
  · rw [if_pos hb_1] at w
    refine zq_run 2 (pc' := 13) (L' := [(.ref (21)), (.ref (a1)), (.ref (a2)), (zq_vi (x3)), (zq_vi (x4)), v5]) (st' := [(zq_vi (x4)), (.ref (a2))]) (fun _ _ _ => rfl) ?_
    refine zq_call_r (i := .invokevirtual 15) (r := [1, 33, 1, 1, 8]) rfl rfl (fun h hp => zr_avv rfl (hp.obj ha2)) (of_decide_eq_false rfl) w (fun s_2 w => ?_) (fun b_4 s_2 hb_5 w => ?_)
    · replace w := w.1 rfl
      refine zq_run 3 (pc' := 52) (L' := [(.ref (21)), (.ref (a1)), (.ref (a2)), (zq_vi (x3)), (zq_vi (x4)), .null]) (st' := []) (fun _ _ _ => rfl) ?_
      refine zq_iinc (L' := [(.ref (21)), (.ref (a1)), (.ref (a2)), (zq_vi (x3)), (zq_vi (x4 + 1)), .null]) rfl rfl rfl ?_
      refine zq_run 1 (pc' := 3) (L' := [(.ref (21)), (.ref (a1)), (.ref (a2)), (zq_vi (x3)), (zq_vi (x4 + 1)), .null]) (st' := []) (fun _ _ _ => rfl) ?_
      exact w
    · replace w := w.2 b_4 rfl
      refine zq_run 5 (pc' := 26) (L' := [(.ref (21)), (.ref (a1)), (.ref (a2)), (zq_vi (x3)), (zq_vi (x4)), (.ref (b_4))]) (st' := [(zq_vi (x4)), (zq_vi (x3))]) (fun _ _ _ => rfl) ?_
      refine zq_call_i (i := .invokestatic 21) (r := [1, 35, 2, 0, 0]) rfl rfl (fun _ _ => rfl) (of_decide_eq_false rfl) w (fun x_7 s_6 hx_8 w => ?_)
      refine zq_eq0 rfl (zq_bo_in hx_8) (fun hb_9 => ?_) (fun hb_9 => ?_)
      · rw [if_pos hb_9] at w
        refine zq_iinc (L' := [(.ref (21)), (.ref (a1)), (.ref (a2)), (zq_vi (x3)), (zq_vi (x4 + 1)), (.ref (b_4))]) rfl rfl rfl ?_
        refine zq_run 1 (pc' := 3) (L' := [(.ref (21)), (.ref (a1)), (.ref (a2)), (zq_vi (x3)), (zq_vi (x4 + 1)), (.ref (b_4))]) (st' := []) (fun _ _ _ => rfl) ?_
        exact w
      · rw [if_neg hb_9] at w
        refine zq_run 1 (pc' := 33) (L' := [(.ref (21)), (.ref (a1)), (.ref (a2)), (zq_vi (x3)), (zq_vi (x4)), (.ref (b_4))]) (st' := [(.ref (21))]) (fun _ _ _ => rfl) ?_
        refine zq_getf_f (b := 22) rfl zq_a21 rfl rfl ?_
        refine zq_run 2 (pc' := 39) (L' := [(.ref (21)), (.ref (a1)), (.ref (a2)), (zq_vi (x3)), (zq_vi (x4)), (.ref (b_4))]) (st' := [(.ref (a1)), (zq_vi (x4)), (.ref (22))]) (fun _ _ _ => rfl) ?_
        refine zq_have (fun hR_10 => ?_)
        refine zq_getf_i (j := 1) (v := zq_i s_6 (a1) (1)) rfl ha1 rfl rfl rfl ?_
        obtain ⟨g_11, w⟩ := w
        refine zq_ast_i rfl zq_a22 g_11.1 g_11.2 (hR_10.1 _ _) ?_
        refine zq_run 4 (pc' := 49) (L' := [(.ref (21)), (.ref (a1)), (.ref (a2)), (zq_vi (x3)), (zq_vi (x4)), (.ref (b_4))]) (st' := [(.ref (b_4)), (zq_vi (x4)), (.ref (a1)), (.ref (21))]) (fun _ _ _ => rfl) ?_
        refine zq_call_v (i := .invokevirtual 31) (r := [1, 97, 3, 1, 6]) rfl rfl (fun h hp => zr_avv rfl (hp.obj zq_a21)) (of_decide_eq_false rfl) w (fun s_12 w => ?_)
        refine zq_iinc (L' := [(.ref (21)), (.ref (a1)), (.ref (a2)), (zq_vi (x3)), (zq_vi (x4 + 1)), (.ref (b_4))]) rfl rfl rfl ?_
        refine zq_run 1 (pc' := 3) (L' := [(.ref (21)), (.ref (a1)), (.ref (a2)), (zq_vi (x3)), (zq_vi (x4 + 1)), (.ref (b_4))]) (st' := []) (fun _ _ _ => rfl) ?_
        exact w
/-- PaperObjects$Writer.addObject(LPaperObjects$Text;ILPaperObjects$Slot;)V -/
theorem zw_97 {X : Nat × (Nat → Int32)} {s : zq_S} {K : zq_S → Prop} {a1 : Nat} (ha1 : zq_o 1 a1) {x2 : Int} (hx2 : zq_iv x2) {a3 : Nat} (ha3 : zq_o 7 a3) (w : (zq_Ex X 24 0 [(.ref (a1)), (zq_vi (x2)), zz_no, zz_no, zz_no, zz_no] [] s (zq_rv fun s_1 => (zq_Ex X 19 0 [(.ref (a1)), (zq_vi (32))] [] s_1 (zq_rv fun s_2 => (zq_Ex X 24 0 [(.ref (a1)), (zq_vi (zq_i s_2 (a3) (3))), zz_no, zz_no, zz_no, zz_no] [] s_2 (zq_rv fun s_4 => (zq_Ex X 23 0 [(.ref (a1)), (.ref (1000000 + 14)), zz_no] [] s_4 (zq_rv fun s_5 => (∃ b_7 : Nat, zq_r s_5 (a3) 4 = some b_7 ∧ (zq_Ex X 16 0 [(.ref (b_7)), (zq_vi (0)), (.ref (a1)), zz_no, zz_no, zz_no] [] s_5 (zq_rv fun s_9 => (zq_Ex X 19 0 [(.ref (a1)), (zq_vi (10))] [] s_9 (zq_rv fun s_10 => (if zq_i s_10 (a3) (2) = 0 then (zq_Ex X 23 0 [(.ref (a1)), (.ref (1000000 + 17)), zz_no] [] s_10 (zq_rv fun s_13 => K s_13)) else (zq_Ex X 23 0 [(.ref (a1)), (.ref (1000000 + 15)), zz_no] [] s_10 (zq_rv fun s_14 => (zq_Ex X 80 0 [(.ref (a1)), (.ref (a3 + 8)), zz_no] [] s_14 (zq_rv fun s_15 => (zq_Ex X 23 0 [(.ref (a1)), (.ref (1000000 + 16)), zz_no] [] s_15 (zq_rv fun s_16 => (zq_Ex X 23 0 [(.ref (a1)), (.ref (1000000 + 17)), zz_no] [] s_16 (zq_rv fun s_17 => K s_17))))))))))))))))))))))) : zq_Ex X 97 0 [(.ref (21)), (.ref (a1)), (zq_vi (x2)), (.ref (a3))] [] s (zq_rv K) := by
  refine zq_run 2 (pc' := 2) (L' := [(.ref (21)), (.ref (a1)), (zq_vi (x2)), (.ref (a3))]) (st' := [(zq_vi (x2)), (.ref (a1))]) (fun _ _ _ => rfl) ?_
  refine zq_call_v (i := .invokevirtual 35) (r := [1, 24, 1, 1, 1]) rfl rfl (fun h hp => zr_avv rfl (hp.obj ha1)) (of_decide_eq_false rfl) w (fun s_1 w => ?_)
  refine zq_run 2 (pc' := 8) (L' := [(.ref (21)), (.ref (a1)), (zq_vi (x2)), (.ref (a3))]) (st' := [(zq_vi (32)), (.ref (a1))]) (fun _ _ _ => rfl) ?_
  refine zq_call_v (i := .invokevirtual 39) (r := [1, 19, 1, 1, 1]) rfl rfl (fun h hp => zr_avv rfl (hp.obj ha1)) (of_decide_eq_false rfl) w (fun s_2 w => ?_)
  refine zq_run 2 (pc' := 13) (L' := [(.ref (21)), (.ref (a1)), (zq_vi (x2)), (.ref (a3))]) (st' := [(.ref (a3)), (.ref (a1))]) (fun _ _ _ => rfl) ?_
  refine zq_have (fun hR_3 => ?_)
  refine zq_getf_i (j := 3) (v := zq_i s_2 (a3) (3)) rfl ha3 rfl rfl rfl ?_
  refine zq_call_v (i := .invokevirtual 35) (r := [1, 24, 1, 1, 1]) rfl rfl (fun h hp => zr_avv rfl (hp.obj ha1)) (of_decide_eq_false rfl) w (fun s_4 w => ?_)
  refine zq_run 2 (pc' := 22) (L' := [(.ref (21)), (.ref (a1)), (zq_vi (x2)), (.ref (a3))]) (st' := [(.ref (1000000 + 14)), (.ref (a1))]) (fun _ _ _ => rfl) ?_
  refine zq_call_v (i := .invokevirtual 49) (r := [1, 23, 1, 1, 1]) rfl rfl (fun h hp => zr_avv rfl (hp.obj ha1)) (of_decide_eq_false rfl) w (fun s_5 w => ?_)
  refine zq_run 1 (pc' := 26) (L' := [(.ref (21)), (.ref (a1)), (zq_vi (x2)), (.ref (a3))]) (st' := [(.ref (a3))]) (fun _ _ _ => rfl) ?_
  refine zq_have (fun hR_6 => ?_)
  obtain ⟨b_7, hb_8, w⟩ := w
  refine zq_getf_rs (j := 4) rfl ha3 rfl rfl hb_8 ?_
  refine zq_run 2 (pc' := 31) (L' := [(.ref (21)), (.ref (a1)), (zq_vi (x2)), (.ref (a3))]) (st' := [(.ref (a1)), (zq_vi (0)), (.ref (b_7))]) (fun _ _ _ => rfl) ?_
  refine zq_call_v (i := .invokevirtual 57) (r := [1, 16, 2, 1, 4]) rfl rfl (fun h hp => zr_avv rfl (hp.obj (zq_fcls hR_6 (k := 4) (j := 4) (cj := 4) ha3 rfl rfl hb_8))) (of_decide_eq_false rfl) w (fun s_9 w => ?_)
  refine zq_run 2 (pc' := 37) (L' := [(.ref (21)), (.ref (a1)), (zq_vi (x2)), (.ref (a3))]) (st' := [(zq_vi (10)), (.ref (a1))]) (fun _ _ _ => rfl) ?_
  refine zq_call_v (i := .invokevirtual 39) (r := [1, 19, 1, 1, 1]) rfl rfl (fun h hp => zr_avv rfl (hp.obj ha1)) (of_decide_eq_false rfl) w (fun s_10 w => ?_)
  refine zq_run 1 (pc' := 41) (L' := [(.ref (21)), (.ref (a1)), (zq_vi (x2)), (.ref (a3))]) (st' := [(.ref (a3))]) (fun _ _ _ => rfl) ?_
  refine zq_have (fun hR_11 => ?_)
  refine zq_getf_i (j := 2) (v := zq_i s_10 (a3) (2)) rfl ha3 rfl rfl rfl ?_
  refine zq_eq0 rfl (zq_bo_in (hR_11.2.2.2.1 _ 7 2 ha3 rfl)) (fun hb_12 => ?_) (fun hb_12 => ?_)
  · rw [if_pos hb_12] at w
    refine zq_run 2 (pc' := 70) (L' := [(.ref (21)), (.ref (a1)), (zq_vi (x2)), (.ref (a3))]) (st' := [(.ref (1000000 + 17)), (.ref (a1))]) (fun _ _ _ => rfl) ?_
    refine zq_call_v (i := .invokevirtual 49) (r := [1, 23, 1, 1, 1]) rfl rfl (fun h hp => zr_avv rfl (hp.obj ha1)) (of_decide_eq_false rfl) w (fun s_13 w => ?_)
    exact zq_vret rfl rfl (⟨rfl, w⟩)
  · rw [if_neg hb_12] at w
    refine zq_run 2 (pc' := 50) (L' := [(.ref (21)), (.ref (a1)), (zq_vi (x2)), (.ref (a3))]) (st' := [(.ref (1000000 + 15)), (.ref (a1))]) (fun _ _ _ => rfl) ?_
    refine zq_call_v (i := .invokevirtual 49) (r := [1, 23, 1, 1, 1]) rfl rfl (fun h hp => zr_avv rfl (hp.obj ha1)) (of_decide_eq_false rfl) w (fun s_14 w => ?_)
    refine zq_run 2 (pc' := 55) (L' := [(.ref (21)), (.ref (a1)), (zq_vi (x2)), (.ref (a3))]) (st' := [(.ref (a3)), (.ref (a1))]) (fun _ _ _ => rfl) ?_
    refine zq_getf_f (b := a3 + 8) rfl ha3 rfl rfl ?_
    refine zq_call_v (i := .invokevirtual 73) (r := [1, 80, 1, 1, 1]) rfl rfl (fun h hp => zr_avv rfl (hp.obj ha1)) (of_decide_eq_false rfl) w (fun s_15 w => ?_)
    refine zq_run 2 (pc' := 64) (L' := [(.ref (21)), (.ref (a1)), (zq_vi (x2)), (.ref (a3))]) (st' := [(.ref (1000000 + 16)), (.ref (a1))]) (fun _ _ _ => rfl) ?_
    refine zq_call_v (i := .invokevirtual 49) (r := [1, 23, 1, 1, 1]) rfl rfl (fun h hp => zr_avv rfl (hp.obj ha1)) (of_decide_eq_false rfl) w (fun s_16 w => ?_)
    refine zq_run 2 (pc' := 70) (L' := [(.ref (21)), (.ref (a1)), (zq_vi (x2)), (.ref (a3))]) (st' := [(.ref (1000000 + 17)), (.ref (a1))]) (fun _ _ _ => rfl) ?_
    refine zq_call_v (i := .invokevirtual 49) (r := [1, 23, 1, 1, 1]) rfl rfl (fun h hp => zr_avv rfl (hp.obj ha1)) (of_decide_eq_false rfl) w (fun s_17 w => ?_)
    exact zq_vret rfl rfl (⟨rfl, w⟩)
/-- PaperObjects$Writer.addTable(LPaperObjects$Text;LPaperObjects$Table;III)V -/
theorem zw_98 {X : Nat × (Nat → Int32)} {s : zq_S} {K : zq_S → Prop} {a1 : Nat} (ha1 : zq_o 1 a1) {a2 : Nat} (ha2 : zq_o 8 a2) {x3 : Int} (hx3 : zq_iv x3) {x4 : Int} (hx4 : zq_iv x4) {x5 : Int} (hx5 : zq_iv x5) (w : (zq_Ex X 23 0 [(.ref (a1)), (.ref (1000000 + 18)), zz_no] [] s (zq_rv fun s_2 => zq_Ex X 98 15 [(.ref (21)), (.ref (a1)), (.ref (a2)), (zq_vi (x3)), (zq_vi (x4)), (zq_vi (x5)), (zq_vi (zq_i s (a1) (1))), (zq_vi (1))] [] s_2 (zq_rv K)))) : zq_Ex X 98 0 [(.ref (21)), (.ref (a1)), (.ref (a2)), (zq_vi (x3)), (zq_vi (x4)), (zq_vi (x5)), zz_no, zz_no] [] s (zq_rv K) := by
  refine zq_run 1 (pc' := 1) (L' := [(.ref (21)), (.ref (a1)), (.ref (a2)), (zq_vi (x3)), (zq_vi (x4)), (zq_vi (x5)), zz_no, zz_no]) (st' := [(.ref (a1))]) (fun _ _ _ => rfl) ?_
  refine zq_have (fun hR_1 => ?_)
  refine zq_getf_i (j := 1) (v := zq_i s (a1) (1)) rfl ha1 rfl rfl rfl ?_
  refine zq_run 3 (pc' := 9) (L' := [(.ref (21)), (.ref (a1)), (.ref (a2)), (zq_vi (x3)), (zq_vi (x4)), (zq_vi (x5)), (zq_vi (zq_i s (a1) (1))), zz_no]) (st' := [(.ref (1000000 + 18)), (.ref (a1))]) (fun _ _ _ => rfl) ?_
  refine zq_call_v (i := .invokevirtual 49) (r := [1, 23, 1, 1, 1]) rfl rfl (fun h hp => zr_avv rfl (hp.obj ha1)) (of_decide_eq_false rfl) w (fun s_2 w => ?_)
  refine zq_run 2 (pc' := 15) (L' := [(.ref (21)), (.ref (a1)), (.ref (a2)), (zq_vi (x3)), (zq_vi (x4)), (zq_vi (x5)), (zq_vi (zq_i s (a1) (1))), (zq_vi (1))]) (st' := []) (fun _ _ _ => rfl) ?_
  exact w
/-- PaperObjects$Writer.addTable at 15 -/
theorem zw_98_15 {X : Nat × (Nat → Int32)} {s : zq_S} {K : zq_S → Prop} {a1 : Nat} (ha1 : zq_o 1 a1) {a2 : Nat} (ha2 : zq_o 8 a2) {x3 : Int} (hx3 : zq_iv x3) {x4 : Int} (hx4 : zq_iv x4) {x5 : Int} (hx5 : zq_iv x5) {x6 : Int} (hx6 : zq_iv x6) {x7 : Int} (hx7 : zq_iv x7) (w : (if x7 ≤ 9 then (zq_Ex X 35 0 [(zq_vi (x3)), (zq_vi (x7))] [] s (zq_rp zq_bo fun x_7 s_6 => (if x_7 = 0 then zq_Ex X 98 15 [(.ref (21)), (.ref (a1)), (.ref (a2)), (zq_vi (x3)), (zq_vi (x4)), (zq_vi (x5)), (zq_vi (x6)), (zq_vi (x7 + 1))] [] s_6 (zq_rv K) else (zq_Ex X 35 0 [(zq_vi (x3)), (zq_vi (x7 - 1))] [] s_6 (zq_rp zq_bo fun x_11 s_10 => (if x_11 = 0 then (zq_Ex X 99 0 [(.ref (21)), (.ref (a1)), (zq_vi (x3)), (zq_vi (x7)), zz_no] [] s_10 (zq_rv fun s_18 => (zq_Ex X 35 0 [(zq_vi (x4)), (zq_vi (x7))] [] s_18 (zq_rp zq_bo fun x_20 s_19 => (zq_Ex X 100 0 [(.ref (21)), (.ref (a1)), (.ref (a2)), (zq_vi (x7)), (zq_vi (x_20)), zz_no, zz_no] [] s_19 (zq_rv fun s_22 => zq_Ex X 98 15 [(.ref (21)), (.ref (a1)), (.ref (a2)), (zq_vi (x3)), (zq_vi (x4)), (zq_vi (x5)), (zq_vi (x6)), (zq_vi (x7 + 1))] [] s_22 (zq_rv K))))))) else (zq_Ex X 35 0 [(zq_vi (x4)), (zq_vi (x7))] [] s_10 (zq_rp zq_bo fun x_15 s_14 => (zq_Ex X 100 0 [(.ref (21)), (.ref (a1)), (.ref (a2)), (zq_vi (x7)), (zq_vi (x_15)), zz_no, zz_no] [] s_14 (zq_rv fun s_17 => zq_Ex X 98 15 [(.ref (21)), (.ref (a1)), (.ref (a2)), (zq_vi (x3)), (zq_vi (x4)), (zq_vi (x5)), (zq_vi (x6)), (zq_vi (x7 + 1))] [] s_17 (zq_rv K))))))))))) else (zq_Ex X 102 0 [(.ref (21)), (.ref (a1)), (.ref (a2)), (zq_vi (x5))] [] s (zq_rv fun s_2 => (zq_Ex X 23 0 [(.ref (a1)), (.ref (1000000 + 24)), zz_no] [] s_2 (zq_rv fun s_3 => (zq_Ex X 24 0 [(.ref (a1)), (zq_vi (x6)), zz_no, zz_no, zz_no, zz_no] [] s_3 (zq_rv fun s_4 => (zq_Ex X 23 0 [(.ref (a1)), (.ref (1000000 + 25)), zz_no] [] s_4 (zq_rv fun s_5 => K s_5)))))))))) : zq_Ex X 98 15 [(.ref (21)), (.ref (a1)), (.ref (a2)), (zq_vi (x3)), (zq_vi (x4)), (zq_vi (x5)), (zq_vi (x6)), (zq_vi (x7))] [] s (zq_rv K) := by
  refine zq_run 2 (pc' := 19) (L' := [(.ref (21)), (.ref (a1)), (.ref (a2)), (zq_vi (x3)), (zq_vi (x4)), (zq_vi (x5)), (zq_vi (x6)), (zq_vi (x7))]) (st' := [(zq_vi (9)), (zq_vi (x7))]) (fun _ _ _ => rfl) ?_
  refine zq_gt rfl hx7 (of_decide_eq_true rfl) (fun hb_1 => ?_) (fun hb_1 => ?_)
  · rw [if_neg hb_1] at w
    refine zq_run 4 (pc' := 76) (L' := [(.ref (21)), (.ref (a1)), (.ref (a2)), (zq_vi (x3)), (zq_vi (x4)), (zq_vi (x5)), (zq_vi (x6)), (zq_vi (x7))]) (st' := [(zq_vi (x5)), (.ref (a2)), (.ref (a1)), (.ref (21))]) (fun _ _ _ => rfl) ?_
    refine zq_call_v (i := .invokevirtual 91) (r := [1, 102, 3, 1, 6]) rfl rfl (fun h hp => zr_avv rfl (hp.obj zq_a21)) (of_decide_eq_false rfl) w (fun s_2 w => ?_)
    refine zq_run 2 (pc' := 82) (L' := [(.ref (21)), (.ref (a1)), (.ref (a2)), (zq_vi (x3)), (zq_vi (x4)), (zq_vi (x5)), (zq_vi (x6)), (zq_vi (x7))]) (st' := [(.ref (1000000 + 24)), (.ref (a1))]) (fun _ _ _ => rfl) ?_
    refine zq_call_v (i := .invokevirtual 49) (r := [1, 23, 1, 1, 1]) rfl rfl (fun h hp => zr_avv rfl (hp.obj ha1)) (of_decide_eq_false rfl) w (fun s_3 w => ?_)
    refine zq_run 2 (pc' := 88) (L' := [(.ref (21)), (.ref (a1)), (.ref (a2)), (zq_vi (x3)), (zq_vi (x4)), (zq_vi (x5)), (zq_vi (x6)), (zq_vi (x7))]) (st' := [(zq_vi (x6)), (.ref (a1))]) (fun _ _ _ => rfl) ?_
    refine zq_call_v (i := .invokevirtual 35) (r := [1, 24, 1, 1, 1]) rfl rfl (fun h hp => zr_avv rfl (hp.obj ha1)) (of_decide_eq_false rfl) w (fun s_4 w => ?_)
    refine zq_run 2 (pc' := 94) (L' := [(.ref (21)), (.ref (a1)), (.ref (a2)), (zq_vi (x3)), (zq_vi (x4)), (zq_vi (x5)), (zq_vi (x6)), (zq_vi (x7))]) (st' := [(.ref (1000000 + 25)), (.ref (a1))]) (fun _ _ _ => rfl) ?_
    refine zq_call_v (i := .invokevirtual 49) (r := [1, 23, 1, 1, 1]) rfl rfl (fun h hp => zr_avv rfl (hp.obj ha1)) (of_decide_eq_false rfl) w (fun s_5 w => ?_)
    exact zq_vret rfl rfl (⟨rfl, w⟩)
  · rw [if_pos hb_1] at w
    refine zq_run 2 (pc' := 25) (L' := [(.ref (21)), (.ref (a1)), (.ref (a2)), (zq_vi (x3)), (zq_vi (x4)), (zq_vi (x5)), (zq_vi (x6)), (zq_vi (x7))]) (st' := [(zq_vi (x7)), (zq_vi (x3))]) (fun _ _ _ => rfl) ?_
    refine zq_call_i (i := .invokestatic 21) (r := [1, 35, 2, 0, 0]) rfl rfl (fun _ _ => rfl) (of_decide_eq_false rfl) w (fun x_7 s_6 hx_8 w => ?_)
    refine zq_eq0 rfl (zq_bo_in hx_8) (fun hb_9 => ?_) (fun hb_9 => ?_)
    · rw [if_pos hb_9] at w
      refine zq_iinc (L' := [(.ref (21)), (.ref (a1)), (.ref (a2)), (zq_vi (x3)), (zq_vi (x4)), (zq_vi (x5)), (zq_vi (x6)), (zq_vi (x7 + 1))]) rfl rfl rfl ?_
      refine zq_run 1 (pc' := 15) (L' := [(.ref (21)), (.ref (a1)), (.ref (a2)), (zq_vi (x3)), (zq_vi (x4)), (zq_vi (x5)), (zq_vi (x6)), (zq_vi (x7 + 1))]) (st' := []) (fun _ _ _ => rfl) ?_
      exact w
    · rw [if_neg hb_9] at w
      refine zq_run 3 (pc' := 35) (L' := [(.ref (21)), (.ref (a1)), (.ref (a2)), (zq_vi (x3)), (zq_vi (x4)), (zq_vi (x5)), (zq_vi (x6)), (zq_vi (x7))]) (st' := [(zq_vi (1)), (zq_vi (x7)), (zq_vi (x3))]) (fun _ _ _ => rfl) ?_
      refine zq_isub rfl ?_
      refine zq_call_i (i := .invokestatic 21) (r := [1, 35, 2, 0, 0]) rfl rfl (fun _ _ => rfl) (of_decide_eq_false rfl) w (fun x_11 s_10 hx_12 w => ?_)
      refine zq_ne0 rfl (zq_bo_in hx_12) (fun hb_13 => ?_) (fun hb_13 => ?_)
      · rw [if_neg hb_13] at w
        refine zq_run 6 (pc' := 59) (L' := [(.ref (21)), (.ref (a1)), (.ref (a2)), (zq_vi (x3)), (zq_vi (x4)), (zq_vi (x5)), (zq_vi (x6)), (zq_vi (x7))]) (st' := [(zq_vi (x7)), (zq_vi (x4)), (zq_vi (x7)), (.ref (a2)), (.ref (a1)), (.ref (21))]) (fun _ _ _ => rfl) ?_
        refine zq_call_i (i := .invokestatic 21) (r := [1, 35, 2, 0, 0]) rfl rfl (fun _ _ => rfl) (of_decide_eq_false rfl) w (fun x_15 s_14 hx_16 w => ?_)
        refine zq_call_v (i := .invokevirtual 87) (r := [1, 100, 4, 1, 6]) rfl rfl (fun h hp => zr_avv rfl (hp.obj zq_a21)) (of_decide_eq_false rfl) w (fun s_17 w => ?_)
        refine zq_iinc (L' := [(.ref (21)), (.ref (a1)), (.ref (a2)), (zq_vi (x3)), (zq_vi (x4)), (zq_vi (x5)), (zq_vi (x6)), (zq_vi (x7 + 1))]) rfl rfl rfl ?_
        refine zq_run 1 (pc' := 15) (L' := [(.ref (21)), (.ref (a1)), (.ref (a2)), (zq_vi (x3)), (zq_vi (x4)), (zq_vi (x5)), (zq_vi (x6)), (zq_vi (x7 + 1))]) (st' := []) (fun _ _ _ => rfl) ?_
        exact w
      · rw [if_pos hb_13] at w
        refine zq_run 4 (pc' := 47) (L' := [(.ref (21)), (.ref (a1)), (.ref (a2)), (zq_vi (x3)), (zq_vi (x4)), (zq_vi (x5)), (zq_vi (x6)), (zq_vi (x7))]) (st' := [(zq_vi (x7)), (zq_vi (x3)), (.ref (a1)), (.ref (21))]) (fun _ _ _ => rfl) ?_
        refine zq_call_v (i := .invokevirtual 83) (r := [1, 99, 3, 1, 6]) rfl rfl (fun h hp => zr_avv rfl (hp.obj zq_a21)) (of_decide_eq_false rfl) w (fun s_18 w => ?_)
        refine zq_run 6 (pc' := 59) (L' := [(.ref (21)), (.ref (a1)), (.ref (a2)), (zq_vi (x3)), (zq_vi (x4)), (zq_vi (x5)), (zq_vi (x6)), (zq_vi (x7))]) (st' := [(zq_vi (x7)), (zq_vi (x4)), (zq_vi (x7)), (.ref (a2)), (.ref (a1)), (.ref (21))]) (fun _ _ _ => rfl) ?_
        refine zq_call_i (i := .invokestatic 21) (r := [1, 35, 2, 0, 0]) rfl rfl (fun _ _ => rfl) (of_decide_eq_false rfl) w (fun x_20 s_19 hx_21 w => ?_)
        refine zq_call_v (i := .invokevirtual 87) (r := [1, 100, 4, 1, 6]) rfl rfl (fun h hp => zr_avv rfl (hp.obj zq_a21)) (of_decide_eq_false rfl) w (fun s_22 w => ?_)
        refine zq_iinc (L' := [(.ref (21)), (.ref (a1)), (.ref (a2)), (zq_vi (x3)), (zq_vi (x4)), (zq_vi (x5)), (zq_vi (x6)), (zq_vi (x7 + 1))]) rfl rfl rfl ?_
        refine zq_run 1 (pc' := 15) (L' := [(.ref (21)), (.ref (a1)), (.ref (a2)), (zq_vi (x3)), (zq_vi (x4)), (zq_vi (x5)), (zq_vi (x6)), (zq_vi (x7 + 1))]) (st' := []) (fun _ _ _ => rfl) ?_
        exact w
/-- PaperObjects$Writer.addRunHead(LPaperObjects$Text;II)V -/
theorem zw_99 {X : Nat × (Nat → Int32)} {s : zq_S} {K : zq_S → Prop} {a1 : Nat} (ha1 : zq_o 1 a1) {x2 : Int} (hx2 : zq_iv x2) {x3 : Int} (hx3 : zq_iv x3) (w : zq_Ex X 99 3 [(.ref (21)), (.ref (a1)), (zq_vi (x2)), (zq_vi (x3)), (zq_vi (x3))] [] s (zq_rv K)) : zq_Ex X 99 0 [(.ref (21)), (.ref (a1)), (zq_vi (x2)), (zq_vi (x3)), zz_no] [] s (zq_rv K) := by
  refine zq_run 2 (pc' := 3) (L' := [(.ref (21)), (.ref (a1)), (zq_vi (x2)), (zq_vi (x3)), (zq_vi (x3))]) (st' := []) (fun _ _ _ => rfl) ?_
  exact w
/-- PaperObjects$Writer.addRunHead at 3 -/
theorem zw_99_3 {X : Nat × (Nat → Int32)} {s : zq_S} {K : zq_S → Prop} {a1 : Nat} (ha1 : zq_o 1 a1) {x2 : Int} (hx2 : zq_iv x2) {x3 : Int} (hx3 : zq_iv x3) {x4 : Int} (hx4 : zq_iv x4) (w : (if x4 ≤ 9 then (zq_Ex X 35 0 [(zq_vi (x2)), (zq_vi (x4))] [] s (zq_rp zq_bo fun x_7 s_6 => (if x_7 = 0 then (zq_Ex X 24 0 [(.ref (a1)), (zq_vi (x3)), zz_no, zz_no, zz_no, zz_no] [] s_6 (zq_rv fun s_10 => (zq_Ex X 19 0 [(.ref (a1)), (zq_vi (32))] [] s_10 (zq_rv fun s_11 => (zq_Ex X 24 0 [(.ref (a1)), (zq_vi (x4 - x3)), zz_no, zz_no, zz_no, zz_no] [] s_11 (zq_rv fun s_12 => (zq_Ex X 19 0 [(.ref (a1)), (zq_vi (10))] [] s_12 (zq_rv fun s_13 => K s_13)))))))) else zq_Ex X 99 3 [(.ref (21)), (.ref (a1)), (zq_vi (x2)), (zq_vi (x3)), (zq_vi (x4 + 1))] [] s_6 (zq_rv K)))) else (zq_Ex X 24 0 [(.ref (a1)), (zq_vi (x3)), zz_no, zz_no, zz_no, zz_no] [] s (zq_rv fun s_2 => (zq_Ex X 19 0 [(.ref (a1)), (zq_vi (32))] [] s_2 (zq_rv fun s_3 => (zq_Ex X 24 0 [(.ref (a1)), (zq_vi (x4 - x3)), zz_no, zz_no, zz_no, zz_no] [] s_3 (zq_rv fun s_4 => (zq_Ex X 19 0 [(.ref (a1)), (zq_vi (10))] [] s_4 (zq_rv fun s_5 => K s_5)))))))))) : zq_Ex X 99 3 [(.ref (21)), (.ref (a1)), (zq_vi (x2)), (zq_vi (x3)), (zq_vi (x4))] [] s (zq_rv K) := by
  refine zq_run 2 (pc' := 7) (L' := [(.ref (21)), (.ref (a1)), (zq_vi (x2)), (zq_vi (x3)), (zq_vi (x4))]) (st' := [(zq_vi (9)), (zq_vi (x4))]) (fun _ _ _ => rfl) ?_
  refine zq_gt rfl hx4 (of_decide_eq_true rfl) (fun hb_1 => ?_) (fun hb_1 => ?_)
  · rw [if_neg hb_1] at w
    refine zq_run 2 (pc' := 27) (L' := [(.ref (21)), (.ref (a1)), (zq_vi (x2)), (zq_vi (x3)), (zq_vi (x4))]) (st' := [(zq_vi (x3)), (.ref (a1))]) (fun _ _ _ => rfl) ?_
    refine zq_call_v (i := .invokevirtual 35) (r := [1, 24, 1, 1, 1]) rfl rfl (fun h hp => zr_avv rfl (hp.obj ha1)) (of_decide_eq_false rfl) w (fun s_2 w => ?_)
    refine zq_run 2 (pc' := 33) (L' := [(.ref (21)), (.ref (a1)), (zq_vi (x2)), (zq_vi (x3)), (zq_vi (x4))]) (st' := [(zq_vi (32)), (.ref (a1))]) (fun _ _ _ => rfl) ?_
    refine zq_call_v (i := .invokevirtual 39) (r := [1, 19, 1, 1, 1]) rfl rfl (fun h hp => zr_avv rfl (hp.obj ha1)) (of_decide_eq_false rfl) w (fun s_3 w => ?_)
    refine zq_run 3 (pc' := 40) (L' := [(.ref (21)), (.ref (a1)), (zq_vi (x2)), (zq_vi (x3)), (zq_vi (x4))]) (st' := [(zq_vi (x3)), (zq_vi (x4)), (.ref (a1))]) (fun _ _ _ => rfl) ?_
    refine zq_isub rfl ?_
    refine zq_call_v (i := .invokevirtual 35) (r := [1, 24, 1, 1, 1]) rfl rfl (fun h hp => zr_avv rfl (hp.obj ha1)) (of_decide_eq_false rfl) w (fun s_4 w => ?_)
    refine zq_run 2 (pc' := 47) (L' := [(.ref (21)), (.ref (a1)), (zq_vi (x2)), (zq_vi (x3)), (zq_vi (x4))]) (st' := [(zq_vi (10)), (.ref (a1))]) (fun _ _ _ => rfl) ?_
    refine zq_call_v (i := .invokevirtual 39) (r := [1, 19, 1, 1, 1]) rfl rfl (fun h hp => zr_avv rfl (hp.obj ha1)) (of_decide_eq_false rfl) w (fun s_5 w => ?_)
    exact zq_vret rfl rfl (⟨rfl, w⟩)
  · rw [if_pos hb_1] at w
    refine zq_run 2 (pc' := 13) (L' := [(.ref (21)), (.ref (a1)), (zq_vi (x2)), (zq_vi (x3)), (zq_vi (x4))]) (st' := [(zq_vi (x4)), (zq_vi (x2))]) (fun _ _ _ => rfl) ?_
    refine zq_call_i (i := .invokestatic 21) (r := [1, 35, 2, 0, 0]) rfl rfl (fun _ _ => rfl) (of_decide_eq_false rfl) w (fun x_7 s_6 hx_8 w => ?_)
    refine zq_eq0 rfl (zq_bo_in hx_8) (fun hb_9 => ?_) (fun hb_9 => ?_)
    · rw [if_pos hb_9] at w
      refine zq_run 2 (pc' := 27) (L' := [(.ref (21)), (.ref (a1)), (zq_vi (x2)), (zq_vi (x3)), (zq_vi (x4))]) (st' := [(zq_vi (x3)), (.ref (a1))]) (fun _ _ _ => rfl) ?_
      refine zq_call_v (i := .invokevirtual 35) (r := [1, 24, 1, 1, 1]) rfl rfl (fun h hp => zr_avv rfl (hp.obj ha1)) (of_decide_eq_false rfl) w (fun s_10 w => ?_)
      refine zq_run 2 (pc' := 33) (L' := [(.ref (21)), (.ref (a1)), (zq_vi (x2)), (zq_vi (x3)), (zq_vi (x4))]) (st' := [(zq_vi (32)), (.ref (a1))]) (fun _ _ _ => rfl) ?_
      refine zq_call_v (i := .invokevirtual 39) (r := [1, 19, 1, 1, 1]) rfl rfl (fun h hp => zr_avv rfl (hp.obj ha1)) (of_decide_eq_false rfl) w (fun s_11 w => ?_)
      refine zq_run 3 (pc' := 40) (L' := [(.ref (21)), (.ref (a1)), (zq_vi (x2)), (zq_vi (x3)), (zq_vi (x4))]) (st' := [(zq_vi (x3)), (zq_vi (x4)), (.ref (a1))]) (fun _ _ _ => rfl) ?_
      refine zq_isub rfl ?_
      refine zq_call_v (i := .invokevirtual 35) (r := [1, 24, 1, 1, 1]) rfl rfl (fun h hp => zr_avv rfl (hp.obj ha1)) (of_decide_eq_false rfl) w (fun s_12 w => ?_)
      refine zq_run 2 (pc' := 47) (L' := [(.ref (21)), (.ref (a1)), (zq_vi (x2)), (zq_vi (x3)), (zq_vi (x4))]) (st' := [(zq_vi (10)), (.ref (a1))]) (fun _ _ _ => rfl) ?_
      refine zq_call_v (i := .invokevirtual 39) (r := [1, 19, 1, 1, 1]) rfl rfl (fun h hp => zr_avv rfl (hp.obj ha1)) (of_decide_eq_false rfl) w (fun s_13 w => ?_)
      exact zq_vret rfl rfl (⟨rfl, w⟩)
    · rw [if_neg hb_9] at w
      refine zq_iinc (L' := [(.ref (21)), (.ref (a1)), (zq_vi (x2)), (zq_vi (x3)), (zq_vi (x4 + 1))]) rfl rfl rfl ?_
      refine zq_run 1 (pc' := 3) (L' := [(.ref (21)), (.ref (a1)), (zq_vi (x2)), (zq_vi (x3)), (zq_vi (x4 + 1))]) (st' := []) (fun _ _ _ => rfl) ?_
      exact w
/-- PaperObjects$Writer.addEntry(LPaperObjects$Text;LPaperObjects$Table;IZ)V -/
theorem zw_100 {X : Nat × (Nat → Int32)} {s : zq_S} {K : zq_S → Prop} {a1 : Nat} (ha1 : zq_o 1 a1) {a2 : Nat} (ha2 : zq_o 8 a2) {x3 : Int} (hx3 : zq_iv x3) {x4 : Int} (hx4 : zq_bo x4) (w : (zq_Ex X 42 0 [(.ref (a2)), (zq_vi (x3))] [] s (zq_rr 7 fun o_2 s_1 => ((o_2 = none → K s_1) ∧ (∀ b_3 : Nat, o_2 = some b_3 → (if zq_i s_1 (b_3) (0) = 0 then zq_Ex X 100 34 [(.ref (21)), (.ref (a1)), (.ref (a2)), (zq_vi (x3)), (zq_vi (x4)), (.ref (b_3)), zz_no] [] s_1 (zq_rv K) else (if x4 = 0 then (zq_Ex X 83 0 [(.ref (b_3))] [] s_1 (zq_rp zq_iv fun x_9 s_8 => (if x4 = 0 then (zq_Ex X 101 0 [(.ref (a1)), (zq_vi (0))] [] s_8 (zq_rv fun s_12 => (zq_Ex X 19 0 [(.ref (a1)), (zq_vi (32))] [] s_12 (zq_rv fun s_13 => (zq_Ex X 24 0 [(.ref (a1)), (zq_vi (x_9)), zz_no, zz_no, zz_no, zz_no] [] s_13 (zq_rv fun s_14 => (if x4 = 0 then (zq_Ex X 23 0 [(.ref (a1)), (.ref (1000000 + 20)), zz_no] [] s_14 (zq_rv fun s_16 => K s_16)) else (zq_Ex X 23 0 [(.ref (a1)), (.ref (1000000 + 19)), zz_no] [] s_14 (zq_rv fun s_17 => K s_17))))))))) else (((0 : Int) ≤ x3 ∧ x3 < (10 : Int)) ∧ (zq_Ex X 101 0 [(.ref (a1)), (zq_vi (zq_i s_8 (22) (x3)))] [] s_8 (zq_rv fun s_20 => (zq_Ex X 19 0 [(.ref (a1)), (zq_vi (32))] [] s_20 (zq_rv fun s_21 => (zq_Ex X 24 0 [(.ref (a1)), (zq_vi (x_9)), zz_no, zz_no, zz_no, zz_no] [] s_21 (zq_rv fun s_22 => (if x4 = 0 then (zq_Ex X 23 0 [(.ref (a1)), (.ref (1000000 + 20)), zz_no] [] s_22 (zq_rv fun s_24 => K s_24)) else (zq_Ex X 23 0 [(.ref (a1)), (.ref (1000000 + 19)), zz_no] [] s_22 (zq_rv fun s_25 => K s_25))))))))))))) else zq_Ex X 100 34 [(.ref (21)), (.ref (a1)), (.ref (a2)), (zq_vi (x3)), (zq_vi (x4)), (.ref (b_3)), zz_no] [] s_1 (zq_rv K)))))))) : zq_Ex X 100 0 [(.ref (21)), (.ref (a1)), (.ref (a2)), (zq_vi (x3)), (zq_vi (x4)), zz_no, zz_no] [] s (zq_rv K) := by
  refine zq_run 2 (pc' := 2) (L' := [(.ref (21)), (.ref (a1)), (.ref (a2)), (zq_vi (x3)), (zq_vi (x4)), zz_no, zz_no]) (st' := [(zq_vi (x3)), (.ref (a2))]) (fun _ _ _ => rfl) ?_
  refine zq_call_r (i := .invokevirtual 99) (r := [1, 42, 1, 1, 8]) rfl rfl (fun h hp => zr_avv rfl (hp.obj ha2)) (of_decide_eq_false rfl) w (fun s_1 w => ?_) (fun b_3 s_1 hb_4 w => ?_)
  · replace w := w.1 rfl
    refine zq_run 3 (pc' := 12) (L' := [(.ref (21)), (.ref (a1)), (.ref (a2)), (zq_vi (x3)), (zq_vi (x4)), .null, zz_no]) (st' := []) (fun _ _ _ => rfl) ?_
    exact zq_vret rfl rfl (⟨rfl, w⟩)
  · replace w := w.2 b_3 rfl
    refine zq_run 4 (pc' := 15) (L' := [(.ref (21)), (.ref (a1)), (.ref (a2)), (zq_vi (x3)), (zq_vi (x4)), (.ref (b_3)), zz_no]) (st' := [(.ref (b_3))]) (fun _ _ _ => rfl) ?_
    refine zq_have (fun hR_5 => ?_)
    refine zq_getf_i (j := 0) (v := zq_i s_1 (b_3) (0)) rfl hb_4 rfl rfl rfl ?_
    refine zq_eq0 rfl (zq_bo_in (hR_5.2.2.2.1 _ 7 0 hb_4 rfl)) (fun hb_6 => ?_) (fun hb_6 => ?_)
    · rw [if_pos hb_6] at w
      exact w
    · rw [if_neg hb_6] at w
      refine zq_run 1 (pc' := 23) (L' := [(.ref (21)), (.ref (a1)), (.ref (a2)), (zq_vi (x3)), (zq_vi (x4)), (.ref (b_3)), zz_no]) (st' := [(zq_vi (x4))]) (fun _ _ _ => rfl) ?_
      refine zq_ne0 rfl (zq_bo_in hx4) (fun hb_7 => ?_) (fun hb_7 => ?_)
      · rw [if_neg hb_7] at w
        exact w
      · rw [if_pos hb_7] at w
        refine zq_run 1 (pc' := 28) (L' := [(.ref (21)), (.ref (a1)), (.ref (a2)), (zq_vi (x3)), (zq_vi (x4)), (.ref (b_3)), zz_no]) (st' := [(.ref (b_3))]) (fun _ _ _ => rfl) ?_
        refine zq_call_i (i := .invokevirtual 105) (r := [1, 83, 0, 1, 7]) rfl rfl (fun h hp => zr_avv rfl (hp.obj hb_4)) (of_decide_eq_false rfl) w (fun x_9 s_8 hx_10 w => ?_)
        refine zq_run 4 (pc' := 44) (L' := [(.ref (21)), (.ref (a1)), (.ref (a2)), (zq_vi (x3)), (zq_vi (x4)), (.ref (b_3)), (zq_vi (x_9))]) (st' := [(zq_vi (x4)), (.ref (a1))]) (fun _ _ _ => rfl) ?_
        refine zq_eq0 rfl (zq_bo_in hx4) (fun hb_11 => ?_) (fun hb_11 => ?_)
        · rw [if_pos hb_11] at w
          refine zq_run 1 (pc' := 57) (L' := [(.ref (21)), (.ref (a1)), (.ref (a2)), (zq_vi (x3)), (zq_vi (x4)), (.ref (b_3)), (zq_vi (x_9))]) (st' := [(zq_vi (0)), (.ref (a1))]) (fun _ _ _ => rfl) ?_
          refine zq_call_v (i := .invokevirtual 109) (r := [1, 101, 1, 1, 1]) rfl rfl (fun h hp => zr_avv rfl (hp.obj ha1)) (of_decide_eq_false rfl) w (fun s_12 w => ?_)
          refine zq_run 2 (pc' := 63) (L' := [(.ref (21)), (.ref (a1)), (.ref (a2)), (zq_vi (x3)), (zq_vi (x4)), (.ref (b_3)), (zq_vi (x_9))]) (st' := [(zq_vi (32)), (.ref (a1))]) (fun _ _ _ => rfl) ?_
          refine zq_call_v (i := .invokevirtual 39) (r := [1, 19, 1, 1, 1]) rfl rfl (fun h hp => zr_avv rfl (hp.obj ha1)) (of_decide_eq_false rfl) w (fun s_13 w => ?_)
          refine zq_run 2 (pc' := 69) (L' := [(.ref (21)), (.ref (a1)), (.ref (a2)), (zq_vi (x3)), (zq_vi (x4)), (.ref (b_3)), (zq_vi (x_9))]) (st' := [(zq_vi (x_9)), (.ref (a1))]) (fun _ _ _ => rfl) ?_
          refine zq_call_v (i := .invokevirtual 35) (r := [1, 24, 1, 1, 1]) rfl rfl (fun h hp => zr_avv rfl (hp.obj ha1)) (of_decide_eq_false rfl) w (fun s_14 w => ?_)
          refine zq_run 2 (pc' := 75) (L' := [(.ref (21)), (.ref (a1)), (.ref (a2)), (zq_vi (x3)), (zq_vi (x4)), (.ref (b_3)), (zq_vi (x_9))]) (st' := [(zq_vi (x4)), (.ref (a1))]) (fun _ _ _ => rfl) ?_
          refine zq_eq0 rfl (zq_bo_in hx4) (fun hb_15 => ?_) (fun hb_15 => ?_)
          · rw [if_pos hb_15] at w
            refine zq_run 1 (pc' := 85) (L' := [(.ref (21)), (.ref (a1)), (.ref (a2)), (zq_vi (x3)), (zq_vi (x4)), (.ref (b_3)), (zq_vi (x_9))]) (st' := [(.ref (1000000 + 20)), (.ref (a1))]) (fun _ _ _ => rfl) ?_
            refine zq_call_v (i := .invokevirtual 49) (r := [1, 23, 1, 1, 1]) rfl rfl (fun h hp => zr_avv rfl (hp.obj ha1)) (of_decide_eq_false rfl) w (fun s_16 w => ?_)
            exact zq_vret rfl rfl (⟨rfl, w⟩)
          · rw [if_neg hb_15] at w
            refine zq_run 2 (pc' := 85) (L' := [(.ref (21)), (.ref (a1)), (.ref (a2)), (zq_vi (x3)), (zq_vi (x4)), (.ref (b_3)), (zq_vi (x_9))]) (st' := [(.ref (1000000 + 19)), (.ref (a1))]) (fun _ _ _ => rfl) ?_
            refine zq_call_v (i := .invokevirtual 49) (r := [1, 23, 1, 1, 1]) rfl rfl (fun h hp => zr_avv rfl (hp.obj ha1)) (of_decide_eq_false rfl) w (fun s_17 w => ?_)
            exact zq_vret rfl rfl (⟨rfl, w⟩)
        · rw [if_neg hb_11] at w
          refine zq_run 1 (pc' := 48) (L' := [(.ref (21)), (.ref (a1)), (.ref (a2)), (zq_vi (x3)), (zq_vi (x4)), (.ref (b_3)), (zq_vi (x_9))]) (st' := [(.ref (21)), (.ref (a1))]) (fun _ _ _ => rfl) ?_
          refine zq_getf_f (b := 22) rfl zq_a21 rfl rfl ?_
          refine zq_run 1 (pc' := 52) (L' := [(.ref (21)), (.ref (a1)), (.ref (a2)), (zq_vi (x3)), (zq_vi (x4)), (.ref (b_3)), (zq_vi (x_9))]) (st' := [(zq_vi (x3)), (.ref (22)), (.ref (a1))]) (fun _ _ _ => rfl) ?_
          obtain ⟨g_18, w⟩ := w
          refine zq_have (fun hR_19 => ?_)
          refine zq_ald_i (v := zq_i s_8 (22) (x3)) rfl zq_a22 g_18.1 g_18.2 rfl ?_
          refine zq_run 1 (pc' := 57) (L' := [(.ref (21)), (.ref (a1)), (.ref (a2)), (zq_vi (x3)), (zq_vi (x4)), (.ref (b_3)), (zq_vi (x_9))]) (st' := [(zq_vi (zq_i s_8 (22) (x3))), (.ref (a1))]) (fun _ _ _ => rfl) ?_
          refine zq_call_v (i := .invokevirtual 109) (r := [1, 101, 1, 1, 1]) rfl rfl (fun h hp => zr_avv rfl (hp.obj ha1)) (of_decide_eq_false rfl) w (fun s_20 w => ?_)
          refine zq_run 2 (pc' := 63) (L' := [(.ref (21)), (.ref (a1)), (.ref (a2)), (zq_vi (x3)), (zq_vi (x4)), (.ref (b_3)), (zq_vi (x_9))]) (st' := [(zq_vi (32)), (.ref (a1))]) (fun _ _ _ => rfl) ?_
          refine zq_call_v (i := .invokevirtual 39) (r := [1, 19, 1, 1, 1]) rfl rfl (fun h hp => zr_avv rfl (hp.obj ha1)) (of_decide_eq_false rfl) w (fun s_21 w => ?_)
          refine zq_run 2 (pc' := 69) (L' := [(.ref (21)), (.ref (a1)), (.ref (a2)), (zq_vi (x3)), (zq_vi (x4)), (.ref (b_3)), (zq_vi (x_9))]) (st' := [(zq_vi (x_9)), (.ref (a1))]) (fun _ _ _ => rfl) ?_
          refine zq_call_v (i := .invokevirtual 35) (r := [1, 24, 1, 1, 1]) rfl rfl (fun h hp => zr_avv rfl (hp.obj ha1)) (of_decide_eq_false rfl) w (fun s_22 w => ?_)
          refine zq_run 2 (pc' := 75) (L' := [(.ref (21)), (.ref (a1)), (.ref (a2)), (zq_vi (x3)), (zq_vi (x4)), (.ref (b_3)), (zq_vi (x_9))]) (st' := [(zq_vi (x4)), (.ref (a1))]) (fun _ _ _ => rfl) ?_
          refine zq_eq0 rfl (zq_bo_in hx4) (fun hb_23 => ?_) (fun hb_23 => ?_)
          · rw [if_pos hb_23] at w
            refine zq_run 1 (pc' := 85) (L' := [(.ref (21)), (.ref (a1)), (.ref (a2)), (zq_vi (x3)), (zq_vi (x4)), (.ref (b_3)), (zq_vi (x_9))]) (st' := [(.ref (1000000 + 20)), (.ref (a1))]) (fun _ _ _ => rfl) ?_
            refine zq_call_v (i := .invokevirtual 49) (r := [1, 23, 1, 1, 1]) rfl rfl (fun h hp => zr_avv rfl (hp.obj ha1)) (of_decide_eq_false rfl) w (fun s_24 w => ?_)
            exact zq_vret rfl rfl (⟨rfl, w⟩)
          · rw [if_neg hb_23] at w
            refine zq_run 2 (pc' := 85) (L' := [(.ref (21)), (.ref (a1)), (.ref (a2)), (zq_vi (x3)), (zq_vi (x4)), (.ref (b_3)), (zq_vi (x_9))]) (st' := [(.ref (1000000 + 19)), (.ref (a1))]) (fun _ _ _ => rfl) ?_
            refine zq_call_v (i := .invokevirtual 49) (r := [1, 23, 1, 1, 1]) rfl rfl (fun h hp => zr_avv rfl (hp.obj ha1)) (of_decide_eq_false rfl) w (fun s_25 w => ?_)
            exact zq_vret rfl rfl (⟨rfl, w⟩)
/-- PaperObjects$Writer.addEntry at 34 -/
theorem zw_100_34 {X : Nat × (Nat → Int32)} {s : zq_S} {K : zq_S → Prop} {a1 : Nat} (ha1 : zq_o 1 a1) {a2 : Nat} (ha2 : zq_o 8 a2) {x3 : Int} (hx3 : zq_iv x3) {x4 : Int} (hx4 : zq_bo x4) {a5 : Nat} (ha5 : zq_o 7 a5) {v6 : Value} (hv6 : v6.category = 1) (w : (if x4 = 0 then (zq_Ex X 101 0 [(.ref (a1)), (zq_vi (0))] [] s (zq_rv fun s_3 => (zq_Ex X 19 0 [(.ref (a1)), (zq_vi (32))] [] s_3 (zq_rv fun s_4 => (zq_Ex X 24 0 [(.ref (a1)), (zq_vi (zq_i s (a5) (3))), zz_no, zz_no, zz_no, zz_no] [] s_4 (zq_rv fun s_5 => (if x4 = 0 then (zq_Ex X 23 0 [(.ref (a1)), (.ref (1000000 + 20)), zz_no] [] s_5 (zq_rv fun s_7 => K s_7)) else (zq_Ex X 23 0 [(.ref (a1)), (.ref (1000000 + 19)), zz_no] [] s_5 (zq_rv fun s_8 => K s_8))))))))) else (((0 : Int) ≤ x3 ∧ x3 < (10 : Int)) ∧ (zq_Ex X 101 0 [(.ref (a1)), (zq_vi (zq_i s (22) (x3)))] [] s (zq_rv fun s_10 => (zq_Ex X 19 0 [(.ref (a1)), (zq_vi (32))] [] s_10 (zq_rv fun s_11 => (zq_Ex X 24 0 [(.ref (a1)), (zq_vi (zq_i s (a5) (3))), zz_no, zz_no, zz_no, zz_no] [] s_11 (zq_rv fun s_12 => (if x4 = 0 then (zq_Ex X 23 0 [(.ref (a1)), (.ref (1000000 + 20)), zz_no] [] s_12 (zq_rv fun s_14 => K s_14)) else (zq_Ex X 23 0 [(.ref (a1)), (.ref (1000000 + 19)), zz_no] [] s_12 (zq_rv fun s_15 => K s_15)))))))))))) : zq_Ex X 100 34 [(.ref (21)), (.ref (a1)), (.ref (a2)), (zq_vi (x3)), (zq_vi (x4)), (.ref (a5)), v6] [] s (zq_rv K) := by
  refine zq_run 1 (pc' := 36) (L' := [(.ref (21)), (.ref (a1)), (.ref (a2)), (zq_vi (x3)), (zq_vi (x4)), (.ref (a5)), v6]) (st' := [(.ref (a5))]) (fun _ _ _ => rfl) ?_
  refine zq_have (fun hR_1 => ?_)
  refine zq_getf_i (j := 3) (v := zq_i s (a5) (3)) rfl ha5 rfl rfl rfl ?_
  refine zq_run 3 (pc' := 44) (L' := [(.ref (21)), (.ref (a1)), (.ref (a2)), (zq_vi (x3)), (zq_vi (x4)), (.ref (a5)), (zq_vi (zq_i s (a5) (3)))]) (st' := [(zq_vi (x4)), (.ref (a1))]) (fun _ _ _ => rfl) ?_
  refine zq_eq0 rfl (zq_bo_in hx4) (fun hb_2 => ?_) (fun hb_2 => ?_)
  · rw [if_pos hb_2] at w
    refine zq_run 1 (pc' := 57) (L' := [(.ref (21)), (.ref (a1)), (.ref (a2)), (zq_vi (x3)), (zq_vi (x4)), (.ref (a5)), (zq_vi (zq_i s (a5) (3)))]) (st' := [(zq_vi (0)), (.ref (a1))]) (fun _ _ _ => rfl) ?_
    refine zq_call_v (i := .invokevirtual 109) (r := [1, 101, 1, 1, 1]) rfl rfl (fun h hp => zr_avv rfl (hp.obj ha1)) (of_decide_eq_false rfl) w (fun s_3 w => ?_)
    refine zq_run 2 (pc' := 63) (L' := [(.ref (21)), (.ref (a1)), (.ref (a2)), (zq_vi (x3)), (zq_vi (x4)), (.ref (a5)), (zq_vi (zq_i s (a5) (3)))]) (st' := [(zq_vi (32)), (.ref (a1))]) (fun _ _ _ => rfl) ?_
    refine zq_call_v (i := .invokevirtual 39) (r := [1, 19, 1, 1, 1]) rfl rfl (fun h hp => zr_avv rfl (hp.obj ha1)) (of_decide_eq_false rfl) w (fun s_4 w => ?_)
    refine zq_run 2 (pc' := 69) (L' := [(.ref (21)), (.ref (a1)), (.ref (a2)), (zq_vi (x3)), (zq_vi (x4)), (.ref (a5)), (zq_vi (zq_i s (a5) (3)))]) (st' := [(zq_vi (zq_i s (a5) (3))), (.ref (a1))]) (fun _ _ _ => rfl) ?_
    refine zq_call_v (i := .invokevirtual 35) (r := [1, 24, 1, 1, 1]) rfl rfl (fun h hp => zr_avv rfl (hp.obj ha1)) (of_decide_eq_false rfl) w (fun s_5 w => ?_)
    refine zq_run 2 (pc' := 75) (L' := [(.ref (21)), (.ref (a1)), (.ref (a2)), (zq_vi (x3)), (zq_vi (x4)), (.ref (a5)), (zq_vi (zq_i s (a5) (3)))]) (st' := [(zq_vi (x4)), (.ref (a1))]) (fun _ _ _ => rfl) ?_
    refine zq_eq0 rfl (zq_bo_in hx4) (fun hb_6 => ?_) (fun hb_6 => ?_)
    · rw [if_pos hb_6] at w
      refine zq_run 1 (pc' := 85) (L' := [(.ref (21)), (.ref (a1)), (.ref (a2)), (zq_vi (x3)), (zq_vi (x4)), (.ref (a5)), (zq_vi (zq_i s (a5) (3)))]) (st' := [(.ref (1000000 + 20)), (.ref (a1))]) (fun _ _ _ => rfl) ?_
      refine zq_call_v (i := .invokevirtual 49) (r := [1, 23, 1, 1, 1]) rfl rfl (fun h hp => zr_avv rfl (hp.obj ha1)) (of_decide_eq_false rfl) w (fun s_7 w => ?_)
      exact zq_vret rfl rfl (⟨rfl, w⟩)
    · rw [if_neg hb_6] at w
      refine zq_run 2 (pc' := 85) (L' := [(.ref (21)), (.ref (a1)), (.ref (a2)), (zq_vi (x3)), (zq_vi (x4)), (.ref (a5)), (zq_vi (zq_i s (a5) (3)))]) (st' := [(.ref (1000000 + 19)), (.ref (a1))]) (fun _ _ _ => rfl) ?_
      refine zq_call_v (i := .invokevirtual 49) (r := [1, 23, 1, 1, 1]) rfl rfl (fun h hp => zr_avv rfl (hp.obj ha1)) (of_decide_eq_false rfl) w (fun s_8 w => ?_)
      exact zq_vret rfl rfl (⟨rfl, w⟩)
  · rw [if_neg hb_2] at w
    refine zq_run 1 (pc' := 48) (L' := [(.ref (21)), (.ref (a1)), (.ref (a2)), (zq_vi (x3)), (zq_vi (x4)), (.ref (a5)), (zq_vi (zq_i s (a5) (3)))]) (st' := [(.ref (21)), (.ref (a1))]) (fun _ _ _ => rfl) ?_
    refine zq_getf_f (b := 22) rfl zq_a21 rfl rfl ?_
    refine zq_run 1 (pc' := 52) (L' := [(.ref (21)), (.ref (a1)), (.ref (a2)), (zq_vi (x3)), (zq_vi (x4)), (.ref (a5)), (zq_vi (zq_i s (a5) (3)))]) (st' := [(zq_vi (x3)), (.ref (22)), (.ref (a1))]) (fun _ _ _ => rfl) ?_
    obtain ⟨g_9, w⟩ := w
    refine zq_ald_i (v := zq_i s (22) (x3)) rfl zq_a22 g_9.1 g_9.2 rfl ?_
    refine zq_run 1 (pc' := 57) (L' := [(.ref (21)), (.ref (a1)), (.ref (a2)), (zq_vi (x3)), (zq_vi (x4)), (.ref (a5)), (zq_vi (zq_i s (a5) (3)))]) (st' := [(zq_vi (zq_i s (22) (x3))), (.ref (a1))]) (fun _ _ _ => rfl) ?_
    refine zq_call_v (i := .invokevirtual 109) (r := [1, 101, 1, 1, 1]) rfl rfl (fun h hp => zr_avv rfl (hp.obj ha1)) (of_decide_eq_false rfl) w (fun s_10 w => ?_)
    refine zq_run 2 (pc' := 63) (L' := [(.ref (21)), (.ref (a1)), (.ref (a2)), (zq_vi (x3)), (zq_vi (x4)), (.ref (a5)), (zq_vi (zq_i s (a5) (3)))]) (st' := [(zq_vi (32)), (.ref (a1))]) (fun _ _ _ => rfl) ?_
    refine zq_call_v (i := .invokevirtual 39) (r := [1, 19, 1, 1, 1]) rfl rfl (fun h hp => zr_avv rfl (hp.obj ha1)) (of_decide_eq_false rfl) w (fun s_11 w => ?_)
    refine zq_run 2 (pc' := 69) (L' := [(.ref (21)), (.ref (a1)), (.ref (a2)), (zq_vi (x3)), (zq_vi (x4)), (.ref (a5)), (zq_vi (zq_i s (a5) (3)))]) (st' := [(zq_vi (zq_i s (a5) (3))), (.ref (a1))]) (fun _ _ _ => rfl) ?_
    refine zq_call_v (i := .invokevirtual 35) (r := [1, 24, 1, 1, 1]) rfl rfl (fun h hp => zr_avv rfl (hp.obj ha1)) (of_decide_eq_false rfl) w (fun s_12 w => ?_)
    refine zq_run 2 (pc' := 75) (L' := [(.ref (21)), (.ref (a1)), (.ref (a2)), (zq_vi (x3)), (zq_vi (x4)), (.ref (a5)), (zq_vi (zq_i s (a5) (3)))]) (st' := [(zq_vi (x4)), (.ref (a1))]) (fun _ _ _ => rfl) ?_
    refine zq_eq0 rfl (zq_bo_in hx4) (fun hb_13 => ?_) (fun hb_13 => ?_)
    · rw [if_pos hb_13] at w
      refine zq_run 1 (pc' := 85) (L' := [(.ref (21)), (.ref (a1)), (.ref (a2)), (zq_vi (x3)), (zq_vi (x4)), (.ref (a5)), (zq_vi (zq_i s (a5) (3)))]) (st' := [(.ref (1000000 + 20)), (.ref (a1))]) (fun _ _ _ => rfl) ?_
      refine zq_call_v (i := .invokevirtual 49) (r := [1, 23, 1, 1, 1]) rfl rfl (fun h hp => zr_avv rfl (hp.obj ha1)) (of_decide_eq_false rfl) w (fun s_14 w => ?_)
      exact zq_vret rfl rfl (⟨rfl, w⟩)
    · rw [if_neg hb_13] at w
      refine zq_run 2 (pc' := 85) (L' := [(.ref (21)), (.ref (a1)), (.ref (a2)), (zq_vi (x3)), (zq_vi (x4)), (.ref (a5)), (zq_vi (zq_i s (a5) (3)))]) (st' := [(.ref (1000000 + 19)), (.ref (a1))]) (fun _ _ _ => rfl) ?_
      refine zq_call_v (i := .invokevirtual 49) (r := [1, 23, 1, 1, 1]) rfl rfl (fun h hp => zr_avv rfl (hp.obj ha1)) (of_decide_eq_false rfl) w (fun s_15 w => ?_)
      exact zq_vret rfl rfl (⟨rfl, w⟩)
/-- PaperObjects$Text.addThreeDigits(I)V -/
theorem zw_101 {X : Nat × (Nat → Int32)} {s : zq_S} {K : zq_S → Prop} {a0 : Nat} (ha0 : zq_o 1 a0) {x1 : Int} (hx1 : zq_iv x1) (w : (zq_Ex X 19 0 [(.ref (a0)), (zq_vi (48 + (zq_rem (zq_div (x1) (100)) (10))))] [] s (zq_rv fun s_1 => (zq_Ex X 19 0 [(.ref (a0)), (zq_vi (48 + (zq_rem (zq_div (x1) (10)) (10))))] [] s_1 (zq_rv fun s_2 => (zq_Ex X 19 0 [(.ref (a0)), (zq_vi (48 + (zq_rem (x1) (10))))] [] s_2 (zq_rv fun s_3 => K s_3))))))) : zq_Ex X 101 0 [(.ref (a0)), (zq_vi (x1))] [] s (zq_rv K) := by
  refine zq_run 4 (pc' := 6) (L' := [(.ref (a0)), (zq_vi (x1))]) (st' := [(zq_vi (100)), (zq_vi (x1)), (zq_vi (48)), (.ref (a0))]) (fun _ _ _ => rfl) ?_
  refine zq_idiv rfl (of_decide_eq_true rfl) (of_decide_eq_true rfl) ?_
  refine zq_run 1 (pc' := 9) (L' := [(.ref (a0)), (zq_vi (x1))]) (st' := [(zq_vi (10)), (zq_vi (zq_div (x1) (100))), (zq_vi (48)), (.ref (a0))]) (fun _ _ _ => rfl) ?_
  refine zq_irem rfl (of_decide_eq_true rfl) (of_decide_eq_true rfl) ?_
  refine zq_iadd rfl ?_
  refine zq_call_v (i := .invokevirtual 23) (r := [1, 19, 1, 1, 1]) rfl rfl (fun h hp => zr_avv rfl (hp.obj ha0)) (of_decide_eq_false rfl) w (fun s_1 w => ?_)
  refine zq_run 4 (pc' := 20) (L' := [(.ref (a0)), (zq_vi (x1))]) (st' := [(zq_vi (10)), (zq_vi (x1)), (zq_vi (48)), (.ref (a0))]) (fun _ _ _ => rfl) ?_
  refine zq_idiv rfl (of_decide_eq_true rfl) (of_decide_eq_true rfl) ?_
  refine zq_run 1 (pc' := 23) (L' := [(.ref (a0)), (zq_vi (x1))]) (st' := [(zq_vi (10)), (zq_vi (zq_div (x1) (10))), (zq_vi (48)), (.ref (a0))]) (fun _ _ _ => rfl) ?_
  refine zq_irem rfl (of_decide_eq_true rfl) (of_decide_eq_true rfl) ?_
  refine zq_iadd rfl ?_
  refine zq_call_v (i := .invokevirtual 23) (r := [1, 19, 1, 1, 1]) rfl rfl (fun h hp => zr_avv rfl (hp.obj ha0)) (of_decide_eq_false rfl) w (fun s_2 w => ?_)
  refine zq_run 4 (pc' := 34) (L' := [(.ref (a0)), (zq_vi (x1))]) (st' := [(zq_vi (10)), (zq_vi (x1)), (zq_vi (48)), (.ref (a0))]) (fun _ _ _ => rfl) ?_
  refine zq_irem rfl (of_decide_eq_true rfl) (of_decide_eq_true rfl) ?_
  refine zq_iadd rfl ?_
  refine zq_call_v (i := .invokevirtual 23) (r := [1, 19, 1, 1, 1]) rfl rfl (fun h hp => zr_avv rfl (hp.obj ha0)) (of_decide_eq_false rfl) w (fun s_3 w => ?_)
  exact zq_vret rfl rfl (⟨rfl, w⟩)
/-- PaperObjects$Writer.addTrailer(LPaperObjects$Text;LPaperObjects$Table;I)V -/
theorem zw_102 {X : Nat × (Nat → Int32)} {s : zq_S} {K : zq_S → Prop} {a1 : Nat} (ha1 : zq_o 1 a1) {a2 : Nat} (ha2 : zq_o 8 a2) {x3 : Int} (hx3 : zq_iv x3) (w : (zq_Ex X 23 0 [(.ref (a1)), (.ref (1000000 + 21)), zz_no] [] s (zq_rv fun s_1 => (zq_Ex X 27 0 [(.ref (a1)), (zq_vi (zq_i s_1 (a2) (2))), (zq_vi (zq_i s_1 (a2) (3)))] [] s_1 (zq_rv fun s_3 => (if x3 = (-1) then (zq_Ex X 23 0 [(.ref (a1)), (.ref (1000000 + 23)), zz_no] [] s_3 (zq_rv fun s_5 => K s_5)) else (zq_Ex X 23 0 [(.ref (a1)), (.ref (1000000 + 22)), zz_no] [] s_3 (zq_rv fun s_6 => (zq_Ex X 24 0 [(.ref (a1)), (zq_vi (x3)), zz_no, zz_no, zz_no, zz_no] [] s_6 (zq_rv fun s_7 => (zq_Ex X 23 0 [(.ref (a1)), (.ref (1000000 + 23)), zz_no] [] s_7 (zq_rv fun s_8 => K s_8)))))))))))) : zq_Ex X 102 0 [(.ref (21)), (.ref (a1)), (.ref (a2)), (zq_vi (x3))] [] s (zq_rv K) := by
  refine zq_run 2 (pc' := 3) (L' := [(.ref (21)), (.ref (a1)), (.ref (a2)), (zq_vi (x3))]) (st' := [(.ref (1000000 + 21)), (.ref (a1))]) (fun _ _ _ => rfl) ?_
  refine zq_call_v (i := .invokevirtual 49) (r := [1, 23, 1, 1, 1]) rfl rfl (fun h hp => zr_avv rfl (hp.obj ha1)) (of_decide_eq_false rfl) w (fun s_1 w => ?_)
  refine zq_run 2 (pc' := 8) (L' := [(.ref (21)), (.ref (a1)), (.ref (a2)), (zq_vi (x3))]) (st' := [(.ref (a2)), (.ref (a1))]) (fun _ _ _ => rfl) ?_
  refine zq_have (fun hR_2 => ?_)
  refine zq_getf_i (j := 2) (v := zq_i s_1 (a2) (2)) rfl ha2 rfl rfl rfl ?_
  refine zq_run 1 (pc' := 12) (L' := [(.ref (21)), (.ref (a1)), (.ref (a2)), (zq_vi (x3))]) (st' := [(.ref (a2)), (zq_vi (zq_i s_1 (a2) (2))), (.ref (a1))]) (fun _ _ _ => rfl) ?_
  refine zq_getf_i (j := 3) (v := zq_i s_1 (a2) (3)) rfl ha2 rfl rfl rfl ?_
  refine zq_call_v (i := .invokevirtual 124) (r := [1, 27, 2, 1, 1]) rfl rfl (fun h hp => zr_avv rfl (hp.obj ha1)) (of_decide_eq_false rfl) w (fun s_3 w => ?_)
  refine zq_run 2 (pc' := 20) (L' := [(.ref (21)), (.ref (a1)), (.ref (a2)), (zq_vi (x3))]) (st' := [(zq_vi ((-1))), (zq_vi (x3))]) (fun _ _ _ => rfl) ?_
  refine zq_eq rfl hx3 (of_decide_eq_true rfl) (fun hb_4 => ?_) (fun hb_4 => ?_)
  · rw [if_pos hb_4] at w
    refine zq_run 2 (pc' := 37) (L' := [(.ref (21)), (.ref (a1)), (.ref (a2)), (zq_vi (x3))]) (st' := [(.ref (1000000 + 23)), (.ref (a1))]) (fun _ _ _ => rfl) ?_
    refine zq_call_v (i := .invokevirtual 49) (r := [1, 23, 1, 1, 1]) rfl rfl (fun h hp => zr_avv rfl (hp.obj ha1)) (of_decide_eq_false rfl) w (fun s_5 w => ?_)
    exact zq_vret rfl rfl (⟨rfl, w⟩)
  · rw [if_neg hb_4] at w
    refine zq_run 2 (pc' := 26) (L' := [(.ref (21)), (.ref (a1)), (.ref (a2)), (zq_vi (x3))]) (st' := [(.ref (1000000 + 22)), (.ref (a1))]) (fun _ _ _ => rfl) ?_
    refine zq_call_v (i := .invokevirtual 49) (r := [1, 23, 1, 1, 1]) rfl rfl (fun h hp => zr_avv rfl (hp.obj ha1)) (of_decide_eq_false rfl) w (fun s_6 w => ?_)
    refine zq_run 2 (pc' := 31) (L' := [(.ref (21)), (.ref (a1)), (.ref (a2)), (zq_vi (x3))]) (st' := [(zq_vi (x3)), (.ref (a1))]) (fun _ _ _ => rfl) ?_
    refine zq_call_v (i := .invokevirtual 35) (r := [1, 24, 1, 1, 1]) rfl rfl (fun h hp => zr_avv rfl (hp.obj ha1)) (of_decide_eq_false rfl) w (fun s_7 w => ?_)
    refine zq_run 2 (pc' := 37) (L' := [(.ref (21)), (.ref (a1)), (.ref (a2)), (zq_vi (x3))]) (st' := [(.ref (1000000 + 23)), (.ref (a1))]) (fun _ _ _ => rfl) ?_
    refine zq_call_v (i := .invokevirtual 49) (r := [1, 23, 1, 1, 1]) rfl rfl (fun h hp => zr_avv rfl (hp.obj ha1)) (of_decide_eq_false rfl) w (fun s_8 w => ?_)
    exact zq_vret rfl rfl (⟨rfl, w⟩)
/-- PaperObjects$Table.releaseAllBut(I)V -/
theorem zw_103 {X : Nat × (Nat → Int32)} {s : zq_S} {K : zq_S → Prop} {a0 : Nat} (ha0 : zq_o 8 a0) {x1 : Int} (hx1 : zq_iv x1) (w : zq_Ex X 103 2 [(.ref (a0)), (zq_vi (x1)), (zq_vi (0))] [] s (zq_rv K)) : zq_Ex X 103 0 [(.ref (a0)), (zq_vi (x1)), zz_no] [] s (zq_rv K) := by
  refine zq_run 2 (pc' := 2) (L' := [(.ref (a0)), (zq_vi (x1)), (zq_vi (0))]) (st' := []) (fun _ _ _ => rfl) ?_
  exact w
/-- PaperObjects$Table.releaseAllBut at 2 -/
theorem zw_103_2 {X : Nat × (Nat → Int32)} {s : zq_S} {K : zq_S → Prop} {a0 : Nat} (ha0 : zq_o 8 a0) {x1 : Int} (hx1 : zq_iv x1) {x2 : Int} (hx2 : zq_iv x2) (w : (if x2 < 9 then (((0 : Int) ≤ x2 ∧ x2 < 9) ∧ (if zq_i s (a0 + 1 + 8 + 10 * (x2).toNat) (0) = 0 then zq_Ex X 103 2 [(.ref (a0)), (zq_vi (x1)), (zq_vi (x2 + 1))] [] s (zq_rv K) else (zq_Ex X 35 0 [(zq_vi (x1)), (zq_vi (x2 + 1))] [] s (zq_rp zq_bo fun x_6 s_5 => (if x_6 = 0 then (((0 : Int) ≤ x2 ∧ x2 < 9) ∧ (zq_Ex X 82 0 [(.ref (a0 + 1 + 8 + 10 * (x2).toNat))] [] s_5 (zq_rv fun s_10 => zq_Ex X 103 2 [(.ref (a0)), (zq_vi (x1)), (zq_vi (x2 + 1))] [] s_10 (zq_rv K)))) else zq_Ex X 103 2 [(.ref (a0)), (zq_vi (x1)), (zq_vi (x2 + 1))] [] s_5 (zq_rv K)))))) else K s)) : zq_Ex X 103 2 [(.ref (a0)), (zq_vi (x1)), (zq_vi (x2))] [] s (zq_rv K) := by
  refine zq_run 2 (pc' := 5) (L' := [(.ref (a0)), (zq_vi (x1)), (zq_vi (x2))]) (st' := [(zq_vi (9)), (zq_vi (x2))]) (fun _ _ _ => rfl) ?_
  refine zq_ge rfl hx2 (of_decide_eq_true rfl) (fun hb_1 => ?_) (fun hb_1 => ?_)
  · rw [if_neg hb_1] at w
    exact zq_vret rfl rfl (⟨rfl, w⟩)
  · rw [if_pos hb_1] at w
    refine zq_run 1 (pc' := 9) (L' := [(.ref (a0)), (zq_vi (x1)), (zq_vi (x2))]) (st' := [(.ref (a0))]) (fun _ _ _ => rfl) ?_
    refine zq_getf_f (b := a0 + 1) rfl ha0 rfl rfl ?_
    refine zq_run 1 (pc' := 13) (L' := [(.ref (a0)), (zq_vi (x1)), (zq_vi (x2))]) (st' := [(zq_vi (x2)), (.ref (a0 + 1))]) (fun _ _ _ => rfl) ?_
    obtain ⟨g_2, w⟩ := w
    refine zq_ald_s rfl (zq_L8 ha0).1 g_2.1 g_2.2 ?_
    refine zq_have (fun hR_3 => ?_)
    refine zq_getf_i (j := 0) (v := zq_i s (a0 + 1 + 8 + 10 * (x2).toNat) (0)) rfl (zq_L8s ha0 g_2.1 g_2.2) rfl rfl rfl ?_
    refine zq_eq0 rfl (zq_bo_in (hR_3.2.2.2.1 _ 7 0 (zq_L8s ha0 g_2.1 g_2.2) rfl)) (fun hb_4 => ?_) (fun hb_4 => ?_)
    · rw [if_pos hb_4] at w
      refine zq_iinc (L' := [(.ref (a0)), (zq_vi (x1)), (zq_vi (x2 + 1))]) rfl rfl rfl ?_
      refine zq_run 1 (pc' := 2) (L' := [(.ref (a0)), (zq_vi (x1)), (zq_vi (x2 + 1))]) (st' := []) (fun _ _ _ => rfl) ?_
      exact w
    · rw [if_neg hb_4] at w
      refine zq_run 3 (pc' := 23) (L' := [(.ref (a0)), (zq_vi (x1)), (zq_vi (x2))]) (st' := [(zq_vi (1)), (zq_vi (x2)), (zq_vi (x1))]) (fun _ _ _ => rfl) ?_
      refine zq_iadd rfl ?_
      refine zq_call_i (i := .invokestatic 61) (r := [1, 35, 2, 0, 0]) rfl rfl (fun _ _ => rfl) (of_decide_eq_false rfl) w (fun x_6 s_5 hx_7 w => ?_)
      refine zq_ne0 rfl (zq_bo_in hx_7) (fun hb_8 => ?_) (fun hb_8 => ?_)
      · rw [if_neg hb_8] at w
        refine zq_iinc (L' := [(.ref (a0)), (zq_vi (x1)), (zq_vi (x2 + 1))]) rfl rfl rfl ?_
        refine zq_run 1 (pc' := 2) (L' := [(.ref (a0)), (zq_vi (x1)), (zq_vi (x2 + 1))]) (st' := []) (fun _ _ _ => rfl) ?_
        exact w
      · rw [if_pos hb_8] at w
        refine zq_run 1 (pc' := 31) (L' := [(.ref (a0)), (zq_vi (x1)), (zq_vi (x2))]) (st' := [(.ref (a0))]) (fun _ _ _ => rfl) ?_
        refine zq_getf_f (b := a0 + 1) rfl ha0 rfl rfl ?_
        refine zq_run 1 (pc' := 35) (L' := [(.ref (a0)), (zq_vi (x1)), (zq_vi (x2))]) (st' := [(zq_vi (x2)), (.ref (a0 + 1))]) (fun _ _ _ => rfl) ?_
        obtain ⟨g_9, w⟩ := w
        refine zq_ald_s rfl (zq_L8 ha0).1 g_9.1 g_9.2 ?_
        refine zq_call_v (i := .invokevirtual 124) (r := [1, 82, 0, 1, 7]) rfl rfl (fun h hp => zr_avv rfl (hp.obj (zq_L8s ha0 g_9.1 g_9.2))) (of_decide_eq_false rfl) w (fun s_10 w => ?_)
        refine zq_iinc (L' := [(.ref (a0)), (zq_vi (x1)), (zq_vi (x2 + 1))]) rfl rfl rfl ?_
        refine zq_run 1 (pc' := 2) (L' := [(.ref (a0)), (zq_vi (x1)), (zq_vi (x2 + 1))]) (st' := []) (fun _ _ _ => rfl) ?_
        exact w
/-- PaperObjects$Table.forgetChanges()V -/
theorem zw_104 {X : Nat × (Nat → Int32)} {s : zq_S} {K : zq_S → Prop} {a0 : Nat} (ha0 : zq_o 8 a0) (w : zq_Ex X 104 2 [(.ref (a0)), (zq_vi (0))] [] s (zq_rv K)) : zq_Ex X 104 0 [(.ref (a0)), zz_no] [] s (zq_rv K) := by
  refine zq_run 2 (pc' := 2) (L' := [(.ref (a0)), (zq_vi (0))]) (st' := []) (fun _ _ _ => rfl) ?_
  exact w
/-- PaperObjects$Table.forgetChanges at 2 -/
theorem zw_104_2 {X : Nat × (Nat → Int32)} {s : zq_S} {K : zq_S → Prop} {a0 : Nat} (ha0 : zq_o 8 a0) {x1 : Int} (hx1 : zq_iv x1) (w : (if x1 < 9 then (((0 : Int) ≤ x1 ∧ x1 < 9) ∧ zq_Ex X 104 2 [(.ref (a0)), (zq_vi (x1 + 1))] [] (zq_si s (a0 + 1 + 8 + 10 * (x1).toNat) (1) (0)) (zq_rv K)) else K s)) : zq_Ex X 104 2 [(.ref (a0)), (zq_vi (x1))] [] s (zq_rv K) := by
  refine zq_run 2 (pc' := 5) (L' := [(.ref (a0)), (zq_vi (x1))]) (st' := [(zq_vi (9)), (zq_vi (x1))]) (fun _ _ _ => rfl) ?_
  refine zq_ge rfl hx1 (of_decide_eq_true rfl) (fun hb_1 => ?_) (fun hb_1 => ?_)
  · rw [if_neg hb_1] at w
    exact zq_vret rfl rfl (⟨rfl, w⟩)
  · rw [if_pos hb_1] at w
    refine zq_run 1 (pc' := 9) (L' := [(.ref (a0)), (zq_vi (x1))]) (st' := [(.ref (a0))]) (fun _ _ _ => rfl) ?_
    refine zq_getf_f (b := a0 + 1) rfl ha0 rfl rfl ?_
    refine zq_run 1 (pc' := 13) (L' := [(.ref (a0)), (zq_vi (x1))]) (st' := [(zq_vi (x1)), (.ref (a0 + 1))]) (fun _ _ _ => rfl) ?_
    obtain ⟨g_2, w⟩ := w
    refine zq_ald_s rfl (zq_L8 ha0).1 g_2.1 g_2.2 ?_
    refine zq_run 1 (pc' := 15) (L' := [(.ref (a0)), (zq_vi (x1))]) (st' := [(zq_vi (0)), (.ref (a0 + 1 + 8 + 10 * (x1).toNat))]) (fun _ _ _ => rfl) ?_
    refine zq_putf_b (j := 1) rfl (zq_L8s ha0 g_2.1 g_2.2) rfl rfl rfl (of_decide_eq_true rfl) ?_
    refine zq_iinc (L' := [(.ref (a0)), (zq_vi (x1 + 1))]) rfl rfl rfl ?_
    refine zq_run 1 (pc' := 2) (L' := [(.ref (a0)), (zq_vi (x1 + 1))]) (st' := []) (fun _ _ _ => rfl) ?_
    exact w
/-- PaperObjects.exchangeFiles()V -/
theorem zw_105 {X : Nat × (Nat → Int32)} {s : zq_S} {K : zq_S → Prop}  (w : (∃ b_2 : Nat, zq_r s (0) 6 = some b_2 ∧ (∃ b_4 : Nat, zq_r s (0) 7 = some b_4 ∧ K (zq_sr (zq_sr s (0) (6) (some (b_4))) (0) (7) (some (b_2)))))) : zq_Ex X 105 0 [(.ref (0)), zz_no] [] s (zq_rv K) := by
  refine zq_run 1 (pc' := 1) (L' := [(.ref (0)), zz_no]) (st' := [(.ref (0))]) (fun _ _ _ => rfl) ?_
  refine zq_have (fun hR_1 => ?_)
  obtain ⟨b_2, hb_3, w⟩ := w
  refine zq_getf_rs (j := 6) rfl zq_a0 rfl rfl hb_3 ?_
  refine zq_run 3 (pc' := 7) (L' := [(.ref (0)), (.ref (b_2))]) (st' := [(.ref (0)), (.ref (0))]) (fun _ _ _ => rfl) ?_
  obtain ⟨b_4, hb_5, w⟩ := w
  refine zq_getf_rs (j := 7) rfl zq_a0 rfl rfl hb_5 ?_
  refine zq_putf_r (j := 6) (v := some (b_4)) (cj := 1) rfl zq_a0 rfl rfl rfl (fun b hb => by cases hb; exact (zq_fcls hR_1 (k := 7) (j := 7) (cj := 1) zq_a0 rfl rfl hb_5)) ?_
  refine zq_run 2 (pc' := 15) (L' := [(.ref (0)), (.ref (b_2))]) (st' := [(.ref (b_2)), (.ref (0))]) (fun _ _ _ => rfl) ?_
  refine zq_putf_r (j := 7) (v := some (b_2)) (cj := 1) rfl zq_a0 rfl rfl rfl (fun b hb => by cases hb; exact (zq_fcls hR_1 (k := 6) (j := 6) (cj := 1) zq_a0 rfl rfl hb_3)) ?_
  exact zq_vret rfl rfl (⟨rfl, w⟩)
/-- PaperObjects.load()I -/
theorem zw_106 {X : Nat × (Nat → Int32)} {s : zq_S} {K : Int → zq_S → Prop} {T : Nat → zq_S → Prop}  (w : (∃ b_2 : Nat, zq_r s (0) 6 = some b_2 ∧ (∃ b_4 : Nat, zq_r s (0) 9 = some b_4 ∧ (zq_Ex X 107 0 [(.ref (7)), (.ref (b_2)), (.ref (b_4)), zz_no, zz_no, zz_no, zz_no] [] s (zq_rp zq_bo fun x_7 s_6 => (if x_7 = 0 then (if x_7 = 0 then (zq_n (zq_si (zq_si s_6 (0) (12) (zq_i s_6 (7) (9))) (0) (11) (zq_i s_6 (7) (10))) < 1000 ∧ T 10 (zq_sx (zq_si (zq_si s_6 (0) (12) (zq_i s_6 (7) (9))) (0) (11) (zq_i s_6 (7) (10))) 10)) else (∃ b_12 : Nat, zq_r s_6 (0) 8 = some b_12 ∧ (∃ b_14 : Nat, zq_r s_6 (0) 9 = some b_14 ∧ (zq_Ex X 71 0 [(.ref (3))] [] (zq_si (zq_sr (zq_sr s_6 (0) (8) (some (b_14))) (0) (9) (some (b_12))) (0) (11) ((-1))) (zq_rv fun s_16 => (∃ b_18 : Nat, zq_r s_16 (0) 8 = some b_18 ∧ (zq_Ex X 89 0 [(.ref (b_18)), zz_no, zz_no] [] s_16 (zq_rp zq_iv fun x_21 s_20 => (zq_Ex X 37 0 [(zq_vi (x_21))] [] s_20 (zq_rp zq_iv fun x_24 s_23 => K (x_24) s_23)))))))))) else (zq_Ex X 120 0 [(.ref (7)), zz_no, zz_no] [] s_6 (zq_rv fun s_28 => (zq_Ex X 122 0 [(.ref (7)), zz_no, zz_no] [] s_28 (zq_rp zq_bo fun x_30 s_29 => (if x_30 = 0 then (zq_n (zq_si (zq_si s_29 (0) (12) (zq_i s_29 (7) (9))) (0) (11) (zq_i s_29 (7) (10))) < 1000 ∧ T 10 (zq_sx (zq_si (zq_si s_29 (0) (12) (zq_i s_29 (7) (9))) (0) (11) (zq_i s_29 (7) (10))) 10)) else (∃ b_34 : Nat, zq_r s_29 (0) 8 = some b_34 ∧ (∃ b_36 : Nat, zq_r s_29 (0) 9 = some b_36 ∧ (zq_Ex X 71 0 [(.ref (3))] [] (zq_si (zq_sr (zq_sr s_29 (0) (8) (some (b_36))) (0) (9) (some (b_34))) (0) (11) ((-1))) (zq_rv fun s_38 => (∃ b_40 : Nat, zq_r s_38 (0) 8 = some b_40 ∧ (zq_Ex X 89 0 [(.ref (b_40)), zz_no, zz_no] [] s_38 (zq_rp zq_iv fun x_43 s_42 => (zq_Ex X 37 0 [(zq_vi (x_43))] [] s_42 (zq_rp zq_iv fun x_46 s_45 => K (x_46) s_45)))))))))))))))))))) : zq_Ex X 106 0 [(.ref (0)), zz_no, zz_no] [] s (zq_rx (zq_rp zq_iv K) T) := by
  refine zq_run 1 (pc' := 1) (L' := [(.ref (0)), zz_no, zz_no]) (st' := [(.ref (0))]) (fun _ _ _ => rfl) ?_
  refine zq_getf_f (b := 7) rfl zq_a0 rfl rfl ?_
  refine zq_run 1 (pc' := 5) (L' := [(.ref (0)), zz_no, zz_no]) (st' := [(.ref (0)), (.ref (7))]) (fun _ _ _ => rfl) ?_
  refine zq_have (fun hR_1 => ?_)
  obtain ⟨b_2, hb_3, w⟩ := w
  refine zq_getf_rs (j := 6) rfl zq_a0 rfl rfl hb_3 ?_
  refine zq_run 1 (pc' := 9) (L' := [(.ref (0)), zz_no, zz_no]) (st' := [(.ref (0)), (.ref (b_2)), (.ref (7))]) (fun _ _ _ => rfl) ?_
  obtain ⟨b_4, hb_5, w⟩ := w
  refine zq_getf_rs (j := 9) rfl zq_a0 rfl rfl hb_5 ?_
  refine zq_call_i (i := .invokevirtual 208) (r := [1, 107, 2, 1, 5]) rfl rfl (fun h hp => zr_avv rfl (hp.obj zq_a7)) (of_decide_eq_false rfl) w (fun x_7 s_6 hx_8 w => ?_)
  refine zq_run 2 (pc' := 17) (L' := [(.ref (0)), (zq_vi (x_7)), zz_no]) (st' := [(zq_vi (x_7))]) (fun _ _ _ => rfl) ?_
  refine zq_eq0 rfl (zq_bo_in hx_8) (fun hb_9 => ?_) (fun hb_9 => ?_)
  · rw [if_pos hb_9] at w
    refine zq_run 1 (pc' := 36) (L' := [(.ref (0)), (zq_vi (x_7)), zz_no]) (st' := [(zq_vi (x_7))]) (fun _ _ _ => rfl) ?_
    refine zq_ne0 rfl (zq_bo_in hx_8) (fun hb_10 => ?_) (fun hb_10 => ?_)
    · rw [if_neg hb_10] at w
      refine zq_run 1 (pc' := 70) (L' := [(.ref (0)), (zq_vi (x_7)), zz_no]) (st' := [(.ref (0))]) (fun _ _ _ => rfl) ?_
      refine zq_have (fun hR_11 => ?_)
      obtain ⟨b_12, hb_13, w⟩ := w
      refine zq_getf_rs (j := 8) rfl zq_a0 rfl rfl hb_13 ?_
      refine zq_run 3 (pc' := 76) (L' := [(.ref (0)), (zq_vi (x_7)), (.ref (b_12))]) (st' := [(.ref (0)), (.ref (0))]) (fun _ _ _ => rfl) ?_
      obtain ⟨b_14, hb_15, w⟩ := w
      refine zq_getf_rs (j := 9) rfl zq_a0 rfl rfl hb_15 ?_
      refine zq_putf_r (j := 8) (v := some (b_14)) (cj := 8) rfl zq_a0 rfl rfl rfl (fun b hb => by cases hb; exact (zq_fcls hR_11 (k := 9) (j := 9) (cj := 8) zq_a0 rfl rfl hb_15)) ?_
      refine zq_run 2 (pc' := 84) (L' := [(.ref (0)), (zq_vi (x_7)), (.ref (b_12))]) (st' := [(.ref (b_12)), (.ref (0))]) (fun _ _ _ => rfl) ?_
      refine zq_putf_r (j := 9) (v := some (b_12)) (cj := 8) rfl zq_a0 rfl rfl rfl (fun b hb => by cases hb; exact (zq_fcls hR_11 (k := 8) (j := 8) (cj := 8) zq_a0 rfl rfl hb_13)) ?_
      refine zq_run 2 (pc' := 89) (L' := [(.ref (0)), (zq_vi (x_7)), (.ref (b_12))]) (st' := [(zq_vi ((-1))), (.ref (0))]) (fun _ _ _ => rfl) ?_
      refine zq_putf_i (j := 11) rfl zq_a0 rfl rfl rfl (of_decide_eq_true rfl) ?_
      refine zq_run 1 (pc' := 93) (L' := [(.ref (0)), (zq_vi (x_7)), (.ref (b_12))]) (st' := [(.ref (0))]) (fun _ _ _ => rfl) ?_
      refine zq_getf_f (b := 3) rfl zq_a0 rfl rfl ?_
      refine zq_call_v (i := .invokevirtual 134) (r := [1, 71, 0, 1, 2]) rfl rfl (fun h hp => zr_avv rfl (hp.obj zq_a3)) (of_decide_eq_false rfl) w (fun s_16 w => ?_)
      refine zq_run 1 (pc' := 100) (L' := [(.ref (0)), (zq_vi (x_7)), (.ref (b_12))]) (st' := [(.ref (0))]) (fun _ _ _ => rfl) ?_
      refine zq_have (fun hR_17 => ?_)
      obtain ⟨b_18, hb_19, w⟩ := w
      refine zq_getf_rs (j := 8) rfl zq_a0 rfl rfl hb_19 ?_
      refine zq_call_i (i := .invokevirtual 174) (r := [1, 89, 0, 1, 8]) rfl rfl (fun h hp => zr_avv rfl (hp.obj (zq_fcls hR_17 (k := 8) (j := 8) (cj := 8) zq_a0 rfl rfl hb_19))) (of_decide_eq_false rfl) w (fun x_21 s_20 hx_22 w => ?_)
      refine zq_call_i (i := .invokestatic 224) (r := [1, 37, 1, 0, 0]) rfl rfl (fun _ _ => rfl) (of_decide_eq_false rfl) w (fun x_24 s_23 hx_25 w => ?_)
      exact zq_iret rfl rfl rfl (Or.inl ⟨_, rfl, hx_25, w⟩)
    · rw [if_pos hb_10] at w
      refine zq_run 2 (pc' := 41) (L' := [(.ref (0)), (zq_vi (x_7)), zz_no]) (st' := [(.ref (0)), (.ref (0))]) (fun _ _ _ => rfl) ?_
      refine zq_getf_f (b := 7) rfl zq_a0 rfl rfl ?_
      refine zq_have (fun hR_26 => ?_)
      refine zq_getf_i (j := 9) (v := zq_i s_6 (7) (9)) rfl zq_a7 rfl rfl rfl ?_
      refine zq_putf_i (j := 12) rfl zq_a0 rfl rfl rfl (hR_26.1 _ _) ?_
      refine zq_run 2 (pc' := 52) (L' := [(.ref (0)), (zq_vi (x_7)), zz_no]) (st' := [(.ref (0)), (.ref (0))]) (fun _ _ _ => rfl) ?_
      refine zq_getf_f (b := 7) rfl zq_a0 rfl rfl ?_
      have e_27 : zq_i (zq_si s_6 (0) (12) (zq_i s_6 (7) (9))) (7) (10) = zq_i s_6 (7) (10) := by simp [zq_i_si, zq_i_sr, zq_i_sl]
      refine zq_getf_i (j := 10) (v := zq_i s_6 (7) (10)) rfl zq_a7 rfl rfl e_27 ?_
      refine zq_putf_i (j := 11) rfl zq_a0 rfl rfl rfl (hR_26.1 _ _) ?_
      exact zq_throw rfl rfl (of_decide_eq_true rfl) w.1 (zq_thr w.2)
  · rw [if_neg hb_9] at w
    refine zq_run 1 (pc' := 21) (L' := [(.ref (0)), (zq_vi (x_7)), zz_no]) (st' := [(.ref (0))]) (fun _ _ _ => rfl) ?_
    refine zq_getf_f (b := 7) rfl zq_a0 rfl rfl ?_
    refine zq_call_v (i := .invokevirtual 212) (r := [1, 120, 0, 1, 5]) rfl rfl (fun h hp => zr_avv rfl (hp.obj zq_a7)) (of_decide_eq_false rfl) w (fun s_28 w => ?_)
    refine zq_run 1 (pc' := 28) (L' := [(.ref (0)), (zq_vi (x_7)), zz_no]) (st' := [(.ref (0))]) (fun _ _ _ => rfl) ?_
    refine zq_getf_f (b := 7) rfl zq_a0 rfl rfl ?_
    refine zq_call_i (i := .invokevirtual 215) (r := [1, 122, 0, 1, 5]) rfl rfl (fun h hp => zr_avv rfl (hp.obj zq_a7)) (of_decide_eq_false rfl) w (fun x_30 s_29 hx_31 w => ?_)
    refine zq_run 2 (pc' := 36) (L' := [(.ref (0)), (zq_vi (x_30)), zz_no]) (st' := [(zq_vi (x_30))]) (fun _ _ _ => rfl) ?_
    refine zq_ne0 rfl (zq_bo_in hx_31) (fun hb_32 => ?_) (fun hb_32 => ?_)
    · rw [if_neg hb_32] at w
      refine zq_run 1 (pc' := 70) (L' := [(.ref (0)), (zq_vi (x_30)), zz_no]) (st' := [(.ref (0))]) (fun _ _ _ => rfl) ?_
      refine zq_have (fun hR_33 => ?_)
      obtain ⟨b_34, hb_35, w⟩ := w
      refine zq_getf_rs (j := 8) rfl zq_a0 rfl rfl hb_35 ?_
      refine zq_run 3 (pc' := 76) (L' := [(.ref (0)), (zq_vi (x_30)), (.ref (b_34))]) (st' := [(.ref (0)), (.ref (0))]) (fun _ _ _ => rfl) ?_
      obtain ⟨b_36, hb_37, w⟩ := w
      refine zq_getf_rs (j := 9) rfl zq_a0 rfl rfl hb_37 ?_
      refine zq_putf_r (j := 8) (v := some (b_36)) (cj := 8) rfl zq_a0 rfl rfl rfl (fun b hb => by cases hb; exact (zq_fcls hR_33 (k := 9) (j := 9) (cj := 8) zq_a0 rfl rfl hb_37)) ?_
      refine zq_run 2 (pc' := 84) (L' := [(.ref (0)), (zq_vi (x_30)), (.ref (b_34))]) (st' := [(.ref (b_34)), (.ref (0))]) (fun _ _ _ => rfl) ?_
      refine zq_putf_r (j := 9) (v := some (b_34)) (cj := 8) rfl zq_a0 rfl rfl rfl (fun b hb => by cases hb; exact (zq_fcls hR_33 (k := 8) (j := 8) (cj := 8) zq_a0 rfl rfl hb_35)) ?_
      refine zq_run 2 (pc' := 89) (L' := [(.ref (0)), (zq_vi (x_30)), (.ref (b_34))]) (st' := [(zq_vi ((-1))), (.ref (0))]) (fun _ _ _ => rfl) ?_
      refine zq_putf_i (j := 11) rfl zq_a0 rfl rfl rfl (of_decide_eq_true rfl) ?_
      refine zq_run 1 (pc' := 93) (L' := [(.ref (0)), (zq_vi (x_30)), (.ref (b_34))]) (st' := [(.ref (0))]) (fun _ _ _ => rfl) ?_
      refine zq_getf_f (b := 3) rfl zq_a0 rfl rfl ?_
      refine zq_call_v (i := .invokevirtual 134) (r := [1, 71, 0, 1, 2]) rfl rfl (fun h hp => zr_avv rfl (hp.obj zq_a3)) (of_decide_eq_false rfl) w (fun s_38 w => ?_)
      refine zq_run 1 (pc' := 100) (L' := [(.ref (0)), (zq_vi (x_30)), (.ref (b_34))]) (st' := [(.ref (0))]) (fun _ _ _ => rfl) ?_
      refine zq_have (fun hR_39 => ?_)
      obtain ⟨b_40, hb_41, w⟩ := w
      refine zq_getf_rs (j := 8) rfl zq_a0 rfl rfl hb_41 ?_
      refine zq_call_i (i := .invokevirtual 174) (r := [1, 89, 0, 1, 8]) rfl rfl (fun h hp => zr_avv rfl (hp.obj (zq_fcls hR_39 (k := 8) (j := 8) (cj := 8) zq_a0 rfl rfl hb_41))) (of_decide_eq_false rfl) w (fun x_43 s_42 hx_44 w => ?_)
      refine zq_call_i (i := .invokestatic 224) (r := [1, 37, 1, 0, 0]) rfl rfl (fun _ _ => rfl) (of_decide_eq_false rfl) w (fun x_46 s_45 hx_47 w => ?_)
      exact zq_iret rfl rfl rfl (Or.inl ⟨_, rfl, hx_47, w⟩)
    · rw [if_pos hb_32] at w
      refine zq_run 2 (pc' := 41) (L' := [(.ref (0)), (zq_vi (x_30)), zz_no]) (st' := [(.ref (0)), (.ref (0))]) (fun _ _ _ => rfl) ?_
      refine zq_getf_f (b := 7) rfl zq_a0 rfl rfl ?_
      refine zq_have (fun hR_48 => ?_)
      refine zq_getf_i (j := 9) (v := zq_i s_29 (7) (9)) rfl zq_a7 rfl rfl rfl ?_
      refine zq_putf_i (j := 12) rfl zq_a0 rfl rfl rfl (hR_48.1 _ _) ?_
      refine zq_run 2 (pc' := 52) (L' := [(.ref (0)), (zq_vi (x_30)), zz_no]) (st' := [(.ref (0)), (.ref (0))]) (fun _ _ _ => rfl) ?_
      refine zq_getf_f (b := 7) rfl zq_a0 rfl rfl ?_
      have e_49 : zq_i (zq_si s_29 (0) (12) (zq_i s_29 (7) (9))) (7) (10) = zq_i s_29 (7) (10) := by simp [zq_i_si, zq_i_sr, zq_i_sl]
      refine zq_getf_i (j := 10) (v := zq_i s_29 (7) (10)) rfl zq_a7 rfl rfl e_49 ?_
      refine zq_putf_i (j := 11) rfl zq_a0 rfl rfl rfl (hR_48.1 _ _) ?_
      exact zq_throw rfl rfl (of_decide_eq_true rfl) w.1 (zq_thr w.2)
/-- PaperObjects$Loader.takeTables(LPaperObjects$Text;LPaperObjects$Table;)Z -/
theorem zw_107 {X : Nat × (Nat → Int32)} {s : zq_S} {K : Int → zq_S → Prop} {a1 : Nat} (ha1 : zq_o 1 a1) {a2 : Nat} (ha2 : zq_o 8 a2) (w : (zq_Ex X 108 0 [(.ref (a2)), zz_no] [] (zq_sr (zq_sr s (7) (6) (some (a1))) (7) (7) (some (a2))) (zq_rv fun s_1 => (zq_Ex X 110 0 [(.ref (20)), (.long (0)), zz_no, zz_no, zz_no] [] (zq_si s_1 (7) (8) (0)) (zq_rv fun s_2 => (∃ b_4 : Nat, zq_r s_2 (7) 6 = some b_4 ∧ (zq_Ex X 87 0 [(.ref (b_4)), zz_no, zz_no, zz_no] [] s_2 (zq_rp zq_iv fun x_7 s_6 => (if x_7 = (-1) then (zq_Ex X 111 0 [(.ref (7)), (zq_vi (1)), (zq_vi (0))] [] s_6 (zq_rp zq_bo fun x_11 s_10 => K (x_11) s_10)) else zq_Ex X 107 53 [(.ref (7)), (.ref (a1)), (.ref (a2)), (zq_vi (x_7)), (zq_vi (0)), zz_no, zz_no] [] s_6 (zq_rp zq_bo K)))))))))) : zq_Ex X 107 0 [(.ref (7)), (.ref (a1)), (.ref (a2)), zz_no, zz_no, zz_no, zz_no] [] s (zq_rp zq_bo K) := by
  refine zq_run 2 (pc' := 2) (L' := [(.ref (7)), (.ref (a1)), (.ref (a2)), zz_no, zz_no, zz_no, zz_no]) (st' := [(.ref (a1)), (.ref (7))]) (fun _ _ _ => rfl) ?_
  refine zq_putf_r (j := 6) (v := some (a1)) (cj := 1) rfl zq_a7 rfl rfl rfl (fun b hb => by cases hb; exact ha1) ?_
  refine zq_run 2 (pc' := 7) (L' := [(.ref (7)), (.ref (a1)), (.ref (a2)), zz_no, zz_no, zz_no, zz_no]) (st' := [(.ref (a2)), (.ref (7))]) (fun _ _ _ => rfl) ?_
  refine zq_putf_r (j := 7) (v := some (a2)) (cj := 8) rfl zq_a7 rfl rfl rfl (fun b hb => by cases hb; exact ha2) ?_
  refine zq_run 1 (pc' := 11) (L' := [(.ref (7)), (.ref (a1)), (.ref (a2)), zz_no, zz_no, zz_no, zz_no]) (st' := [(.ref (7))]) (fun _ _ _ => rfl) ?_
  refine zq_getf_rs (j := 7) (b := a2) rfl zq_a7 rfl rfl (by simp [zq_r_si, zq_r_sr, zq_r_sl]) ?_
  refine zq_call_v (i := .invokevirtual 61) (r := [1, 108, 0, 1, 8]) rfl rfl (fun h hp => zr_avv rfl (hp.obj ha2)) (of_decide_eq_false rfl) w (fun s_1 w => ?_)
  refine zq_run 2 (pc' := 19) (L' := [(.ref (7)), (.ref (a1)), (.ref (a2)), zz_no, zz_no, zz_no, zz_no]) (st' := [(zq_vi (0)), (.ref (7))]) (fun _ _ _ => rfl) ?_
  refine zq_putf_i (j := 8) rfl zq_a7 rfl rfl rfl (of_decide_eq_true rfl) ?_
  refine zq_run 1 (pc' := 23) (L' := [(.ref (7)), (.ref (a1)), (.ref (a2)), zz_no, zz_no, zz_no, zz_no]) (st' := [(.ref (7))]) (fun _ _ _ => rfl) ?_
  refine zq_getf_f (b := 20) rfl zq_a7 rfl rfl ?_
  refine zq_run 1 (pc' := 27) (L' := [(.ref (7)), (.ref (a1)), (.ref (a2)), zz_no, zz_no, zz_no, zz_no]) (st' := [(.long (0)), (.ref (20))]) (fun _ _ _ => rfl) ?_
  refine zq_call_v (i := .invokestatic 66) (r := [1, 110, 2, 0, 0]) rfl rfl (fun _ _ => rfl) (of_decide_eq_false rfl) w (fun s_2 w => ?_)
  refine zq_run 1 (pc' := 31) (L' := [(.ref (7)), (.ref (a1)), (.ref (a2)), zz_no, zz_no, zz_no, zz_no]) (st' := [(.ref (7))]) (fun _ _ _ => rfl) ?_
  refine zq_have (fun hR_3 => ?_)
  obtain ⟨b_4, hb_5, w⟩ := w
  refine zq_getf_rs (j := 6) rfl zq_a7 rfl rfl hb_5 ?_
  refine zq_call_i (i := .invokevirtual 72) (r := [1, 87, 0, 1, 1]) rfl rfl (fun h hp => zr_avv rfl (hp.obj (zq_fcls hR_3 (k := 6) (j := 6) (cj := 1) zq_a7 rfl rfl hb_5))) (of_decide_eq_false rfl) w (fun x_7 s_6 hx_8 w => ?_)
  refine zq_run 3 (pc' := 40) (L' := [(.ref (7)), (.ref (a1)), (.ref (a2)), (zq_vi (x_7)), zz_no, zz_no, zz_no]) (st' := [(zq_vi ((-1))), (zq_vi (x_7))]) (fun _ _ _ => rfl) ?_
  refine zq_ne rfl hx_8 (of_decide_eq_true rfl) (fun hb_9 => ?_) (fun hb_9 => ?_)
  · rw [if_neg hb_9] at w
    refine zq_run 2 (pc' := 53) (L' := [(.ref (7)), (.ref (a1)), (.ref (a2)), (zq_vi (x_7)), (zq_vi (0)), zz_no, zz_no]) (st' := []) (fun _ _ _ => rfl) ?_
    exact w
  · rw [if_pos hb_9] at w
    refine zq_run 3 (pc' := 46) (L' := [(.ref (7)), (.ref (a1)), (.ref (a2)), (zq_vi (x_7)), zz_no, zz_no, zz_no]) (st' := [(zq_vi (0)), (zq_vi (1)), (.ref (7))]) (fun _ _ _ => rfl) ?_
    refine zq_call_i (i := .invokevirtual 78) (r := [1, 111, 2, 1, 5]) rfl rfl (fun h hp => zr_avv rfl (hp.obj zq_a7)) (of_decide_eq_false rfl) w (fun x_11 s_10 hx_12 w => ?_)
    exact zq_iret rfl rfl (congrArg Value.int (zq_nb hx_12)) (⟨_, rfl, hx_12, w⟩)
/-- PaperObjects$Loader.takeTables at 53 -/
theorem zw_107_53 {X : Nat × (Nat → Int32)} {s : zq_S} {K : Int → zq_S → Prop} {a1 : Nat} (ha1 : zq_o 1 a1) {a2 : Nat} (ha2 : zq_o 8 a2) {x3 : Int} (hx3 : zq_iv x3) {x4 : Int} (hx4 : zq_iv x4) {v5 : Value} (hv5 : v5.category = 1) {v6 : Value} (hv6 : v6.category = 1) (w : (if x4 < 999 then (zq_Ex X 112 0 [(.ref (7)), (zq_vi (x3)), zz_no] [] s (zq_rp zq_bo fun x_6 s_5 => (if x_6 = 0 then (zq_Ex X 111 0 [(.ref (7)), (zq_vi (2)), (zq_vi (x3))] [] s_5 (zq_rp zq_bo fun x_10 s_9 => K (x_10) s_9)) else (zq_Ex X 113 0 [(.ref (7)), (zq_vi (x3)), zz_no, zz_no] [] s_5 (zq_rp zq_iv fun x_13 s_12 => (if x_13 = (-1) then (zq_Ex X 111 0 [(.ref (7)), (zq_vi (2)), (zq_vi (x3))] [] s_12 (zq_rp zq_bo fun x_17 s_16 => K (x_17) s_16)) else (∃ b_20 : Nat, zq_r s_12 (7) 6 = some b_20 ∧ (zq_Ex X 44 0 [(.ref (8)), (.ref (b_20)), (zq_vi (x_13)), (.ref (11)), zz_no] [] s_12 (zq_rp zq_bo fun x_23 s_22 => (if x_23 = 0 then (zq_Ex X 111 0 [(.ref (7)), (zq_vi (2)), (zq_vi (x3))] [] s_22 (zq_rp zq_bo fun x_27 s_26 => K (x_27) s_26)) else (zq_Ex X 118 0 [(.ref (7)), zz_no, zz_no] [] s_22 (zq_rp zq_bo fun x_30 s_29 => (if x_30 = 0 then (zq_Ex X 111 0 [(.ref (7)), (zq_vi (2)), (zq_vi (x3))] [] s_29 (zq_rp zq_bo fun x_52 s_51 => K (x_52) s_51)) else (if x4 = 0 then (zq_Ex X 119 0 [(.ref (7)), zz_no] [] s_29 (zq_rv fun s_42 => (zq_Ex X 75 0 [(.ref (1000000 + 31)), zz_no, zz_no, zz_no] [] s_42 (zq_rl fun y_44 s_43 => (zq_Ex X 55 0 [(.ref (11)), (zq_vi (0)), (.long (y_44)), zz_no, zz_no, zz_no] [] s_43 (zq_rp zq_iv fun x_46 s_45 => (if x_46 = (-1) then K (1) s_45 else (((0 : Int) ≤ x_46 ∧ x_46 < (12 : Int)) ∧ zq_Ex X 107 53 [(.ref (7)), (.ref (a1)), (.ref (a2)), (zq_vi (zq_i s_45 (14) (x_46))), (zq_vi (x4 + 1)), (zq_vi (x_13)), (zq_vi (x_46))] [] s_45 (zq_rp zq_bo K))))))))) else (zq_Ex X 75 0 [(.ref (1000000 + 31)), zz_no, zz_no, zz_no] [] s_29 (zq_rl fun y_35 s_34 => (zq_Ex X 55 0 [(.ref (11)), (zq_vi (0)), (.long (y_35)), zz_no, zz_no, zz_no] [] s_34 (zq_rp zq_iv fun x_37 s_36 => (if x_37 = (-1) then K (1) s_36 else (((0 : Int) ≤ x_37 ∧ x_37 < (12 : Int)) ∧ zq_Ex X 107 53 [(.ref (7)), (.ref (a1)), (.ref (a2)), (zq_vi (zq_i s_36 (14) (x_37))), (zq_vi (x4 + 1)), (zq_vi (x_13)), (zq_vi (x_37))] [] s_36 (zq_rp zq_bo K))))))))))))))))))))) else (zq_Ex X 111 0 [(.ref (7)), (zq_vi (2)), (zq_vi (x3))] [] s (zq_rp zq_bo fun x_3 s_2 => K (x_3) s_2)))) : zq_Ex X 107 53 [(.ref (7)), (.ref (a1)), (.ref (a2)), (zq_vi (x3)), (zq_vi (x4)), v5, v6] [] s (zq_rp zq_bo K) := by
  refine zq_run 2 (pc' := 58) (L' := [(.ref (7)), (.ref (a1)), (.ref (a2)), (zq_vi (x3)), (zq_vi (x4)), v5, v6]) (st' := [(zq_vi (999)), (zq_vi (x4))]) (fun _ _ _ => rfl) ?_
  refine zq_ge rfl hx4 (of_decide_eq_true rfl) (fun hb_1 => ?_) (fun hb_1 => ?_)
  · rw [if_neg hb_1] at w
    refine zq_run 3 (pc' := 172) (L' := [(.ref (7)), (.ref (a1)), (.ref (a2)), (zq_vi (x3)), (zq_vi (x4)), v5, v6]) (st' := [(zq_vi (x3)), (zq_vi (2)), (.ref (7))]) (fun _ _ _ => rfl) ?_
    refine zq_call_i (i := .invokevirtual 78) (r := [1, 111, 2, 1, 5]) rfl rfl (fun h hp => zr_avv rfl (hp.obj zq_a7)) (of_decide_eq_false rfl) w (fun x_3 s_2 hx_4 w => ?_)
    exact zq_iret rfl rfl (congrArg Value.int (zq_nb hx_4)) (⟨_, rfl, hx_4, w⟩)
  · rw [if_pos hb_1] at w
    refine zq_run 2 (pc' := 63) (L' := [(.ref (7)), (.ref (a1)), (.ref (a2)), (zq_vi (x3)), (zq_vi (x4)), v5, v6]) (st' := [(zq_vi (x3)), (.ref (7))]) (fun _ _ _ => rfl) ?_
    refine zq_call_i (i := .invokevirtual 82) (r := [1, 112, 1, 1, 5]) rfl rfl (fun h hp => zr_avv rfl (hp.obj zq_a7)) (of_decide_eq_false rfl) w (fun x_6 s_5 hx_7 w => ?_)
    refine zq_eq0 rfl (zq_bo_in hx_7) (fun hb_8 => ?_) (fun hb_8 => ?_)
    · rw [if_pos hb_8] at w
      refine zq_run 4 (pc' := 83) (L' := [(.ref (7)), (.ref (a1)), (.ref (a2)), (zq_vi (x3)), (zq_vi (x4)), (zq_vi ((-1))), v6]) (st' := [(zq_vi ((-1))), (zq_vi ((-1)))]) (fun _ _ _ => rfl) ?_
      refine zq_eq rfl (of_decide_eq_true rfl) (of_decide_eq_true rfl) (fun _ => ?_) (fun hb => absurd (by decide) hb)
      refine zq_run 3 (pc' := 116) (L' := [(.ref (7)), (.ref (a1)), (.ref (a2)), (zq_vi (x3)), (zq_vi (x4)), (zq_vi ((-1))), v6]) (st' := [(zq_vi (x3)), (zq_vi (2)), (.ref (7))]) (fun _ _ _ => rfl) ?_
      refine zq_call_i (i := .invokevirtual 78) (r := [1, 111, 2, 1, 5]) rfl rfl (fun h hp => zr_avv rfl (hp.obj zq_a7)) (of_decide_eq_false rfl) w (fun x_10 s_9 hx_11 w => ?_)
      exact zq_iret rfl rfl (congrArg Value.int (zq_nb hx_11)) (⟨_, rfl, hx_11, w⟩)
    · rw [if_neg hb_8] at w
      refine zq_run 2 (pc' := 71) (L' := [(.ref (7)), (.ref (a1)), (.ref (a2)), (zq_vi (x3)), (zq_vi (x4)), v5, v6]) (st' := [(zq_vi (x3)), (.ref (7))]) (fun _ _ _ => rfl) ?_
      refine zq_call_i (i := .invokevirtual 86) (r := [1, 113, 1, 1, 5]) rfl rfl (fun h hp => zr_avv rfl (hp.obj zq_a7)) (of_decide_eq_false rfl) w (fun x_13 s_12 hx_14 w => ?_)
      refine zq_run 4 (pc' := 83) (L' := [(.ref (7)), (.ref (a1)), (.ref (a2)), (zq_vi (x3)), (zq_vi (x4)), (zq_vi (x_13)), v6]) (st' := [(zq_vi ((-1))), (zq_vi (x_13))]) (fun _ _ _ => rfl) ?_
      refine zq_eq rfl hx_14 (of_decide_eq_true rfl) (fun hb_15 => ?_) (fun hb_15 => ?_)
      · rw [if_pos hb_15] at w
        refine zq_run 3 (pc' := 116) (L' := [(.ref (7)), (.ref (a1)), (.ref (a2)), (zq_vi (x3)), (zq_vi (x4)), (zq_vi (x_13)), v6]) (st' := [(zq_vi (x3)), (zq_vi (2)), (.ref (7))]) (fun _ _ _ => rfl) ?_
        refine zq_call_i (i := .invokevirtual 78) (r := [1, 111, 2, 1, 5]) rfl rfl (fun h hp => zr_avv rfl (hp.obj zq_a7)) (of_decide_eq_false rfl) w (fun x_17 s_16 hx_18 w => ?_)
        exact zq_iret rfl rfl (congrArg Value.int (zq_nb hx_18)) (⟨_, rfl, hx_18, w⟩)
      · rw [if_neg hb_15] at w
        refine zq_run 1 (pc' := 87) (L' := [(.ref (7)), (.ref (a1)), (.ref (a2)), (zq_vi (x3)), (zq_vi (x4)), (zq_vi (x_13)), v6]) (st' := [(.ref (7))]) (fun _ _ _ => rfl) ?_
        refine zq_getf_f (b := 8) rfl zq_a7 rfl rfl ?_
        refine zq_run 1 (pc' := 91) (L' := [(.ref (7)), (.ref (a1)), (.ref (a2)), (zq_vi (x3)), (zq_vi (x4)), (zq_vi (x_13)), v6]) (st' := [(.ref (7)), (.ref (8))]) (fun _ _ _ => rfl) ?_
        refine zq_have (fun hR_19 => ?_)
        obtain ⟨b_20, hb_21, w⟩ := w
        refine zq_getf_rs (j := 6) rfl zq_a7 rfl rfl hb_21 ?_
        refine zq_run 2 (pc' := 97) (L' := [(.ref (7)), (.ref (a1)), (.ref (a2)), (zq_vi (x3)), (zq_vi (x4)), (zq_vi (x_13)), v6]) (st' := [(.ref (7)), (zq_vi (x_13)), (.ref (b_20)), (.ref (8))]) (fun _ _ _ => rfl) ?_
        refine zq_getf_f (b := 11) rfl zq_a7 rfl rfl ?_
        refine zq_call_i (i := .invokevirtual 90) (r := [1, 44, 3, 1, 3]) rfl rfl (fun h hp => zr_avv rfl (hp.obj zq_a8)) (of_decide_eq_false rfl) w (fun x_23 s_22 hx_24 w => ?_)
        refine zq_eq0 rfl (zq_bo_in hx_24) (fun hb_25 => ?_) (fun hb_25 => ?_)
        · rw [if_pos hb_25] at w
          refine zq_run 3 (pc' := 116) (L' := [(.ref (7)), (.ref (a1)), (.ref (a2)), (zq_vi (x3)), (zq_vi (x4)), (zq_vi (x_13)), v6]) (st' := [(zq_vi (x3)), (zq_vi (2)), (.ref (7))]) (fun _ _ _ => rfl) ?_
          refine zq_call_i (i := .invokevirtual 78) (r := [1, 111, 2, 1, 5]) rfl rfl (fun h hp => zr_avv rfl (hp.obj zq_a7)) (of_decide_eq_false rfl) w (fun x_27 s_26 hx_28 w => ?_)
          exact zq_iret rfl rfl (congrArg Value.int (zq_nb hx_28)) (⟨_, rfl, hx_28, w⟩)
        · rw [if_neg hb_25] at w
          refine zq_run 1 (pc' := 107) (L' := [(.ref (7)), (.ref (a1)), (.ref (a2)), (zq_vi (x3)), (zq_vi (x4)), (zq_vi (x_13)), v6]) (st' := [(.ref (7))]) (fun _ _ _ => rfl) ?_
          refine zq_call_i (i := .invokevirtual 94) (r := [1, 118, 0, 1, 5]) rfl rfl (fun h hp => zr_avv rfl (hp.obj zq_a7)) (of_decide_eq_false rfl) w (fun x_30 s_29 hx_31 w => ?_)
          refine zq_ne0 rfl (zq_bo_in hx_31) (fun hb_32 => ?_) (fun hb_32 => ?_)
          · rw [if_neg hb_32] at w
            refine zq_run 1 (pc' := 122) (L' := [(.ref (7)), (.ref (a1)), (.ref (a2)), (zq_vi (x3)), (zq_vi (x4)), (zq_vi (x_13)), v6]) (st' := [(zq_vi (x4))]) (fun _ _ _ => rfl) ?_
            refine zq_ne0 rfl hx4 (fun hb_33 => ?_) (fun hb_33 => ?_)
            · rw [if_neg hb_33] at w
              refine zq_run 1 (pc' := 130) (L' := [(.ref (7)), (.ref (a1)), (.ref (a2)), (zq_vi (x3)), (zq_vi (x4)), (zq_vi (x_13)), v6]) (st' := [(.ref (7))]) (fun _ _ _ => rfl) ?_
              refine zq_getf_f (b := 11) rfl zq_a7 rfl rfl ?_
              refine zq_run 2 (pc' := 136) (L' := [(.ref (7)), (.ref (a1)), (.ref (a2)), (zq_vi (x3)), (zq_vi (x4)), (zq_vi (x_13)), v6]) (st' := [(.ref (1000000 + 31)), (zq_vi (0)), (.ref (11))]) (fun _ _ _ => rfl) ?_
              refine zq_call_l (i := .invokestatic 103) (r := [1, 75, 1, 0, 0]) rfl rfl (fun _ _ => rfl) (of_decide_eq_false rfl) w (fun y_35 s_34 w => ?_)
              refine zq_call_i (i := .invokevirtual 107) (r := [1, 55, 2, 1, 4]) rfl rfl (fun h hp => zr_avv rfl (hp.obj zq_a11)) (of_decide_eq_false rfl) w (fun x_37 s_36 hx_38 w => ?_)
              refine zq_run 3 (pc' := 147) (L' := [(.ref (7)), (.ref (a1)), (.ref (a2)), (zq_vi (x3)), (zq_vi (x4)), (zq_vi (x_13)), (zq_vi (x_37))]) (st' := [(zq_vi ((-1))), (zq_vi (x_37))]) (fun _ _ _ => rfl) ?_
              refine zq_ne rfl hx_38 (of_decide_eq_true rfl) (fun hb_39 => ?_) (fun hb_39 => ?_)
              · rw [if_neg hb_39] at w
                refine zq_run 1 (pc' := 153) (L' := [(.ref (7)), (.ref (a1)), (.ref (a2)), (zq_vi (x3)), (zq_vi (x4)), (zq_vi (x_13)), (zq_vi (x_37))]) (st' := [(.ref (7))]) (fun _ _ _ => rfl) ?_
                refine zq_getf_f (b := 11) rfl zq_a7 rfl rfl ?_
                refine zq_getf_f (b := 14) rfl zq_a11 rfl rfl ?_
                refine zq_run 1 (pc' := 161) (L' := [(.ref (7)), (.ref (a1)), (.ref (a2)), (zq_vi (x3)), (zq_vi (x4)), (zq_vi (x_13)), (zq_vi (x_37))]) (st' := [(zq_vi (x_37)), (.ref (14))]) (fun _ _ _ => rfl) ?_
                obtain ⟨g_40, w⟩ := w
                refine zq_have (fun hR_41 => ?_)
                refine zq_ald_i (v := zq_i s_36 (14) (x_37)) rfl (zq_L4 zq_a11).2.2.1 g_40.1 g_40.2 rfl ?_
                refine zq_run 1 (pc' := 163) (L' := [(.ref (7)), (.ref (a1)), (.ref (a2)), (zq_vi (zq_i s_36 (14) (x_37))), (zq_vi (x4)), (zq_vi (x_13)), (zq_vi (x_37))]) (st' := []) (fun _ _ _ => rfl) ?_
                refine zq_iinc (L' := [(.ref (7)), (.ref (a1)), (.ref (a2)), (zq_vi (zq_i s_36 (14) (x_37))), (zq_vi (x4 + 1)), (zq_vi (x_13)), (zq_vi (x_37))]) rfl rfl rfl ?_
                refine zq_run 1 (pc' := 53) (L' := [(.ref (7)), (.ref (a1)), (.ref (a2)), (zq_vi (zq_i s_36 (14) (x_37))), (zq_vi (x4 + 1)), (zq_vi (x_13)), (zq_vi (x_37))]) (st' := []) (fun _ _ _ => rfl) ?_
                exact w
              · rw [if_pos hb_39] at w
                refine zq_run 1 (pc' := 151) (L' := [(.ref (7)), (.ref (a1)), (.ref (a2)), (zq_vi (x3)), (zq_vi (x4)), (zq_vi (x_13)), (zq_vi (x_37))]) (st' := [(zq_vi (1))]) (fun _ _ _ => rfl) ?_
                exact zq_iret rfl rfl (congrArg Value.int (zq_nb (of_decide_eq_true rfl))) (⟨_, rfl, (of_decide_eq_true rfl), w⟩)
            · rw [if_pos hb_33] at w
              refine zq_run 1 (pc' := 126) (L' := [(.ref (7)), (.ref (a1)), (.ref (a2)), (zq_vi (x3)), (zq_vi (x4)), (zq_vi (x_13)), v6]) (st' := [(.ref (7))]) (fun _ _ _ => rfl) ?_
              refine zq_call_v (i := .invokevirtual 98) (r := [1, 119, 0, 1, 5]) rfl rfl (fun h hp => zr_avv rfl (hp.obj zq_a7)) (of_decide_eq_false rfl) w (fun s_42 w => ?_)
              refine zq_run 1 (pc' := 130) (L' := [(.ref (7)), (.ref (a1)), (.ref (a2)), (zq_vi (x3)), (zq_vi (x4)), (zq_vi (x_13)), v6]) (st' := [(.ref (7))]) (fun _ _ _ => rfl) ?_
              refine zq_getf_f (b := 11) rfl zq_a7 rfl rfl ?_
              refine zq_run 2 (pc' := 136) (L' := [(.ref (7)), (.ref (a1)), (.ref (a2)), (zq_vi (x3)), (zq_vi (x4)), (zq_vi (x_13)), v6]) (st' := [(.ref (1000000 + 31)), (zq_vi (0)), (.ref (11))]) (fun _ _ _ => rfl) ?_
              refine zq_call_l (i := .invokestatic 103) (r := [1, 75, 1, 0, 0]) rfl rfl (fun _ _ => rfl) (of_decide_eq_false rfl) w (fun y_44 s_43 w => ?_)
              refine zq_call_i (i := .invokevirtual 107) (r := [1, 55, 2, 1, 4]) rfl rfl (fun h hp => zr_avv rfl (hp.obj zq_a11)) (of_decide_eq_false rfl) w (fun x_46 s_45 hx_47 w => ?_)
              refine zq_run 3 (pc' := 147) (L' := [(.ref (7)), (.ref (a1)), (.ref (a2)), (zq_vi (x3)), (zq_vi (x4)), (zq_vi (x_13)), (zq_vi (x_46))]) (st' := [(zq_vi ((-1))), (zq_vi (x_46))]) (fun _ _ _ => rfl) ?_
              refine zq_ne rfl hx_47 (of_decide_eq_true rfl) (fun hb_48 => ?_) (fun hb_48 => ?_)
              · rw [if_neg hb_48] at w
                refine zq_run 1 (pc' := 153) (L' := [(.ref (7)), (.ref (a1)), (.ref (a2)), (zq_vi (x3)), (zq_vi (x4)), (zq_vi (x_13)), (zq_vi (x_46))]) (st' := [(.ref (7))]) (fun _ _ _ => rfl) ?_
                refine zq_getf_f (b := 11) rfl zq_a7 rfl rfl ?_
                refine zq_getf_f (b := 14) rfl zq_a11 rfl rfl ?_
                refine zq_run 1 (pc' := 161) (L' := [(.ref (7)), (.ref (a1)), (.ref (a2)), (zq_vi (x3)), (zq_vi (x4)), (zq_vi (x_13)), (zq_vi (x_46))]) (st' := [(zq_vi (x_46)), (.ref (14))]) (fun _ _ _ => rfl) ?_
                obtain ⟨g_49, w⟩ := w
                refine zq_have (fun hR_50 => ?_)
                refine zq_ald_i (v := zq_i s_45 (14) (x_46)) rfl (zq_L4 zq_a11).2.2.1 g_49.1 g_49.2 rfl ?_
                refine zq_run 1 (pc' := 163) (L' := [(.ref (7)), (.ref (a1)), (.ref (a2)), (zq_vi (zq_i s_45 (14) (x_46))), (zq_vi (x4)), (zq_vi (x_13)), (zq_vi (x_46))]) (st' := []) (fun _ _ _ => rfl) ?_
                refine zq_iinc (L' := [(.ref (7)), (.ref (a1)), (.ref (a2)), (zq_vi (zq_i s_45 (14) (x_46))), (zq_vi (x4 + 1)), (zq_vi (x_13)), (zq_vi (x_46))]) rfl rfl rfl ?_
                refine zq_run 1 (pc' := 53) (L' := [(.ref (7)), (.ref (a1)), (.ref (a2)), (zq_vi (zq_i s_45 (14) (x_46))), (zq_vi (x4 + 1)), (zq_vi (x_13)), (zq_vi (x_46))]) (st' := []) (fun _ _ _ => rfl) ?_
                exact w
              · rw [if_pos hb_48] at w
                refine zq_run 1 (pc' := 151) (L' := [(.ref (7)), (.ref (a1)), (.ref (a2)), (zq_vi (x3)), (zq_vi (x4)), (zq_vi (x_13)), (zq_vi (x_46))]) (st' := [(zq_vi (1))]) (fun _ _ _ => rfl) ?_
                exact zq_iret rfl rfl (congrArg Value.int (zq_nb (of_decide_eq_true rfl))) (⟨_, rfl, (of_decide_eq_true rfl), w⟩)
          · rw [if_pos hb_32] at w
            refine zq_run 3 (pc' := 116) (L' := [(.ref (7)), (.ref (a1)), (.ref (a2)), (zq_vi (x3)), (zq_vi (x4)), (zq_vi (x_13)), v6]) (st' := [(zq_vi (x3)), (zq_vi (2)), (.ref (7))]) (fun _ _ _ => rfl) ?_
            refine zq_call_i (i := .invokevirtual 78) (r := [1, 111, 2, 1, 5]) rfl rfl (fun h hp => zr_avv rfl (hp.obj zq_a7)) (of_decide_eq_false rfl) w (fun x_52 s_51 hx_53 w => ?_)
            exact zq_iret rfl rfl (congrArg Value.int (zq_nb hx_53)) (⟨_, rfl, hx_53, w⟩)
/-- PaperObjects$Table.reset()V -/
theorem zw_108 {X : Nat × (Nat → Int32)} {s : zq_S} {K : zq_S → Prop} {a0 : Nat} (ha0 : zq_o 8 a0) (w : zq_Ex X 108 12 [(.ref (a0)), (zq_vi (0))] [] (zq_si (zq_si s (a0) (2) (0)) (a0) (3) (0)) (zq_rv K)) : zq_Ex X 108 0 [(.ref (a0)), zz_no] [] s (zq_rv K) := by
  refine zq_run 2 (pc' := 2) (L' := [(.ref (a0)), zz_no]) (st' := [(zq_vi (0)), (.ref (a0))]) (fun _ _ _ => rfl) ?_
  refine zq_putf_i (j := 2) rfl ha0 rfl rfl rfl (of_decide_eq_true rfl) ?_
  refine zq_run 2 (pc' := 7) (L' := [(.ref (a0)), zz_no]) (st' := [(zq_vi (0)), (.ref (a0))]) (fun _ _ _ => rfl) ?_
  refine zq_putf_i (j := 3) rfl ha0 rfl rfl rfl (of_decide_eq_true rfl) ?_
  refine zq_run 2 (pc' := 12) (L' := [(.ref (a0)), (zq_vi (0))]) (st' := []) (fun _ _ _ => rfl) ?_
  exact w
/-- PaperObjects$Table.reset at 12 -/
theorem zw_108_12 {X : Nat × (Nat → Int32)} {s : zq_S} {K : zq_S → Prop} {a0 : Nat} (ha0 : zq_o 8 a0) {x1 : Int} (hx1 : zq_iv x1) (w : (if x1 < 9 then (((0 : Int) ≤ x1 ∧ x1 < 9) ∧ (zq_Ex X 109 0 [(.ref (a0 + 1 + 8 + 10 * (x1).toNat))] [] s (zq_rv fun s_3 => zq_Ex X 108 12 [(.ref (a0)), (zq_vi (x1 + 1))] [] s_3 (zq_rv K)))) else K s)) : zq_Ex X 108 12 [(.ref (a0)), (zq_vi (x1))] [] s (zq_rv K) := by
  refine zq_run 2 (pc' := 15) (L' := [(.ref (a0)), (zq_vi (x1))]) (st' := [(zq_vi (9)), (zq_vi (x1))]) (fun _ _ _ => rfl) ?_
  refine zq_ge rfl hx1 (of_decide_eq_true rfl) (fun hb_1 => ?_) (fun hb_1 => ?_)
  · rw [if_neg hb_1] at w
    exact zq_vret rfl rfl (⟨rfl, w⟩)
  · rw [if_pos hb_1] at w
    refine zq_run 1 (pc' := 19) (L' := [(.ref (a0)), (zq_vi (x1))]) (st' := [(.ref (a0))]) (fun _ _ _ => rfl) ?_
    refine zq_getf_f (b := a0 + 1) rfl ha0 rfl rfl ?_
    refine zq_run 1 (pc' := 23) (L' := [(.ref (a0)), (zq_vi (x1))]) (st' := [(zq_vi (x1)), (.ref (a0 + 1))]) (fun _ _ _ => rfl) ?_
    obtain ⟨g_2, w⟩ := w
    refine zq_ald_s rfl (zq_L8 ha0).1 g_2.1 g_2.2 ?_
    refine zq_call_v (i := .invokevirtual 47) (r := [1, 109, 0, 1, 7]) rfl rfl (fun h hp => zr_avv rfl (hp.obj (zq_L8s ha0 g_2.1 g_2.2))) (of_decide_eq_false rfl) w (fun s_3 w => ?_)
    refine zq_iinc (L' := [(.ref (a0)), (zq_vi (x1 + 1))]) rfl rfl rfl ?_
    refine zq_run 1 (pc' := 12) (L' := [(.ref (a0)), (zq_vi (x1 + 1))]) (st' := []) (fun _ _ _ => rfl) ?_
    exact w
/-- PaperObjects$Slot.reset()V -/
theorem zw_109 {X : Nat × (Nat → Int32)} {s : zq_S} {K : zq_S → Prop} {a0 : Nat} (ha0 : zq_o 7 a0) (w : K (zq_si (zq_si (zq_si (zq_si s (a0) (0) (0)) (a0) (1) (0)) (a0) (2) (0)) (a0) (3) (0))) : zq_Ex X 109 0 [(.ref (a0))] [] s (zq_rv K) := by
  refine zq_run 2 (pc' := 2) (L' := [(.ref (a0))]) (st' := [(zq_vi (0)), (.ref (a0))]) (fun _ _ _ => rfl) ?_
  refine zq_putf_b (j := 0) rfl ha0 rfl rfl rfl (of_decide_eq_true rfl) ?_
  refine zq_run 2 (pc' := 7) (L' := [(.ref (a0))]) (st' := [(zq_vi (0)), (.ref (a0))]) (fun _ _ _ => rfl) ?_
  refine zq_putf_b (j := 1) rfl ha0 rfl rfl rfl (of_decide_eq_true rfl) ?_
  refine zq_run 2 (pc' := 12) (L' := [(.ref (a0))]) (st' := [(zq_vi (0)), (.ref (a0))]) (fun _ _ _ => rfl) ?_
  refine zq_putf_b (j := 2) rfl ha0 rfl rfl rfl (of_decide_eq_true rfl) ?_
  refine zq_run 2 (pc' := 17) (L' := [(.ref (a0))]) (st' := [(zq_vi (0)), (.ref (a0))]) (fun _ _ _ => rfl) ?_
  refine zq_putf_i (j := 3) rfl ha0 rfl rfl rfl (of_decide_eq_true rfl) ?_
  exact zq_vret rfl rfl (⟨rfl, w⟩)
/-- java/util/Arrays.fill([JJ)V -/
theorem zw_110 {X : Nat × (Nat → Int32)} {s : zq_S} {K : zq_S → Prop} {a0 m0 : Nat} (ha0 : zq_k a0 = (2, 3, m0)) {y1 : Int64} (w : zq_Ex X 110 6 [(.ref (a0)), (.long (y1)), zz_no, (zq_vi (0)), (zq_vi (((m0 : Nat) : Int)))] [] s (zq_rv K)) : zq_Ex X 110 0 [(.ref (a0)), (.long (y1)), zz_no, zz_no, zz_no] [] s (zq_rv K) := by
  refine zq_run 3 (pc' := 3) (L' := [(.ref (a0)), (.long (y1)), zz_no, (zq_vi (0)), zz_no]) (st' := [(.ref (a0))]) (fun _ _ _ => rfl) ?_
  refine zq_llen rfl ha0 ?_
  refine zq_run 1 (pc' := 6) (L' := [(.ref (a0)), (.long (y1)), zz_no, (zq_vi (0)), (zq_vi (((m0 : Nat) : Int)))]) (st' := []) (fun _ _ _ => rfl) ?_
  exact w
/-- java/util/Arrays.fill at 6 -/
theorem zw_110_6 {X : Nat × (Nat → Int32)} {s : zq_S} {K : zq_S → Prop} {a0 m0 : Nat} (ha0 : zq_k a0 = (2, 3, m0)) {y1 : Int64} {x3 : Int} (hx3 : zq_iv x3) {x4 : Int} (hx4 : zq_iv x4) (w : (if x3 < x4 then (((0 : Int) ≤ x3 ∧ x3 < ((m0 : Nat) : Int)) ∧ zq_Ex X 110 6 [(.ref (a0)), (.long (y1)), zz_no, (zq_vi (x3 + 1)), (zq_vi (x4))] [] (zq_sl s (a0) (x3) (y1)) (zq_rv K)) else K s)) : zq_Ex X 110 6 [(.ref (a0)), (.long (y1)), zz_no, (zq_vi (x3)), (zq_vi (x4))] [] s (zq_rv K) := by
  refine zq_run 2 (pc' := 9) (L' := [(.ref (a0)), (.long (y1)), zz_no, (zq_vi (x3)), (zq_vi (x4))]) (st' := [(zq_vi (x4)), (zq_vi (x3))]) (fun _ _ _ => rfl) ?_
  refine zq_ge rfl hx3 hx4 (fun hb_1 => ?_) (fun hb_1 => ?_)
  · rw [if_neg hb_1] at w
    exact zq_vret rfl rfl (⟨rfl, w⟩)
  · rw [if_pos hb_1] at w
    refine zq_run 3 (pc' := 15) (L' := [(.ref (a0)), (.long (y1)), zz_no, (zq_vi (x3)), (zq_vi (x4))]) (st' := [(.long (y1)), (zq_vi (x3)), (.ref (a0))]) (fun _ _ _ => rfl) ?_
    obtain ⟨g_2, w⟩ := w
    refine zq_ast_l rfl ha0 g_2.1 g_2.2  ?_
    refine zq_iinc (L' := [(.ref (a0)), (.long (y1)), zz_no, (zq_vi (x3 + 1)), (zq_vi (x4))]) rfl rfl rfl ?_
    refine zq_run 1 (pc' := 6) (L' := [(.ref (a0)), (.long (y1)), zz_no, (zq_vi (x3 + 1)), (zq_vi (x4))]) (st' := []) (fun _ _ _ => rfl) ?_
    exact w
/-- PaperObjects$Loader.refuse(II)Z -/
theorem zw_111 {X : Nat × (Nat → Int32)} {s : zq_S} {K : Int → zq_S → Prop} {x1 : Int} (hx1 : zq_iv x1) {x2 : Int} (hx2 : zq_iv x2) (w : K (0) (zq_si (zq_si s (7) (9) (x1)) (7) (10) (x2))) : zq_Ex X 111 0 [(.ref (7)), (zq_vi (x1)), (zq_vi (x2))] [] s (zq_rp zq_bo K) := by
  refine zq_run 2 (pc' := 2) (L' := [(.ref (7)), (zq_vi (x1)), (zq_vi (x2))]) (st' := [(zq_vi (x1)), (.ref (7))]) (fun _ _ _ => rfl) ?_
  refine zq_putf_i (j := 9) rfl zq_a7 rfl rfl rfl hx1 ?_
  refine zq_run 2 (pc' := 7) (L' := [(.ref (7)), (zq_vi (x1)), (zq_vi (x2))]) (st' := [(zq_vi (x2)), (.ref (7))]) (fun _ _ _ => rfl) ?_
  refine zq_putf_i (j := 10) rfl zq_a7 rfl rfl rfl hx2 ?_
  refine zq_run 1 (pc' := 11) (L' := [(.ref (7)), (zq_vi (x1)), (zq_vi (x2))]) (st' := [(zq_vi (0))]) (fun _ _ _ => rfl) ?_
  exact zq_iret rfl rfl (congrArg Value.int (zq_nb (of_decide_eq_true rfl))) (⟨_, rfl, (of_decide_eq_true rfl), w⟩)
/-- PaperObjects$Loader.isNewPlace(I)Z -/
theorem zw_112 {X : Nat × (Nat → Int32)} {s : zq_S} {K : Int → zq_S → Prop} {x1 : Int} (hx1 : zq_iv x1) (w : (if x1 < 0 then K (0) s else (∃ b_3 : Nat, zq_r s (7) 6 = some b_3 ∧ (if x1 < zq_i s (b_3) (1) then (((0 : Int) ≤ zq_div (x1) (64) ∧ zq_div (x1) (64) < (16 : Int)) ∧ (if (((zq_l s (20) (zq_div (x1) (64))) >>> ((Int32.ofInt (zq_rem (x1) (64))).toInt64 &&& 63)) &&& (1)) = (0) then (((0 : Int) ≤ zq_div (x1) (64) ∧ zq_div (x1) (64) < (16 : Int)) ∧ (((0 : Int) ≤ zq_div (x1) (64) ∧ zq_div (x1) (64) < (16 : Int)) ∧ K (1) (zq_sl s (20) (zq_div (x1) (64)) ((zq_l s (20) (zq_div (x1) (64))) ||| ((1) <<< ((Int32.ofInt (zq_rem (x1) (64))).toInt64 &&& 63)))))) else (((0 : Int) ≤ zq_div (x1) (64) ∧ zq_div (x1) (64) < (16 : Int)) ∧ (((0 : Int) ≤ zq_div (x1) (64) ∧ zq_div (x1) (64) < (16 : Int)) ∧ K (0) (zq_sl s (20) (zq_div (x1) (64)) ((zq_l s (20) (zq_div (x1) (64))) ||| ((1) <<< ((Int32.ofInt (zq_rem (x1) (64))).toInt64 &&& 63)))))))) else K (0) s)))) : zq_Ex X 112 0 [(.ref (7)), (zq_vi (x1)), zz_no] [] s (zq_rp zq_bo K) := by
  refine zq_run 1 (pc' := 1) (L' := [(.ref (7)), (zq_vi (x1)), zz_no]) (st' := [(zq_vi (x1))]) (fun _ _ _ => rfl) ?_
  refine zq_lt0 rfl hx1 (fun hb_1 => ?_) (fun hb_1 => ?_)
  · rw [if_pos hb_1] at w
    refine zq_run 1 (pc' := 16) (L' := [(.ref (7)), (zq_vi (x1)), zz_no]) (st' := [(zq_vi (0))]) (fun _ _ _ => rfl) ?_
    exact zq_iret rfl rfl (congrArg Value.int (zq_nb (of_decide_eq_true rfl))) (⟨_, rfl, (of_decide_eq_true rfl), w⟩)
  · rw [if_neg hb_1] at w
    refine zq_run 2 (pc' := 6) (L' := [(.ref (7)), (zq_vi (x1)), zz_no]) (st' := [(.ref (7)), (zq_vi (x1))]) (fun _ _ _ => rfl) ?_
    refine zq_have (fun hR_2 => ?_)
    obtain ⟨b_3, hb_4, w⟩ := w
    refine zq_getf_rs (j := 6) rfl zq_a7 rfl rfl hb_4 ?_
    refine zq_getf_i (j := 1) (v := zq_i s (b_3) (1)) rfl (zq_fcls hR_2 (k := 6) (j := 6) (cj := 1) zq_a7 rfl rfl hb_4) rfl rfl rfl ?_
    refine zq_lt rfl hx1 (hR_2.1 _ _) (fun hb_5 => ?_) (fun hb_5 => ?_)
    · rw [if_pos hb_5] at w
      refine zq_run 1 (pc' := 18) (L' := [(.ref (7)), (zq_vi (x1)), zz_no]) (st' := [(.ref (7))]) (fun _ _ _ => rfl) ?_
      refine zq_getf_f (b := 20) rfl zq_a7 rfl rfl ?_
      refine zq_run 2 (pc' := 24) (L' := [(.ref (7)), (zq_vi (x1)), zz_no]) (st' := [(zq_vi (64)), (zq_vi (x1)), (.ref (20))]) (fun _ _ _ => rfl) ?_
      refine zq_idiv rfl (of_decide_eq_true rfl) (of_decide_eq_true rfl) ?_
      obtain ⟨g_6, w⟩ := w
      refine zq_ald_l (v := zq_l s (20) (zq_div (x1) (64))) rfl zq_a20 g_6.1 g_6.2 rfl ?_
      refine zq_run 2 (pc' := 29) (L' := [(.ref (7)), (zq_vi (x1)), zz_no]) (st' := [(zq_vi (64)), (zq_vi (x1)), (.long (zq_l s (20) (zq_div (x1) (64))))]) (fun _ _ _ => rfl) ?_
      refine zq_irem rfl (of_decide_eq_true rfl) (of_decide_eq_true rfl) ?_
      refine zq_run 4 (pc' := 34) (L' := [(.ref (7)), (zq_vi (x1)), zz_no]) (st' := [(.long (0)), (.long (((zq_l s (20) (zq_div (x1) (64))) >>> ((Int32.ofInt (zq_rem (x1) (64))).toInt64 &&& 63)) &&& (1)))]) (fun _ _ _ => rfl) ?_
      refine zq_lcne rfl rfl (fun hb_7 => ?_) (fun hb_7 => ?_)
      · rw [if_neg hb_7] at w
        refine zq_run 3 (pc' := 45) (L' := [(.ref (7)), (zq_vi (x1)), (zq_vi (0))]) (st' := [(.ref (7))]) (fun _ _ _ => rfl) ?_
        refine zq_getf_f (b := 20) rfl zq_a7 rfl rfl ?_
        refine zq_run 2 (pc' := 51) (L' := [(.ref (7)), (zq_vi (x1)), (zq_vi (0))]) (st' := [(zq_vi (64)), (zq_vi (x1)), (.ref (20))]) (fun _ _ _ => rfl) ?_
        refine zq_idiv rfl (of_decide_eq_true rfl) (of_decide_eq_true rfl) ?_
        refine zq_run 1 (pc' := 53) (L' := [(.ref (7)), (zq_vi (x1)), (zq_vi (0))]) (st' := [(zq_vi (zq_div (x1) (64))), (.ref (20)), (zq_vi (zq_div (x1) (64))), (.ref (20))]) (fun _ _ _ => rfl) ?_
        obtain ⟨g_8, w⟩ := w
        refine zq_ald_l (v := zq_l s (20) (zq_div (x1) (64))) rfl zq_a20 g_8.1 g_8.2 rfl ?_
        refine zq_run 3 (pc' := 58) (L' := [(.ref (7)), (zq_vi (x1)), (zq_vi (0))]) (st' := [(zq_vi (64)), (zq_vi (x1)), (.long (1)), (.long (zq_l s (20) (zq_div (x1) (64)))), (zq_vi (zq_div (x1) (64))), (.ref (20))]) (fun _ _ _ => rfl) ?_
        refine zq_irem rfl (of_decide_eq_true rfl) (of_decide_eq_true rfl) ?_
        refine zq_run 2 (pc' := 61) (L' := [(.ref (7)), (zq_vi (x1)), (zq_vi (0))]) (st' := [(.long ((zq_l s (20) (zq_div (x1) (64))) ||| ((1) <<< ((Int32.ofInt (zq_rem (x1) (64))).toInt64 &&& 63)))), (zq_vi (zq_div (x1) (64))), (.ref (20))]) (fun _ _ _ => rfl) ?_
        obtain ⟨g_9, w⟩ := w
        refine zq_ast_l rfl zq_a20 g_9.1 g_9.2  ?_
        refine zq_run 1 (pc' := 63) (L' := [(.ref (7)), (zq_vi (x1)), (zq_vi (0))]) (st' := [(zq_vi (0))]) (fun _ _ _ => rfl) ?_
        exact zq_iret rfl rfl (congrArg Value.int (zq_nb (of_decide_eq_true rfl))) (⟨_, rfl, (of_decide_eq_true rfl), w⟩)
      · rw [if_pos hb_7] at w
        refine zq_run 4 (pc' := 45) (L' := [(.ref (7)), (zq_vi (x1)), (zq_vi (1))]) (st' := [(.ref (7))]) (fun _ _ _ => rfl) ?_
        refine zq_getf_f (b := 20) rfl zq_a7 rfl rfl ?_
        refine zq_run 2 (pc' := 51) (L' := [(.ref (7)), (zq_vi (x1)), (zq_vi (1))]) (st' := [(zq_vi (64)), (zq_vi (x1)), (.ref (20))]) (fun _ _ _ => rfl) ?_
        refine zq_idiv rfl (of_decide_eq_true rfl) (of_decide_eq_true rfl) ?_
        refine zq_run 1 (pc' := 53) (L' := [(.ref (7)), (zq_vi (x1)), (zq_vi (1))]) (st' := [(zq_vi (zq_div (x1) (64))), (.ref (20)), (zq_vi (zq_div (x1) (64))), (.ref (20))]) (fun _ _ _ => rfl) ?_
        obtain ⟨g_10, w⟩ := w
        refine zq_ald_l (v := zq_l s (20) (zq_div (x1) (64))) rfl zq_a20 g_10.1 g_10.2 rfl ?_
        refine zq_run 3 (pc' := 58) (L' := [(.ref (7)), (zq_vi (x1)), (zq_vi (1))]) (st' := [(zq_vi (64)), (zq_vi (x1)), (.long (1)), (.long (zq_l s (20) (zq_div (x1) (64)))), (zq_vi (zq_div (x1) (64))), (.ref (20))]) (fun _ _ _ => rfl) ?_
        refine zq_irem rfl (of_decide_eq_true rfl) (of_decide_eq_true rfl) ?_
        refine zq_run 2 (pc' := 61) (L' := [(.ref (7)), (zq_vi (x1)), (zq_vi (1))]) (st' := [(.long ((zq_l s (20) (zq_div (x1) (64))) ||| ((1) <<< ((Int32.ofInt (zq_rem (x1) (64))).toInt64 &&& 63)))), (zq_vi (zq_div (x1) (64))), (.ref (20))]) (fun _ _ _ => rfl) ?_
        obtain ⟨g_11, w⟩ := w
        refine zq_ast_l rfl zq_a20 g_11.1 g_11.2  ?_
        refine zq_run 1 (pc' := 63) (L' := [(.ref (7)), (zq_vi (x1)), (zq_vi (1))]) (st' := [(zq_vi (1))]) (fun _ _ _ => rfl) ?_
        exact zq_iret rfl rfl (congrArg Value.int (zq_nb (of_decide_eq_true rfl))) (⟨_, rfl, (of_decide_eq_true rfl), w⟩)
    · rw [if_neg hb_5] at w
      refine zq_run 1 (pc' := 16) (L' := [(.ref (7)), (zq_vi (x1)), zz_no]) (st' := [(zq_vi (0))]) (fun _ _ _ => rfl) ?_
      exact zq_iret rfl rfl (congrArg Value.int (zq_nb (of_decide_eq_true rfl))) (⟨_, rfl, (of_decide_eq_true rfl), w⟩)
/-- PaperObjects$Loader.takeEntries(I)I -/
theorem zw_113 {X : Nat × (Nat → Int32)} {s : zq_S} {K : Int → zq_S → Prop} {x1 : Int} (hx1 : zq_iv x1) (w : (∃ b_2 : Nat, zq_r s (7) 6 = some b_2 ∧ (zq_Ex X 49 0 [(.ref (b_2)), (zq_vi (x1)), (.ref (1000000 + 26)), zz_no] [] s (zq_rp zq_bo fun x_5 s_4 => (if x_5 = 0 then K ((-1)) s_4 else zq_Ex X 113 25 [(.ref (7)), (zq_vi (x1)), (zq_vi (x1 + 5)), (zq_vi (0))] [] s_4 (zq_rp zq_iv K)))))) : zq_Ex X 113 0 [(.ref (7)), (zq_vi (x1)), zz_no, zz_no] [] s (zq_rp zq_iv K) := by
  refine zq_run 1 (pc' := 1) (L' := [(.ref (7)), (zq_vi (x1)), zz_no, zz_no]) (st' := [(.ref (7))]) (fun _ _ _ => rfl) ?_
  refine zq_have (fun hR_1 => ?_)
  obtain ⟨b_2, hb_3, w⟩ := w
  refine zq_getf_rs (j := 6) rfl zq_a7 rfl rfl hb_3 ?_
  refine zq_run 2 (pc' := 7) (L' := [(.ref (7)), (zq_vi (x1)), zz_no, zz_no]) (st' := [(.ref (1000000 + 26)), (zq_vi (x1)), (.ref (b_2))]) (fun _ _ _ => rfl) ?_
  refine zq_call_i (i := .invokevirtual 119) (r := [1, 49, 2, 1, 1]) rfl rfl (fun h hp => zr_avv rfl (hp.obj (zq_fcls hR_1 (k := 6) (j := 6) (cj := 1) zq_a7 rfl rfl hb_3))) (of_decide_eq_false rfl) w (fun x_5 s_4 hx_6 w => ?_)
  refine zq_ne0 rfl (zq_bo_in hx_6) (fun hb_7 => ?_) (fun hb_7 => ?_)
  · rw [if_neg hb_7] at w
    refine zq_run 2 (pc' := 18) (L' := [(.ref (7)), (zq_vi (x1)), zz_no, zz_no]) (st' := [(.ref (1000000 + 26)), (zq_vi (x1))]) (fun _ _ _ => rfl) ?_
    refine zq_strl (j := 26) (m := 5) rfl (of_decide_eq_true rfl) rfl rfl ?_
    refine zq_iadd rfl ?_
    refine zq_run 3 (pc' := 25) (L' := [(.ref (7)), (zq_vi (x1)), (zq_vi (x1 + 5)), (zq_vi (0))]) (st' := []) (fun _ _ _ => rfl) ?_
    exact w
  · rw [if_pos hb_7] at w
    refine zq_run 1 (pc' := 14) (L' := [(.ref (7)), (zq_vi (x1)), zz_no, zz_no]) (st' := [(zq_vi ((-1)))]) (fun _ _ _ => rfl) ?_
    exact zq_iret rfl rfl rfl (⟨_, rfl, (of_decide_eq_true rfl), w⟩)
/-- PaperObjects$Loader.takeEntries at 25 -/
theorem zw_113_25 {X : Nat × (Nat → Int32)} {s : zq_S} {K : Int → zq_S → Prop} {x1 : Int} (hx1 : zq_iv x1) {x2 : Int} (hx2 : zq_iv x2) {x3 : Int} (hx3 : zq_iv x3) (w : (if x3 < 999 then (∃ b_11 : Nat, zq_r s (7) 6 = some b_11 ∧ (zq_Ex X 29 0 [(.ref (b_11)), (zq_vi (x2))] [] s (zq_rp zq_iv fun x_14 s_13 => (zq_Ex X 114 0 [(zq_vi (x_14))] [] s_13 (zq_rp zq_bo fun x_17 s_16 => (if x_17 = 0 then (∃ b_21 : Nat, zq_r s_16 (7) 6 = some b_21 ∧ (zq_Ex X 49 0 [(.ref (b_21)), (zq_vi (x2)), (.ref (1000000 + 29)), zz_no] [] s_16 (zq_rp zq_bo fun x_24 s_23 => (if x_24 = 0 then K ((-1)) s_23 else (zq_iv (x2 + 8) ∧ K (x2 + 8) s_23))))) else (zq_Ex X 115 0 [(.ref (7)), (zq_vi (x2)), zz_no, zz_no, zz_no, zz_no, zz_no] [] s_16 (zq_rp zq_iv fun x_29 s_28 => zq_Ex X 113 25 [(.ref (7)), (zq_vi (x1)), (zq_vi (x_29)), (zq_vi (x3 + 1))] [] s_28 (zq_rp zq_iv K))))))))) else (∃ b_3 : Nat, zq_r s (7) 6 = some b_3 ∧ (zq_Ex X 49 0 [(.ref (b_3)), (zq_vi (x2)), (.ref (1000000 + 29)), zz_no] [] s (zq_rp zq_bo fun x_6 s_5 => (if x_6 = 0 then K ((-1)) s_5 else (zq_iv (x2 + 8) ∧ K (x2 + 8) s_5))))))) : zq_Ex X 113 25 [(.ref (7)), (zq_vi (x1)), (zq_vi (x2)), (zq_vi (x3))] [] s (zq_rp zq_iv K) := by
  refine zq_run 2 (pc' := 29) (L' := [(.ref (7)), (zq_vi (x1)), (zq_vi (x2)), (zq_vi (x3))]) (st' := [(zq_vi (999)), (zq_vi (x3))]) (fun _ _ _ => rfl) ?_
  refine zq_ge rfl hx3 (of_decide_eq_true rfl) (fun hb_1 => ?_) (fun hb_1 => ?_)
  · rw [if_neg hb_1] at w
    refine zq_run 1 (pc' := 59) (L' := [(.ref (7)), (zq_vi (x1)), (zq_vi (x2)), (zq_vi (x3))]) (st' := [(.ref (7))]) (fun _ _ _ => rfl) ?_
    refine zq_have (fun hR_2 => ?_)
    obtain ⟨b_3, hb_4, w⟩ := w
    refine zq_getf_rs (j := 6) rfl zq_a7 rfl rfl hb_4 ?_
    refine zq_run 2 (pc' := 65) (L' := [(.ref (7)), (zq_vi (x1)), (zq_vi (x2)), (zq_vi (x3))]) (st' := [(.ref (1000000 + 29)), (zq_vi (x2)), (.ref (b_3))]) (fun _ _ _ => rfl) ?_
    refine zq_call_i (i := .invokevirtual 119) (r := [1, 49, 2, 1, 1]) rfl rfl (fun h hp => zr_avv rfl (hp.obj (zq_fcls hR_2 (k := 6) (j := 6) (cj := 1) zq_a7 rfl rfl hb_4))) (of_decide_eq_false rfl) w (fun x_6 s_5 hx_7 w => ?_)
    refine zq_eq0 rfl (zq_bo_in hx_7) (fun hb_8 => ?_) (fun hb_8 => ?_)
    · rw [if_pos hb_8] at w
      refine zq_run 1 (pc' := 82) (L' := [(.ref (7)), (zq_vi (x1)), (zq_vi (x2)), (zq_vi (x3))]) (st' := [(zq_vi ((-1)))]) (fun _ _ _ => rfl) ?_
      exact zq_iret rfl rfl rfl (⟨_, rfl, (of_decide_eq_true rfl), w⟩)
    · rw [if_neg hb_8] at w
      refine zq_run 2 (pc' := 74) (L' := [(.ref (7)), (zq_vi (x1)), (zq_vi (x2)), (zq_vi (x3))]) (st' := [(.ref (1000000 + 29)), (zq_vi (x2))]) (fun _ _ _ => rfl) ?_
      refine zq_strl (j := 29) (m := 8) rfl (of_decide_eq_true rfl) rfl rfl ?_
      refine zq_iadd rfl ?_
      refine zq_run 1 (pc' := 82) (L' := [(.ref (7)), (zq_vi (x1)), (zq_vi (x2)), (zq_vi (x3))]) (st' := [(zq_vi (x2 + 8))]) (fun _ _ _ => rfl) ?_
      obtain ⟨g_9, w⟩ := w
      exact zq_iret rfl rfl rfl (⟨_, rfl, g_9, w⟩)
  · rw [if_pos hb_1] at w
    refine zq_run 1 (pc' := 33) (L' := [(.ref (7)), (zq_vi (x1)), (zq_vi (x2)), (zq_vi (x3))]) (st' := [(.ref (7))]) (fun _ _ _ => rfl) ?_
    refine zq_have (fun hR_10 => ?_)
    obtain ⟨b_11, hb_12, w⟩ := w
    refine zq_getf_rs (j := 6) rfl zq_a7 rfl rfl hb_12 ?_
    refine zq_run 1 (pc' := 37) (L' := [(.ref (7)), (zq_vi (x1)), (zq_vi (x2)), (zq_vi (x3))]) (st' := [(zq_vi (x2)), (.ref (b_11))]) (fun _ _ _ => rfl) ?_
    refine zq_call_i (i := .invokevirtual 127) (r := [1, 29, 1, 1, 1]) rfl rfl (fun h hp => zr_avv rfl (hp.obj (zq_fcls hR_10 (k := 6) (j := 6) (cj := 1) zq_a7 rfl rfl hb_12))) (of_decide_eq_false rfl) w (fun x_14 s_13 hx_15 w => ?_)
    refine zq_call_i (i := .invokestatic 130) (r := [1, 114, 1, 0, 0]) rfl rfl (fun _ _ => rfl) (of_decide_eq_false rfl) w (fun x_17 s_16 hx_18 w => ?_)
    refine zq_eq0 rfl (zq_bo_in hx_18) (fun hb_19 => ?_) (fun hb_19 => ?_)
    · rw [if_pos hb_19] at w
      refine zq_run 1 (pc' := 59) (L' := [(.ref (7)), (zq_vi (x1)), (zq_vi (x2)), (zq_vi (x3))]) (st' := [(.ref (7))]) (fun _ _ _ => rfl) ?_
      refine zq_have (fun hR_20 => ?_)
      obtain ⟨b_21, hb_22, w⟩ := w
      refine zq_getf_rs (j := 6) rfl zq_a7 rfl rfl hb_22 ?_
      refine zq_run 2 (pc' := 65) (L' := [(.ref (7)), (zq_vi (x1)), (zq_vi (x2)), (zq_vi (x3))]) (st' := [(.ref (1000000 + 29)), (zq_vi (x2)), (.ref (b_21))]) (fun _ _ _ => rfl) ?_
      refine zq_call_i (i := .invokevirtual 119) (r := [1, 49, 2, 1, 1]) rfl rfl (fun h hp => zr_avv rfl (hp.obj (zq_fcls hR_20 (k := 6) (j := 6) (cj := 1) zq_a7 rfl rfl hb_22))) (of_decide_eq_false rfl) w (fun x_24 s_23 hx_25 w => ?_)
      refine zq_eq0 rfl (zq_bo_in hx_25) (fun hb_26 => ?_) (fun hb_26 => ?_)
      · rw [if_pos hb_26] at w
        refine zq_run 1 (pc' := 82) (L' := [(.ref (7)), (zq_vi (x1)), (zq_vi (x2)), (zq_vi (x3))]) (st' := [(zq_vi ((-1)))]) (fun _ _ _ => rfl) ?_
        exact zq_iret rfl rfl rfl (⟨_, rfl, (of_decide_eq_true rfl), w⟩)
      · rw [if_neg hb_26] at w
        refine zq_run 2 (pc' := 74) (L' := [(.ref (7)), (zq_vi (x1)), (zq_vi (x2)), (zq_vi (x3))]) (st' := [(.ref (1000000 + 29)), (zq_vi (x2))]) (fun _ _ _ => rfl) ?_
        refine zq_strl (j := 29) (m := 8) rfl (of_decide_eq_true rfl) rfl rfl ?_
        refine zq_iadd rfl ?_
        refine zq_run 1 (pc' := 82) (L' := [(.ref (7)), (zq_vi (x1)), (zq_vi (x2)), (zq_vi (x3))]) (st' := [(zq_vi (x2 + 8))]) (fun _ _ _ => rfl) ?_
        obtain ⟨g_27, w⟩ := w
        exact zq_iret rfl rfl rfl (⟨_, rfl, g_27, w⟩)
    · rw [if_neg hb_19] at w
      refine zq_run 2 (pc' := 48) (L' := [(.ref (7)), (zq_vi (x1)), (zq_vi (x2)), (zq_vi (x3))]) (st' := [(zq_vi (x2)), (.ref (7))]) (fun _ _ _ => rfl) ?_
      refine zq_call_i (i := .invokevirtual 133) (r := [1, 115, 1, 1, 5]) rfl rfl (fun h hp => zr_avv rfl (hp.obj zq_a7)) (of_decide_eq_false rfl) w (fun x_29 s_28 hx_30 w => ?_)
      refine zq_run 1 (pc' := 52) (L' := [(.ref (7)), (zq_vi (x1)), (zq_vi (x_29)), (zq_vi (x3))]) (st' := []) (fun _ _ _ => rfl) ?_
      refine zq_iinc (L' := [(.ref (7)), (zq_vi (x1)), (zq_vi (x_29)), (zq_vi (x3 + 1))]) rfl rfl rfl ?_
      refine zq_run 1 (pc' := 25) (L' := [(.ref (7)), (zq_vi (x1)), (zq_vi (x_29)), (zq_vi (x3 + 1))]) (st' := []) (fun _ _ _ => rfl) ?_
      exact w
/-- PaperObjects.isObjectDigit(I)Z -/
theorem zw_114 {X : Nat × (Nat → Int32)} {s : zq_S} {K : Int → zq_S → Prop} {x0 : Int} (hx0 : zq_iv x0) (w : (if x0 < 49 then K (0) s else (if x0 ≤ 57 then K (1) s else K (0) s))) : zq_Ex X 114 0 [(zq_vi (x0))] [] s (zq_rp zq_bo K) := by
  refine zq_run 2 (pc' := 3) (L' := [(zq_vi (x0))]) (st' := [(zq_vi (49)), (zq_vi (x0))]) (fun _ _ _ => rfl) ?_
  refine zq_lt rfl hx0 (of_decide_eq_true rfl) (fun hb_1 => ?_) (fun hb_1 => ?_)
  · rw [if_pos hb_1] at w
    refine zq_run 1 (pc' := 17) (L' := [(zq_vi (x0))]) (st' := [(zq_vi (0))]) (fun _ _ _ => rfl) ?_
    exact zq_iret rfl rfl (congrArg Value.int (zq_nb (of_decide_eq_true rfl))) (⟨_, rfl, (of_decide_eq_true rfl), w⟩)
  · rw [if_neg hb_1] at w
    refine zq_run 2 (pc' := 9) (L' := [(zq_vi (x0))]) (st' := [(zq_vi (57)), (zq_vi (x0))]) (fun _ _ _ => rfl) ?_
    refine zq_gt rfl hx0 (of_decide_eq_true rfl) (fun hb_2 => ?_) (fun hb_2 => ?_)
    · rw [if_neg hb_2] at w
      refine zq_run 1 (pc' := 17) (L' := [(zq_vi (x0))]) (st' := [(zq_vi (0))]) (fun _ _ _ => rfl) ?_
      exact zq_iret rfl rfl (congrArg Value.int (zq_nb (of_decide_eq_true rfl))) (⟨_, rfl, (of_decide_eq_true rfl), w⟩)
    · rw [if_pos hb_2] at w
      refine zq_run 2 (pc' := 17) (L' := [(zq_vi (x0))]) (st' := [(zq_vi (1))]) (fun _ _ _ => rfl) ?_
      exact zq_iret rfl rfl (congrArg Value.int (zq_nb (of_decide_eq_true rfl))) (⟨_, rfl, (of_decide_eq_true rfl), w⟩)
/-- PaperObjects$Loader.takeRun(I)I -/
theorem zw_115 {X : Nat × (Nat → Int32)} {s : zq_S} {K : Int → zq_S → Prop} {x1 : Int} (hx1 : zq_iv x1) (w : (∃ b_2 : Nat, zq_r s (7) 6 = some b_2 ∧ (zq_Ex X 29 0 [(.ref (b_2)), (zq_vi (x1))] [] s (zq_rp zq_iv fun x_5 s_4 => (∃ b_8 : Nat, zq_r s_4 (7) 6 = some b_8 ∧ (zq_Ex X 29 0 [(.ref (b_8)), (zq_vi (x1 + 2))] [] s_4 (zq_rp zq_iv fun x_11 s_10 => (∃ b_14 : Nat, zq_r s_10 (7) 6 = some b_14 ∧ (zq_Ex X 29 0 [(.ref (b_14)), (zq_vi (x1 + 1))] [] s_10 (zq_rp zq_iv fun x_17 s_16 => (if x_17 = 32 then (∃ b_21 : Nat, zq_r s_16 (7) 6 = some b_21 ∧ (zq_Ex X 29 0 [(.ref (b_21)), (zq_vi (x1 + 2))] [] s_16 (zq_rp zq_iv fun x_24 s_23 => (zq_Ex X 114 0 [(zq_vi (x_24))] [] s_23 (zq_rp zq_bo fun x_27 s_26 => (if x_27 = 0 then K ((-1)) s_26 else (∃ b_31 : Nat, zq_r s_26 (7) 6 = some b_31 ∧ (zq_Ex X 29 0 [(.ref (b_31)), (zq_vi (x1 + 3))] [] s_26 (zq_rp zq_iv fun x_34 s_33 => (if x_34 = 10 then (zq_iv (((x_5 - 48) + (x_11 - 48)) - 1) ∧ (if ((x_5 - 48) + (x_11 - 48)) - 1 ≤ 9 then zq_Ex X 115 104 [(.ref (7)), (zq_vi (x1)), (zq_vi (x_5 - 48)), (zq_vi (x_11 - 48)), (zq_vi (1)), (zq_vi (x1 + 4)), (zq_vi (x_5 - 48))] [] s_33 (zq_rp zq_iv K) else K ((-1)) s_33)) else K ((-1)) s_33)))))))))) else K ((-1)) s_16))))))))))) : zq_Ex X 115 0 [(.ref (7)), (zq_vi (x1)), zz_no, zz_no, zz_no, zz_no, zz_no] [] s (zq_rp zq_iv K) := by
  refine zq_run 1 (pc' := 1) (L' := [(.ref (7)), (zq_vi (x1)), zz_no, zz_no, zz_no, zz_no, zz_no]) (st' := [(.ref (7))]) (fun _ _ _ => rfl) ?_
  refine zq_have (fun hR_1 => ?_)
  obtain ⟨b_2, hb_3, w⟩ := w
  refine zq_getf_rs (j := 6) rfl zq_a7 rfl rfl hb_3 ?_
  refine zq_run 1 (pc' := 5) (L' := [(.ref (7)), (zq_vi (x1)), zz_no, zz_no, zz_no, zz_no, zz_no]) (st' := [(zq_vi (x1)), (.ref (b_2))]) (fun _ _ _ => rfl) ?_
  refine zq_call_i (i := .invokevirtual 127) (r := [1, 29, 1, 1, 1]) rfl rfl (fun h hp => zr_avv rfl (hp.obj (zq_fcls hR_1 (k := 6) (j := 6) (cj := 1) zq_a7 rfl rfl hb_3))) (of_decide_eq_false rfl) w (fun x_5 s_4 hx_6 w => ?_)
  refine zq_run 1 (pc' := 10) (L' := [(.ref (7)), (zq_vi (x1)), zz_no, zz_no, zz_no, zz_no, zz_no]) (st' := [(zq_vi (48)), (zq_vi (x_5))]) (fun _ _ _ => rfl) ?_
  refine zq_isub rfl ?_
  refine zq_run 2 (pc' := 13) (L' := [(.ref (7)), (zq_vi (x1)), (zq_vi (x_5 - 48)), zz_no, zz_no, zz_no, zz_no]) (st' := [(.ref (7))]) (fun _ _ _ => rfl) ?_
  refine zq_have (fun hR_7 => ?_)
  obtain ⟨b_8, hb_9, w⟩ := w
  refine zq_getf_rs (j := 6) rfl zq_a7 rfl rfl hb_9 ?_
  refine zq_run 2 (pc' := 18) (L' := [(.ref (7)), (zq_vi (x1)), (zq_vi (x_5 - 48)), zz_no, zz_no, zz_no, zz_no]) (st' := [(zq_vi (2)), (zq_vi (x1)), (.ref (b_8))]) (fun _ _ _ => rfl) ?_
  refine zq_iadd rfl ?_
  refine zq_call_i (i := .invokevirtual 127) (r := [1, 29, 1, 1, 1]) rfl rfl (fun h hp => zr_avv rfl (hp.obj (zq_fcls hR_7 (k := 6) (j := 6) (cj := 1) zq_a7 rfl rfl hb_9))) (of_decide_eq_false rfl) w (fun x_11 s_10 hx_12 w => ?_)
  refine zq_run 1 (pc' := 24) (L' := [(.ref (7)), (zq_vi (x1)), (zq_vi (x_5 - 48)), zz_no, zz_no, zz_no, zz_no]) (st' := [(zq_vi (48)), (zq_vi (x_11))]) (fun _ _ _ => rfl) ?_
  refine zq_isub rfl ?_
  refine zq_run 2 (pc' := 27) (L' := [(.ref (7)), (zq_vi (x1)), (zq_vi (x_5 - 48)), (zq_vi (x_11 - 48)), zz_no, zz_no, zz_no]) (st' := [(.ref (7))]) (fun _ _ _ => rfl) ?_
  refine zq_have (fun hR_13 => ?_)
  obtain ⟨b_14, hb_15, w⟩ := w
  refine zq_getf_rs (j := 6) rfl zq_a7 rfl rfl hb_15 ?_
  refine zq_run 2 (pc' := 32) (L' := [(.ref (7)), (zq_vi (x1)), (zq_vi (x_5 - 48)), (zq_vi (x_11 - 48)), zz_no, zz_no, zz_no]) (st' := [(zq_vi (1)), (zq_vi (x1)), (.ref (b_14))]) (fun _ _ _ => rfl) ?_
  refine zq_iadd rfl ?_
  refine zq_call_i (i := .invokevirtual 127) (r := [1, 29, 1, 1, 1]) rfl rfl (fun h hp => zr_avv rfl (hp.obj (zq_fcls hR_13 (k := 6) (j := 6) (cj := 1) zq_a7 rfl rfl hb_15))) (of_decide_eq_false rfl) w (fun x_17 s_16 hx_18 w => ?_)
  refine zq_run 1 (pc' := 38) (L' := [(.ref (7)), (zq_vi (x1)), (zq_vi (x_5 - 48)), (zq_vi (x_11 - 48)), zz_no, zz_no, zz_no]) (st' := [(zq_vi (32)), (zq_vi (x_17))]) (fun _ _ _ => rfl) ?_
  refine zq_ne rfl hx_18 (of_decide_eq_true rfl) (fun hb_19 => ?_) (fun hb_19 => ?_)
  · rw [if_neg hb_19] at w
    refine zq_run 3 (pc' := 81) (L' := [(.ref (7)), (zq_vi (x1)), (zq_vi (x_5 - 48)), (zq_vi (x_11 - 48)), (zq_vi (0)), zz_no, zz_no]) (st' := [(zq_vi (0))]) (fun _ _ _ => rfl) ?_
    refine zq_eq0 rfl (of_decide_eq_true rfl) (fun _ => ?_) (fun hb => absurd (by decide) hb)
    refine zq_run 1 (pc' := 95) (L' := [(.ref (7)), (zq_vi (x1)), (zq_vi (x_5 - 48)), (zq_vi (x_11 - 48)), (zq_vi (0)), zz_no, zz_no]) (st' := [(zq_vi ((-1)))]) (fun _ _ _ => rfl) ?_
    exact zq_iret rfl rfl rfl (⟨_, rfl, (of_decide_eq_true rfl), w⟩)
  · rw [if_pos hb_19] at w
    refine zq_run 1 (pc' := 42) (L' := [(.ref (7)), (zq_vi (x1)), (zq_vi (x_5 - 48)), (zq_vi (x_11 - 48)), zz_no, zz_no, zz_no]) (st' := [(.ref (7))]) (fun _ _ _ => rfl) ?_
    refine zq_have (fun hR_20 => ?_)
    obtain ⟨b_21, hb_22, w⟩ := w
    refine zq_getf_rs (j := 6) rfl zq_a7 rfl rfl hb_22 ?_
    refine zq_run 2 (pc' := 47) (L' := [(.ref (7)), (zq_vi (x1)), (zq_vi (x_5 - 48)), (zq_vi (x_11 - 48)), zz_no, zz_no, zz_no]) (st' := [(zq_vi (2)), (zq_vi (x1)), (.ref (b_21))]) (fun _ _ _ => rfl) ?_
    refine zq_iadd rfl ?_
    refine zq_call_i (i := .invokevirtual 127) (r := [1, 29, 1, 1, 1]) rfl rfl (fun h hp => zr_avv rfl (hp.obj (zq_fcls hR_20 (k := 6) (j := 6) (cj := 1) zq_a7 rfl rfl hb_22))) (of_decide_eq_false rfl) w (fun x_24 s_23 hx_25 w => ?_)
    refine zq_call_i (i := .invokestatic 130) (r := [1, 114, 1, 0, 0]) rfl rfl (fun _ _ => rfl) (of_decide_eq_false rfl) w (fun x_27 s_26 hx_28 w => ?_)
    refine zq_eq0 rfl (zq_bo_in hx_28) (fun hb_29 => ?_) (fun hb_29 => ?_)
    · rw [if_pos hb_29] at w
      refine zq_run 3 (pc' := 81) (L' := [(.ref (7)), (zq_vi (x1)), (zq_vi (x_5 - 48)), (zq_vi (x_11 - 48)), (zq_vi (0)), zz_no, zz_no]) (st' := [(zq_vi (0))]) (fun _ _ _ => rfl) ?_
      refine zq_eq0 rfl (of_decide_eq_true rfl) (fun _ => ?_) (fun hb => absurd (by decide) hb)
      refine zq_run 1 (pc' := 95) (L' := [(.ref (7)), (zq_vi (x1)), (zq_vi (x_5 - 48)), (zq_vi (x_11 - 48)), (zq_vi (0)), zz_no, zz_no]) (st' := [(zq_vi ((-1)))]) (fun _ _ _ => rfl) ?_
      exact zq_iret rfl rfl rfl (⟨_, rfl, (of_decide_eq_true rfl), w⟩)
    · rw [if_neg hb_29] at w
      refine zq_run 1 (pc' := 58) (L' := [(.ref (7)), (zq_vi (x1)), (zq_vi (x_5 - 48)), (zq_vi (x_11 - 48)), zz_no, zz_no, zz_no]) (st' := [(.ref (7))]) (fun _ _ _ => rfl) ?_
      refine zq_have (fun hR_30 => ?_)
      obtain ⟨b_31, hb_32, w⟩ := w
      refine zq_getf_rs (j := 6) rfl zq_a7 rfl rfl hb_32 ?_
      refine zq_run 2 (pc' := 63) (L' := [(.ref (7)), (zq_vi (x1)), (zq_vi (x_5 - 48)), (zq_vi (x_11 - 48)), zz_no, zz_no, zz_no]) (st' := [(zq_vi (3)), (zq_vi (x1)), (.ref (b_31))]) (fun _ _ _ => rfl) ?_
      refine zq_iadd rfl ?_
      refine zq_call_i (i := .invokevirtual 127) (r := [1, 29, 1, 1, 1]) rfl rfl (fun h hp => zr_avv rfl (hp.obj (zq_fcls hR_30 (k := 6) (j := 6) (cj := 1) zq_a7 rfl rfl hb_32))) (of_decide_eq_false rfl) w (fun x_34 s_33 hx_35 w => ?_)
      refine zq_run 1 (pc' := 69) (L' := [(.ref (7)), (zq_vi (x1)), (zq_vi (x_5 - 48)), (zq_vi (x_11 - 48)), zz_no, zz_no, zz_no]) (st' := [(zq_vi (10)), (zq_vi (x_34))]) (fun _ _ _ => rfl) ?_
      refine zq_ne rfl hx_35 (of_decide_eq_true rfl) (fun hb_36 => ?_) (fun hb_36 => ?_)
      · rw [if_neg hb_36] at w
        refine zq_run 3 (pc' := 81) (L' := [(.ref (7)), (zq_vi (x1)), (zq_vi (x_5 - 48)), (zq_vi (x_11 - 48)), (zq_vi (0)), zz_no, zz_no]) (st' := [(zq_vi (0))]) (fun _ _ _ => rfl) ?_
        refine zq_eq0 rfl (of_decide_eq_true rfl) (fun _ => ?_) (fun hb => absurd (by decide) hb)
        refine zq_run 1 (pc' := 95) (L' := [(.ref (7)), (zq_vi (x1)), (zq_vi (x_5 - 48)), (zq_vi (x_11 - 48)), (zq_vi (0)), zz_no, zz_no]) (st' := [(zq_vi ((-1)))]) (fun _ _ _ => rfl) ?_
        exact zq_iret rfl rfl rfl (⟨_, rfl, (of_decide_eq_true rfl), w⟩)
      · rw [if_pos hb_36] at w
        refine zq_run 4 (pc' := 81) (L' := [(.ref (7)), (zq_vi (x1)), (zq_vi (x_5 - 48)), (zq_vi (x_11 - 48)), (zq_vi (1)), zz_no, zz_no]) (st' := [(zq_vi (1))]) (fun _ _ _ => rfl) ?_
        refine zq_eq0 rfl (of_decide_eq_true rfl) (fun hb => absurd hb (by decide)) (fun _ => ?_)
        refine zq_run 2 (pc' := 86) (L' := [(.ref (7)), (zq_vi (x1)), (zq_vi (x_5 - 48)), (zq_vi (x_11 - 48)), (zq_vi (1)), zz_no, zz_no]) (st' := [(zq_vi (x_11 - 48)), (zq_vi (x_5 - 48))]) (fun _ _ _ => rfl) ?_
        refine zq_iadd rfl ?_
        refine zq_run 1 (pc' := 88) (L' := [(.ref (7)), (zq_vi (x1)), (zq_vi (x_5 - 48)), (zq_vi (x_11 - 48)), (zq_vi (1)), zz_no, zz_no]) (st' := [(zq_vi (1)), (zq_vi ((x_5 - 48) + (x_11 - 48)))]) (fun _ _ _ => rfl) ?_
        refine zq_isub rfl ?_
        refine zq_run 1 (pc' := 91) (L' := [(.ref (7)), (zq_vi (x1)), (zq_vi (x_5 - 48)), (zq_vi (x_11 - 48)), (zq_vi (1)), zz_no, zz_no]) (st' := [(zq_vi (9)), (zq_vi (((x_5 - 48) + (x_11 - 48)) - 1))]) (fun _ _ _ => rfl) ?_
        obtain ⟨g_37, w⟩ := w
        refine zq_le rfl g_37 (of_decide_eq_true rfl) (fun hb_38 => ?_) (fun hb_38 => ?_)
        · rw [if_pos hb_38] at w
          refine zq_run 2 (pc' := 98) (L' := [(.ref (7)), (zq_vi (x1)), (zq_vi (x_5 - 48)), (zq_vi (x_11 - 48)), (zq_vi (1)), zz_no, zz_no]) (st' := [(zq_vi (4)), (zq_vi (x1))]) (fun _ _ _ => rfl) ?_
          refine zq_iadd rfl ?_
          refine zq_run 3 (pc' := 104) (L' := [(.ref (7)), (zq_vi (x1)), (zq_vi (x_5 - 48)), (zq_vi (x_11 - 48)), (zq_vi (1)), (zq_vi (x1 + 4)), (zq_vi (x_5 - 48))]) (st' := []) (fun _ _ _ => rfl) ?_
          exact w
        · rw [if_neg hb_38] at w
          refine zq_run 1 (pc' := 95) (L' := [(.ref (7)), (zq_vi (x1)), (zq_vi (x_5 - 48)), (zq_vi (x_11 - 48)), (zq_vi (1)), zz_no, zz_no]) (st' := [(zq_vi ((-1)))]) (fun _ _ _ => rfl) ?_
          exact zq_iret rfl rfl rfl (⟨_, rfl, (of_decide_eq_true rfl), w⟩)
/-- PaperObjects$Loader.takeRun at 104 -/
theorem zw_115_104 {X : Nat × (Nat → Int32)} {s : zq_S} {K : Int → zq_S → Prop} {x1 : Int} (hx1 : zq_iv x1) {x2 : Int} (hx2 : zq_iv x2) {x3 : Int} (hx3 : zq_iv x3) {x4 : Int} (hx4 : zq_bo x4) {x5 : Int} (hx5 : zq_iv x5) {x6 : Int} (hx6 : zq_iv x6) (w : (zq_iv (x2 + x3) ∧ (if x6 < x2 + x3 then (zq_Ex X 116 0 [(.ref (7)), (zq_vi (x5))] [] s (zq_rp zq_bo fun x_4 s_3 => (if x_4 = 0 then K ((-1)) s_3 else (zq_Ex X 117 0 [(.ref (7)), (zq_vi (x6)), (zq_vi (x5)), zz_no] [] s_3 (zq_rv fun s_7 => zq_Ex X 115 104 [(.ref (7)), (zq_vi (x1)), (zq_vi (x2)), (zq_vi (x3)), (zq_vi (x4)), (zq_vi (x5 + 8)), (zq_vi (x6 + 1))] [] s_7 (zq_rp zq_iv K)))))) else K (x5) s))) : zq_Ex X 115 104 [(.ref (7)), (zq_vi (x1)), (zq_vi (x2)), (zq_vi (x3)), (zq_vi (x4)), (zq_vi (x5)), (zq_vi (x6))] [] s (zq_rp zq_iv K) := by
  refine zq_run 3 (pc' := 108) (L' := [(.ref (7)), (zq_vi (x1)), (zq_vi (x2)), (zq_vi (x3)), (zq_vi (x4)), (zq_vi (x5)), (zq_vi (x6))]) (st' := [(zq_vi (x3)), (zq_vi (x2)), (zq_vi (x6))]) (fun _ _ _ => rfl) ?_
  refine zq_iadd rfl ?_
  obtain ⟨g_1, w⟩ := w
  refine zq_ge rfl hx6 g_1 (fun hb_2 => ?_) (fun hb_2 => ?_)
  · rw [if_neg hb_2] at w
    refine zq_run 1 (pc' := 142) (L' := [(.ref (7)), (zq_vi (x1)), (zq_vi (x2)), (zq_vi (x3)), (zq_vi (x4)), (zq_vi (x5)), (zq_vi (x6))]) (st' := [(zq_vi (x5))]) (fun _ _ _ => rfl) ?_
    exact zq_iret rfl rfl rfl (⟨_, rfl, hx5, w⟩)
  · rw [if_pos hb_2] at w
    refine zq_run 2 (pc' := 115) (L' := [(.ref (7)), (zq_vi (x1)), (zq_vi (x2)), (zq_vi (x3)), (zq_vi (x4)), (zq_vi (x5)), (zq_vi (x6))]) (st' := [(zq_vi (x5)), (.ref (7))]) (fun _ _ _ => rfl) ?_
    refine zq_call_i (i := .invokevirtual 152) (r := [1, 116, 1, 1, 5]) rfl rfl (fun h hp => zr_avv rfl (hp.obj zq_a7)) (of_decide_eq_false rfl) w (fun x_4 s_3 hx_5 w => ?_)
    refine zq_ne0 rfl (zq_bo_in hx_5) (fun hb_6 => ?_) (fun hb_6 => ?_)
    · rw [if_neg hb_6] at w
      refine zq_run 3 (pc' := 128) (L' := [(.ref (7)), (zq_vi (x1)), (zq_vi (x2)), (zq_vi (x3)), (zq_vi (x4)), (zq_vi (x5)), (zq_vi (x6))]) (st' := [(zq_vi (x5)), (zq_vi (x6)), (.ref (7))]) (fun _ _ _ => rfl) ?_
      refine zq_call_v (i := .invokevirtual 155) (r := [1, 117, 2, 1, 5]) rfl rfl (fun h hp => zr_avv rfl (hp.obj zq_a7)) (of_decide_eq_false rfl) w (fun s_7 w => ?_)
      refine zq_iinc (L' := [(.ref (7)), (zq_vi (x1)), (zq_vi (x2)), (zq_vi (x3)), (zq_vi (x4)), (zq_vi (x5 + 8)), (zq_vi (x6))]) rfl rfl rfl ?_
      refine zq_iinc (L' := [(.ref (7)), (zq_vi (x1)), (zq_vi (x2)), (zq_vi (x3)), (zq_vi (x4)), (zq_vi (x5 + 8)), (zq_vi (x6 + 1))]) rfl rfl rfl ?_
      refine zq_run 1 (pc' := 104) (L' := [(.ref (7)), (zq_vi (x1)), (zq_vi (x2)), (zq_vi (x3)), (zq_vi (x4)), (zq_vi (x5 + 8)), (zq_vi (x6 + 1))]) (st' := []) (fun _ _ _ => rfl) ?_
      exact w
    · rw [if_pos hb_6] at w
      refine zq_run 1 (pc' := 122) (L' := [(.ref (7)), (zq_vi (x1)), (zq_vi (x2)), (zq_vi (x3)), (zq_vi (x4)), (zq_vi (x5)), (zq_vi (x6))]) (st' := [(zq_vi ((-1)))]) (fun _ _ _ => rfl) ?_
      exact zq_iret rfl rfl rfl (⟨_, rfl, (of_decide_eq_true rfl), w⟩)
/-- PaperObjects$Loader.isEntry(I)Z -/
theorem zw_116 {X : Nat × (Nat → Int32)} {s : zq_S} {K : Int → zq_S → Prop} {x1 : Int} (hx1 : zq_iv x1) (w : (∃ b_2 : Nat, zq_r s (7) 6 = some b_2 ∧ (zq_Ex X 68 0 [(.ref (b_2)), (zq_vi (x1)), (zq_vi (x1 + 3)), zz_no, zz_no] [] s (zq_rp zq_iv fun x_5 s_4 => (if x_5 = (-1) then K (0) s_4 else (∃ b_9 : Nat, zq_r s_4 (7) 6 = some b_9 ∧ (zq_Ex X 29 0 [(.ref (b_9)), (zq_vi (x1 + 3))] [] s_4 (zq_rp zq_iv fun x_12 s_11 => (if x_12 = 32 then (∃ b_16 : Nat, zq_r s_11 (7) 6 = some b_16 ∧ (zq_Ex X 29 0 [(.ref (b_16)), (zq_vi (x1 + 4))] [] s_11 (zq_rp zq_iv fun x_19 s_18 => (zq_Ex X 64 0 [(zq_vi (x_19))] [] s_18 (zq_rp zq_bo fun x_22 s_21 => (if x_22 = 0 then K (0) s_21 else (∃ b_26 : Nat, zq_r s_21 (7) 6 = some b_26 ∧ (zq_Ex X 49 0 [(.ref (b_26)), (zq_vi (x1 + 5)), (.ref (1000000 + 27)), zz_no] [] s_21 (zq_rp zq_bo fun x_29 s_28 => (if x_29 = 0 then (∃ b_33 : Nat, zq_r s_28 (7) 6 = some b_33 ∧ (zq_Ex X 49 0 [(.ref (b_33)), (zq_vi (x1 + 5)), (.ref (1000000 + 28)), zz_no] [] s_28 (zq_rp zq_bo fun x_36 s_35 => (if x_36 = 0 then K (0) s_35 else K (1) s_35)))) else K (1) s_28)))))))))) else K (0) s_11))))))))) : zq_Ex X 116 0 [(.ref (7)), (zq_vi (x1))] [] s (zq_rp zq_bo K) := by
  refine zq_run 1 (pc' := 1) (L' := [(.ref (7)), (zq_vi (x1))]) (st' := [(.ref (7))]) (fun _ _ _ => rfl) ?_
  refine zq_have (fun hR_1 => ?_)
  obtain ⟨b_2, hb_3, w⟩ := w
  refine zq_getf_rs (j := 6) rfl zq_a7 rfl rfl hb_3 ?_
  refine zq_run 3 (pc' := 7) (L' := [(.ref (7)), (zq_vi (x1))]) (st' := [(zq_vi (3)), (zq_vi (x1)), (zq_vi (x1)), (.ref (b_2))]) (fun _ _ _ => rfl) ?_
  refine zq_iadd rfl ?_
  refine zq_call_i (i := .invokevirtual 159) (r := [1, 68, 2, 1, 1]) rfl rfl (fun h hp => zr_avv rfl (hp.obj (zq_fcls hR_1 (k := 6) (j := 6) (cj := 1) zq_a7 rfl rfl hb_3))) (of_decide_eq_false rfl) w (fun x_5 s_4 hx_6 w => ?_)
  refine zq_run 1 (pc' := 12) (L' := [(.ref (7)), (zq_vi (x1))]) (st' := [(zq_vi ((-1))), (zq_vi (x_5))]) (fun _ _ _ => rfl) ?_
  refine zq_eq rfl hx_6 (of_decide_eq_true rfl) (fun hb_7 => ?_) (fun hb_7 => ?_)
  · rw [if_pos hb_7] at w
    refine zq_run 1 (pc' := 81) (L' := [(.ref (7)), (zq_vi (x1))]) (st' := [(zq_vi (0))]) (fun _ _ _ => rfl) ?_
    exact zq_iret rfl rfl (congrArg Value.int (zq_nb (of_decide_eq_true rfl))) (⟨_, rfl, (of_decide_eq_true rfl), w⟩)
  · rw [if_neg hb_7] at w
    refine zq_run 1 (pc' := 16) (L' := [(.ref (7)), (zq_vi (x1))]) (st' := [(.ref (7))]) (fun _ _ _ => rfl) ?_
    refine zq_have (fun hR_8 => ?_)
    obtain ⟨b_9, hb_10, w⟩ := w
    refine zq_getf_rs (j := 6) rfl zq_a7 rfl rfl hb_10 ?_
    refine zq_run 2 (pc' := 21) (L' := [(.ref (7)), (zq_vi (x1))]) (st' := [(zq_vi (3)), (zq_vi (x1)), (.ref (b_9))]) (fun _ _ _ => rfl) ?_
    refine zq_iadd rfl ?_
    refine zq_call_i (i := .invokevirtual 127) (r := [1, 29, 1, 1, 1]) rfl rfl (fun h hp => zr_avv rfl (hp.obj (zq_fcls hR_8 (k := 6) (j := 6) (cj := 1) zq_a7 rfl rfl hb_10))) (of_decide_eq_false rfl) w (fun x_12 s_11 hx_13 w => ?_)
    refine zq_run 1 (pc' := 27) (L' := [(.ref (7)), (zq_vi (x1))]) (st' := [(zq_vi (32)), (zq_vi (x_12))]) (fun _ _ _ => rfl) ?_
    refine zq_ne rfl hx_13 (of_decide_eq_true rfl) (fun hb_14 => ?_) (fun hb_14 => ?_)
    · rw [if_neg hb_14] at w
      refine zq_run 1 (pc' := 81) (L' := [(.ref (7)), (zq_vi (x1))]) (st' := [(zq_vi (0))]) (fun _ _ _ => rfl) ?_
      exact zq_iret rfl rfl (congrArg Value.int (zq_nb (of_decide_eq_true rfl))) (⟨_, rfl, (of_decide_eq_true rfl), w⟩)
    · rw [if_pos hb_14] at w
      refine zq_run 1 (pc' := 31) (L' := [(.ref (7)), (zq_vi (x1))]) (st' := [(.ref (7))]) (fun _ _ _ => rfl) ?_
      refine zq_have (fun hR_15 => ?_)
      obtain ⟨b_16, hb_17, w⟩ := w
      refine zq_getf_rs (j := 6) rfl zq_a7 rfl rfl hb_17 ?_
      refine zq_run 2 (pc' := 36) (L' := [(.ref (7)), (zq_vi (x1))]) (st' := [(zq_vi (4)), (zq_vi (x1)), (.ref (b_16))]) (fun _ _ _ => rfl) ?_
      refine zq_iadd rfl ?_
      refine zq_call_i (i := .invokevirtual 127) (r := [1, 29, 1, 1, 1]) rfl rfl (fun h hp => zr_avv rfl (hp.obj (zq_fcls hR_15 (k := 6) (j := 6) (cj := 1) zq_a7 rfl rfl hb_17))) (of_decide_eq_false rfl) w (fun x_19 s_18 hx_20 w => ?_)
      refine zq_call_i (i := .invokestatic 163) (r := [1, 64, 1, 0, 0]) rfl rfl (fun _ _ => rfl) (of_decide_eq_false rfl) w (fun x_22 s_21 hx_23 w => ?_)
      refine zq_eq0 rfl (zq_bo_in hx_23) (fun hb_24 => ?_) (fun hb_24 => ?_)
      · rw [if_pos hb_24] at w
        refine zq_run 1 (pc' := 81) (L' := [(.ref (7)), (zq_vi (x1))]) (st' := [(zq_vi (0))]) (fun _ _ _ => rfl) ?_
        exact zq_iret rfl rfl (congrArg Value.int (zq_nb (of_decide_eq_true rfl))) (⟨_, rfl, (of_decide_eq_true rfl), w⟩)
      · rw [if_neg hb_24] at w
        refine zq_run 1 (pc' := 47) (L' := [(.ref (7)), (zq_vi (x1))]) (st' := [(.ref (7))]) (fun _ _ _ => rfl) ?_
        refine zq_have (fun hR_25 => ?_)
        obtain ⟨b_26, hb_27, w⟩ := w
        refine zq_getf_rs (j := 6) rfl zq_a7 rfl rfl hb_27 ?_
        refine zq_run 2 (pc' := 52) (L' := [(.ref (7)), (zq_vi (x1))]) (st' := [(zq_vi (5)), (zq_vi (x1)), (.ref (b_26))]) (fun _ _ _ => rfl) ?_
        refine zq_iadd rfl ?_
        refine zq_run 1 (pc' := 55) (L' := [(.ref (7)), (zq_vi (x1))]) (st' := [(.ref (1000000 + 27)), (zq_vi (x1 + 5)), (.ref (b_26))]) (fun _ _ _ => rfl) ?_
        refine zq_call_i (i := .invokevirtual 119) (r := [1, 49, 2, 1, 1]) rfl rfl (fun h hp => zr_avv rfl (hp.obj (zq_fcls hR_25 (k := 6) (j := 6) (cj := 1) zq_a7 rfl rfl hb_27))) (of_decide_eq_false rfl) w (fun x_29 s_28 hx_30 w => ?_)
        refine zq_ne0 rfl (zq_bo_in hx_30) (fun hb_31 => ?_) (fun hb_31 => ?_)
        · rw [if_neg hb_31] at w
          refine zq_run 2 (pc' := 81) (L' := [(.ref (7)), (zq_vi (x1))]) (st' := [(zq_vi (1))]) (fun _ _ _ => rfl) ?_
          exact zq_iret rfl rfl (congrArg Value.int (zq_nb (of_decide_eq_true rfl))) (⟨_, rfl, (of_decide_eq_true rfl), w⟩)
        · rw [if_pos hb_31] at w
          refine zq_run 1 (pc' := 62) (L' := [(.ref (7)), (zq_vi (x1))]) (st' := [(.ref (7))]) (fun _ _ _ => rfl) ?_
          refine zq_have (fun hR_32 => ?_)
          obtain ⟨b_33, hb_34, w⟩ := w
          refine zq_getf_rs (j := 6) rfl zq_a7 rfl rfl hb_34 ?_
          refine zq_run 2 (pc' := 67) (L' := [(.ref (7)), (zq_vi (x1))]) (st' := [(zq_vi (5)), (zq_vi (x1)), (.ref (b_33))]) (fun _ _ _ => rfl) ?_
          refine zq_iadd rfl ?_
          refine zq_run 1 (pc' := 70) (L' := [(.ref (7)), (zq_vi (x1))]) (st' := [(.ref (1000000 + 28)), (zq_vi (x1 + 5)), (.ref (b_33))]) (fun _ _ _ => rfl) ?_
          refine zq_call_i (i := .invokevirtual 119) (r := [1, 49, 2, 1, 1]) rfl rfl (fun h hp => zr_avv rfl (hp.obj (zq_fcls hR_32 (k := 6) (j := 6) (cj := 1) zq_a7 rfl rfl hb_34))) (of_decide_eq_false rfl) w (fun x_36 s_35 hx_37 w => ?_)
          refine zq_eq0 rfl (zq_bo_in hx_37) (fun hb_38 => ?_) (fun hb_38 => ?_)
          · rw [if_pos hb_38] at w
            refine zq_run 1 (pc' := 81) (L' := [(.ref (7)), (zq_vi (x1))]) (st' := [(zq_vi (0))]) (fun _ _ _ => rfl) ?_
            exact zq_iret rfl rfl (congrArg Value.int (zq_nb (of_decide_eq_true rfl))) (⟨_, rfl, (of_decide_eq_true rfl), w⟩)
          · rw [if_neg hb_38] at w
            refine zq_run 2 (pc' := 81) (L' := [(.ref (7)), (zq_vi (x1))]) (st' := [(zq_vi (1))]) (fun _ _ _ => rfl) ?_
            exact zq_iret rfl rfl (congrArg Value.int (zq_nb (of_decide_eq_true rfl))) (⟨_, rfl, (of_decide_eq_true rfl), w⟩)
/-- PaperObjects$Loader.enter(II)V -/
theorem zw_117 {X : Nat × (Nat → Int32)} {s : zq_S} {K : zq_S → Prop} {x1 : Int} (hx1 : zq_iv x1) {x2 : Int} (hx2 : zq_iv x2) (w : (∃ b_2 : Nat, zq_r s (7) 7 = some b_2 ∧ (zq_Ex X 42 0 [(.ref (b_2)), (zq_vi (x1))] [] s (zq_rr 7 fun o_5 s_4 => ((o_5 = none → K s_4) ∧ (∀ b_6 : Nat, o_5 = some b_6 → (zq_Ex X 35 0 [(zq_vi (zq_i s_4 (7) (8))), (zq_vi (x1))] [] s_4 (zq_rp zq_bo fun x_10 s_9 => (if x_10 = 0 then (∃ b_15 : Nat, zq_r s_9 (7) 6 = some b_15 ∧ (zq_Ex X 68 0 [(.ref (b_15)), (zq_vi (x2)), (zq_vi (x2 + 3)), zz_no, zz_no] [] (zq_si s_9 (7) (8) (zq_or (zq_i s_9 (7) (8)) (zq_shl (1) (x1)))) (zq_rp zq_iv fun x_18 s_17 => (((0 : Int) ≤ x1 ∧ x1 < (10 : Int)) ∧ (∃ b_22 : Nat, zq_r s_17 (7) 6 = some b_22 ∧ (zq_Ex X 29 0 [(.ref (b_22)), (zq_vi (x2 + 4))] [] (zq_si s_17 (18) (x1) (x_18)) (zq_rp zq_iv fun x_25 s_24 => (zq_iv (x_25 - 48) ∧ (∃ b_29 : Nat, zq_r s_24 (7) 6 = some b_29 ∧ (zq_Ex X 29 0 [(.ref (b_29)), (zq_vi (x2 + 6))] [] (zq_si s_24 (b_6) (3) (x_25 - 48)) (zq_rp zq_iv fun x_32 s_31 => (if x_32 = 110 then K (zq_si s_31 (b_6) (0) (1)) else K (zq_si s_31 (b_6) (0) (0)))))))))))))) else K s_9))))))))) : zq_Ex X 117 0 [(.ref (7)), (zq_vi (x1)), (zq_vi (x2)), zz_no] [] s (zq_rv K) := by
  refine zq_run 1 (pc' := 1) (L' := [(.ref (7)), (zq_vi (x1)), (zq_vi (x2)), zz_no]) (st' := [(.ref (7))]) (fun _ _ _ => rfl) ?_
  refine zq_have (fun hR_1 => ?_)
  obtain ⟨b_2, hb_3, w⟩ := w
  refine zq_getf_rs (j := 7) rfl zq_a7 rfl rfl hb_3 ?_
  refine zq_run 1 (pc' := 5) (L' := [(.ref (7)), (zq_vi (x1)), (zq_vi (x2)), zz_no]) (st' := [(zq_vi (x1)), (.ref (b_2))]) (fun _ _ _ => rfl) ?_
  refine zq_call_r (i := .invokevirtual 170) (r := [1, 42, 1, 1, 8]) rfl rfl (fun h hp => zr_avv rfl (hp.obj (zq_fcls hR_1 (k := 7) (j := 7) (cj := 8) zq_a7 rfl rfl hb_3))) (of_decide_eq_false rfl) w (fun s_4 w => ?_) (fun b_6 s_4 hb_7 w => ?_)
  · replace w := w.1 rfl
    refine zq_run 3 (pc' := 24) (L' := [(.ref (7)), (zq_vi (x1)), (zq_vi (x2)), .null]) (st' := []) (fun _ _ _ => rfl) ?_
    exact zq_vret rfl rfl (⟨rfl, w⟩)
  · replace w := w.2 b_6 rfl
    refine zq_run 4 (pc' := 14) (L' := [(.ref (7)), (zq_vi (x1)), (zq_vi (x2)), (.ref (b_6))]) (st' := [(.ref (7))]) (fun _ _ _ => rfl) ?_
    refine zq_have (fun hR_8 => ?_)
    refine zq_getf_i (j := 8) (v := zq_i s_4 (7) (8)) rfl zq_a7 rfl rfl rfl ?_
    refine zq_run 1 (pc' := 18) (L' := [(.ref (7)), (zq_vi (x1)), (zq_vi (x2)), (.ref (b_6))]) (st' := [(zq_vi (x1)), (zq_vi (zq_i s_4 (7) (8)))]) (fun _ _ _ => rfl) ?_
    refine zq_call_i (i := .invokestatic 174) (r := [1, 35, 2, 0, 0]) rfl rfl (fun _ _ => rfl) (of_decide_eq_false rfl) w (fun x_10 s_9 hx_11 w => ?_)
    refine zq_eq0 rfl (zq_bo_in hx_11) (fun hb_12 => ?_) (fun hb_12 => ?_)
    · rw [if_pos hb_12] at w
      refine zq_run 2 (pc' := 27) (L' := [(.ref (7)), (zq_vi (x1)), (zq_vi (x2)), (.ref (b_6))]) (st' := [(.ref (7)), (.ref (7))]) (fun _ _ _ => rfl) ?_
      refine zq_have (fun hR_13 => ?_)
      refine zq_getf_i (j := 8) (v := zq_i s_9 (7) (8)) rfl zq_a7 rfl rfl rfl ?_
      refine zq_run 2 (pc' := 32) (L' := [(.ref (7)), (zq_vi (x1)), (zq_vi (x2)), (.ref (b_6))]) (st' := [(zq_vi (x1)), (zq_vi (1)), (zq_vi (zq_i s_9 (7) (8))), (.ref (7))]) (fun _ _ _ => rfl) ?_
      refine zq_ishl rfl ?_
      refine zq_ior rfl ?_
      refine zq_putf_i (j := 8) rfl zq_a7 rfl rfl rfl (zq_in32 _) ?_
      refine zq_run 1 (pc' := 38) (L' := [(.ref (7)), (zq_vi (x1)), (zq_vi (x2)), (.ref (b_6))]) (st' := [(.ref (7))]) (fun _ _ _ => rfl) ?_
      refine zq_getf_f (b := 18) rfl zq_a7 rfl rfl ?_
      refine zq_run 2 (pc' := 43) (L' := [(.ref (7)), (zq_vi (x1)), (zq_vi (x2)), (.ref (b_6))]) (st' := [(.ref (7)), (zq_vi (x1)), (.ref (18))]) (fun _ _ _ => rfl) ?_
      refine zq_have (fun hR_14 => ?_)
      obtain ⟨b_15, hb_16, w⟩ := w
      refine zq_getf_rs (j := 6) rfl zq_a7 rfl rfl hb_16 ?_
      refine zq_run 3 (pc' := 49) (L' := [(.ref (7)), (zq_vi (x1)), (zq_vi (x2)), (.ref (b_6))]) (st' := [(zq_vi (3)), (zq_vi (x2)), (zq_vi (x2)), (.ref (b_15)), (zq_vi (x1)), (.ref (18))]) (fun _ _ _ => rfl) ?_
      refine zq_iadd rfl ?_
      refine zq_call_i (i := .invokevirtual 159) (r := [1, 68, 2, 1, 1]) rfl rfl (fun h hp => zr_avv rfl (hp.obj (zq_fcls hR_14 (k := 6) (j := 6) (cj := 1) zq_a7 rfl rfl hb_16))) (of_decide_eq_false rfl) w (fun x_18 s_17 hx_19 w => ?_)
      obtain ⟨g_20, w⟩ := w
      refine zq_ast_i rfl zq_a18 g_20.1 g_20.2 hx_19 ?_
      refine zq_run 2 (pc' := 56) (L' := [(.ref (7)), (zq_vi (x1)), (zq_vi (x2)), (.ref (b_6))]) (st' := [(.ref (7)), (.ref (b_6))]) (fun _ _ _ => rfl) ?_
      refine zq_have (fun hR_21 => ?_)
      obtain ⟨b_22, hb_23, w⟩ := w
      refine zq_getf_rs (j := 6) rfl zq_a7 rfl rfl hb_23 ?_
      refine zq_run 2 (pc' := 61) (L' := [(.ref (7)), (zq_vi (x1)), (zq_vi (x2)), (.ref (b_6))]) (st' := [(zq_vi (4)), (zq_vi (x2)), (.ref (b_22)), (.ref (b_6))]) (fun _ _ _ => rfl) ?_
      refine zq_iadd rfl ?_
      refine zq_call_i (i := .invokevirtual 127) (r := [1, 29, 1, 1, 1]) rfl rfl (fun h hp => zr_avv rfl (hp.obj (zq_fcls hR_21 (k := 6) (j := 6) (cj := 1) zq_a7 rfl rfl hb_23))) (of_decide_eq_false rfl) w (fun x_25 s_24 hx_26 w => ?_)
      refine zq_run 1 (pc' := 67) (L' := [(.ref (7)), (zq_vi (x1)), (zq_vi (x2)), (.ref (b_6))]) (st' := [(zq_vi (48)), (zq_vi (x_25)), (.ref (b_6))]) (fun _ _ _ => rfl) ?_
      refine zq_isub rfl ?_
      obtain ⟨g_27, w⟩ := w
      refine zq_putf_i (j := 3) rfl hb_7 rfl rfl rfl g_27 ?_
      refine zq_run 2 (pc' := 73) (L' := [(.ref (7)), (zq_vi (x1)), (zq_vi (x2)), (.ref (b_6))]) (st' := [(.ref (7)), (.ref (b_6))]) (fun _ _ _ => rfl) ?_
      refine zq_have (fun hR_28 => ?_)
      obtain ⟨b_29, hb_30, w⟩ := w
      refine zq_getf_rs (j := 6) rfl zq_a7 rfl rfl hb_30 ?_
      refine zq_run 2 (pc' := 79) (L' := [(.ref (7)), (zq_vi (x1)), (zq_vi (x2)), (.ref (b_6))]) (st' := [(zq_vi (6)), (zq_vi (x2)), (.ref (b_29)), (.ref (b_6))]) (fun _ _ _ => rfl) ?_
      refine zq_iadd rfl ?_
      refine zq_call_i (i := .invokevirtual 127) (r := [1, 29, 1, 1, 1]) rfl rfl (fun h hp => zr_avv rfl (hp.obj (zq_fcls hR_28 (k := 6) (j := 6) (cj := 1) zq_a7 rfl rfl hb_30))) (of_decide_eq_false rfl) w (fun x_32 s_31 hx_33 w => ?_)
      refine zq_run 1 (pc' := 85) (L' := [(.ref (7)), (zq_vi (x1)), (zq_vi (x2)), (.ref (b_6))]) (st' := [(zq_vi (110)), (zq_vi (x_32)), (.ref (b_6))]) (fun _ _ _ => rfl) ?_
      refine zq_ne rfl hx_33 (of_decide_eq_true rfl) (fun hb_34 => ?_) (fun hb_34 => ?_)
      · rw [if_neg hb_34] at w
        refine zq_run 1 (pc' := 93) (L' := [(.ref (7)), (zq_vi (x1)), (zq_vi (x2)), (.ref (b_6))]) (st' := [(zq_vi (0)), (.ref (b_6))]) (fun _ _ _ => rfl) ?_
        refine zq_putf_b (j := 0) rfl hb_7 rfl rfl rfl (of_decide_eq_true rfl) ?_
        exact zq_vret rfl rfl (⟨rfl, w⟩)
      · rw [if_pos hb_34] at w
        refine zq_run 2 (pc' := 93) (L' := [(.ref (7)), (zq_vi (x1)), (zq_vi (x2)), (.ref (b_6))]) (st' := [(zq_vi (1)), (.ref (b_6))]) (fun _ _ _ => rfl) ?_
        refine zq_putf_b (j := 0) rfl hb_7 rfl rfl rfl (of_decide_eq_true rfl) ?_
        exact zq_vret rfl rfl (⟨rfl, w⟩)
    · rw [if_neg hb_12] at w
      exact zq_vret rfl rfl (⟨rfl, w⟩)
/-- PaperObjects$Loader.isTrailer()Z -/
theorem zw_118 {X : Nat × (Nat → Int32)} {s : zq_S} {K : Int → zq_S → Prop}  (w : (zq_Ex X 75 0 [(.ref (1000000 + 30)), zz_no, zz_no, zz_no] [] s (zq_rl fun y_2 s_1 => (zq_Ex X 55 0 [(.ref (11)), (zq_vi (0)), (.long (y_2)), zz_no, zz_no, zz_no] [] s_1 (zq_rp zq_iv fun x_4 s_3 => (zq_Ex X 75 0 [(.ref (1000000 + 31)), zz_no, zz_no, zz_no] [] s_3 (zq_rl fun y_7 s_6 => (zq_Ex X 55 0 [(.ref (11)), (zq_vi (0)), (.long (y_7)), zz_no, zz_no, zz_no] [] s_6 (zq_rp zq_iv fun x_9 s_8 => (zq_Ex X 48 0 [(.ref (11)), (zq_vi (0))] [] s_8 (zq_rp zq_iv fun x_12 s_11 => (if x_12 = 7 then (zq_Ex X 48 0 [(.ref (11)), (zq_vi (x_4))] [] s_11 (zq_rp zq_iv fun x_16 s_15 => (if x_16 = 8 then (if x_9 = (-1) then K (1) s_15 else (zq_Ex X 48 0 [(.ref (11)), (zq_vi (x_9))] [] s_15 (zq_rp zq_iv fun x_21 s_20 => (if x_21 = 3 then K (1) s_20 else K (0) s_20)))) else K (0) s_15))) else K (0) s_11)))))))))))) : zq_Ex X 118 0 [(.ref (7)), zz_no, zz_no] [] s (zq_rp zq_bo K) := by
  refine zq_run 1 (pc' := 1) (L' := [(.ref (7)), zz_no, zz_no]) (st' := [(.ref (7))]) (fun _ _ _ => rfl) ?_
  refine zq_getf_f (b := 11) rfl zq_a7 rfl rfl ?_
  refine zq_run 2 (pc' := 7) (L' := [(.ref (7)), zz_no, zz_no]) (st' := [(.ref (1000000 + 30)), (zq_vi (0)), (.ref (11))]) (fun _ _ _ => rfl) ?_
  refine zq_call_l (i := .invokestatic 103) (r := [1, 75, 1, 0, 0]) rfl rfl (fun _ _ => rfl) (of_decide_eq_false rfl) w (fun y_2 s_1 w => ?_)
  refine zq_call_i (i := .invokevirtual 107) (r := [1, 55, 2, 1, 4]) rfl rfl (fun h hp => zr_avv rfl (hp.obj zq_a11)) (of_decide_eq_false rfl) w (fun x_4 s_3 hx_5 w => ?_)
  refine zq_run 2 (pc' := 15) (L' := [(.ref (7)), (zq_vi (x_4)), zz_no]) (st' := [(.ref (7))]) (fun _ _ _ => rfl) ?_
  refine zq_getf_f (b := 11) rfl zq_a7 rfl rfl ?_
  refine zq_run 2 (pc' := 21) (L' := [(.ref (7)), (zq_vi (x_4)), zz_no]) (st' := [(.ref (1000000 + 31)), (zq_vi (0)), (.ref (11))]) (fun _ _ _ => rfl) ?_
  refine zq_call_l (i := .invokestatic 103) (r := [1, 75, 1, 0, 0]) rfl rfl (fun _ _ => rfl) (of_decide_eq_false rfl) w (fun y_7 s_6 w => ?_)
  refine zq_call_i (i := .invokevirtual 107) (r := [1, 55, 2, 1, 4]) rfl rfl (fun h hp => zr_avv rfl (hp.obj zq_a11)) (of_decide_eq_false rfl) w (fun x_9 s_8 hx_10 w => ?_)
  refine zq_run 2 (pc' := 29) (L' := [(.ref (7)), (zq_vi (x_4)), (zq_vi (x_9))]) (st' := [(.ref (7))]) (fun _ _ _ => rfl) ?_
  refine zq_getf_f (b := 11) rfl zq_a7 rfl rfl ?_
  refine zq_run 1 (pc' := 33) (L' := [(.ref (7)), (zq_vi (x_4)), (zq_vi (x_9))]) (st' := [(zq_vi (0)), (.ref (11))]) (fun _ _ _ => rfl) ?_
  refine zq_call_i (i := .invokevirtual 140) (r := [1, 48, 1, 1, 4]) rfl rfl (fun h hp => zr_avv rfl (hp.obj zq_a11)) (of_decide_eq_false rfl) w (fun x_12 s_11 hx_13 w => ?_)
  refine zq_run 1 (pc' := 38) (L' := [(.ref (7)), (zq_vi (x_4)), (zq_vi (x_9))]) (st' := [(zq_vi (7)), (zq_vi (x_12))]) (fun _ _ _ => rfl) ?_
  refine zq_ne rfl hx_13 (of_decide_eq_true rfl) (fun hb_14 => ?_) (fun hb_14 => ?_)
  · rw [if_neg hb_14] at w
    refine zq_run 1 (pc' := 76) (L' := [(.ref (7)), (zq_vi (x_4)), (zq_vi (x_9))]) (st' := [(zq_vi (0))]) (fun _ _ _ => rfl) ?_
    exact zq_iret rfl rfl (congrArg Value.int (zq_nb (of_decide_eq_true rfl))) (⟨_, rfl, (of_decide_eq_true rfl), w⟩)
  · rw [if_pos hb_14] at w
    refine zq_run 1 (pc' := 42) (L' := [(.ref (7)), (zq_vi (x_4)), (zq_vi (x_9))]) (st' := [(.ref (7))]) (fun _ _ _ => rfl) ?_
    refine zq_getf_f (b := 11) rfl zq_a7 rfl rfl ?_
    refine zq_run 1 (pc' := 46) (L' := [(.ref (7)), (zq_vi (x_4)), (zq_vi (x_9))]) (st' := [(zq_vi (x_4)), (.ref (11))]) (fun _ _ _ => rfl) ?_
    refine zq_call_i (i := .invokevirtual 140) (r := [1, 48, 1, 1, 4]) rfl rfl (fun h hp => zr_avv rfl (hp.obj zq_a11)) (of_decide_eq_false rfl) w (fun x_16 s_15 hx_17 w => ?_)
    refine zq_run 1 (pc' := 51) (L' := [(.ref (7)), (zq_vi (x_4)), (zq_vi (x_9))]) (st' := [(zq_vi (8)), (zq_vi (x_16))]) (fun _ _ _ => rfl) ?_
    refine zq_ne rfl hx_17 (of_decide_eq_true rfl) (fun hb_18 => ?_) (fun hb_18 => ?_)
    · rw [if_neg hb_18] at w
      refine zq_run 1 (pc' := 76) (L' := [(.ref (7)), (zq_vi (x_4)), (zq_vi (x_9))]) (st' := [(zq_vi (0))]) (fun _ _ _ => rfl) ?_
      exact zq_iret rfl rfl (congrArg Value.int (zq_nb (of_decide_eq_true rfl))) (⟨_, rfl, (of_decide_eq_true rfl), w⟩)
    · rw [if_pos hb_18] at w
      refine zq_run 2 (pc' := 56) (L' := [(.ref (7)), (zq_vi (x_4)), (zq_vi (x_9))]) (st' := [(zq_vi ((-1))), (zq_vi (x_9))]) (fun _ _ _ => rfl) ?_
      refine zq_eq rfl hx_10 (of_decide_eq_true rfl) (fun hb_19 => ?_) (fun hb_19 => ?_)
      · rw [if_pos hb_19] at w
        refine zq_run 2 (pc' := 76) (L' := [(.ref (7)), (zq_vi (x_4)), (zq_vi (x_9))]) (st' := [(zq_vi (1))]) (fun _ _ _ => rfl) ?_
        exact zq_iret rfl rfl (congrArg Value.int (zq_nb (of_decide_eq_true rfl))) (⟨_, rfl, (of_decide_eq_true rfl), w⟩)
      · rw [if_neg hb_19] at w
        refine zq_run 1 (pc' := 60) (L' := [(.ref (7)), (zq_vi (x_4)), (zq_vi (x_9))]) (st' := [(.ref (7))]) (fun _ _ _ => rfl) ?_
        refine zq_getf_f (b := 11) rfl zq_a7 rfl rfl ?_
        refine zq_run 1 (pc' := 64) (L' := [(.ref (7)), (zq_vi (x_4)), (zq_vi (x_9))]) (st' := [(zq_vi (x_9)), (.ref (11))]) (fun _ _ _ => rfl) ?_
        refine zq_call_i (i := .invokevirtual 140) (r := [1, 48, 1, 1, 4]) rfl rfl (fun h hp => zr_avv rfl (hp.obj zq_a11)) (of_decide_eq_false rfl) w (fun x_21 s_20 hx_22 w => ?_)
        refine zq_run 1 (pc' := 68) (L' := [(.ref (7)), (zq_vi (x_4)), (zq_vi (x_9))]) (st' := [(zq_vi (3)), (zq_vi (x_21))]) (fun _ _ _ => rfl) ?_
        refine zq_ne rfl hx_22 (of_decide_eq_true rfl) (fun hb_23 => ?_) (fun hb_23 => ?_)
        · rw [if_neg hb_23] at w
          refine zq_run 1 (pc' := 76) (L' := [(.ref (7)), (zq_vi (x_4)), (zq_vi (x_9))]) (st' := [(zq_vi (0))]) (fun _ _ _ => rfl) ?_
          exact zq_iret rfl rfl (congrArg Value.int (zq_nb (of_decide_eq_true rfl))) (⟨_, rfl, (of_decide_eq_true rfl), w⟩)
        · rw [if_pos hb_23] at w
          refine zq_run 2 (pc' := 76) (L' := [(.ref (7)), (zq_vi (x_4)), (zq_vi (x_9))]) (st' := [(zq_vi (1))]) (fun _ _ _ => rfl) ?_
          exact zq_iret rfl rfl (congrArg Value.int (zq_nb (of_decide_eq_true rfl))) (⟨_, rfl, (of_decide_eq_true rfl), w⟩)
/-- PaperObjects$Loader.takeRoot()V -/
theorem zw_119 {X : Nat × (Nat → Int32)} {s : zq_S} {K : zq_S → Prop}  (w : (zq_Ex X 75 0 [(.ref (1000000 + 30)), zz_no, zz_no, zz_no] [] s (zq_rl fun y_2 s_1 => (zq_Ex X 55 0 [(.ref (11)), (zq_vi (0)), (.long (y_2)), zz_no, zz_no, zz_no] [] s_1 (zq_rp zq_iv fun x_4 s_3 => (if x_4 = (-1) then K s_3 else (∃ b_8 : Nat, zq_r s_3 (7) 7 = some b_8 ∧ (((0 : Int) ≤ x_4 ∧ x_4 < (12 : Int)) ∧ (((0 : Int) ≤ x_4 ∧ x_4 < (12 : Int)) ∧ K (zq_si (zq_si s_3 (b_8) (2) (zq_i s_3 (14) (x_4))) (b_8) (3) (zq_i (zq_si s_3 (b_8) (2) (zq_i s_3 (14) (x_4))) (15) (x_4)))))))))))) : zq_Ex X 119 0 [(.ref (7)), zz_no] [] s (zq_rv K) := by
  refine zq_run 1 (pc' := 1) (L' := [(.ref (7)), zz_no]) (st' := [(.ref (7))]) (fun _ _ _ => rfl) ?_
  refine zq_getf_f (b := 11) rfl zq_a7 rfl rfl ?_
  refine zq_run 2 (pc' := 7) (L' := [(.ref (7)), zz_no]) (st' := [(.ref (1000000 + 30)), (zq_vi (0)), (.ref (11))]) (fun _ _ _ => rfl) ?_
  refine zq_call_l (i := .invokestatic 103) (r := [1, 75, 1, 0, 0]) rfl rfl (fun _ _ => rfl) (of_decide_eq_false rfl) w (fun y_2 s_1 w => ?_)
  refine zq_call_i (i := .invokevirtual 107) (r := [1, 55, 2, 1, 4]) rfl rfl (fun h hp => zr_avv rfl (hp.obj zq_a11)) (of_decide_eq_false rfl) w (fun x_4 s_3 hx_5 w => ?_)
  refine zq_run 3 (pc' := 16) (L' := [(.ref (7)), (zq_vi (x_4))]) (st' := [(zq_vi ((-1))), (zq_vi (x_4))]) (fun _ _ _ => rfl) ?_
  refine zq_eq rfl hx_5 (of_decide_eq_true rfl) (fun hb_6 => ?_) (fun hb_6 => ?_)
  · rw [if_pos hb_6] at w
    exact zq_vret rfl rfl (⟨rfl, w⟩)
  · rw [if_neg hb_6] at w
    refine zq_run 1 (pc' := 20) (L' := [(.ref (7)), (zq_vi (x_4))]) (st' := [(.ref (7))]) (fun _ _ _ => rfl) ?_
    refine zq_have (fun hR_7 => ?_)
    obtain ⟨b_8, hb_9, w⟩ := w
    refine zq_getf_rs (j := 7) rfl zq_a7 rfl rfl hb_9 ?_
    refine zq_run 1 (pc' := 24) (L' := [(.ref (7)), (zq_vi (x_4))]) (st' := [(.ref (7)), (.ref (b_8))]) (fun _ _ _ => rfl) ?_
    refine zq_getf_f (b := 11) rfl zq_a7 rfl rfl ?_
    refine zq_getf_f (b := 14) rfl zq_a11 rfl rfl ?_
    refine zq_run 1 (pc' := 31) (L' := [(.ref (7)), (zq_vi (x_4))]) (st' := [(zq_vi (x_4)), (.ref (14)), (.ref (b_8))]) (fun _ _ _ => rfl) ?_
    obtain ⟨g_10, w⟩ := w
    refine zq_ald_i (v := zq_i s_3 (14) (x_4)) rfl (zq_L4 zq_a11).2.2.1 g_10.1 g_10.2 rfl ?_
    refine zq_putf_i (j := 2) rfl (zq_fcls hR_7 (k := 7) (j := 7) (cj := 8) zq_a7 rfl rfl hb_9) rfl rfl rfl (hR_7.1 _ _) ?_
    refine zq_run 1 (pc' := 36) (L' := [(.ref (7)), (zq_vi (x_4))]) (st' := [(.ref (7))]) (fun _ _ _ => rfl) ?_
    refine zq_getf_rs (j := 7) (b := b_8) rfl zq_a7 rfl rfl hb_9 ?_
    refine zq_run 1 (pc' := 40) (L' := [(.ref (7)), (zq_vi (x_4))]) (st' := [(.ref (7)), (.ref (b_8))]) (fun _ _ _ => rfl) ?_
    refine zq_getf_f (b := 11) rfl zq_a7 rfl rfl ?_
    refine zq_getf_f (b := 15) rfl zq_a11 rfl rfl ?_
    refine zq_run 1 (pc' := 47) (L' := [(.ref (7)), (zq_vi (x_4))]) (st' := [(zq_vi (x_4)), (.ref (15)), (.ref (b_8))]) (fun _ _ _ => rfl) ?_
    obtain ⟨g_11, w⟩ := w
    refine zq_have (fun hR_12 => ?_)
    refine zq_ald_i (v := zq_i (zq_si s_3 (b_8) (2) (zq_i s_3 (14) (x_4))) (15) (x_4)) rfl (zq_L4 zq_a11).2.2.2.1 g_11.1 g_11.2 rfl ?_
    refine zq_putf_i (j := 3) rfl (zq_fcls hR_7 (k := 7) (j := 7) (cj := 8) zq_a7 rfl rfl hb_9) rfl rfl rfl (hR_12.1 _ _) ?_
    exact zq_vret rfl rfl (⟨rfl, w⟩)
/-- PaperObjects$Loader.takeValues()V -/
theorem zw_120 {X : Nat × (Nat → Int32)} {s : zq_S} {K : zq_S → Prop}  (w : zq_Ex X 120 2 [(.ref (7)), (zq_vi (1)), zz_no] [] s (zq_rv K)) : zq_Ex X 120 0 [(.ref (7)), zz_no, zz_no] [] s (zq_rv K) := by
  refine zq_run 2 (pc' := 2) (L' := [(.ref (7)), (zq_vi (1)), zz_no]) (st' := []) (fun _ _ _ => rfl) ?_
  exact w
/-- PaperObjects$Loader.takeValues at 2 -/
theorem zw_120_2 {X : Nat × (Nat → Int32)} {s : zq_S} {K : zq_S → Prop} {x1 : Int} (hx1 : zq_iv x1) {v2 : Value} (hv2 : v2.category = 1) (w : (if x1 ≤ 9 then (∃ b_3 : Nat, zq_r s (7) 7 = some b_3 ∧ (zq_Ex X 33 0 [(.ref (b_3)), (zq_vi (x1)), zz_no] [] s (zq_rr 7 fun o_6 s_5 => ((o_6 = none → zq_Ex X 120 2 [(.ref (7)), (zq_vi (x1 + 1)), .null] [] s_5 (zq_rv K)) ∧ (∀ b_7 : Nat, o_6 = some b_7 → (zq_Ex X 121 0 [(.ref (7)), (zq_vi (x1)), (.ref (b_7)), zz_no] [] s_5 (zq_rp zq_bo fun x_10 s_9 => (if x_10 = 0 then (∃ b_14 : Nat, zq_r s_9 (b_7) 4 = some b_14 ∧ (zq_Ex X 45 0 [(.ref (b_14))] [] s_9 (zq_rv fun s_16 => (((0 : Int) ≤ x1 ∧ x1 < (10 : Int)) ∧ zq_Ex X 120 2 [(.ref (7)), (zq_vi (x1 + 1)), (.ref (b_7))] [] (zq_si s_16 (19) (x1) (zq_i s_16 (8) (5))) (zq_rv K))))) else (∃ b_20 : Nat, zq_r s_9 (7) 6 = some b_20 ∧ (((0 : Int) ≤ x1 ∧ x1 < (10 : Int)) ∧ (∃ b_23 : Nat, zq_r s_9 (b_7) 4 = some b_23 ∧ (zq_Ex X 44 0 [(.ref (8)), (.ref (b_20)), (zq_vi ((zq_i s_9 (18) (x1)) + 8)), (.ref (b_23)), zz_no] [] s_9 (zq_rp zq_bo fun x_26 s_25 => (if x_26 = 0 then (∃ b_32 : Nat, zq_r s_25 (b_7) 4 = some b_32 ∧ (zq_Ex X 45 0 [(.ref (b_32))] [] s_25 (zq_rv fun s_34 => (((0 : Int) ≤ x1 ∧ x1 < (10 : Int)) ∧ zq_Ex X 120 2 [(.ref (7)), (zq_vi (x1 + 1)), (.ref (b_7))] [] (zq_si s_34 (19) (x1) (zq_i s_34 (8) (5))) (zq_rv K))))) else (((0 : Int) ≤ x1 ∧ x1 < (10 : Int)) ∧ zq_Ex X 120 2 [(.ref (7)), (zq_vi (x1 + 1)), (.ref (b_7))] [] (zq_si s_25 (19) (x1) (zq_i s_25 (8) (5))) (zq_rv K)))))))))))))))) else K s)) : zq_Ex X 120 2 [(.ref (7)), (zq_vi (x1)), v2] [] s (zq_rv K) := by
  refine zq_run 2 (pc' := 5) (L' := [(.ref (7)), (zq_vi (x1)), v2]) (st' := [(zq_vi (9)), (zq_vi (x1))]) (fun _ _ _ => rfl) ?_
  refine zq_gt rfl hx1 (of_decide_eq_true rfl) (fun hb_1 => ?_) (fun hb_1 => ?_)
  · rw [if_neg hb_1] at w
    exact zq_vret rfl rfl (⟨rfl, w⟩)
  · rw [if_pos hb_1] at w
    refine zq_run 1 (pc' := 9) (L' := [(.ref (7)), (zq_vi (x1)), v2]) (st' := [(.ref (7))]) (fun _ _ _ => rfl) ?_
    refine zq_have (fun hR_2 => ?_)
    obtain ⟨b_3, hb_4, w⟩ := w
    refine zq_getf_rs (j := 7) rfl zq_a7 rfl rfl hb_4 ?_
    refine zq_run 1 (pc' := 13) (L' := [(.ref (7)), (zq_vi (x1)), v2]) (st' := [(zq_vi (x1)), (.ref (b_3))]) (fun _ _ _ => rfl) ?_
    refine zq_call_r (i := .invokevirtual 185) (r := [1, 33, 1, 1, 8]) rfl rfl (fun h hp => zr_avv rfl (hp.obj (zq_fcls hR_2 (k := 7) (j := 7) (cj := 8) zq_a7 rfl rfl hb_4))) (of_decide_eq_false rfl) w (fun s_5 w => ?_) (fun b_7 s_5 hb_8 w => ?_)
    · replace w := w.1 rfl
      refine zq_run 3 (pc' := 77) (L' := [(.ref (7)), (zq_vi (x1)), .null]) (st' := []) (fun _ _ _ => rfl) ?_
      refine zq_iinc (L' := [(.ref (7)), (zq_vi (x1 + 1)), .null]) rfl rfl rfl ?_
      refine zq_run 1 (pc' := 2) (L' := [(.ref (7)), (zq_vi (x1 + 1)), .null]) (st' := []) (fun _ _ _ => rfl) ?_
      exact w
    · replace w := w.2 b_7 rfl
      refine zq_run 6 (pc' := 24) (L' := [(.ref (7)), (zq_vi (x1)), (.ref (b_7))]) (st' := [(.ref (b_7)), (zq_vi (x1)), (.ref (7))]) (fun _ _ _ => rfl) ?_
      refine zq_call_i (i := .invokevirtual 188) (r := [1, 121, 2, 1, 5]) rfl rfl (fun h hp => zr_avv rfl (hp.obj zq_a7)) (of_decide_eq_false rfl) w (fun x_10 s_9 hx_11 w => ?_)
      refine zq_eq0 rfl (zq_bo_in hx_11) (fun hb_12 => ?_) (fun hb_12 => ?_)
      · rw [if_pos hb_12] at w
        refine zq_run 1 (pc' := 58) (L' := [(.ref (7)), (zq_vi (x1)), (.ref (b_7))]) (st' := [(.ref (b_7))]) (fun _ _ _ => rfl) ?_
        refine zq_have (fun hR_13 => ?_)
        obtain ⟨b_14, hb_15, w⟩ := w
        refine zq_getf_rs (j := 4) rfl hb_8 rfl rfl hb_15 ?_
        refine zq_call_v (i := .invokevirtual 195) (r := [1, 45, 0, 1, 4]) rfl rfl (fun h hp => zr_avv rfl (hp.obj (zq_fcls hR_13 (k := 4) (j := 4) (cj := 4) hb_8 rfl rfl hb_15))) (of_decide_eq_false rfl) w (fun s_16 w => ?_)
        refine zq_run 1 (pc' := 65) (L' := [(.ref (7)), (zq_vi (x1)), (.ref (b_7))]) (st' := [(.ref (7))]) (fun _ _ _ => rfl) ?_
        refine zq_getf_f (b := 19) rfl zq_a7 rfl rfl ?_
        refine zq_run 2 (pc' := 70) (L' := [(.ref (7)), (zq_vi (x1)), (.ref (b_7))]) (st' := [(.ref (7)), (zq_vi (x1)), (.ref (19))]) (fun _ _ _ => rfl) ?_
        refine zq_getf_f (b := 8) rfl zq_a7 rfl rfl ?_
        refine zq_have (fun hR_17 => ?_)
        refine zq_getf_i (j := 5) (v := zq_i s_16 (8) (5)) rfl zq_a8 rfl rfl rfl ?_
        obtain ⟨g_18, w⟩ := w
        refine zq_ast_i rfl zq_a19 g_18.1 g_18.2 (hR_17.1 _ _) ?_
        refine zq_iinc (L' := [(.ref (7)), (zq_vi (x1 + 1)), (.ref (b_7))]) rfl rfl rfl ?_
        refine zq_run 1 (pc' := 2) (L' := [(.ref (7)), (zq_vi (x1 + 1)), (.ref (b_7))]) (st' := []) (fun _ _ _ => rfl) ?_
        exact w
      · rw [if_neg hb_12] at w
        refine zq_run 1 (pc' := 31) (L' := [(.ref (7)), (zq_vi (x1)), (.ref (b_7))]) (st' := [(.ref (7))]) (fun _ _ _ => rfl) ?_
        refine zq_getf_f (b := 8) rfl zq_a7 rfl rfl ?_
        refine zq_run 1 (pc' := 35) (L' := [(.ref (7)), (zq_vi (x1)), (.ref (b_7))]) (st' := [(.ref (7)), (.ref (8))]) (fun _ _ _ => rfl) ?_
        refine zq_have (fun hR_19 => ?_)
        obtain ⟨b_20, hb_21, w⟩ := w
        refine zq_getf_rs (j := 6) rfl zq_a7 rfl rfl hb_21 ?_
        refine zq_run 1 (pc' := 39) (L' := [(.ref (7)), (zq_vi (x1)), (.ref (b_7))]) (st' := [(.ref (7)), (.ref (b_20)), (.ref (8))]) (fun _ _ _ => rfl) ?_
        refine zq_getf_f (b := 18) rfl zq_a7 rfl rfl ?_
        refine zq_run 1 (pc' := 43) (L' := [(.ref (7)), (zq_vi (x1)), (.ref (b_7))]) (st' := [(zq_vi (x1)), (.ref (18)), (.ref (b_20)), (.ref (8))]) (fun _ _ _ => rfl) ?_
        obtain ⟨g_22, w⟩ := w
        refine zq_ald_i (v := zq_i s_9 (18) (x1)) rfl zq_a18 g_22.1 g_22.2 rfl ?_
        refine zq_run 1 (pc' := 46) (L' := [(.ref (7)), (zq_vi (x1)), (.ref (b_7))]) (st' := [(zq_vi (8)), (zq_vi (zq_i s_9 (18) (x1))), (.ref (b_20)), (.ref (8))]) (fun _ _ _ => rfl) ?_
        refine zq_iadd rfl ?_
        refine zq_run 1 (pc' := 48) (L' := [(.ref (7)), (zq_vi (x1)), (.ref (b_7))]) (st' := [(.ref (b_7)), (zq_vi ((zq_i s_9 (18) (x1)) + 8)), (.ref (b_20)), (.ref (8))]) (fun _ _ _ => rfl) ?_
        obtain ⟨b_23, hb_24, w⟩ := w
        refine zq_getf_rs (j := 4) rfl hb_8 rfl rfl hb_24 ?_
        refine zq_call_i (i := .invokevirtual 90) (r := [1, 44, 3, 1, 3]) rfl rfl (fun h hp => zr_avv rfl (hp.obj zq_a8)) (of_decide_eq_false rfl) w (fun x_26 s_25 hx_27 w => ?_)
        refine zq_ne0 rfl (zq_bo_in hx_27) (fun hb_28 => ?_) (fun hb_28 => ?_)
        · rw [if_neg hb_28] at w
          refine zq_run 1 (pc' := 65) (L' := [(.ref (7)), (zq_vi (x1)), (.ref (b_7))]) (st' := [(.ref (7))]) (fun _ _ _ => rfl) ?_
          refine zq_getf_f (b := 19) rfl zq_a7 rfl rfl ?_
          refine zq_run 2 (pc' := 70) (L' := [(.ref (7)), (zq_vi (x1)), (.ref (b_7))]) (st' := [(.ref (7)), (zq_vi (x1)), (.ref (19))]) (fun _ _ _ => rfl) ?_
          refine zq_getf_f (b := 8) rfl zq_a7 rfl rfl ?_
          refine zq_have (fun hR_29 => ?_)
          refine zq_getf_i (j := 5) (v := zq_i s_25 (8) (5)) rfl zq_a8 rfl rfl rfl ?_
          obtain ⟨g_30, w⟩ := w
          refine zq_ast_i rfl zq_a19 g_30.1 g_30.2 (hR_29.1 _ _) ?_
          refine zq_iinc (L' := [(.ref (7)), (zq_vi (x1 + 1)), (.ref (b_7))]) rfl rfl rfl ?_
          refine zq_run 1 (pc' := 2) (L' := [(.ref (7)), (zq_vi (x1 + 1)), (.ref (b_7))]) (st' := []) (fun _ _ _ => rfl) ?_
          exact w
        · rw [if_pos hb_28] at w
          refine zq_run 1 (pc' := 58) (L' := [(.ref (7)), (zq_vi (x1)), (.ref (b_7))]) (st' := [(.ref (b_7))]) (fun _ _ _ => rfl) ?_
          refine zq_have (fun hR_31 => ?_)
          obtain ⟨b_32, hb_33, w⟩ := w
          refine zq_getf_rs (j := 4) rfl hb_8 rfl rfl hb_33 ?_
          refine zq_call_v (i := .invokevirtual 195) (r := [1, 45, 0, 1, 4]) rfl rfl (fun h hp => zr_avv rfl (hp.obj (zq_fcls hR_31 (k := 4) (j := 4) (cj := 4) hb_8 rfl rfl hb_33))) (of_decide_eq_false rfl) w (fun s_34 w => ?_)
          refine zq_run 1 (pc' := 65) (L' := [(.ref (7)), (zq_vi (x1)), (.ref (b_7))]) (st' := [(.ref (7))]) (fun _ _ _ => rfl) ?_
          refine zq_getf_f (b := 19) rfl zq_a7 rfl rfl ?_
          refine zq_run 2 (pc' := 70) (L' := [(.ref (7)), (zq_vi (x1)), (.ref (b_7))]) (st' := [(.ref (7)), (zq_vi (x1)), (.ref (19))]) (fun _ _ _ => rfl) ?_
          refine zq_getf_f (b := 8) rfl zq_a7 rfl rfl ?_
          refine zq_have (fun hR_35 => ?_)
          refine zq_getf_i (j := 5) (v := zq_i s_34 (8) (5)) rfl zq_a8 rfl rfl rfl ?_
          obtain ⟨g_36, w⟩ := w
          refine zq_ast_i rfl zq_a19 g_36.1 g_36.2 (hR_35.1 _ _) ?_
          refine zq_iinc (L' := [(.ref (7)), (zq_vi (x1 + 1)), (.ref (b_7))]) rfl rfl rfl ?_
          refine zq_run 1 (pc' := 2) (L' := [(.ref (7)), (zq_vi (x1 + 1)), (.ref (b_7))]) (st' := []) (fun _ _ _ => rfl) ?_
          exact w
/-- PaperObjects$Loader.standsHead(ILPaperObjects$Slot;)Z -/
theorem zw_121 {X : Nat × (Nat → Int32)} {s : zq_S} {K : Int → zq_S → Prop} {x1 : Int} (hx1 : zq_iv x1) {a2 : Nat} (ha2 : zq_o 7 a2) (w : (((0 : Int) ≤ x1 ∧ x1 < (10 : Int)) ∧ (∃ b_3 : Nat, zq_r s (7) 6 = some b_3 ∧ (zq_Ex X 29 0 [(.ref (b_3)), (zq_vi (zq_i s (18) (x1)))] [] s (zq_rp zq_iv fun x_6 s_5 => (zq_iv (48 + x1) ∧ (if x_6 = 48 + x1 then (∃ b_11 : Nat, zq_r s_5 (7) 6 = some b_11 ∧ (zq_Ex X 29 0 [(.ref (b_11)), (zq_vi ((zq_i s (18) (x1)) + 1))] [] s_5 (zq_rp zq_iv fun x_14 s_13 => (if x_14 = 32 then (∃ b_18 : Nat, zq_r s_13 (7) 6 = some b_18 ∧ (zq_Ex X 29 0 [(.ref (b_18)), (zq_vi ((zq_i s (18) (x1)) + 2))] [] s_13 (zq_rp zq_iv fun x_21 s_20 => (zq_iv (48 + (zq_i s_20 (a2) (3))) ∧ (if x_21 = 48 + (zq_i s_20 (a2) (3)) then (∃ b_26 : Nat, zq_r s_20 (7) 6 = some b_26 ∧ (zq_Ex X 49 0 [(.ref (b_26)), (zq_vi ((zq_i s (18) (x1)) + 3)), (.ref (1000000 + 32)), zz_no] [] s_20 (zq_rp zq_bo fun x_29 s_28 => (if x_29 = 0 then K (0) s_28 else K (1) s_28)))) else K (0) s_20))))) else K (0) s_13)))) else K (0) s_5))))))) : zq_Ex X 121 0 [(.ref (7)), (zq_vi (x1)), (.ref (a2)), zz_no] [] s (zq_rp zq_bo K) := by
  refine zq_run 1 (pc' := 1) (L' := [(.ref (7)), (zq_vi (x1)), (.ref (a2)), zz_no]) (st' := [(.ref (7))]) (fun _ _ _ => rfl) ?_
  refine zq_getf_f (b := 18) rfl zq_a7 rfl rfl ?_
  refine zq_run 1 (pc' := 5) (L' := [(.ref (7)), (zq_vi (x1)), (.ref (a2)), zz_no]) (st' := [(zq_vi (x1)), (.ref (18))]) (fun _ _ _ => rfl) ?_
  obtain ⟨g_1, w⟩ := w
  refine zq_have (fun hR_2 => ?_)
  refine zq_ald_i (v := zq_i s (18) (x1)) rfl zq_a18 g_1.1 g_1.2 rfl ?_
  refine zq_run 2 (pc' := 8) (L' := [(.ref (7)), (zq_vi (x1)), (.ref (a2)), (zq_vi (zq_i s (18) (x1)))]) (st' := [(.ref (7))]) (fun _ _ _ => rfl) ?_
  obtain ⟨b_3, hb_4, w⟩ := w
  refine zq_getf_rs (j := 6) rfl zq_a7 rfl rfl hb_4 ?_
  refine zq_run 1 (pc' := 12) (L' := [(.ref (7)), (zq_vi (x1)), (.ref (a2)), (zq_vi (zq_i s (18) (x1)))]) (st' := [(zq_vi (zq_i s (18) (x1))), (.ref (b_3))]) (fun _ _ _ => rfl) ?_
  refine zq_call_i (i := .invokevirtual 127) (r := [1, 29, 1, 1, 1]) rfl rfl (fun h hp => zr_avv rfl (hp.obj (zq_fcls hR_2 (k := 6) (j := 6) (cj := 1) zq_a7 rfl rfl hb_4))) (of_decide_eq_false rfl) w (fun x_6 s_5 hx_7 w => ?_)
  refine zq_run 2 (pc' := 18) (L' := [(.ref (7)), (zq_vi (x1)), (.ref (a2)), (zq_vi (zq_i s (18) (x1)))]) (st' := [(zq_vi (x1)), (zq_vi (48)), (zq_vi (x_6))]) (fun _ _ _ => rfl) ?_
  refine zq_iadd rfl ?_
  obtain ⟨g_8, w⟩ := w
  refine zq_ne rfl hx_7 g_8 (fun hb_9 => ?_) (fun hb_9 => ?_)
  · rw [if_neg hb_9] at w
    refine zq_run 1 (pc' := 77) (L' := [(.ref (7)), (zq_vi (x1)), (.ref (a2)), (zq_vi (zq_i s (18) (x1)))]) (st' := [(zq_vi (0))]) (fun _ _ _ => rfl) ?_
    exact zq_iret rfl rfl (congrArg Value.int (zq_nb (of_decide_eq_true rfl))) (⟨_, rfl, (of_decide_eq_true rfl), w⟩)
  · rw [if_pos hb_9] at w
    refine zq_run 1 (pc' := 23) (L' := [(.ref (7)), (zq_vi (x1)), (.ref (a2)), (zq_vi (zq_i s (18) (x1)))]) (st' := [(.ref (7))]) (fun _ _ _ => rfl) ?_
    refine zq_have (fun hR_10 => ?_)
    obtain ⟨b_11, hb_12, w⟩ := w
    refine zq_getf_rs (j := 6) rfl zq_a7 rfl rfl hb_12 ?_
    refine zq_run 2 (pc' := 28) (L' := [(.ref (7)), (zq_vi (x1)), (.ref (a2)), (zq_vi (zq_i s (18) (x1)))]) (st' := [(zq_vi (1)), (zq_vi (zq_i s (18) (x1))), (.ref (b_11))]) (fun _ _ _ => rfl) ?_
    refine zq_iadd rfl ?_
    refine zq_call_i (i := .invokevirtual 127) (r := [1, 29, 1, 1, 1]) rfl rfl (fun h hp => zr_avv rfl (hp.obj (zq_fcls hR_10 (k := 6) (j := 6) (cj := 1) zq_a7 rfl rfl hb_12))) (of_decide_eq_false rfl) w (fun x_14 s_13 hx_15 w => ?_)
    refine zq_run 1 (pc' := 34) (L' := [(.ref (7)), (zq_vi (x1)), (.ref (a2)), (zq_vi (zq_i s (18) (x1)))]) (st' := [(zq_vi (32)), (zq_vi (x_14))]) (fun _ _ _ => rfl) ?_
    refine zq_ne rfl hx_15 (of_decide_eq_true rfl) (fun hb_16 => ?_) (fun hb_16 => ?_)
    · rw [if_neg hb_16] at w
      refine zq_run 1 (pc' := 77) (L' := [(.ref (7)), (zq_vi (x1)), (.ref (a2)), (zq_vi (zq_i s (18) (x1)))]) (st' := [(zq_vi (0))]) (fun _ _ _ => rfl) ?_
      exact zq_iret rfl rfl (congrArg Value.int (zq_nb (of_decide_eq_true rfl))) (⟨_, rfl, (of_decide_eq_true rfl), w⟩)
    · rw [if_pos hb_16] at w
      refine zq_run 1 (pc' := 38) (L' := [(.ref (7)), (zq_vi (x1)), (.ref (a2)), (zq_vi (zq_i s (18) (x1)))]) (st' := [(.ref (7))]) (fun _ _ _ => rfl) ?_
      refine zq_have (fun hR_17 => ?_)
      obtain ⟨b_18, hb_19, w⟩ := w
      refine zq_getf_rs (j := 6) rfl zq_a7 rfl rfl hb_19 ?_
      refine zq_run 2 (pc' := 43) (L' := [(.ref (7)), (zq_vi (x1)), (.ref (a2)), (zq_vi (zq_i s (18) (x1)))]) (st' := [(zq_vi (2)), (zq_vi (zq_i s (18) (x1))), (.ref (b_18))]) (fun _ _ _ => rfl) ?_
      refine zq_iadd rfl ?_
      refine zq_call_i (i := .invokevirtual 127) (r := [1, 29, 1, 1, 1]) rfl rfl (fun h hp => zr_avv rfl (hp.obj (zq_fcls hR_17 (k := 6) (j := 6) (cj := 1) zq_a7 rfl rfl hb_19))) (of_decide_eq_false rfl) w (fun x_21 s_20 hx_22 w => ?_)
      refine zq_run 2 (pc' := 50) (L' := [(.ref (7)), (zq_vi (x1)), (.ref (a2)), (zq_vi (zq_i s (18) (x1)))]) (st' := [(.ref (a2)), (zq_vi (48)), (zq_vi (x_21))]) (fun _ _ _ => rfl) ?_
      refine zq_have (fun hR_23 => ?_)
      refine zq_getf_i (j := 3) (v := zq_i s_20 (a2) (3)) rfl ha2 rfl rfl rfl ?_
      refine zq_iadd rfl ?_
      obtain ⟨g_24, w⟩ := w
      refine zq_ne rfl hx_22 g_24 (fun hb_25 => ?_) (fun hb_25 => ?_)
      · rw [if_neg hb_25] at w
        refine zq_run 1 (pc' := 77) (L' := [(.ref (7)), (zq_vi (x1)), (.ref (a2)), (zq_vi (zq_i s (18) (x1)))]) (st' := [(zq_vi (0))]) (fun _ _ _ => rfl) ?_
        exact zq_iret rfl rfl (congrArg Value.int (zq_nb (of_decide_eq_true rfl))) (⟨_, rfl, (of_decide_eq_true rfl), w⟩)
      · rw [if_pos hb_25] at w
        refine zq_run 1 (pc' := 58) (L' := [(.ref (7)), (zq_vi (x1)), (.ref (a2)), (zq_vi (zq_i s (18) (x1)))]) (st' := [(.ref (7))]) (fun _ _ _ => rfl) ?_
        obtain ⟨b_26, hb_27, w⟩ := w
        refine zq_getf_rs (j := 6) rfl zq_a7 rfl rfl hb_27 ?_
        refine zq_run 2 (pc' := 63) (L' := [(.ref (7)), (zq_vi (x1)), (.ref (a2)), (zq_vi (zq_i s (18) (x1)))]) (st' := [(zq_vi (3)), (zq_vi (zq_i s (18) (x1))), (.ref (b_26))]) (fun _ _ _ => rfl) ?_
        refine zq_iadd rfl ?_
        refine zq_run 1 (pc' := 66) (L' := [(.ref (7)), (zq_vi (x1)), (.ref (a2)), (zq_vi (zq_i s (18) (x1)))]) (st' := [(.ref (1000000 + 32)), (zq_vi ((zq_i s (18) (x1)) + 3)), (.ref (b_26))]) (fun _ _ _ => rfl) ?_
        refine zq_call_i (i := .invokevirtual 119) (r := [1, 49, 2, 1, 1]) rfl rfl (fun h hp => zr_avv rfl (hp.obj (zq_fcls hR_23 (k := 6) (j := 6) (cj := 1) zq_a7 rfl rfl hb_27))) (of_decide_eq_false rfl) w (fun x_29 s_28 hx_30 w => ?_)
        refine zq_eq0 rfl (zq_bo_in hx_30) (fun hb_31 => ?_) (fun hb_31 => ?_)
        · rw [if_pos hb_31] at w
          refine zq_run 1 (pc' := 77) (L' := [(.ref (7)), (zq_vi (x1)), (.ref (a2)), (zq_vi (zq_i s (18) (x1)))]) (st' := [(zq_vi (0))]) (fun _ _ _ => rfl) ?_
          exact zq_iret rfl rfl (congrArg Value.int (zq_nb (of_decide_eq_true rfl))) (⟨_, rfl, (of_decide_eq_true rfl), w⟩)
        · rw [if_neg hb_31] at w
          refine zq_run 2 (pc' := 77) (L' := [(.ref (7)), (zq_vi (x1)), (.ref (a2)), (zq_vi (zq_i s (18) (x1)))]) (st' := [(zq_vi (1))]) (fun _ _ _ => rfl) ?_
          exact zq_iret rfl rfl (congrArg Value.int (zq_nb (of_decide_eq_true rfl))) (⟨_, rfl, (of_decide_eq_true rfl), w⟩)
/-- PaperObjects$Loader.takeEnds()Z -/
theorem zw_122 {X : Nat × (Nat → Int32)} {s : zq_S} {K : Int → zq_S → Prop}  (w : zq_Ex X 122 2 [(.ref (7)), (zq_vi (1)), zz_no] [] s (zq_rp zq_bo K)) : zq_Ex X 122 0 [(.ref (7)), zz_no, zz_no] [] s (zq_rp zq_bo K) := by
  refine zq_run 2 (pc' := 2) (L' := [(.ref (7)), (zq_vi (1)), zz_no]) (st' := []) (fun _ _ _ => rfl) ?_
  exact w
/-- PaperObjects$Loader.takeEnds at 2 -/
theorem zw_122_2 {X : Nat × (Nat → Int32)} {s : zq_S} {K : Int → zq_S → Prop} {x1 : Int} (hx1 : zq_iv x1) {v2 : Value} (hv2 : v2.category = 1) (w : (if x1 ≤ 9 then (∃ b_3 : Nat, zq_r s (7) 7 = some b_3 ∧ (zq_Ex X 33 0 [(.ref (b_3)), (zq_vi (x1)), zz_no] [] s (zq_rr 7 fun o_6 s_5 => ((o_6 = none → zq_Ex X 122 2 [(.ref (7)), (zq_vi (x1 + 1)), .null] [] s_5 (zq_rp zq_bo K)) ∧ (∀ b_7 : Nat, o_6 = some b_7 → (zq_Ex X 123 0 [(.ref (7)), (zq_vi (x1)), (.ref (b_7)), zz_no, zz_no, zz_no] [] s_5 (zq_rp zq_bo fun x_10 s_9 => (if x_10 = 0 then K (0) s_9 else zq_Ex X 122 2 [(.ref (7)), (zq_vi (x1 + 1)), (.ref (b_7))] [] s_9 (zq_rp zq_bo K))))))))) else K (1) s)) : zq_Ex X 122 2 [(.ref (7)), (zq_vi (x1)), v2] [] s (zq_rp zq_bo K) := by
  refine zq_run 2 (pc' := 5) (L' := [(.ref (7)), (zq_vi (x1)), v2]) (st' := [(zq_vi (9)), (zq_vi (x1))]) (fun _ _ _ => rfl) ?_
  refine zq_gt rfl hx1 (of_decide_eq_true rfl) (fun hb_1 => ?_) (fun hb_1 => ?_)
  · rw [if_neg hb_1] at w
    refine zq_run 1 (pc' := 39) (L' := [(.ref (7)), (zq_vi (x1)), v2]) (st' := [(zq_vi (1))]) (fun _ _ _ => rfl) ?_
    exact zq_iret rfl rfl (congrArg Value.int (zq_nb (of_decide_eq_true rfl))) (⟨_, rfl, (of_decide_eq_true rfl), w⟩)
  · rw [if_pos hb_1] at w
    refine zq_run 1 (pc' := 9) (L' := [(.ref (7)), (zq_vi (x1)), v2]) (st' := [(.ref (7))]) (fun _ _ _ => rfl) ?_
    refine zq_have (fun hR_2 => ?_)
    obtain ⟨b_3, hb_4, w⟩ := w
    refine zq_getf_rs (j := 7) rfl zq_a7 rfl rfl hb_4 ?_
    refine zq_run 1 (pc' := 13) (L' := [(.ref (7)), (zq_vi (x1)), v2]) (st' := [(zq_vi (x1)), (.ref (b_3))]) (fun _ _ _ => rfl) ?_
    refine zq_call_r (i := .invokevirtual 185) (r := [1, 33, 1, 1, 8]) rfl rfl (fun h hp => zr_avv rfl (hp.obj (zq_fcls hR_2 (k := 7) (j := 7) (cj := 8) zq_a7 rfl rfl hb_4))) (of_decide_eq_false rfl) w (fun s_5 w => ?_) (fun b_7 s_5 hb_8 w => ?_)
    · replace w := w.1 rfl
      refine zq_run 3 (pc' := 32) (L' := [(.ref (7)), (zq_vi (x1)), .null]) (st' := []) (fun _ _ _ => rfl) ?_
      refine zq_iinc (L' := [(.ref (7)), (zq_vi (x1 + 1)), .null]) rfl rfl rfl ?_
      refine zq_run 1 (pc' := 2) (L' := [(.ref (7)), (zq_vi (x1 + 1)), .null]) (st' := []) (fun _ _ _ => rfl) ?_
      exact w
    · replace w := w.2 b_7 rfl
      refine zq_run 6 (pc' := 24) (L' := [(.ref (7)), (zq_vi (x1)), (.ref (b_7))]) (st' := [(.ref (b_7)), (zq_vi (x1)), (.ref (7))]) (fun _ _ _ => rfl) ?_
      refine zq_call_i (i := .invokevirtual 201) (r := [1, 123, 2, 1, 5]) rfl rfl (fun h hp => zr_avv rfl (hp.obj zq_a7)) (of_decide_eq_false rfl) w (fun x_10 s_9 hx_11 w => ?_)
      refine zq_ne0 rfl (zq_bo_in hx_11) (fun hb_12 => ?_) (fun hb_12 => ?_)
      · rw [if_neg hb_12] at w
        refine zq_iinc (L' := [(.ref (7)), (zq_vi (x1 + 1)), (.ref (b_7))]) rfl rfl rfl ?_
        refine zq_run 1 (pc' := 2) (L' := [(.ref (7)), (zq_vi (x1 + 1)), (.ref (b_7))]) (st' := []) (fun _ _ _ => rfl) ?_
        exact w
      · rw [if_pos hb_12] at w
        refine zq_run 1 (pc' := 31) (L' := [(.ref (7)), (zq_vi (x1)), (.ref (b_7))]) (st' := [(zq_vi (0))]) (fun _ _ _ => rfl) ?_
        exact zq_iret rfl rfl (congrArg Value.int (zq_nb (of_decide_eq_true rfl))) (⟨_, rfl, (of_decide_eq_true rfl), w⟩)
/-- PaperObjects$Loader.takeEnd(ILPaperObjects$Slot;)Z -/
theorem zw_123 {X : Nat × (Nat → Int32)} {s : zq_S} {K : Int → zq_S → Prop} {x1 : Int} (hx1 : zq_iv x1) {a2 : Nat} (ha2 : zq_o 7 a2) (w : (((0 : Int) ≤ x1 ∧ x1 < (10 : Int)) ∧ (((0 : Int) ≤ x1 ∧ x1 < (10 : Int)) ∧ (∃ b_4 : Nat, zq_r s (a2) 4 = some b_4 ∧ (if zq_i s (b_4) (0) = 0 then (zq_Ex X 111 0 [(.ref (7)), (zq_vi (3)), (zq_vi (zq_i s (18) (x1)))] [] s (zq_rp zq_bo fun x_67 s_66 => K (x_67) s_66)) else (∃ b_7 : Nat, zq_r s (7) 6 = some b_7 ∧ (zq_Ex X 49 0 [(.ref (b_7)), (zq_vi (zq_i s (19) (x1))), (.ref (1000000 + 33)), zz_no] [] s (zq_rp zq_bo fun x_10 s_9 => (if x_10 = 0 then (∃ b_14 : Nat, zq_r s_9 (7) 6 = some b_14 ∧ (zq_Ex X 49 0 [(.ref (b_14)), (zq_vi (zq_i s (19) (x1))), (.ref (1000000 + 34)), zz_no] [] s_9 (zq_rp zq_bo fun x_17 s_16 => (if x_17 = 0 then (zq_Ex X 111 0 [(.ref (7)), (zq_vi (3)), (zq_vi (zq_i s (18) (x1)))] [] s_16 (zq_rp zq_bo fun x_21 s_20 => K (x_21) s_20)) else (∃ b_24 : Nat, zq_r s_16 (a2) 4 = some b_24 ∧ (zq_Ex X 48 0 [(.ref (b_24)), (zq_vi (0))] [] s_16 (zq_rp zq_iv fun x_27 s_26 => (if x_27 = 7 then (∃ b_31 : Nat, zq_r s_26 (7) 7 = some b_31 ∧ (∃ b_33 : Nat, zq_r s_26 (a2) 4 = some b_33 ∧ (zq_Ex X 91 0 [(.ref (b_31)), (.ref (b_33)), (.ref (10)), zz_no, zz_no] [] s_26 (zq_rp zq_iv fun x_36 s_35 => (zq_Ex X 94 0 [(.ref (10))] [] s_35 (zq_rp zq_iv fun x_39 s_38 => (if x_39 = (-1) then (((0 : Int) ≤ zq_i s_38 (10) (2) ∧ zq_i s_38 (10) (2) < (10 : Int)) ∧ (zq_Ex X 111 0 [(.ref (7)), (zq_vi (3)), (zq_vi (zq_i s_38 (18) (zq_i s_38 (10) (2))))] [] s_38 (zq_rp zq_bo fun x_61 s_60 => K (x_61) s_60))) else (if x_36 < 0 then (zq_Ex X 111 0 [(.ref (7)), (zq_vi (4)), (zq_vi (zq_i s (18) (x1)))] [] s_38 (zq_rp zq_bo fun x_44 s_43 => K (x_44) s_43)) else (if x_36 ≤ 12 then (zq_Ex X 124 0 [(.ref (7)), (.ref (a2)), (zq_vi ((zq_i s (19) (x1)) + 8)), (zq_vi (x_36)), zz_no, zz_no] [] s_38 (zq_rp zq_bo fun x_48 s_47 => (if x_48 = 0 then (zq_Ex X 111 0 [(.ref (7)), (zq_vi (3)), (zq_vi (zq_i s (18) (x1)))] [] s_47 (zq_rp zq_bo fun x_52 s_51 => (if x_52 = 0 then K (0) s_51 else K (1) s_51))) else K (1) s_47))) else (zq_Ex X 111 0 [(.ref (7)), (zq_vi (4)), (zq_vi (zq_i s (18) (x1)))] [] s_38 (zq_rp zq_bo fun x_56 s_55 => K (x_56) s_55))))))))))) else (zq_Ex X 111 0 [(.ref (7)), (zq_vi (3)), (zq_vi (zq_i s (18) (x1)))] [] s_26 (zq_rp zq_bo fun x_64 s_63 => K (x_64) s_63)))))))))) else K (1) s_9))))))))) : zq_Ex X 123 0 [(.ref (7)), (zq_vi (x1)), (.ref (a2)), zz_no, zz_no, zz_no] [] s (zq_rp zq_bo K) := by
  refine zq_run 1 (pc' := 1) (L' := [(.ref (7)), (zq_vi (x1)), (.ref (a2)), zz_no, zz_no, zz_no]) (st' := [(.ref (7))]) (fun _ _ _ => rfl) ?_
  refine zq_getf_f (b := 18) rfl zq_a7 rfl rfl ?_
  refine zq_run 1 (pc' := 5) (L' := [(.ref (7)), (zq_vi (x1)), (.ref (a2)), zz_no, zz_no, zz_no]) (st' := [(zq_vi (x1)), (.ref (18))]) (fun _ _ _ => rfl) ?_
  obtain ⟨g_1, w⟩ := w
  refine zq_have (fun hR_2 => ?_)
  refine zq_ald_i (v := zq_i s (18) (x1)) rfl zq_a18 g_1.1 g_1.2 rfl ?_
  refine zq_run 2 (pc' := 8) (L' := [(.ref (7)), (zq_vi (x1)), (.ref (a2)), (zq_vi (zq_i s (18) (x1))), zz_no, zz_no]) (st' := [(.ref (7))]) (fun _ _ _ => rfl) ?_
  refine zq_getf_f (b := 19) rfl zq_a7 rfl rfl ?_
  refine zq_run 1 (pc' := 12) (L' := [(.ref (7)), (zq_vi (x1)), (.ref (a2)), (zq_vi (zq_i s (18) (x1))), zz_no, zz_no]) (st' := [(zq_vi (x1)), (.ref (19))]) (fun _ _ _ => rfl) ?_
  obtain ⟨g_3, w⟩ := w
  refine zq_ald_i (v := zq_i s (19) (x1)) rfl zq_a19 g_3.1 g_3.2 rfl ?_
  refine zq_run 2 (pc' := 16) (L' := [(.ref (7)), (zq_vi (x1)), (.ref (a2)), (zq_vi (zq_i s (18) (x1))), (zq_vi (zq_i s (19) (x1))), zz_no]) (st' := [(.ref (a2))]) (fun _ _ _ => rfl) ?_
  obtain ⟨b_4, hb_5, w⟩ := w
  refine zq_getf_rs (j := 4) rfl ha2 rfl rfl hb_5 ?_
  refine zq_getf_i (j := 0) (v := zq_i s (b_4) (0)) rfl (zq_fcls hR_2 (k := 4) (j := 4) (cj := 4) ha2 rfl rfl hb_5) rfl rfl rfl ?_
  refine zq_ne0 rfl (hR_2.1 _ _) (fun hb_6 => ?_) (fun hb_6 => ?_)
  · rw [if_neg hb_6] at w
    refine zq_run 1 (pc' := 33) (L' := [(.ref (7)), (zq_vi (x1)), (.ref (a2)), (zq_vi (zq_i s (18) (x1))), (zq_vi (zq_i s (19) (x1))), zz_no]) (st' := [(.ref (7))]) (fun _ _ _ => rfl) ?_
    obtain ⟨b_7, hb_8, w⟩ := w
    refine zq_getf_rs (j := 6) rfl zq_a7 rfl rfl hb_8 ?_
    refine zq_run 2 (pc' := 40) (L' := [(.ref (7)), (zq_vi (x1)), (.ref (a2)), (zq_vi (zq_i s (18) (x1))), (zq_vi (zq_i s (19) (x1))), zz_no]) (st' := [(.ref (1000000 + 33)), (zq_vi (zq_i s (19) (x1))), (.ref (b_7))]) (fun _ _ _ => rfl) ?_
    refine zq_call_i (i := .invokevirtual 119) (r := [1, 49, 2, 1, 1]) rfl rfl (fun h hp => zr_avv rfl (hp.obj (zq_fcls hR_2 (k := 6) (j := 6) (cj := 1) zq_a7 rfl rfl hb_8))) (of_decide_eq_false rfl) w (fun x_10 s_9 hx_11 w => ?_)
    refine zq_eq0 rfl (zq_bo_in hx_11) (fun hb_12 => ?_) (fun hb_12 => ?_)
    · rw [if_pos hb_12] at w
      refine zq_run 1 (pc' := 49) (L' := [(.ref (7)), (zq_vi (x1)), (.ref (a2)), (zq_vi (zq_i s (18) (x1))), (zq_vi (zq_i s (19) (x1))), zz_no]) (st' := [(.ref (7))]) (fun _ _ _ => rfl) ?_
      refine zq_have (fun hR_13 => ?_)
      obtain ⟨b_14, hb_15, w⟩ := w
      refine zq_getf_rs (j := 6) rfl zq_a7 rfl rfl hb_15 ?_
      refine zq_run 2 (pc' := 56) (L' := [(.ref (7)), (zq_vi (x1)), (.ref (a2)), (zq_vi (zq_i s (18) (x1))), (zq_vi (zq_i s (19) (x1))), zz_no]) (st' := [(.ref (1000000 + 34)), (zq_vi (zq_i s (19) (x1))), (.ref (b_14))]) (fun _ _ _ => rfl) ?_
      refine zq_call_i (i := .invokevirtual 119) (r := [1, 49, 2, 1, 1]) rfl rfl (fun h hp => zr_avv rfl (hp.obj (zq_fcls hR_13 (k := 6) (j := 6) (cj := 1) zq_a7 rfl rfl hb_15))) (of_decide_eq_false rfl) w (fun x_17 s_16 hx_18 w => ?_)
      refine zq_eq0 rfl (zq_bo_in hx_18) (fun hb_19 => ?_) (fun hb_19 => ?_)
      · rw [if_pos hb_19] at w
        refine zq_run 3 (pc' := 78) (L' := [(.ref (7)), (zq_vi (x1)), (.ref (a2)), (zq_vi (zq_i s (18) (x1))), (zq_vi (zq_i s (19) (x1))), zz_no]) (st' := [(zq_vi (zq_i s (18) (x1))), (zq_vi (3)), (.ref (7))]) (fun _ _ _ => rfl) ?_
        refine zq_call_i (i := .invokevirtual 78) (r := [1, 111, 2, 1, 5]) rfl rfl (fun h hp => zr_avv rfl (hp.obj zq_a7)) (of_decide_eq_false rfl) w (fun x_21 s_20 hx_22 w => ?_)
        exact zq_iret rfl rfl (congrArg Value.int (zq_nb hx_22)) (⟨_, rfl, hx_22, w⟩)
      · rw [if_neg hb_19] at w
        refine zq_run 1 (pc' := 63) (L' := [(.ref (7)), (zq_vi (x1)), (.ref (a2)), (zq_vi (zq_i s (18) (x1))), (zq_vi (zq_i s (19) (x1))), zz_no]) (st' := [(.ref (a2))]) (fun _ _ _ => rfl) ?_
        refine zq_have (fun hR_23 => ?_)
        obtain ⟨b_24, hb_25, w⟩ := w
        refine zq_getf_rs (j := 4) rfl ha2 rfl rfl hb_25 ?_
        refine zq_run 1 (pc' := 67) (L' := [(.ref (7)), (zq_vi (x1)), (.ref (a2)), (zq_vi (zq_i s (18) (x1))), (zq_vi (zq_i s (19) (x1))), zz_no]) (st' := [(zq_vi (0)), (.ref (b_24))]) (fun _ _ _ => rfl) ?_
        refine zq_call_i (i := .invokevirtual 140) (r := [1, 48, 1, 1, 4]) rfl rfl (fun h hp => zr_avv rfl (hp.obj (zq_fcls hR_23 (k := 4) (j := 4) (cj := 4) ha2 rfl rfl hb_25))) (of_decide_eq_false rfl) w (fun x_27 s_26 hx_28 w => ?_)
        refine zq_run 1 (pc' := 72) (L' := [(.ref (7)), (zq_vi (x1)), (.ref (a2)), (zq_vi (zq_i s (18) (x1))), (zq_vi (zq_i s (19) (x1))), zz_no]) (st' := [(zq_vi (7)), (zq_vi (x_27))]) (fun _ _ _ => rfl) ?_
        refine zq_eq rfl hx_28 (of_decide_eq_true rfl) (fun hb_29 => ?_) (fun hb_29 => ?_)
        · rw [if_pos hb_29] at w
          refine zq_run 1 (pc' := 83) (L' := [(.ref (7)), (zq_vi (x1)), (.ref (a2)), (zq_vi (zq_i s (18) (x1))), (zq_vi (zq_i s (19) (x1))), zz_no]) (st' := [(.ref (7))]) (fun _ _ _ => rfl) ?_
          refine zq_have (fun hR_30 => ?_)
          obtain ⟨b_31, hb_32, w⟩ := w
          refine zq_getf_rs (j := 7) rfl zq_a7 rfl rfl hb_32 ?_
          refine zq_run 1 (pc' := 87) (L' := [(.ref (7)), (zq_vi (x1)), (.ref (a2)), (zq_vi (zq_i s (18) (x1))), (zq_vi (zq_i s (19) (x1))), zz_no]) (st' := [(.ref (a2)), (.ref (b_31))]) (fun _ _ _ => rfl) ?_
          obtain ⟨b_33, hb_34, w⟩ := w
          refine zq_getf_rs (j := 4) rfl ha2 rfl rfl hb_34 ?_
          refine zq_run 1 (pc' := 91) (L' := [(.ref (7)), (zq_vi (x1)), (.ref (a2)), (zq_vi (zq_i s (18) (x1))), (zq_vi (zq_i s (19) (x1))), zz_no]) (st' := [(.ref (7)), (.ref (b_33)), (.ref (b_31))]) (fun _ _ _ => rfl) ?_
          refine zq_getf_f (b := 10) rfl zq_a7 rfl rfl ?_
          refine zq_call_i (i := .invokevirtual 213) (r := [1, 91, 2, 1, 8]) rfl rfl (fun h hp => zr_avv rfl (hp.obj (zq_fcls hR_30 (k := 7) (j := 7) (cj := 8) zq_a7 rfl rfl hb_32))) (of_decide_eq_false rfl) w (fun x_36 s_35 hx_37 w => ?_)
          refine zq_run 2 (pc' := 100) (L' := [(.ref (7)), (zq_vi (x1)), (.ref (a2)), (zq_vi (zq_i s (18) (x1))), (zq_vi (zq_i s (19) (x1))), (zq_vi (x_36))]) (st' := [(.ref (7))]) (fun _ _ _ => rfl) ?_
          refine zq_getf_f (b := 10) rfl zq_a7 rfl rfl ?_
          refine zq_call_i (i := .invokevirtual 217) (r := [1, 94, 0, 1, 2]) rfl rfl (fun h hp => zr_avv rfl (hp.obj zq_a10)) (of_decide_eq_false rfl) w (fun x_39 s_38 hx_40 w => ?_)
          refine zq_run 1 (pc' := 107) (L' := [(.ref (7)), (zq_vi (x1)), (.ref (a2)), (zq_vi (zq_i s (18) (x1))), (zq_vi (zq_i s (19) (x1))), (zq_vi (x_36))]) (st' := [(zq_vi ((-1))), (zq_vi (x_39))]) (fun _ _ _ => rfl) ?_
          refine zq_ne rfl hx_40 (of_decide_eq_true rfl) (fun hb_41 => ?_) (fun hb_41 => ?_)
          · rw [if_neg hb_41] at w
            refine zq_run 1 (pc' := 130) (L' := [(.ref (7)), (zq_vi (x1)), (.ref (a2)), (zq_vi (zq_i s (18) (x1))), (zq_vi (zq_i s (19) (x1))), (zq_vi (x_36))]) (st' := [(zq_vi (x_36))]) (fun _ _ _ => rfl) ?_
            refine zq_lt0 rfl hx_37 (fun hb_42 => ?_) (fun hb_42 => ?_)
            · rw [if_pos hb_42] at w
              refine zq_run 3 (pc' := 143) (L' := [(.ref (7)), (zq_vi (x1)), (.ref (a2)), (zq_vi (zq_i s (18) (x1))), (zq_vi (zq_i s (19) (x1))), (zq_vi (x_36))]) (st' := [(zq_vi (zq_i s (18) (x1))), (zq_vi (4)), (.ref (7))]) (fun _ _ _ => rfl) ?_
              refine zq_call_i (i := .invokevirtual 78) (r := [1, 111, 2, 1, 5]) rfl rfl (fun h hp => zr_avv rfl (hp.obj zq_a7)) (of_decide_eq_false rfl) w (fun x_44 s_43 hx_45 w => ?_)
              exact zq_iret rfl rfl (congrArg Value.int (zq_nb hx_45)) (⟨_, rfl, hx_45, w⟩)
            · rw [if_neg hb_42] at w
              refine zq_run 2 (pc' := 137) (L' := [(.ref (7)), (zq_vi (x1)), (.ref (a2)), (zq_vi (zq_i s (18) (x1))), (zq_vi (zq_i s (19) (x1))), (zq_vi (x_36))]) (st' := [(zq_vi (12)), (zq_vi (x_36))]) (fun _ _ _ => rfl) ?_
              refine zq_le rfl hx_37 (of_decide_eq_true rfl) (fun hb_46 => ?_) (fun hb_46 => ?_)
              · rw [if_pos hb_46] at w
                refine zq_run 4 (pc' := 153) (L' := [(.ref (7)), (zq_vi (x1)), (.ref (a2)), (zq_vi (zq_i s (18) (x1))), (zq_vi (zq_i s (19) (x1))), (zq_vi (x_36))]) (st' := [(.ref (1000000 + 34)), (zq_vi (zq_i s (19) (x1))), (.ref (a2)), (.ref (7))]) (fun _ _ _ => rfl) ?_
                refine zq_strl (j := 34) (m := 8) rfl (of_decide_eq_true rfl) rfl rfl ?_
                refine zq_iadd rfl ?_
                refine zq_run 1 (pc' := 159) (L' := [(.ref (7)), (zq_vi (x1)), (.ref (a2)), (zq_vi (zq_i s (18) (x1))), (zq_vi (zq_i s (19) (x1))), (zq_vi (x_36))]) (st' := [(zq_vi (x_36)), (zq_vi ((zq_i s (19) (x1)) + 8)), (.ref (a2)), (.ref (7))]) (fun _ _ _ => rfl) ?_
                refine zq_call_i (i := .invokevirtual 223) (r := [1, 124, 3, 1, 5]) rfl rfl (fun h hp => zr_avv rfl (hp.obj zq_a7)) (of_decide_eq_false rfl) w (fun x_48 s_47 hx_49 w => ?_)
                refine zq_ne0 rfl (zq_bo_in hx_49) (fun hb_50 => ?_) (fun hb_50 => ?_)
                · rw [if_neg hb_50] at w
                  refine zq_run 2 (pc' := 179) (L' := [(.ref (7)), (zq_vi (x1)), (.ref (a2)), (zq_vi (zq_i s (18) (x1))), (zq_vi (zq_i s (19) (x1))), (zq_vi (x_36))]) (st' := [(zq_vi (1))]) (fun _ _ _ => rfl) ?_
                  exact zq_iret rfl rfl (congrArg Value.int (zq_nb (of_decide_eq_true rfl))) (⟨_, rfl, (of_decide_eq_true rfl), w⟩)
                · rw [if_pos hb_50] at w
                  refine zq_run 3 (pc' := 168) (L' := [(.ref (7)), (zq_vi (x1)), (.ref (a2)), (zq_vi (zq_i s (18) (x1))), (zq_vi (zq_i s (19) (x1))), (zq_vi (x_36))]) (st' := [(zq_vi (zq_i s (18) (x1))), (zq_vi (3)), (.ref (7))]) (fun _ _ _ => rfl) ?_
                  refine zq_call_i (i := .invokevirtual 78) (r := [1, 111, 2, 1, 5]) rfl rfl (fun h hp => zr_avv rfl (hp.obj zq_a7)) (of_decide_eq_false rfl) w (fun x_52 s_51 hx_53 w => ?_)
                  refine zq_eq0 rfl (zq_bo_in hx_53) (fun hb_54 => ?_) (fun hb_54 => ?_)
                  · rw [if_pos hb_54] at w
                    refine zq_run 1 (pc' := 179) (L' := [(.ref (7)), (zq_vi (x1)), (.ref (a2)), (zq_vi (zq_i s (18) (x1))), (zq_vi (zq_i s (19) (x1))), (zq_vi (x_36))]) (st' := [(zq_vi (0))]) (fun _ _ _ => rfl) ?_
                    exact zq_iret rfl rfl (congrArg Value.int (zq_nb (of_decide_eq_true rfl))) (⟨_, rfl, (of_decide_eq_true rfl), w⟩)
                  · rw [if_neg hb_54] at w
                    refine zq_run 2 (pc' := 179) (L' := [(.ref (7)), (zq_vi (x1)), (.ref (a2)), (zq_vi (zq_i s (18) (x1))), (zq_vi (zq_i s (19) (x1))), (zq_vi (x_36))]) (st' := [(zq_vi (1))]) (fun _ _ _ => rfl) ?_
                    exact zq_iret rfl rfl (congrArg Value.int (zq_nb (of_decide_eq_true rfl))) (⟨_, rfl, (of_decide_eq_true rfl), w⟩)
              · rw [if_neg hb_46] at w
                refine zq_run 3 (pc' := 143) (L' := [(.ref (7)), (zq_vi (x1)), (.ref (a2)), (zq_vi (zq_i s (18) (x1))), (zq_vi (zq_i s (19) (x1))), (zq_vi (x_36))]) (st' := [(zq_vi (zq_i s (18) (x1))), (zq_vi (4)), (.ref (7))]) (fun _ _ _ => rfl) ?_
                refine zq_call_i (i := .invokevirtual 78) (r := [1, 111, 2, 1, 5]) rfl rfl (fun h hp => zr_avv rfl (hp.obj zq_a7)) (of_decide_eq_false rfl) w (fun x_56 s_55 hx_57 w => ?_)
                exact zq_iret rfl rfl (congrArg Value.int (zq_nb hx_57)) (⟨_, rfl, hx_57, w⟩)
          · rw [if_pos hb_41] at w
            refine zq_run 3 (pc' := 113) (L' := [(.ref (7)), (zq_vi (x1)), (.ref (a2)), (zq_vi (zq_i s (18) (x1))), (zq_vi (zq_i s (19) (x1))), (zq_vi (x_36))]) (st' := [(.ref (7)), (zq_vi (3)), (.ref (7))]) (fun _ _ _ => rfl) ?_
            refine zq_getf_f (b := 18) rfl zq_a7 rfl rfl ?_
            refine zq_run 1 (pc' := 117) (L' := [(.ref (7)), (zq_vi (x1)), (.ref (a2)), (zq_vi (zq_i s (18) (x1))), (zq_vi (zq_i s (19) (x1))), (zq_vi (x_36))]) (st' := [(.ref (7)), (.ref (18)), (zq_vi (3)), (.ref (7))]) (fun _ _ _ => rfl) ?_
            refine zq_getf_f (b := 10) rfl zq_a7 rfl rfl ?_
            refine zq_have (fun hR_58 => ?_)
            refine zq_getf_i (j := 2) (v := zq_i s_38 (10) (2)) rfl zq_a10 rfl rfl rfl ?_
            obtain ⟨g_59, w⟩ := w
            refine zq_ald_i (v := zq_i s_38 (18) (zq_i s_38 (10) (2))) rfl zq_a18 g_59.1 g_59.2 rfl ?_
            refine zq_call_i (i := .invokevirtual 78) (r := [1, 111, 2, 1, 5]) rfl rfl (fun h hp => zr_avv rfl (hp.obj zq_a7)) (of_decide_eq_false rfl) w (fun x_61 s_60 hx_62 w => ?_)
            exact zq_iret rfl rfl (congrArg Value.int (zq_nb hx_62)) (⟨_, rfl, hx_62, w⟩)
        · rw [if_neg hb_29] at w
          refine zq_run 3 (pc' := 78) (L' := [(.ref (7)), (zq_vi (x1)), (.ref (a2)), (zq_vi (zq_i s (18) (x1))), (zq_vi (zq_i s (19) (x1))), zz_no]) (st' := [(zq_vi (zq_i s (18) (x1))), (zq_vi (3)), (.ref (7))]) (fun _ _ _ => rfl) ?_
          refine zq_call_i (i := .invokevirtual 78) (r := [1, 111, 2, 1, 5]) rfl rfl (fun h hp => zr_avv rfl (hp.obj zq_a7)) (of_decide_eq_false rfl) w (fun x_64 s_63 hx_65 w => ?_)
          exact zq_iret rfl rfl (congrArg Value.int (zq_nb hx_65)) (⟨_, rfl, hx_65, w⟩)
    · rw [if_neg hb_12] at w
      refine zq_run 1 (pc' := 47) (L' := [(.ref (7)), (zq_vi (x1)), (.ref (a2)), (zq_vi (zq_i s (18) (x1))), (zq_vi (zq_i s (19) (x1))), zz_no]) (st' := [(zq_vi (1))]) (fun _ _ _ => rfl) ?_
      exact zq_iret rfl rfl (congrArg Value.int (zq_nb (of_decide_eq_true rfl))) (⟨_, rfl, (of_decide_eq_true rfl), w⟩)
  · rw [if_pos hb_6] at w
    refine zq_run 3 (pc' := 28) (L' := [(.ref (7)), (zq_vi (x1)), (.ref (a2)), (zq_vi (zq_i s (18) (x1))), (zq_vi (zq_i s (19) (x1))), zz_no]) (st' := [(zq_vi (zq_i s (18) (x1))), (zq_vi (3)), (.ref (7))]) (fun _ _ _ => rfl) ?_
    refine zq_call_i (i := .invokevirtual 78) (r := [1, 111, 2, 1, 5]) rfl rfl (fun h hp => zr_avv rfl (hp.obj zq_a7)) (of_decide_eq_false rfl) w (fun x_67 s_66 hx_68 w => ?_)
    exact zq_iret rfl rfl (congrArg Value.int (zq_nb hx_68)) (⟨_, rfl, hx_68, w⟩)
/-- PaperObjects$Loader.takeStream(LPaperObjects$Slot;II)Z -/
theorem zw_124 {X : Nat × (Nat → Int32)} {s : zq_S} {K : Int → zq_S → Prop} {a1 : Nat} (ha1 : zq_o 7 a1) {x2 : Int} (hx2 : zq_iv x2) {x3 : Int} (hx3 : zq_iv x3) (w : (zq_Ex X 15 0 [(.ref (a1 + 8))] [] s (zq_rv fun s_1 => zq_Ex X 124 10 [(.ref (7)), (.ref (a1)), (zq_vi (x2)), (zq_vi (x3)), (zq_vi (0)), zz_no] [] s_1 (zq_rp zq_bo K)))) : zq_Ex X 124 0 [(.ref (7)), (.ref (a1)), (zq_vi (x2)), (zq_vi (x3)), zz_no, zz_no] [] s (zq_rp zq_bo K) := by
  refine zq_run 1 (pc' := 1) (L' := [(.ref (7)), (.ref (a1)), (zq_vi (x2)), (zq_vi (x3)), zz_no, zz_no]) (st' := [(.ref (a1))]) (fun _ _ _ => rfl) ?_
  refine zq_getf_f (b := a1 + 8) rfl ha1 rfl rfl ?_
  refine zq_call_v (i := .invokevirtual 230) (r := [1, 15, 0, 1, 1]) rfl rfl (fun h hp => zr_avv rfl (hp.obj (zq_L7 ha1))) (of_decide_eq_false rfl) w (fun s_1 w => ?_)
  refine zq_run 2 (pc' := 10) (L' := [(.ref (7)), (.ref (a1)), (zq_vi (x2)), (zq_vi (x3)), (zq_vi (0)), zz_no]) (st' := []) (fun _ _ _ => rfl) ?_
  exact w
/-- PaperObjects$Loader.takeStream at 10 -/
theorem zw_124_10 {X : Nat × (Nat → Int32)} {s : zq_S} {K : Int → zq_S → Prop} {a1 : Nat} (ha1 : zq_o 7 a1) {x2 : Int} (hx2 : zq_iv x2) {x3 : Int} (hx3 : zq_iv x3) {x4 : Int} (hx4 : zq_iv x4) {v5 : Value} (hv5 : v5.category = 1) (w : (if x4 < x3 then (∃ b_9 : Nat, zq_r s (7) 6 = some b_9 ∧ (zq_Ex X 29 0 [(.ref (b_9)), (zq_vi (x2 + x4))] [] s (zq_rp zq_iv fun x_12 s_11 => (if x_12 = (-1) then K (0) s_11 else (if x_12 = 10 then K (0) s_11 else (zq_Ex X 19 0 [(.ref (a1 + 8)), (zq_vi (x_12))] [] s_11 (zq_rv fun s_16 => zq_Ex X 124 10 [(.ref (7)), (.ref (a1)), (zq_vi (x2)), (zq_vi (x3)), (zq_vi (x4 + 1)), (zq_vi (x_12))] [] s_16 (zq_rp zq_bo K)))))))) else (∃ b_3 : Nat, zq_r s (7) 6 = some b_3 ∧ (zq_Ex X 49 0 [(.ref (b_3)), (zq_vi (x2 + x3)), (.ref (1000000 + 35)), zz_no] [] (zq_si s (a1) (2) (1)) (zq_rp zq_bo fun x_6 s_5 => K (x_6) s_5))))) : zq_Ex X 124 10 [(.ref (7)), (.ref (a1)), (zq_vi (x2)), (zq_vi (x3)), (zq_vi (x4)), v5] [] s (zq_rp zq_bo K) := by
  refine zq_run 2 (pc' := 13) (L' := [(.ref (7)), (.ref (a1)), (zq_vi (x2)), (zq_vi (x3)), (zq_vi (x4)), v5]) (st' := [(zq_vi (x3)), (zq_vi (x4))]) (fun _ _ _ => rfl) ?_
  refine zq_ge rfl hx4 hx3 (fun hb_1 => ?_) (fun hb_1 => ?_)
  · rw [if_neg hb_1] at w
    refine zq_run 2 (pc' := 61) (L' := [(.ref (7)), (.ref (a1)), (zq_vi (x2)), (zq_vi (x3)), (zq_vi (x4)), v5]) (st' := [(zq_vi (1)), (.ref (a1))]) (fun _ _ _ => rfl) ?_
    refine zq_putf_b (j := 2) rfl ha1 rfl rfl rfl (of_decide_eq_true rfl) ?_
    refine zq_run 1 (pc' := 65) (L' := [(.ref (7)), (.ref (a1)), (zq_vi (x2)), (zq_vi (x3)), (zq_vi (x4)), v5]) (st' := [(.ref (7))]) (fun _ _ _ => rfl) ?_
    refine zq_have (fun hR_2 => ?_)
    obtain ⟨b_3, hb_4, w⟩ := w
    refine zq_getf_rs (j := 6) rfl zq_a7 rfl rfl hb_4 ?_
    refine zq_run 2 (pc' := 70) (L' := [(.ref (7)), (.ref (a1)), (zq_vi (x2)), (zq_vi (x3)), (zq_vi (x4)), v5]) (st' := [(zq_vi (x3)), (zq_vi (x2)), (.ref (b_3))]) (fun _ _ _ => rfl) ?_
    refine zq_iadd rfl ?_
    refine zq_run 1 (pc' := 73) (L' := [(.ref (7)), (.ref (a1)), (zq_vi (x2)), (zq_vi (x3)), (zq_vi (x4)), v5]) (st' := [(.ref (1000000 + 35)), (zq_vi (x2 + x3)), (.ref (b_3))]) (fun _ _ _ => rfl) ?_
    refine zq_call_i (i := .invokevirtual 119) (r := [1, 49, 2, 1, 1]) rfl rfl (fun h hp => zr_avv rfl (hp.obj (zq_fcls hR_2 (k := 6) (j := 6) (cj := 1) zq_a7 rfl rfl hb_4))) (of_decide_eq_false rfl) w (fun x_6 s_5 hx_7 w => ?_)
    exact zq_iret rfl rfl (congrArg Value.int (zq_nb hx_7)) (⟨_, rfl, hx_7, w⟩)
  · rw [if_pos hb_1] at w
    refine zq_run 1 (pc' := 17) (L' := [(.ref (7)), (.ref (a1)), (zq_vi (x2)), (zq_vi (x3)), (zq_vi (x4)), v5]) (st' := [(.ref (7))]) (fun _ _ _ => rfl) ?_
    refine zq_have (fun hR_8 => ?_)
    obtain ⟨b_9, hb_10, w⟩ := w
    refine zq_getf_rs (j := 6) rfl zq_a7 rfl rfl hb_10 ?_
    refine zq_run 2 (pc' := 23) (L' := [(.ref (7)), (.ref (a1)), (zq_vi (x2)), (zq_vi (x3)), (zq_vi (x4)), v5]) (st' := [(zq_vi (x4)), (zq_vi (x2)), (.ref (b_9))]) (fun _ _ _ => rfl) ?_
    refine zq_iadd rfl ?_
    refine zq_call_i (i := .invokevirtual 127) (r := [1, 29, 1, 1, 1]) rfl rfl (fun h hp => zr_avv rfl (hp.obj (zq_fcls hR_8 (k := 6) (j := 6) (cj := 1) zq_a7 rfl rfl hb_10))) (of_decide_eq_false rfl) w (fun x_12 s_11 hx_13 w => ?_)
    refine zq_run 3 (pc' := 32) (L' := [(.ref (7)), (.ref (a1)), (zq_vi (x2)), (zq_vi (x3)), (zq_vi (x4)), (zq_vi (x_12))]) (st' := [(zq_vi ((-1))), (zq_vi (x_12))]) (fun _ _ _ => rfl) ?_
    refine zq_eq rfl hx_13 (of_decide_eq_true rfl) (fun hb_14 => ?_) (fun hb_14 => ?_)
    · rw [if_pos hb_14] at w
      refine zq_run 1 (pc' := 43) (L' := [(.ref (7)), (.ref (a1)), (zq_vi (x2)), (zq_vi (x3)), (zq_vi (x4)), (zq_vi (x_12))]) (st' := [(zq_vi (0))]) (fun _ _ _ => rfl) ?_
      exact zq_iret rfl rfl (congrArg Value.int (zq_nb (of_decide_eq_true rfl))) (⟨_, rfl, (of_decide_eq_true rfl), w⟩)
    · rw [if_neg hb_14] at w
      refine zq_run 2 (pc' := 39) (L' := [(.ref (7)), (.ref (a1)), (zq_vi (x2)), (zq_vi (x3)), (zq_vi (x4)), (zq_vi (x_12))]) (st' := [(zq_vi (10)), (zq_vi (x_12))]) (fun _ _ _ => rfl) ?_
      refine zq_ne rfl hx_13 (of_decide_eq_true rfl) (fun hb_15 => ?_) (fun hb_15 => ?_)
      · rw [if_neg hb_15] at w
        refine zq_run 1 (pc' := 45) (L' := [(.ref (7)), (.ref (a1)), (zq_vi (x2)), (zq_vi (x3)), (zq_vi (x4)), (zq_vi (x_12))]) (st' := [(.ref (a1))]) (fun _ _ _ => rfl) ?_
        refine zq_getf_f (b := a1 + 8) rfl ha1 rfl rfl ?_
        refine zq_run 1 (pc' := 50) (L' := [(.ref (7)), (.ref (a1)), (zq_vi (x2)), (zq_vi (x3)), (zq_vi (x4)), (zq_vi (x_12))]) (st' := [(zq_vi (x_12)), (.ref (a1 + 8))]) (fun _ _ _ => rfl) ?_
        refine zq_call_v (i := .invokevirtual 231) (r := [1, 19, 1, 1, 1]) rfl rfl (fun h hp => zr_avv rfl (hp.obj (zq_L7 ha1))) (of_decide_eq_false rfl) w (fun s_16 w => ?_)
        refine zq_iinc (L' := [(.ref (7)), (.ref (a1)), (zq_vi (x2)), (zq_vi (x3)), (zq_vi (x4 + 1)), (zq_vi (x_12))]) rfl rfl rfl ?_
        refine zq_run 1 (pc' := 10) (L' := [(.ref (7)), (.ref (a1)), (zq_vi (x2)), (zq_vi (x3)), (zq_vi (x4 + 1)), (zq_vi (x_12))]) (st' := []) (fun _ _ _ => rfl) ?_
        exact w
      · rw [if_pos hb_15] at w
        refine zq_run 1 (pc' := 43) (L' := [(.ref (7)), (.ref (a1)), (zq_vi (x2)), (zq_vi (x3)), (zq_vi (x4)), (zq_vi (x_12))]) (st' := [(zq_vi (0))]) (fun _ _ _ => rfl) ?_
        exact zq_iret rfl rfl (congrArg Value.int (zq_nb (of_decide_eq_true rfl))) (⟨_, rfl, (of_decide_eq_true rfl), w⟩)
/-- PaperObjects.poke(IC)V -/
theorem zw_125 {X : Nat × (Nat → Int32)} {s : zq_S} {K : zq_S → Prop} {T : Nat → zq_S → Prop} {x1 : Int} (hx1 : zq_iv x1) {x2 : Int} (hx2 : zq_ch x2) (w : (if x1 < 0 then (zq_n s < 1000 ∧ T 12 (zq_sx s 12)) else (∃ b_3 : Nat, zq_r s (0) 6 = some b_3 ∧ (if x1 ≤ zq_i s (b_3) (1) then (zq_Ex X 40 0 [(zq_vi (x2))] [] s (zq_rp zq_bo fun x_7 s_6 => (if x_7 = 0 then (zq_n s_6 < 1000 ∧ T 10 (zq_sx s_6 10)) else (if x1 < 999 then (∃ b_12 : Nat, zq_r s_6 (0) 6 = some b_12 ∧ (zq_Ex X 126 0 [(.ref (b_12)), (zq_vi (x1)), (zq_vi (x2))] [] s_6 (zq_rv fun s_14 => K s_14))) else (zq_n s_6 < 1000 ∧ T 10 (zq_sx s_6 10)))))) else (zq_n s < 1000 ∧ T 12 (zq_sx s 12)))))) : zq_Ex X 125 0 [(.ref (0)), (zq_vi (x1)), (zq_vi (x2))] [] s (zq_rx (zq_rv K) T) := by
  refine zq_run 1 (pc' := 1) (L' := [(.ref (0)), (zq_vi (x1)), (zq_vi (x2))]) (st' := [(zq_vi (x1))]) (fun _ _ _ => rfl) ?_
  refine zq_lt0 rfl hx1 (fun hb_1 => ?_) (fun hb_1 => ?_)
  · rw [if_pos hb_1] at w
    exact zq_throw rfl rfl (of_decide_eq_true rfl) w.1 (zq_thr w.2)
  · rw [if_neg hb_1] at w
    refine zq_run 2 (pc' := 6) (L' := [(.ref (0)), (zq_vi (x1)), (zq_vi (x2))]) (st' := [(.ref (0)), (zq_vi (x1))]) (fun _ _ _ => rfl) ?_
    refine zq_have (fun hR_2 => ?_)
    obtain ⟨b_3, hb_4, w⟩ := w
    refine zq_getf_rs (j := 6) rfl zq_a0 rfl rfl hb_4 ?_
    refine zq_getf_i (j := 1) (v := zq_i s (b_3) (1)) rfl (zq_fcls hR_2 (k := 6) (j := 6) (cj := 1) zq_a0 rfl rfl hb_4) rfl rfl rfl ?_
    refine zq_le rfl hx1 (hR_2.1 _ _) (fun hb_5 => ?_) (fun hb_5 => ?_)
    · rw [if_pos hb_5] at w
      refine zq_run 1 (pc' := 24) (L' := [(.ref (0)), (zq_vi (x1)), (zq_vi (x2))]) (st' := [(zq_vi (x2))]) (fun _ _ _ => rfl) ?_
      refine zq_call_i (i := .invokestatic 87) (r := [1, 40, 1, 0, 0]) rfl rfl (fun _ _ => rfl) (of_decide_eq_false rfl) w (fun x_7 s_6 hx_8 w => ?_)
      refine zq_eq0 rfl (zq_bo_in hx_8) (fun hb_9 => ?_) (fun hb_9 => ?_)
      · rw [if_pos hb_9] at w
        exact zq_throw rfl rfl (of_decide_eq_true rfl) w.1 (zq_thr w.2)
      · rw [if_neg hb_9] at w
        refine zq_run 2 (pc' := 34) (L' := [(.ref (0)), (zq_vi (x1)), (zq_vi (x2))]) (st' := [(zq_vi (999)), (zq_vi (x1))]) (fun _ _ _ => rfl) ?_
        refine zq_lt rfl hx1 (of_decide_eq_true rfl) (fun hb_10 => ?_) (fun hb_10 => ?_)
        · rw [if_pos hb_10] at w
          refine zq_run 1 (pc' := 46) (L' := [(.ref (0)), (zq_vi (x1)), (zq_vi (x2))]) (st' := [(.ref (0))]) (fun _ _ _ => rfl) ?_
          refine zq_have (fun hR_11 => ?_)
          obtain ⟨b_12, hb_13, w⟩ := w
          refine zq_getf_rs (j := 6) rfl zq_a0 rfl rfl hb_13 ?_
          refine zq_run 2 (pc' := 51) (L' := [(.ref (0)), (zq_vi (x1)), (zq_vi (x2))]) (st' := [(zq_vi (x2)), (zq_vi (x1)), (.ref (b_12))]) (fun _ _ _ => rfl) ?_
          refine zq_call_v (i := .invokevirtual 230) (r := [1, 126, 2, 1, 1]) rfl rfl (fun h hp => zr_avv rfl (hp.obj (zq_fcls hR_11 (k := 6) (j := 6) (cj := 1) zq_a0 rfl rfl hb_13))) (of_decide_eq_false rfl) w (fun s_14 w => ?_)
          exact zq_vret rfl rfl (Or.inl ⟨rfl, w⟩)
        · rw [if_neg hb_10] at w
          exact zq_throw rfl rfl (of_decide_eq_true rfl) w.1 (zq_thr w.2)
    · rw [if_neg hb_5] at w
      exact zq_throw rfl rfl (of_decide_eq_true rfl) w.1 (zq_thr w.2)
/-- PaperObjects$Text.set(IC)V -/
theorem zw_126 {X : Nat × (Nat → Int32)} {s : zq_S} {K : zq_S → Prop} {a0 : Nat} (ha0 : zq_o 1 a0) {x1 : Int} (hx1 : zq_iv x1) {x2 : Int} (hx2 : zq_ch x2) (w : (if x1 = zq_i s (a0) (1) then (zq_Ex X 19 0 [(.ref (a0)), (zq_vi (x2))] [] s (zq_rv fun s_6 => K s_6)) else (if x1 < 0 then K s else (if x1 < zq_i s (a0) (1) then (((0 : Int) ≤ x1 ∧ x1 < ((zq_T (a0) : Nat) : Int)) ∧ K (zq_si s (a0 + 1) (x1) (x2))) else K s)))) : zq_Ex X 126 0 [(.ref (a0)), (zq_vi (x1)), (zq_vi (x2))] [] s (zq_rv K) := by
  refine zq_run 2 (pc' := 2) (L' := [(.ref (a0)), (zq_vi (x1)), (zq_vi (x2))]) (st' := [(.ref (a0)), (zq_vi (x1))]) (fun _ _ _ => rfl) ?_
  refine zq_have (fun hR_1 => ?_)
  refine zq_getf_i (j := 1) (v := zq_i s (a0) (1)) rfl ha0 rfl rfl rfl ?_
  refine zq_ne rfl hx1 (hR_1.1 _ _) (fun hb_2 => ?_) (fun hb_2 => ?_)
  · rw [if_neg hb_2] at w
    refine zq_run 1 (pc' := 17) (L' := [(.ref (a0)), (zq_vi (x1)), (zq_vi (x2))]) (st' := [(zq_vi (x1))]) (fun _ _ _ => rfl) ?_
    refine zq_lt0 rfl hx1 (fun hb_3 => ?_) (fun hb_3 => ?_)
    · rw [if_pos hb_3] at w
      exact zq_vret rfl rfl (⟨rfl, w⟩)
    · rw [if_neg hb_3] at w
      refine zq_run 2 (pc' := 22) (L' := [(.ref (a0)), (zq_vi (x1)), (zq_vi (x2))]) (st' := [(.ref (a0)), (zq_vi (x1))]) (fun _ _ _ => rfl) ?_
      refine zq_getf_i (j := 1) (v := zq_i s (a0) (1)) rfl ha0 rfl rfl rfl ?_
      refine zq_ge rfl hx1 (hR_1.1 _ _) (fun hb_4 => ?_) (fun hb_4 => ?_)
      · rw [if_neg hb_4] at w
        exact zq_vret rfl rfl (⟨rfl, w⟩)
      · rw [if_pos hb_4] at w
        refine zq_run 1 (pc' := 29) (L' := [(.ref (a0)), (zq_vi (x1)), (zq_vi (x2))]) (st' := [(.ref (a0))]) (fun _ _ _ => rfl) ?_
        refine zq_getf_f (b := a0 + 1) rfl ha0 rfl rfl ?_
        refine zq_run 2 (pc' := 34) (L' := [(.ref (a0)), (zq_vi (x1)), (zq_vi (x2))]) (st' := [(zq_vi (x2)), (zq_vi (x1)), (.ref (a0 + 1))]) (fun _ _ _ => rfl) ?_
        obtain ⟨g_5, w⟩ := w
        refine zq_ast_c rfl (zq_L1 ha0) g_5.1 g_5.2 hx2 ?_
        exact zq_vret rfl rfl (⟨rfl, w⟩)
  · rw [if_pos hb_2] at w
    refine zq_run 2 (pc' := 10) (L' := [(.ref (a0)), (zq_vi (x1)), (zq_vi (x2))]) (st' := [(zq_vi (x2)), (.ref (a0))]) (fun _ _ _ => rfl) ?_
    refine zq_call_v (i := .invokevirtual 23) (r := [1, 19, 1, 1, 1]) rfl rfl (fun h hp => zr_avv rfl (hp.obj ha0)) (of_decide_eq_false rfl) w (fun s_6 w => ?_)
    refine zq_run 1 (pc' := 35) (L' := [(.ref (a0)), (zq_vi (x1)), (zq_vi (x2))]) (st' := []) (fun _ _ _ => rfl) ?_
    exact zq_vret rfl rfl (⟨rfl, w⟩)
/-- PaperObjects.cut(I)V -/
theorem zw_127 {X : Nat × (Nat → Int32)} {s : zq_S} {K : zq_S → Prop} {T : Nat → zq_S → Prop} {x1 : Int} (hx1 : zq_iv x1) (w : (if x1 < 0 then (zq_n s < 1000 ∧ T 12 (zq_sx s 12)) else (∃ b_3 : Nat, zq_r s (0) 6 = some b_3 ∧ (if x1 ≤ zq_i s (b_3) (1) then K (zq_si s (b_3) (1) (x1)) else (zq_n s < 1000 ∧ T 12 (zq_sx s 12)))))) : zq_Ex X 127 0 [(.ref (0)), (zq_vi (x1))] [] s (zq_rx (zq_rv K) T) := by
  refine zq_run 1 (pc' := 1) (L' := [(.ref (0)), (zq_vi (x1))]) (st' := [(zq_vi (x1))]) (fun _ _ _ => rfl) ?_
  refine zq_lt0 rfl hx1 (fun hb_1 => ?_) (fun hb_1 => ?_)
  · rw [if_pos hb_1] at w
    exact zq_throw rfl rfl (of_decide_eq_true rfl) w.1 (zq_thr w.2)
  · rw [if_neg hb_1] at w
    refine zq_run 2 (pc' := 6) (L' := [(.ref (0)), (zq_vi (x1))]) (st' := [(.ref (0)), (zq_vi (x1))]) (fun _ _ _ => rfl) ?_
    refine zq_have (fun hR_2 => ?_)
    obtain ⟨b_3, hb_4, w⟩ := w
    refine zq_getf_rs (j := 6) rfl zq_a0 rfl rfl hb_4 ?_
    refine zq_getf_i (j := 1) (v := zq_i s (b_3) (1)) rfl (zq_fcls hR_2 (k := 6) (j := 6) (cj := 1) zq_a0 rfl rfl hb_4) rfl rfl rfl ?_
    refine zq_le rfl hx1 (hR_2.1 _ _) (fun hb_5 => ?_) (fun hb_5 => ?_)
    · rw [if_pos hb_5] at w
      refine zq_run 1 (pc' := 24) (L' := [(.ref (0)), (zq_vi (x1))]) (st' := [(.ref (0))]) (fun _ _ _ => rfl) ?_
      refine zq_getf_rs (j := 6) (b := b_3) rfl zq_a0 rfl rfl hb_4 ?_
      refine zq_run 1 (pc' := 28) (L' := [(.ref (0)), (zq_vi (x1))]) (st' := [(zq_vi (x1)), (.ref (b_3))]) (fun _ _ _ => rfl) ?_
      refine zq_putf_i (j := 1) rfl (zq_fcls hR_2 (k := 6) (j := 6) (cj := 1) zq_a0 rfl rfl hb_4) rfl rfl rfl hx1 ?_
      exact zq_vret rfl rfl (Or.inl ⟨rfl, w⟩)
    · rw [if_neg hb_5] at w
      exact zq_throw rfl rfl (of_decide_eq_true rfl) w.1 (zq_thr w.2)
/-- PaperObjects.character(I)I -/
theorem zw_128 {X : Nat × (Nat → Int32)} {s : zq_S} {K : Int → zq_S → Prop} {T : Nat → zq_S → Prop} {x1 : Int} (hx1 : zq_iv x1) (w : (if x1 < 0 then (zq_n s < 1000 ∧ T 12 (zq_sx s 12)) else (∃ b_3 : Nat, zq_r s (0) 6 = some b_3 ∧ (if x1 < zq_i s (b_3) (1) then (zq_Ex X 29 0 [(.ref (b_3)), (zq_vi (x1))] [] s (zq_rp zq_iv fun x_7 s_6 => K (x_7) s_6)) else (zq_n s < 1000 ∧ T 12 (zq_sx s 12)))))) : zq_Ex X 128 0 [(.ref (0)), (zq_vi (x1))] [] s (zq_rx (zq_rp zq_iv K) T) := by
  refine zq_run 1 (pc' := 1) (L' := [(.ref (0)), (zq_vi (x1))]) (st' := [(zq_vi (x1))]) (fun _ _ _ => rfl) ?_
  refine zq_lt0 rfl hx1 (fun hb_1 => ?_) (fun hb_1 => ?_)
  · rw [if_pos hb_1] at w
    exact zq_throw rfl rfl (of_decide_eq_true rfl) w.1 (zq_thr w.2)
  · rw [if_neg hb_1] at w
    refine zq_run 2 (pc' := 6) (L' := [(.ref (0)), (zq_vi (x1))]) (st' := [(.ref (0)), (zq_vi (x1))]) (fun _ _ _ => rfl) ?_
    refine zq_have (fun hR_2 => ?_)
    obtain ⟨b_3, hb_4, w⟩ := w
    refine zq_getf_rs (j := 6) rfl zq_a0 rfl rfl hb_4 ?_
    refine zq_getf_i (j := 1) (v := zq_i s (b_3) (1)) rfl (zq_fcls hR_2 (k := 6) (j := 6) (cj := 1) zq_a0 rfl rfl hb_4) rfl rfl rfl ?_
    refine zq_lt rfl hx1 (hR_2.1 _ _) (fun hb_5 => ?_) (fun hb_5 => ?_)
    · rw [if_pos hb_5] at w
      refine zq_run 1 (pc' := 24) (L' := [(.ref (0)), (zq_vi (x1))]) (st' := [(.ref (0))]) (fun _ _ _ => rfl) ?_
      refine zq_getf_rs (j := 6) (b := b_3) rfl zq_a0 rfl rfl hb_4 ?_
      refine zq_run 1 (pc' := 28) (L' := [(.ref (0)), (zq_vi (x1))]) (st' := [(zq_vi (x1)), (.ref (b_3))]) (fun _ _ _ => rfl) ?_
      refine zq_call_i (i := .invokevirtual 234) (r := [1, 29, 1, 1, 1]) rfl rfl (fun h hp => zr_avv rfl (hp.obj (zq_fcls hR_2 (k := 6) (j := 6) (cj := 1) zq_a0 rfl rfl hb_4))) (of_decide_eq_false rfl) w (fun x_7 s_6 hx_8 w => ?_)
      exact zq_iret rfl rfl rfl (Or.inl ⟨_, rfl, hx_8, w⟩)
    · rw [if_neg hb_5] at w
      exact zq_throw rfl rfl (of_decide_eq_true rfl) w.1 (zq_thr w.2)
/-- PaperObjects.state(I)I -/
theorem zw_129 {X : Nat × (Nat → Int32)} {s : zq_S} {K : Int → zq_S → Prop} {T : Nat → zq_S → Prop} {x1 : Int} (hx1 : zq_iv x1) (w : (∃ b_2 : Nat, zq_r s (0) 8 = some b_2 ∧ (zq_Ex X 42 0 [(.ref (b_2)), (zq_vi (x1))] [] s (zq_rr 7 fun o_5 s_4 => ((o_5 = none → (zq_n s_4 < 1000 ∧ T 12 (zq_sx s_4 12))) ∧ (∀ b_6 : Nat, o_5 = some b_6 → (if zq_i s_4 (b_6) (1) = 0 then (if zq_i s_4 (b_6) (0) = 0 then (zq_iv (((4 * (zq_i s_4 (b_6) (3))) + 0) + 0) ∧ K (((4 * (zq_i s_4 (b_6) (3))) + 0) + 0) s_4) else (zq_iv (((4 * (zq_i s_4 (b_6) (3))) + 0) + 1) ∧ K (((4 * (zq_i s_4 (b_6) (3))) + 0) + 1) s_4)) else (if zq_i s_4 (b_6) (0) = 0 then (zq_iv (((4 * (zq_i s_4 (b_6) (3))) + 2) + 0) ∧ K (((4 * (zq_i s_4 (b_6) (3))) + 2) + 0) s_4) else (zq_iv (((4 * (zq_i s_4 (b_6) (3))) + 2) + 1) ∧ K (((4 * (zq_i s_4 (b_6) (3))) + 2) + 1) s_4))))))))) : zq_Ex X 129 0 [(.ref (0)), (zq_vi (x1)), zz_no] [] s (zq_rx (zq_rp zq_iv K) T) := by
  refine zq_run 1 (pc' := 1) (L' := [(.ref (0)), (zq_vi (x1)), zz_no]) (st' := [(.ref (0))]) (fun _ _ _ => rfl) ?_
  refine zq_have (fun hR_1 => ?_)
  obtain ⟨b_2, hb_3, w⟩ := w
  refine zq_getf_rs (j := 8) rfl zq_a0 rfl rfl hb_3 ?_
  refine zq_run 1 (pc' := 5) (L' := [(.ref (0)), (zq_vi (x1)), zz_no]) (st' := [(zq_vi (x1)), (.ref (b_2))]) (fun _ _ _ => rfl) ?_
  refine zq_call_r (i := .invokevirtual 101) (r := [1, 42, 1, 1, 8]) rfl rfl (fun h hp => zr_avv rfl (hp.obj (zq_fcls hR_1 (k := 8) (j := 8) (cj := 8) zq_a0 rfl rfl hb_3))) (of_decide_eq_false rfl) w (fun s_4 w => ?_) (fun b_6 s_4 hb_7 w => ?_)
  · replace w := w.1 rfl
    refine zq_run 3 (pc' := 13) (L' := [(.ref (0)), (zq_vi (x1)), .null]) (st' := []) (fun _ _ _ => rfl) ?_
    exact zq_throw rfl rfl (of_decide_eq_true rfl) w.1 (zq_thr w.2)
  · replace w := w.2 b_6 rfl
    refine zq_run 5 (pc' := 23) (L' := [(.ref (0)), (zq_vi (x1)), (.ref (b_6))]) (st' := [(.ref (b_6)), (zq_vi (4))]) (fun _ _ _ => rfl) ?_
    refine zq_have (fun hR_8 => ?_)
    refine zq_getf_i (j := 3) (v := zq_i s_4 (b_6) (3)) rfl hb_7 rfl rfl rfl ?_
    refine zq_imul rfl ?_
    refine zq_run 1 (pc' := 28) (L' := [(.ref (0)), (zq_vi (x1)), (.ref (b_6))]) (st' := [(.ref (b_6)), (zq_vi (4 * (zq_i s_4 (b_6) (3))))]) (fun _ _ _ => rfl) ?_
    refine zq_getf_i (j := 1) (v := zq_i s_4 (b_6) (1)) rfl hb_7 rfl rfl rfl ?_
    refine zq_eq0 rfl (zq_bo_in (hR_8.2.2.2.1 _ 7 1 hb_7 rfl)) (fun hb_9 => ?_) (fun hb_9 => ?_)
    · rw [if_pos hb_9] at w
      refine zq_run 1 (pc' := 39) (L' := [(.ref (0)), (zq_vi (x1)), (.ref (b_6))]) (st' := [(zq_vi (0)), (zq_vi (4 * (zq_i s_4 (b_6) (3))))]) (fun _ _ _ => rfl) ?_
      refine zq_iadd rfl ?_
      refine zq_run 1 (pc' := 41) (L' := [(.ref (0)), (zq_vi (x1)), (.ref (b_6))]) (st' := [(.ref (b_6)), (zq_vi ((4 * (zq_i s_4 (b_6) (3))) + 0))]) (fun _ _ _ => rfl) ?_
      refine zq_getf_i (j := 0) (v := zq_i s_4 (b_6) (0)) rfl hb_7 rfl rfl rfl ?_
      refine zq_eq0 rfl (zq_bo_in (hR_8.2.2.2.1 _ 7 0 hb_7 rfl)) (fun hb_10 => ?_) (fun hb_10 => ?_)
      · rw [if_pos hb_10] at w
        refine zq_run 1 (pc' := 52) (L' := [(.ref (0)), (zq_vi (x1)), (.ref (b_6))]) (st' := [(zq_vi (0)), (zq_vi ((4 * (zq_i s_4 (b_6) (3))) + 0))]) (fun _ _ _ => rfl) ?_
        refine zq_iadd rfl ?_
        obtain ⟨g_11, w⟩ := w
        exact zq_iret rfl rfl rfl (Or.inl ⟨_, rfl, g_11, w⟩)
      · rw [if_neg hb_10] at w
        refine zq_run 2 (pc' := 52) (L' := [(.ref (0)), (zq_vi (x1)), (.ref (b_6))]) (st' := [(zq_vi (1)), (zq_vi ((4 * (zq_i s_4 (b_6) (3))) + 0))]) (fun _ _ _ => rfl) ?_
        refine zq_iadd rfl ?_
        obtain ⟨g_12, w⟩ := w
        exact zq_iret rfl rfl rfl (Or.inl ⟨_, rfl, g_12, w⟩)
    · rw [if_neg hb_9] at w
      refine zq_run 2 (pc' := 39) (L' := [(.ref (0)), (zq_vi (x1)), (.ref (b_6))]) (st' := [(zq_vi (2)), (zq_vi (4 * (zq_i s_4 (b_6) (3))))]) (fun _ _ _ => rfl) ?_
      refine zq_iadd rfl ?_
      refine zq_run 1 (pc' := 41) (L' := [(.ref (0)), (zq_vi (x1)), (.ref (b_6))]) (st' := [(.ref (b_6)), (zq_vi ((4 * (zq_i s_4 (b_6) (3))) + 2))]) (fun _ _ _ => rfl) ?_
      refine zq_getf_i (j := 0) (v := zq_i s_4 (b_6) (0)) rfl hb_7 rfl rfl rfl ?_
      refine zq_eq0 rfl (zq_bo_in (hR_8.2.2.2.1 _ 7 0 hb_7 rfl)) (fun hb_13 => ?_) (fun hb_13 => ?_)
      · rw [if_pos hb_13] at w
        refine zq_run 1 (pc' := 52) (L' := [(.ref (0)), (zq_vi (x1)), (.ref (b_6))]) (st' := [(zq_vi (0)), (zq_vi ((4 * (zq_i s_4 (b_6) (3))) + 2))]) (fun _ _ _ => rfl) ?_
        refine zq_iadd rfl ?_
        obtain ⟨g_14, w⟩ := w
        exact zq_iret rfl rfl rfl (Or.inl ⟨_, rfl, g_14, w⟩)
      · rw [if_neg hb_13] at w
        refine zq_run 2 (pc' := 52) (L' := [(.ref (0)), (zq_vi (x1)), (.ref (b_6))]) (st' := [(zq_vi (1)), (zq_vi ((4 * (zq_i s_4 (b_6) (3))) + 2))]) (fun _ _ _ => rfl) ?_
        refine zq_iadd rfl ?_
        obtain ⟨g_15, w⟩ := w
        exact zq_iret rfl rfl rfl (Or.inl ⟨_, rfl, g_15, w⟩)
/-- PaperObjects.go(I)I -/
theorem zw_130 {X : Nat × (Nat → Int32)} {s : zq_S} {K : Int → zq_S → Prop} {T : Nat → zq_S → Prop} {x1 : Int} (hx1 : zq_iv x1) (w : (∃ b_2 : Nat, zq_r s (0) 8 = some b_2 ∧ (zq_Ex X 33 0 [(.ref (b_2)), (zq_vi (x1)), zz_no] [] s (zq_rr 7 fun o_5 s_4 => ((o_5 = none → (zq_n s_4 < 1000 ∧ T 13 (zq_sx s_4 13))) ∧ (∀ b_6 : Nat, o_5 = some b_6 → (∃ b_9 : Nat, zq_r s_4 (b_6) 4 = some b_9 ∧ (zq_Ex X 92 0 [(.ref (3)), (.ref (b_9)), (zq_vi (0))] [] s_4 (zq_rv fun s_11 => (zq_Ex X 94 0 [(.ref (3))] [] s_11 (zq_rp zq_iv fun x_13 s_12 => K (x_13) s_12))))))))))) : zq_Ex X 130 0 [(.ref (0)), (zq_vi (x1)), zz_no] [] s (zq_rx (zq_rp zq_iv K) T) := by
  refine zq_run 1 (pc' := 1) (L' := [(.ref (0)), (zq_vi (x1)), zz_no]) (st' := [(.ref (0))]) (fun _ _ _ => rfl) ?_
  refine zq_have (fun hR_1 => ?_)
  obtain ⟨b_2, hb_3, w⟩ := w
  refine zq_getf_rs (j := 8) rfl zq_a0 rfl rfl hb_3 ?_
  refine zq_run 1 (pc' := 5) (L' := [(.ref (0)), (zq_vi (x1)), zz_no]) (st' := [(zq_vi (x1)), (.ref (b_2))]) (fun _ _ _ => rfl) ?_
  refine zq_call_r (i := .invokevirtual 135) (r := [1, 33, 1, 1, 8]) rfl rfl (fun h hp => zr_avv rfl (hp.obj (zq_fcls hR_1 (k := 8) (j := 8) (cj := 8) zq_a0 rfl rfl hb_3))) (of_decide_eq_false rfl) w (fun s_4 w => ?_) (fun b_6 s_4 hb_7 w => ?_)
  · replace w := w.1 rfl
    refine zq_run 3 (pc' := 13) (L' := [(.ref (0)), (zq_vi (x1)), .null]) (st' := []) (fun _ _ _ => rfl) ?_
    exact zq_throw rfl rfl (of_decide_eq_true rfl) w.1 (zq_thr w.2)
  · replace w := w.2 b_6 rfl
    refine zq_run 4 (pc' := 22) (L' := [(.ref (0)), (zq_vi (x1)), (.ref (b_6))]) (st' := [(.ref (0))]) (fun _ _ _ => rfl) ?_
    refine zq_getf_f (b := 3) rfl zq_a0 rfl rfl ?_
    refine zq_run 1 (pc' := 26) (L' := [(.ref (0)), (zq_vi (x1)), (.ref (b_6))]) (st' := [(.ref (b_6)), (.ref (3))]) (fun _ _ _ => rfl) ?_
    refine zq_have (fun hR_8 => ?_)
    obtain ⟨b_9, hb_10, w⟩ := w
    refine zq_getf_rs (j := 4) rfl hb_7 rfl rfl hb_10 ?_
    refine zq_run 1 (pc' := 30) (L' := [(.ref (0)), (zq_vi (x1)), (.ref (b_6))]) (st' := [(zq_vi (0)), (.ref (b_9)), (.ref (3))]) (fun _ _ _ => rfl) ?_
    refine zq_call_v (i := .invokevirtual 240) (r := [1, 92, 2, 1, 2]) rfl rfl (fun h hp => zr_avv rfl (hp.obj zq_a3)) (of_decide_eq_false rfl) w (fun s_11 w => ?_)
    refine zq_run 1 (pc' := 34) (L' := [(.ref (0)), (zq_vi (x1)), (.ref (b_6))]) (st' := [(.ref (0))]) (fun _ _ _ => rfl) ?_
    refine zq_getf_f (b := 3) rfl zq_a0 rfl rfl ?_
    refine zq_call_i (i := .invokevirtual 243) (r := [1, 94, 0, 1, 2]) rfl rfl (fun h hp => zr_avv rfl (hp.obj zq_a3)) (of_decide_eq_false rfl) w (fun x_13 s_12 hx_14 w => ?_)
    exact zq_iret rfl rfl rfl (Or.inl ⟨_, rfl, hx_14, w⟩)
/-- PaperObjects.into(I)I -/
theorem zw_131 {X : Nat × (Nat → Int32)} {s : zq_S} {K : Int → zq_S → Prop} {T : Nat → zq_S → Prop} {x1 : Int} (hx1 : zq_iv x1) (w : ((zq_r s (3) 0 = none → (zq_n s < 1000 ∧ T 11 (zq_sx s 11))) ∧ (∀ b_2 : Nat, zq_r s (3) 0 = some b_2 → (zq_Ex X 132 0 [(.ref (b_2)), (zq_vi (zq_i s (3) (1)))] [] s (zq_rp zq_bo fun x_5 s_4 => (if x_5 = 0 then (zq_n s_4 < 1000 ∧ T 11 (zq_sx s_4 11)) else (zq_Ex X 133 0 [(.ref (b_2)), (zq_vi (zq_i s_4 (3) (1))), (zq_vi (x1)), zz_no, zz_no, zz_no] [] s_4 (zq_rp zq_iv fun x_10 s_9 => (if x_10 = (-1) then (zq_n s_9 < 1000 ∧ T 12 (zq_sx s_9 12)) else (zq_Ex X 92 0 [(.ref (3)), (.ref (b_2)), (zq_vi (x_10))] [] s_9 (zq_rv fun s_13 => (zq_Ex X 94 0 [(.ref (3))] [] s_13 (zq_rp zq_iv fun x_15 s_14 => K (x_15) s_14))))))))))))) : zq_Ex X 131 0 [(.ref (0)), (zq_vi (x1)), zz_no, zz_no] [] s (zq_rx (zq_rp zq_iv K) T) := by
  refine zq_run 1 (pc' := 1) (L' := [(.ref (0)), (zq_vi (x1)), zz_no, zz_no]) (st' := [(.ref (0))]) (fun _ _ _ => rfl) ?_
  refine zq_getf_f (b := 3) rfl zq_a0 rfl rfl ?_
  refine zq_have (fun hR_1 => ?_)
  refine zq_getf_r2 (j := 0) rfl zq_a3 rfl rfl (fun hb_3 => ?_) (fun b_2 hb_3 => ?_)
  · replace w := w.1 hb_3
    refine zq_run 3 (pc' := 26) (L' := [(.ref (0)), (zq_vi (x1)), .null, zz_no]) (st' := []) (fun _ _ _ => rfl) ?_
    exact zq_throw rfl rfl (of_decide_eq_true rfl) w.1 (zq_thr w.2)
  · replace w := w.2 b_2 hb_3
    refine zq_run 5 (pc' := 14) (L' := [(.ref (0)), (zq_vi (x1)), (.ref (b_2)), zz_no]) (st' := [(.ref (0)), (.ref (b_2))]) (fun _ _ _ => rfl) ?_
    refine zq_getf_f (b := 3) rfl zq_a0 rfl rfl ?_
    refine zq_getf_i (j := 1) (v := zq_i s (3) (1)) rfl zq_a3 rfl rfl rfl ?_
    refine zq_call_i (i := .invokevirtual 250) (r := [1, 132, 1, 1, 4]) rfl rfl (fun h hp => zr_avv rfl (hp.obj (zq_fcls hR_1 (k := 0) (j := 0) (cj := 4) zq_a3 rfl rfl hb_3))) (of_decide_eq_false rfl) w (fun x_5 s_4 hx_6 w => ?_)
    refine zq_ne0 rfl (zq_bo_in hx_6) (fun hb_7 => ?_) (fun hb_7 => ?_)
    · rw [if_neg hb_7] at w
      refine zq_run 2 (pc' := 36) (L' := [(.ref (0)), (zq_vi (x1)), (.ref (b_2)), zz_no]) (st' := [(.ref (0)), (.ref (b_2))]) (fun _ _ _ => rfl) ?_
      refine zq_getf_f (b := 3) rfl zq_a0 rfl rfl ?_
      refine zq_have (fun hR_8 => ?_)
      refine zq_getf_i (j := 1) (v := zq_i s_4 (3) (1)) rfl zq_a3 rfl rfl rfl ?_
      refine zq_run 1 (pc' := 43) (L' := [(.ref (0)), (zq_vi (x1)), (.ref (b_2)), zz_no]) (st' := [(zq_vi (x1)), (zq_vi (zq_i s_4 (3) (1))), (.ref (b_2))]) (fun _ _ _ => rfl) ?_
      refine zq_call_i (i := .invokevirtual 253) (r := [1, 133, 2, 1, 4]) rfl rfl (fun h hp => zr_avv rfl (hp.obj (zq_fcls hR_1 (k := 0) (j := 0) (cj := 4) zq_a3 rfl rfl hb_3))) (of_decide_eq_false rfl) w (fun x_10 s_9 hx_11 w => ?_)
      refine zq_run 3 (pc' := 49) (L' := [(.ref (0)), (zq_vi (x1)), (.ref (b_2)), (zq_vi (x_10))]) (st' := [(zq_vi ((-1))), (zq_vi (x_10))]) (fun _ _ _ => rfl) ?_
      refine zq_ne rfl hx_11 (of_decide_eq_true rfl) (fun hb_12 => ?_) (fun hb_12 => ?_)
      · rw [if_neg hb_12] at w
        refine zq_run 1 (pc' := 61) (L' := [(.ref (0)), (zq_vi (x1)), (.ref (b_2)), (zq_vi (x_10))]) (st' := [(.ref (0))]) (fun _ _ _ => rfl) ?_
        refine zq_getf_f (b := 3) rfl zq_a0 rfl rfl ?_
        refine zq_run 2 (pc' := 66) (L' := [(.ref (0)), (zq_vi (x1)), (.ref (b_2)), (zq_vi (x_10))]) (st' := [(zq_vi (x_10)), (.ref (b_2)), (.ref (3))]) (fun _ _ _ => rfl) ?_
        refine zq_call_v (i := .invokevirtual 240) (r := [1, 92, 2, 1, 2]) rfl rfl (fun h hp => zr_avv rfl (hp.obj zq_a3)) (of_decide_eq_false rfl) w (fun s_13 w => ?_)
        refine zq_run 1 (pc' := 70) (L' := [(.ref (0)), (zq_vi (x1)), (.ref (b_2)), (zq_vi (x_10))]) (st' := [(.ref (0))]) (fun _ _ _ => rfl) ?_
        refine zq_getf_f (b := 3) rfl zq_a0 rfl rfl ?_
        refine zq_call_i (i := .invokevirtual 243) (r := [1, 94, 0, 1, 2]) rfl rfl (fun h hp => zr_avv rfl (hp.obj zq_a3)) (of_decide_eq_false rfl) w (fun x_15 s_14 hx_16 w => ?_)
        exact zq_iret rfl rfl rfl (Or.inl ⟨_, rfl, hx_16, w⟩)
      · rw [if_pos hb_12] at w
        exact zq_throw rfl rfl (of_decide_eq_true rfl) w.1 (zq_thr w.2)
    · rw [if_pos hb_7] at w
      exact zq_throw rfl rfl (of_decide_eq_true rfl) w.1 (zq_thr w.2)
/-- PaperObjects$Tree.isNest(I)Z -/
theorem zw_132 {X : Nat × (Nat → Int32)} {s : zq_S} {K : Int → zq_S → Prop} {a0 : Nat} (ha0 : zq_o 4 a0) {x1 : Int} (hx1 : zq_iv x1) (w : (zq_Ex X 48 0 [(.ref (a0)), (zq_vi (x1))] [] s (zq_rp zq_iv fun x_2 s_1 => (if x_2 = 6 then K (1) s_1 else (zq_Ex X 48 0 [(.ref (a0)), (zq_vi (x1))] [] s_1 (zq_rp zq_iv fun x_6 s_5 => (if x_6 = 7 then K (1) s_5 else K (0) s_5))))))) : zq_Ex X 132 0 [(.ref (a0)), (zq_vi (x1))] [] s (zq_rp zq_bo K) := by
  refine zq_run 2 (pc' := 2) (L' := [(.ref (a0)), (zq_vi (x1))]) (st' := [(zq_vi (x1)), (.ref (a0))]) (fun _ _ _ => rfl) ?_
  refine zq_call_i (i := .invokevirtual 36) (r := [1, 48, 1, 1, 4]) rfl rfl (fun h hp => zr_avv rfl (hp.obj ha0)) (of_decide_eq_false rfl) w (fun x_2 s_1 hx_3 w => ?_)
  refine zq_run 1 (pc' := 7) (L' := [(.ref (a0)), (zq_vi (x1))]) (st' := [(zq_vi (6)), (zq_vi (x_2))]) (fun _ _ _ => rfl) ?_
  refine zq_eq rfl hx_3 (of_decide_eq_true rfl) (fun hb_4 => ?_) (fun hb_4 => ?_)
  · rw [if_pos hb_4] at w
    refine zq_run 2 (pc' := 25) (L' := [(.ref (a0)), (zq_vi (x1))]) (st' := [(zq_vi (1))]) (fun _ _ _ => rfl) ?_
    exact zq_iret rfl rfl (congrArg Value.int (zq_nb (of_decide_eq_true rfl))) (⟨_, rfl, (of_decide_eq_true rfl), w⟩)
  · rw [if_neg hb_4] at w
    refine zq_run 2 (pc' := 12) (L' := [(.ref (a0)), (zq_vi (x1))]) (st' := [(zq_vi (x1)), (.ref (a0))]) (fun _ _ _ => rfl) ?_
    refine zq_call_i (i := .invokevirtual 36) (r := [1, 48, 1, 1, 4]) rfl rfl (fun h hp => zr_avv rfl (hp.obj ha0)) (of_decide_eq_false rfl) w (fun x_6 s_5 hx_7 w => ?_)
    refine zq_run 1 (pc' := 17) (L' := [(.ref (a0)), (zq_vi (x1))]) (st' := [(zq_vi (7)), (zq_vi (x_6))]) (fun _ _ _ => rfl) ?_
    refine zq_ne rfl hx_7 (of_decide_eq_true rfl) (fun hb_8 => ?_) (fun hb_8 => ?_)
    · rw [if_neg hb_8] at w
      refine zq_run 1 (pc' := 25) (L' := [(.ref (a0)), (zq_vi (x1))]) (st' := [(zq_vi (0))]) (fun _ _ _ => rfl) ?_
      exact zq_iret rfl rfl (congrArg Value.int (zq_nb (of_decide_eq_true rfl))) (⟨_, rfl, (of_decide_eq_true rfl), w⟩)
    · rw [if_pos hb_8] at w
      refine zq_run 2 (pc' := 25) (L' := [(.ref (a0)), (zq_vi (x1))]) (st' := [(zq_vi (1))]) (fun _ _ _ => rfl) ?_
      exact zq_iret rfl rfl (congrArg Value.int (zq_nb (of_decide_eq_true rfl))) (⟨_, rfl, (of_decide_eq_true rfl), w⟩)
/-- PaperObjects$Tree.part(II)I -/
theorem zw_133 {X : Nat × (Nat → Int32)} {s : zq_S} {K : Int → zq_S → Prop} {a0 : Nat} (ha0 : zq_o 4 a0) {x1 : Int} (hx1 : zq_iv x1) {x2 : Int} (hx2 : zq_iv x2) (w : (zq_Ex X 17 0 [(.ref (a0)), (zq_vi (x1)), zz_no] [] s (zq_rp zq_iv fun x_2 s_1 => zq_Ex X 133 14 [(.ref (a0)), (zq_vi (x1)), (zq_vi (x2)), (zq_vi (0)), (zq_vi (x_2)), (zq_vi (x1 + 1))] [] s_1 (zq_rp zq_iv K)))) : zq_Ex X 133 0 [(.ref (a0)), (zq_vi (x1)), (zq_vi (x2)), zz_no, zz_no, zz_no] [] s (zq_rp zq_iv K) := by
  refine zq_run 4 (pc' := 4) (L' := [(.ref (a0)), (zq_vi (x1)), (zq_vi (x2)), (zq_vi (0)), zz_no, zz_no]) (st' := [(zq_vi (x1)), (.ref (a0))]) (fun _ _ _ => rfl) ?_
  refine zq_call_i (i := .invokevirtual 40) (r := [1, 17, 1, 1, 4]) rfl rfl (fun h hp => zr_avv rfl (hp.obj ha0)) (of_decide_eq_false rfl) w (fun x_2 s_1 hx_3 w => ?_)
  refine zq_run 3 (pc' := 11) (L' := [(.ref (a0)), (zq_vi (x1)), (zq_vi (x2)), (zq_vi (0)), (zq_vi (x_2)), zz_no]) (st' := [(zq_vi (1)), (zq_vi (x1))]) (fun _ _ _ => rfl) ?_
  refine zq_iadd rfl ?_
  refine zq_run 1 (pc' := 14) (L' := [(.ref (a0)), (zq_vi (x1)), (zq_vi (x2)), (zq_vi (0)), (zq_vi (x_2)), (zq_vi (x1 + 1))]) (st' := []) (fun _ _ _ => rfl) ?_
  exact w
/-- PaperObjects$Tree.part at 14 -/
theorem zw_133_14 {X : Nat × (Nat → Int32)} {s : zq_S} {K : Int → zq_S → Prop} {a0 : Nat} (ha0 : zq_o 4 a0) {x1 : Int} (hx1 : zq_iv x1) {x2 : Int} (hx2 : zq_iv x2) {x3 : Int} (hx3 : zq_iv x3) {x4 : Int} (hx4 : zq_iv x4) {x5 : Int} (hx5 : zq_iv x5) (w : (if x5 < x4 then (((0 : Int) ≤ x5 ∧ x5 < (12 : Int)) ∧ (((0 : Int) ≤ x1 ∧ x1 < (12 : Int)) ∧ (zq_iv ((zq_i s (a0 + 2) (x1)) + 1) ∧ (if zq_i s (a0 + 2) (x5) = (zq_i s (a0 + 2) (x1)) + 1 then (if x3 = x2 then K (x5) s else zq_Ex X 133 14 [(.ref (a0)), (zq_vi (x1)), (zq_vi (x2)), (zq_vi (x3 + 1)), (zq_vi (x4)), (zq_vi (x5 + 1))] [] s (zq_rp zq_iv K)) else zq_Ex X 133 14 [(.ref (a0)), (zq_vi (x1)), (zq_vi (x2)), (zq_vi (x3)), (zq_vi (x4)), (zq_vi (x5 + 1))] [] s (zq_rp zq_iv K))))) else K ((-1)) s)) : zq_Ex X 133 14 [(.ref (a0)), (zq_vi (x1)), (zq_vi (x2)), (zq_vi (x3)), (zq_vi (x4)), (zq_vi (x5))] [] s (zq_rp zq_iv K) := by
  refine zq_run 2 (pc' := 18) (L' := [(.ref (a0)), (zq_vi (x1)), (zq_vi (x2)), (zq_vi (x3)), (zq_vi (x4)), (zq_vi (x5))]) (st' := [(zq_vi (x4)), (zq_vi (x5))]) (fun _ _ _ => rfl) ?_
  refine zq_ge rfl hx5 hx4 (fun hb_1 => ?_) (fun hb_1 => ?_)
  · rw [if_neg hb_1] at w
    refine zq_run 1 (pc' := 57) (L' := [(.ref (a0)), (zq_vi (x1)), (zq_vi (x2)), (zq_vi (x3)), (zq_vi (x4)), (zq_vi (x5))]) (st' := [(zq_vi ((-1)))]) (fun _ _ _ => rfl) ?_
    exact zq_iret rfl rfl rfl (⟨_, rfl, (of_decide_eq_true rfl), w⟩)
  · rw [if_pos hb_1] at w
    refine zq_run 1 (pc' := 22) (L' := [(.ref (a0)), (zq_vi (x1)), (zq_vi (x2)), (zq_vi (x3)), (zq_vi (x4)), (zq_vi (x5))]) (st' := [(.ref (a0))]) (fun _ _ _ => rfl) ?_
    refine zq_getf_f (b := a0 + 2) rfl ha0 rfl rfl ?_
    refine zq_run 1 (pc' := 27) (L' := [(.ref (a0)), (zq_vi (x1)), (zq_vi (x2)), (zq_vi (x3)), (zq_vi (x4)), (zq_vi (x5))]) (st' := [(zq_vi (x5)), (.ref (a0 + 2))]) (fun _ _ _ => rfl) ?_
    obtain ⟨g_2, w⟩ := w
    refine zq_have (fun hR_3 => ?_)
    refine zq_ald_i (v := zq_i s (a0 + 2) (x5)) rfl (zq_L4 ha0).2.1 g_2.1 g_2.2 rfl ?_
    refine zq_run 1 (pc' := 29) (L' := [(.ref (a0)), (zq_vi (x1)), (zq_vi (x2)), (zq_vi (x3)), (zq_vi (x4)), (zq_vi (x5))]) (st' := [(.ref (a0)), (zq_vi (zq_i s (a0 + 2) (x5)))]) (fun _ _ _ => rfl) ?_
    refine zq_getf_f (b := a0 + 2) rfl ha0 rfl rfl ?_
    refine zq_run 1 (pc' := 33) (L' := [(.ref (a0)), (zq_vi (x1)), (zq_vi (x2)), (zq_vi (x3)), (zq_vi (x4)), (zq_vi (x5))]) (st' := [(zq_vi (x1)), (.ref (a0 + 2)), (zq_vi (zq_i s (a0 + 2) (x5)))]) (fun _ _ _ => rfl) ?_
    obtain ⟨g_4, w⟩ := w
    refine zq_ald_i (v := zq_i s (a0 + 2) (x1)) rfl (zq_L4 ha0).2.1 g_4.1 g_4.2 rfl ?_
    refine zq_run 1 (pc' := 35) (L' := [(.ref (a0)), (zq_vi (x1)), (zq_vi (x2)), (zq_vi (x3)), (zq_vi (x4)), (zq_vi (x5))]) (st' := [(zq_vi (1)), (zq_vi (zq_i s (a0 + 2) (x1))), (zq_vi (zq_i s (a0 + 2) (x5)))]) (fun _ _ _ => rfl) ?_
    refine zq_iadd rfl ?_
    obtain ⟨g_5, w⟩ := w
    refine zq_ne rfl (hR_3.1 _ _) g_5 (fun hb_6 => ?_) (fun hb_6 => ?_)
    · rw [if_neg hb_6] at w
      refine zq_iinc (L' := [(.ref (a0)), (zq_vi (x1)), (zq_vi (x2)), (zq_vi (x3)), (zq_vi (x4)), (zq_vi (x5 + 1))]) rfl rfl rfl ?_
      refine zq_run 1 (pc' := 14) (L' := [(.ref (a0)), (zq_vi (x1)), (zq_vi (x2)), (zq_vi (x3)), (zq_vi (x4)), (zq_vi (x5 + 1))]) (st' := []) (fun _ _ _ => rfl) ?_
      exact w
    · rw [if_pos hb_6] at w
      refine zq_run 2 (pc' := 41) (L' := [(.ref (a0)), (zq_vi (x1)), (zq_vi (x2)), (zq_vi (x3)), (zq_vi (x4)), (zq_vi (x5))]) (st' := [(zq_vi (x2)), (zq_vi (x3))]) (fun _ _ _ => rfl) ?_
      refine zq_ne rfl hx3 hx2 (fun hb_7 => ?_) (fun hb_7 => ?_)
      · rw [if_neg hb_7] at w
        refine zq_iinc (L' := [(.ref (a0)), (zq_vi (x1)), (zq_vi (x2)), (zq_vi (x3 + 1)), (zq_vi (x4)), (zq_vi (x5))]) rfl rfl rfl ?_
        refine zq_iinc (L' := [(.ref (a0)), (zq_vi (x1)), (zq_vi (x2)), (zq_vi (x3 + 1)), (zq_vi (x4)), (zq_vi (x5 + 1))]) rfl rfl rfl ?_
        refine zq_run 1 (pc' := 14) (L' := [(.ref (a0)), (zq_vi (x1)), (zq_vi (x2)), (zq_vi (x3 + 1)), (zq_vi (x4)), (zq_vi (x5 + 1))]) (st' := []) (fun _ _ _ => rfl) ?_
        exact w
      · rw [if_pos hb_7] at w
        refine zq_run 1 (pc' := 46) (L' := [(.ref (a0)), (zq_vi (x1)), (zq_vi (x2)), (zq_vi (x3)), (zq_vi (x4)), (zq_vi (x5))]) (st' := [(zq_vi (x5))]) (fun _ _ _ => rfl) ?_
        exact zq_iret rfl rfl rfl (⟨_, rfl, hx5, w⟩)
/-- PaperObjects.follow()I -/
theorem zw_134 {X : Nat × (Nat → Int32)} {s : zq_S} {K : Int → zq_S → Prop} {T : Nat → zq_S → Prop}  (w : ((zq_r s (3) 0 = none → (zq_n s < 1000 ∧ T 11 (zq_sx s 11))) ∧ (∀ b_2 : Nat, zq_r s (3) 0 = some b_2 → (zq_Ex X 92 0 [(.ref (4)), (.ref (b_2)), (zq_vi (zq_i s (3) (1)))] [] s (zq_rv fun s_4 => (∃ b_6 : Nat, zq_r s_4 (0) 8 = some b_6 ∧ (zq_Ex X 93 0 [(.ref (b_6)), (.ref (4)), zz_no, zz_no, zz_no, zz_no] [] s_4 (zq_rp zq_bo fun x_9 s_8 => (if x_9 = 0 then (zq_n s_8 < 1000 ∧ T 14 (zq_sx s_8 14)) else ((zq_r s_8 (4) 0 = none → False) ∧ (∀ b_13 : Nat, zq_r s_8 (4) 0 = some b_13 → (zq_Ex X 92 0 [(.ref (3)), (.ref (b_13)), (zq_vi (zq_i s_8 (4) (1)))] [] s_8 (zq_rv fun s_15 => (zq_Ex X 94 0 [(.ref (3))] [] s_15 (zq_rp zq_iv fun x_17 s_16 => K (x_17) s_16))))))))))))))) : zq_Ex X 134 0 [(.ref (0))] [] s (zq_rx (zq_rp zq_iv K) T) := by
  refine zq_run 1 (pc' := 1) (L' := [(.ref (0))]) (st' := [(.ref (0))]) (fun _ _ _ => rfl) ?_
  refine zq_getf_f (b := 3) rfl zq_a0 rfl rfl ?_
  refine zq_have (fun hR_1 => ?_)
  refine zq_getf_r2 (j := 0) rfl zq_a3 rfl rfl (fun hb_3 => ?_) (fun b_2 hb_3 => ?_)
  · replace w := w.1 hb_3
    refine zq_run 1 (pc' := 10) (L' := [(.ref (0))]) (st' := []) (fun _ _ _ => rfl) ?_
    exact zq_throw rfl rfl (of_decide_eq_true rfl) w.1 (zq_thr w.2)
  · replace w := w.2 b_2 hb_3
    refine zq_run 2 (pc' := 19) (L' := [(.ref (0))]) (st' := [(.ref (0))]) (fun _ _ _ => rfl) ?_
    refine zq_getf_f (b := 4) rfl zq_a0 rfl rfl ?_
    refine zq_run 1 (pc' := 23) (L' := [(.ref (0))]) (st' := [(.ref (0)), (.ref (4))]) (fun _ _ _ => rfl) ?_
    refine zq_getf_f (b := 3) rfl zq_a0 rfl rfl ?_
    refine zq_getf_rs (j := 0) (b := b_2) rfl zq_a3 rfl rfl hb_3 ?_
    refine zq_run 1 (pc' := 30) (L' := [(.ref (0))]) (st' := [(.ref (0)), (.ref (b_2)), (.ref (4))]) (fun _ _ _ => rfl) ?_
    refine zq_getf_f (b := 3) rfl zq_a0 rfl rfl ?_
    refine zq_getf_i (j := 1) (v := zq_i s (3) (1)) rfl zq_a3 rfl rfl rfl ?_
    refine zq_call_v (i := .invokevirtual 240) (r := [1, 92, 2, 1, 2]) rfl rfl (fun h hp => zr_avv rfl (hp.obj zq_a4)) (of_decide_eq_false rfl) w (fun s_4 w => ?_)
    refine zq_run 1 (pc' := 40) (L' := [(.ref (0))]) (st' := [(.ref (0))]) (fun _ _ _ => rfl) ?_
    refine zq_have (fun hR_5 => ?_)
    obtain ⟨b_6, hb_7, w⟩ := w
    refine zq_getf_rs (j := 8) rfl zq_a0 rfl rfl hb_7 ?_
    refine zq_run 1 (pc' := 44) (L' := [(.ref (0))]) (st' := [(.ref (0)), (.ref (b_6))]) (fun _ _ _ => rfl) ?_
    refine zq_getf_f (b := 4) rfl zq_a0 rfl rfl ?_
    refine zq_call_i (i := .invokevirtual 257) (r := [1, 93, 1, 1, 8]) rfl rfl (fun h hp => zr_avv rfl (hp.obj (zq_fcls hR_5 (k := 8) (j := 8) (cj := 8) zq_a0 rfl rfl hb_7))) (of_decide_eq_false rfl) w (fun x_9 s_8 hx_10 w => ?_)
    refine zq_ne0 rfl (zq_bo_in hx_10) (fun hb_11 => ?_) (fun hb_11 => ?_)
    · rw [if_neg hb_11] at w
      refine zq_run 1 (pc' := 62) (L' := [(.ref (0))]) (st' := [(.ref (0))]) (fun _ _ _ => rfl) ?_
      refine zq_getf_f (b := 3) rfl zq_a0 rfl rfl ?_
      refine zq_run 1 (pc' := 66) (L' := [(.ref (0))]) (st' := [(.ref (0)), (.ref (3))]) (fun _ _ _ => rfl) ?_
      refine zq_getf_f (b := 4) rfl zq_a0 rfl rfl ?_
      refine zq_have (fun hR_12 => ?_)
      refine zq_getf_r2 (j := 0) rfl zq_a4 rfl rfl (fun hb_14 => ?_) (fun b_13 hb_14 => ?_)
      · replace w := w.1 hb_14
        refine zq_run 1 (pc' := 73) (L' := [(.ref (0))]) (st' := [(.ref (0)), .null, (.ref (3))]) (fun _ _ _ => rfl) ?_
        refine zq_getf_f (b := 4) rfl zq_a0 rfl rfl ?_
        refine zq_getf_i (j := 1) (v := zq_i s_8 (4) (1)) rfl zq_a4 rfl rfl rfl ?_
        exact w.elim
      · replace w := w.2 b_13 hb_14
        refine zq_run 1 (pc' := 73) (L' := [(.ref (0))]) (st' := [(.ref (0)), (.ref (b_13)), (.ref (3))]) (fun _ _ _ => rfl) ?_
        refine zq_getf_f (b := 4) rfl zq_a0 rfl rfl ?_
        refine zq_getf_i (j := 1) (v := zq_i s_8 (4) (1)) rfl zq_a4 rfl rfl rfl ?_
        refine zq_call_v (i := .invokevirtual 240) (r := [1, 92, 2, 1, 2]) rfl rfl (fun h hp => zr_avv rfl (hp.obj zq_a3)) (of_decide_eq_false rfl) w (fun s_15 w => ?_)
        refine zq_run 1 (pc' := 83) (L' := [(.ref (0))]) (st' := [(.ref (0))]) (fun _ _ _ => rfl) ?_
        refine zq_getf_f (b := 3) rfl zq_a0 rfl rfl ?_
        refine zq_call_i (i := .invokevirtual 243) (r := [1, 94, 0, 1, 2]) rfl rfl (fun h hp => zr_avv rfl (hp.obj zq_a3)) (of_decide_eq_false rfl) w (fun x_17 s_16 hx_18 w => ?_)
        exact zq_iret rfl rfl rfl (Or.inl ⟨_, rfl, hx_18, w⟩)
    · rw [if_pos hb_11] at w
      exact zq_throw rfl rfl (of_decide_eq_true rfl) w.1 (zq_thr w.2)
/-- PaperObjects.value(I)I -/
theorem zw_135 {X : Nat × (Nat → Int32)} {s : zq_S} {K : Int → zq_S → Prop} {T : Nat → zq_S → Prop} {x1 : Int} (hx1 : zq_iv x1) (w : ((zq_r s (3) 0 = none → (zq_n s < 1000 ∧ T 11 (zq_sx s 11))) ∧ (∀ b_2 : Nat, zq_r s (3) 0 = some b_2 → (if x1 = 0 then (zq_Ex X 94 0 [(.ref (3))] [] s (zq_rp zq_iv fun x_6 s_5 => K (x_6) s_5)) else (if x1 = 1 then (zq_Ex X 132 0 [(.ref (b_2)), (zq_vi (zq_i s (3) (1)))] [] s (zq_rp zq_bo fun x_10 s_9 => (if x_10 = 0 then (((0 : Int) ≤ zq_i s (3) (1) ∧ zq_i s (3) (1) < (12 : Int)) ∧ K (zq_i s_9 (b_2 + 3) (zq_i s (3) (1))) s_9) else (zq_Ex X 136 0 [(.ref (b_2)), (zq_vi (zq_i s (3) (1))), zz_no, zz_no, zz_no] [] s_9 (zq_rp zq_iv fun x_16 s_15 => K (x_16) s_15))))) else (if x1 = 2 then (zq_Ex X 94 0 [(.ref (3))] [] s (zq_rp zq_iv fun x_20 s_19 => (if x_20 = 8 then (((0 : Int) ≤ zq_i s (3) (1) ∧ zq_i s (3) (1) < (12 : Int)) ∧ K (zq_i s_19 (b_2 + 4) (zq_i s (3) (1))) s_19) else (zq_Ex X 137 0 [(.ref (b_2)), (zq_vi (zq_i s (3) (1))), zz_no, zz_no, zz_no] [] s_19 (zq_rp zq_iv fun x_24 s_23 => K (x_24) s_23))))) else (zq_n s < 1000 ∧ T 10 (zq_sx s 10)))))))) : zq_Ex X 135 0 [(.ref (0)), (zq_vi (x1)), zz_no, zz_no] [] s (zq_rx (zq_rp zq_iv K) T) := by
  refine zq_run 1 (pc' := 1) (L' := [(.ref (0)), (zq_vi (x1)), zz_no, zz_no]) (st' := [(.ref (0))]) (fun _ _ _ => rfl) ?_
  refine zq_getf_f (b := 3) rfl zq_a0 rfl rfl ?_
  refine zq_have (fun hR_1 => ?_)
  refine zq_getf_r2 (j := 0) rfl zq_a3 rfl rfl (fun hb_3 => ?_) (fun b_2 hb_3 => ?_)
  · replace w := w.1 hb_3
    refine zq_run 3 (pc' := 12) (L' := [(.ref (0)), (zq_vi (x1)), .null, zz_no]) (st' := []) (fun _ _ _ => rfl) ?_
    exact zq_throw rfl rfl (of_decide_eq_true rfl) w.1 (zq_thr w.2)
  · replace w := w.2 b_2 hb_3
    refine zq_run 4 (pc' := 21) (L' := [(.ref (0)), (zq_vi (x1)), (.ref (b_2)), zz_no]) (st' := [(.ref (0))]) (fun _ _ _ => rfl) ?_
    refine zq_getf_f (b := 3) rfl zq_a0 rfl rfl ?_
    refine zq_getf_i (j := 1) (v := zq_i s (3) (1)) rfl zq_a3 rfl rfl rfl ?_
    refine zq_run 2 (pc' := 29) (L' := [(.ref (0)), (zq_vi (x1)), (.ref (b_2)), (zq_vi (zq_i s (3) (1)))]) (st' := [(zq_vi (x1))]) (fun _ _ _ => rfl) ?_
    by_cases hb_4 : x1 = 0
    · rw [if_pos hb_4] at w
      refine zq_tsw rfl (by rw [hb_4] <;> rfl) ?_
      refine zq_run 1 (pc' := 57) (L' := [(.ref (0)), (zq_vi (x1)), (.ref (b_2)), (zq_vi (zq_i s (3) (1)))]) (st' := [(.ref (0))]) (fun _ _ _ => rfl) ?_
      refine zq_getf_f (b := 3) rfl zq_a0 rfl rfl ?_
      refine zq_call_i (i := .invokevirtual 243) (r := [1, 94, 0, 1, 2]) rfl rfl (fun h hp => zr_avv rfl (hp.obj zq_a3)) (of_decide_eq_false rfl) w (fun x_6 s_5 hx_7 w => ?_)
      exact zq_iret rfl rfl rfl (Or.inl ⟨_, rfl, hx_7, w⟩)
    · rw [if_neg hb_4] at w
      by_cases hb_8 : x1 = 1
      · rw [if_pos hb_8] at w
        refine zq_tsw rfl (by rw [hb_8] <;> rfl) ?_
        refine zq_run 2 (pc' := 66) (L' := [(.ref (0)), (zq_vi (x1)), (.ref (b_2)), (zq_vi (zq_i s (3) (1)))]) (st' := [(zq_vi (zq_i s (3) (1))), (.ref (b_2))]) (fun _ _ _ => rfl) ?_
        refine zq_call_i (i := .invokevirtual 250) (r := [1, 132, 1, 1, 4]) rfl rfl (fun h hp => zr_avv rfl (hp.obj (zq_fcls hR_1 (k := 0) (j := 0) (cj := 4) zq_a3 rfl rfl hb_3))) (of_decide_eq_false rfl) w (fun x_10 s_9 hx_11 w => ?_)
        refine zq_eq0 rfl (zq_bo_in hx_11) (fun hb_12 => ?_) (fun hb_12 => ?_)
        · rw [if_pos hb_12] at w
          refine zq_run 1 (pc' := 81) (L' := [(.ref (0)), (zq_vi (x1)), (.ref (b_2)), (zq_vi (zq_i s (3) (1)))]) (st' := [(.ref (b_2))]) (fun _ _ _ => rfl) ?_
          refine zq_getf_f (b := b_2 + 3) rfl (zq_fcls hR_1 (k := 0) (j := 0) (cj := 4) zq_a3 rfl rfl hb_3) rfl rfl ?_
          refine zq_run 1 (pc' := 85) (L' := [(.ref (0)), (zq_vi (x1)), (.ref (b_2)), (zq_vi (zq_i s (3) (1)))]) (st' := [(zq_vi (zq_i s (3) (1))), (.ref (b_2 + 3))]) (fun _ _ _ => rfl) ?_
          obtain ⟨g_13, w⟩ := w
          refine zq_have (fun hR_14 => ?_)
          refine zq_ald_i (v := zq_i s_9 (b_2 + 3) (zq_i s (3) (1))) rfl (zq_L4 (zq_fcls hR_1 (k := 0) (j := 0) (cj := 4) zq_a3 rfl rfl hb_3)).2.2.1 g_13.1 g_13.2 rfl ?_
          exact zq_iret rfl rfl rfl (Or.inl ⟨_, rfl, (hR_14.1 _ _), w⟩)
        · rw [if_neg hb_12] at w
          refine zq_run 2 (pc' := 74) (L' := [(.ref (0)), (zq_vi (x1)), (.ref (b_2)), (zq_vi (zq_i s (3) (1)))]) (st' := [(zq_vi (zq_i s (3) (1))), (.ref (b_2))]) (fun _ _ _ => rfl) ?_
          refine zq_call_i (i := .invokevirtual 261) (r := [1, 136, 1, 1, 4]) rfl rfl (fun h hp => zr_avv rfl (hp.obj (zq_fcls hR_1 (k := 0) (j := 0) (cj := 4) zq_a3 rfl rfl hb_3))) (of_decide_eq_false rfl) w (fun x_16 s_15 hx_17 w => ?_)
          refine zq_run 1 (pc' := 86) (L' := [(.ref (0)), (zq_vi (x1)), (.ref (b_2)), (zq_vi (zq_i s (3) (1)))]) (st' := [(zq_vi (x_16))]) (fun _ _ _ => rfl) ?_
          exact zq_iret rfl rfl rfl (Or.inl ⟨_, rfl, hx_17, w⟩)
      · rw [if_neg hb_8] at w
        by_cases hb_18 : x1 = 2
        · rw [if_pos hb_18] at w
          refine zq_tsw rfl (by rw [hb_18] <;> rfl) ?_
          refine zq_run 1 (pc' := 88) (L' := [(.ref (0)), (zq_vi (x1)), (.ref (b_2)), (zq_vi (zq_i s (3) (1)))]) (st' := [(.ref (0))]) (fun _ _ _ => rfl) ?_
          refine zq_getf_f (b := 3) rfl zq_a0 rfl rfl ?_
          refine zq_call_i (i := .invokevirtual 243) (r := [1, 94, 0, 1, 2]) rfl rfl (fun h hp => zr_avv rfl (hp.obj zq_a3)) (of_decide_eq_false rfl) w (fun x_20 s_19 hx_21 w => ?_)
          refine zq_run 1 (pc' := 96) (L' := [(.ref (0)), (zq_vi (x1)), (.ref (b_2)), (zq_vi (zq_i s (3) (1)))]) (st' := [(zq_vi (8)), (zq_vi (x_20))]) (fun _ _ _ => rfl) ?_
          refine zq_ne rfl hx_21 (of_decide_eq_true rfl) (fun hb_22 => ?_) (fun hb_22 => ?_)
          · rw [if_neg hb_22] at w
            refine zq_run 2 (pc' := 110) (L' := [(.ref (0)), (zq_vi (x1)), (.ref (b_2)), (zq_vi (zq_i s (3) (1)))]) (st' := [(zq_vi (zq_i s (3) (1))), (.ref (b_2))]) (fun _ _ _ => rfl) ?_
            refine zq_call_i (i := .invokevirtual 270) (r := [1, 137, 1, 1, 4]) rfl rfl (fun h hp => zr_avv rfl (hp.obj (zq_fcls hR_1 (k := 0) (j := 0) (cj := 4) zq_a3 rfl rfl hb_3))) (of_decide_eq_false rfl) w (fun x_24 s_23 hx_25 w => ?_)
            exact zq_iret rfl rfl rfl (Or.inl ⟨_, rfl, hx_25, w⟩)
          · rw [if_pos hb_22] at w
            refine zq_run 1 (pc' := 100) (L' := [(.ref (0)), (zq_vi (x1)), (.ref (b_2)), (zq_vi (zq_i s (3) (1)))]) (st' := [(.ref (b_2))]) (fun _ _ _ => rfl) ?_
            refine zq_getf_f (b := b_2 + 4) rfl (zq_fcls hR_1 (k := 0) (j := 0) (cj := 4) zq_a3 rfl rfl hb_3) rfl rfl ?_
            refine zq_run 1 (pc' := 104) (L' := [(.ref (0)), (zq_vi (x1)), (.ref (b_2)), (zq_vi (zq_i s (3) (1)))]) (st' := [(zq_vi (zq_i s (3) (1))), (.ref (b_2 + 4))]) (fun _ _ _ => rfl) ?_
            obtain ⟨g_26, w⟩ := w
            refine zq_have (fun hR_27 => ?_)
            refine zq_ald_i (v := zq_i s_19 (b_2 + 4) (zq_i s (3) (1))) rfl (zq_L4 (zq_fcls hR_1 (k := 0) (j := 0) (cj := 4) zq_a3 rfl rfl hb_3)).2.2.2.1 g_26.1 g_26.2 rfl ?_
            refine zq_run 1 (pc' := 113) (L' := [(.ref (0)), (zq_vi (x1)), (.ref (b_2)), (zq_vi (zq_i s (3) (1)))]) (st' := [(zq_vi (zq_i s_19 (b_2 + 4) (zq_i s (3) (1))))]) (fun _ _ _ => rfl) ?_
            exact zq_iret rfl rfl rfl (Or.inl ⟨_, rfl, (hR_27.1 _ _), w⟩)
        · rw [if_neg hb_18] at w
          refine zq_tsw rfl (zq_tabd hx1 (by omega)) ?_
          exact zq_throw rfl rfl (of_decide_eq_true rfl) w.1 (zq_thr w.2)
/-- PaperObjects$Tree.countOfParts(I)I -/
theorem zw_136 {X : Nat × (Nat → Int32)} {s : zq_S} {K : Int → zq_S → Prop} {a0 : Nat} (ha0 : zq_o 4 a0) {x1 : Int} (hx1 : zq_iv x1) (w : (zq_Ex X 17 0 [(.ref (a0)), (zq_vi (x1)), zz_no] [] s (zq_rp zq_iv fun x_2 s_1 => zq_Ex X 136 13 [(.ref (a0)), (zq_vi (x1)), (zq_vi (0)), (zq_vi (x_2)), (zq_vi (x1 + 1))] [] s_1 (zq_rp zq_iv K)))) : zq_Ex X 136 0 [(.ref (a0)), (zq_vi (x1)), zz_no, zz_no, zz_no] [] s (zq_rp zq_iv K) := by
  refine zq_run 4 (pc' := 4) (L' := [(.ref (a0)), (zq_vi (x1)), (zq_vi (0)), zz_no, zz_no]) (st' := [(zq_vi (x1)), (.ref (a0))]) (fun _ _ _ => rfl) ?_
  refine zq_call_i (i := .invokevirtual 40) (r := [1, 17, 1, 1, 4]) rfl rfl (fun h hp => zr_avv rfl (hp.obj ha0)) (of_decide_eq_false rfl) w (fun x_2 s_1 hx_3 w => ?_)
  refine zq_run 3 (pc' := 10) (L' := [(.ref (a0)), (zq_vi (x1)), (zq_vi (0)), (zq_vi (x_2)), zz_no]) (st' := [(zq_vi (1)), (zq_vi (x1))]) (fun _ _ _ => rfl) ?_
  refine zq_iadd rfl ?_
  refine zq_run 1 (pc' := 13) (L' := [(.ref (a0)), (zq_vi (x1)), (zq_vi (0)), (zq_vi (x_2)), (zq_vi (x1 + 1))]) (st' := []) (fun _ _ _ => rfl) ?_
  exact w
/-- PaperObjects$Tree.countOfParts at 13 -/
theorem zw_136_13 {X : Nat × (Nat → Int32)} {s : zq_S} {K : Int → zq_S → Prop} {a0 : Nat} (ha0 : zq_o 4 a0) {x1 : Int} (hx1 : zq_iv x1) {x2 : Int} (hx2 : zq_iv x2) {x3 : Int} (hx3 : zq_iv x3) {x4 : Int} (hx4 : zq_iv x4) (w : (if x4 < x3 then (((0 : Int) ≤ x4 ∧ x4 < (12 : Int)) ∧ (((0 : Int) ≤ x1 ∧ x1 < (12 : Int)) ∧ (zq_iv ((zq_i s (a0 + 2) (x1)) + 1) ∧ (if zq_i s (a0 + 2) (x4) = (zq_i s (a0 + 2) (x1)) + 1 then zq_Ex X 136 13 [(.ref (a0)), (zq_vi (x1)), (zq_vi (x2 + 1)), (zq_vi (x3)), (zq_vi (x4 + 1))] [] s (zq_rp zq_iv K) else zq_Ex X 136 13 [(.ref (a0)), (zq_vi (x1)), (zq_vi (x2)), (zq_vi (x3)), (zq_vi (x4 + 1))] [] s (zq_rp zq_iv K))))) else K (x2) s)) : zq_Ex X 136 13 [(.ref (a0)), (zq_vi (x1)), (zq_vi (x2)), (zq_vi (x3)), (zq_vi (x4))] [] s (zq_rp zq_iv K) := by
  refine zq_run 2 (pc' := 16) (L' := [(.ref (a0)), (zq_vi (x1)), (zq_vi (x2)), (zq_vi (x3)), (zq_vi (x4))]) (st' := [(zq_vi (x3)), (zq_vi (x4))]) (fun _ _ _ => rfl) ?_
  refine zq_ge rfl hx4 hx3 (fun hb_1 => ?_) (fun hb_1 => ?_)
  · rw [if_neg hb_1] at w
    refine zq_run 1 (pc' := 47) (L' := [(.ref (a0)), (zq_vi (x1)), (zq_vi (x2)), (zq_vi (x3)), (zq_vi (x4))]) (st' := [(zq_vi (x2))]) (fun _ _ _ => rfl) ?_
    exact zq_iret rfl rfl rfl (⟨_, rfl, hx2, w⟩)
  · rw [if_pos hb_1] at w
    refine zq_run 1 (pc' := 20) (L' := [(.ref (a0)), (zq_vi (x1)), (zq_vi (x2)), (zq_vi (x3)), (zq_vi (x4))]) (st' := [(.ref (a0))]) (fun _ _ _ => rfl) ?_
    refine zq_getf_f (b := a0 + 2) rfl ha0 rfl rfl ?_
    refine zq_run 1 (pc' := 25) (L' := [(.ref (a0)), (zq_vi (x1)), (zq_vi (x2)), (zq_vi (x3)), (zq_vi (x4))]) (st' := [(zq_vi (x4)), (.ref (a0 + 2))]) (fun _ _ _ => rfl) ?_
    obtain ⟨g_2, w⟩ := w
    refine zq_have (fun hR_3 => ?_)
    refine zq_ald_i (v := zq_i s (a0 + 2) (x4)) rfl (zq_L4 ha0).2.1 g_2.1 g_2.2 rfl ?_
    refine zq_run 1 (pc' := 27) (L' := [(.ref (a0)), (zq_vi (x1)), (zq_vi (x2)), (zq_vi (x3)), (zq_vi (x4))]) (st' := [(.ref (a0)), (zq_vi (zq_i s (a0 + 2) (x4)))]) (fun _ _ _ => rfl) ?_
    refine zq_getf_f (b := a0 + 2) rfl ha0 rfl rfl ?_
    refine zq_run 1 (pc' := 31) (L' := [(.ref (a0)), (zq_vi (x1)), (zq_vi (x2)), (zq_vi (x3)), (zq_vi (x4))]) (st' := [(zq_vi (x1)), (.ref (a0 + 2)), (zq_vi (zq_i s (a0 + 2) (x4)))]) (fun _ _ _ => rfl) ?_
    obtain ⟨g_4, w⟩ := w
    refine zq_ald_i (v := zq_i s (a0 + 2) (x1)) rfl (zq_L4 ha0).2.1 g_4.1 g_4.2 rfl ?_
    refine zq_run 1 (pc' := 33) (L' := [(.ref (a0)), (zq_vi (x1)), (zq_vi (x2)), (zq_vi (x3)), (zq_vi (x4))]) (st' := [(zq_vi (1)), (zq_vi (zq_i s (a0 + 2) (x1))), (zq_vi (zq_i s (a0 + 2) (x4)))]) (fun _ _ _ => rfl) ?_
    refine zq_iadd rfl ?_
    obtain ⟨g_5, w⟩ := w
    refine zq_ne rfl (hR_3.1 _ _) g_5 (fun hb_6 => ?_) (fun hb_6 => ?_)
    · rw [if_neg hb_6] at w
      refine zq_iinc (L' := [(.ref (a0)), (zq_vi (x1)), (zq_vi (x2)), (zq_vi (x3)), (zq_vi (x4 + 1))]) rfl rfl rfl ?_
      refine zq_run 1 (pc' := 13) (L' := [(.ref (a0)), (zq_vi (x1)), (zq_vi (x2)), (zq_vi (x3)), (zq_vi (x4 + 1))]) (st' := []) (fun _ _ _ => rfl) ?_
      exact w
    · rw [if_pos hb_6] at w
      refine zq_iinc (L' := [(.ref (a0)), (zq_vi (x1)), (zq_vi (x2 + 1)), (zq_vi (x3)), (zq_vi (x4))]) rfl rfl rfl ?_
      refine zq_iinc (L' := [(.ref (a0)), (zq_vi (x1)), (zq_vi (x2 + 1)), (zq_vi (x3)), (zq_vi (x4 + 1))]) rfl rfl rfl ?_
      refine zq_run 1 (pc' := 13) (L' := [(.ref (a0)), (zq_vi (x1)), (zq_vi (x2 + 1)), (zq_vi (x3)), (zq_vi (x4 + 1))]) (st' := []) (fun _ _ _ => rfl) ?_
      exact w
/-- PaperObjects$Tree.depth(I)I -/
theorem zw_137 {X : Nat × (Nat → Int32)} {s : zq_S} {K : Int → zq_S → Prop} {a0 : Nat} (ha0 : zq_o 4 a0) {x1 : Int} (hx1 : zq_iv x1) (w : (((0 : Int) ≤ x1 ∧ x1 < (12 : Int)) ∧ (zq_Ex X 17 0 [(.ref (a0)), (zq_vi (x1)), zz_no] [] s (zq_rp zq_iv fun x_4 s_3 => zq_Ex X 137 16 [(.ref (a0)), (zq_vi (x1)), (zq_vi (zq_i s (a0 + 2) (x1))), (zq_vi (x_4)), (zq_vi (x1))] [] s_3 (zq_rp zq_iv K))))) : zq_Ex X 137 0 [(.ref (a0)), (zq_vi (x1)), zz_no, zz_no, zz_no] [] s (zq_rp zq_iv K) := by
  refine zq_run 1 (pc' := 1) (L' := [(.ref (a0)), (zq_vi (x1)), zz_no, zz_no, zz_no]) (st' := [(.ref (a0))]) (fun _ _ _ => rfl) ?_
  refine zq_getf_f (b := a0 + 2) rfl ha0 rfl rfl ?_
  refine zq_run 1 (pc' := 5) (L' := [(.ref (a0)), (zq_vi (x1)), zz_no, zz_no, zz_no]) (st' := [(zq_vi (x1)), (.ref (a0 + 2))]) (fun _ _ _ => rfl) ?_
  obtain ⟨g_1, w⟩ := w
  refine zq_have (fun hR_2 => ?_)
  refine zq_ald_i (v := zq_i s (a0 + 2) (x1)) rfl (zq_L4 ha0).2.1 g_1.1 g_1.2 rfl ?_
  refine zq_run 3 (pc' := 9) (L' := [(.ref (a0)), (zq_vi (x1)), (zq_vi (zq_i s (a0 + 2) (x1))), zz_no, zz_no]) (st' := [(zq_vi (x1)), (.ref (a0))]) (fun _ _ _ => rfl) ?_
  refine zq_call_i (i := .invokevirtual 40) (r := [1, 17, 1, 1, 4]) rfl rfl (fun h hp => zr_avv rfl (hp.obj ha0)) (of_decide_eq_false rfl) w (fun x_4 s_3 hx_5 w => ?_)
  refine zq_run 3 (pc' := 16) (L' := [(.ref (a0)), (zq_vi (x1)), (zq_vi (zq_i s (a0 + 2) (x1))), (zq_vi (x_4)), (zq_vi (x1))]) (st' := []) (fun _ _ _ => rfl) ?_
  exact w
/-- PaperObjects$Tree.depth at 16 -/
theorem zw_137_16 {X : Nat × (Nat → Int32)} {s : zq_S} {K : Int → zq_S → Prop} {a0 : Nat} (ha0 : zq_o 4 a0) {x1 : Int} (hx1 : zq_iv x1) {x2 : Int} (hx2 : zq_iv x2) {x3 : Int} (hx3 : zq_iv x3) {x4 : Int} (hx4 : zq_iv x4) (w : (if x4 < x3 then (((0 : Int) ≤ x4 ∧ x4 < (12 : Int)) ∧ (zq_Ex X 138 0 [(zq_vi (x2)), (zq_vi (zq_i s (a0 + 2) (x4)))] [] s (zq_rp zq_iv fun x_8 s_7 => zq_Ex X 137 16 [(.ref (a0)), (zq_vi (x1)), (zq_vi (x_8)), (zq_vi (x3)), (zq_vi (x4 + 1))] [] s_7 (zq_rp zq_iv K)))) else (((0 : Int) ≤ x1 ∧ x1 < (12 : Int)) ∧ (zq_iv ((x2 - (zq_i s (a0 + 2) (x1))) + 1) ∧ K ((x2 - (zq_i s (a0 + 2) (x1))) + 1) s)))) : zq_Ex X 137 16 [(.ref (a0)), (zq_vi (x1)), (zq_vi (x2)), (zq_vi (x3)), (zq_vi (x4))] [] s (zq_rp zq_iv K) := by
  refine zq_run 2 (pc' := 19) (L' := [(.ref (a0)), (zq_vi (x1)), (zq_vi (x2)), (zq_vi (x3)), (zq_vi (x4))]) (st' := [(zq_vi (x3)), (zq_vi (x4))]) (fun _ _ _ => rfl) ?_
  refine zq_ge rfl hx4 hx3 (fun hb_1 => ?_) (fun hb_1 => ?_)
  · rw [if_neg hb_1] at w
    refine zq_run 2 (pc' := 42) (L' := [(.ref (a0)), (zq_vi (x1)), (zq_vi (x2)), (zq_vi (x3)), (zq_vi (x4))]) (st' := [(.ref (a0)), (zq_vi (x2))]) (fun _ _ _ => rfl) ?_
    refine zq_getf_f (b := a0 + 2) rfl ha0 rfl rfl ?_
    refine zq_run 1 (pc' := 46) (L' := [(.ref (a0)), (zq_vi (x1)), (zq_vi (x2)), (zq_vi (x3)), (zq_vi (x4))]) (st' := [(zq_vi (x1)), (.ref (a0 + 2)), (zq_vi (x2))]) (fun _ _ _ => rfl) ?_
    obtain ⟨g_2, w⟩ := w
    refine zq_have (fun hR_3 => ?_)
    refine zq_ald_i (v := zq_i s (a0 + 2) (x1)) rfl (zq_L4 ha0).2.1 g_2.1 g_2.2 rfl ?_
    refine zq_isub rfl ?_
    refine zq_run 1 (pc' := 49) (L' := [(.ref (a0)), (zq_vi (x1)), (zq_vi (x2)), (zq_vi (x3)), (zq_vi (x4))]) (st' := [(zq_vi (1)), (zq_vi (x2 - (zq_i s (a0 + 2) (x1))))]) (fun _ _ _ => rfl) ?_
    refine zq_iadd rfl ?_
    obtain ⟨g_4, w⟩ := w
    exact zq_iret rfl rfl rfl (⟨_, rfl, g_4, w⟩)
  · rw [if_pos hb_1] at w
    refine zq_run 2 (pc' := 24) (L' := [(.ref (a0)), (zq_vi (x1)), (zq_vi (x2)), (zq_vi (x3)), (zq_vi (x4))]) (st' := [(.ref (a0)), (zq_vi (x2))]) (fun _ _ _ => rfl) ?_
    refine zq_getf_f (b := a0 + 2) rfl ha0 rfl rfl ?_
    refine zq_run 1 (pc' := 29) (L' := [(.ref (a0)), (zq_vi (x1)), (zq_vi (x2)), (zq_vi (x3)), (zq_vi (x4))]) (st' := [(zq_vi (x4)), (.ref (a0 + 2)), (zq_vi (x2))]) (fun _ _ _ => rfl) ?_
    obtain ⟨g_5, w⟩ := w
    refine zq_have (fun hR_6 => ?_)
    refine zq_ald_i (v := zq_i s (a0 + 2) (x4)) rfl (zq_L4 ha0).2.1 g_5.1 g_5.2 rfl ?_
    refine zq_call_i (i := .invokestatic 43) (r := [1, 138, 2, 0, 0]) rfl rfl (fun _ _ => rfl) (of_decide_eq_false rfl) w (fun x_8 s_7 hx_9 w => ?_)
    refine zq_run 1 (pc' := 34) (L' := [(.ref (a0)), (zq_vi (x1)), (zq_vi (x_8)), (zq_vi (x3)), (zq_vi (x4))]) (st' := []) (fun _ _ _ => rfl) ?_
    refine zq_iinc (L' := [(.ref (a0)), (zq_vi (x1)), (zq_vi (x_8)), (zq_vi (x3)), (zq_vi (x4 + 1))]) rfl rfl rfl ?_
    refine zq_run 1 (pc' := 16) (L' := [(.ref (a0)), (zq_vi (x1)), (zq_vi (x_8)), (zq_vi (x3)), (zq_vi (x4 + 1))]) (st' := []) (fun _ _ _ => rfl) ?_
    exact w
/-- java/lang/Math.max(II)I -/
theorem zw_138 {X : Nat × (Nat → Int32)} {s : zq_S} {K : Int → zq_S → Prop} {x0 : Int} (hx0 : zq_iv x0) {x1 : Int} (hx1 : zq_iv x1) (w : (if x0 < x1 then K (x1) s else K (x0) s)) : zq_Ex X 138 0 [(zq_vi (x0)), (zq_vi (x1))] [] s (zq_rp zq_iv K) := by
  refine zq_run 2 (pc' := 2) (L' := [(zq_vi (x0)), (zq_vi (x1))]) (st' := [(zq_vi (x1)), (zq_vi (x0))]) (fun _ _ _ => rfl) ?_
  refine zq_lt rfl hx0 hx1 (fun hb_1 => ?_) (fun hb_1 => ?_)
  · rw [if_pos hb_1] at w
    refine zq_run 1 (pc' := 10) (L' := [(zq_vi (x0)), (zq_vi (x1))]) (st' := [(zq_vi (x1))]) (fun _ _ _ => rfl) ?_
    exact zq_iret rfl rfl rfl (⟨_, rfl, hx1, w⟩)
  · rw [if_neg hb_1] at w
    refine zq_run 2 (pc' := 10) (L' := [(zq_vi (x0)), (zq_vi (x1))]) (st' := [(zq_vi (x0))]) (fun _ _ _ => rfl) ?_
    exact zq_iret rfl rfl rfl (⟨_, rfl, hx0, w⟩)
