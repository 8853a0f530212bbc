/-! weakest preconditions of methods 232-246 0: printed by program (genW.py) -/
set_option maxRecDepth 100000 in
/-- PaperObjectsLaw.type(LPaperObjects;J[J)I -/
theorem zw_232 {X : Nat × (Nat → Int32)} {s : zq_S} {K : Int → zq_S → Prop} {y1 : Int64} {a3 m3 : Nat} (ha3 : zq_k a3 = (2, 3, m3)) (w : zq_Ex X 38 0 [(.ref (0)), (.long (y1)), zz_no, zz_no, zz_no] [] s (zq_rx (zq_rp zq_iv fun x_2 s_1 => (((0 : Int) ≤ 0 ∧ 0 < ((m3 : Nat) : Int)) ∧ K (0) (zq_sl s_1 (a3) (0) ((Int32.ofInt (x_2)).toInt64)))) (fun c1 s_1 => (if c1 = 10 then K (1) s_1 else False)))) : zq_Ex X 232 0 [(.ref (0)), (.long (y1)), zz_no, (.ref (a3)), zz_no] [] s (zq_rp zq_iv K) := by
  refine zq_run 4 (pc' := 4) (L' := [(.ref (0)), (.long (y1)), zz_no, (.ref (a3)), zz_no]) (st' := [(.long (y1)), (.ref (0)), (zq_vi (0)), (.ref (a3))]) (fun _ _ _ => rfl) ?_
  refine zq_callx (i := .invokevirtual 7) (r := [1, 38, 1, 1, 0]) rfl rfl (fun h hp => zr_avv rfl (hp.obj zq_a0)) (of_decide_eq_false rfl) w (fun o s_1 q => ?_) (fun c1 s_1 w => ?_)
  · obtain ⟨x_2, ho, hx_3, w⟩ := q
    refine ⟨_, ho, ?_⟩
    show zq_Ex X 232 7 [(.ref (0)), (.long (y1)), zz_no, (.ref (a3)), zz_no] [(zq_vi (x_2)), (zq_vi (0)), (.ref (a3))] s_1 (zq_rp zq_iv K)
    try dsimp only at w
    refine zq_run 1 (pc' := 8) (L' := [(.ref (0)), (.long (y1)), zz_no, (.ref (a3)), zz_no]) (st' := [(.long ((Int32.ofInt (x_2)).toInt64)), (zq_vi (0)), (.ref (a3))]) (fun _ _ _ => rfl) ?_
    obtain ⟨g_4, w⟩ := w
    refine zq_ast_l rfl ha3 g_4.1 g_4.2  ?_
    refine zq_run 2 (pc' := 17) (L' := [(.ref (0)), (.long (y1)), zz_no, (.ref (a3)), zz_no]) (st' := [(zq_vi (0))]) (fun _ _ _ => rfl) ?_
    exact zq_iret rfl rfl rfl (⟨_, rfl, (of_decide_eq_true rfl), w⟩)
  · try dsimp only at w
    by_cases hb_5 : c1 = 10
    · rw [if_pos hb_5] at w
      subst hb_5
      refine ⟨12, rfl, ?_⟩
      refine zq_run 2 (pc' := 15) (L' := [(.ref (0)), (.long (y1)), zz_no, (.ref (a3)), (.ref (259 + zq_n s_1))]) (st' := [(zq_vi (1))]) (fun _ _ _ => rfl) ?_
      exact zq_iret rfl rfl rfl (⟨_, rfl, (of_decide_eq_true rfl), w⟩)
    · rw [if_neg hb_5] at w
      exact w.elim
set_option maxRecDepth 100000 in
/-- PaperObjectsLaw.put(LPaperObjects;I)I -/
theorem zw_233 {X : Nat × (Nat → Int32)} {s : zq_S} {K : Int → zq_S → Prop} {x1 : Int} (hx1 : zq_iv x1) (w : zq_Ex X 41 0 [(.ref (0)), (zq_vi (x1)), zz_no, zz_no] [] s (zq_rx (zq_rv fun s_1 => K (0) s_1) (fun c1 s_1 => (if c1 = 12 then K (1) s_1 else (if c1 = 11 then K (2) s_1 else (if c1 = 10 then K (3) s_1 else False)))))) : zq_Ex X 233 0 [(.ref (0)), (zq_vi (x1)), zz_no] [] s (zq_rp zq_iv K) := by
  refine zq_run 2 (pc' := 2) (L' := [(.ref (0)), (zq_vi (x1)), zz_no]) (st' := [(zq_vi (x1)), (.ref (0))]) (fun _ _ _ => rfl) ?_
  refine zq_callx (i := .invokevirtual 15) (r := [1, 41, 1, 1, 0]) rfl rfl (fun h hp => zr_avv rfl (hp.obj zq_a0)) (of_decide_eq_false rfl) w (fun o s_1 q => ?_) (fun c1 s_1 w => ?_)
  · obtain ⟨ho, w⟩ := q
    refine ⟨_, ho, ?_⟩
    show zq_Ex X 233 5 [(.ref (0)), (zq_vi (x1)), zz_no] [] s_1 (zq_rp zq_iv K)
    try dsimp only at w
    refine zq_run 2 (pc' := 18) (L' := [(.ref (0)), (zq_vi (x1)), zz_no]) (st' := [(zq_vi (0))]) (fun _ _ _ => rfl) ?_
    exact zq_iret rfl rfl rfl (⟨_, rfl, (of_decide_eq_true rfl), w⟩)
  · try dsimp only at w
    by_cases hb_4 : c1 = 12
    · rw [if_pos hb_4] at w
      subst hb_4
      refine ⟨8, rfl, ?_⟩
      refine zq_run 2 (pc' := 10) (L' := [(.ref (0)), (zq_vi (x1)), (.ref (259 + zq_n s_1))]) (st' := [(zq_vi (1))]) (fun _ _ _ => rfl) ?_
      exact zq_iret rfl rfl rfl (⟨_, rfl, (of_decide_eq_true rfl), w⟩)
    · rw [if_neg hb_4] at w
      by_cases hb_5 : c1 = 11
      · rw [if_pos hb_5] at w
        subst hb_5
        refine ⟨11, rfl, ?_⟩
        refine zq_run 2 (pc' := 13) (L' := [(.ref (0)), (zq_vi (x1)), (.ref (259 + zq_n s_1))]) (st' := [(zq_vi (2))]) (fun _ _ _ => rfl) ?_
        exact zq_iret rfl rfl rfl (⟨_, rfl, (of_decide_eq_true rfl), w⟩)
      · rw [if_neg hb_5] at w
        by_cases hb_6 : c1 = 10
        · rw [if_pos hb_6] at w
          subst hb_6
          refine ⟨14, rfl, ?_⟩
          refine zq_run 2 (pc' := 16) (L' := [(.ref (0)), (zq_vi (x1)), (.ref (259 + zq_n s_1))]) (st' := [(zq_vi (3))]) (fun _ _ _ => rfl) ?_
          exact zq_iret rfl rfl rfl (⟨_, rfl, (of_decide_eq_true rfl), w⟩)
        · rw [if_neg hb_6] at w
          exact w.elim
set_option maxRecDepth 100000 in
/-- PaperObjectsLaw.content(LPaperObjects;I)I -/
theorem zw_234 {X : Nat × (Nat → Int32)} {s : zq_S} {K : Int → zq_S → Prop} {x1 : Int} (hx1 : zq_iv x1) (w : zq_Ex X 72 0 [(.ref (0)), (zq_vi (x1)), zz_no] [] s (zq_rx (zq_rv fun s_1 => K (0) s_1) (fun c1 s_1 => (if c1 = 13 then K (1) s_1 else (if c1 = 11 then K (2) s_1 else (if c1 = 10 then K (3) s_1 else False)))))) : zq_Ex X 234 0 [(.ref (0)), (zq_vi (x1)), zz_no] [] s (zq_rp zq_iv K) := by
  refine zq_run 2 (pc' := 2) (L' := [(.ref (0)), (zq_vi (x1)), zz_no]) (st' := [(zq_vi (x1)), (.ref (0))]) (fun _ _ _ => rfl) ?_
  refine zq_callx (i := .invokevirtual 23) (r := [1, 72, 1, 1, 0]) rfl rfl (fun h hp => zr_avv rfl (hp.obj zq_a0)) (of_decide_eq_false rfl) w (fun o s_1 q => ?_) (fun c1 s_1 w => ?_)
  · obtain ⟨ho, w⟩ := q
    refine ⟨_, ho, ?_⟩
    show zq_Ex X 234 5 [(.ref (0)), (zq_vi (x1)), zz_no] [] s_1 (zq_rp zq_iv K)
    try dsimp only at w
    refine zq_run 2 (pc' := 18) (L' := [(.ref (0)), (zq_vi (x1)), zz_no]) (st' := [(zq_vi (0))]) (fun _ _ _ => rfl) ?_
    exact zq_iret rfl rfl rfl (⟨_, rfl, (of_decide_eq_true rfl), w⟩)
  · try dsimp only at w
    by_cases hb_4 : c1 = 13
    · rw [if_pos hb_4] at w
      subst hb_4
      refine ⟨8, rfl, ?_⟩
      refine zq_run 2 (pc' := 10) (L' := [(.ref (0)), (zq_vi (x1)), (.ref (259 + zq_n s_1))]) (st' := [(zq_vi (1))]) (fun _ _ _ => rfl) ?_
      exact zq_iret rfl rfl rfl (⟨_, rfl, (of_decide_eq_true rfl), w⟩)
    · rw [if_neg hb_4] at w
      by_cases hb_5 : c1 = 11
      · rw [if_pos hb_5] at w
        subst hb_5
        refine ⟨11, rfl, ?_⟩
        refine zq_run 2 (pc' := 13) (L' := [(.ref (0)), (zq_vi (x1)), (.ref (259 + zq_n s_1))]) (st' := [(zq_vi (2))]) (fun _ _ _ => rfl) ?_
        exact zq_iret rfl rfl rfl (⟨_, rfl, (of_decide_eq_true rfl), w⟩)
      · rw [if_neg hb_5] at w
        by_cases hb_6 : c1 = 10
        · rw [if_pos hb_6] at w
          subst hb_6
          refine ⟨14, rfl, ?_⟩
          refine zq_run 2 (pc' := 16) (L' := [(.ref (0)), (zq_vi (x1)), (.ref (259 + zq_n s_1))]) (st' := [(zq_vi (3))]) (fun _ _ _ => rfl) ?_
          exact zq_iret rfl rfl rfl (⟨_, rfl, (of_decide_eq_true rfl), w⟩)
        · rw [if_neg hb_6] at w
          exact w.elim
set_option maxRecDepth 100000 in
/-- PaperObjectsLaw.free(LPaperObjects;I)I -/
theorem zw_235 {X : Nat × (Nat → Int32)} {s : zq_S} {K : Int → zq_S → Prop} {x1 : Int} (hx1 : zq_iv x1) (w : zq_Ex X 81 0 [(.ref (0)), (zq_vi (x1)), zz_no] [] s (zq_rx (zq_rv fun s_1 => K (0) s_1) (fun c1 s_1 => (if c1 = 13 then K (1) s_1 else False)))) : zq_Ex X 235 0 [(.ref (0)), (zq_vi (x1)), zz_no] [] s (zq_rp zq_iv K) := by
  refine zq_run 2 (pc' := 2) (L' := [(.ref (0)), (zq_vi (x1)), zz_no]) (st' := [(zq_vi (x1)), (.ref (0))]) (fun _ _ _ => rfl) ?_
  refine zq_callx (i := .invokevirtual 28) (r := [1, 81, 1, 1, 0]) rfl rfl (fun h hp => zr_avv rfl (hp.obj zq_a0)) (of_decide_eq_false rfl) w (fun o s_1 q => ?_) (fun c1 s_1 w => ?_)
  · obtain ⟨ho, w⟩ := q
    refine ⟨_, ho, ?_⟩
    show zq_Ex X 235 5 [(.ref (0)), (zq_vi (x1)), zz_no] [] s_1 (zq_rp zq_iv K)
    try dsimp only at w
    refine zq_run 2 (pc' := 12) (L' := [(.ref (0)), (zq_vi (x1)), zz_no]) (st' := [(zq_vi (0))]) (fun _ _ _ => rfl) ?_
    exact zq_iret rfl rfl rfl (⟨_, rfl, (of_decide_eq_true rfl), w⟩)
  · try dsimp only at w
    by_cases hb_4 : c1 = 13
    · rw [if_pos hb_4] at w
      subst hb_4
      refine ⟨8, rfl, ?_⟩
      refine zq_run 2 (pc' := 10) (L' := [(.ref (0)), (zq_vi (x1)), (.ref (259 + zq_n s_1))]) (st' := [(zq_vi (1))]) (fun _ _ _ => rfl) ?_
      exact zq_iret rfl rfl rfl (⟨_, rfl, (of_decide_eq_true rfl), w⟩)
    · rw [if_neg hb_4] at w
      exact w.elim
set_option maxRecDepth 100000 in
/-- PaperObjectsLaw.root(LPaperObjects;I)I -/
theorem zw_236 {X : Nat × (Nat → Int32)} {s : zq_S} {K : Int → zq_S → Prop} {x1 : Int} (hx1 : zq_iv x1) (w : zq_Ex X 85 0 [(.ref (0)), (zq_vi (x1)), zz_no] [] s (zq_rx (zq_rv fun s_1 => K (0) s_1) (fun c1 s_1 => (if c1 = 13 then K (1) s_1 else False)))) : zq_Ex X 236 0 [(.ref (0)), (zq_vi (x1)), zz_no] [] s (zq_rp zq_iv K) := by
  refine zq_run 2 (pc' := 2) (L' := [(.ref (0)), (zq_vi (x1)), zz_no]) (st' := [(zq_vi (x1)), (.ref (0))]) (fun _ _ _ => rfl) ?_
  refine zq_callx (i := .invokevirtual 31) (r := [1, 85, 1, 1, 0]) rfl rfl (fun h hp => zr_avv rfl (hp.obj zq_a0)) (of_decide_eq_false rfl) w (fun o s_1 q => ?_) (fun c1 s_1 w => ?_)
  · obtain ⟨ho, w⟩ := q
    refine ⟨_, ho, ?_⟩
    show zq_Ex X 236 5 [(.ref (0)), (zq_vi (x1)), zz_no] [] s_1 (zq_rp zq_iv K)
    try dsimp only at w
    refine zq_run 2 (pc' := 12) (L' := [(.ref (0)), (zq_vi (x1)), zz_no]) (st' := [(zq_vi (0))]) (fun _ _ _ => rfl) ?_
    exact zq_iret rfl rfl rfl (⟨_, rfl, (of_decide_eq_true rfl), w⟩)
  · try dsimp only at w
    by_cases hb_4 : c1 = 13
    · rw [if_pos hb_4] at w
      subst hb_4
      refine ⟨8, rfl, ?_⟩
      refine zq_run 2 (pc' := 10) (L' := [(.ref (0)), (zq_vi (x1)), (.ref (259 + zq_n s_1))]) (st' := [(zq_vi (1))]) (fun _ _ _ => rfl) ?_
      exact zq_iret rfl rfl rfl (⟨_, rfl, (of_decide_eq_true rfl), w⟩)
    · rw [if_neg hb_4] at w
      exact w.elim
set_option maxRecDepth 100000 in
/-- PaperObjectsLaw.save(LPaperObjects;Z[J)I -/
theorem zw_237 {X : Nat × (Nat → Int32)} {s : zq_S} {K : Int → zq_S → Prop} {x1 : Int} (hx1 : zq_bo x1) {a2 m2 : Nat} (ha2 : zq_k a2 = (2, 3, m2)) (w : zq_Ex X 86 0 [(.ref (0)), (zq_vi (x1)), zz_no, zz_no, zz_no] [] s (zq_rx (zq_rp zq_iv fun x_2 s_1 => (((0 : Int) ≤ 0 ∧ 0 < ((m2 : Nat) : Int)) ∧ K (0) (zq_sl s_1 (a2) (0) ((Int32.ofInt (x_2)).toInt64)))) (fun c1 s_1 => (if c1 = 11 then K (1) s_1 else (if c1 = 14 then K (2) s_1 else False))))) : zq_Ex X 237 0 [(.ref (0)), (zq_vi (x1)), (.ref (a2)), zz_no] [] s (zq_rp zq_iv K) := by
  refine zq_run 4 (pc' := 4) (L' := [(.ref (0)), (zq_vi (x1)), (.ref (a2)), zz_no]) (st' := [(zq_vi (x1)), (.ref (0)), (zq_vi (0)), (.ref (a2))]) (fun _ _ _ => rfl) ?_
  refine zq_callx (i := .invokevirtual 34) (r := [1, 86, 1, 1, 0]) rfl rfl (fun h hp => zr_avv rfl (hp.obj zq_a0)) (of_decide_eq_false rfl) w (fun o s_1 q => ?_) (fun c1 s_1 w => ?_)
  · obtain ⟨x_2, ho, hx_3, w⟩ := q
    refine ⟨_, ho, ?_⟩
    show zq_Ex X 237 7 [(.ref (0)), (zq_vi (x1)), (.ref (a2)), zz_no] [(zq_vi (x_2)), (zq_vi (0)), (.ref (a2))] s_1 (zq_rp zq_iv K)
    try dsimp only at w
    refine zq_run 1 (pc' := 8) (L' := [(.ref (0)), (zq_vi (x1)), (.ref (a2)), zz_no]) (st' := [(.long ((Int32.ofInt (x_2)).toInt64)), (zq_vi (0)), (.ref (a2))]) (fun _ _ _ => rfl) ?_
    obtain ⟨g_4, w⟩ := w
    refine zq_ast_l rfl ha2 g_4.1 g_4.2  ?_
    refine zq_run 2 (pc' := 19) (L' := [(.ref (0)), (zq_vi (x1)), (.ref (a2)), zz_no]) (st' := [(zq_vi (0))]) (fun _ _ _ => rfl) ?_
    exact zq_iret rfl rfl rfl (⟨_, rfl, (of_decide_eq_true rfl), w⟩)
  · try dsimp only at w
    by_cases hb_5 : c1 = 11
    · rw [if_pos hb_5] at w
      subst hb_5
      refine ⟨12, rfl, ?_⟩
      refine zq_run 2 (pc' := 14) (L' := [(.ref (0)), (zq_vi (x1)), (.ref (a2)), (.ref (259 + zq_n s_1))]) (st' := [(zq_vi (1))]) (fun _ _ _ => rfl) ?_
      exact zq_iret rfl rfl rfl (⟨_, rfl, (of_decide_eq_true rfl), w⟩)
    · rw [if_neg hb_5] at w
      by_cases hb_6 : c1 = 14
      · rw [if_pos hb_6] at w
        subst hb_6
        refine ⟨15, rfl, ?_⟩
        refine zq_run 2 (pc' := 17) (L' := [(.ref (0)), (zq_vi (x1)), (.ref (a2)), (.ref (259 + zq_n s_1))]) (st' := [(zq_vi (2))]) (fun _ _ _ => rfl) ?_
        exact zq_iret rfl rfl rfl (⟨_, rfl, (of_decide_eq_true rfl), w⟩)
      · rw [if_neg hb_6] at w
        exact w.elim
set_option maxRecDepth 100000 in
/-- PaperObjectsLaw.load(LPaperObjects;[J)I -/
theorem zw_238 {X : Nat × (Nat → Int32)} {s : zq_S} {K : Int → zq_S → Prop} {a1 m1 : Nat} (ha1 : zq_k a1 = (2, 3, m1)) (w : zq_Ex X 106 0 [(.ref (0)), zz_no, zz_no] [] s (zq_rx (zq_rp zq_iv fun x_2 s_1 => (((0 : Int) ≤ 0 ∧ 0 < ((m1 : Nat) : Int)) ∧ K (0) (zq_sl s_1 (a1) (0) ((Int32.ofInt (x_2)).toInt64)))) (fun c1 s_1 => (if c1 = 10 then K (1) s_1 else False)))) : zq_Ex X 238 0 [(.ref (0)), (.ref (a1)), zz_no] [] s (zq_rp zq_iv K) := by
  refine zq_run 3 (pc' := 3) (L' := [(.ref (0)), (.ref (a1)), zz_no]) (st' := [(.ref (0)), (zq_vi (0)), (.ref (a1))]) (fun _ _ _ => rfl) ?_
  refine zq_callx (i := .invokevirtual 40) (r := [1, 106, 0, 1, 0]) rfl rfl (fun h hp => zr_avv rfl (hp.obj zq_a0)) (of_decide_eq_false rfl) w (fun o s_1 q => ?_) (fun c1 s_1 w => ?_)
  · obtain ⟨x_2, ho, hx_3, w⟩ := q
    refine ⟨_, ho, ?_⟩
    show zq_Ex X 238 6 [(.ref (0)), (.ref (a1)), zz_no] [(zq_vi (x_2)), (zq_vi (0)), (.ref (a1))] s_1 (zq_rp zq_iv K)
    try dsimp only at w
    refine zq_run 1 (pc' := 7) (L' := [(.ref (0)), (.ref (a1)), zz_no]) (st' := [(.long ((Int32.ofInt (x_2)).toInt64)), (zq_vi (0)), (.ref (a1))]) (fun _ _ _ => rfl) ?_
    obtain ⟨g_4, w⟩ := w
    refine zq_ast_l rfl ha1 g_4.1 g_4.2  ?_
    refine zq_run 2 (pc' := 15) (L' := [(.ref (0)), (.ref (a1)), zz_no]) (st' := [(zq_vi (0))]) (fun _ _ _ => rfl) ?_
    exact zq_iret rfl rfl rfl (⟨_, rfl, (of_decide_eq_true rfl), w⟩)
  · try dsimp only at w
    by_cases hb_5 : c1 = 10
    · rw [if_pos hb_5] at w
      subst hb_5
      refine ⟨11, rfl, ?_⟩
      refine zq_run 2 (pc' := 13) (L' := [(.ref (0)), (.ref (a1)), (.ref (259 + zq_n s_1))]) (st' := [(zq_vi (1))]) (fun _ _ _ => rfl) ?_
      exact zq_iret rfl rfl rfl (⟨_, rfl, (of_decide_eq_true rfl), w⟩)
    · rw [if_neg hb_5] at w
      exact w.elim
set_option maxRecDepth 100000 in
/-- PaperObjectsLaw.poke(LPaperObjects;IC)I -/
theorem zw_239 {X : Nat × (Nat → Int32)} {s : zq_S} {K : Int → zq_S → Prop} {x1 : Int} (hx1 : zq_iv x1) {x2 : Int} (hx2 : zq_ch x2) (w : zq_Ex X 125 0 [(.ref (0)), (zq_vi (x1)), (zq_vi (x2))] [] s (zq_rx (zq_rv fun s_1 => K (0) s_1) (fun c1 s_1 => (if c1 = 12 then K (1) s_1 else (if c1 = 10 then K (2) s_1 else False))))) : zq_Ex X 239 0 [(.ref (0)), (zq_vi (x1)), (zq_vi (x2)), zz_no] [] s (zq_rp zq_iv K) := by
  refine zq_run 3 (pc' := 3) (L' := [(.ref (0)), (zq_vi (x1)), (zq_vi (x2)), zz_no]) (st' := [(zq_vi (x2)), (zq_vi (x1)), (.ref (0))]) (fun _ _ _ => rfl) ?_
  refine zq_callx (i := .invokevirtual 44) (r := [1, 125, 2, 1, 0]) rfl rfl (fun h hp => zr_avv rfl (hp.obj zq_a0)) (of_decide_eq_false rfl) w (fun o s_1 q => ?_) (fun c1 s_1 w => ?_)
  · obtain ⟨ho, w⟩ := q
    refine ⟨_, ho, ?_⟩
    show zq_Ex X 239 6 [(.ref (0)), (zq_vi (x1)), (zq_vi (x2)), zz_no] [] s_1 (zq_rp zq_iv K)
    try dsimp only at w
    refine zq_run 2 (pc' := 16) (L' := [(.ref (0)), (zq_vi (x1)), (zq_vi (x2)), zz_no]) (st' := [(zq_vi (0))]) (fun _ _ _ => rfl) ?_
    exact zq_iret rfl rfl rfl (⟨_, rfl, (of_decide_eq_true rfl), w⟩)
  · try dsimp only at w
    by_cases hb_4 : c1 = 12
    · rw [if_pos hb_4] at w
      subst hb_4
      refine ⟨9, rfl, ?_⟩
      refine zq_run 2 (pc' := 11) (L' := [(.ref (0)), (zq_vi (x1)), (zq_vi (x2)), (.ref (259 + zq_n s_1))]) (st' := [(zq_vi (1))]) (fun _ _ _ => rfl) ?_
      exact zq_iret rfl rfl rfl (⟨_, rfl, (of_decide_eq_true rfl), w⟩)
    · rw [if_neg hb_4] at w
      by_cases hb_5 : c1 = 10
      · rw [if_pos hb_5] at w
        subst hb_5
        refine ⟨12, rfl, ?_⟩
        refine zq_run 2 (pc' := 14) (L' := [(.ref (0)), (zq_vi (x1)), (zq_vi (x2)), (.ref (259 + zq_n s_1))]) (st' := [(zq_vi (2))]) (fun _ _ _ => rfl) ?_
        exact zq_iret rfl rfl rfl (⟨_, rfl, (of_decide_eq_true rfl), w⟩)
      · rw [if_neg hb_5] at w
        exact w.elim
set_option maxRecDepth 100000 in
/-- PaperObjectsLaw.cut(LPaperObjects;I)I -/
theorem zw_240 {X : Nat × (Nat → Int32)} {s : zq_S} {K : Int → zq_S → Prop} {x1 : Int} (hx1 : zq_iv x1) (w : zq_Ex X 127 0 [(.ref (0)), (zq_vi (x1))] [] s (zq_rx (zq_rv fun s_1 => K (0) s_1) (fun c1 s_1 => (if c1 = 12 then K (1) s_1 else False)))) : zq_Ex X 240 0 [(.ref (0)), (zq_vi (x1)), zz_no] [] s (zq_rp zq_iv K) := by
  refine zq_run 2 (pc' := 2) (L' := [(.ref (0)), (zq_vi (x1)), zz_no]) (st' := [(zq_vi (x1)), (.ref (0))]) (fun _ _ _ => rfl) ?_
  refine zq_callx (i := .invokevirtual 48) (r := [1, 127, 1, 1, 0]) rfl rfl (fun h hp => zr_avv rfl (hp.obj zq_a0)) (of_decide_eq_false rfl) w (fun o s_1 q => ?_) (fun c1 s_1 w => ?_)
  · obtain ⟨ho, w⟩ := q
    refine ⟨_, ho, ?_⟩
    show zq_Ex X 240 5 [(.ref (0)), (zq_vi (x1)), zz_no] [] s_1 (zq_rp zq_iv K)
    try dsimp only at w
    refine zq_run 2 (pc' := 12) (L' := [(.ref (0)), (zq_vi (x1)), zz_no]) (st' := [(zq_vi (0))]) (fun _ _ _ => rfl) ?_
    exact zq_iret rfl rfl rfl (⟨_, rfl, (of_decide_eq_true rfl), w⟩)
  · try dsimp only at w
    by_cases hb_4 : c1 = 12
    · rw [if_pos hb_4] at w
      subst hb_4
      refine ⟨8, rfl, ?_⟩
      refine zq_run 2 (pc' := 10) (L' := [(.ref (0)), (zq_vi (x1)), (.ref (259 + zq_n s_1))]) (st' := [(zq_vi (1))]) (fun _ _ _ => rfl) ?_
      exact zq_iret rfl rfl rfl (⟨_, rfl, (of_decide_eq_true rfl), w⟩)
    · rw [if_neg hb_4] at w
      exact w.elim
set_option maxRecDepth 100000 in
/-- PaperObjectsLaw.character(LPaperObjects;I[J)I -/
theorem zw_241 {X : Nat × (Nat → Int32)} {s : zq_S} {K : Int → zq_S → Prop} {x1 : Int} (hx1 : zq_iv x1) {a2 m2 : Nat} (ha2 : zq_k a2 = (2, 3, m2)) (w : zq_Ex X 128 0 [(.ref (0)), (zq_vi (x1))] [] s (zq_rx (zq_rp zq_iv fun x_2 s_1 => (((0 : Int) ≤ 0 ∧ 0 < ((m2 : Nat) : Int)) ∧ K (0) (zq_sl s_1 (a2) (0) ((Int32.ofInt (x_2)).toInt64)))) (fun c1 s_1 => (if c1 = 12 then K (1) s_1 else False)))) : zq_Ex X 241 0 [(.ref (0)), (zq_vi (x1)), (.ref (a2)), zz_no] [] s (zq_rp zq_iv K) := by
  refine zq_run 4 (pc' := 4) (L' := [(.ref (0)), (zq_vi (x1)), (.ref (a2)), zz_no]) (st' := [(zq_vi (x1)), (.ref (0)), (zq_vi (0)), (.ref (a2))]) (fun _ _ _ => rfl) ?_
  refine zq_callx (i := .invokevirtual 51) (r := [1, 128, 1, 1, 0]) rfl rfl (fun h hp => zr_avv rfl (hp.obj zq_a0)) (of_decide_eq_false rfl) w (fun o s_1 q => ?_) (fun c1 s_1 w => ?_)
  · obtain ⟨x_2, ho, hx_3, w⟩ := q
    refine ⟨_, ho, ?_⟩
    show zq_Ex X 241 7 [(.ref (0)), (zq_vi (x1)), (.ref (a2)), zz_no] [(zq_vi (x_2)), (zq_vi (0)), (.ref (a2))] s_1 (zq_rp zq_iv K)
    try dsimp only at w
    refine zq_run 1 (pc' := 8) (L' := [(.ref (0)), (zq_vi (x1)), (.ref (a2)), zz_no]) (st' := [(.long ((Int32.ofInt (x_2)).toInt64)), (zq_vi (0)), (.ref (a2))]) (fun _ _ _ => rfl) ?_
    obtain ⟨g_4, w⟩ := w
    refine zq_ast_l rfl ha2 g_4.1 g_4.2  ?_
    refine zq_run 2 (pc' := 16) (L' := [(.ref (0)), (zq_vi (x1)), (.ref (a2)), zz_no]) (st' := [(zq_vi (0))]) (fun _ _ _ => rfl) ?_
    exact zq_iret rfl rfl rfl (⟨_, rfl, (of_decide_eq_true rfl), w⟩)
  · try dsimp only at w
    by_cases hb_5 : c1 = 12
    · rw [if_pos hb_5] at w
      subst hb_5
      refine ⟨12, rfl, ?_⟩
      refine zq_run 2 (pc' := 14) (L' := [(.ref (0)), (zq_vi (x1)), (.ref (a2)), (.ref (259 + zq_n s_1))]) (st' := [(zq_vi (1))]) (fun _ _ _ => rfl) ?_
      exact zq_iret rfl rfl rfl (⟨_, rfl, (of_decide_eq_true rfl), w⟩)
    · rw [if_neg hb_5] at w
      exact w.elim
set_option maxRecDepth 100000 in
/-- PaperObjectsLaw.state(LPaperObjects;I[J)I -/
theorem zw_242 {X : Nat × (Nat → Int32)} {s : zq_S} {K : Int → zq_S → Prop} {x1 : Int} (hx1 : zq_iv x1) {a2 m2 : Nat} (ha2 : zq_k a2 = (2, 3, m2)) (w : zq_Ex X 129 0 [(.ref (0)), (zq_vi (x1)), zz_no] [] s (zq_rx (zq_rp zq_iv fun x_2 s_1 => (((0 : Int) ≤ 0 ∧ 0 < ((m2 : Nat) : Int)) ∧ K (0) (zq_sl s_1 (a2) (0) ((Int32.ofInt (x_2)).toInt64)))) (fun c1 s_1 => (if c1 = 12 then K (1) s_1 else False)))) : zq_Ex X 242 0 [(.ref (0)), (zq_vi (x1)), (.ref (a2)), zz_no] [] s (zq_rp zq_iv K) := by
  refine zq_run 4 (pc' := 4) (L' := [(.ref (0)), (zq_vi (x1)), (.ref (a2)), zz_no]) (st' := [(zq_vi (x1)), (.ref (0)), (zq_vi (0)), (.ref (a2))]) (fun _ _ _ => rfl) ?_
  refine zq_callx (i := .invokevirtual 55) (r := [1, 129, 1, 1, 0]) rfl rfl (fun h hp => zr_avv rfl (hp.obj zq_a0)) (of_decide_eq_false rfl) w (fun o s_1 q => ?_) (fun c1 s_1 w => ?_)
  · obtain ⟨x_2, ho, hx_3, w⟩ := q
    refine ⟨_, ho, ?_⟩
    show zq_Ex X 242 7 [(.ref (0)), (zq_vi (x1)), (.ref (a2)), zz_no] [(zq_vi (x_2)), (zq_vi (0)), (.ref (a2))] s_1 (zq_rp zq_iv K)
    try dsimp only at w
    refine zq_run 1 (pc' := 8) (L' := [(.ref (0)), (zq_vi (x1)), (.ref (a2)), zz_no]) (st' := [(.long ((Int32.ofInt (x_2)).toInt64)), (zq_vi (0)), (.ref (a2))]) (fun _ _ _ => rfl) ?_
    obtain ⟨g_4, w⟩ := w
    refine zq_ast_l rfl ha2 g_4.1 g_4.2  ?_
    refine zq_run 2 (pc' := 16) (L' := [(.ref (0)), (zq_vi (x1)), (.ref (a2)), zz_no]) (st' := [(zq_vi (0))]) (fun _ _ _ => rfl) ?_
    exact zq_iret rfl rfl rfl (⟨_, rfl, (of_decide_eq_true rfl), w⟩)
  · try dsimp only at w
    by_cases hb_5 : c1 = 12
    · rw [if_pos hb_5] at w
      subst hb_5
      refine ⟨12, rfl, ?_⟩
      refine zq_run 2 (pc' := 14) (L' := [(.ref (0)), (zq_vi (x1)), (.ref (a2)), (.ref (259 + zq_n s_1))]) (st' := [(zq_vi (1))]) (fun _ _ _ => rfl) ?_
      exact zq_iret rfl rfl rfl (⟨_, rfl, (of_decide_eq_true rfl), w⟩)
    · rw [if_neg hb_5] at w
      exact w.elim
set_option maxRecDepth 100000 in
/-- PaperObjectsLaw.go(LPaperObjects;I[J)I -/
theorem zw_243 {X : Nat × (Nat → Int32)} {s : zq_S} {K : Int → zq_S → Prop} {x1 : Int} (hx1 : zq_iv x1) {a2 m2 : Nat} (ha2 : zq_k a2 = (2, 3, m2)) (w : zq_Ex X 130 0 [(.ref (0)), (zq_vi (x1)), zz_no] [] s (zq_rx (zq_rp zq_iv fun x_2 s_1 => (((0 : Int) ≤ 0 ∧ 0 < ((m2 : Nat) : Int)) ∧ K (0) (zq_sl s_1 (a2) (0) ((Int32.ofInt (x_2)).toInt64)))) (fun c1 s_1 => (if c1 = 13 then K (1) s_1 else False)))) : zq_Ex X 243 0 [(.ref (0)), (zq_vi (x1)), (.ref (a2)), zz_no] [] s (zq_rp zq_iv K) := by
  refine zq_run 4 (pc' := 4) (L' := [(.ref (0)), (zq_vi (x1)), (.ref (a2)), zz_no]) (st' := [(zq_vi (x1)), (.ref (0)), (zq_vi (0)), (.ref (a2))]) (fun _ _ _ => rfl) ?_
  refine zq_callx (i := .invokevirtual 58) (r := [1, 130, 1, 1, 0]) rfl rfl (fun h hp => zr_avv rfl (hp.obj zq_a0)) (of_decide_eq_false rfl) w (fun o s_1 q => ?_) (fun c1 s_1 w => ?_)
  · obtain ⟨x_2, ho, hx_3, w⟩ := q
    refine ⟨_, ho, ?_⟩
    show zq_Ex X 243 7 [(.ref (0)), (zq_vi (x1)), (.ref (a2)), zz_no] [(zq_vi (x_2)), (zq_vi (0)), (.ref (a2))] s_1 (zq_rp zq_iv K)
    try dsimp only at w
    refine zq_run 1 (pc' := 8) (L' := [(.ref (0)), (zq_vi (x1)), (.ref (a2)), zz_no]) (st' := [(.long ((Int32.ofInt (x_2)).toInt64)), (zq_vi (0)), (.ref (a2))]) (fun _ _ _ => rfl) ?_
    obtain ⟨g_4, w⟩ := w
    refine zq_ast_l rfl ha2 g_4.1 g_4.2  ?_
    refine zq_run 2 (pc' := 16) (L' := [(.ref (0)), (zq_vi (x1)), (.ref (a2)), zz_no]) (st' := [(zq_vi (0))]) (fun _ _ _ => rfl) ?_
    exact zq_iret rfl rfl rfl (⟨_, rfl, (of_decide_eq_true rfl), w⟩)
  · try dsimp only at w
    by_cases hb_5 : c1 = 13
    · rw [if_pos hb_5] at w
      subst hb_5
      refine ⟨12, rfl, ?_⟩
      refine zq_run 2 (pc' := 14) (L' := [(.ref (0)), (zq_vi (x1)), (.ref (a2)), (.ref (259 + zq_n s_1))]) (st' := [(zq_vi (1))]) (fun _ _ _ => rfl) ?_
      exact zq_iret rfl rfl rfl (⟨_, rfl, (of_decide_eq_true rfl), w⟩)
    · rw [if_neg hb_5] at w
      exact w.elim
set_option maxRecDepth 100000 in
/-- PaperObjectsLaw.into(LPaperObjects;I[J)I -/
theorem zw_244 {X : Nat × (Nat → Int32)} {s : zq_S} {K : Int → zq_S → Prop} {x1 : Int} (hx1 : zq_iv x1) {a2 m2 : Nat} (ha2 : zq_k a2 = (2, 3, m2)) (w : zq_Ex X 131 0 [(.ref (0)), (zq_vi (x1)), zz_no, zz_no] [] s (zq_rx (zq_rp zq_iv fun x_2 s_1 => (((0 : Int) ≤ 0 ∧ 0 < ((m2 : Nat) : Int)) ∧ K (0) (zq_sl s_1 (a2) (0) ((Int32.ofInt (x_2)).toInt64)))) (fun c1 s_1 => (if c1 = 11 then K (1) s_1 else (if c1 = 12 then K (2) s_1 else False))))) : zq_Ex X 244 0 [(.ref (0)), (zq_vi (x1)), (.ref (a2)), zz_no] [] s (zq_rp zq_iv K) := by
  refine zq_run 4 (pc' := 4) (L' := [(.ref (0)), (zq_vi (x1)), (.ref (a2)), zz_no]) (st' := [(zq_vi (x1)), (.ref (0)), (zq_vi (0)), (.ref (a2))]) (fun _ _ _ => rfl) ?_
  refine zq_callx (i := .invokevirtual 61) (r := [1, 131, 1, 1, 0]) rfl rfl (fun h hp => zr_avv rfl (hp.obj zq_a0)) (of_decide_eq_false rfl) w (fun o s_1 q => ?_) (fun c1 s_1 w => ?_)
  · obtain ⟨x_2, ho, hx_3, w⟩ := q
    refine ⟨_, ho, ?_⟩
    show zq_Ex X 244 7 [(.ref (0)), (zq_vi (x1)), (.ref (a2)), zz_no] [(zq_vi (x_2)), (zq_vi (0)), (.ref (a2))] s_1 (zq_rp zq_iv K)
    try dsimp only at w
    refine zq_run 1 (pc' := 8) (L' := [(.ref (0)), (zq_vi (x1)), (.ref (a2)), zz_no]) (st' := [(.long ((Int32.ofInt (x_2)).toInt64)), (zq_vi (0)), (.ref (a2))]) (fun _ _ _ => rfl) ?_
    obtain ⟨g_4, w⟩ := w
    refine zq_ast_l rfl ha2 g_4.1 g_4.2  ?_
    refine zq_run 2 (pc' := 19) (L' := [(.ref (0)), (zq_vi (x1)), (.ref (a2)), zz_no]) (st' := [(zq_vi (0))]) (fun _ _ _ => rfl) ?_
    exact zq_iret rfl rfl rfl (⟨_, rfl, (of_decide_eq_true rfl), w⟩)
  · try dsimp only at w
    by_cases hb_5 : c1 = 11
    · rw [if_pos hb_5] at w
      subst hb_5
      refine ⟨12, rfl, ?_⟩
      refine zq_run 2 (pc' := 14) (L' := [(.ref (0)), (zq_vi (x1)), (.ref (a2)), (.ref (259 + zq_n s_1))]) (st' := [(zq_vi (1))]) (fun _ _ _ => rfl) ?_
      exact zq_iret rfl rfl rfl (⟨_, rfl, (of_decide_eq_true rfl), w⟩)
    · rw [if_neg hb_5] at w
      by_cases hb_6 : c1 = 12
      · rw [if_pos hb_6] at w
        subst hb_6
        refine ⟨15, rfl, ?_⟩
        refine zq_run 2 (pc' := 17) (L' := [(.ref (0)), (zq_vi (x1)), (.ref (a2)), (.ref (259 + zq_n s_1))]) (st' := [(zq_vi (2))]) (fun _ _ _ => rfl) ?_
        exact zq_iret rfl rfl rfl (⟨_, rfl, (of_decide_eq_true rfl), w⟩)
      · rw [if_neg hb_6] at w
        exact w.elim
set_option maxRecDepth 100000 in
/-- PaperObjectsLaw.follow(LPaperObjects;[J)I -/
theorem zw_245 {X : Nat × (Nat → Int32)} {s : zq_S} {K : Int → zq_S → Prop} {a1 m1 : Nat} (ha1 : zq_k a1 = (2, 3, m1)) (w : zq_Ex X 134 0 [(.ref (0))] [] s (zq_rx (zq_rp zq_iv fun x_2 s_1 => (((0 : Int) ≤ 0 ∧ 0 < ((m1 : Nat) : Int)) ∧ K (0) (zq_sl s_1 (a1) (0) ((Int32.ofInt (x_2)).toInt64)))) (fun c1 s_1 => (if c1 = 11 then K (1) s_1 else (if c1 = 14 then K (2) s_1 else False))))) : zq_Ex X 245 0 [(.ref (0)), (.ref (a1)), zz_no] [] s (zq_rp zq_iv K) := by
  refine zq_run 3 (pc' := 3) (L' := [(.ref (0)), (.ref (a1)), zz_no]) (st' := [(.ref (0)), (zq_vi (0)), (.ref (a1))]) (fun _ _ _ => rfl) ?_
  refine zq_callx (i := .invokevirtual 64) (r := [1, 134, 0, 1, 0]) rfl rfl (fun h hp => zr_avv rfl (hp.obj zq_a0)) (of_decide_eq_false rfl) w (fun o s_1 q => ?_) (fun c1 s_1 w => ?_)
  · obtain ⟨x_2, ho, hx_3, w⟩ := q
    refine ⟨_, ho, ?_⟩
    show zq_Ex X 245 6 [(.ref (0)), (.ref (a1)), zz_no] [(zq_vi (x_2)), (zq_vi (0)), (.ref (a1))] s_1 (zq_rp zq_iv K)
    try dsimp only at w
    refine zq_run 1 (pc' := 7) (L' := [(.ref (0)), (.ref (a1)), zz_no]) (st' := [(.long ((Int32.ofInt (x_2)).toInt64)), (zq_vi (0)), (.ref (a1))]) (fun _ _ _ => rfl) ?_
    obtain ⟨g_4, w⟩ := w
    refine zq_ast_l rfl ha1 g_4.1 g_4.2  ?_
    refine zq_run 2 (pc' := 18) (L' := [(.ref (0)), (.ref (a1)), zz_no]) (st' := [(zq_vi (0))]) (fun _ _ _ => rfl) ?_
    exact zq_iret rfl rfl rfl (⟨_, rfl, (of_decide_eq_true rfl), w⟩)
  · try dsimp only at w
    by_cases hb_5 : c1 = 11
    · rw [if_pos hb_5] at w
      subst hb_5
      refine ⟨11, rfl, ?_⟩
      refine zq_run 2 (pc' := 13) (L' := [(.ref (0)), (.ref (a1)), (.ref (259 + zq_n s_1))]) (st' := [(zq_vi (1))]) (fun _ _ _ => rfl) ?_
      exact zq_iret rfl rfl rfl (⟨_, rfl, (of_decide_eq_true rfl), w⟩)
    · rw [if_neg hb_5] at w
      by_cases hb_6 : c1 = 14
      · rw [if_pos hb_6] at w
        subst hb_6
        refine ⟨14, rfl, ?_⟩
        refine zq_run 2 (pc' := 16) (L' := [(.ref (0)), (.ref (a1)), (.ref (259 + zq_n s_1))]) (st' := [(zq_vi (2))]) (fun _ _ _ => rfl) ?_
        exact zq_iret rfl rfl rfl (⟨_, rfl, (of_decide_eq_true rfl), w⟩)
      · rw [if_neg hb_6] at w
        exact w.elim
set_option maxRecDepth 100000 in
/-- PaperObjectsLaw.value(LPaperObjects;I[J)I -/
theorem zw_246 {X : Nat × (Nat → Int32)} {s : zq_S} {K : Int → zq_S → Prop} {x1 : Int} (hx1 : zq_iv x1) {a2 m2 : Nat} (ha2 : zq_k a2 = (2, 3, m2)) (w : zq_Ex X 135 0 [(.ref (0)), (zq_vi (x1)), zz_no, zz_no] [] s (zq_rx (zq_rp zq_iv fun x_2 s_1 => (((0 : Int) ≤ 0 ∧ 0 < ((m2 : Nat) : Int)) ∧ K (0) (zq_sl s_1 (a2) (0) ((Int32.ofInt (x_2)).toInt64)))) (fun c1 s_1 => (if c1 = 11 then K (1) s_1 else (if c1 = 10 then K (2) s_1 else False))))) : zq_Ex X 246 0 [(.ref (0)), (zq_vi (x1)), (.ref (a2)), zz_no] [] s (zq_rp zq_iv K) := by
  refine zq_run 4 (pc' := 4) (L' := [(.ref (0)), (zq_vi (x1)), (.ref (a2)), zz_no]) (st' := [(zq_vi (x1)), (.ref (0)), (zq_vi (0)), (.ref (a2))]) (fun _ _ _ => rfl) ?_
  refine zq_callx (i := .invokevirtual 67) (r := [1, 135, 1, 1, 0]) rfl rfl (fun h hp => zr_avv rfl (hp.obj zq_a0)) (of_decide_eq_false rfl) w (fun o s_1 q => ?_) (fun c1 s_1 w => ?_)
  · obtain ⟨x_2, ho, hx_3, w⟩ := q
    refine ⟨_, ho, ?_⟩
    show zq_Ex X 246 7 [(.ref (0)), (zq_vi (x1)), (.ref (a2)), zz_no] [(zq_vi (x_2)), (zq_vi (0)), (.ref (a2))] s_1 (zq_rp zq_iv K)
    try dsimp only at w
    refine zq_run 1 (pc' := 8) (L' := [(.ref (0)), (zq_vi (x1)), (.ref (a2)), zz_no]) (st' := [(.long ((Int32.ofInt (x_2)).toInt64)), (zq_vi (0)), (.ref (a2))]) (fun _ _ _ => rfl) ?_
    obtain ⟨g_4, w⟩ := w
    refine zq_ast_l rfl ha2 g_4.1 g_4.2  ?_
    refine zq_run 2 (pc' := 19) (L' := [(.ref (0)), (zq_vi (x1)), (.ref (a2)), zz_no]) (st' := [(zq_vi (0))]) (fun _ _ _ => rfl) ?_
    exact zq_iret rfl rfl rfl (⟨_, rfl, (of_decide_eq_true rfl), w⟩)
  · try dsimp only at w
    by_cases hb_5 : c1 = 11
    · rw [if_pos hb_5] at w
      subst hb_5
      refine ⟨12, rfl, ?_⟩
      refine zq_run 2 (pc' := 14) (L' := [(.ref (0)), (zq_vi (x1)), (.ref (a2)), (.ref (259 + zq_n s_1))]) (st' := [(zq_vi (1))]) (fun _ _ _ => rfl) ?_
      exact zq_iret rfl rfl rfl (⟨_, rfl, (of_decide_eq_true rfl), w⟩)
    · rw [if_neg hb_5] at w
      by_cases hb_6 : c1 = 10
      · rw [if_pos hb_6] at w
        subst hb_6
        refine ⟨15, rfl, ?_⟩
        refine zq_run 2 (pc' := 17) (L' := [(.ref (0)), (zq_vi (x1)), (.ref (a2)), (.ref (259 + zq_n s_1))]) (st' := [(zq_vi (2))]) (fun _ _ _ => rfl) ?_
        exact zq_iret rfl rfl rfl (⟨_, rfl, (of_decide_eq_true rfl), w⟩)
      · rw [if_neg hb_6] at w
        exact w.elim
set_option maxRecDepth 100000 in
/-- PaperObjectsLaw.law at 23 -/
theorem zw_0_23 {X : Nat × (Nat → Int32)} (hX : X.1 < 10000) {s : zq_S} {K : Int → zq_S → Prop} {x4 : Int} (hx4 : zq_iv x4) {v5 : Value} (hv5 : v5.category = 1) {v6 : Value} (hv6 : v6.category = 1) (w : (zq_iv (((X.1 : Int)) - 3) ∧ (if x4 ≤ ((X.1 : Int)) - 3 then (((0 : Int) ≤ x4 ∧ x4 < (X.1 : Int)) ∧ (if zq_and ((X.2 (x4).toNat).toInt) (31) = 0 then zq_Ex X 0 132 [(.ref (zz_SC)), (.ref (0)), (.ref (232)), (.ref (259)), (zq_vi (x4)), v5, v6] [] s (zq_rp zq_bo K) else (if zq_and ((X.2 (x4).toNat).toInt) (31) = 1 then zq_Ex X 0 220 [(.ref (zz_SC)), (.ref (0)), (.ref (232)), (.ref (259)), (zq_vi (x4)), v5, v6] [] s (zq_rp zq_bo K) else (if zq_and ((X.2 (x4).toNat).toInt) (31) = 2 then zq_Ex X 0 256 [(.ref (zz_SC)), (.ref (0)), (.ref (232)), (.ref (259)), (zq_vi (x4)), v5, v6] [] s (zq_rp zq_bo K) else (if zq_and ((X.2 (x4).toNat).toInt) (31) = 3 then zq_Ex X 0 292 [(.ref (zz_SC)), (.ref (0)), (.ref (232)), (.ref (259)), (zq_vi (x4)), v5, v6] [] s (zq_rp zq_bo K) else (if zq_and ((X.2 (x4).toNat).toInt) (31) = 4 then zq_Ex X 0 328 [(.ref (zz_SC)), (.ref (0)), (.ref (232)), (.ref (259)), (zq_vi (x4)), v5, v6] [] s (zq_rp zq_bo K) else (if zq_and ((X.2 (x4).toNat).toInt) (31) = 5 then zq_Ex X 0 364 [(.ref (zz_SC)), (.ref (0)), (.ref (232)), (.ref (259)), (zq_vi (x4)), v5, v6] [] s (zq_rp zq_bo K) else (if zq_and ((X.2 (x4).toNat).toInt) (31) = 6 then zq_Ex X 0 436 [(.ref (zz_SC)), (.ref (0)), (.ref (232)), (.ref (259)), (zq_vi (x4)), v5, v6] [] s (zq_rp zq_bo K) else (if zq_and ((X.2 (x4).toNat).toInt) (31) = 7 then zq_Ex X 0 480 [(.ref (zz_SC)), (.ref (0)), (.ref (232)), (.ref (259)), (zq_vi (x4)), v5, v6] [] s (zq_rp zq_bo K) else (if zq_and ((X.2 (x4).toNat).toInt) (31) = 8 then zq_Ex X 0 493 [(.ref (zz_SC)), (.ref (0)), (.ref (232)), (.ref (259)), (zq_vi (x4)), v5, v6] [] s (zq_rp zq_bo K) else (if zq_and ((X.2 (x4).toNat).toInt) (31) = 9 then zq_Ex X 0 506 [(.ref (zz_SC)), (.ref (0)), (.ref (232)), (.ref (259)), (zq_vi (x4)), v5, v6] [] s (zq_rp zq_bo K) else (if zq_and ((X.2 (x4).toNat).toInt) (31) = 10 then zq_Ex X 0 556 [(.ref (zz_SC)), (.ref (0)), (.ref (232)), (.ref (259)), (zq_vi (x4)), v5, v6] [] s (zq_rp zq_bo K) else (if zq_and ((X.2 (x4).toNat).toInt) (31) = 11 then zq_Ex X 0 592 [(.ref (zz_SC)), (.ref (0)), (.ref (232)), (.ref (259)), (zq_vi (x4)), v5, v6] [] s (zq_rp zq_bo K) else (if zq_and ((X.2 (x4).toNat).toInt) (31) = 12 then zq_Ex X 0 605 [(.ref (zz_SC)), (.ref (0)), (.ref (232)), (.ref (259)), (zq_vi (x4)), v5, v6] [] s (zq_rp zq_bo K) else (if zq_and ((X.2 (x4).toNat).toInt) (31) = 13 then zq_Ex X 0 661 [(.ref (zz_SC)), (.ref (0)), (.ref (232)), (.ref (259)), (zq_vi (x4)), v5, v6] [] s (zq_rp zq_bo K) else (if zq_and ((X.2 (x4).toNat).toInt) (31) = 14 then zq_Ex X 0 717 [(.ref (zz_SC)), (.ref (0)), (.ref (232)), (.ref (259)), (zq_vi (x4)), v5, v6] [] s (zq_rp zq_bo K) else (if zq_and ((X.2 (x4).toNat).toInt) (31) = 15 then zq_Ex X 0 773 [(.ref (zz_SC)), (.ref (0)), (.ref (232)), (.ref (259)), (zq_vi (x4)), v5, v6] [] s (zq_rp zq_bo K) else (if zq_and ((X.2 (x4).toNat).toInt) (31) = 16 then zq_Ex X 0 829 [(.ref (zz_SC)), (.ref (0)), (.ref (232)), (.ref (259)), (zq_vi (x4)), v5, v6] [] s (zq_rp zq_bo K) else (if zq_and ((X.2 (x4).toNat).toInt) (31) = 17 then zq_Ex X 0 873 [(.ref (zz_SC)), (.ref (0)), (.ref (232)), (.ref (259)), (zq_vi (x4)), v5, v6] [] s (zq_rp zq_bo K) else (if zq_and ((X.2 (x4).toNat).toInt) (31) = 18 then zq_Ex X 0 929 [(.ref (zz_SC)), (.ref (0)), (.ref (232)), (.ref (259)), (zq_vi (x4)), v5, v6] [] s (zq_rp zq_bo K) else (if zq_and ((X.2 (x4).toNat).toInt) (31) = 19 then zq_Ex X 0 954 [(.ref (zz_SC)), (.ref (0)), (.ref (232)), (.ref (259)), (zq_vi (x4)), v5, v6] [] s (zq_rp zq_bo K) else zq_Ex X 0 967 [(.ref (zz_SC)), (.ref (0)), (.ref (232)), (.ref (259)), (zq_vi (x4)), v5, v6] [] s (zq_rp zq_bo K)))))))))))))))))))))) else K (1) s))) : zq_Ex X 0 23 [(.ref (zz_SC)), (.ref (0)), (.ref (232)), (.ref (259)), (zq_vi (x4)), v5, v6] [] s (zq_rp zq_bo K) := by
  refine zq_run 2 (pc' := 26) (L' := [(.ref (zz_SC)), (.ref (0)), (.ref (232)), (.ref (259)), (zq_vi (x4)), v5, v6]) (st' := [(.ref (zz_SC)), (zq_vi (x4))]) (fun _ _ _ => rfl) ?_
  refine zq_slen rfl ?_
  refine zq_run 1 (pc' := 28) (L' := [(.ref (zz_SC)), (.ref (0)), (.ref (232)), (.ref (259)), (zq_vi (x4)), v5, v6]) (st' := [(zq_vi (3)), (zq_vi ((X.1 : Int))), (zq_vi (x4))]) (fun _ _ _ => rfl) ?_
  refine zq_isub rfl ?_
  obtain ⟨g_1, w⟩ := w
  refine zq_gt rfl hx4 g_1 (fun hb_2 => ?_) (fun hb_2 => ?_)
  · rw [if_neg hb_2] at w
    refine zq_run 1 (pc' := 974) (L' := [(.ref (zz_SC)), (.ref (0)), (.ref (232)), (.ref (259)), (zq_vi (x4)), v5, v6]) (st' := [(zq_vi (1))]) (fun _ _ _ => rfl) ?_
    exact zq_iret rfl rfl (congrArg Value.int (zq_nb (of_decide_eq_true rfl))) (⟨_, rfl, (of_decide_eq_true rfl), w⟩)
  · rw [if_pos hb_2] at w
    refine zq_run 2 (pc' := 35) (L' := [(.ref (zz_SC)), (.ref (0)), (.ref (232)), (.ref (259)), (zq_vi (x4)), v5, v6]) (st' := [(zq_vi (x4)), (.ref (zz_SC))]) (fun _ _ _ => rfl) ?_
    obtain ⟨g_3, w⟩ := w
    refine zq_scr rfl hX g_3.1 g_3.2 ?_
    refine zq_run 1 (pc' := 38) (L' := [(.ref (zz_SC)), (.ref (0)), (.ref (232)), (.ref (259)), (zq_vi (x4)), v5, v6]) (st' := [(zq_vi (31)), (zq_vi ((X.2 (x4).toNat).toInt))]) (fun _ _ _ => rfl) ?_
    refine zq_iand rfl ?_
    by_cases hb_4 : zq_and ((X.2 (x4).toNat).toInt) (31) = 0
    · rw [if_pos hb_4] at w
      refine zq_tsw rfl (by rw [hb_4] <;> rfl) ?_
      exact w
    · rw [if_neg hb_4] at w
      by_cases hb_5 : zq_and ((X.2 (x4).toNat).toInt) (31) = 1
      · rw [if_pos hb_5] at w
        refine zq_tsw rfl (by rw [hb_5] <;> rfl) ?_
        exact w
      · rw [if_neg hb_5] at w
        by_cases hb_6 : zq_and ((X.2 (x4).toNat).toInt) (31) = 2
        · rw [if_pos hb_6] at w
          refine zq_tsw rfl (by rw [hb_6] <;> rfl) ?_
          exact w
        · rw [if_neg hb_6] at w
          by_cases hb_7 : zq_and ((X.2 (x4).toNat).toInt) (31) = 3
          · rw [if_pos hb_7] at w
            refine zq_tsw rfl (by rw [hb_7] <;> rfl) ?_
            exact w
          · rw [if_neg hb_7] at w
            by_cases hb_8 : zq_and ((X.2 (x4).toNat).toInt) (31) = 4
            · rw [if_pos hb_8] at w
              refine zq_tsw rfl (by rw [hb_8] <;> rfl) ?_
              exact w
            · rw [if_neg hb_8] at w
              by_cases hb_9 : zq_and ((X.2 (x4).toNat).toInt) (31) = 5
              · rw [if_pos hb_9] at w
                refine zq_tsw rfl (by rw [hb_9] <;> rfl) ?_
                exact w
              · rw [if_neg hb_9] at w
                by_cases hb_10 : zq_and ((X.2 (x4).toNat).toInt) (31) = 6
                · rw [if_pos hb_10] at w
                  refine zq_tsw rfl (by rw [hb_10] <;> rfl) ?_
                  exact w
                · rw [if_neg hb_10] at w
                  by_cases hb_11 : zq_and ((X.2 (x4).toNat).toInt) (31) = 7
                  · rw [if_pos hb_11] at w
                    refine zq_tsw rfl (by rw [hb_11] <;> rfl) ?_
                    exact w
                  · rw [if_neg hb_11] at w
                    by_cases hb_12 : zq_and ((X.2 (x4).toNat).toInt) (31) = 8
                    · rw [if_pos hb_12] at w
                      refine zq_tsw rfl (by rw [hb_12] <;> rfl) ?_
                      exact w
                    · rw [if_neg hb_12] at w
                      by_cases hb_13 : zq_and ((X.2 (x4).toNat).toInt) (31) = 9
                      · rw [if_pos hb_13] at w
                        refine zq_tsw rfl (by rw [hb_13] <;> rfl) ?_
                        exact w
                      · rw [if_neg hb_13] at w
                        by_cases hb_14 : zq_and ((X.2 (x4).toNat).toInt) (31) = 10
                        · rw [if_pos hb_14] at w
                          refine zq_tsw rfl (by rw [hb_14] <;> rfl) ?_
                          exact w
                        · rw [if_neg hb_14] at w
                          by_cases hb_15 : zq_and ((X.2 (x4).toNat).toInt) (31) = 11
                          · rw [if_pos hb_15] at w
                            refine zq_tsw rfl (by rw [hb_15] <;> rfl) ?_
                            exact w
                          · rw [if_neg hb_15] at w
                            by_cases hb_16 : zq_and ((X.2 (x4).toNat).toInt) (31) = 12
                            · rw [if_pos hb_16] at w
                              refine zq_tsw rfl (by rw [hb_16] <;> rfl) ?_
                              exact w
                            · rw [if_neg hb_16] at w
                              by_cases hb_17 : zq_and ((X.2 (x4).toNat).toInt) (31) = 13
                              · rw [if_pos hb_17] at w
                                refine zq_tsw rfl (by rw [hb_17] <;> rfl) ?_
                                exact w
                              · rw [if_neg hb_17] at w
                                by_cases hb_18 : zq_and ((X.2 (x4).toNat).toInt) (31) = 14
                                · rw [if_pos hb_18] at w
                                  refine zq_tsw rfl (by rw [hb_18] <;> rfl) ?_
                                  exact w
                                · rw [if_neg hb_18] at w
                                  by_cases hb_19 : zq_and ((X.2 (x4).toNat).toInt) (31) = 15
                                  · rw [if_pos hb_19] at w
                                    refine zq_tsw rfl (by rw [hb_19] <;> rfl) ?_
                                    exact w
                                  · rw [if_neg hb_19] at w
                                    by_cases hb_20 : zq_and ((X.2 (x4).toNat).toInt) (31) = 16
                                    · rw [if_pos hb_20] at w
                                      refine zq_tsw rfl (by rw [hb_20] <;> rfl) ?_
                                      exact w
                                    · rw [if_neg hb_20] at w
                                      by_cases hb_21 : zq_and ((X.2 (x4).toNat).toInt) (31) = 17
                                      · rw [if_pos hb_21] at w
                                        refine zq_tsw rfl (by rw [hb_21] <;> rfl) ?_
                                        exact w
                                      · rw [if_neg hb_21] at w
                                        by_cases hb_22 : zq_and ((X.2 (x4).toNat).toInt) (31) = 18
                                        · rw [if_pos hb_22] at w
                                          refine zq_tsw rfl (by rw [hb_22] <;> rfl) ?_
                                          exact w
                                        · rw [if_neg hb_22] at w
                                          by_cases hb_23 : zq_and ((X.2 (x4).toNat).toInt) (31) = 19
                                          · rw [if_pos hb_23] at w
                                            refine zq_tsw rfl (by rw [hb_23] <;> rfl) ?_
                                            exact w
                                          · rw [if_neg hb_23] at w
                                            refine zq_tsw rfl (zq_tabd (zq_in32 _) (by omega)) ?_
                                            exact w
set_option maxRecDepth 100000 in
/-- PaperObjectsLaw.law at 132 -/
theorem zw_0_132 {X : Nat × (Nat → Int32)} (hX : X.1 < 10000) {s : zq_S} {K : Int → zq_S → Prop} {x4 : Int} (hx4 : zq_iv x4) {v5 : Value} (hv5 : v5.category = 1) {v6 : Value} (hv6 : v6.category = 1) (w : (((0 : Int) ≤ x4 + 1 ∧ x4 + 1 < (X.1 : Int)) ∧ (((0 : Int) ≤ x4 + 2 ∧ x4 + 2 < (X.1 : Int)) ∧ (zq_Ex X 232 0 [(.ref (0)), (.long ((((Int32.ofInt ((X.2 (x4 + 1).toNat).toInt)).toInt64) <<< ((Int32.ofInt (32)).toInt64 &&& 63)) ||| (((Int32.ofInt ((X.2 (x4 + 2).toNat).toInt)).toInt64) &&& (4294967295)))), zz_no, (.ref (259)), zz_no] [] s (zq_rp zq_iv fun x_4 s_3 => (((0 : Int) ≤ x4 + 1 ∧ x4 + 1 < (X.1 : Int)) ∧ (((0 : Int) ≤ x4 + 2 ∧ x4 + 2 < (X.1 : Int)) ∧ (zq_Ex X 142 0 [(.ref (232)), (.long ((((Int32.ofInt ((X.2 (x4 + 1).toNat).toInt)).toInt64) <<< ((Int32.ofInt (32)).toInt64 &&& 63)) ||| (((Int32.ofInt ((X.2 (x4 + 2).toNat).toInt)).toInt64) &&& (4294967295)))), zz_no, zz_no, zz_no, zz_no] [] s_3 (zq_rp zq_iv fun x_9 s_8 => (zq_Ex X 141 0 [(.ref (232))] [] s_8 (zq_rp zq_iv fun x_12 s_11 => (if x_12 = x_4 then (if x_4 = 0 then (if (zq_l s_11 (259) (0)) = ((Int32.ofInt (x_9)).toInt64) then zq_Ex X 0 967 [(.ref (zz_SC)), (.ref (0)), (.ref (232)), (.ref (259)), (zq_vi (x4)), (zq_vi (x_4)), (zq_vi (x_9))] [] s_11 (zq_rp zq_bo K) else K (0) s_11) else zq_Ex X 0 967 [(.ref (zz_SC)), (.ref (0)), (.ref (232)), (.ref (259)), (zq_vi (x4)), (zq_vi (x_4)), (zq_vi (x_9))] [] s_11 (zq_rp zq_bo K)) else K (0) s_11)))))))))))) : zq_Ex X 0 132 [(.ref (zz_SC)), (.ref (0)), (.ref (232)), (.ref (259)), (zq_vi (x4)), v5, v6] [] s (zq_rp zq_bo K) := by
  refine zq_run 4 (pc' := 137) (L' := [(.ref (zz_SC)), (.ref (0)), (.ref (232)), (.ref (259)), (zq_vi (x4)), v5, v6]) (st' := [(zq_vi (1)), (zq_vi (x4)), (.ref (zz_SC)), (.ref (0))]) (fun _ _ _ => rfl) ?_
  refine zq_iadd rfl ?_
  obtain ⟨g_1, w⟩ := w
  refine zq_scr rfl hX g_1.1 g_1.2 ?_
  refine zq_run 6 (pc' := 147) (L' := [(.ref (zz_SC)), (.ref (0)), (.ref (232)), (.ref (259)), (zq_vi (x4)), v5, v6]) (st' := [(zq_vi (2)), (zq_vi (x4)), (.ref (zz_SC)), (.long (((Int32.ofInt ((X.2 (x4 + 1).toNat).toInt)).toInt64) <<< ((Int32.ofInt (32)).toInt64 &&& 63))), (.ref (0))]) (fun _ _ _ => rfl) ?_
  refine zq_iadd rfl ?_
  obtain ⟨g_2, w⟩ := w
  refine zq_scr rfl hX g_2.1 g_2.2 ?_
  refine zq_run 5 (pc' := 156) (L' := [(.ref (zz_SC)), (.ref (0)), (.ref (232)), (.ref (259)), (zq_vi (x4)), v5, v6]) (st' := [(.ref (259)), (.long ((((Int32.ofInt ((X.2 (x4 + 1).toNat).toInt)).toInt64) <<< ((Int32.ofInt (32)).toInt64 &&& 63)) ||| (((Int32.ofInt ((X.2 (x4 + 2).toNat).toInt)).toInt64) &&& (4294967295)))), (.ref (0))]) (fun _ _ _ => rfl) ?_
  refine zq_call_i (i := .invokestatic 76) (r := [1, 232, 3, 0, 0]) rfl rfl (fun _ _ => rfl) (of_decide_eq_false rfl) w (fun x_4 s_3 hx_5 w => ?_)
  refine zq_run 5 (pc' := 166) (L' := [(.ref (zz_SC)), (.ref (0)), (.ref (232)), (.ref (259)), (zq_vi (x4)), (zq_vi (x_4)), v6]) (st' := [(zq_vi (1)), (zq_vi (x4)), (.ref (zz_SC)), (.ref (232))]) (fun _ _ _ => rfl) ?_
  refine zq_iadd rfl ?_
  obtain ⟨g_6, w⟩ := w
  refine zq_scr rfl hX g_6.1 g_6.2 ?_
  refine zq_run 6 (pc' := 176) (L' := [(.ref (zz_SC)), (.ref (0)), (.ref (232)), (.ref (259)), (zq_vi (x4)), (zq_vi (x_4)), v6]) (st' := [(zq_vi (2)), (zq_vi (x4)), (.ref (zz_SC)), (.long (((Int32.ofInt ((X.2 (x4 + 1).toNat).toInt)).toInt64) <<< ((Int32.ofInt (32)).toInt64 &&& 63))), (.ref (232))]) (fun _ _ _ => rfl) ?_
  refine zq_iadd rfl ?_
  obtain ⟨g_7, w⟩ := w
  refine zq_scr rfl hX g_7.1 g_7.2 ?_
  refine zq_run 4 (pc' := 184) (L' := [(.ref (zz_SC)), (.ref (0)), (.ref (232)), (.ref (259)), (zq_vi (x4)), (zq_vi (x_4)), v6]) (st' := [(.long ((((Int32.ofInt ((X.2 (x4 + 1).toNat).toInt)).toInt64) <<< ((Int32.ofInt (32)).toInt64 &&& 63)) ||| (((Int32.ofInt ((X.2 (x4 + 2).toNat).toInt)).toInt64) &&& (4294967295)))), (.ref (232))]) (fun _ _ _ => rfl) ?_
  refine zq_call_i (i := .invokevirtual 81) (r := [1, 142, 1, 1, 9]) rfl rfl (fun h hp => zr_avv rfl (hp.obj zq_a232)) (of_decide_eq_false rfl) w (fun x_9 s_8 hx_10 w => ?_)
  refine zq_run 2 (pc' := 190) (L' := [(.ref (zz_SC)), (.ref (0)), (.ref (232)), (.ref (259)), (zq_vi (x4)), (zq_vi (x_4)), (zq_vi (x_9))]) (st' := [(.ref (232))]) (fun _ _ _ => rfl) ?_
  refine zq_call_i (i := .invokevirtual 82) (r := [1, 141, 0, 1, 9]) rfl rfl (fun h hp => zr_avv rfl (hp.obj zq_a232)) (of_decide_eq_false rfl) w (fun x_12 s_11 hx_13 w => ?_)
  refine zq_run 1 (pc' := 195) (L' := [(.ref (zz_SC)), (.ref (0)), (.ref (232)), (.ref (259)), (zq_vi (x4)), (zq_vi (x_4)), (zq_vi (x_9))]) (st' := [(zq_vi (x_4)), (zq_vi (x_12))]) (fun _ _ _ => rfl) ?_
  refine zq_eq rfl hx_13 hx_5 (fun hb_14 => ?_) (fun hb_14 => ?_)
  · rw [if_pos hb_14] at w
    refine zq_run 1 (pc' := 202) (L' := [(.ref (zz_SC)), (.ref (0)), (.ref (232)), (.ref (259)), (zq_vi (x4)), (zq_vi (x_4)), (zq_vi (x_9))]) (st' := [(zq_vi (x_4))]) (fun _ _ _ => rfl) ?_
    refine zq_ne0 rfl hx_5 (fun hb_15 => ?_) (fun hb_15 => ?_)
    · rw [if_neg hb_15] at w
      refine zq_run 1 (pc' := 967) (L' := [(.ref (zz_SC)), (.ref (0)), (.ref (232)), (.ref (259)), (zq_vi (x4)), (zq_vi (x_4)), (zq_vi (x_9))]) (st' := []) (fun _ _ _ => rfl) ?_
      exact w
    · rw [if_pos hb_15] at w
      refine zq_run 2 (pc' := 207) (L' := [(.ref (zz_SC)), (.ref (0)), (.ref (232)), (.ref (259)), (zq_vi (x4)), (zq_vi (x_4)), (zq_vi (x_9))]) (st' := [(zq_vi (0)), (.ref (259))]) (fun _ _ _ => rfl) ?_
      refine zq_ald_l (v := zq_l s_11 (259) (0)) rfl zq_a259 (of_decide_eq_true rfl) (of_decide_eq_true rfl) rfl ?_
      refine zq_run 2 (pc' := 211) (L' := [(.ref (zz_SC)), (.ref (0)), (.ref (232)), (.ref (259)), (zq_vi (x4)), (zq_vi (x_4)), (zq_vi (x_9))]) (st' := [(.long ((Int32.ofInt (x_9)).toInt64)), (.long (zq_l s_11 (259) (0)))]) (fun _ _ _ => rfl) ?_
      refine zq_lceq rfl rfl (fun hb_16 => ?_) (fun hb_16 => ?_)
      · rw [if_pos hb_16] at w
        refine zq_run 1 (pc' := 967) (L' := [(.ref (zz_SC)), (.ref (0)), (.ref (232)), (.ref (259)), (zq_vi (x4)), (zq_vi (x_4)), (zq_vi (x_9))]) (st' := []) (fun _ _ _ => rfl) ?_
        exact w
      · rw [if_neg hb_16] at w
        refine zq_run 1 (pc' := 216) (L' := [(.ref (zz_SC)), (.ref (0)), (.ref (232)), (.ref (259)), (zq_vi (x4)), (zq_vi (x_4)), (zq_vi (x_9))]) (st' := [(zq_vi (0))]) (fun _ _ _ => rfl) ?_
        exact zq_iret rfl rfl (congrArg Value.int (zq_nb (of_decide_eq_true rfl))) (⟨_, rfl, (of_decide_eq_true rfl), w⟩)
  · rw [if_neg hb_14] at w
    refine zq_run 1 (pc' := 199) (L' := [(.ref (zz_SC)), (.ref (0)), (.ref (232)), (.ref (259)), (zq_vi (x4)), (zq_vi (x_4)), (zq_vi (x_9))]) (st' := [(zq_vi (0))]) (fun _ _ _ => rfl) ?_
    exact zq_iret rfl rfl (congrArg Value.int (zq_nb (of_decide_eq_true rfl))) (⟨_, rfl, (of_decide_eq_true rfl), w⟩)
set_option maxRecDepth 100000 in
/-- PaperObjectsLaw.law at 220 -/
theorem zw_0_220 {X : Nat × (Nat → Int32)} (hX : X.1 < 10000) {s : zq_S} {K : Int → zq_S → Prop} {x4 : Int} (hx4 : zq_iv x4) {v5 : Value} (hv5 : v5.category = 1) {v6 : Value} (hv6 : v6.category = 1) (w : (((0 : Int) ≤ x4 + 1 ∧ x4 + 1 < (X.1 : Int)) ∧ (zq_Ex X 233 0 [(.ref (0)), (zq_vi ((X.2 (x4 + 1).toNat).toInt)), zz_no] [] s (zq_rp zq_iv fun x_3 s_2 => (((0 : Int) ≤ x4 + 1 ∧ x4 + 1 < (X.1 : Int)) ∧ (zq_Ex X 144 0 [(.ref (232)), (zq_vi ((X.2 (x4 + 1).toNat).toInt)), zz_no, zz_no] [] s_2 (zq_rv fun s_6 => (zq_Ex X 141 0 [(.ref (232))] [] s_6 (zq_rp zq_iv fun x_8 s_7 => (if x_8 = x_3 then zq_Ex X 0 967 [(.ref (zz_SC)), (.ref (0)), (.ref (232)), (.ref (259)), (zq_vi (x4)), (zq_vi (x_3)), v6] [] s_7 (zq_rp zq_bo K) else K (0) s_7)))))))))) : zq_Ex X 0 220 [(.ref (zz_SC)), (.ref (0)), (.ref (232)), (.ref (259)), (zq_vi (x4)), v5, v6] [] s (zq_rp zq_bo K) := by
  refine zq_run 4 (pc' := 225) (L' := [(.ref (zz_SC)), (.ref (0)), (.ref (232)), (.ref (259)), (zq_vi (x4)), v5, v6]) (st' := [(zq_vi (1)), (zq_vi (x4)), (.ref (zz_SC)), (.ref (0))]) (fun _ _ _ => rfl) ?_
  refine zq_iadd rfl ?_
  obtain ⟨g_1, w⟩ := w
  refine zq_scr rfl hX g_1.1 g_1.2 ?_
  refine zq_call_i (i := .invokestatic 85) (r := [1, 233, 2, 0, 0]) rfl rfl (fun _ _ => rfl) (of_decide_eq_false rfl) w (fun x_3 s_2 hx_4 w => ?_)
  refine zq_run 5 (pc' := 237) (L' := [(.ref (zz_SC)), (.ref (0)), (.ref (232)), (.ref (259)), (zq_vi (x4)), (zq_vi (x_3)), v6]) (st' := [(zq_vi (1)), (zq_vi (x4)), (.ref (zz_SC)), (.ref (232))]) (fun _ _ _ => rfl) ?_
  refine zq_iadd rfl ?_
  obtain ⟨g_5, w⟩ := w
  refine zq_scr rfl hX g_5.1 g_5.2 ?_
  refine zq_call_v (i := .invokevirtual 88) (r := [1, 144, 1, 1, 9]) rfl rfl (fun h hp => zr_avv rfl (hp.obj zq_a232)) (of_decide_eq_false rfl) w (fun s_6 w => ?_)
  refine zq_run 1 (pc' := 243) (L' := [(.ref (zz_SC)), (.ref (0)), (.ref (232)), (.ref (259)), (zq_vi (x4)), (zq_vi (x_3)), v6]) (st' := [(.ref (232))]) (fun _ _ _ => rfl) ?_
  refine zq_call_i (i := .invokevirtual 82) (r := [1, 141, 0, 1, 9]) rfl rfl (fun h hp => zr_avv rfl (hp.obj zq_a232)) (of_decide_eq_false rfl) w (fun x_8 s_7 hx_9 w => ?_)
  refine zq_run 1 (pc' := 248) (L' := [(.ref (zz_SC)), (.ref (0)), (.ref (232)), (.ref (259)), (zq_vi (x4)), (zq_vi (x_3)), v6]) (st' := [(zq_vi (x_3)), (zq_vi (x_8))]) (fun _ _ _ => rfl) ?_
  refine zq_eq rfl hx_9 hx_4 (fun hb_10 => ?_) (fun hb_10 => ?_)
  · rw [if_pos hb_10] at w
    refine zq_run 1 (pc' := 967) (L' := [(.ref (zz_SC)), (.ref (0)), (.ref (232)), (.ref (259)), (zq_vi (x4)), (zq_vi (x_3)), v6]) (st' := []) (fun _ _ _ => rfl) ?_
    exact w
  · rw [if_neg hb_10] at w
    refine zq_run 1 (pc' := 252) (L' := [(.ref (zz_SC)), (.ref (0)), (.ref (232)), (.ref (259)), (zq_vi (x4)), (zq_vi (x_3)), v6]) (st' := [(zq_vi (0))]) (fun _ _ _ => rfl) ?_
    exact zq_iret rfl rfl (congrArg Value.int (zq_nb (of_decide_eq_true rfl))) (⟨_, rfl, (of_decide_eq_true rfl), w⟩)
set_option maxRecDepth 100000 in
/-- PaperObjectsLaw.law at 256 -/
theorem zw_0_256 {X : Nat × (Nat → Int32)} (hX : X.1 < 10000) {s : zq_S} {K : Int → zq_S → Prop} {x4 : Int} (hx4 : zq_iv x4) {v5 : Value} (hv5 : v5.category = 1) {v6 : Value} (hv6 : v6.category = 1) (w : (((0 : Int) ≤ x4 + 1 ∧ x4 + 1 < (X.1 : Int)) ∧ (zq_Ex X 234 0 [(.ref (0)), (zq_vi ((X.2 (x4 + 1).toNat).toInt)), zz_no] [] s (zq_rp zq_iv fun x_3 s_2 => (((0 : Int) ≤ x4 + 1 ∧ x4 + 1 < (X.1 : Int)) ∧ (zq_Ex X 172 0 [(.ref (232)), (zq_vi ((X.2 (x4 + 1).toNat).toInt)), zz_no, zz_no] [] s_2 (zq_rv fun s_6 => (zq_Ex X 141 0 [(.ref (232))] [] s_6 (zq_rp zq_iv fun x_8 s_7 => (if x_8 = x_3 then zq_Ex X 0 967 [(.ref (zz_SC)), (.ref (0)), (.ref (232)), (.ref (259)), (zq_vi (x4)), (zq_vi (x_3)), v6] [] s_7 (zq_rp zq_bo K) else K (0) s_7)))))))))) : zq_Ex X 0 256 [(.ref (zz_SC)), (.ref (0)), (.ref (232)), (.ref (259)), (zq_vi (x4)), v5, v6] [] s (zq_rp zq_bo K) := by
  refine zq_run 4 (pc' := 261) (L' := [(.ref (zz_SC)), (.ref (0)), (.ref (232)), (.ref (259)), (zq_vi (x4)), v5, v6]) (st' := [(zq_vi (1)), (zq_vi (x4)), (.ref (zz_SC)), (.ref (0))]) (fun _ _ _ => rfl) ?_
  refine zq_iadd rfl ?_
  obtain ⟨g_1, w⟩ := w
  refine zq_scr rfl hX g_1.1 g_1.2 ?_
  refine zq_call_i (i := .invokestatic 89) (r := [1, 234, 2, 0, 0]) rfl rfl (fun _ _ => rfl) (of_decide_eq_false rfl) w (fun x_3 s_2 hx_4 w => ?_)
  refine zq_run 5 (pc' := 273) (L' := [(.ref (zz_SC)), (.ref (0)), (.ref (232)), (.ref (259)), (zq_vi (x4)), (zq_vi (x_3)), v6]) (st' := [(zq_vi (1)), (zq_vi (x4)), (.ref (zz_SC)), (.ref (232))]) (fun _ _ _ => rfl) ?_
  refine zq_iadd rfl ?_
  obtain ⟨g_5, w⟩ := w
  refine zq_scr rfl hX g_5.1 g_5.2 ?_
  refine zq_call_v (i := .invokevirtual 91) (r := [1, 172, 1, 1, 9]) rfl rfl (fun h hp => zr_avv rfl (hp.obj zq_a232)) (of_decide_eq_false rfl) w (fun s_6 w => ?_)
  refine zq_run 1 (pc' := 279) (L' := [(.ref (zz_SC)), (.ref (0)), (.ref (232)), (.ref (259)), (zq_vi (x4)), (zq_vi (x_3)), v6]) (st' := [(.ref (232))]) (fun _ _ _ => rfl) ?_
  refine zq_call_i (i := .invokevirtual 82) (r := [1, 141, 0, 1, 9]) rfl rfl (fun h hp => zr_avv rfl (hp.obj zq_a232)) (of_decide_eq_false rfl) w (fun x_8 s_7 hx_9 w => ?_)
  refine zq_run 1 (pc' := 284) (L' := [(.ref (zz_SC)), (.ref (0)), (.ref (232)), (.ref (259)), (zq_vi (x4)), (zq_vi (x_3)), v6]) (st' := [(zq_vi (x_3)), (zq_vi (x_8))]) (fun _ _ _ => rfl) ?_
  refine zq_eq rfl hx_9 hx_4 (fun hb_10 => ?_) (fun hb_10 => ?_)
  · rw [if_pos hb_10] at w
    refine zq_run 1 (pc' := 967) (L' := [(.ref (zz_SC)), (.ref (0)), (.ref (232)), (.ref (259)), (zq_vi (x4)), (zq_vi (x_3)), v6]) (st' := []) (fun _ _ _ => rfl) ?_
    exact w
  · rw [if_neg hb_10] at w
    refine zq_run 1 (pc' := 288) (L' := [(.ref (zz_SC)), (.ref (0)), (.ref (232)), (.ref (259)), (zq_vi (x4)), (zq_vi (x_3)), v6]) (st' := [(zq_vi (0))]) (fun _ _ _ => rfl) ?_
    exact zq_iret rfl rfl (congrArg Value.int (zq_nb (of_decide_eq_true rfl))) (⟨_, rfl, (of_decide_eq_true rfl), w⟩)
set_option maxRecDepth 100000 in
/-- PaperObjectsLaw.law at 292 -/
theorem zw_0_292 {X : Nat × (Nat → Int32)} (hX : X.1 < 10000) {s : zq_S} {K : Int → zq_S → Prop} {x4 : Int} (hx4 : zq_iv x4) {v5 : Value} (hv5 : v5.category = 1) {v6 : Value} (hv6 : v6.category = 1) (w : (((0 : Int) ≤ x4 + 1 ∧ x4 + 1 < (X.1 : Int)) ∧ (zq_Ex X 235 0 [(.ref (0)), (zq_vi ((X.2 (x4 + 1).toNat).toInt)), zz_no] [] s (zq_rp zq_iv fun x_3 s_2 => (((0 : Int) ≤ x4 + 1 ∧ x4 + 1 < (X.1 : Int)) ∧ (zq_Ex X 182 0 [(.ref (232)), (zq_vi ((X.2 (x4 + 1).toNat).toInt))] [] s_2 (zq_rv fun s_6 => (zq_Ex X 141 0 [(.ref (232))] [] s_6 (zq_rp zq_iv fun x_8 s_7 => (if x_8 = x_3 then zq_Ex X 0 967 [(.ref (zz_SC)), (.ref (0)), (.ref (232)), (.ref (259)), (zq_vi (x4)), (zq_vi (x_3)), v6] [] s_7 (zq_rp zq_bo K) else K (0) s_7)))))))))) : zq_Ex X 0 292 [(.ref (zz_SC)), (.ref (0)), (.ref (232)), (.ref (259)), (zq_vi (x4)), v5, v6] [] s (zq_rp zq_bo K) := by
  refine zq_run 4 (pc' := 297) (L' := [(.ref (zz_SC)), (.ref (0)), (.ref (232)), (.ref (259)), (zq_vi (x4)), v5, v6]) (st' := [(zq_vi (1)), (zq_vi (x4)), (.ref (zz_SC)), (.ref (0))]) (fun _ _ _ => rfl) ?_
  refine zq_iadd rfl ?_
  obtain ⟨g_1, w⟩ := w
  refine zq_scr rfl hX g_1.1 g_1.2 ?_
  refine zq_call_i (i := .invokestatic 92) (r := [1, 235, 2, 0, 0]) rfl rfl (fun _ _ => rfl) (of_decide_eq_false rfl) w (fun x_3 s_2 hx_4 w => ?_)
  refine zq_run 5 (pc' := 309) (L' := [(.ref (zz_SC)), (.ref (0)), (.ref (232)), (.ref (259)), (zq_vi (x4)), (zq_vi (x_3)), v6]) (st' := [(zq_vi (1)), (zq_vi (x4)), (.ref (zz_SC)), (.ref (232))]) (fun _ _ _ => rfl) ?_
  refine zq_iadd rfl ?_
  obtain ⟨g_5, w⟩ := w
  refine zq_scr rfl hX g_5.1 g_5.2 ?_
  refine zq_call_v (i := .invokevirtual 94) (r := [1, 182, 1, 1, 9]) rfl rfl (fun h hp => zr_avv rfl (hp.obj zq_a232)) (of_decide_eq_false rfl) w (fun s_6 w => ?_)
  refine zq_run 1 (pc' := 315) (L' := [(.ref (zz_SC)), (.ref (0)), (.ref (232)), (.ref (259)), (zq_vi (x4)), (zq_vi (x_3)), v6]) (st' := [(.ref (232))]) (fun _ _ _ => rfl) ?_
  refine zq_call_i (i := .invokevirtual 82) (r := [1, 141, 0, 1, 9]) rfl rfl (fun h hp => zr_avv rfl (hp.obj zq_a232)) (of_decide_eq_false rfl) w (fun x_8 s_7 hx_9 w => ?_)
  refine zq_run 1 (pc' := 320) (L' := [(.ref (zz_SC)), (.ref (0)), (.ref (232)), (.ref (259)), (zq_vi (x4)), (zq_vi (x_3)), v6]) (st' := [(zq_vi (x_3)), (zq_vi (x_8))]) (fun _ _ _ => rfl) ?_
  refine zq_eq rfl hx_9 hx_4 (fun hb_10 => ?_) (fun hb_10 => ?_)
  · rw [if_pos hb_10] at w
    refine zq_run 1 (pc' := 967) (L' := [(.ref (zz_SC)), (.ref (0)), (.ref (232)), (.ref (259)), (zq_vi (x4)), (zq_vi (x_3)), v6]) (st' := []) (fun _ _ _ => rfl) ?_
    exact w
  · rw [if_neg hb_10] at w
    refine zq_run 1 (pc' := 324) (L' := [(.ref (zz_SC)), (.ref (0)), (.ref (232)), (.ref (259)), (zq_vi (x4)), (zq_vi (x_3)), v6]) (st' := [(zq_vi (0))]) (fun _ _ _ => rfl) ?_
    exact zq_iret rfl rfl (congrArg Value.int (zq_nb (of_decide_eq_true rfl))) (⟨_, rfl, (of_decide_eq_true rfl), w⟩)
set_option maxRecDepth 100000 in
/-- PaperObjectsLaw.law at 328 -/
theorem zw_0_328 {X : Nat × (Nat → Int32)} (hX : X.1 < 10000) {s : zq_S} {K : Int → zq_S → Prop} {x4 : Int} (hx4 : zq_iv x4) {v5 : Value} (hv5 : v5.category = 1) {v6 : Value} (hv6 : v6.category = 1) (w : (((0 : Int) ≤ x4 + 1 ∧ x4 + 1 < (X.1 : Int)) ∧ (zq_Ex X 236 0 [(.ref (0)), (zq_vi ((X.2 (x4 + 1).toNat).toInt)), zz_no] [] s (zq_rp zq_iv fun x_3 s_2 => (((0 : Int) ≤ x4 + 1 ∧ x4 + 1 < (X.1 : Int)) ∧ (zq_Ex X 184 0 [(.ref (232)), (zq_vi ((X.2 (x4 + 1).toNat).toInt))] [] s_2 (zq_rv fun s_6 => (zq_Ex X 141 0 [(.ref (232))] [] s_6 (zq_rp zq_iv fun x_8 s_7 => (if x_8 = x_3 then zq_Ex X 0 967 [(.ref (zz_SC)), (.ref (0)), (.ref (232)), (.ref (259)), (zq_vi (x4)), (zq_vi (x_3)), v6] [] s_7 (zq_rp zq_bo K) else K (0) s_7)))))))))) : zq_Ex X 0 328 [(.ref (zz_SC)), (.ref (0)), (.ref (232)), (.ref (259)), (zq_vi (x4)), v5, v6] [] s (zq_rp zq_bo K) := by
  refine zq_run 4 (pc' := 333) (L' := [(.ref (zz_SC)), (.ref (0)), (.ref (232)), (.ref (259)), (zq_vi (x4)), v5, v6]) (st' := [(zq_vi (1)), (zq_vi (x4)), (.ref (zz_SC)), (.ref (0))]) (fun _ _ _ => rfl) ?_
  refine zq_iadd rfl ?_
  obtain ⟨g_1, w⟩ := w
  refine zq_scr rfl hX g_1.1 g_1.2 ?_
  refine zq_call_i (i := .invokestatic 95) (r := [1, 236, 2, 0, 0]) rfl rfl (fun _ _ => rfl) (of_decide_eq_false rfl) w (fun x_3 s_2 hx_4 w => ?_)
  refine zq_run 5 (pc' := 345) (L' := [(.ref (zz_SC)), (.ref (0)), (.ref (232)), (.ref (259)), (zq_vi (x4)), (zq_vi (x_3)), v6]) (st' := [(zq_vi (1)), (zq_vi (x4)), (.ref (zz_SC)), (.ref (232))]) (fun _ _ _ => rfl) ?_
  refine zq_iadd rfl ?_
  obtain ⟨g_5, w⟩ := w
  refine zq_scr rfl hX g_5.1 g_5.2 ?_
  refine zq_call_v (i := .invokevirtual 97) (r := [1, 184, 1, 1, 9]) rfl rfl (fun h hp => zr_avv rfl (hp.obj zq_a232)) (of_decide_eq_false rfl) w (fun s_6 w => ?_)
  refine zq_run 1 (pc' := 351) (L' := [(.ref (zz_SC)), (.ref (0)), (.ref (232)), (.ref (259)), (zq_vi (x4)), (zq_vi (x_3)), v6]) (st' := [(.ref (232))]) (fun _ _ _ => rfl) ?_
  refine zq_call_i (i := .invokevirtual 82) (r := [1, 141, 0, 1, 9]) rfl rfl (fun h hp => zr_avv rfl (hp.obj zq_a232)) (of_decide_eq_false rfl) w (fun x_8 s_7 hx_9 w => ?_)
  refine zq_run 1 (pc' := 356) (L' := [(.ref (zz_SC)), (.ref (0)), (.ref (232)), (.ref (259)), (zq_vi (x4)), (zq_vi (x_3)), v6]) (st' := [(zq_vi (x_3)), (zq_vi (x_8))]) (fun _ _ _ => rfl) ?_
  refine zq_eq rfl hx_9 hx_4 (fun hb_10 => ?_) (fun hb_10 => ?_)
  · rw [if_pos hb_10] at w
    refine zq_run 1 (pc' := 967) (L' := [(.ref (zz_SC)), (.ref (0)), (.ref (232)), (.ref (259)), (zq_vi (x4)), (zq_vi (x_3)), v6]) (st' := []) (fun _ _ _ => rfl) ?_
    exact w
  · rw [if_neg hb_10] at w
    refine zq_run 1 (pc' := 360) (L' := [(.ref (zz_SC)), (.ref (0)), (.ref (232)), (.ref (259)), (zq_vi (x4)), (zq_vi (x_3)), v6]) (st' := [(zq_vi (0))]) (fun _ _ _ => rfl) ?_
    exact zq_iret rfl rfl (congrArg Value.int (zq_nb (of_decide_eq_true rfl))) (⟨_, rfl, (of_decide_eq_true rfl), w⟩)
set_option maxRecDepth 100000 in
/-- PaperObjectsLaw.law at 364 -/
theorem zw_0_364 {X : Nat × (Nat → Int32)} (hX : X.1 < 10000) {s : zq_S} {K : Int → zq_S → Prop} {x4 : Int} (hx4 : zq_iv x4) {v5 : Value} (hv5 : v5.category = 1) {v6 : Value} (hv6 : v6.category = 1) (w : (((0 : Int) ≤ x4 + 1 ∧ x4 + 1 < (X.1 : Int)) ∧ (if (X.2 (x4 + 1).toNat).toInt = 0 then (zq_Ex X 237 0 [(.ref (0)), (zq_vi (0)), (.ref (259)), zz_no] [] s (zq_rp zq_iv fun x_4 s_3 => (((0 : Int) ≤ x4 + 1 ∧ x4 + 1 < (X.1 : Int)) ∧ (if (X.2 (x4 + 1).toNat).toInt = 0 then (zq_Ex X 185 0 [(.ref (232)), (zq_vi (0)), zz_no, zz_no, zz_no, zz_no, zz_no, zz_no] [] s_3 (zq_rp zq_iv fun x_9 s_8 => (zq_Ex X 141 0 [(.ref (232))] [] s_8 (zq_rp zq_iv fun x_12 s_11 => (if x_12 = x_4 then (if x_4 = 0 then (if (zq_l s_11 (259) (0)) = ((Int32.ofInt (x_9)).toInt64) then zq_Ex X 0 967 [(.ref (zz_SC)), (.ref (0)), (.ref (232)), (.ref (259)), (zq_vi (x4)), (zq_vi (x_4)), (zq_vi (x_9))] [] s_11 (zq_rp zq_bo K) else K (0) s_11) else zq_Ex X 0 967 [(.ref (zz_SC)), (.ref (0)), (.ref (232)), (.ref (259)), (zq_vi (x4)), (zq_vi (x_4)), (zq_vi (x_9))] [] s_11 (zq_rp zq_bo K)) else K (0) s_11))))) else (zq_Ex X 185 0 [(.ref (232)), (zq_vi (1)), zz_no, zz_no, zz_no, zz_no, zz_no, zz_no] [] s_3 (zq_rp zq_iv fun x_18 s_17 => (zq_Ex X 141 0 [(.ref (232))] [] s_17 (zq_rp zq_iv fun x_21 s_20 => (if x_21 = x_4 then (if x_4 = 0 then (if (zq_l s_20 (259) (0)) = ((Int32.ofInt (x_18)).toInt64) then zq_Ex X 0 967 [(.ref (zz_SC)), (.ref (0)), (.ref (232)), (.ref (259)), (zq_vi (x4)), (zq_vi (x_4)), (zq_vi (x_18))] [] s_20 (zq_rp zq_bo K) else K (0) s_20) else zq_Ex X 0 967 [(.ref (zz_SC)), (.ref (0)), (.ref (232)), (.ref (259)), (zq_vi (x4)), (zq_vi (x_4)), (zq_vi (x_18))] [] s_20 (zq_rp zq_bo K)) else K (0) s_20))))))))) else (zq_Ex X 237 0 [(.ref (0)), (zq_vi (1)), (.ref (259)), zz_no] [] s (zq_rp zq_iv fun x_27 s_26 => (((0 : Int) ≤ x4 + 1 ∧ x4 + 1 < (X.1 : Int)) ∧ (if (X.2 (x4 + 1).toNat).toInt = 0 then (zq_Ex X 185 0 [(.ref (232)), (zq_vi (0)), zz_no, zz_no, zz_no, zz_no, zz_no, zz_no] [] s_26 (zq_rp zq_iv fun x_32 s_31 => (zq_Ex X 141 0 [(.ref (232))] [] s_31 (zq_rp zq_iv fun x_35 s_34 => (if x_35 = x_27 then (if x_27 = 0 then (if (zq_l s_34 (259) (0)) = ((Int32.ofInt (x_32)).toInt64) then zq_Ex X 0 967 [(.ref (zz_SC)), (.ref (0)), (.ref (232)), (.ref (259)), (zq_vi (x4)), (zq_vi (x_27)), (zq_vi (x_32))] [] s_34 (zq_rp zq_bo K) else K (0) s_34) else zq_Ex X 0 967 [(.ref (zz_SC)), (.ref (0)), (.ref (232)), (.ref (259)), (zq_vi (x4)), (zq_vi (x_27)), (zq_vi (x_32))] [] s_34 (zq_rp zq_bo K)) else K (0) s_34))))) else (zq_Ex X 185 0 [(.ref (232)), (zq_vi (1)), zz_no, zz_no, zz_no, zz_no, zz_no, zz_no] [] s_26 (zq_rp zq_iv fun x_41 s_40 => (zq_Ex X 141 0 [(.ref (232))] [] s_40 (zq_rp zq_iv fun x_44 s_43 => (if x_44 = x_27 then (if x_27 = 0 then (if (zq_l s_43 (259) (0)) = ((Int32.ofInt (x_41)).toInt64) then zq_Ex X 0 967 [(.ref (zz_SC)), (.ref (0)), (.ref (232)), (.ref (259)), (zq_vi (x4)), (zq_vi (x_27)), (zq_vi (x_41))] [] s_43 (zq_rp zq_bo K) else K (0) s_43) else zq_Ex X 0 967 [(.ref (zz_SC)), (.ref (0)), (.ref (232)), (.ref (259)), (zq_vi (x4)), (zq_vi (x_27)), (zq_vi (x_41))] [] s_43 (zq_rp zq_bo K)) else K (0) s_43)))))))))))) : zq_Ex X 0 364 [(.ref (zz_SC)), (.ref (0)), (.ref (232)), (.ref (259)), (zq_vi (x4)), v5, v6] [] s (zq_rp zq_bo K) := by
  refine zq_run 4 (pc' := 369) (L' := [(.ref (zz_SC)), (.ref (0)), (.ref (232)), (.ref (259)), (zq_vi (x4)), v5, v6]) (st' := [(zq_vi (1)), (zq_vi (x4)), (.ref (zz_SC)), (.ref (0))]) (fun _ _ _ => rfl) ?_
  refine zq_iadd rfl ?_
  obtain ⟨g_1, w⟩ := w
  refine zq_scr rfl hX g_1.1 g_1.2 ?_
  refine zq_eq0 rfl (zq_in32 _) (fun hb_2 => ?_) (fun hb_2 => ?_)
  · rw [if_pos hb_2] at w
    refine zq_run 2 (pc' := 380) (L' := [(.ref (zz_SC)), (.ref (0)), (.ref (232)), (.ref (259)), (zq_vi (x4)), v5, v6]) (st' := [(.ref (259)), (zq_vi (0)), (.ref (0))]) (fun _ _ _ => rfl) ?_
    refine zq_call_i (i := .invokestatic 98) (r := [1, 237, 3, 0, 0]) rfl rfl (fun _ _ => rfl) (of_decide_eq_false rfl) w (fun x_4 s_3 hx_5 w => ?_)
    refine zq_run 5 (pc' := 390) (L' := [(.ref (zz_SC)), (.ref (0)), (.ref (232)), (.ref (259)), (zq_vi (x4)), (zq_vi (x_4)), v6]) (st' := [(zq_vi (1)), (zq_vi (x4)), (.ref (zz_SC)), (.ref (232))]) (fun _ _ _ => rfl) ?_
    refine zq_iadd rfl ?_
    obtain ⟨g_6, w⟩ := w
    refine zq_scr rfl hX g_6.1 g_6.2 ?_
    refine zq_eq0 rfl (zq_in32 _) (fun hb_7 => ?_) (fun hb_7 => ?_)
    · rw [if_pos hb_7] at w
      refine zq_run 1 (pc' := 400) (L' := [(.ref (zz_SC)), (.ref (0)), (.ref (232)), (.ref (259)), (zq_vi (x4)), (zq_vi (x_4)), v6]) (st' := [(zq_vi (0)), (.ref (232))]) (fun _ _ _ => rfl) ?_
      refine zq_call_i (i := .invokevirtual 101) (r := [1, 185, 1, 1, 9]) rfl rfl (fun h hp => zr_avv rfl (hp.obj zq_a232)) (of_decide_eq_false rfl) w (fun x_9 s_8 hx_10 w => ?_)
      refine zq_run 2 (pc' := 406) (L' := [(.ref (zz_SC)), (.ref (0)), (.ref (232)), (.ref (259)), (zq_vi (x4)), (zq_vi (x_4)), (zq_vi (x_9))]) (st' := [(.ref (232))]) (fun _ _ _ => rfl) ?_
      refine zq_call_i (i := .invokevirtual 82) (r := [1, 141, 0, 1, 9]) rfl rfl (fun h hp => zr_avv rfl (hp.obj zq_a232)) (of_decide_eq_false rfl) w (fun x_12 s_11 hx_13 w => ?_)
      refine zq_run 1 (pc' := 411) (L' := [(.ref (zz_SC)), (.ref (0)), (.ref (232)), (.ref (259)), (zq_vi (x4)), (zq_vi (x_4)), (zq_vi (x_9))]) (st' := [(zq_vi (x_4)), (zq_vi (x_12))]) (fun _ _ _ => rfl) ?_
      refine zq_eq rfl hx_13 hx_5 (fun hb_14 => ?_) (fun hb_14 => ?_)
      · rw [if_pos hb_14] at w
        refine zq_run 1 (pc' := 418) (L' := [(.ref (zz_SC)), (.ref (0)), (.ref (232)), (.ref (259)), (zq_vi (x4)), (zq_vi (x_4)), (zq_vi (x_9))]) (st' := [(zq_vi (x_4))]) (fun _ _ _ => rfl) ?_
        refine zq_ne0 rfl hx_5 (fun hb_15 => ?_) (fun hb_15 => ?_)
        · rw [if_neg hb_15] at w
          refine zq_run 1 (pc' := 967) (L' := [(.ref (zz_SC)), (.ref (0)), (.ref (232)), (.ref (259)), (zq_vi (x4)), (zq_vi (x_4)), (zq_vi (x_9))]) (st' := []) (fun _ _ _ => rfl) ?_
          exact w
        · rw [if_pos hb_15] at w
          refine zq_run 2 (pc' := 423) (L' := [(.ref (zz_SC)), (.ref (0)), (.ref (232)), (.ref (259)), (zq_vi (x4)), (zq_vi (x_4)), (zq_vi (x_9))]) (st' := [(zq_vi (0)), (.ref (259))]) (fun _ _ _ => rfl) ?_
          refine zq_ald_l (v := zq_l s_11 (259) (0)) rfl zq_a259 (of_decide_eq_true rfl) (of_decide_eq_true rfl) rfl ?_
          refine zq_run 2 (pc' := 427) (L' := [(.ref (zz_SC)), (.ref (0)), (.ref (232)), (.ref (259)), (zq_vi (x4)), (zq_vi (x_4)), (zq_vi (x_9))]) (st' := [(.long ((Int32.ofInt (x_9)).toInt64)), (.long (zq_l s_11 (259) (0)))]) (fun _ _ _ => rfl) ?_
          refine zq_lceq rfl rfl (fun hb_16 => ?_) (fun hb_16 => ?_)
          · rw [if_pos hb_16] at w
            refine zq_run 1 (pc' := 967) (L' := [(.ref (zz_SC)), (.ref (0)), (.ref (232)), (.ref (259)), (zq_vi (x4)), (zq_vi (x_4)), (zq_vi (x_9))]) (st' := []) (fun _ _ _ => rfl) ?_
            exact w
          · rw [if_neg hb_16] at w
            refine zq_run 1 (pc' := 432) (L' := [(.ref (zz_SC)), (.ref (0)), (.ref (232)), (.ref (259)), (zq_vi (x4)), (zq_vi (x_4)), (zq_vi (x_9))]) (st' := [(zq_vi (0))]) (fun _ _ _ => rfl) ?_
            exact zq_iret rfl rfl (congrArg Value.int (zq_nb (of_decide_eq_true rfl))) (⟨_, rfl, (of_decide_eq_true rfl), w⟩)
      · rw [if_neg hb_14] at w
        refine zq_run 1 (pc' := 415) (L' := [(.ref (zz_SC)), (.ref (0)), (.ref (232)), (.ref (259)), (zq_vi (x4)), (zq_vi (x_4)), (zq_vi (x_9))]) (st' := [(zq_vi (0))]) (fun _ _ _ => rfl) ?_
        exact zq_iret rfl rfl (congrArg Value.int (zq_nb (of_decide_eq_true rfl))) (⟨_, rfl, (of_decide_eq_true rfl), w⟩)
    · rw [if_neg hb_7] at w
      refine zq_run 2 (pc' := 400) (L' := [(.ref (zz_SC)), (.ref (0)), (.ref (232)), (.ref (259)), (zq_vi (x4)), (zq_vi (x_4)), v6]) (st' := [(zq_vi (1)), (.ref (232))]) (fun _ _ _ => rfl) ?_
      refine zq_call_i (i := .invokevirtual 101) (r := [1, 185, 1, 1, 9]) rfl rfl (fun h hp => zr_avv rfl (hp.obj zq_a232)) (of_decide_eq_false rfl) w (fun x_18 s_17 hx_19 w => ?_)
      refine zq_run 2 (pc' := 406) (L' := [(.ref (zz_SC)), (.ref (0)), (.ref (232)), (.ref (259)), (zq_vi (x4)), (zq_vi (x_4)), (zq_vi (x_18))]) (st' := [(.ref (232))]) (fun _ _ _ => rfl) ?_
      refine zq_call_i (i := .invokevirtual 82) (r := [1, 141, 0, 1, 9]) rfl rfl (fun h hp => zr_avv rfl (hp.obj zq_a232)) (of_decide_eq_false rfl) w (fun x_21 s_20 hx_22 w => ?_)
      refine zq_run 1 (pc' := 411) (L' := [(.ref (zz_SC)), (.ref (0)), (.ref (232)), (.ref (259)), (zq_vi (x4)), (zq_vi (x_4)), (zq_vi (x_18))]) (st' := [(zq_vi (x_4)), (zq_vi (x_21))]) (fun _ _ _ => rfl) ?_
      refine zq_eq rfl hx_22 hx_5 (fun hb_23 => ?_) (fun hb_23 => ?_)
      · rw [if_pos hb_23] at w
        refine zq_run 1 (pc' := 418) (L' := [(.ref (zz_SC)), (.ref (0)), (.ref (232)), (.ref (259)), (zq_vi (x4)), (zq_vi (x_4)), (zq_vi (x_18))]) (st' := [(zq_vi (x_4))]) (fun _ _ _ => rfl) ?_
        refine zq_ne0 rfl hx_5 (fun hb_24 => ?_) (fun hb_24 => ?_)
        · rw [if_neg hb_24] at w
          refine zq_run 1 (pc' := 967) (L' := [(.ref (zz_SC)), (.ref (0)), (.ref (232)), (.ref (259)), (zq_vi (x4)), (zq_vi (x_4)), (zq_vi (x_18))]) (st' := []) (fun _ _ _ => rfl) ?_
          exact w
        · rw [if_pos hb_24] at w
          refine zq_run 2 (pc' := 423) (L' := [(.ref (zz_SC)), (.ref (0)), (.ref (232)), (.ref (259)), (zq_vi (x4)), (zq_vi (x_4)), (zq_vi (x_18))]) (st' := [(zq_vi (0)), (.ref (259))]) (fun _ _ _ => rfl) ?_
          refine zq_ald_l (v := zq_l s_20 (259) (0)) rfl zq_a259 (of_decide_eq_true rfl) (of_decide_eq_true rfl) rfl ?_
          refine zq_run 2 (pc' := 427) (L' := [(.ref (zz_SC)), (.ref (0)), (.ref (232)), (.ref (259)), (zq_vi (x4)), (zq_vi (x_4)), (zq_vi (x_18))]) (st' := [(.long ((Int32.ofInt (x_18)).toInt64)), (.long (zq_l s_20 (259) (0)))]) (fun _ _ _ => rfl) ?_
          refine zq_lceq rfl rfl (fun hb_25 => ?_) (fun hb_25 => ?_)
          · rw [if_pos hb_25] at w
            refine zq_run 1 (pc' := 967) (L' := [(.ref (zz_SC)), (.ref (0)), (.ref (232)), (.ref (259)), (zq_vi (x4)), (zq_vi (x_4)), (zq_vi (x_18))]) (st' := []) (fun _ _ _ => rfl) ?_
            exact w
          · rw [if_neg hb_25] at w
            refine zq_run 1 (pc' := 432) (L' := [(.ref (zz_SC)), (.ref (0)), (.ref (232)), (.ref (259)), (zq_vi (x4)), (zq_vi (x_4)), (zq_vi (x_18))]) (st' := [(zq_vi (0))]) (fun _ _ _ => rfl) ?_
            exact zq_iret rfl rfl (congrArg Value.int (zq_nb (of_decide_eq_true rfl))) (⟨_, rfl, (of_decide_eq_true rfl), w⟩)
      · rw [if_neg hb_23] at w
        refine zq_run 1 (pc' := 415) (L' := [(.ref (zz_SC)), (.ref (0)), (.ref (232)), (.ref (259)), (zq_vi (x4)), (zq_vi (x_4)), (zq_vi (x_18))]) (st' := [(zq_vi (0))]) (fun _ _ _ => rfl) ?_
        exact zq_iret rfl rfl (congrArg Value.int (zq_nb (of_decide_eq_true rfl))) (⟨_, rfl, (of_decide_eq_true rfl), w⟩)
  · rw [if_neg hb_2] at w
    refine zq_run 3 (pc' := 380) (L' := [(.ref (zz_SC)), (.ref (0)), (.ref (232)), (.ref (259)), (zq_vi (x4)), v5, v6]) (st' := [(.ref (259)), (zq_vi (1)), (.ref (0))]) (fun _ _ _ => rfl) ?_
    refine zq_call_i (i := .invokestatic 98) (r := [1, 237, 3, 0, 0]) rfl rfl (fun _ _ => rfl) (of_decide_eq_false rfl) w (fun x_27 s_26 hx_28 w => ?_)
    refine zq_run 5 (pc' := 390) (L' := [(.ref (zz_SC)), (.ref (0)), (.ref (232)), (.ref (259)), (zq_vi (x4)), (zq_vi (x_27)), v6]) (st' := [(zq_vi (1)), (zq_vi (x4)), (.ref (zz_SC)), (.ref (232))]) (fun _ _ _ => rfl) ?_
    refine zq_iadd rfl ?_
    obtain ⟨g_29, w⟩ := w
    refine zq_scr rfl hX g_29.1 g_29.2 ?_
    refine zq_eq0 rfl (zq_in32 _) (fun hb_30 => ?_) (fun hb_30 => ?_)
    · rw [if_pos hb_30] at w
      refine zq_run 1 (pc' := 400) (L' := [(.ref (zz_SC)), (.ref (0)), (.ref (232)), (.ref (259)), (zq_vi (x4)), (zq_vi (x_27)), v6]) (st' := [(zq_vi (0)), (.ref (232))]) (fun _ _ _ => rfl) ?_
      refine zq_call_i (i := .invokevirtual 101) (r := [1, 185, 1, 1, 9]) rfl rfl (fun h hp => zr_avv rfl (hp.obj zq_a232)) (of_decide_eq_false rfl) w (fun x_32 s_31 hx_33 w => ?_)
      refine zq_run 2 (pc' := 406) (L' := [(.ref (zz_SC)), (.ref (0)), (.ref (232)), (.ref (259)), (zq_vi (x4)), (zq_vi (x_27)), (zq_vi (x_32))]) (st' := [(.ref (232))]) (fun _ _ _ => rfl) ?_
      refine zq_call_i (i := .invokevirtual 82) (r := [1, 141, 0, 1, 9]) rfl rfl (fun h hp => zr_avv rfl (hp.obj zq_a232)) (of_decide_eq_false rfl) w (fun x_35 s_34 hx_36 w => ?_)
      refine zq_run 1 (pc' := 411) (L' := [(.ref (zz_SC)), (.ref (0)), (.ref (232)), (.ref (259)), (zq_vi (x4)), (zq_vi (x_27)), (zq_vi (x_32))]) (st' := [(zq_vi (x_27)), (zq_vi (x_35))]) (fun _ _ _ => rfl) ?_
      refine zq_eq rfl hx_36 hx_28 (fun hb_37 => ?_) (fun hb_37 => ?_)
      · rw [if_pos hb_37] at w
        refine zq_run 1 (pc' := 418) (L' := [(.ref (zz_SC)), (.ref (0)), (.ref (232)), (.ref (259)), (zq_vi (x4)), (zq_vi (x_27)), (zq_vi (x_32))]) (st' := [(zq_vi (x_27))]) (fun _ _ _ => rfl) ?_
        refine zq_ne0 rfl hx_28 (fun hb_38 => ?_) (fun hb_38 => ?_)
        · rw [if_neg hb_38] at w
          refine zq_run 1 (pc' := 967) (L' := [(.ref (zz_SC)), (.ref (0)), (.ref (232)), (.ref (259)), (zq_vi (x4)), (zq_vi (x_27)), (zq_vi (x_32))]) (st' := []) (fun _ _ _ => rfl) ?_
          exact w
        · rw [if_pos hb_38] at w
          refine zq_run 2 (pc' := 423) (L' := [(.ref (zz_SC)), (.ref (0)), (.ref (232)), (.ref (259)), (zq_vi (x4)), (zq_vi (x_27)), (zq_vi (x_32))]) (st' := [(zq_vi (0)), (.ref (259))]) (fun _ _ _ => rfl) ?_
          refine zq_ald_l (v := zq_l s_34 (259) (0)) rfl zq_a259 (of_decide_eq_true rfl) (of_decide_eq_true rfl) rfl ?_
          refine zq_run 2 (pc' := 427) (L' := [(.ref (zz_SC)), (.ref (0)), (.ref (232)), (.ref (259)), (zq_vi (x4)), (zq_vi (x_27)), (zq_vi (x_32))]) (st' := [(.long ((Int32.ofInt (x_32)).toInt64)), (.long (zq_l s_34 (259) (0)))]) (fun _ _ _ => rfl) ?_
          refine zq_lceq rfl rfl (fun hb_39 => ?_) (fun hb_39 => ?_)
          · rw [if_pos hb_39] at w
            refine zq_run 1 (pc' := 967) (L' := [(.ref (zz_SC)), (.ref (0)), (.ref (232)), (.ref (259)), (zq_vi (x4)), (zq_vi (x_27)), (zq_vi (x_32))]) (st' := []) (fun _ _ _ => rfl) ?_
            exact w
          · rw [if_neg hb_39] at w
            refine zq_run 1 (pc' := 432) (L' := [(.ref (zz_SC)), (.ref (0)), (.ref (232)), (.ref (259)), (zq_vi (x4)), (zq_vi (x_27)), (zq_vi (x_32))]) (st' := [(zq_vi (0))]) (fun _ _ _ => rfl) ?_
            exact zq_iret rfl rfl (congrArg Value.int (zq_nb (of_decide_eq_true rfl))) (⟨_, rfl, (of_decide_eq_true rfl), w⟩)
      · rw [if_neg hb_37] at w
        refine zq_run 1 (pc' := 415) (L' := [(.ref (zz_SC)), (.ref (0)), (.ref (232)), (.ref (259)), (zq_vi (x4)), (zq_vi (x_27)), (zq_vi (x_32))]) (st' := [(zq_vi (0))]) (fun _ _ _ => rfl) ?_
        exact zq_iret rfl rfl (congrArg Value.int (zq_nb (of_decide_eq_true rfl))) (⟨_, rfl, (of_decide_eq_true rfl), w⟩)
    · rw [if_neg hb_30] at w
      refine zq_run 2 (pc' := 400) (L' := [(.ref (zz_SC)), (.ref (0)), (.ref (232)), (.ref (259)), (zq_vi (x4)), (zq_vi (x_27)), v6]) (st' := [(zq_vi (1)), (.ref (232))]) (fun _ _ _ => rfl) ?_
      refine zq_call_i (i := .invokevirtual 101) (r := [1, 185, 1, 1, 9]) rfl rfl (fun h hp => zr_avv rfl (hp.obj zq_a232)) (of_decide_eq_false rfl) w (fun x_41 s_40 hx_42 w => ?_)
      refine zq_run 2 (pc' := 406) (L' := [(.ref (zz_SC)), (.ref (0)), (.ref (232)), (.ref (259)), (zq_vi (x4)), (zq_vi (x_27)), (zq_vi (x_41))]) (st' := [(.ref (232))]) (fun _ _ _ => rfl) ?_
      refine zq_call_i (i := .invokevirtual 82) (r := [1, 141, 0, 1, 9]) rfl rfl (fun h hp => zr_avv rfl (hp.obj zq_a232)) (of_decide_eq_false rfl) w (fun x_44 s_43 hx_45 w => ?_)
      refine zq_run 1 (pc' := 411) (L' := [(.ref (zz_SC)), (.ref (0)), (.ref (232)), (.ref (259)), (zq_vi (x4)), (zq_vi (x_27)), (zq_vi (x_41))]) (st' := [(zq_vi (x_27)), (zq_vi (x_44))]) (fun _ _ _ => rfl) ?_
      refine zq_eq rfl hx_45 hx_28 (fun hb_46 => ?_) (fun hb_46 => ?_)
      · rw [if_pos hb_46] at w
        refine zq_run 1 (pc' := 418) (L' := [(.ref (zz_SC)), (.ref (0)), (.ref (232)), (.ref (259)), (zq_vi (x4)), (zq_vi (x_27)), (zq_vi (x_41))]) (st' := [(zq_vi (x_27))]) (fun _ _ _ => rfl) ?_
        refine zq_ne0 rfl hx_28 (fun hb_47 => ?_) (fun hb_47 => ?_)
        · rw [if_neg hb_47] at w
          refine zq_run 1 (pc' := 967) (L' := [(.ref (zz_SC)), (.ref (0)), (.ref (232)), (.ref (259)), (zq_vi (x4)), (zq_vi (x_27)), (zq_vi (x_41))]) (st' := []) (fun _ _ _ => rfl) ?_
          exact w
        · rw [if_pos hb_47] at w
          refine zq_run 2 (pc' := 423) (L' := [(.ref (zz_SC)), (.ref (0)), (.ref (232)), (.ref (259)), (zq_vi (x4)), (zq_vi (x_27)), (zq_vi (x_41))]) (st' := [(zq_vi (0)), (.ref (259))]) (fun _ _ _ => rfl) ?_
          refine zq_ald_l (v := zq_l s_43 (259) (0)) rfl zq_a259 (of_decide_eq_true rfl) (of_decide_eq_true rfl) rfl ?_
          refine zq_run 2 (pc' := 427) (L' := [(.ref (zz_SC)), (.ref (0)), (.ref (232)), (.ref (259)), (zq_vi (x4)), (zq_vi (x_27)), (zq_vi (x_41))]) (st' := [(.long ((Int32.ofInt (x_41)).toInt64)), (.long (zq_l s_43 (259) (0)))]) (fun _ _ _ => rfl) ?_
          refine zq_lceq rfl rfl (fun hb_48 => ?_) (fun hb_48 => ?_)
          · rw [if_pos hb_48] at w
            refine zq_run 1 (pc' := 967) (L' := [(.ref (zz_SC)), (.ref (0)), (.ref (232)), (.ref (259)), (zq_vi (x4)), (zq_vi (x_27)), (zq_vi (x_41))]) (st' := []) (fun _ _ _ => rfl) ?_
            exact w
          · rw [if_neg hb_48] at w
            refine zq_run 1 (pc' := 432) (L' := [(.ref (zz_SC)), (.ref (0)), (.ref (232)), (.ref (259)), (zq_vi (x4)), (zq_vi (x_27)), (zq_vi (x_41))]) (st' := [(zq_vi (0))]) (fun _ _ _ => rfl) ?_
            exact zq_iret rfl rfl (congrArg Value.int (zq_nb (of_decide_eq_true rfl))) (⟨_, rfl, (of_decide_eq_true rfl), w⟩)
      · rw [if_neg hb_46] at w
        refine zq_run 1 (pc' := 415) (L' := [(.ref (zz_SC)), (.ref (0)), (.ref (232)), (.ref (259)), (zq_vi (x4)), (zq_vi (x_27)), (zq_vi (x_41))]) (st' := [(zq_vi (0))]) (fun _ _ _ => rfl) ?_
        exact zq_iret rfl rfl (congrArg Value.int (zq_nb (of_decide_eq_true rfl))) (⟨_, rfl, (of_decide_eq_true rfl), w⟩)
set_option maxRecDepth 100000 in
/-- PaperObjectsLaw.law at 436 -/
theorem zw_0_436 {X : Nat × (Nat → Int32)} {s : zq_S} {K : Int → zq_S → Prop} {x4 : Int} (hx4 : zq_iv x4) {v5 : Value} (hv5 : v5.category = 1) {v6 : Value} (hv6 : v6.category = 1) (w : (zq_Ex X 238 0 [(.ref (0)), (.ref (259)), zz_no] [] s (zq_rp zq_iv fun x_2 s_1 => (zq_Ex X 203 0 [(.ref (232)), zz_no, zz_no, zz_no, zz_no] [] s_1 (zq_rp zq_iv fun x_5 s_4 => (zq_Ex X 141 0 [(.ref (232))] [] s_4 (zq_rp zq_iv fun x_8 s_7 => (if x_8 = x_2 then (if x_2 = 0 then (if (zq_l s_7 (259) (0)) = ((Int32.ofInt (x_5)).toInt64) then zq_Ex X 0 967 [(.ref (zz_SC)), (.ref (0)), (.ref (232)), (.ref (259)), (zq_vi (x4)), (zq_vi (x_2)), (zq_vi (x_5))] [] s_7 (zq_rp zq_bo K) else K (0) s_7) else zq_Ex X 0 967 [(.ref (zz_SC)), (.ref (0)), (.ref (232)), (.ref (259)), (zq_vi (x4)), (zq_vi (x_2)), (zq_vi (x_5))] [] s_7 (zq_rp zq_bo K)) else K (0) s_7)))))))) : zq_Ex X 0 436 [(.ref (zz_SC)), (.ref (0)), (.ref (232)), (.ref (259)), (zq_vi (x4)), v5, v6] [] s (zq_rp zq_bo K) := by
  refine zq_run 2 (pc' := 438) (L' := [(.ref (zz_SC)), (.ref (0)), (.ref (232)), (.ref (259)), (zq_vi (x4)), v5, v6]) (st' := [(.ref (259)), (.ref (0))]) (fun _ _ _ => rfl) ?_
  refine zq_call_i (i := .invokestatic 102) (r := [1, 238, 2, 0, 0]) rfl rfl (fun _ _ => rfl) (of_decide_eq_false rfl) w (fun x_2 s_1 hx_3 w => ?_)
  refine zq_run 2 (pc' := 444) (L' := [(.ref (zz_SC)), (.ref (0)), (.ref (232)), (.ref (259)), (zq_vi (x4)), (zq_vi (x_2)), v6]) (st' := [(.ref (232))]) (fun _ _ _ => rfl) ?_
  refine zq_call_i (i := .invokevirtual 105) (r := [1, 203, 0, 1, 9]) rfl rfl (fun h hp => zr_avv rfl (hp.obj zq_a232)) (of_decide_eq_false rfl) w (fun x_5 s_4 hx_6 w => ?_)
  refine zq_run 2 (pc' := 450) (L' := [(.ref (zz_SC)), (.ref (0)), (.ref (232)), (.ref (259)), (zq_vi (x4)), (zq_vi (x_2)), (zq_vi (x_5))]) (st' := [(.ref (232))]) (fun _ _ _ => rfl) ?_
  refine zq_call_i (i := .invokevirtual 82) (r := [1, 141, 0, 1, 9]) rfl rfl (fun h hp => zr_avv rfl (hp.obj zq_a232)) (of_decide_eq_false rfl) w (fun x_8 s_7 hx_9 w => ?_)
  refine zq_run 1 (pc' := 455) (L' := [(.ref (zz_SC)), (.ref (0)), (.ref (232)), (.ref (259)), (zq_vi (x4)), (zq_vi (x_2)), (zq_vi (x_5))]) (st' := [(zq_vi (x_2)), (zq_vi (x_8))]) (fun _ _ _ => rfl) ?_
  refine zq_eq rfl hx_9 hx_3 (fun hb_10 => ?_) (fun hb_10 => ?_)
  · rw [if_pos hb_10] at w
    refine zq_run 1 (pc' := 462) (L' := [(.ref (zz_SC)), (.ref (0)), (.ref (232)), (.ref (259)), (zq_vi (x4)), (zq_vi (x_2)), (zq_vi (x_5))]) (st' := [(zq_vi (x_2))]) (fun _ _ _ => rfl) ?_
    refine zq_ne0 rfl hx_3 (fun hb_11 => ?_) (fun hb_11 => ?_)
    · rw [if_neg hb_11] at w
      refine zq_run 1 (pc' := 967) (L' := [(.ref (zz_SC)), (.ref (0)), (.ref (232)), (.ref (259)), (zq_vi (x4)), (zq_vi (x_2)), (zq_vi (x_5))]) (st' := []) (fun _ _ _ => rfl) ?_
      exact w
    · rw [if_pos hb_11] at w
      refine zq_run 2 (pc' := 467) (L' := [(.ref (zz_SC)), (.ref (0)), (.ref (232)), (.ref (259)), (zq_vi (x4)), (zq_vi (x_2)), (zq_vi (x_5))]) (st' := [(zq_vi (0)), (.ref (259))]) (fun _ _ _ => rfl) ?_
      refine zq_ald_l (v := zq_l s_7 (259) (0)) rfl zq_a259 (of_decide_eq_true rfl) (of_decide_eq_true rfl) rfl ?_
      refine zq_run 2 (pc' := 471) (L' := [(.ref (zz_SC)), (.ref (0)), (.ref (232)), (.ref (259)), (zq_vi (x4)), (zq_vi (x_2)), (zq_vi (x_5))]) (st' := [(.long ((Int32.ofInt (x_5)).toInt64)), (.long (zq_l s_7 (259) (0)))]) (fun _ _ _ => rfl) ?_
      refine zq_lceq rfl rfl (fun hb_12 => ?_) (fun hb_12 => ?_)
      · rw [if_pos hb_12] at w
        refine zq_run 1 (pc' := 967) (L' := [(.ref (zz_SC)), (.ref (0)), (.ref (232)), (.ref (259)), (zq_vi (x4)), (zq_vi (x_2)), (zq_vi (x_5))]) (st' := []) (fun _ _ _ => rfl) ?_
        exact w
      · rw [if_neg hb_12] at w
        refine zq_run 1 (pc' := 476) (L' := [(.ref (zz_SC)), (.ref (0)), (.ref (232)), (.ref (259)), (zq_vi (x4)), (zq_vi (x_2)), (zq_vi (x_5))]) (st' := [(zq_vi (0))]) (fun _ _ _ => rfl) ?_
        exact zq_iret rfl rfl (congrArg Value.int (zq_nb (of_decide_eq_true rfl))) (⟨_, rfl, (of_decide_eq_true rfl), w⟩)
  · rw [if_neg hb_10] at w
    refine zq_run 1 (pc' := 459) (L' := [(.ref (zz_SC)), (.ref (0)), (.ref (232)), (.ref (259)), (zq_vi (x4)), (zq_vi (x_2)), (zq_vi (x_5))]) (st' := [(zq_vi (0))]) (fun _ _ _ => rfl) ?_
    exact zq_iret rfl rfl (congrArg Value.int (zq_nb (of_decide_eq_true rfl))) (⟨_, rfl, (of_decide_eq_true rfl), w⟩)
set_option maxRecDepth 100000 in
/-- PaperObjectsLaw.law at 480 -/
theorem zw_0_480 {X : Nat × (Nat → Int32)} {s : zq_S} {K : Int → zq_S → Prop} {x4 : Int} (hx4 : zq_iv x4) {v5 : Value} (hv5 : v5.category = 1) {v6 : Value} (hv6 : v6.category = 1) (w : (zq_Ex X 11 0 [(.ref (0))] [] s (zq_rp zq_iv fun x_2 s_1 => (zq_Ex X 217 0 [(.ref (232))] [] s_1 (zq_rp zq_iv fun x_5 s_4 => (if x_2 = x_5 then zq_Ex X 0 967 [(.ref (zz_SC)), (.ref (0)), (.ref (232)), (.ref (259)), (zq_vi (x4)), v5, v6] [] s_4 (zq_rp zq_bo K) else K (0) s_4)))))) : zq_Ex X 0 480 [(.ref (zz_SC)), (.ref (0)), (.ref (232)), (.ref (259)), (zq_vi (x4)), v5, v6] [] s (zq_rp zq_bo K) := by
  refine zq_run 1 (pc' := 481) (L' := [(.ref (zz_SC)), (.ref (0)), (.ref (232)), (.ref (259)), (zq_vi (x4)), v5, v6]) (st' := [(.ref (0))]) (fun _ _ _ => rfl) ?_
  refine zq_call_i (i := .invokevirtual 106) (r := [1, 11, 0, 1, 0]) rfl rfl (fun h hp => zr_avv rfl (hp.obj zq_a0)) (of_decide_eq_false rfl) w (fun x_2 s_1 hx_3 w => ?_)
  refine zq_run 1 (pc' := 485) (L' := [(.ref (zz_SC)), (.ref (0)), (.ref (232)), (.ref (259)), (zq_vi (x4)), v5, v6]) (st' := [(.ref (232)), (zq_vi (x_2))]) (fun _ _ _ => rfl) ?_
  refine zq_call_i (i := .invokevirtual 109) (r := [1, 217, 0, 1, 9]) rfl rfl (fun h hp => zr_avv rfl (hp.obj zq_a232)) (of_decide_eq_false rfl) w (fun x_5 s_4 hx_6 w => ?_)
  refine zq_eq rfl hx_3 hx_6 (fun hb_7 => ?_) (fun hb_7 => ?_)
  · rw [if_pos hb_7] at w
    exact w
  · rw [if_neg hb_7] at w
    refine zq_run 1 (pc' := 492) (L' := [(.ref (zz_SC)), (.ref (0)), (.ref (232)), (.ref (259)), (zq_vi (x4)), v5, v6]) (st' := [(zq_vi (0))]) (fun _ _ _ => rfl) ?_
    exact zq_iret rfl rfl (congrArg Value.int (zq_nb (of_decide_eq_true rfl))) (⟨_, rfl, (of_decide_eq_true rfl), w⟩)
set_option maxRecDepth 100000 in
/-- PaperObjectsLaw.law at 493 -/
theorem zw_0_493 {X : Nat × (Nat → Int32)} {s : zq_S} {K : Int → zq_S → Prop} {x4 : Int} (hx4 : zq_iv x4) {v5 : Value} (hv5 : v5.category = 1) {v6 : Value} (hv6 : v6.category = 1) (w : (zq_Ex X 12 0 [(.ref (0))] [] s (zq_rp zq_iv fun x_2 s_1 => (zq_Ex X 218 0 [(.ref (232))] [] s_1 (zq_rp zq_iv fun x_5 s_4 => (if x_2 = x_5 then zq_Ex X 0 967 [(.ref (zz_SC)), (.ref (0)), (.ref (232)), (.ref (259)), (zq_vi (x4)), v5, v6] [] s_4 (zq_rp zq_bo K) else K (0) s_4)))))) : zq_Ex X 0 493 [(.ref (zz_SC)), (.ref (0)), (.ref (232)), (.ref (259)), (zq_vi (x4)), v5, v6] [] s (zq_rp zq_bo K) := by
  refine zq_run 1 (pc' := 494) (L' := [(.ref (zz_SC)), (.ref (0)), (.ref (232)), (.ref (259)), (zq_vi (x4)), v5, v6]) (st' := [(.ref (0))]) (fun _ _ _ => rfl) ?_
  refine zq_call_i (i := .invokevirtual 110) (r := [1, 12, 0, 1, 0]) rfl rfl (fun h hp => zr_avv rfl (hp.obj zq_a0)) (of_decide_eq_false rfl) w (fun x_2 s_1 hx_3 w => ?_)
  refine zq_run 1 (pc' := 498) (L' := [(.ref (zz_SC)), (.ref (0)), (.ref (232)), (.ref (259)), (zq_vi (x4)), v5, v6]) (st' := [(.ref (232)), (zq_vi (x_2))]) (fun _ _ _ => rfl) ?_
  refine zq_call_i (i := .invokevirtual 113) (r := [1, 218, 0, 1, 9]) rfl rfl (fun h hp => zr_avv rfl (hp.obj zq_a232)) (of_decide_eq_false rfl) w (fun x_5 s_4 hx_6 w => ?_)
  refine zq_eq rfl hx_3 hx_6 (fun hb_7 => ?_) (fun hb_7 => ?_)
  · rw [if_pos hb_7] at w
    exact w
  · rw [if_neg hb_7] at w
    refine zq_run 1 (pc' := 505) (L' := [(.ref (zz_SC)), (.ref (0)), (.ref (232)), (.ref (259)), (zq_vi (x4)), v5, v6]) (st' := [(zq_vi (0))]) (fun _ _ _ => rfl) ?_
    exact zq_iret rfl rfl (congrArg Value.int (zq_nb (of_decide_eq_true rfl))) (⟨_, rfl, (of_decide_eq_true rfl), w⟩)
set_option maxRecDepth 100000 in
/-- PaperObjectsLaw.law at 506 -/
theorem zw_0_506 {X : Nat × (Nat → Int32)} (hX : X.1 < 10000) {s : zq_S} {K : Int → zq_S → Prop} {x4 : Int} (hx4 : zq_iv x4) {v5 : Value} (hv5 : v5.category = 1) {v6 : Value} (hv6 : v6.category = 1) (w : (((0 : Int) ≤ x4 + 1 ∧ x4 + 1 < (X.1 : Int)) ∧ (((0 : Int) ≤ x4 + 2 ∧ x4 + 2 < (X.1 : Int)) ∧ (zq_Ex X 239 0 [(.ref (0)), (zq_vi ((X.2 (x4 + 1).toNat).toInt)), (zq_vi (((X.2 (x4 + 2).toNat).toInt) % 65536)), zz_no] [] s (zq_rp zq_iv fun x_4 s_3 => (((0 : Int) ≤ x4 + 1 ∧ x4 + 1 < (X.1 : Int)) ∧ (((0 : Int) ≤ x4 + 2 ∧ x4 + 2 < (X.1 : Int)) ∧ (zq_Ex X 219 0 [(.ref (232)), (zq_vi ((X.2 (x4 + 1).toNat).toInt)), (zq_vi (((X.2 (x4 + 2).toNat).toInt) % 65536))] [] s_3 (zq_rv fun s_8 => (zq_Ex X 141 0 [(.ref (232))] [] s_8 (zq_rp zq_iv fun x_10 s_9 => (if x_10 = x_4 then zq_Ex X 0 967 [(.ref (zz_SC)), (.ref (0)), (.ref (232)), (.ref (259)), (zq_vi (x4)), (zq_vi (x_4)), v6] [] s_9 (zq_rp zq_bo K) else K (0) s_9)))))))))))) : zq_Ex X 0 506 [(.ref (zz_SC)), (.ref (0)), (.ref (232)), (.ref (259)), (zq_vi (x4)), v5, v6] [] s (zq_rp zq_bo K) := by
  refine zq_run 4 (pc' := 511) (L' := [(.ref (zz_SC)), (.ref (0)), (.ref (232)), (.ref (259)), (zq_vi (x4)), v5, v6]) (st' := [(zq_vi (1)), (zq_vi (x4)), (.ref (zz_SC)), (.ref (0))]) (fun _ _ _ => rfl) ?_
  refine zq_iadd rfl ?_
  obtain ⟨g_1, w⟩ := w
  refine zq_scr rfl hX g_1.1 g_1.2 ?_
  refine zq_run 3 (pc' := 517) (L' := [(.ref (zz_SC)), (.ref (0)), (.ref (232)), (.ref (259)), (zq_vi (x4)), v5, v6]) (st' := [(zq_vi (2)), (zq_vi (x4)), (.ref (zz_SC)), (zq_vi ((X.2 (x4 + 1).toNat).toInt)), (.ref (0))]) (fun _ _ _ => rfl) ?_
  refine zq_iadd rfl ?_
  obtain ⟨g_2, w⟩ := w
  refine zq_scr rfl hX g_2.1 g_2.2 ?_
  refine zq_i2c rfl ?_
  refine zq_call_i (i := .invokestatic 114) (r := [1, 239, 3, 0, 0]) rfl rfl (fun _ _ => rfl) (of_decide_eq_false rfl) w (fun x_4 s_3 hx_5 w => ?_)
  refine zq_run 5 (pc' := 530) (L' := [(.ref (zz_SC)), (.ref (0)), (.ref (232)), (.ref (259)), (zq_vi (x4)), (zq_vi (x_4)), v6]) (st' := [(zq_vi (1)), (zq_vi (x4)), (.ref (zz_SC)), (.ref (232))]) (fun _ _ _ => rfl) ?_
  refine zq_iadd rfl ?_
  obtain ⟨g_6, w⟩ := w
  refine zq_scr rfl hX g_6.1 g_6.2 ?_
  refine zq_run 3 (pc' := 536) (L' := [(.ref (zz_SC)), (.ref (0)), (.ref (232)), (.ref (259)), (zq_vi (x4)), (zq_vi (x_4)), v6]) (st' := [(zq_vi (2)), (zq_vi (x4)), (.ref (zz_SC)), (zq_vi ((X.2 (x4 + 1).toNat).toInt)), (.ref (232))]) (fun _ _ _ => rfl) ?_
  refine zq_iadd rfl ?_
  obtain ⟨g_7, w⟩ := w
  refine zq_scr rfl hX g_7.1 g_7.2 ?_
  refine zq_i2c rfl ?_
  refine zq_call_v (i := .invokevirtual 117) (r := [1, 219, 2, 1, 9]) rfl rfl (fun h hp => zr_avv rfl (hp.obj zq_a232)) (of_decide_eq_false rfl) w (fun s_8 w => ?_)
  refine zq_run 1 (pc' := 543) (L' := [(.ref (zz_SC)), (.ref (0)), (.ref (232)), (.ref (259)), (zq_vi (x4)), (zq_vi (x_4)), v6]) (st' := [(.ref (232))]) (fun _ _ _ => rfl) ?_
  refine zq_call_i (i := .invokevirtual 82) (r := [1, 141, 0, 1, 9]) rfl rfl (fun h hp => zr_avv rfl (hp.obj zq_a232)) (of_decide_eq_false rfl) w (fun x_10 s_9 hx_11 w => ?_)
  refine zq_run 1 (pc' := 548) (L' := [(.ref (zz_SC)), (.ref (0)), (.ref (232)), (.ref (259)), (zq_vi (x4)), (zq_vi (x_4)), v6]) (st' := [(zq_vi (x_4)), (zq_vi (x_10))]) (fun _ _ _ => rfl) ?_
  refine zq_eq rfl hx_11 hx_5 (fun hb_12 => ?_) (fun hb_12 => ?_)
  · rw [if_pos hb_12] at w
    refine zq_run 1 (pc' := 967) (L' := [(.ref (zz_SC)), (.ref (0)), (.ref (232)), (.ref (259)), (zq_vi (x4)), (zq_vi (x_4)), v6]) (st' := []) (fun _ _ _ => rfl) ?_
    exact w
  · rw [if_neg hb_12] at w
    refine zq_run 1 (pc' := 552) (L' := [(.ref (zz_SC)), (.ref (0)), (.ref (232)), (.ref (259)), (zq_vi (x4)), (zq_vi (x_4)), v6]) (st' := [(zq_vi (0))]) (fun _ _ _ => rfl) ?_
    exact zq_iret rfl rfl (congrArg Value.int (zq_nb (of_decide_eq_true rfl))) (⟨_, rfl, (of_decide_eq_true rfl), w⟩)
set_option maxRecDepth 100000 in
/-- PaperObjectsLaw.law at 556 -/
theorem zw_0_556 {X : Nat × (Nat → Int32)} (hX : X.1 < 10000) {s : zq_S} {K : Int → zq_S → Prop} {x4 : Int} (hx4 : zq_iv x4) {v5 : Value} (hv5 : v5.category = 1) {v6 : Value} (hv6 : v6.category = 1) (w : (((0 : Int) ≤ x4 + 1 ∧ x4 + 1 < (X.1 : Int)) ∧ (zq_Ex X 240 0 [(.ref (0)), (zq_vi ((X.2 (x4 + 1).toNat).toInt)), zz_no] [] s (zq_rp zq_iv fun x_3 s_2 => (((0 : Int) ≤ x4 + 1 ∧ x4 + 1 < (X.1 : Int)) ∧ (zq_Ex X 220 0 [(.ref (232)), (zq_vi ((X.2 (x4 + 1).toNat).toInt))] [] s_2 (zq_rv fun s_6 => (zq_Ex X 141 0 [(.ref (232))] [] s_6 (zq_rp zq_iv fun x_8 s_7 => (if x_8 = x_3 then zq_Ex X 0 967 [(.ref (zz_SC)), (.ref (0)), (.ref (232)), (.ref (259)), (zq_vi (x4)), (zq_vi (x_3)), v6] [] s_7 (zq_rp zq_bo K) else K (0) s_7)))))))))) : zq_Ex X 0 556 [(.ref (zz_SC)), (.ref (0)), (.ref (232)), (.ref (259)), (zq_vi (x4)), v5, v6] [] s (zq_rp zq_bo K) := by
  refine zq_run 4 (pc' := 561) (L' := [(.ref (zz_SC)), (.ref (0)), (.ref (232)), (.ref (259)), (zq_vi (x4)), v5, v6]) (st' := [(zq_vi (1)), (zq_vi (x4)), (.ref (zz_SC)), (.ref (0))]) (fun _ _ _ => rfl) ?_
  refine zq_iadd rfl ?_
  obtain ⟨g_1, w⟩ := w
  refine zq_scr rfl hX g_1.1 g_1.2 ?_
  refine zq_call_i (i := .invokestatic 118) (r := [1, 240, 2, 0, 0]) rfl rfl (fun _ _ => rfl) (of_decide_eq_false rfl) w (fun x_3 s_2 hx_4 w => ?_)
  refine zq_run 5 (pc' := 573) (L' := [(.ref (zz_SC)), (.ref (0)), (.ref (232)), (.ref (259)), (zq_vi (x4)), (zq_vi (x_3)), v6]) (st' := [(zq_vi (1)), (zq_vi (x4)), (.ref (zz_SC)), (.ref (232))]) (fun _ _ _ => rfl) ?_
  refine zq_iadd rfl ?_
  obtain ⟨g_5, w⟩ := w
  refine zq_scr rfl hX g_5.1 g_5.2 ?_
  refine zq_call_v (i := .invokevirtual 120) (r := [1, 220, 1, 1, 9]) rfl rfl (fun h hp => zr_avv rfl (hp.obj zq_a232)) (of_decide_eq_false rfl) w (fun s_6 w => ?_)
  refine zq_run 1 (pc' := 579) (L' := [(.ref (zz_SC)), (.ref (0)), (.ref (232)), (.ref (259)), (zq_vi (x4)), (zq_vi (x_3)), v6]) (st' := [(.ref (232))]) (fun _ _ _ => rfl) ?_
  refine zq_call_i (i := .invokevirtual 82) (r := [1, 141, 0, 1, 9]) rfl rfl (fun h hp => zr_avv rfl (hp.obj zq_a232)) (of_decide_eq_false rfl) w (fun x_8 s_7 hx_9 w => ?_)
  refine zq_run 1 (pc' := 584) (L' := [(.ref (zz_SC)), (.ref (0)), (.ref (232)), (.ref (259)), (zq_vi (x4)), (zq_vi (x_3)), v6]) (st' := [(zq_vi (x_3)), (zq_vi (x_8))]) (fun _ _ _ => rfl) ?_
  refine zq_eq rfl hx_9 hx_4 (fun hb_10 => ?_) (fun hb_10 => ?_)
  · rw [if_pos hb_10] at w
    refine zq_run 1 (pc' := 967) (L' := [(.ref (zz_SC)), (.ref (0)), (.ref (232)), (.ref (259)), (zq_vi (x4)), (zq_vi (x_3)), v6]) (st' := []) (fun _ _ _ => rfl) ?_
    exact w
  · rw [if_neg hb_10] at w
    refine zq_run 1 (pc' := 588) (L' := [(.ref (zz_SC)), (.ref (0)), (.ref (232)), (.ref (259)), (zq_vi (x4)), (zq_vi (x_3)), v6]) (st' := [(zq_vi (0))]) (fun _ _ _ => rfl) ?_
    exact zq_iret rfl rfl (congrArg Value.int (zq_nb (of_decide_eq_true rfl))) (⟨_, rfl, (of_decide_eq_true rfl), w⟩)
set_option maxRecDepth 100000 in
/-- PaperObjectsLaw.law at 592 -/
theorem zw_0_592 {X : Nat × (Nat → Int32)} {s : zq_S} {K : Int → zq_S → Prop} {x4 : Int} (hx4 : zq_iv x4) {v5 : Value} (hv5 : v5.category = 1) {v6 : Value} (hv6 : v6.category = 1) (w : (zq_Ex X 13 0 [(.ref (0))] [] s (zq_rp zq_iv fun x_2 s_1 => (zq_Ex X 221 0 [(.ref (232))] [] s_1 (zq_rp zq_iv fun x_5 s_4 => (if x_2 = x_5 then zq_Ex X 0 967 [(.ref (zz_SC)), (.ref (0)), (.ref (232)), (.ref (259)), (zq_vi (x4)), v5, v6] [] s_4 (zq_rp zq_bo K) else K (0) s_4)))))) : zq_Ex X 0 592 [(.ref (zz_SC)), (.ref (0)), (.ref (232)), (.ref (259)), (zq_vi (x4)), v5, v6] [] s (zq_rp zq_bo K) := by
  refine zq_run 1 (pc' := 593) (L' := [(.ref (zz_SC)), (.ref (0)), (.ref (232)), (.ref (259)), (zq_vi (x4)), v5, v6]) (st' := [(.ref (0))]) (fun _ _ _ => rfl) ?_
  refine zq_call_i (i := .invokevirtual 121) (r := [1, 13, 0, 1, 0]) rfl rfl (fun h hp => zr_avv rfl (hp.obj zq_a0)) (of_decide_eq_false rfl) w (fun x_2 s_1 hx_3 w => ?_)
  refine zq_run 1 (pc' := 597) (L' := [(.ref (zz_SC)), (.ref (0)), (.ref (232)), (.ref (259)), (zq_vi (x4)), v5, v6]) (st' := [(.ref (232)), (zq_vi (x_2))]) (fun _ _ _ => rfl) ?_
  refine zq_call_i (i := .invokevirtual 124) (r := [1, 221, 0, 1, 9]) rfl rfl (fun h hp => zr_avv rfl (hp.obj zq_a232)) (of_decide_eq_false rfl) w (fun x_5 s_4 hx_6 w => ?_)
  refine zq_eq rfl hx_3 hx_6 (fun hb_7 => ?_) (fun hb_7 => ?_)
  · rw [if_pos hb_7] at w
    exact w
  · rw [if_neg hb_7] at w
    refine zq_run 1 (pc' := 604) (L' := [(.ref (zz_SC)), (.ref (0)), (.ref (232)), (.ref (259)), (zq_vi (x4)), v5, v6]) (st' := [(zq_vi (0))]) (fun _ _ _ => rfl) ?_
    exact zq_iret rfl rfl (congrArg Value.int (zq_nb (of_decide_eq_true rfl))) (⟨_, rfl, (of_decide_eq_true rfl), w⟩)
set_option maxRecDepth 100000 in
/-- PaperObjectsLaw.law at 605 -/
theorem zw_0_605 {X : Nat × (Nat → Int32)} (hX : X.1 < 10000) {s : zq_S} {K : Int → zq_S → Prop} {x4 : Int} (hx4 : zq_iv x4) {v5 : Value} (hv5 : v5.category = 1) {v6 : Value} (hv6 : v6.category = 1) (w : (((0 : Int) ≤ x4 + 1 ∧ x4 + 1 < (X.1 : Int)) ∧ (zq_Ex X 241 0 [(.ref (0)), (zq_vi ((X.2 (x4 + 1).toNat).toInt)), (.ref (259)), zz_no] [] s (zq_rp zq_iv fun x_3 s_2 => (((0 : Int) ≤ x4 + 1 ∧ x4 + 1 < (X.1 : Int)) ∧ (zq_Ex X 222 0 [(.ref (232)), (zq_vi ((X.2 (x4 + 1).toNat).toInt))] [] s_2 (zq_rp zq_iv fun x_7 s_6 => (zq_Ex X 141 0 [(.ref (232))] [] s_6 (zq_rp zq_iv fun x_10 s_9 => (if x_10 = x_3 then (if x_3 = 0 then (if (zq_l s_9 (259) (0)) = ((Int32.ofInt (x_7)).toInt64) then zq_Ex X 0 967 [(.ref (zz_SC)), (.ref (0)), (.ref (232)), (.ref (259)), (zq_vi (x4)), (zq_vi (x_3)), (zq_vi (x_7))] [] s_9 (zq_rp zq_bo K) else K (0) s_9) else zq_Ex X 0 967 [(.ref (zz_SC)), (.ref (0)), (.ref (232)), (.ref (259)), (zq_vi (x4)), (zq_vi (x_3)), (zq_vi (x_7))] [] s_9 (zq_rp zq_bo K)) else K (0) s_9)))))))))) : zq_Ex X 0 605 [(.ref (zz_SC)), (.ref (0)), (.ref (232)), (.ref (259)), (zq_vi (x4)), v5, v6] [] s (zq_rp zq_bo K) := by
  refine zq_run 4 (pc' := 610) (L' := [(.ref (zz_SC)), (.ref (0)), (.ref (232)), (.ref (259)), (zq_vi (x4)), v5, v6]) (st' := [(zq_vi (1)), (zq_vi (x4)), (.ref (zz_SC)), (.ref (0))]) (fun _ _ _ => rfl) ?_
  refine zq_iadd rfl ?_
  obtain ⟨g_1, w⟩ := w
  refine zq_scr rfl hX g_1.1 g_1.2 ?_
  refine zq_run 1 (pc' := 613) (L' := [(.ref (zz_SC)), (.ref (0)), (.ref (232)), (.ref (259)), (zq_vi (x4)), v5, v6]) (st' := [(.ref (259)), (zq_vi ((X.2 (x4 + 1).toNat).toInt)), (.ref (0))]) (fun _ _ _ => rfl) ?_
  refine zq_call_i (i := .invokestatic 125) (r := [1, 241, 3, 0, 0]) rfl rfl (fun _ _ => rfl) (of_decide_eq_false rfl) w (fun x_3 s_2 hx_4 w => ?_)
  refine zq_run 5 (pc' := 623) (L' := [(.ref (zz_SC)), (.ref (0)), (.ref (232)), (.ref (259)), (zq_vi (x4)), (zq_vi (x_3)), v6]) (st' := [(zq_vi (1)), (zq_vi (x4)), (.ref (zz_SC)), (.ref (232))]) (fun _ _ _ => rfl) ?_
  refine zq_iadd rfl ?_
  obtain ⟨g_5, w⟩ := w
  refine zq_scr rfl hX g_5.1 g_5.2 ?_
  refine zq_call_i (i := .invokevirtual 128) (r := [1, 222, 1, 1, 9]) rfl rfl (fun h hp => zr_avv rfl (hp.obj zq_a232)) (of_decide_eq_false rfl) w (fun x_7 s_6 hx_8 w => ?_)
  refine zq_run 2 (pc' := 631) (L' := [(.ref (zz_SC)), (.ref (0)), (.ref (232)), (.ref (259)), (zq_vi (x4)), (zq_vi (x_3)), (zq_vi (x_7))]) (st' := [(.ref (232))]) (fun _ _ _ => rfl) ?_
  refine zq_call_i (i := .invokevirtual 82) (r := [1, 141, 0, 1, 9]) rfl rfl (fun h hp => zr_avv rfl (hp.obj zq_a232)) (of_decide_eq_false rfl) w (fun x_10 s_9 hx_11 w => ?_)
  refine zq_run 1 (pc' := 636) (L' := [(.ref (zz_SC)), (.ref (0)), (.ref (232)), (.ref (259)), (zq_vi (x4)), (zq_vi (x_3)), (zq_vi (x_7))]) (st' := [(zq_vi (x_3)), (zq_vi (x_10))]) (fun _ _ _ => rfl) ?_
  refine zq_eq rfl hx_11 hx_4 (fun hb_12 => ?_) (fun hb_12 => ?_)
  · rw [if_pos hb_12] at w
    refine zq_run 1 (pc' := 643) (L' := [(.ref (zz_SC)), (.ref (0)), (.ref (232)), (.ref (259)), (zq_vi (x4)), (zq_vi (x_3)), (zq_vi (x_7))]) (st' := [(zq_vi (x_3))]) (fun _ _ _ => rfl) ?_
    refine zq_ne0 rfl hx_4 (fun hb_13 => ?_) (fun hb_13 => ?_)
    · rw [if_neg hb_13] at w
      refine zq_run 1 (pc' := 967) (L' := [(.ref (zz_SC)), (.ref (0)), (.ref (232)), (.ref (259)), (zq_vi (x4)), (zq_vi (x_3)), (zq_vi (x_7))]) (st' := []) (fun _ _ _ => rfl) ?_
      exact w
    · rw [if_pos hb_13] at w
      refine zq_run 2 (pc' := 648) (L' := [(.ref (zz_SC)), (.ref (0)), (.ref (232)), (.ref (259)), (zq_vi (x4)), (zq_vi (x_3)), (zq_vi (x_7))]) (st' := [(zq_vi (0)), (.ref (259))]) (fun _ _ _ => rfl) ?_
      refine zq_ald_l (v := zq_l s_9 (259) (0)) rfl zq_a259 (of_decide_eq_true rfl) (of_decide_eq_true rfl) rfl ?_
      refine zq_run 2 (pc' := 652) (L' := [(.ref (zz_SC)), (.ref (0)), (.ref (232)), (.ref (259)), (zq_vi (x4)), (zq_vi (x_3)), (zq_vi (x_7))]) (st' := [(.long ((Int32.ofInt (x_7)).toInt64)), (.long (zq_l s_9 (259) (0)))]) (fun _ _ _ => rfl) ?_
      refine zq_lceq rfl rfl (fun hb_14 => ?_) (fun hb_14 => ?_)
      · rw [if_pos hb_14] at w
        refine zq_run 1 (pc' := 967) (L' := [(.ref (zz_SC)), (.ref (0)), (.ref (232)), (.ref (259)), (zq_vi (x4)), (zq_vi (x_3)), (zq_vi (x_7))]) (st' := []) (fun _ _ _ => rfl) ?_
        exact w
      · rw [if_neg hb_14] at w
        refine zq_run 1 (pc' := 657) (L' := [(.ref (zz_SC)), (.ref (0)), (.ref (232)), (.ref (259)), (zq_vi (x4)), (zq_vi (x_3)), (zq_vi (x_7))]) (st' := [(zq_vi (0))]) (fun _ _ _ => rfl) ?_
        exact zq_iret rfl rfl (congrArg Value.int (zq_nb (of_decide_eq_true rfl))) (⟨_, rfl, (of_decide_eq_true rfl), w⟩)
  · rw [if_neg hb_12] at w
    refine zq_run 1 (pc' := 640) (L' := [(.ref (zz_SC)), (.ref (0)), (.ref (232)), (.ref (259)), (zq_vi (x4)), (zq_vi (x_3)), (zq_vi (x_7))]) (st' := [(zq_vi (0))]) (fun _ _ _ => rfl) ?_
    exact zq_iret rfl rfl (congrArg Value.int (zq_nb (of_decide_eq_true rfl))) (⟨_, rfl, (of_decide_eq_true rfl), w⟩)
set_option maxRecDepth 100000 in
/-- PaperObjectsLaw.law at 661 -/
theorem zw_0_661 {X : Nat × (Nat → Int32)} (hX : X.1 < 10000) {s : zq_S} {K : Int → zq_S → Prop} {x4 : Int} (hx4 : zq_iv x4) {v5 : Value} (hv5 : v5.category = 1) {v6 : Value} (hv6 : v6.category = 1) (w : (((0 : Int) ≤ x4 + 1 ∧ x4 + 1 < (X.1 : Int)) ∧ (zq_Ex X 242 0 [(.ref (0)), (zq_vi ((X.2 (x4 + 1).toNat).toInt)), (.ref (259)), zz_no] [] s (zq_rp zq_iv fun x_3 s_2 => (((0 : Int) ≤ x4 + 1 ∧ x4 + 1 < (X.1 : Int)) ∧ (zq_Ex X 223 0 [(.ref (232)), (zq_vi ((X.2 (x4 + 1).toNat).toInt)), zz_no] [] s_2 (zq_rp zq_iv fun x_7 s_6 => (zq_Ex X 141 0 [(.ref (232))] [] s_6 (zq_rp zq_iv fun x_10 s_9 => (if x_10 = x_3 then (if x_3 = 0 then (if (zq_l s_9 (259) (0)) = ((Int32.ofInt (x_7)).toInt64) then zq_Ex X 0 967 [(.ref (zz_SC)), (.ref (0)), (.ref (232)), (.ref (259)), (zq_vi (x4)), (zq_vi (x_3)), (zq_vi (x_7))] [] s_9 (zq_rp zq_bo K) else K (0) s_9) else zq_Ex X 0 967 [(.ref (zz_SC)), (.ref (0)), (.ref (232)), (.ref (259)), (zq_vi (x4)), (zq_vi (x_3)), (zq_vi (x_7))] [] s_9 (zq_rp zq_bo K)) else K (0) s_9)))))))))) : zq_Ex X 0 661 [(.ref (zz_SC)), (.ref (0)), (.ref (232)), (.ref (259)), (zq_vi (x4)), v5, v6] [] s (zq_rp zq_bo K) := by
  refine zq_run 4 (pc' := 666) (L' := [(.ref (zz_SC)), (.ref (0)), (.ref (232)), (.ref (259)), (zq_vi (x4)), v5, v6]) (st' := [(zq_vi (1)), (zq_vi (x4)), (.ref (zz_SC)), (.ref (0))]) (fun _ _ _ => rfl) ?_
  refine zq_iadd rfl ?_
  obtain ⟨g_1, w⟩ := w
  refine zq_scr rfl hX g_1.1 g_1.2 ?_
  refine zq_run 1 (pc' := 669) (L' := [(.ref (zz_SC)), (.ref (0)), (.ref (232)), (.ref (259)), (zq_vi (x4)), v5, v6]) (st' := [(.ref (259)), (zq_vi ((X.2 (x4 + 1).toNat).toInt)), (.ref (0))]) (fun _ _ _ => rfl) ?_
  refine zq_call_i (i := .invokestatic 129) (r := [1, 242, 3, 0, 0]) rfl rfl (fun _ _ => rfl) (of_decide_eq_false rfl) w (fun x_3 s_2 hx_4 w => ?_)
  refine zq_run 5 (pc' := 679) (L' := [(.ref (zz_SC)), (.ref (0)), (.ref (232)), (.ref (259)), (zq_vi (x4)), (zq_vi (x_3)), v6]) (st' := [(zq_vi (1)), (zq_vi (x4)), (.ref (zz_SC)), (.ref (232))]) (fun _ _ _ => rfl) ?_
  refine zq_iadd rfl ?_
  obtain ⟨g_5, w⟩ := w
  refine zq_scr rfl hX g_5.1 g_5.2 ?_
  refine zq_call_i (i := .invokevirtual 131) (r := [1, 223, 1, 1, 9]) rfl rfl (fun h hp => zr_avv rfl (hp.obj zq_a232)) (of_decide_eq_false rfl) w (fun x_7 s_6 hx_8 w => ?_)
  refine zq_run 2 (pc' := 687) (L' := [(.ref (zz_SC)), (.ref (0)), (.ref (232)), (.ref (259)), (zq_vi (x4)), (zq_vi (x_3)), (zq_vi (x_7))]) (st' := [(.ref (232))]) (fun _ _ _ => rfl) ?_
  refine zq_call_i (i := .invokevirtual 82) (r := [1, 141, 0, 1, 9]) rfl rfl (fun h hp => zr_avv rfl (hp.obj zq_a232)) (of_decide_eq_false rfl) w (fun x_10 s_9 hx_11 w => ?_)
  refine zq_run 1 (pc' := 692) (L' := [(.ref (zz_SC)), (.ref (0)), (.ref (232)), (.ref (259)), (zq_vi (x4)), (zq_vi (x_3)), (zq_vi (x_7))]) (st' := [(zq_vi (x_3)), (zq_vi (x_10))]) (fun _ _ _ => rfl) ?_
  refine zq_eq rfl hx_11 hx_4 (fun hb_12 => ?_) (fun hb_12 => ?_)
  · rw [if_pos hb_12] at w
    refine zq_run 1 (pc' := 699) (L' := [(.ref (zz_SC)), (.ref (0)), (.ref (232)), (.ref (259)), (zq_vi (x4)), (zq_vi (x_3)), (zq_vi (x_7))]) (st' := [(zq_vi (x_3))]) (fun _ _ _ => rfl) ?_
    refine zq_ne0 rfl hx_4 (fun hb_13 => ?_) (fun hb_13 => ?_)
    · rw [if_neg hb_13] at w
      refine zq_run 1 (pc' := 967) (L' := [(.ref (zz_SC)), (.ref (0)), (.ref (232)), (.ref (259)), (zq_vi (x4)), (zq_vi (x_3)), (zq_vi (x_7))]) (st' := []) (fun _ _ _ => rfl) ?_
      exact w
    · rw [if_pos hb_13] at w
      refine zq_run 2 (pc' := 704) (L' := [(.ref (zz_SC)), (.ref (0)), (.ref (232)), (.ref (259)), (zq_vi (x4)), (zq_vi (x_3)), (zq_vi (x_7))]) (st' := [(zq_vi (0)), (.ref (259))]) (fun _ _ _ => rfl) ?_
      refine zq_ald_l (v := zq_l s_9 (259) (0)) rfl zq_a259 (of_decide_eq_true rfl) (of_decide_eq_true rfl) rfl ?_
      refine zq_run 2 (pc' := 708) (L' := [(.ref (zz_SC)), (.ref (0)), (.ref (232)), (.ref (259)), (zq_vi (x4)), (zq_vi (x_3)), (zq_vi (x_7))]) (st' := [(.long ((Int32.ofInt (x_7)).toInt64)), (.long (zq_l s_9 (259) (0)))]) (fun _ _ _ => rfl) ?_
      refine zq_lceq rfl rfl (fun hb_14 => ?_) (fun hb_14 => ?_)
      · rw [if_pos hb_14] at w
        refine zq_run 1 (pc' := 967) (L' := [(.ref (zz_SC)), (.ref (0)), (.ref (232)), (.ref (259)), (zq_vi (x4)), (zq_vi (x_3)), (zq_vi (x_7))]) (st' := []) (fun _ _ _ => rfl) ?_
        exact w
      · rw [if_neg hb_14] at w
        refine zq_run 1 (pc' := 713) (L' := [(.ref (zz_SC)), (.ref (0)), (.ref (232)), (.ref (259)), (zq_vi (x4)), (zq_vi (x_3)), (zq_vi (x_7))]) (st' := [(zq_vi (0))]) (fun _ _ _ => rfl) ?_
        exact zq_iret rfl rfl (congrArg Value.int (zq_nb (of_decide_eq_true rfl))) (⟨_, rfl, (of_decide_eq_true rfl), w⟩)
  · rw [if_neg hb_12] at w
    refine zq_run 1 (pc' := 696) (L' := [(.ref (zz_SC)), (.ref (0)), (.ref (232)), (.ref (259)), (zq_vi (x4)), (zq_vi (x_3)), (zq_vi (x_7))]) (st' := [(zq_vi (0))]) (fun _ _ _ => rfl) ?_
    exact zq_iret rfl rfl (congrArg Value.int (zq_nb (of_decide_eq_true rfl))) (⟨_, rfl, (of_decide_eq_true rfl), w⟩)
set_option maxRecDepth 100000 in
/-- PaperObjectsLaw.law at 717 -/
theorem zw_0_717 {X : Nat × (Nat → Int32)} (hX : X.1 < 10000) {s : zq_S} {K : Int → zq_S → Prop} {x4 : Int} (hx4 : zq_iv x4) {v5 : Value} (hv5 : v5.category = 1) {v6 : Value} (hv6 : v6.category = 1) (w : (((0 : Int) ≤ x4 + 1 ∧ x4 + 1 < (X.1 : Int)) ∧ (zq_Ex X 243 0 [(.ref (0)), (zq_vi ((X.2 (x4 + 1).toNat).toInt)), (.ref (259)), zz_no] [] s (zq_rp zq_iv fun x_3 s_2 => (((0 : Int) ≤ x4 + 1 ∧ x4 + 1 < (X.1 : Int)) ∧ (zq_Ex X 224 0 [(.ref (232)), (zq_vi ((X.2 (x4 + 1).toNat).toInt))] [] s_2 (zq_rp zq_iv fun x_7 s_6 => (zq_Ex X 141 0 [(.ref (232))] [] s_6 (zq_rp zq_iv fun x_10 s_9 => (if x_10 = x_3 then (if x_3 = 0 then (if (zq_l s_9 (259) (0)) = ((Int32.ofInt (x_7)).toInt64) then zq_Ex X 0 967 [(.ref (zz_SC)), (.ref (0)), (.ref (232)), (.ref (259)), (zq_vi (x4)), (zq_vi (x_3)), (zq_vi (x_7))] [] s_9 (zq_rp zq_bo K) else K (0) s_9) else zq_Ex X 0 967 [(.ref (zz_SC)), (.ref (0)), (.ref (232)), (.ref (259)), (zq_vi (x4)), (zq_vi (x_3)), (zq_vi (x_7))] [] s_9 (zq_rp zq_bo K)) else K (0) s_9)))))))))) : zq_Ex X 0 717 [(.ref (zz_SC)), (.ref (0)), (.ref (232)), (.ref (259)), (zq_vi (x4)), v5, v6] [] s (zq_rp zq_bo K) := by
  refine zq_run 4 (pc' := 722) (L' := [(.ref (zz_SC)), (.ref (0)), (.ref (232)), (.ref (259)), (zq_vi (x4)), v5, v6]) (st' := [(zq_vi (1)), (zq_vi (x4)), (.ref (zz_SC)), (.ref (0))]) (fun _ _ _ => rfl) ?_
  refine zq_iadd rfl ?_
  obtain ⟨g_1, w⟩ := w
  refine zq_scr rfl hX g_1.1 g_1.2 ?_
  refine zq_run 1 (pc' := 725) (L' := [(.ref (zz_SC)), (.ref (0)), (.ref (232)), (.ref (259)), (zq_vi (x4)), v5, v6]) (st' := [(.ref (259)), (zq_vi ((X.2 (x4 + 1).toNat).toInt)), (.ref (0))]) (fun _ _ _ => rfl) ?_
  refine zq_call_i (i := .invokestatic 132) (r := [1, 243, 3, 0, 0]) rfl rfl (fun _ _ => rfl) (of_decide_eq_false rfl) w (fun x_3 s_2 hx_4 w => ?_)
  refine zq_run 5 (pc' := 735) (L' := [(.ref (zz_SC)), (.ref (0)), (.ref (232)), (.ref (259)), (zq_vi (x4)), (zq_vi (x_3)), v6]) (st' := [(zq_vi (1)), (zq_vi (x4)), (.ref (zz_SC)), (.ref (232))]) (fun _ _ _ => rfl) ?_
  refine zq_iadd rfl ?_
  obtain ⟨g_5, w⟩ := w
  refine zq_scr rfl hX g_5.1 g_5.2 ?_
  refine zq_call_i (i := .invokevirtual 134) (r := [1, 224, 1, 1, 9]) rfl rfl (fun h hp => zr_avv rfl (hp.obj zq_a232)) (of_decide_eq_false rfl) w (fun x_7 s_6 hx_8 w => ?_)
  refine zq_run 2 (pc' := 743) (L' := [(.ref (zz_SC)), (.ref (0)), (.ref (232)), (.ref (259)), (zq_vi (x4)), (zq_vi (x_3)), (zq_vi (x_7))]) (st' := [(.ref (232))]) (fun _ _ _ => rfl) ?_
  refine zq_call_i (i := .invokevirtual 82) (r := [1, 141, 0, 1, 9]) rfl rfl (fun h hp => zr_avv rfl (hp.obj zq_a232)) (of_decide_eq_false rfl) w (fun x_10 s_9 hx_11 w => ?_)
  refine zq_run 1 (pc' := 748) (L' := [(.ref (zz_SC)), (.ref (0)), (.ref (232)), (.ref (259)), (zq_vi (x4)), (zq_vi (x_3)), (zq_vi (x_7))]) (st' := [(zq_vi (x_3)), (zq_vi (x_10))]) (fun _ _ _ => rfl) ?_
  refine zq_eq rfl hx_11 hx_4 (fun hb_12 => ?_) (fun hb_12 => ?_)
  · rw [if_pos hb_12] at w
    refine zq_run 1 (pc' := 755) (L' := [(.ref (zz_SC)), (.ref (0)), (.ref (232)), (.ref (259)), (zq_vi (x4)), (zq_vi (x_3)), (zq_vi (x_7))]) (st' := [(zq_vi (x_3))]) (fun _ _ _ => rfl) ?_
    refine zq_ne0 rfl hx_4 (fun hb_13 => ?_) (fun hb_13 => ?_)
    · rw [if_neg hb_13] at w
      refine zq_run 1 (pc' := 967) (L' := [(.ref (zz_SC)), (.ref (0)), (.ref (232)), (.ref (259)), (zq_vi (x4)), (zq_vi (x_3)), (zq_vi (x_7))]) (st' := []) (fun _ _ _ => rfl) ?_
      exact w
    · rw [if_pos hb_13] at w
      refine zq_run 2 (pc' := 760) (L' := [(.ref (zz_SC)), (.ref (0)), (.ref (232)), (.ref (259)), (zq_vi (x4)), (zq_vi (x_3)), (zq_vi (x_7))]) (st' := [(zq_vi (0)), (.ref (259))]) (fun _ _ _ => rfl) ?_
      refine zq_ald_l (v := zq_l s_9 (259) (0)) rfl zq_a259 (of_decide_eq_true rfl) (of_decide_eq_true rfl) rfl ?_
      refine zq_run 2 (pc' := 764) (L' := [(.ref (zz_SC)), (.ref (0)), (.ref (232)), (.ref (259)), (zq_vi (x4)), (zq_vi (x_3)), (zq_vi (x_7))]) (st' := [(.long ((Int32.ofInt (x_7)).toInt64)), (.long (zq_l s_9 (259) (0)))]) (fun _ _ _ => rfl) ?_
      refine zq_lceq rfl rfl (fun hb_14 => ?_) (fun hb_14 => ?_)
      · rw [if_pos hb_14] at w
        refine zq_run 1 (pc' := 967) (L' := [(.ref (zz_SC)), (.ref (0)), (.ref (232)), (.ref (259)), (zq_vi (x4)), (zq_vi (x_3)), (zq_vi (x_7))]) (st' := []) (fun _ _ _ => rfl) ?_
        exact w
      · rw [if_neg hb_14] at w
        refine zq_run 1 (pc' := 769) (L' := [(.ref (zz_SC)), (.ref (0)), (.ref (232)), (.ref (259)), (zq_vi (x4)), (zq_vi (x_3)), (zq_vi (x_7))]) (st' := [(zq_vi (0))]) (fun _ _ _ => rfl) ?_
        exact zq_iret rfl rfl (congrArg Value.int (zq_nb (of_decide_eq_true rfl))) (⟨_, rfl, (of_decide_eq_true rfl), w⟩)
  · rw [if_neg hb_12] at w
    refine zq_run 1 (pc' := 752) (L' := [(.ref (zz_SC)), (.ref (0)), (.ref (232)), (.ref (259)), (zq_vi (x4)), (zq_vi (x_3)), (zq_vi (x_7))]) (st' := [(zq_vi (0))]) (fun _ _ _ => rfl) ?_
    exact zq_iret rfl rfl (congrArg Value.int (zq_nb (of_decide_eq_true rfl))) (⟨_, rfl, (of_decide_eq_true rfl), w⟩)
set_option maxRecDepth 100000 in
/-- PaperObjectsLaw.law at 773 -/
theorem zw_0_773 {X : Nat × (Nat → Int32)} (hX : X.1 < 10000) {s : zq_S} {K : Int → zq_S → Prop} {x4 : Int} (hx4 : zq_iv x4) {v5 : Value} (hv5 : v5.category = 1) {v6 : Value} (hv6 : v6.category = 1) (w : (((0 : Int) ≤ x4 + 1 ∧ x4 + 1 < (X.1 : Int)) ∧ (zq_Ex X 244 0 [(.ref (0)), (zq_vi ((X.2 (x4 + 1).toNat).toInt)), (.ref (259)), zz_no] [] s (zq_rp zq_iv fun x_3 s_2 => (((0 : Int) ≤ x4 + 1 ∧ x4 + 1 < (X.1 : Int)) ∧ (zq_Ex X 226 0 [(.ref (232)), (zq_vi ((X.2 (x4 + 1).toNat).toInt)), zz_no, zz_no] [] s_2 (zq_rp zq_iv fun x_7 s_6 => (zq_Ex X 141 0 [(.ref (232))] [] s_6 (zq_rp zq_iv fun x_10 s_9 => (if x_10 = x_3 then (if x_3 = 0 then (if (zq_l s_9 (259) (0)) = ((Int32.ofInt (x_7)).toInt64) then zq_Ex X 0 967 [(.ref (zz_SC)), (.ref (0)), (.ref (232)), (.ref (259)), (zq_vi (x4)), (zq_vi (x_3)), (zq_vi (x_7))] [] s_9 (zq_rp zq_bo K) else K (0) s_9) else zq_Ex X 0 967 [(.ref (zz_SC)), (.ref (0)), (.ref (232)), (.ref (259)), (zq_vi (x4)), (zq_vi (x_3)), (zq_vi (x_7))] [] s_9 (zq_rp zq_bo K)) else K (0) s_9)))))))))) : zq_Ex X 0 773 [(.ref (zz_SC)), (.ref (0)), (.ref (232)), (.ref (259)), (zq_vi (x4)), v5, v6] [] s (zq_rp zq_bo K) := by
  refine zq_run 4 (pc' := 778) (L' := [(.ref (zz_SC)), (.ref (0)), (.ref (232)), (.ref (259)), (zq_vi (x4)), v5, v6]) (st' := [(zq_vi (1)), (zq_vi (x4)), (.ref (zz_SC)), (.ref (0))]) (fun _ _ _ => rfl) ?_
  refine zq_iadd rfl ?_
  obtain ⟨g_1, w⟩ := w
  refine zq_scr rfl hX g_1.1 g_1.2 ?_
  refine zq_run 1 (pc' := 781) (L' := [(.ref (zz_SC)), (.ref (0)), (.ref (232)), (.ref (259)), (zq_vi (x4)), v5, v6]) (st' := [(.ref (259)), (zq_vi ((X.2 (x4 + 1).toNat).toInt)), (.ref (0))]) (fun _ _ _ => rfl) ?_
  refine zq_call_i (i := .invokestatic 135) (r := [1, 244, 3, 0, 0]) rfl rfl (fun _ _ => rfl) (of_decide_eq_false rfl) w (fun x_3 s_2 hx_4 w => ?_)
  refine zq_run 5 (pc' := 791) (L' := [(.ref (zz_SC)), (.ref (0)), (.ref (232)), (.ref (259)), (zq_vi (x4)), (zq_vi (x_3)), v6]) (st' := [(zq_vi (1)), (zq_vi (x4)), (.ref (zz_SC)), (.ref (232))]) (fun _ _ _ => rfl) ?_
  refine zq_iadd rfl ?_
  obtain ⟨g_5, w⟩ := w
  refine zq_scr rfl hX g_5.1 g_5.2 ?_
  refine zq_call_i (i := .invokevirtual 137) (r := [1, 226, 1, 1, 9]) rfl rfl (fun h hp => zr_avv rfl (hp.obj zq_a232)) (of_decide_eq_false rfl) w (fun x_7 s_6 hx_8 w => ?_)
  refine zq_run 2 (pc' := 799) (L' := [(.ref (zz_SC)), (.ref (0)), (.ref (232)), (.ref (259)), (zq_vi (x4)), (zq_vi (x_3)), (zq_vi (x_7))]) (st' := [(.ref (232))]) (fun _ _ _ => rfl) ?_
  refine zq_call_i (i := .invokevirtual 82) (r := [1, 141, 0, 1, 9]) rfl rfl (fun h hp => zr_avv rfl (hp.obj zq_a232)) (of_decide_eq_false rfl) w (fun x_10 s_9 hx_11 w => ?_)
  refine zq_run 1 (pc' := 804) (L' := [(.ref (zz_SC)), (.ref (0)), (.ref (232)), (.ref (259)), (zq_vi (x4)), (zq_vi (x_3)), (zq_vi (x_7))]) (st' := [(zq_vi (x_3)), (zq_vi (x_10))]) (fun _ _ _ => rfl) ?_
  refine zq_eq rfl hx_11 hx_4 (fun hb_12 => ?_) (fun hb_12 => ?_)
  · rw [if_pos hb_12] at w
    refine zq_run 1 (pc' := 811) (L' := [(.ref (zz_SC)), (.ref (0)), (.ref (232)), (.ref (259)), (zq_vi (x4)), (zq_vi (x_3)), (zq_vi (x_7))]) (st' := [(zq_vi (x_3))]) (fun _ _ _ => rfl) ?_
    refine zq_ne0 rfl hx_4 (fun hb_13 => ?_) (fun hb_13 => ?_)
    · rw [if_neg hb_13] at w
      refine zq_run 1 (pc' := 967) (L' := [(.ref (zz_SC)), (.ref (0)), (.ref (232)), (.ref (259)), (zq_vi (x4)), (zq_vi (x_3)), (zq_vi (x_7))]) (st' := []) (fun _ _ _ => rfl) ?_
      exact w
    · rw [if_pos hb_13] at w
      refine zq_run 2 (pc' := 816) (L' := [(.ref (zz_SC)), (.ref (0)), (.ref (232)), (.ref (259)), (zq_vi (x4)), (zq_vi (x_3)), (zq_vi (x_7))]) (st' := [(zq_vi (0)), (.ref (259))]) (fun _ _ _ => rfl) ?_
      refine zq_ald_l (v := zq_l s_9 (259) (0)) rfl zq_a259 (of_decide_eq_true rfl) (of_decide_eq_true rfl) rfl ?_
      refine zq_run 2 (pc' := 820) (L' := [(.ref (zz_SC)), (.ref (0)), (.ref (232)), (.ref (259)), (zq_vi (x4)), (zq_vi (x_3)), (zq_vi (x_7))]) (st' := [(.long ((Int32.ofInt (x_7)).toInt64)), (.long (zq_l s_9 (259) (0)))]) (fun _ _ _ => rfl) ?_
      refine zq_lceq rfl rfl (fun hb_14 => ?_) (fun hb_14 => ?_)
      · rw [if_pos hb_14] at w
        refine zq_run 1 (pc' := 967) (L' := [(.ref (zz_SC)), (.ref (0)), (.ref (232)), (.ref (259)), (zq_vi (x4)), (zq_vi (x_3)), (zq_vi (x_7))]) (st' := []) (fun _ _ _ => rfl) ?_
        exact w
      · rw [if_neg hb_14] at w
        refine zq_run 1 (pc' := 825) (L' := [(.ref (zz_SC)), (.ref (0)), (.ref (232)), (.ref (259)), (zq_vi (x4)), (zq_vi (x_3)), (zq_vi (x_7))]) (st' := [(zq_vi (0))]) (fun _ _ _ => rfl) ?_
        exact zq_iret rfl rfl (congrArg Value.int (zq_nb (of_decide_eq_true rfl))) (⟨_, rfl, (of_decide_eq_true rfl), w⟩)
  · rw [if_neg hb_12] at w
    refine zq_run 1 (pc' := 808) (L' := [(.ref (zz_SC)), (.ref (0)), (.ref (232)), (.ref (259)), (zq_vi (x4)), (zq_vi (x_3)), (zq_vi (x_7))]) (st' := [(zq_vi (0))]) (fun _ _ _ => rfl) ?_
    exact zq_iret rfl rfl (congrArg Value.int (zq_nb (of_decide_eq_true rfl))) (⟨_, rfl, (of_decide_eq_true rfl), w⟩)
set_option maxRecDepth 100000 in
/-- PaperObjectsLaw.law at 829 -/
theorem zw_0_829 {X : Nat × (Nat → Int32)} {s : zq_S} {K : Int → zq_S → Prop} {x4 : Int} (hx4 : zq_iv x4) {v5 : Value} (hv5 : v5.category = 1) {v6 : Value} (hv6 : v6.category = 1) (w : (zq_Ex X 245 0 [(.ref (0)), (.ref (259)), zz_no] [] s (zq_rp zq_iv fun x_2 s_1 => (zq_Ex X 227 0 [(.ref (232))] [] s_1 (zq_rp zq_iv fun x_5 s_4 => (zq_Ex X 141 0 [(.ref (232))] [] s_4 (zq_rp zq_iv fun x_8 s_7 => (if x_8 = x_2 then (if x_2 = 0 then (if (zq_l s_7 (259) (0)) = ((Int32.ofInt (x_5)).toInt64) then zq_Ex X 0 967 [(.ref (zz_SC)), (.ref (0)), (.ref (232)), (.ref (259)), (zq_vi (x4)), (zq_vi (x_2)), (zq_vi (x_5))] [] s_7 (zq_rp zq_bo K) else K (0) s_7) else zq_Ex X 0 967 [(.ref (zz_SC)), (.ref (0)), (.ref (232)), (.ref (259)), (zq_vi (x4)), (zq_vi (x_2)), (zq_vi (x_5))] [] s_7 (zq_rp zq_bo K)) else K (0) s_7)))))))) : zq_Ex X 0 829 [(.ref (zz_SC)), (.ref (0)), (.ref (232)), (.ref (259)), (zq_vi (x4)), v5, v6] [] s (zq_rp zq_bo K) := by
  refine zq_run 2 (pc' := 831) (L' := [(.ref (zz_SC)), (.ref (0)), (.ref (232)), (.ref (259)), (zq_vi (x4)), v5, v6]) (st' := [(.ref (259)), (.ref (0))]) (fun _ _ _ => rfl) ?_
  refine zq_call_i (i := .invokestatic 138) (r := [1, 245, 2, 0, 0]) rfl rfl (fun _ _ => rfl) (of_decide_eq_false rfl) w (fun x_2 s_1 hx_3 w => ?_)
  refine zq_run 2 (pc' := 837) (L' := [(.ref (zz_SC)), (.ref (0)), (.ref (232)), (.ref (259)), (zq_vi (x4)), (zq_vi (x_2)), v6]) (st' := [(.ref (232))]) (fun _ _ _ => rfl) ?_
  refine zq_call_i (i := .invokevirtual 140) (r := [1, 227, 0, 1, 9]) rfl rfl (fun h hp => zr_avv rfl (hp.obj zq_a232)) (of_decide_eq_false rfl) w (fun x_5 s_4 hx_6 w => ?_)
  refine zq_run 2 (pc' := 843) (L' := [(.ref (zz_SC)), (.ref (0)), (.ref (232)), (.ref (259)), (zq_vi (x4)), (zq_vi (x_2)), (zq_vi (x_5))]) (st' := [(.ref (232))]) (fun _ _ _ => rfl) ?_
  refine zq_call_i (i := .invokevirtual 82) (r := [1, 141, 0, 1, 9]) rfl rfl (fun h hp => zr_avv rfl (hp.obj zq_a232)) (of_decide_eq_false rfl) w (fun x_8 s_7 hx_9 w => ?_)
  refine zq_run 1 (pc' := 848) (L' := [(.ref (zz_SC)), (.ref (0)), (.ref (232)), (.ref (259)), (zq_vi (x4)), (zq_vi (x_2)), (zq_vi (x_5))]) (st' := [(zq_vi (x_2)), (zq_vi (x_8))]) (fun _ _ _ => rfl) ?_
  refine zq_eq rfl hx_9 hx_3 (fun hb_10 => ?_) (fun hb_10 => ?_)
  · rw [if_pos hb_10] at w
    refine zq_run 1 (pc' := 855) (L' := [(.ref (zz_SC)), (.ref (0)), (.ref (232)), (.ref (259)), (zq_vi (x4)), (zq_vi (x_2)), (zq_vi (x_5))]) (st' := [(zq_vi (x_2))]) (fun _ _ _ => rfl) ?_
    refine zq_ne0 rfl hx_3 (fun hb_11 => ?_) (fun hb_11 => ?_)
    · rw [if_neg hb_11] at w
      refine zq_run 1 (pc' := 967) (L' := [(.ref (zz_SC)), (.ref (0)), (.ref (232)), (.ref (259)), (zq_vi (x4)), (zq_vi (x_2)), (zq_vi (x_5))]) (st' := []) (fun _ _ _ => rfl) ?_
      exact w
    · rw [if_pos hb_11] at w
      refine zq_run 2 (pc' := 860) (L' := [(.ref (zz_SC)), (.ref (0)), (.ref (232)), (.ref (259)), (zq_vi (x4)), (zq_vi (x_2)), (zq_vi (x_5))]) (st' := [(zq_vi (0)), (.ref (259))]) (fun _ _ _ => rfl) ?_
      refine zq_ald_l (v := zq_l s_7 (259) (0)) rfl zq_a259 (of_decide_eq_true rfl) (of_decide_eq_true rfl) rfl ?_
      refine zq_run 2 (pc' := 864) (L' := [(.ref (zz_SC)), (.ref (0)), (.ref (232)), (.ref (259)), (zq_vi (x4)), (zq_vi (x_2)), (zq_vi (x_5))]) (st' := [(.long ((Int32.ofInt (x_5)).toInt64)), (.long (zq_l s_7 (259) (0)))]) (fun _ _ _ => rfl) ?_
      refine zq_lceq rfl rfl (fun hb_12 => ?_) (fun hb_12 => ?_)
      · rw [if_pos hb_12] at w
        refine zq_run 1 (pc' := 967) (L' := [(.ref (zz_SC)), (.ref (0)), (.ref (232)), (.ref (259)), (zq_vi (x4)), (zq_vi (x_2)), (zq_vi (x_5))]) (st' := []) (fun _ _ _ => rfl) ?_
        exact w
      · rw [if_neg hb_12] at w
        refine zq_run 1 (pc' := 869) (L' := [(.ref (zz_SC)), (.ref (0)), (.ref (232)), (.ref (259)), (zq_vi (x4)), (zq_vi (x_2)), (zq_vi (x_5))]) (st' := [(zq_vi (0))]) (fun _ _ _ => rfl) ?_
        exact zq_iret rfl rfl (congrArg Value.int (zq_nb (of_decide_eq_true rfl))) (⟨_, rfl, (of_decide_eq_true rfl), w⟩)
  · rw [if_neg hb_10] at w
    refine zq_run 1 (pc' := 852) (L' := [(.ref (zz_SC)), (.ref (0)), (.ref (232)), (.ref (259)), (zq_vi (x4)), (zq_vi (x_2)), (zq_vi (x_5))]) (st' := [(zq_vi (0))]) (fun _ _ _ => rfl) ?_
    exact zq_iret rfl rfl (congrArg Value.int (zq_nb (of_decide_eq_true rfl))) (⟨_, rfl, (of_decide_eq_true rfl), w⟩)
set_option maxRecDepth 100000 in
/-- PaperObjectsLaw.law at 873 -/
theorem zw_0_873 {X : Nat × (Nat → Int32)} (hX : X.1 < 10000) {s : zq_S} {K : Int → zq_S → Prop} {x4 : Int} (hx4 : zq_iv x4) {v5 : Value} (hv5 : v5.category = 1) {v6 : Value} (hv6 : v6.category = 1) (w : (((0 : Int) ≤ x4 + 1 ∧ x4 + 1 < (X.1 : Int)) ∧ (zq_Ex X 246 0 [(.ref (0)), (zq_vi ((X.2 (x4 + 1).toNat).toInt)), (.ref (259)), zz_no] [] s (zq_rp zq_iv fun x_3 s_2 => (((0 : Int) ≤ x4 + 1 ∧ x4 + 1 < (X.1 : Int)) ∧ (zq_Ex X 228 0 [(.ref (232)), (zq_vi ((X.2 (x4 + 1).toNat).toInt)), zz_no, zz_no, zz_no] [] s_2 (zq_rp zq_iv fun x_7 s_6 => (zq_Ex X 141 0 [(.ref (232))] [] s_6 (zq_rp zq_iv fun x_10 s_9 => (if x_10 = x_3 then (if x_3 = 0 then (if (zq_l s_9 (259) (0)) = ((Int32.ofInt (x_7)).toInt64) then zq_Ex X 0 967 [(.ref (zz_SC)), (.ref (0)), (.ref (232)), (.ref (259)), (zq_vi (x4)), (zq_vi (x_3)), (zq_vi (x_7))] [] s_9 (zq_rp zq_bo K) else K (0) s_9) else zq_Ex X 0 967 [(.ref (zz_SC)), (.ref (0)), (.ref (232)), (.ref (259)), (zq_vi (x4)), (zq_vi (x_3)), (zq_vi (x_7))] [] s_9 (zq_rp zq_bo K)) else K (0) s_9)))))))))) : zq_Ex X 0 873 [(.ref (zz_SC)), (.ref (0)), (.ref (232)), (.ref (259)), (zq_vi (x4)), v5, v6] [] s (zq_rp zq_bo K) := by
  refine zq_run 4 (pc' := 878) (L' := [(.ref (zz_SC)), (.ref (0)), (.ref (232)), (.ref (259)), (zq_vi (x4)), v5, v6]) (st' := [(zq_vi (1)), (zq_vi (x4)), (.ref (zz_SC)), (.ref (0))]) (fun _ _ _ => rfl) ?_
  refine zq_iadd rfl ?_
  obtain ⟨g_1, w⟩ := w
  refine zq_scr rfl hX g_1.1 g_1.2 ?_
  refine zq_run 1 (pc' := 881) (L' := [(.ref (zz_SC)), (.ref (0)), (.ref (232)), (.ref (259)), (zq_vi (x4)), v5, v6]) (st' := [(.ref (259)), (zq_vi ((X.2 (x4 + 1).toNat).toInt)), (.ref (0))]) (fun _ _ _ => rfl) ?_
  refine zq_call_i (i := .invokestatic 141) (r := [1, 246, 3, 0, 0]) rfl rfl (fun _ _ => rfl) (of_decide_eq_false rfl) w (fun x_3 s_2 hx_4 w => ?_)
  refine zq_run 5 (pc' := 891) (L' := [(.ref (zz_SC)), (.ref (0)), (.ref (232)), (.ref (259)), (zq_vi (x4)), (zq_vi (x_3)), v6]) (st' := [(zq_vi (1)), (zq_vi (x4)), (.ref (zz_SC)), (.ref (232))]) (fun _ _ _ => rfl) ?_
  refine zq_iadd rfl ?_
  obtain ⟨g_5, w⟩ := w
  refine zq_scr rfl hX g_5.1 g_5.2 ?_
  refine zq_call_i (i := .invokevirtual 143) (r := [1, 228, 1, 1, 9]) rfl rfl (fun h hp => zr_avv rfl (hp.obj zq_a232)) (of_decide_eq_false rfl) w (fun x_7 s_6 hx_8 w => ?_)
  refine zq_run 2 (pc' := 899) (L' := [(.ref (zz_SC)), (.ref (0)), (.ref (232)), (.ref (259)), (zq_vi (x4)), (zq_vi (x_3)), (zq_vi (x_7))]) (st' := [(.ref (232))]) (fun _ _ _ => rfl) ?_
  refine zq_call_i (i := .invokevirtual 82) (r := [1, 141, 0, 1, 9]) rfl rfl (fun h hp => zr_avv rfl (hp.obj zq_a232)) (of_decide_eq_false rfl) w (fun x_10 s_9 hx_11 w => ?_)
  refine zq_run 1 (pc' := 904) (L' := [(.ref (zz_SC)), (.ref (0)), (.ref (232)), (.ref (259)), (zq_vi (x4)), (zq_vi (x_3)), (zq_vi (x_7))]) (st' := [(zq_vi (x_3)), (zq_vi (x_10))]) (fun _ _ _ => rfl) ?_
  refine zq_eq rfl hx_11 hx_4 (fun hb_12 => ?_) (fun hb_12 => ?_)
  · rw [if_pos hb_12] at w
    refine zq_run 1 (pc' := 911) (L' := [(.ref (zz_SC)), (.ref (0)), (.ref (232)), (.ref (259)), (zq_vi (x4)), (zq_vi (x_3)), (zq_vi (x_7))]) (st' := [(zq_vi (x_3))]) (fun _ _ _ => rfl) ?_
    refine zq_ne0 rfl hx_4 (fun hb_13 => ?_) (fun hb_13 => ?_)
    · rw [if_neg hb_13] at w
      refine zq_run 1 (pc' := 967) (L' := [(.ref (zz_SC)), (.ref (0)), (.ref (232)), (.ref (259)), (zq_vi (x4)), (zq_vi (x_3)), (zq_vi (x_7))]) (st' := []) (fun _ _ _ => rfl) ?_
      exact w
    · rw [if_pos hb_13] at w
      refine zq_run 2 (pc' := 916) (L' := [(.ref (zz_SC)), (.ref (0)), (.ref (232)), (.ref (259)), (zq_vi (x4)), (zq_vi (x_3)), (zq_vi (x_7))]) (st' := [(zq_vi (0)), (.ref (259))]) (fun _ _ _ => rfl) ?_
      refine zq_ald_l (v := zq_l s_9 (259) (0)) rfl zq_a259 (of_decide_eq_true rfl) (of_decide_eq_true rfl) rfl ?_
      refine zq_run 2 (pc' := 920) (L' := [(.ref (zz_SC)), (.ref (0)), (.ref (232)), (.ref (259)), (zq_vi (x4)), (zq_vi (x_3)), (zq_vi (x_7))]) (st' := [(.long ((Int32.ofInt (x_7)).toInt64)), (.long (zq_l s_9 (259) (0)))]) (fun _ _ _ => rfl) ?_
      refine zq_lceq rfl rfl (fun hb_14 => ?_) (fun hb_14 => ?_)
      · rw [if_pos hb_14] at w
        refine zq_run 1 (pc' := 967) (L' := [(.ref (zz_SC)), (.ref (0)), (.ref (232)), (.ref (259)), (zq_vi (x4)), (zq_vi (x_3)), (zq_vi (x_7))]) (st' := []) (fun _ _ _ => rfl) ?_
        exact w
      · rw [if_neg hb_14] at w
        refine zq_run 1 (pc' := 925) (L' := [(.ref (zz_SC)), (.ref (0)), (.ref (232)), (.ref (259)), (zq_vi (x4)), (zq_vi (x_3)), (zq_vi (x_7))]) (st' := [(zq_vi (0))]) (fun _ _ _ => rfl) ?_
        exact zq_iret rfl rfl (congrArg Value.int (zq_nb (of_decide_eq_true rfl))) (⟨_, rfl, (of_decide_eq_true rfl), w⟩)
  · rw [if_neg hb_12] at w
    refine zq_run 1 (pc' := 908) (L' := [(.ref (zz_SC)), (.ref (0)), (.ref (232)), (.ref (259)), (zq_vi (x4)), (zq_vi (x_3)), (zq_vi (x_7))]) (st' := [(zq_vi (0))]) (fun _ _ _ => rfl) ?_
    exact zq_iret rfl rfl (congrArg Value.int (zq_nb (of_decide_eq_true rfl))) (⟨_, rfl, (of_decide_eq_true rfl), w⟩)
set_option maxRecDepth 100000 in
/-- PaperObjectsLaw.law at 929 -/
theorem zw_0_929 {X : Nat × (Nat → Int32)} (hX : X.1 < 10000) {s : zq_S} {K : Int → zq_S → Prop} {x4 : Int} (hx4 : zq_iv x4) {v5 : Value} (hv5 : v5.category = 1) {v6 : Value} (hv6 : v6.category = 1) (w : (((0 : Int) ≤ x4 + 1 ∧ x4 + 1 < (X.1 : Int)) ∧ (zq_Ex X 14 0 [(.ref (0)), (zq_vi ((X.2 (x4 + 1).toNat).toInt))] [] s (zq_rp zq_iv fun x_3 s_2 => (((0 : Int) ≤ x4 + 1 ∧ x4 + 1 < (X.1 : Int)) ∧ (zq_Ex X 230 0 [(.ref (232)), (zq_vi ((X.2 (x4 + 1).toNat).toInt)), zz_no] [] s_2 (zq_rp zq_iv fun x_7 s_6 => (if x_3 = x_7 then zq_Ex X 0 967 [(.ref (zz_SC)), (.ref (0)), (.ref (232)), (.ref (259)), (zq_vi (x4)), v5, v6] [] s_6 (zq_rp zq_bo K) else K (0) s_6)))))))) : zq_Ex X 0 929 [(.ref (zz_SC)), (.ref (0)), (.ref (232)), (.ref (259)), (zq_vi (x4)), v5, v6] [] s (zq_rp zq_bo K) := by
  refine zq_run 4 (pc' := 934) (L' := [(.ref (zz_SC)), (.ref (0)), (.ref (232)), (.ref (259)), (zq_vi (x4)), v5, v6]) (st' := [(zq_vi (1)), (zq_vi (x4)), (.ref (zz_SC)), (.ref (0))]) (fun _ _ _ => rfl) ?_
  refine zq_iadd rfl ?_
  obtain ⟨g_1, w⟩ := w
  refine zq_scr rfl hX g_1.1 g_1.2 ?_
  refine zq_call_i (i := .invokevirtual 144) (r := [1, 14, 1, 1, 0]) rfl rfl (fun h hp => zr_avv rfl (hp.obj zq_a0)) (of_decide_eq_false rfl) w (fun x_3 s_2 hx_4 w => ?_)
  refine zq_run 4 (pc' := 944) (L' := [(.ref (zz_SC)), (.ref (0)), (.ref (232)), (.ref (259)), (zq_vi (x4)), v5, v6]) (st' := [(zq_vi (1)), (zq_vi (x4)), (.ref (zz_SC)), (.ref (232)), (zq_vi (x_3))]) (fun _ _ _ => rfl) ?_
  refine zq_iadd rfl ?_
  obtain ⟨g_5, w⟩ := w
  refine zq_scr rfl hX g_5.1 g_5.2 ?_
  refine zq_call_i (i := .invokevirtual 147) (r := [1, 230, 1, 1, 9]) rfl rfl (fun h hp => zr_avv rfl (hp.obj zq_a232)) (of_decide_eq_false rfl) w (fun x_7 s_6 hx_8 w => ?_)
  refine zq_eq rfl hx_4 hx_8 (fun hb_9 => ?_) (fun hb_9 => ?_)
  · rw [if_pos hb_9] at w
    exact w
  · rw [if_neg hb_9] at w
    refine zq_run 1 (pc' := 953) (L' := [(.ref (zz_SC)), (.ref (0)), (.ref (232)), (.ref (259)), (zq_vi (x4)), v5, v6]) (st' := [(zq_vi (0))]) (fun _ _ _ => rfl) ?_
    exact zq_iret rfl rfl (congrArg Value.int (zq_nb (of_decide_eq_true rfl))) (⟨_, rfl, (of_decide_eq_true rfl), w⟩)
set_option maxRecDepth 100000 in
/-- PaperObjectsLaw.law at 954 -/
theorem zw_0_954 {X : Nat × (Nat → Int32)} {s : zq_S} {K : Int → zq_S → Prop} {x4 : Int} (hx4 : zq_iv x4) {v5 : Value} (hv5 : v5.category = 1) {v6 : Value} (hv6 : v6.category = 1) (w : (zq_Ex X 30 0 [(.ref (0))] [] s (zq_rp zq_iv fun x_2 s_1 => (zq_Ex X 231 0 [(.ref (232))] [] s_1 (zq_rp zq_iv fun x_5 s_4 => (if x_2 = x_5 then zq_Ex X 0 967 [(.ref (zz_SC)), (.ref (0)), (.ref (232)), (.ref (259)), (zq_vi (x4)), v5, v6] [] s_4 (zq_rp zq_bo K) else K (0) s_4)))))) : zq_Ex X 0 954 [(.ref (zz_SC)), (.ref (0)), (.ref (232)), (.ref (259)), (zq_vi (x4)), v5, v6] [] s (zq_rp zq_bo K) := by
  refine zq_run 1 (pc' := 955) (L' := [(.ref (zz_SC)), (.ref (0)), (.ref (232)), (.ref (259)), (zq_vi (x4)), v5, v6]) (st' := [(.ref (0))]) (fun _ _ _ => rfl) ?_
  refine zq_call_i (i := .invokevirtual 148) (r := [1, 30, 0, 1, 0]) rfl rfl (fun h hp => zr_avv rfl (hp.obj zq_a0)) (of_decide_eq_false rfl) w (fun x_2 s_1 hx_3 w => ?_)
  refine zq_run 1 (pc' := 959) (L' := [(.ref (zz_SC)), (.ref (0)), (.ref (232)), (.ref (259)), (zq_vi (x4)), v5, v6]) (st' := [(.ref (232)), (zq_vi (x_2))]) (fun _ _ _ => rfl) ?_
  refine zq_call_i (i := .invokevirtual 151) (r := [1, 231, 0, 1, 9]) rfl rfl (fun h hp => zr_avv rfl (hp.obj zq_a232)) (of_decide_eq_false rfl) w (fun x_5 s_4 hx_6 w => ?_)
  refine zq_eq rfl hx_3 hx_6 (fun hb_7 => ?_) (fun hb_7 => ?_)
  · rw [if_pos hb_7] at w
    exact w
  · rw [if_neg hb_7] at w
    refine zq_run 1 (pc' := 966) (L' := [(.ref (zz_SC)), (.ref (0)), (.ref (232)), (.ref (259)), (zq_vi (x4)), v5, v6]) (st' := [(zq_vi (0))]) (fun _ _ _ => rfl) ?_
    exact zq_iret rfl rfl (congrArg Value.int (zq_nb (of_decide_eq_true rfl))) (⟨_, rfl, (of_decide_eq_true rfl), w⟩)
set_option maxRecDepth 100000 in
/-- PaperObjectsLaw.law at 967 -/
theorem zw_0_967 {X : Nat × (Nat → Int32)} {s : zq_S} {K : Int → zq_S → Prop} {x4 : Int} (hx4 : zq_iv x4) {v5 : Value} (hv5 : v5.category = 1) {v6 : Value} (hv6 : v6.category = 1) (w : zq_Ex X 0 23 [(.ref (zz_SC)), (.ref (0)), (.ref (232)), (.ref (259)), (zq_vi (x4 + 3)), v5, v6] [] s (zq_rp zq_bo K)) : zq_Ex X 0 967 [(.ref (zz_SC)), (.ref (0)), (.ref (232)), (.ref (259)), (zq_vi (x4)), v5, v6] [] s (zq_rp zq_bo K) := by
  refine zq_iinc (L' := [(.ref (zz_SC)), (.ref (0)), (.ref (232)), (.ref (259)), (zq_vi (x4 + 3)), v5, v6]) rfl rfl rfl ?_
  refine zq_run 1 (pc' := 23) (L' := [(.ref (zz_SC)), (.ref (0)), (.ref (232)), (.ref (259)), (zq_vi (x4 + 3)), v5, v6]) (st' := []) (fun _ _ _ => rfl) ?_
  exact w
