/-! save: the tail of a file -/
abbrev yX_sx : List Int := [115, 116, 97, 114, 116, 120, 114, 101, 102, 10]
abbrev yX_ef : List Int := [10, 37, 37, 69, 79, 70, 10]
set_option maxRecDepth 100000 in
theorem yX_s12 : zq_str 12 = yX_sx := by decide +kernel
set_option maxRecDepth 100000 in
theorem yX_s11 : zq_str 11 = yX_ef := by decide +kernel
def yp_kk (T : Int → Int) (e : Int) : Int := if yp_dg (T (e - 1)) = true then (if yp_dg (T (e - 2)) = true then (if yp_dg (T (e - 3)) = true then 3 else 2) else 1) else 0
def yp_tl (T : Int → Int) (e : Int) : Int := if yp_has T yX_sx (e - yp_kk T e - 10) = true ∧ yp_has T yX_ef e = true then yp_dgs T (e - yp_kk T e) e else -1
set_option maxRecDepth 100000 in
theorem yp_dg_cd (c : Int) : yp_dg (yp_cd c) = yp_dg c := by
  unfold yp_cd
  split
  · next h => subst h; rfl
  · rfl
set_option maxRecDepth 100000 in
theorem yp_kk_b (T : Int → Int) (e : Int) : 0 ≤ yp_kk T e ∧ yp_kk T e ≤ 3 := by
  unfold yp_kk
  split
  · split
    · split <;> omega
    · omega
  · omega
set_option maxRecDepth 100000 in
theorem yp_tl_b {T : Int → Int} (e : Int) : -1 ≤ yp_tl T e ∧ yp_tl T e < 1000000 := by
  unfold yp_tl
  split
  · unfold yp_dgs
    split
    · omega
    · next h =>
      split
      · next h2 =>
        have := yp_val_6 h2 (by omega)
        omega
      · omega
  · omega
section YLD5
variable {X : Nat × (Nat → Int32)}
set_option maxRecDepth 100000 in
theorem ys_87 {s : zq_S} {K : Int → zq_S → Prop} {a : Nat} (ha : zq_o 1 a) (ho : yc_ok s a) (hl : zq_i s a 1 ≤ 1000) (k : K (yp_tl (yc_t s a) (zq_i s a 1 - 7)) s) : zq_Ex X 87 0 [.ref a, zz_no, zz_no, zz_no] [] s (zq_rp zq_iv K) := by
  have h0 := ho.1
  obtain ⟨e, he⟩ : ∃ e, e = zq_i s a 1 - 7 := ⟨_, rfl⟩
  rw [← he] at k
  have fin : ∀ x2 : Int, x2 = e - yp_kk (yc_t s a) e → zq_Ex X 49 0 [(.ref (a)), (zq_vi (x2 - 10)), (.ref (1000000 + 12)), zz_no] [] s (zq_rp zq_bo fun x_4 s_3 => (if x_4 = 0 then K ((-1)) s_3 else (zq_Ex X 49 0 [(.ref (a)), (zq_vi (e)), (.ref (1000000 + 11)), zz_no] [] s_3 (zq_rp zq_bo fun x_8 s_7 => (if x_8 = 0 then K ((-1)) s_7 else (zq_Ex X 68 0 [(.ref (a)), (zq_vi (x2)), (zq_vi (e)), zz_no, zz_no] [] s_7 (zq_rp zq_iv fun x_12 s_11 => K (x_12) s_11))))))) := fun x2 hx2 => by
    have hk := yp_kk_b (yc_t s a) e
    unfold yp_tl at k
    rw [← hx2] at k
    refine ys_49 ha ho ⟨by omega, by omega⟩ (by decide) (by rw [yX_s12]; decide) (by rw [yX_s12]; decide) ?_
    rw [yX_s12]
    cases h1 : yp_has (yc_t s a) yX_sx (x2 - 10) with
    | false =>
      rw [if_pos (show yb false = 0 from rfl)]
      rw [h1, if_neg (fun z => by cases z.1)] at k
      exact k
    | true =>
      rw [if_neg (show ¬ yb true = 0 by decide)]
      refine ys_49 ha ho ⟨by omega, by omega⟩ (by decide) (by rw [yX_s11]; decide) (by rw [yX_s11]; decide) ?_
      rw [yX_s11]
      cases h2 : yp_has (yc_t s a) yX_ef e with
      | false =>
        rw [if_pos (show yb false = 0 from rfl)]
        rw [h2, if_neg (fun z => by cases z.2)] at k
        exact k
      | true =>
        rw [if_neg (show ¬ yb true = 0 by decide)]
        rw [h1, h2, if_pos ⟨rfl, rfl⟩] at k
        exact ys_68 ha ho ⟨by omega, by omega⟩ ⟨by omega, by omega⟩ k
  -- one more digit
  have step : ∀ (i : Int), 0 ≤ i → i < 3 → (yp_dg (yc_t s a (e - i - 1)) = false → yp_kk (yc_t s a) e = i) → (yp_dg (yc_t s a (e - i - 1)) = true → zq_Ex X 87 13 [.ref a, zq_vi e, zq_vi (e - (i + 1)), zz_no] [] s (zq_rp zq_iv K)) → zq_Ex X 87 13 [.ref a, zq_vi e, zq_vi (e - i), zz_no] [] s (zq_rp zq_iv K) := fun i i0 i3 hd hn => by
    refine zw_87_13 ha ⟨by omega, by omega⟩ ⟨by omega, by omega⟩ rfl ⟨⟨by omega, by omega⟩, ?_⟩
    rw [if_pos (by omega)]
    refine zq_have (fun hR => ?_)
    refine ys_29 ha ho ⟨by omega, by omega⟩ (ys_64 (yp_cd_in hR _) ?_)
    rw [yp_dg_cd]
    cases h1 : yp_dg (yc_t s a (e - i - 1)) with
    | false =>
      rw [if_pos (show yb false = 0 from rfl)]
      exact fin (e - i) (by rw [hd h1])
    | true =>
      rw [if_neg (show ¬ yb true = 0 by decide), show e - i + -1 = e - (i + 1) by omega]
      exact hn h1
  refine zw_87 ha ?_
  rw [← he]
  have k0 : (e : Int) = e - 0 := by omega
  have base := step 0 (by decide) (by decide) (fun h => by unfold yp_kk; rw [show e - 0 - 1 = e - 1 by omega] at h; rw [if_neg (by rw [h]; decide)]) (fun h0 => step (0 + 1) (by decide) (by decide) (fun h => by
    unfold yp_kk
    rw [show e - 0 - 1 = e - 1 by omega] at h0
    rw [show e - (0 + 1) - 1 = e - 2 by omega] at h
    rw [if_pos h0, if_neg (by rw [h]; decide)]
    rfl) (fun h1 => step (0 + 1 + 1) (by decide) (by decide) (fun h => by
    unfold yp_kk
    rw [show e - 0 - 1 = e - 1 by omega] at h0
    rw [show e - (0 + 1) - 1 = e - 2 by omega] at h1
    rw [show e - (0 + 1 + 1) - 1 = e - 3 by omega] at h
    rw [if_pos h0, if_pos h1, if_neg (by rw [h]; decide)]
    rfl) (fun h2 => by
    have hk3 : yp_kk (yc_t s a) e = 3 := by
      unfold yp_kk
      rw [show e - 0 - 1 = e - 1 by omega] at h0
      rw [show e - (0 + 1) - 1 = e - 2 by omega] at h1
      rw [show e - (0 + 1 + 1) - 1 = e - 3 by omega] at h2
      rw [if_pos h0, if_pos h1, if_pos h2]
    refine zw_87_13 ha ⟨by omega, by omega⟩ ⟨by omega, by omega⟩ rfl ⟨⟨by omega, by omega⟩, ?_⟩
    rw [if_neg (by omega)]
    exact fin _ (by rw [hk3]; omega))))
  rw [show e - 0 = e by omega] at base
  exact base
set_option maxRecDepth 100000 in
theorem ys_191 {s : zq_S} {K : Int → zq_S → Prop} (hI : ym_I s) (h0 : 0 ≤ zq_i s 232 3) (k : K (yp_tl (ym_c s 1) (zq_i s 232 3 - 7)) s) : zq_Ex X 191 0 [.ref 232, zz_no, zz_no, zz_no, zz_no] [] s (zq_rp zq_iv K) := by
  have hq : ym_q 1 := ⟨by decide, by decide, Or.inl (by decide)⟩
  have h999 := hI.2.1
  obtain ⟨e, he⟩ : ∃ e, e = zq_i s 232 3 - 7 := ⟨_, rfl⟩
  have hneg : ∀ j : Int, j < 0 → ym_c s 1 j = 0 := fun j hj => by unfold ym_c; rw [if_pos hj]
  rw [← he] at k
  -- no end
  have bad : yp_has (ym_c s 1) yX_ef e = false → zq_Ex X 191 77 [.ref 232, zq_vi e, zq_vi 0, zq_vi e, zz_no] [] s (zq_rp zq_iv K) := fun hf => by
    unfold yp_tl at k
    rw [hf, if_neg (fun z => by cases z.2)] at k
    refine zw_191_77 ⟨by omega, by omega⟩ (Or.inl rfl) ⟨by omega, by omega⟩ rfl ?_
    rw [if_pos rfl]
    refine zw_191_112 ⟨by omega, by omega⟩ (Or.inl rfl) ⟨by omega, by omega⟩ rfl ?_
    rw [if_pos rfl]
    exact k
  have hef : yp_has (ym_c s 1) yX_ef e = decide (ym_c s 1 e = 10 ∧ (ym_c s 1 (e + 1) = 37 ∧ ym_c s 1 (e + 1 + 1) = 37 ∧ ym_c s 1 (e + 1 + 2) = 69 ∧ ym_c s 1 (e + 1 + 3) = 79) ∧ ym_c s 1 (e + 5) = 70 ∧ ym_c s 1 (e + 6) = 10) := by
    rw [Bool.eq_iff_iff, yp_has_at, decide_eq_true_iff]
    constructor
    · intro h
      have g0 := h 0 (by decide)
      have g1 := h 1 (by decide)
      have g2 := h 2 (by decide)
      have g3 := h 3 (by decide)
      have g4 := h 4 (by decide)
      have g5 := h 5 (by decide)
      have g6 := h 6 (by decide)
      simp at g0 g1 g2 g3 g4 g5 g6
      refine ⟨g0, ⟨g1, ?_, ?_, ?_⟩, g5, g6⟩
      · rw [show e + 1 + 1 = e + 2 by omega]; exact g2
      · rw [show e + 1 + 2 = e + 3 by omega]; exact g3
      · rw [show e + 1 + 3 = e + 4 by omega]; exact g4
    · intro ⟨g0, ⟨g1, g2, g3, g4⟩, g5, g6⟩
      rw [show e + 1 + 1 = e + 2 by omega] at g2
      rw [show e + 1 + 2 = e + 3 by omega] at g3
      rw [show e + 1 + 3 = e + 4 by omega] at g4
      refine ye_at_cons.mpr ⟨g0, ye_at_cons.mpr ⟨g1, ye_at_cons.mpr ⟨?_, ye_at_cons.mpr ⟨?_, ye_at_cons.mpr ⟨?_, ye_at_cons.mpr ⟨?_, ye_at_cons.mpr ⟨?_, ye_at_nil _ _⟩⟩⟩⟩⟩⟩⟩
      · rw [show e + 1 + 1 = e + 2 by omega]; exact g2
      · rw [show e + 1 + 1 + 1 = e + 3 by omega]; exact g3
      · rw [show e + 1 + 1 + 1 + 1 = e + 4 by omega]; exact g4
      · rw [show e + 1 + 1 + 1 + 1 + 1 = e + 5 by omega]; exact g5
      · rw [show e + 1 + 1 + 1 + 1 + 1 + 1 = e + 6 by omega]; exact g6
  have hsx : ∀ x : Int, yp_has (ym_c s 1) yX_sx x = decide ((ym_c s 1 x = 115 ∧ ym_c s 1 (x + 1) = 116 ∧ ym_c s 1 (x + 2) = 97 ∧ ym_c s 1 (x + 3) = 114) ∧ (ym_c s 1 (x + 4) = 116 ∧ ym_c s 1 (x + 4 + 1) = 120 ∧ ym_c s 1 (x + 4 + 2) = 114 ∧ ym_c s 1 (x + 4 + 3) = 101) ∧ ym_c s 1 (x + 8) = 102 ∧ ym_c s 1 (x + 9) = 10) := fun x => by
    rw [Bool.eq_iff_iff, yp_has_at, decide_eq_true_iff]
    constructor
    · intro h
      have g0 := h 0 (by decide)
      have g1 := h 1 (by decide)
      have g2 := h 2 (by decide)
      have g3 := h 3 (by decide)
      have g4 := h 4 (by decide)
      have g5 := h 5 (by decide)
      have g6 := h 6 (by decide)
      have g7 := h 7 (by decide)
      have g8 := h 8 (by decide)
      have g9 := h 9 (by decide)
      simp at g0 g1 g2 g3 g4 g5 g6 g7 g8 g9
      refine ⟨⟨g0, g1, g2, g3⟩, ⟨g4, ?_, ?_, ?_⟩, g8, g9⟩
      · rw [show x + 4 + 1 = x + 5 by omega]; exact g5
      · rw [show x + 4 + 2 = x + 6 by omega]; exact g6
      · rw [show x + 4 + 3 = x + 7 by omega]; exact g7
    · intro ⟨⟨g0, g1, g2, g3⟩, ⟨g4, g5, g6, g7⟩, g8, g9⟩
      rw [show x + 4 + 1 = x + 5 by omega] at g5
      rw [show x + 4 + 2 = x + 6 by omega] at g6
      rw [show x + 4 + 3 = x + 7 by omega] at g7
      intro i hi
      have hi : i < 10 := hi
      have hc : i = 0 ∨ i = 1 ∨ i = 2 ∨ i = 3 ∨ i = 4 ∨ i = 5 ∨ i = 6 ∨ i = 7 ∨ i = 8 ∨ i = 9 := by omega
      rcases hc with z | z | z | z | z | z | z | z | z | z <;> subst z
      · simpa using g0
      · exact g1
      · exact g2
      · exact g3
      · exact g4
      · exact g5
      · exact g6
      · exact g7
      · exact g8
      · exact g9
  have hkk := yp_kk_b (ym_c s 1) e
  -- the end is there; i digits have been met
  have main : yp_has (ym_c s 1) yX_ef e = true → 0 ≤ e → zq_Ex X 191 77 [.ref 232, zq_vi e, zq_vi 1, zq_vi e, zz_no] [] s (zq_rp zq_iv K) := fun hf e0 => by
    have fin : ∀ x3 : Int, e - 4 ≤ x3 → x3 ≤ e → (e - x3 < 4 → x3 = e - yp_kk (ym_c s 1) e) → (e - x3 = 4 → yp_kk (ym_c s 1) e = 3 ∧ yp_dg (ym_c s 1 (e - 4)) = true) → (∀ j, x3 ≤ j → j < e → yp_dg (ym_c s 1 j) = true) → zq_Ex X 191 112 [.ref 232, zq_vi e, zq_vi 1, zq_vi x3, zz_no] [] s (zq_rp zq_iv K) := fun x3 b0 b1 h3 h4 hd => by
      unfold yp_tl at k
      refine zw_191_112 ⟨by omega, by omega⟩ (Or.inr rfl) ⟨by omega, by omega⟩ rfl ?_
      rw [if_neg (by decide)]
      refine yl_if (fun hle => ?_) (fun hle => ⟨⟨by omega, by omega⟩, yl_if (fun hlt => ⟨⟨by omega, by omega⟩, ?_⟩) (fun hge => ?_)⟩)
      · have hx : x3 = e := by omega
        have := h3 (by omega)
        have hd0 : yp_dgs (ym_c s 1) (e - yp_kk (ym_c s 1) e) e = -1 := by
          unfold yp_dgs
          rw [if_pos (by omega)]
        rw [hd0, ite_self] at k
        exact k
      · have hx := h3 hlt
        rw [← hx, hf] at k
        refine yl_if (fun hn => ?_) (fun hn => ?_)
        · rw [if_neg (fun z => by
            have z := (yp_has_at _ _).mp z.1
            have z0 := ye_at_hd z
            rw [hneg _ hn] at z0
            cases z0)] at k
          exact k
        · refine ys_164 hI hq (by omega) (by omega) ⟨by decide, by decide⟩ ⟨by decide, by decide⟩ ⟨by decide, by decide⟩ ⟨by decide, by decide⟩ ?_
          rw [hsx] at k
          by_cases c1 : ym_c s 1 (x3 - 10) = 115 ∧ ym_c s 1 (x3 - 10 + 1) = 116 ∧ ym_c s 1 (x3 - 10 + 2) = 97 ∧ ym_c s 1 (x3 - 10 + 3) = 114
          · have e1 : yp_says (ym_c s 1) (x3 - 10) 115 116 97 114 = true := decide_eq_true c1
            rw [e1, if_neg (show ¬ yb true = 0 by decide)]
            refine ys_164 hI hq (by omega) (by omega) ⟨by decide, by decide⟩ ⟨by decide, by decide⟩ ⟨by decide, by decide⟩ ⟨by decide, by decide⟩ ?_
            by_cases c2 : ym_c s 1 (x3 - 10 + 4) = 116 ∧ ym_c s 1 (x3 - 10 + 4 + 1) = 120 ∧ ym_c s 1 (x3 - 10 + 4 + 2) = 114 ∧ ym_c s 1 (x3 - 10 + 4 + 3) = 101
            · have e2 : yp_says (ym_c s 1) (x3 - 10 + 4) 116 120 114 101 = true := decide_eq_true c2
              rw [e2, if_neg (show ¬ yb true = 0 by decide)]
              refine ys_147 hI hq ⟨by omega, by omega⟩ ?_
              refine yl_if (fun c3 => ?_) (fun c3 => ?_)
              · refine ys_147 hI hq ⟨by omega, by omega⟩ ?_
                refine yl_if (fun c4 => ?_) (fun c4 => ?_)
                · rw [decide_eq_true ⟨c1, c2, c3, c4⟩, if_pos ⟨rfl, rfl⟩] at k
                  have hn45 : ym_c s 1 x3 ≠ 45 := fun z => by
                    have := of_decide_eq_true (hd x3 (by omega) (by omega))
                    omega
                  have hall : yp_all (ym_c s 1) (e - x3).toNat x3 = true := by
                    have gen : ∀ (n : Nat) (b : Int), x3 ≤ b → b + n ≤ e → yp_all (ym_c s 1) n b = true := by
                      intro n
                      induction n with
                      | zero => intro b _ _; rfl
                      | succ n ih =>
                        intro b h1 h2
                        show (yp_dg (ym_c s 1 b) && yp_all (ym_c s 1) n (b + 1)) = true
                        rw [hd b h1 (by omega), ih (b + 1) (by omega) (by omega)]
                        rfl
                    exact gen _ x3 (by omega) (by omega)
                  have hfrom : yp_from (ym_c s 1) x3 = x3 := by unfold yp_from; rw [if_neg hn45]
                  have hisI : yp_isI (ym_c s 1) x3 e = true := by
                    unfold yp_isI
                    rw [hfrom, hall, decide_eq_true (by omega)]
                    rfl
                  refine ys_167 hI hq (by omega) (by omega) (by omega) hisI ?_
                  have e9 : yp_num (ym_c s 1) x3 e = yp_dgs (ym_c s 1) x3 e := by
                    unfold yp_num yp_dgs
                    rw [if_neg hn45, if_neg (by omega), if_pos hall]
                  rw [e9]
                  exact k
                · rw [decide_eq_false (fun z => c4 z.2.2.2), if_neg (fun z => by cases z.1)] at k
                  exact k
              · rw [decide_eq_false (fun z => c3 z.2.2.1), if_neg (fun z => by cases z.1)] at k
                exact k
            · have e2 : yp_says (ym_c s 1) (x3 - 10 + 4) 116 120 114 101 = false := decide_eq_false c2
              rw [e2, if_pos (show yb false = 0 from rfl)]
              rw [decide_eq_false (fun z => c2 z.2.1), if_neg (fun z => by cases z.1)] at k
              exact k
          · have e1 : yp_says (ym_c s 1) (x3 - 10) 115 116 97 114 = false := decide_eq_false c1
            rw [e1, if_pos (show yb false = 0 from rfl)]
            rw [decide_eq_false (fun z => c1 z.1), if_neg (fun z => by cases z.1)] at k
            exact k
      · obtain ⟨g1, g2⟩ := h4 (by omega)
        rw [g1, hsx] at k
        rw [decide_eq_false (fun z => by
          have z9 := z.2.2.2
          rw [show e - 3 - 10 + 9 = e - 4 by omega] at z9
          rw [z9] at g2
          cases g2), if_neg (fun z => by cases z.1)] at k
        exact k
    have loop : ∀ (n : Nat) (i : Int), i + n = 4 → 0 ≤ i → (∀ j, e - i ≤ j → j < e → yp_dg (ym_c s 1 j) = true) → zq_Ex X 191 77 [.ref 232, zq_vi e, zq_vi 1, zq_vi (e - i), zz_no] [] s (zq_rp zq_iv K) := by
      intro n
      induction n with
      | zero =>
        intro i hi i0 hd
        have hi : i = 4 := by omega
        subst hi
        have h3 : yp_kk (ym_c s 1) e = 3 := by
          unfold yp_kk
          rw [if_pos (hd (e - 1) (by omega) (by omega)), if_pos (hd (e - 2) (by omega) (by omega)), if_pos (hd (e - 3) (by omega) (by omega))]
        have f4 := fin (e - 4) (by omega) (by omega) (fun z => by omega) (fun _ => ⟨h3, hd (e - 4) (by omega) (by omega)⟩) hd
        refine zw_191_77 ⟨by omega, by omega⟩ (Or.inr rfl) ⟨by omega, by omega⟩ rfl ?_
        rw [if_neg (by decide)]
        refine yl_if (fun _ => f4) (fun hpos => ?_)
        refine ys_147 hI hq ⟨by omega, by omega⟩ ?_
        refine zq_have (fun hR => ys_155 (ym_in hR _ _) ?_)
        cases h1 : yp_dg (ym_c s 1 (e - 4 - 1)) with
        | false => rw [if_pos (show yb false = 0 from rfl)]; exact f4
        | true =>
          rw [if_neg (show ¬ yb true = 0 by decide)]
          refine ⟨⟨by omega, by omega⟩, ?_⟩
          rw [if_neg (by omega)]
          exact f4
      | succ n ih =>
        intro i hi i0 hd
        -- it ends here
        have stop : yp_dg (ym_c s 1 (e - i - 1)) = false → zq_Ex X 191 112 [.ref 232, zq_vi e, zq_vi 1, zq_vi (e - i), zz_no] [] s (zq_rp zq_iv K) := fun hno => by
          refine fin (e - i) (by omega) (by omega) (fun _ => ?_) (fun z => by omega) hd
          have hc : i = 0 ∨ i = 1 ∨ i = 2 ∨ i = 3 := by omega
          have : yp_kk (ym_c s 1) e = i := by
            unfold yp_kk
            rcases hc with z | z | z | z
            · subst z
              rw [show e - 0 - 1 = e - 1 by omega] at hno
              rw [if_neg (by rw [hno]; decide)]
            · subst z
              rw [show e - 1 - 1 = e - 2 by omega] at hno
              rw [if_pos (hd (e - 1) (by omega) (by omega)), if_neg (by rw [hno]; decide)]
            · subst z
              rw [show e - 2 - 1 = e - 3 by omega] at hno
              rw [if_pos (hd (e - 1) (by omega) (by omega)), if_pos (hd (e - 2) (by omega) (by omega)), if_neg (by rw [hno]; decide)]
            · subst z
              rw [if_pos (hd (e - 1) (by omega) (by omega)), if_pos (hd (e - 2) (by omega) (by omega)), if_pos (hd (e - 3) (by omega) (by omega))]
          omega
        refine zw_191_77 ⟨by omega, by omega⟩ (Or.inr rfl) ⟨by omega, by omega⟩ rfl ?_
        rw [if_neg (by decide)]
        refine yl_if (fun hle => stop (by rw [hneg _ (by omega)]; rfl)) (fun hpos => ?_)
        refine ys_147 hI hq ⟨by omega, by omega⟩ ?_
        refine zq_have (fun hR => ys_155 (ym_in hR _ _) ?_)
        cases h1 : yp_dg (ym_c s 1 (e - i - 1)) with
        | false => rw [if_pos (show yb false = 0 from rfl)]; exact stop h1
        | true =>
          rw [if_neg (show ¬ yb true = 0 by decide)]
          refine ⟨⟨by omega, by omega⟩, ?_⟩
          rw [if_pos (by omega), show e - i + -1 = e - (i + 1) by omega]
          refine ih (i + 1) (by omega) (by omega) (fun j j1 j2 => ?_)
          by_cases hj : j = e - i - 1
          · rw [hj]; exact h1
          · exact hd j (by omega) j2
    have := loop 4 0 (by decide) (by decide) (fun j j1 j2 => by omega)
    rw [show e - 0 = e by omega] at this
    exact this
  refine zw_191 ?_
  rw [← he]
  refine ⟨⟨by omega, by omega⟩, yl_if (fun hn => bad ?_) (fun hn => ?_)⟩
  · cases hb : yp_has (ym_c s 1) yX_ef e with
    | false => rfl
    | true =>
      have z0 := ye_at_hd ((yp_has_at _ _).mp hb)
      rw [hneg e hn] at z0
      cases z0
  refine ys_147 hI hq ⟨by omega, by omega⟩ ?_
  refine yl_if (fun c1 => ?_) (fun c1 => bad (by rw [hef, decide_eq_false (fun z => c1 z.1)]))
  refine ys_164 hI hq (by omega) (by omega) ⟨by decide, by decide⟩ ⟨by decide, by decide⟩ ⟨by decide, by decide⟩ ⟨by decide, by decide⟩ ?_
  by_cases c2 : ym_c s 1 (e + 1) = 37 ∧ ym_c s 1 (e + 1 + 1) = 37 ∧ ym_c s 1 (e + 1 + 2) = 69 ∧ ym_c s 1 (e + 1 + 3) = 79
  · have e2 : yp_says (ym_c s 1) (e + 1) 37 37 69 79 = true := decide_eq_true c2
    rw [e2, if_neg (show ¬ yb true = 0 by decide)]
    refine ys_147 hI hq ⟨by omega, by omega⟩ ?_
    refine yl_if (fun c3 => ?_) (fun c3 => bad (by rw [hef, decide_eq_false (fun z => c3 z.2.2.1)]))
    refine ys_147 hI hq ⟨by omega, by omega⟩ ?_
    exact yl_if (fun c4 => main (by rw [hef, decide_eq_true ⟨c1, c2, c3, c4⟩]) (by omega)) (fun c4 => bad (by rw [hef, decide_eq_false (fun z => c4 z.2.2.2)]))
  · have e2 : yp_says (ym_c s 1) (e + 1) 37 37 69 79 = false := decide_eq_false c2
    rw [e2, if_pos (show yb false = 0 from rfl)]
    exact bad (by rw [hef, decide_eq_false (fun z => c2 z.2.1)])
end YLD5
