/-! the law's case printed -/
set_option maxRecDepth 100000 in
theorem yv_len {es : List ye_E} (h : yv es) : (ye_pr true es).length ≤ 444 := by
  obtain ⟨_, h2, h3, _⟩ := h
  have h2 : ye_wf [] (es ++ []) := by rw [List.append_nil]; exact h2
  obtain ⟨st', g1, g2, g3, g4⟩ := ye_wf_split h2
  have := ye_pr_len es [] st' true g4
  simp only [List.length_nil] at this
  omega
set_option maxRecDepth 100000 in
theorem ye_pr_cut (pre es : List ye_E) (d : ye_N) : ye_pr true (pre ++ .inl d :: es) = (ye_pr true pre ++ (if ye_fl true pre = true then [] else [32])) ++ (ye_ky d ++ (ye_op d ++ ye_pr (ye_nest d) es)) := by
  rw [ye_pr_app]
  show _ ++ ((if ye_fl true pre = true then [] else [32]) ++ (ye_ky d ++ (ye_op d ++ ye_pr (ye_nest d) es))) = _
  rw [List.append_assoc]
set_option maxRecDepth 100000 in
theorem ym_c_o {s s' : zq_S} {o : Nat} (h1 : zq_i s' 240 = zq_i s 240) (h2 : zq_i s' 241 = zq_i s 241) : ym_c s' (10 + o) = ym_c s (10 + o) := by
  funext i
  unfold ym_c
  rw [if_neg (show ¬ (10 + (o : Int) = 0) by omega), if_neg (show ¬ (10 + (o : Int) = 1) by omega), if_neg (show ¬ (10 + (o : Int) = 2) by omega), if_neg (show ¬ (10 + (o : Int) = 3) by omega), h1, h2]
  rw [if_neg (show ¬ (10 + (o : Int) = 0) by omega), if_neg (show ¬ (10 + (o : Int) = 1) by omega), if_neg (show ¬ (10 + (o : Int) = 2) by omega), if_neg (show ¬ (10 + (o : Int) = 3) by omega)]
set_option maxRecDepth 100000 in
/-- what the spare file takes with it -/
theorem yf.spare {F : Nat} {s s' : zq_S} {A : yA} (hI : yI s A) (hF : F = A.2.2.2.2.1) (f : yf [48 - F, 48 - F + 1] s s') : yI s' A := by
  have h1 : F = 23 ∨ F = 25 := by rw [hF]; exact hI.2.1.1
  refine yk.yI hI hF ⟨fun b hb h2 => f.i (by unfold yirr at hb; simp; omega), fun j hj => (by rw [f.i (b := 232) (by simp; omega)]), fun b _ => (by rw [f.r]), fun b _ _ => (by rw [f.l])⟩ ?_
  obtain ⟨g1, g2, g3, g4, g5⟩ := hI.2.2.2.2.2.2.2
  have e : ∀ b, (b = 232 ∨ b = 240) → zq_i s' b = zq_i s b := fun b hb => f.i (by simp; omega)
  unfold ym_I
  rw [e 232 (Or.inl rfl), e 240 (Or.inr rfl)]
  exact ⟨g1, g2, g3, g4, g5⟩
section YLB3
variable {X : Nat × (Nat → Int32)}
set_option maxRecDepth 100000 in
theorem yl_929 (hX : X.1 ≤ 1536) : yl_C X 929 := fun s A m v5 v6 h5 h6 hI hm hmX next => by
  obtain ⟨dr, fl, ev, ct, F, t⟩ := A
  have hF : F = 23 ∨ F = 25 := hI.2.1.1
  have t4 : zq_r s 0 7 = some (48 - F) := hI.2.1.2.2.2.1
  have oF : zq_o 1 (48 - F) := by rcases hF with z | z <;> (subst z; decide +kernel)
  have T9 : zq_T (48 - F) = 999 := by rcases hF with z | z <;> (subst z; decide +kernel)
  have hb : (0 : Int) ≤ 3 * (m : Int) + 1 ∧ 3 * (m : Int) + 1 < (X.1 : Int) := ⟨by omega, by omega⟩
  refine zw_0_929 (by omega) ⟨by omega, by omega⟩ h5 h6 ⟨hb, ?_⟩
  have hxi := zq_in32 (X.2 (3 * (m : Int) + 1).toNat)
  generalize (X.2 (3 * (m : Int) + 1).toNat).toInt = x at hxi ⊢
  rcases hI.cp with ⟨c1, c2⟩ | ⟨o, tr, pre, d, es, l, st, hcp⟩
  · refine zw_14 hxi ⟨fun _ => ⟨hb, zw_230 hxi ?_⟩, fun b z => ?_⟩
    · rw [if_pos (by rw [c1]; decide), if_pos rfl]
      exact next _ _ v5 v6 h5 h6 (hI.th 0) (by rw [zq_n_si]; omega)
    · rw [c2] at z; cases z
  · obtain ⟨⟨p1, p2, p3, p4, p5⟩, ⟨q1, q2, q3⟩, ho, hyv, hn, htr, ⟨l0, l1⟩, hwf, hnd, ⟨g0, g1⟩, hlen, hpl, hT6⟩ := hcp
    obtain ⟨R, r1, r2, r3⟩ := hwf.rest
    have hwf' := hwf
    obtain ⟨w1, w2, w3⟩ := hwf'
    have hT : yp_T (ym_c s (10 + o)) := hT6.T
    have hat := hnd.op
    obtain ⟨B, hB, hve⟩ := ye_vend2 hT g0 w1 w3.oks (by simp at hlen; omega) hat r1
    have hWl : (ye_op d ++ ye_pr (ye_nest d) B).length ≤ 444 := by
      have h444 := yv_len hyv
      rw [ho, ye_pr_cut, hB, ye_pr_app] at h444
      simp only [List.length_append] at h444 ⊢
      omega
    have hW1 : ye_at (ym_c s (10 + o)) (zq_i s 232 20) (ye_op d ++ ye_pr (ye_nest d) B) := by
      have h9 : ye_at (ym_c s (10 + o)) (zq_i s 232 20) ((ye_op d ++ ye_pr (ye_nest d) B) ++ (ye_pr (ye_fl (ye_nest d) B) R ++ [0])) := by
        have := hat
        rw [hB, ye_pr_app] at this
        simpa [List.append_assoc] using this
      exact (ye_at_app.mp h9).1
    refine zw_14 hxi ⟨fun z => ?_, fun b hbz => ?_⟩
    · rw [p3] at z; cases z
    · have hbz : tr = b := Option.some.inj (p3.symm.trans hbz)
      subst hbz
      refine ⟨48 - F, t4, ys_15 oF fun s1 hx1 f1 => ⟨fun z => ?_, fun b hbz => ?_⟩⟩
      · rw [f1.r, p3] at z; cases z
      · have hbz : tr = b := by rw [f1.r, p3] at hbz; exact Option.some.inj hbz
        subst hbz
        have e3 : zq_i s1 3 = zq_i s 3 := f1.i (by simp; omega)
        rw [e3, hn]
        refine ⟨48 - F, by rw [f1.r]; exact t4, ?_⟩
        have htr1 : yt_tr s1 tr (yr_many pre) l (.inl d :: es) := htr.fr oF q1 f1
        refine ys_16 q1 oF htr1 hwf r1 hB hx1 fun s2 hx2 f2 => ?_
        have f12 := f1.trans f2
        rw [yx_ps_fit (zq_T (48 - F)) (ye_op d ++ ye_pr (ye_nest d) B) ([], 0) (by rw [T9]; simp only [List.length_nil]; omega)] at hx2
        generalize ye_op d ++ ye_pr (ye_nest d) B = W at hx2 hW1 hWl hve
        have hx2 : yx s2 (48 - F) (W, 0) := hx2
        refine ⟨48 - F, by rw [f12.r]; exact t4, ?_⟩
        have hI2 : yI s2 (dr, fl, ev, ct, F, t) := f12.spare hI rfl
        have c19 : zq_i s2 232 = zq_i s 232 := f12.i (by simp; omega)
        have hmI : ym_I (zq_si s2 232 0 0) := (hI2.th 0).2.2.2.2.2.2.2
        have eo : ∀ b, b = 240 ∨ b = 241 → zq_i (zq_si s2 232 0 0) b = zq_i s b := fun b hb => by
          funext j
          rw [zq_i_si, if_neg (fun z => by have := z.1; omega), f12.i (b := b) (by simp; omega)]
        have hTc : ym_c (zq_si s2 232 0 0) (10 + o) = ym_c s (10 + o) := ym_c_o (eo 240 (Or.inl rfl)) (eo 241 (Or.inr rfl))
        have h20 : zq_i (zq_si s2 232 0 0) 232 20 = zq_i s 232 20 := by rw [zq_i_si, if_neg (by decide), c19]
        have h19 : zq_i (zq_si s2 232 0 0) 232 19 = o := by rw [zq_i_si, if_neg (by decide), c19]; exact p2
        have fin : zq_Ex X 0 967 (yL m v5 v6) [] (zq_si s2 232 0 0) yE := next _ _ v5 v6 h5 h6 (hI2.th 0) (by rw [zq_n_si, f12.n]; omega)
        have ref : ∀ v : Int, (x < 0 ∨ (W.length : Int) ≤ x → v = -1) → (∀ i : Nat, x = i → i < W.length → v = W.getD i 0) → zq_Ex X 230 0 [.ref 232, zq_vi x, zz_no] [] s2 (zq_rp zq_iv fun x_7 s_6 => (if v = x_7 then zq_Ex X 0 967 [(.ref (zz_SC)), (.ref (0)), (.ref (232)), (.ref (259)), (zq_vi (3 * (m : Int))), v5, v6] [] s_6 (zq_rp zq_bo fun x _ => x = 1) else (0 : Int) = 1)) := fun v hv1 hv2 => by
          refine zw_230 hxi ?_
          rw [c19, p2, if_neg (by omega)]
          refine yl_if (fun hx0 => ?_) (fun hx0 => ?_)
          · rw [if_pos (hv1 (Or.inl hx0))]
            exact fin
          · refine ys_178 hmI ⟨by omega, by omega, Or.inr (by omega)⟩ (e := zq_i s 232 20 + W.length) (by rw [hTc]; exact hve) ⟨by omega, by omega⟩ (by omega) (by omega) ?_
            rw [h20, h19]
            refine ⟨⟨by omega, by omega⟩, yl_if (fun hx1 => ?_) (fun hx1 => ?_)⟩
            · refine ys_147 hmI ⟨by omega, by omega, Or.inr (by omega)⟩ ⟨by omega, by omega⟩ ?_
              obtain ⟨i, hi⟩ : ∃ i : Nat, x = i := ⟨x.toNat, by omega⟩
              have hv : v = ym_c s (10 + o) (zq_i s 232 20 + x) := by
                rw [hv2 i hi (by omega), hi]
                exact (hW1 i (by omega)).symm
              rw [hTc, if_pos hv]
              exact fin
            · rw [if_pos (hv1 (Or.inr (by omega)))]
              exact fin
        have hsz : zq_i s2 (48 - F) 1 = (W.length : Int) := hx2.1
        refine zw_29 oF hxi ?_
        rw [hsz]
        refine yl_if (fun hx0 => ⟨hb, ref _ (fun _ => rfl) (fun i hi _ => by omega)⟩) (fun hx0 => yl_if (fun hx1 => ⟨⟨by omega, by rw [T9]; omega⟩, hb, ref _ (fun z => by omega) (fun i hi hl => ?_)⟩) (fun hx1 => ⟨hb, ref _ (fun _ => rfl) (fun i hi hl => by omega)⟩))
        rw [hi]
        exact hx2.2.2.2 i hl
end YLB3
