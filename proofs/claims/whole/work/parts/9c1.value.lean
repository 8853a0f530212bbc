/-! the law's case value -/
set_option maxRecDepth 100000 in
theorem yl_getD {l : List Int} {i : Nat} (hi : i < l.length) : l.getD i 0 ∈ l := by
  rw [List.getD_eq_getElem?_getD, List.getElem?_eq_getElem hi]
  exact List.getElem_mem hi
set_option maxRecDepth 100000 in
theorem yob_C {s : zq_S} {o : Nat} {es0 : List ye_E} (b5 : zq_i s 240 o = (ye_pr true es0).length) (b6 : yrow s 241 (500 * o) (ye_pr true es0)) (hok : ye_oks es0) : yp_C (ym_c s (10 + o)) := fun j => by
  unfold ym_c
  by_cases h0 : j < 0
  · exact Or.inl (if_pos h0)
  · rw [if_neg h0, if_neg (by omega), if_neg (by omega), if_neg (by omega), if_neg (by omega), show (10 : Int) + (o : Int) - 10 = o by omega, b5]
    by_cases h1 : j < ((ye_pr true es0).length : Int)
    · right
      rw [if_pos h1]
      have e := b6 j.toNat (by omega)
      rw [show ((j.toNat : Nat) : Int) = j by omega] at e
      rw [e]
      have := ye_pr_ch es0 true hok _ (yl_getD (l := ye_pr true es0) (i := j.toNat) (by omega))
      exact decide_eq_true (by omega)
    · exact Or.inl (if_neg h1)
section YLC1
variable {X : Nat × (Nat → Int32)}
set_option maxRecDepth 100000 in
theorem yl_228 {S : zq_S} {K : Int → zq_S → Prop} {o : Nat} {d : ye_N} {es B R : List ye_E} {st : List Int} {KS : List (List (List Int))} {x : Int} (hmI : ym_I S) (ho : o ≤ 9) (h19 : zq_i S 232 19 = o) (hT6 : yp_T6 (ym_c S (10 + o))) (hC : yp_C (ym_c S (10 + o))) (g0 : 0 ≤ zq_i S 232 20) (g1 : zq_i S 232 20 ≤ 500) (hwf : ye_wf st (.inl d :: es)) (hat : ye_at (ym_c S (10 + o)) (zq_i S 232 20) (ye_op d ++ (ye_pr (ye_nest d) es ++ [0]))) (hl : es.length ≤ 40) (hxi : zq_iv x) (hr : ye_rest d es = some R) (hB : es = B ++ R) (hkd : ye_kd KS (.inl d :: es)) (hdm : (ye_dm (0, 0) (.inl d :: B)).2 ≤ 5) (hmany : yr_many (.inl d :: B) ≤ 12)
    (kx : x < 0 ∨ 2 < x → K 0 (zq_si S 232 0 2)) (k0 : x = 0 → K d.1 (zq_si S 232 0 0)) (k1 : x = 1 → K (if ye_nest d = true then (ye_cnt es 0 : Int) else ye_nu d) (zq_si S 232 0 0))
    (k2 : x = 2 → ∀ S', ymf ymr_J ymr_A (zq_si S 232 0 0) S' → ym_I S' → K (if d.1 = 8 then d.2.2.1 else (ye_dm (0, 0) (.inl d :: B)).2) S') :
    zq_Ex X 228 0 [.ref 232, zq_vi x, zz_no, zz_no, zz_no] [] S (zq_rp zq_iv K) := by
  have hw := hwf
  obtain ⟨w1, w2, w3⟩ := hw
  have hoes := w3.oks
  have hq : ym_q (10 + (o : Int)) := ⟨by omega, by omega, Or.inr (by omega)⟩
  have hm0 : ym_I (zq_si S 232 0 0) := hmI.th 0
  have e0 : ∀ b, b ≠ 232 → zq_i (zq_si S 232 0 0) b = zq_i S b := fun b hb => by
    funext j
    rw [zq_i_si, if_neg (fun z => hb z.1)]
  have hT0 : ym_c (zq_si S 232 0 0) (10 + o) = ym_c S (10 + o) := ym_c_o (e0 240 (by decide)) (e0 241 (by decide))
  have h20 : zq_i (zq_si S 232 0 0) 232 20 = zq_i S 232 20 := by rw [zq_i_si, if_neg (by decide)]
  have h19' : zq_i (zq_si S 232 0 0) 232 19 = o := by rw [zq_i_si, if_neg (by decide)]; exact h19
  have hk : yp_kind (ym_c S (10 + o)) (zq_i S 232 20) = d.1 := ye_kind g0 w1 hoes hat
  refine zw_228 hxi ?_
  rw [if_neg (by omega), h19]
  refine yl_if (fun hx => kx (Or.inl hx)) (fun hx => yl_if (fun hx2 => ?_) (fun hx2 => kx (Or.inr (by omega))))
  refine zw_225 ?_
  rw [h19', h20]
  refine ys_159 hm0 hq (by omega) (by omega) ?_
  rw [hT0, hk]
  refine yl_if (fun hx0 => k0 hx0) (fun hx0 => yl_if (fun hx3 => ?_) (fun hx3 => ?_))
  · -- depth, or the generation
    rw [h20]
    obtain ⟨p', E', r1, r2⟩ := yr_back0 g0 hwf hat hr hB hkd hdm hmany hl
    rw [← hT0] at r1
    refine ys_145 hm0 hq (by omega) (by rw [hT0]; exact hC) g0 (by omega) r1 (fun s' w e => ?_) (fun s' S' e hmr hok _ f => ?_)
    · cases e
    · have e : (p', E', ([] : List (Int × Nat × List (List Int))), (none : Option (List Int))) = S' := Sum.inl.inj e
      have hm' : ym_I s' := f.I hm0 (by decide) (by decide) (by
        have := hmr.2.2.2.2.2.2.2.2.2.1
        have := yr_made_len hok
        omega)
      have k2 := k2 hx3 s' f hm'
      have h20' : zq_i s' 232 20 = zq_i S 232 20 := by rw [f.f (by decide), h20]
      have hT' : ym_c s' (10 + o) = ym_c S (10 + o) := by rw [← hT0]; exact ym_c_o (f.i (by decide) (by decide)) (f.i (by decide) (by decide))
      refine yl_if (fun h8 => ?_) (fun h8 => ?_)
      · rw [if_pos h8] at k2
        rw [h20']
        refine ys_190 hm' hq ⟨by omega, by omega⟩ ⟨by omega, by omega⟩ ?_
        have eo : ye_op d = [48 + d.2.1, 32, 48 + d.2.2.1, 32, 82] := by
          unfold ye_op
          rw [if_neg (by omega), if_neg (by omega), if_neg (by omega), if_neg (by omega), if_neg (by omega), if_neg (by omega), if_neg (by omega), if_neg (by omega)]
        rw [eo] at hat
        have t2 := hat 2 (by simp)
        have t2 : ym_c S (10 + o) (zq_i S 232 20 + 2) = 48 + d.2.2.1 := by simpa using t2
        rw [hT', t2, show 48 + d.2.2.1 - 48 = d.2.2.1 by omega]
        exact k2
      · rw [if_neg h8] at k2
        rw [hmr.2.2.2.1, ← e]
        show K (ye_dm (0, 0) E').2 s'
        rw [(ye_dm_ke r2).1]
        exact k2
  · -- number, letters, parts
    have k1 := k1 (by omega)
    have he := yr_end_at w1 hoes hat
    unfold yr_end at he
    have nn : ∀ k, d.1 = k → k ≠ 6 → k ≠ 7 → ye_nest d = false := fun k e h6 h7 => decide_eq_false (by omega)
    refine yl_if (fun h3 => ?_) (fun h3 => yl_if (fun h4 => ?_) (fun h4 => yl_if (fun h5 => ?_) (fun h5 => ?_)))
    · rw [h3, if_neg (by decide), if_neg (by decide), if_neg (by decide), if_neg (by decide), if_neg (by decide)] at he
      have eo : ye_op d = ye_num d.2.1 := by unfold ye_op; rw [if_neg (by omega), if_neg (by omega), if_neg (by omega), if_pos h3]
      have ev : ye_nu d = d.2.1 := by unfold ye_nu; rw [if_neg (by omega), if_pos (by omega)]
      rw [nn 3 h3 (by decide) (by decide), if_neg (by decide), ev] at k1
      rw [eo] at hat he
      have hl7 := ye_num_len d.2.1
      rw [h20]
      refine ys_161 hm0 hq (by omega) (by omega) ?_
      rw [hT0, h20]
      have hI3 : yp_isI (ym_c S (10 + o)) (zq_i S 232 20) (yp_wd (ym_c S (10 + o)) (zq_i S 232 20)) = true := by
        rcases yr_kind hk (by omega) with ⟨z, _⟩ | ⟨z, _⟩ | ⟨z, _⟩ | ⟨z, _⟩ | ⟨z, _⟩ | ⟨z, _⟩ | ⟨z, _⟩ | ⟨z, _⟩ | ⟨_, z⟩
        · omega
        · omega
        · omega
        · omega
        · omega
        · omega
        · omega
        · omega
        · exact z
      refine ys_167 hm0 hq (by omega) (by omega) (by omega) (by rw [hT0]; exact hI3) ?_
      rw [hT0, he, ye_num_val (w1.k3 h3) hat]
      exact k1
    · rw [h4, if_neg (by decide), if_pos rfl] at he
      have eo : ye_op d = 47 :: d.2.2.2.2 := by unfold ye_op; rw [if_neg (by omega), if_neg (by omega), if_neg (by omega), if_neg (by omega), if_pos h4]
      have ev : ye_nu d = d.2.2.2.2.length := by unfold ye_nu; rw [if_pos (by omega)]
      rw [nn 4 h4 (by decide) (by decide), if_neg (by decide), ev] at k1
      rw [eo] at he
      have hl6 := (w1.k4 h4).2.1
      simp only [List.length_cons] at he
      rw [h20]
      refine ys_153 hm0 hq (by omega) (by omega) ?_
      rw [hT0, h20, he]
      refine ⟨⟨by omega, by omega⟩, ?_⟩
      rw [show zq_i S 232 20 + ((d.2.2.2.2.length + 1 : Nat) : Int) - zq_i S 232 20 - 1 = d.2.2.2.2.length by omega]
      exact k1
    · rw [h5, if_neg (by decide), if_neg (by decide), if_pos rfl] at he
      have eo : ye_op d = 40 :: (ye_esc d.2.2.2.2 ++ [41]) := by unfold ye_op; rw [if_neg (by omega), if_neg (by omega), if_neg (by omega), if_neg (by omega), if_neg (by omega), if_pos h5]
      have ev : ye_nu d = d.2.2.2.2.length := by unfold ye_nu; rw [if_pos (by omega)]
      rw [nn 5 h5 (by decide) (by decide), if_neg (by decide), ev] at k1
      have h444 : yp_se (ym_c S (10 + o)) (zq_i S 232 20) - 1 < 600 := by
        have hst := yp_str_end 2000 (zq_i S 232 20 + 1) 0 (yp_se (ym_c S (10 + o)) (zq_i S 232 20)) rfl (by omega)
        exact yp_lt6 hT6 (by rw [hst.1]; decide)
      rw [eo] at hat he
      have hl12 := w1.k5 h5
      simp only [List.length_cons, List.length_append, List.length_nil] at he
      have hat2 : ye_at (ym_c S (10 + o)) (zq_i S 232 20) (40 :: (ye_esc d.2.2.2.2 ++ (41 :: (ye_pr (ye_nest d) es ++ [0])))) := by simpa using hat
      obtain ⟨_, hat3⟩ := ye_at_cons.mp hat2
      refine zw_229 ⟨by omega, by omega⟩ ?_
      rw [h20]
      refine ys_160 hm0 hq (by omega) (by omega) ?_
      rw [hT0, h20]
      refine ys_229_22 hm0 hq (by omega) d.2.2.2.2 _ 0 (by rw [hT0]; exact hat3) hl12.2 (by omega) (by omega) (by omega) (by omega) (by omega) ?_
      rw [show (0 : Int) + (d.2.2.2.2.length : Int) = d.2.2.2.2.length by omega]
      exact k1
    · have parts : ye_nest d = true → zq_Ex X 176 0 [.ref 232, zq_vi (10 + (o : Int)), zq_vi (zq_i S 232 20), zz_no] [] (zq_si S 232 0 0) (zq_rp zq_iv fun x_34 s_33 => K (x_34) s_33) := fun hn => by
        rw [if_pos hn] at k1
        have w4 : ye_wf (d.1 :: st) es := by
          rw [if_pos hn] at w3
          exact w3
        have hc := ye_cnt_le es 0
        refine ys_176 hm0 hq ⟨by omega, by omega⟩ (c := ye_cnt es 0) (by omega) (fun j hj => ?_) ?_ k1
        · rw [hT0]
          have pa := ye_pa hT6 g0 w1 hn hat w4 hl j
          obtain ⟨⟨d', es'⟩, hnth⟩ := (ye_nth_cnt es 0 j).mpr hj
          rw [hnth] at pa
          obtain ⟨q, pa1, pa2, pa3, _⟩ := pa
          exact ⟨q, by omega, pa1⟩
        · rw [hT0]
          have pa := ye_pa hT6 g0 w1 hn hat w4 hl (ye_cnt es 0)
          cases hnth : ye_nth es 0 (ye_cnt es 0) with
          | none =>
            rw [hnth] at pa
            exact pa
          | some r =>
            have := (ye_nth_cnt es 0 (ye_cnt es 0)).mp ⟨r, hnth⟩
            omega
      refine yl_if (fun h6 => ?_) (fun h6 => yl_if (fun h7 => ?_) (fun h7 => yl_if (fun h8 => ?_) (fun h8 => ?_)))
      · rw [h20]
        exact parts (decide_eq_true (Or.inl h6))
      · rw [h20]
        exact parts (decide_eq_true (Or.inr h7))
      · have ev : ye_nu d = d.2.1 := by unfold ye_nu; rw [if_neg (by omega), if_pos (by omega)]
        rw [nn 8 h8 (by decide) (by decide), if_neg (by decide), ev] at k1
        rw [h20]
        refine ys_189 hm0 hq ⟨by omega, by omega⟩ ?_
        have eo : ye_op d = [48 + d.2.1, 32, 48 + d.2.2.1, 32, 82] := by
          unfold ye_op
          rw [if_neg (by omega), if_neg (by omega), if_neg (by omega), if_neg (by omega), if_neg (by omega), if_neg (by omega), if_neg (by omega), if_neg (by omega)]
        rw [eo] at hat
        have t0 : ym_c S (10 + o) (zq_i S 232 20) = 48 + d.2.1 := ye_at_hd hat
        rw [hT0, t0, show 48 + d.2.1 - 48 = d.2.1 by omega]
        exact k1
      · have ev : ye_nu d = 0 := by unfold ye_nu; rw [if_neg (by omega), if_neg (by omega)]
        have hn : ye_nest d = false := decide_eq_false (by omega)
        rw [hn, if_neg (by decide), ev] at k1
        exact k1
set_option maxRecDepth 100000 in
theorem yl_873 (hX : X.1 ≤ 1536) : yl_C X 873 := fun s A m v5 v6 h5 h6 hI hm hmX next => by
  obtain ⟨dr, fl, ev, ct, F, t⟩ := A
  have hb : (0 : Int) ≤ 3 * (m : Int) + 1 ∧ 3 * (m : Int) + 1 < (X.1 : Int) := ⟨by omega, by omega⟩
  refine zw_0_873 (by omega) ⟨by omega, by omega⟩ h5 h6 ⟨hb, ?_⟩
  have hxi := zq_in32 (X.2 (3 * (m : Int) + 1).toNat)
  generalize (X.2 (3 * (m : Int) + 1).toNat).toInt = x at hxi ⊢
  have hn1 : zq_n s < 1000 := by omega
  have o3 : zq_o 2 3 := by decide +kernel
  rcases hI.cp with ⟨c1, c2⟩ | ⟨o, tr, pre, d, es, l, st, hcp⟩
  · refine zw_246 hxi zf_k259 (zw_135 hxi ⟨fun _ => ⟨hn1, ?_⟩, fun b z => ?_⟩)
    · rw [if_pos rfl]
      refine ⟨hb, zw_228 hxi ?_⟩
      rw [if_pos (by show zq_i s 232 19 < 0; rw [c1]; decide)]
      exact yl_say (y := 0) ((hI.exc 11).th 1) (by rw [zq_n_si, zq_n_sx]; omega) (zq_i_at _ _ _ _) (fun z => absurd z (by decide)) next
    · rw [c2] at z; cases z
  · obtain ⟨⟨p1, p2, p3, p4, p5⟩, ⟨q1, q2, q3⟩, ho, hyv, hn, htr, ⟨l0, l1⟩, hwf, hnd, ⟨g0, g1⟩, hlen, hpl, hT6⟩ := hcp
    obtain ⟨R, r1, r2, r3⟩ := hwf.rest
    obtain ⟨B, hB, hBd⟩ := ye_rest_app r1
    have hat := hnd.op
    have hl40 : es.length ≤ 40 := by simp at hlen; omega
    obtain ⟨n1, n2, n3⟩ := htr.node
    have h12 := htr.2.2.2
    have hx0 := htr.2.2.1
    obtain ⟨tr2, _, _, _, _, b5, b6⟩ := hI.obj p1 p5
    have hC := yob_C b5 b6 hyv.2.1.oks
    obtain ⟨KS, hkd⟩ : ∃ KS, ye_kd KS (.inl d :: es) := by
      have := hyv.2.2.2.2
      rw [ho] at this
      exact ye_kd_split this
    have hdm : (ye_dm (0, 0) (.inl d :: B)).2 ≤ 5 := by
      have h5 := hyv.2.2.2.1
      rw [ho, show pre ++ .inl d :: es = pre ++ ((.inl d :: B) ++ R) by rw [hB]; rfl, ye_dm_app, ye_dm_app] at h5
      have hlv : (0 : Int) ≤ (ye_dm (0, 0) pre).1 ∧ (0 : Int) ≤ (ye_dm (0, 0) pre).2 := by
        have a2 := (ye_dm_mono pre 0 0 0 0 (Int.le_refl _) (Int.le_refl _)).2
        obtain ⟨st', _, _, s3, _⟩ := ye_wf_split (pre := pre) (es := .inl d :: es) (st := []) (by rw [← ho]; exact hyv.2.1)
        have s3 : (ye_dm (0, 0) pre).1 = st'.length := s3 0
        omega
      have a3 := (ye_dm_mono (.inl d :: B) 0 (ye_dm (0, 0) pre).1 0 (ye_dm (0, 0) pre).2 hlv.1 hlv.2).1
      have a4 := (ye_dm_mono R (ye_dm (ye_dm (0, 0) pre) (.inl d :: B)).1 (ye_dm (ye_dm (0, 0) pre) (.inl d :: B)).1 (ye_dm (ye_dm (0, 0) pre) (.inl d :: B)).2 (ye_dm (ye_dm (0, 0) pre) (.inl d :: B)).2 (Int.le_refl _) (Int.le_refl _)).2
      exact Int.le_trans a3 (Int.le_trans a4 h5)
    have hmany : yr_many (.inl d :: B) ≤ 12 := by
      have h5 := hyv.2.2.1
      rw [ho, show pre ++ .inl d :: es = pre ++ ((.inl d :: B) ++ R) by rw [hB]; rfl, yr_many_app2, yr_many_app2] at h5
      omega
    obtain ⟨ans, hans⟩ : ∃ ans : Int, ans = if x = 0 then d.1 else if x = 1 then (if ye_nest d = true then (ye_cnt es 0 : Int) else ye_nu d) else (if d.1 = 8 then d.2.2.1 else (ye_dm (0, 0) (.inl d :: B)).2) := ⟨_, rfl⟩
    have fin : 0 ≤ x → x ≤ 2 → (((0 : Int) ≤ 0 ∧ 0 < (((1 : Nat) : Nat) : Int)) ∧ (((0 : Int) ≤ 3 * (m : Int) + 1 ∧ 3 * (m : Int) + 1 < (X.1 : Int)) ∧ zq_Ex X 228 0 [.ref 232, zq_vi x, zz_no, zz_no, zz_no] [] (zq_sl s 259 0 (Int32.ofInt ans).toInt64) (zq_rp zq_iv fun x_7 s_6 => (zq_Ex X 141 0 [(.ref (232))] [] s_6 (zq_rp zq_iv fun x_10 s_9 => (if x_10 = 0 then (if (0 : Int) = 0 then (if (zq_l s_9 (259) (0)) = ((Int32.ofInt (x_7)).toInt64) then zq_Ex X 0 967 [(.ref (zz_SC)), (.ref (0)), (.ref (232)), (.ref (259)), (zq_vi (3 * (m : Int))), (zq_vi (0)), (zq_vi (x_7))] [] s_9 (zq_rp zq_bo fun x _ => x = 1) else (0 : Int) = 1) else zq_Ex X 0 967 [(.ref (zz_SC)), (.ref (0)), (.ref (232)), (.ref (259)), (zq_vi (3 * (m : Int))), (zq_vi (0)), (zq_vi (x_7))] [] s_9 (zq_rp zq_bo fun x _ => x = 1)) else (0 : Int) = 1)))))) := fun hx1 hx2 => by
      refine ⟨⟨by decide, by decide⟩, hb, ?_⟩
      have hIo := hI.out (Int32.ofInt ans).toInt64
      refine yl_228 (S := zq_sl s 259 0 (Int32.ofInt ans).toInt64) hIo.2.2.2.2.2.2.2 p1 p2 hT6 hC g0 g1 hwf hat hl40 hxi r1 hB hkd hdm hmany (fun z => ?_) (fun z => ?_) (fun z => ?_) (fun z S' f hm' => ?_)
      · omega
      · rw [if_pos z] at hans
        rw [hans]
        exact yl_say (y := 0) ((hI.out _).th 0) (by rw [zq_n_si]; show zq_n s ≤ m + 1; omega) (zq_i_at _ _ _ _) (fun _ => by rw [zq_l_si, zq_l_sl, if_pos ⟨rfl, rfl⟩]) next
      · rw [if_neg (by omega), if_pos z] at hans
        rw [← hans]
        exact yl_say (y := 0) ((hI.out _).th 0) (by rw [zq_n_si]; show zq_n s ≤ m + 1; omega) (zq_i_at _ _ _ _) (fun _ => by rw [zq_l_si, zq_l_sl, if_pos ⟨rfl, rfl⟩]) next
      · rw [if_neg (by omega), if_neg (by omega)] at hans
        rw [← hans]
        have hI' : yI S' (dr, fl, ev, ct, F, t) := f.yI (hIo.th 0) (by decide) (fun b hb => by simp at hb; omega) hm'
        refine yl_say (y := 0) hI' (by rw [f.n, zq_n_si]; show zq_n s ≤ m + 1; omega) (by rw [f.f (by decide), zq_i_at]) (fun _ => by rw [f.l, zq_l_si, zq_l_sl, if_pos ⟨rfl, rfl⟩]) next
    refine zw_246 hxi zf_k259 (zw_135 hxi ⟨fun z => ?_, fun b hbz => ?_⟩)
    · rw [p3] at z; cases z
    have hbz : tr = b := Option.some.inj (p3.symm.trans hbz)
    subst hbz
    have kind : ∀ K' : Int → zq_S → Prop, K' d.1 s → zq_Ex X 94 0 [.ref 3] [] s (zq_rp zq_iv K') := fun K' hk' => by
      refine zw_94 o3 ⟨fun z => ?_, fun b hbz => ?_⟩
      · rw [p3] at z; cases z
      · have hbz : tr = b := Option.some.inj (p3.symm.trans hbz)
        subst hbz
        rw [hn]
        exact ys_48n q1 h12 (by omega) n3 n1.1 hk'
    refine yl_if (fun x0 => kind _ ?_) (fun x0 => yl_if (fun x1 => ?_) (fun x1 => yl_if (fun x2 => kind _ ?_) (fun x2 => ⟨hn1, ?_⟩)))
    · have := fin (by omega) (by omega)
      rw [if_pos x0] at hans
      rw [hans] at this
      exact this
    · have fin := fin (by omega) (by omega)
      rw [if_neg x0, if_pos x1] at hans
      rw [hn]
      refine ys_132 q1 h12 (by omega) n3 n1 ?_
      cases hnest : ye_nest d with
      | false =>
        rw [if_pos (show yb false = 0 from rfl)]
        refine ⟨⟨by omega, by omega⟩, ?_⟩
        rw [hnest, if_neg (by decide)] at hans
        rw [n1.2.2.1, ← hans]
        exact fin
      | true =>
        rw [if_neg (show ¬ yb true = 0 by decide)]
        rw [hnest, if_pos rfl] at hans
        refine ys_136 q1 htr l0 l1 hnest r1 ?_
        rw [← hans]
        exact fin
    · have fin := fin (by omega) (by omega)
      rw [if_neg x0, if_neg x1] at hans
      refine yl_if (fun h8 => ?_) (fun h8 => ?_)
      · rw [if_pos h8] at hans
        rw [hn, n1.2.2.2.1 h8, ← hans]
        exact ⟨⟨by omega, by omega⟩, fin⟩
      · rw [if_neg h8] at hans
        rw [hn]
        refine ys_137 q1 htr l0 l1 hl40 r1 hB hBd ?_
        rw [← hans]
        exact fin
    · rw [if_neg (by decide), if_pos rfl]
      refine ⟨hb, yl_228 (S := zq_sx s 10) (hI.exc 10).2.2.2.2.2.2.2 p1 p2 hT6 hC g0 g1 hwf hat hl40 hxi r1 hB hkd hdm hmany (fun _ => ?_) (fun z => ?_) (fun z => ?_) (fun z => ?_)⟩
      · exact yl_say (y := 0) ((hI.exc 10).th 2) (by rw [zq_n_si, zq_n_sx]; omega) (zq_i_at _ _ _ _) (fun z => absurd z (by decide)) next
      · exact absurd z x0
      · exact absurd z x1
      · exact absurd z x2
end YLC1
