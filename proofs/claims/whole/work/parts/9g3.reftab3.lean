/-! load: the reference reads a table: readTable -/
section YLG3
variable {X : Nat × (Nat → Int32)}
set_option maxRecDepth 100000 in
/-- from the read on -/
theorem ys_207_r {S : zq_S} {T : Int → Int} (hb : yTb T) (hC : yp_C T) (hmI : ym_I S) (hT : ym_c S 1 = T) (n7 : ym_nm S 257 yNR) (n8 : ym_nm S 258 yNP) {x1 x2 q : Int} (i1 : zq_iv x1) (b2 : zq_bo x2) (q0 : 0 ≤ q ∧ q ≤ 1000) {K : Int → zq_S → Prop}
    (k0 : (∀ S' d es ro, yr_read T q = some (.inl S') → S'.2.1 = .inl d :: es → yl_trl d es = some ro → False) → ∀ S', ymf yJt yAt S S' → zq_i S' 250 = zq_i S 250 → zq_i S' 251 = zq_i S 251 → zq_i S' 252 = zq_i S 252 → ym_I S' → K (-2000000) S')
    (k1 : ∀ S1 d es ro S', yr_read T q = some (.inl S1) → S1.2.1 = .inl d :: es → yl_trl d es = some ro → ybo ro → ymf yJt yAt S S' → zq_i S' 250 = zq_i S 250 → zq_i S' 251 = zq_i S 251 → zq_i S' 252 = zq_i S 252 → ym_I S' → (x2 = 0 → zq_i S' 232 41 = zq_i S 232 41 ∧ zq_i S' 232 42 = zq_i S 232 42) → (x2 ≠ 0 → zq_i S' 232 41 = ro.1 ∧ zq_i S' 232 42 = ro.2.1) → K (yl_pv ro.2.2) S') : (zq_Ex X 145 0 [(.ref (232)), (zq_vi (1)), (zq_vi q), zz_no, zz_no] [] S (zq_rv fun s_25 => (zq_Ex X 210 0 [(.ref (232)), zz_no] [] s_25 (zq_rv fun s_26 => (if zq_i s_26 (232) (26) < 0 then (zq_Ex X 159 0 [(.ref (232)), (zq_vi (2)), (zq_vi (0)), zz_no, zz_no] [] s_26 (zq_rp zq_iv fun x_30 s_29 => (if x_30 = 7 then (zq_Ex X 175 0 [(.ref (232)), (zq_vi (2)), (zq_vi (0)), (.ref (257)), (zq_vi (4)), zz_no, zz_no, zz_no, zz_no] [] s_29 (zq_rp zq_iv fun x_34 s_33 => (zq_Ex X 175 0 [(.ref (232)), (zq_vi (2)), (zq_vi (0)), (.ref (258)), (zq_vi (4)), zz_no, zz_no, zz_no, zz_no] [] s_33 (zq_rp zq_iv fun x_37 s_36 => (if x_34 < 0 then K ((-2000000)) s_36 else (zq_Ex X 159 0 [(.ref (232)), (zq_vi (2)), (zq_vi (x_34)), zz_no, zz_no] [] s_36 (zq_rp zq_iv fun x_41 s_40 => (if x_41 = 8 then (if x_37 < 0 then zq_Ex X 207 211 [(.ref (232)), (zq_vi (x1)), (zq_vi (x2)), (zq_vi (1)), (zq_vi (x_34)), (zq_vi (x_37)), zz_no] [] s_40 (zq_rp zq_iv K) else (zq_Ex X 159 0 [(.ref (232)), (zq_vi (2)), (zq_vi (x_37)), zz_no, zz_no] [] s_40 (zq_rp zq_iv fun x_46 s_45 => (if x_46 = 3 then zq_Ex X 207 211 [(.ref (232)), (zq_vi (x1)), (zq_vi (x2)), (zq_vi (1)), (zq_vi (x_34)), (zq_vi (x_37)), zz_no] [] s_45 (zq_rp zq_iv K) else K ((-2000000)) s_45)))) else K ((-2000000)) s_40)))))))) else K ((-2000000)) s_29))) else K ((-2000000)) s_26))))) := by
  have hq1 : ym_q 1 := ⟨by decide, by decide, Or.inl (by decide)⟩
  have hq2 : ym_q 2 := ⟨by decide, by decide, Or.inl (by decide)⟩
  have hTT : yp_T T := fun j hj => Classical.byContradiction fun z => by
    have := hb.2 j z
    omega
  obtain ⟨r, hr⟩ := yr_read_some hTT hC q0.1 q0.2
  refine ys_145 hmI hq1 (by decide) (by rw [hT]; exact hC) q0.1 q0.2 (r := r) (by rw [hT]; exact hr) (fun s1 w e1 e2 e3 e4 e5 e6 f => ?_) (fun s1 S1 e1 hmr hok hst f => ?_)
  · have hm1 : ym_I s1 := f.I hmI (by decide) (by decide) (by omega)
    refine ys_210 (by omega) (fun s2 g h5 _ => ?_)
    rw [g.f (j := 26) (by simp), e2, if_neg (by omega)]
    have fF : ymf yJt yAt S s2 := (f.mono (by simp) (by simp)).trans (g.mono (by simp) (by simp))
    have hm2 : ym_I s2 := by
      obtain ⟨a1, a2, a3, a4, a5⟩ := hm1
      refine ⟨by rw [g.f (by simp)]; exact a1, by rw [g.f (by simp)]; exact a2, by rw [h5]; omega, by rw [g.f (by simp)]; exact a4, fun o o0 o1 => by rw [g.i (by simp) (by decide)]; exact a5 o o0 o1⟩
    refine k0 (fun S' d es ro h1 _ _ => ?_) s2 fF ?_ ?_ ?_ hm2
    · rw [hr, e1] at h1
      cases h1
    · rw [g.i (by simp) (by decide), f.i (by simp) (by decide)]
    · rw [g.i (by simp) (by decide), f.i (by simp) (by decide)]
    · rw [g.i (by simp) (by decide), f.i (by simp) (by decide)]
  · rw [e1] at hr
    have hyv := yv_read hTT hC q0.1 q0.2 hr hok
    have hml := yr_made_len hok
    have hmd := hmr.2.2.2.2.2.2.2.2.2
    rw [yr_made_ok hok hst] at hml hmd
    have hm1 : ym_I s1 := f.I hmI (by decide) (by decide) (by have := hmd.1; omega)
    have h23 := hmd.1
    refine ys_210 (by omega) (fun s2 g h5 hrow => ?_)
    have e26 : zq_i s1 232 26 = -1 := hmr.2.1
    rw [g.f (j := 26) (by simp), e26, if_pos (by decide)]
    have fF : ymf yJt yAt S s2 := (f.mono (by simp) (by simp)).trans (g.mono (by simp) (by simp))
    have hm2 : ym_I s2 := by
      obtain ⟨a1, a2, a3, a4, a5⟩ := hm1
      refine ⟨by rw [g.f (by simp)]; exact a1, by rw [g.f (by simp)]; exact a2, by rw [h5]; omega, by rw [g.f (by simp)]; exact a4, fun o o0 o1 => by rw [g.i (by simp) (by decide)]; exact a5 o o0 o1⟩
    have c0 : zq_i s2 250 = zq_i S 250 := by rw [g.i (by simp) (by decide), f.i (by simp) (by decide)]
    have c1 : zq_i s2 251 = zq_i S 251 := by rw [g.i (by simp) (by decide), f.i (by simp) (by decide)]
    have c2 : zq_i s2 252 = zq_i S 252 := by rw [g.i (by simp) (by decide), f.i (by simp) (by decide)]
    have c7 : zq_i s2 257 = zq_i S 257 := by rw [g.i (by simp) (by decide), f.i (by simp) (by decide)]
    have c8 : zq_i s2 258 = zq_i S 258 := by rw [g.i (by simp) (by decide), f.i (by simp) (by decide)]
    have n7' : ym_nm s2 257 yNR := ⟨n7.1, fun i hi => by rw [c7]; exact n7.2 i hi⟩
    have n8' : ym_nm s2 258 yNP := ⟨n8.1, fun i hi => by rw [c8]; exact n8.2 i hi⟩
    obtain ⟨⟨d, es, ed, er⟩, hwf, hmany, hdm, hkd⟩ := hyv
    have hsu : ye_su (ym_c s2 2) 0 true (.inl d :: es) := by
      rw [← ed]
      exact ysc_su (by rw [h5, h23]) (fun i hi => by rw [hrow i (by omega)]; exact hmd.2 i hi)
    rw [ed] at hwf hmany
    obtain ⟨w1, w2, w3⟩ := id hwf
    have hky : ye_ky d = [] := by
      unfold ye_ky
      rw [if_pos w2]
    have hat : ye_at (ym_c s2 2) 0 (ye_op d ++ (ye_pr (ye_nest d) es ++ [0])) := by
      have h := hsu
      unfold ye_su at h
      have e : ye_pr true (.inl d :: es) = ye_op d ++ ye_pr (ye_nest d) es := by
        show [] ++ (ye_ky d ++ (ye_op d ++ ye_pr (ye_nest d) es)) = _
        rw [hky]
        rfl
      rw [e, List.append_assoc] at h
      exact h
    have hl40 : es.length ≤ 40 := by
      have := ye_wf_len hwf
      simp only [List.length_nil, List.length_cons] at this
      have e : yr_many (.inl d :: es) = yr_many es + 1 := rfl
      omega
    have hT6 : yp_T6 (ym_c s2 2) := ysc_T6 (by rw [h5]; omega)
    have no : (∀ ro, yl_trl d es = some ro → False) → K (-2000000) s2 := fun h => k0 (fun S' d' es' ro h1 h2 h3 => by
      have h1 : S1 = S' := Sum.inl.inj (Option.some.inj (hr.symm.trans h1))
      rw [← h1, ed] at h2
      obtain ⟨z1, z2⟩ := List.cons.inj h2
      have z1 : d = d' := Sum.inl.inj z1
      rw [← z1, ← z2] at h3
      exact h ro h3) s2 fF c0 c1 c2 hm2
    refine ys_159 hm2 hq2 (by decide) (by decide) ?_
    rw [ye_kind (by decide) w1 w3.oks hat]
    refine yl_if (fun h7 => ?_) (fun h7 => no (fun ro h => by unfold yl_trl at h; rw [if_neg h7] at h; cases h))
    have hn : ye_nest d = true := decide_eq_true (Or.inr h7)
    have w4 : ye_wf (d.1 :: []) es := by rw [if_pos hn] at w3; exact w3
    have fin : ∀ (r' : ye_N) (esr : List ye_E) (pr : Int) (x37 : Int) (pv : Option Int), ye_nd (ym_c s2 2) pr r' esr → 0 < pr → ye_wf (d.1 :: []) (.inl r' :: esr) → r'.1 = 8 → yl_trl d es = some (r'.2.1, r'.2.2.1, pv) → ((x37 = -1 ∧ pv = none) ∨ ∃ q es st, ye_nd (ym_c s2 2) x37 q es ∧ ye_wf st (.inl q :: es) ∧ 0 < x37 ∧ q.1 = 3 ∧ pv = some q.2.1) → zq_Ex X 207 211 [(.ref (232)), (zq_vi (x1)), (zq_vi (x2)), (zq_vi (1)), (zq_vi pr), (zq_vi x37), zz_no] [] s2 (zq_rp zq_iv K) := fun r' esr pr x37 pv hnr hpr hwr h8 htr hpv => by
      refine ys_207_211 hm2 i1 b2 (Or.inr rfl) rfl hnr hwr hpr h8 hpv (fun S' f' h0 h1 => ?_)
      refine k1 S1 d es _ S' hr ed htr (yl_trl_b w3.oks htr) (fF.trans (f'.mono (by simp) (by simp))) ?_ ?_ ?_ (hm2.cong (fun j hj => f'.f (by simp at hj ⊢; omega)) (f'.i (by simp) (by decide))) (fun z => ?_) h1
      · rw [f'.i (by simp) (by decide)]; exact c0
      · rw [f'.i (by simp) (by decide)]; exact c1
      · rw [f'.i (by simp) (by decide)]; exact c2
      · rw [h0 z, g.f (by simp), f.f (by simp), g.f (by simp), f.f (by simp)]
        exact ⟨rfl, rfl⟩
    refine ys_175 (nm := yNR) (st := []) hm2 hq2 hT6 (by decide) n7' (by decide) w1 h7 hat w4 hl40 (fun hfR => ?_) (fun r' esr pr hfR hnr hpr hwr _ => ?_)
    · have nn : K (-2000000) s2 := no (fun ro h => by
        unfold yl_trl at h
        rw [if_pos h7, hfR] at h
        cases h)
      refine ys_175 (nm := yNP) (st := []) hm2 hq2 hT6 (by decide) n8' (by decide) w1 h7 hat w4 hl40 (fun hfP => ?_) (fun q' esq pq hfP hnq hpq hwq _ => ?_)
      · rw [if_pos (by decide)]
        exact nn
      · rw [if_pos (by decide)]
        exact nn
    · obtain ⟨n4, n5, n3, n6⟩ := ysc_nd hm2 hnr hwr hpr
      have t0 : ∀ pv, r'.1 = 8 → (match ye_fk yNP es 0 with
          | none => some (r'.2.1, r'.2.2.1, (none : Option Int))
          | some (q, _) => if q.1 = 3 then some (r'.2.1, r'.2.2.1, some q.2.1) else none) = pv → yl_trl d es = pv := fun pv h8 h => by
        unfold yl_trl
        rw [if_pos h7, hfR]
        show (if r'.1 = 8 then _ else none) = pv
        rw [if_pos h8]
        exact h
      have n8f : r'.1 ≠ 8 → K (-2000000) s2 := fun h8 => no (fun ro h => by
        unfold yl_trl at h
        rw [if_pos h7, hfR] at h
        have h : (if r'.1 = 8 then (match ye_fk yNP es 0 with
          | none => some (r'.2.1, r'.2.2.1, (none : Option Int))
          | some (q, _) => if q.1 = 3 then some (r'.2.1, r'.2.2.1, some q.2.1) else none) else none) = some ro := h
        rw [if_neg h8] at h
        cases h)
      refine ys_175 (nm := yNP) (st := []) hm2 hq2 hT6 (by decide) n8' (by decide) w1 h7 hat w4 hl40 (fun hfP => ?_) (fun q' esq pq hfP hnq hpq hwq _ => ?_)
      · rw [if_neg (by omega)]
        refine ys_159 hm2 hq2 (by omega) (by omega) ?_
        rw [ye_kind (by omega) n4 n5 n6]
        refine yl_if (fun h8 => ?_) n8f
        rw [if_pos (by decide)]
        exact fin r' esr pr (-1) none hnr hpr hwr h8 (t0 _ h8 (by rw [hfP])) (Or.inl ⟨rfl, rfl⟩)
      · obtain ⟨m4, m5, m3, m6⟩ := ysc_nd hm2 hnq hwq hpq
        rw [if_neg (by omega)]
        refine ys_159 hm2 hq2 (by omega) (by omega) ?_
        rw [ye_kind (by omega) n4 n5 n6]
        refine yl_if (fun h8 => ?_) n8f
        rw [if_neg (by omega)]
        refine ys_159 hm2 hq2 (by omega) (by omega) ?_
        rw [ye_kind (by omega) m4 m5 m6]
        refine yl_if (fun h3 => ?_) (fun h3 => no (fun ro h => ?_))
        · exact fin r' esr pr pq (some q'.2.1) hnr hpr hwr h8 (t0 _ h8 (by rw [hfP]; show (if q'.1 = 3 then _ else none) = _; rw [if_pos h3])) (Or.inr ⟨q', esq, _, hnq, hwq, hpq, h3, rfl⟩)
        · rw [t0 none h8 (by rw [hfP]; show (if q'.1 = 3 then _ else none) = _; rw [if_neg h3])] at h
          cases h
end YLG3
