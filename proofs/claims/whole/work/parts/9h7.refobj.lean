/-! load: the reference reads an object -/
set_option maxRecDepth 100000 in
theorem yh_end_lc {T : Int → Int} {E : yLt} {o : Nat} {q : Int} {d : ye_N} {es : List ye_E} (hv : yh_V T E o = some (q, .inl d :: es)) (h1 : ¬ yp_has T yX_neo q = true) (h2 : yp_has T yX_nst q = true) (h7 : d.1 = 7) : yh_end T E o = (match yh_lc E o (yh_L T E es) with
    | .inl x => .inl x
    | .inr n => if yh_ct T (q + 8) n.toNat = true ∧ yp_has T yX_nes (q + 8 + n) = true then .inr (some n) else .inl (3, yh_pl E o)) := by
  unfold yh_end
  rw [hv]
  show (if yp_has T yX_neo q = true then .inr none else if yp_has T yX_nst q = true ∧ d.1 = 7 then (match yh_L T E es with
    | none => .inl (4, yh_pl E o)
    | some (.inl r) => .inl (3, yh_pl E r)
    | some (.inr n) => if n < 0 ∨ 12 < n then .inl (4, yh_pl E o) else if yh_ct T (q + 8) n.toNat = true ∧ yp_has T yX_nes (q + 8 + n) = true then .inr (some n) else .inl (3, yh_pl E o)) else .inl (3, yh_pl E o) : (Int × Int) ⊕ Option Int) = _
  rw [if_neg h1, if_pos ⟨h2, h7⟩]
  cases yh_L T E es with
  | none => rfl
  | some x =>
    cases x with
    | inl r => rfl
    | inr n =>
      show (if n < 0 ∨ 12 < n then .inl (4, yh_pl E o) else if yh_ct T (q + 8) n.toNat = true ∧ yp_has T yX_nes (q + 8 + n) = true then .inr (some n) else .inl (3, yh_pl E o) : (Int × Int) ⊕ Option Int) = (match (if n < 0 ∨ 12 < n then .inl (4, yh_pl E o) else .inr n : (Int × Int) ⊕ Int) with
        | .inl x => .inl x
        | .inr n => if yh_ct T (q + 8) n.toNat = true ∧ yp_has T yX_nes (q + 8 + n) = true then .inr (some n) else .inl (3, yh_pl E o))
      by_cases hn : n < 0 ∨ 12 < n
      · rw [if_pos hn, if_pos hn]
      · rw [if_neg hn, if_neg hn]
set_option maxRecDepth 100000 in
theorem yh_end_no {T : Int → Int} {E : yLt} {o : Nat} {q : Int} {d : ye_N} {es : List ye_E} (hv : yh_V T E o = some (q, .inl d :: es)) (h1 : ¬ yp_has T yX_neo q = true) (h2 : ¬ (yp_has T yX_nst q = true ∧ d.1 = 7)) : yh_end T E o = .inl (3, yh_pl E o) := by
  unfold yh_end
  rw [hv]
  show (if yp_has T yX_neo q = true then .inr none else if yp_has T yX_nst q = true ∧ d.1 = 7 then _ else .inl (3, yh_pl E o) : (Int × Int) ⊕ Option Int) = _
  rw [if_neg h1, if_neg h2]
set_option maxRecDepth 100000 in
theorem yh_end_0 {T : Int → Int} {E : yLt} {o : Nat} (hv : yh_V T E o = none) : yh_end T E o = .inl (3, yh_pl E o) := by
  unfold yh_end
  rw [hv]
set_option maxRecDepth 100000 in
theorem yh_end_1 {T : Int → Int} {E : yLt} {o : Nat} {q : Int} {es : List ye_E} (hv : yh_V T E o = some (q, es)) (h1 : yp_has T yX_neo q = true) : yh_end T E o = .inr none := by
  unfold yh_end
  rw [hv]
  show (if yp_has T yX_neo q = true then .inr none else _ : (Int × Int) ⊕ Option Int) = _
  rw [if_pos h1]
section YLH7
variable {X : Nat × (Nat → Int32)}
set_option maxRecDepth 100000 in
theorem ys_211 {S : zq_S} {T : Int → Int} {E : yLt} {o : Nat} {p g : Int} (hb : yTb T) (hC : yp_C T) (hT : ym_c S 1 = T) (hL : yRv S E) (hE : yLb E) (o1 : 1 ≤ o) (o9 : o ≤ 9) (hu : yh_u E o = some (p, g)) (hm : ym_I S) (h44 : zq_i S 232 44 = 0) (nl : ym_nm S 256 yNL) {K : Int → zq_S → Prop}
    (kf : ∀ c q S', yh_end T E o = .inl (c, q) → ymf yJo yAo S S' → ym_I S' → zq_i S' 232 44 = c → zq_i S' 232 43 = q → K 0 S')
    (kk : ∀ st q es S', yh_end T E o = .inr st → yh_V T E o = some (q, es) → ymf yJo yAo S S' → ym_I S' → zq_i S' 232 44 = 0 → (st = none → zq_i S' 232 27 = -1) → (∀ n, st = some n → (0 ≤ n ∧ n ≤ 12) ∧ (0 ≤ q ∧ q ≤ 1000) ∧ yh_ct T (q + 8) n.toNat = true ∧ zq_i S' 232 27 = n ∧ zq_i S' 232 25 = q + 8) → K 1 S') : zq_Ex X 211 0 [.ref 232, zq_vi (o : Int), zz_no, zz_no, zz_no, zz_no, zz_no] [] S (zq_rp zq_bo K) := by
  have hq : ym_q 1 := ⟨by decide, by decide, Or.inl (by decide)⟩
  have hq2 : ym_q 2 := ⟨by decide, by decide, Or.inl (by decide)⟩
  obtain ⟨bo1, bo2, bo3, bo4⟩ := yh_u_b hE hu
  have h251 : zq_i S 251 o = p := ((hL o o1 o9).2.1 p g hu).2.1
  have bad : ∀ S' : zq_S, ymf yJo yAo S S' → ym_I S' → zq_i S' 232 44 = 0 → yh_end T E o = .inl (3, yh_pl E o) → ((0 : Int) ≤ (o : Int) ∧ (o : Int) < (10 : Int)) ∧ (zq_Ex X 206 0 [(.ref (232)), (zq_vi (3)), (zq_vi (zq_i S' (251) (o : Int)))] [] S' (zq_rp zq_bo fun x s => K x s)) := fun S' f hm' h4 e => by
    refine ⟨⟨by omega, by omega⟩, ?_⟩
    rw [f.i (by simp) (by decide), h251]
    refine ys_206 ⟨by decide, by decide⟩ ⟨by omega, by omega⟩ h4 (fun S2 g2 c1 c2 => ?_)
    exact kf 3 p S2 (by rw [e, bo4]) (f.trans (g2.mono (by simp) (by simp))) (hm'.cong (fun j hj => g2.f (by simp at hj ⊢; omega)) (g2.i (by simp) (by decide))) c1 c2
  refine zw_211 ⟨by omega, by omega⟩ (ys_212 hb hC hm hT hL hE o1 o9 hu (fun hv S1 g1 hm1 => ?_) (fun q es0 S1 hv hyv g1 hm1 h25 hq0 hmd hlen => ?_))
  · rw [if_pos rfl]
    exact bad S1 (g1.mono (by simp) (by simp)) hm1 (by rw [g1.f (by simp)]; exact h44) (yh_end_0 hv)
  · rw [if_neg (by decide), h25]
    have fr1 : ymf yJo yAo S S1 := g1.mono (by simp) (by simp)
    have hT1 : ym_c S1 1 = T := by rw [g1.c1 (by simp) (by simp)]; exact hT
    have h441 : zq_i S1 232 44 = 0 := by rw [g1.f (by simp)]; exact h44
    have h23 := hmd.1
    obtain ⟨⟨d, es, ed, er⟩, ewf, emany, edm, ekd⟩ := id hyv
    have hv' : yh_V T E o = some (q, .inl d :: es) := by rw [hv, ed]
    rw [ed] at ewf
    -- the scratch is made, then
    have cp : ∀ {Q : zq_S → Prop}, (∀ S2, ymf yJo yAo S S2 → ymf [5] [235] S1 S2 → ym_I S2 → zq_i S2 232 44 = 0 → ye_su (ym_c S2 2) 0 true (.inl d :: es) → Q S2) → zq_Ex X 210 0 [.ref 232, zz_no] [] S1 (zq_rv Q) := fun {Q} kq => by
      refine ys_210 (by omega) (fun S2 g2 h5 hrow => kq S2 (fr1.trans (g2.mono (by simp) (by simp))) g2 ?_ (by rw [g2.f (by simp)]; exact h441) ?_)
      · obtain ⟨w1, w2, w3, w4, w5⟩ := hm1
        exact ⟨by rw [g2.f (by simp)]; exact w1, by rw [g2.f (by simp)]; exact w2, by rw [h5]; omega, by rw [g2.f (by simp)]; exact w4, fun o o0 o1 => by rw [g2.i (by simp) (by decide)]; exact w5 o o0 o1⟩
      · rw [← ed]
        exact ysc_su (by rw [h5, h23]) (fun i hi => by rw [hrow i (by omega)]; exact hmd.2 i hi)
    have cb : yh_end T E o = .inl (3, yh_pl E o) → zq_Ex X 210 0 [(.ref (232)), zz_no] [] S1 (zq_rv fun s_18 => (((0 : Int) ≤ (o : Int) ∧ (o : Int) < (10 : Int)) ∧ (zq_Ex X 206 0 [(.ref (232)), (zq_vi (3)), (zq_vi (zq_i s_18 (251) (o : Int)))] [] s_18 (zq_rp zq_bo fun x_22 s_21 => K (x_22) s_21)))) := fun e => cp (fun S2 f2 _ hm2 h442 _ => bad S2 f2 hm2 h442 e)
    refine ys_147 hm1 hq ⟨by omega, by omega⟩ ?_
    rw [hT1]
    refine yl_if (fun h10 => ?_) (fun h10 => bad S1 fr1 hm1 h441 (yh_end_no hv' (fun z => h10 ((yh_neo T q).mp z).1) (fun z => h10 ((yh_nst T q).mp z.1).1)))
    refine ys_213 hm1 hT1 ⟨by omega, by omega⟩ ?_
    cases he7 : yp_has T yX_e7 (q + 1) with
    | true =>
      rw [if_neg (show ¬ yb true = 0 by decide)]
      have f2 : ymf yJo yAo S1 (zq_si S1 232 27 (-1)) := ymf.sf (by simp)
      refine kk none q es0 _ (yh_end_1 hv ((yh_neo T q).mpr ⟨h10, he7⟩)) hv (fr1.trans f2) (hm1.cong (fun j hj => ?_) (f2.i (by simp) (by decide))) ?_ (fun _ => zq_i_at _ _ _ _) (fun n z => (by cases z))
      · have : j ≠ 27 := by simp at hj; omega
        rw [zq_i_si, if_neg (fun z => this z.2)]
      · rw [zq_i_si, if_neg (by simp)]
        exact h441
    | false =>
      rw [if_pos (show yb false = 0 from rfl)]
      have hneo : ¬ yp_has T yX_neo q = true := fun z => by
        have := ((yh_neo T q).mp z).2
        rw [he7] at this
        cases this
      have nst := yh_nst T q
      have cbn : ¬ (yp_has T yX_nst q = true) → zq_Ex X 210 0 [(.ref (232)), zz_no] [] S1 (zq_rv fun s_18 => (((0 : Int) ≤ (o : Int) ∧ (o : Int) < (10 : Int)) ∧ (zq_Ex X 206 0 [(.ref (232)), (zq_vi (3)), (zq_vi (zq_i s_18 (251) (o : Int)))] [] s_18 (zq_rp zq_bo fun x_22 s_21 => K (x_22) s_21)))) := fun h => cb (yh_end_no hv' hneo (fun z => h z.1))
      refine ys_164 hm1 hq (by omega) (by omega) (by decide) (by decide) (by decide) (by decide) ?_
      rw [hT1]
      cases hs : yp_says T (q + 1) 115 116 114 101 with
      | false =>
        rw [if_pos (show yb false = 0 from rfl)]
        exact cbn (fun z => by have := (nst.mp z).2.1; rw [hs] at this; cases this)
      | true =>
        rw [if_neg (show ¬ yb true = 0 by decide)]
        refine ys_147 hm1 hq ⟨by omega, by omega⟩ ?_
        rw [hT1]
        refine yl_if (fun h5 => ?_) (fun h5 => cbn (fun z => h5 (nst.mp z).2.2.1))
        refine ys_147 hm1 hq ⟨by omega, by omega⟩ ?_
        rw [hT1]
        refine yl_if (fun h6 => ?_) (fun h6 => cbn (fun z => h6 (nst.mp z).2.2.2.1))
        refine ys_147 hm1 hq ⟨by omega, by omega⟩ ?_
        rw [hT1]
        refine yl_if (fun h7' => ?_) (fun h7' => cbn (fun z => h7' (nst.mp z).2.2.2.2))
        have hnst : yp_has T yX_nst q = true := nst.mpr ⟨h10, hs, h5, h6, h7'⟩
        refine cp (fun S2 f2 g2 hm2 h442 hsu => ?_)
        refine ys_159 hm2 hq2 (by decide) (by decide) ?_
        rw [ye_kind (by decide) ewf.1 ewf.oks.tl (yh_hat hsu ewf)]
        refine yl_if (fun h7 => ?_) (fun h7 => bad S2 f2 hm2 h442 (yh_end_no hv' hneo (fun z => h7 z.2)))
        have hend := yh_end_lc hv' hneo hnst h7
        have hT2 : ym_c S2 1 = T := by rw [f2.c1 (by simp) (by simp)]; exact hT
        have hL2 : yRv S2 E := hL.cong (f2.i (by simp) (by decide)) (f2.i (by simp) (by decide)) (f2.i (by simp) (by decide))
        refine ys_214 hb hC hT2 hL2 hE o1 o9 hu hm2 h442 (nl.fr f2 (by decide) (by decide)) hsu (by rw [← ed]; exact hyv) h7 (fun c q' S3 e f3 hm3 c1 c2 => ?_) (fun n S3 e n0 n12 f3 hm3 h443 => ?_)
        · rw [if_pos (by decide)]
          rw [e] at hend
          exact kf c q' S3 hend (f2.trans f3) hm3 c1 c2
        · rw [if_neg (by omega)]
          rw [e] at hend
          have hend : yh_end T E o = if yh_ct T (q + 8) n.toNat = true ∧ yp_has T yX_nes (q + 8 + n) = true then .inr (some n) else .inl (3, yh_pl E o) := hend
          have fr3 := f2.trans f3
          have hT3 : ym_c S3 1 = T := by rw [fr3.c1 (by simp) (by simp)]; exact hT
          refine ys_215 hm3 hT3 ⟨by omega, by omega⟩ ?_
          obtain ⟨nn, hnn⟩ : ∃ nn : Nat, n = nn := ⟨n.toNat, by omega⟩
          subst hnn
          have hto : ((nn : Nat) : Int).toNat = nn := by omega
          rw [hto] at hend
          have f4 : ymf yJo yAo S3 (zq_si (zq_si S3 232 25 (q + 8)) 232 27 (nn : Int)) := (ymf.sf (by simp)).trans (ymf.sf (by simp))
          have hm4 : ym_I (zq_si (zq_si S3 232 25 (q + 8)) 232 27 (nn : Int)) := hm3.cong (fun j hj => by
            have : j ≠ 25 ∧ j ≠ 27 := by simp at hj; omega
            rw [zq_i_si, if_neg (fun z => this.2 z.2), zq_i_si, if_neg (fun z => this.1 z.2)]) (f4.i (by simp) (by decide))
          have h444 : zq_i (zq_si (zq_si S3 232 25 (q + 8)) 232 27 (nn : Int)) 232 44 = 0 := by
            rw [zq_i_si, if_neg (by simp), zq_i_si, if_neg (by simp)]
            exact h443
          have loop : ∀ (m i : Nat) (b : Bool), i + m = nn → (b = true ↔ (yp_has T yX_nes (q + 8 + nn) = true ∧ ∀ k : Nat, k < i → 32 ≤ T (q + 8 + k))) → zq_Ex X 211 192 [(.ref (232)), (zq_vi (o : Int)), (zq_vi q), (zq_vi (1)), (zq_vi (nn : Int)), (zq_vi (yb b)), (zq_vi (i : Int))] [] S3 (zq_rp zq_bo K) := by
            intro m
            induction m with
            | zero =>
              intro i b hi hb'
              refine zw_211_192 ⟨by omega, by omega⟩ ⟨by omega, by omega⟩ (Or.inr rfl) ⟨by omega, by omega⟩ (yb_bo b) ⟨by omega, by omega⟩ ?_
              rw [if_neg (by omega)]
              refine ⟨⟨by omega, by omega⟩, ?_⟩
              have hct : yh_ct T (q + 8) nn = true ↔ ∀ k : Nat, k < nn → 32 ≤ T (q + 8 + k) := by
                unfold yh_ct
                exact decide_eq_true_iff
              have hin : i = nn := by omega
              rw [hin] at hb'
              cases b with
              | false =>
                rw [if_pos (show yb false = 0 from rfl)]
                have hno : ¬ (yh_ct T (q + 8) nn = true ∧ yp_has T yX_nes (q + 8 + nn) = true) := fun z => by
                  have := hb'.mpr ⟨z.2, hct.mp z.1⟩
                  cases this
                rw [if_neg hno] at hend
                refine ⟨⟨by omega, by omega⟩, ?_⟩
                rw [fr3.i (by simp) (by decide), h251]
                refine ys_206 ⟨by decide, by decide⟩ ⟨by omega, by omega⟩ h444 (fun S5 g5 c1 c2 => ?_)
                rw [if_pos rfl]
                exact kf 3 p S5 (by rw [hend, bo4]) (fr3.trans (f4.trans (g5.mono (by simp) (by simp)))) (hm4.cong (fun j hj => g5.f (by simp at hj ⊢; omega)) (g5.i (by simp) (by decide))) c1 c2
              | true =>
                rw [if_neg (show ¬ yb true = 0 by decide)]
                have hyes := hb'.mp rfl
                have hct' := hct.mpr hyes.2
                rw [if_pos ⟨hct', hyes.1⟩] at hend
                refine kk (some (nn : Int)) q es0 _ hend hv (fr3.trans f4) hm4 h444 (fun z => (by cases z)) (fun n' z => ?_)
                have z : (nn : Int) = n' := Option.some.inj z
                rw [← z, hto]
                refine ⟨⟨n0, n12⟩, hq0, hct', zq_i_at _ _ _ _, ?_⟩
                rw [zq_i_si, if_neg (by simp), zq_i_si, if_pos ⟨rfl, rfl⟩]
            | succ m ih =>
              intro i b hi hb'
              refine zw_211_192 ⟨by omega, by omega⟩ ⟨by omega, by omega⟩ (Or.inr rfl) ⟨by omega, by omega⟩ (yb_bo b) ⟨by omega, by omega⟩ ?_
              rw [if_pos (by omega), show (i : Int) + 1 = ((i + 1 : Nat) : Int) by omega]
              cases b with
              | false =>
                rw [if_pos (show yb false = 0 from rfl)]
                refine ih (i + 1) false (by omega) ⟨fun z => (by cases z), fun z => ?_⟩
                exact hb'.mpr ⟨z.1, fun k hk => z.2 k (by omega)⟩
              | true =>
                rw [if_neg (show ¬ yb true = 0 by decide)]
                have hyes := hb'.mp rfl
                refine ys_147 hm3 hq ⟨by omega, by omega⟩ ?_
                rw [hT3]
                refine yl_if (fun hlt => ?_) (fun hlt => ?_)
                · refine ih (i + 1) false (by omega) ⟨fun z => (by cases z), fun z => ?_⟩
                  have := z.2 i (by omega)
                  omega
                · refine ih (i + 1) true (by omega) ⟨fun _ => ⟨hyes.1, fun k hk => ?_⟩, fun _ => rfl⟩
                  by_cases e : k = i
                  · rw [e]; omega
                  · exact hyes.2 k (by omega)
          have := loop nn 0 (yp_has T yX_nes (q + 8 + nn)) (by omega) ⟨fun z => ⟨z, fun k hk => by omega⟩, fun z => z.1⟩
          exact this
end YLH7
