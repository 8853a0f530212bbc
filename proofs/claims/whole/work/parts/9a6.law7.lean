/-! the law's case go -/
section YL6
variable {X : Nat × (Nat → Int32)}
set_option maxRecDepth 100000 in
theorem yl_717 (hX : X.1 ≤ 1536) : yl_C X 717 := fun s A m v5 v6 h5 h6 hI hm hmX next => by
  obtain ⟨dr, fl, ev, ct, F, t⟩ := A
  have f2 : t = 27 ∨ t = 126 := hI.2.1.2.1
  have t5 : zq_r s 0 8 = some t := hI.2.1.2.2.2.2.1
  have a3 : yI_tre s := hI.2.2.1
  have a4 : yI_tab s t ev ct := hI.2.2.2.1
  have a8 : ym_I s := hI.2.2.2.2.2.2.2
  have hb : (0 : Int) ≤ 3 * (m : Int) + 1 ∧ 3 * (m : Int) + 1 < (X.1 : Int) := ⟨by omega, by omega⟩
  refine zw_0_717 (by omega) ⟨by omega, by omega⟩ h5 h6 ⟨hb, ?_⟩
  have hxi := zq_in32 (X.2 (3 * (m : Int) + 1).toNat)
  generalize (X.2 (3 * (m : Int) + 1).toNat).toInt = x at hxi ⊢
  have hn1 : zq_n s < 1000 := by omega
  refine zw_243 hxi zf_k259 (zw_130 hxi ⟨t, t5, ys_33 f2 a4 hxi (fun hno => ⟨fun _ => ⟨hn1, ?_⟩, fun b hb => (by cases hb)⟩) (fun o ho h1 h9 hu => ⟨fun z => (by cases z), fun b hbb => ?_⟩)⟩)
  · rw [if_pos rfl]
    refine ⟨hb, zw_224 hxi (ys_173i hxi (fun _ => ?_) (fun g1 g9 gu => ?_))⟩
    · rw [if_pos rfl]
      exact yl_say (y := 0) ((hI.exc 13).th 1) (by rw [zq_n_si, zq_n_sx]; omega) (zq_i_at _ _ _ _) (fun z => absurd z (by decide)) next
    · exfalso
      refine hno ⟨g1, g9, ?_⟩
      obtain ⟨o, ho⟩ : ∃ o : Nat, x = o := ⟨x.toNat, by omega⟩
      subst ho
      have gu : zq_i s 237 o ≠ 0 := gu
      obtain ⟨d1, d2, _⟩ := a4 o (by omega) (by omega)
      rw [d2] at d1
      rcases d1.1 with w | w
      · exact absurd w gu
      · exact w
  · have hbb : ysl t o = b := Option.some.inj hbb
    subst hbb
    subst ho
    obtain ⟨q1, q2, q3, q4, q5, q6, q7, q8, q9⟩ := yk_sl f2 h1 h9
    obtain ⟨d1, d2, d3, d4, d5, d6⟩ := a4 o h1 h9
    obtain ⟨⟨tr, e1, e2⟩, e3, e4, e5, e6, e7⟩ := d6 (by rw [d2]; exact hu)
    obtain ⟨⟨d, es, ed, er⟩, ewf, _⟩ := e3
    obtain ⟨tr', k1, k2, k3⟩ := yI_tre.slot a3 f2 h1 h9
    have htt : tr' = tr := Option.some.inj (k1.symm.trans e1)
    subst htt
    have htb := yk_tree k2 k3
    rw [ed] at e2 ewf
    obtain ⟨n1, n2, n3⟩ := e2.node
    obtain ⟨w1, w2, w3⟩ := ewf
    have w2 : d.2.2.2.1 = [] := w2
    have hky : ye_ky d = [] := by unfold ye_ky; rw [if_pos w2]
    have hsu := yob_su e4 e5
    rw [ed] at hsu
    have hat : ye_at (ym_c s (10 + o)) 0 (ye_op d ++ (ye_pr (ye_nest d) es ++ [0])) := by
      have := ye_su_node1 hsu
      rw [hky] at this
      exact this
    have hkind : yp_kind (ym_c s (10 + o)) 0 = d.1 := ye_kind (by decide) w1 w3.oks hat
    refine ⟨tr', e1, zw_92 (by decide +kernel) k2 ⟨by decide, by decide⟩ (zw_94 (by decide +kernel) ⟨fun z => ?_, fun b hb2 => ?_⟩)⟩
    · exfalso
      rw [zq_r_si, zq_r_sr, if_pos ⟨rfl, rfl⟩] at z
      cases z
    · have hb3 : tr' = b := by
        rw [zq_r_si, zq_r_sr, if_pos ⟨rfl, rfl⟩] at hb2
        exact Option.some.inj hb2
      subst hb3
      have ec : ∀ q, q ≠ 3 → zq_i (zq_si (zq_sr s 3 0 (some tr')) 3 1 0) q = zq_i s q := fun q hq => by
        funext j
        rw [zq_i_si, if_neg (fun z => hq z.1), zq_i_sr]
      rw [zq_i_at]
      refine ys_48 k2 (by rw [ec tr' (by omega)]; exact e2.2.2.2) ⟨by decide, by decide⟩ ?_
      rw [ec tr' (by omega), ec (tr' + 1) (by omega), if_pos ⟨by decide, n3⟩, n1.1]
      refine ⟨⟨by decide, by decide⟩, hb, zw_224 hxi (ys_173i hxi (fun w => ?_) (fun _ _ _ => ?_))⟩
      · exfalso
        refine w ⟨by omega, by omega, ?_⟩
        rw [zq_i_sl, ec 237 (by decide), hu]
        decide
      · rw [if_neg (by decide)]
        have eI : ∀ q, q ≠ 3 → q ≠ 232 → zq_i (zq_si (zq_si (zq_si (zq_sl (zq_si (zq_sr s 3 0 (some tr')) 3 1 0) 259 0 (Int32.ofInt d.1).toInt64) 232 0 0) 232 19 o) 232 20 0) q = zq_i s q := fun q h3 h232 => by
          funext j
          rw [zq_i_si, if_neg (fun z => h232 z.1), zq_i_si, if_neg (fun z => h232 z.1), zq_i_si, if_neg (fun z => h232 z.1), zq_i_sl, ec q h3]
        have eJ : ∀ j : Int, j ≠ 0 → j ≠ 19 → j ≠ 20 → zq_i (zq_si (zq_si (zq_si (zq_sl (zq_si (zq_sr s 3 0 (some tr')) 3 1 0) 259 0 (Int32.ofInt d.1).toInt64) 232 0 0) 232 19 o) 232 20 0) 232 j = zq_i s 232 j := fun j j0 j1 j2 => by
          rw [zq_i_si, if_neg (fun z => j2 z.2), zq_i_si, if_neg (fun z => j1 z.2), zq_i_si, if_neg (fun z => j0 z.2), zq_i_sl, ec 232 (by decide)]
        have e20 : zq_i (zq_si (zq_si (zq_si (zq_sl (zq_si (zq_sr s 3 0 (some tr')) 3 1 0) 259 0 (Int32.ofInt d.1).toInt64) 232 0 0) 232 19 o) 232 20 0) 232 20 = 0 := zq_i_at _ _ _ _
        have e19 : zq_i (zq_si (zq_si (zq_si (zq_sl (zq_si (zq_sr s 3 0 (some tr')) 3 1 0) 259 0 (Int32.ofInt d.1).toInt64) 232 0 0) 232 19 o) 232 20 0) 232 19 = o := by rw [zq_i_si, if_neg (by decide), zq_i_at]
        have e00 : zq_i (zq_si (zq_si (zq_si (zq_sl (zq_si (zq_sr s 3 0 (some tr')) 3 1 0) 259 0 (Int32.ofInt d.1).toInt64) 232 0 0) 232 19 o) 232 20 0) 232 0 = 0 := by rw [zq_i_si, if_neg (by decide), zq_i_si, if_neg (by decide), zq_i_at]
        have hlast : yI (zq_si (zq_si (zq_si (zq_sl (zq_si (zq_sr s 3 0 (some tr')) 3 1 0) 259 0 (Int32.ofInt d.1).toInt64) 232 0 0) 232 19 o) 232 20 0) (dr, fl, ev, ct, F, t) := by
          refine hI.curs eI eJ (fun q hq => ?_) (fun q hq => ?_) (Or.inr ⟨o, [], d, es, h9, e19, fun _ => ?_, ?_, ed, ?_, ?_⟩)
          · funext j
            rw [zq_r_si, zq_r_si, zq_r_si, zq_r_sl, zq_r_si, zq_r_sr, if_neg (fun z => hq z.1)]
          · funext j
            rw [zq_l_si, zq_l_si, zq_l_si, zq_l_sl, if_neg (fun z => hq z.1), zq_l_si, zq_l_sr]
          · rw [eI 237 (by decide) (by decide)]; exact hu
          · unfold ycu
            rw [if_neg (by omega), zq_r_si, zq_r_si, zq_r_si, zq_r_sl, zq_r_si, zq_r_sr, if_pos ⟨rfl, rfl⟩, zq_r_sr, if_neg (fun z => by have := z.1; omega), e1]
          · rw [zq_i_si, if_neg (by decide), zq_i_si, if_neg (by decide), zq_i_si, if_neg (by decide), zq_i_sl, zq_i_at]
            rfl
          · rw [e20]
            have ep : ye_pr true ([] ++ [.inl d]) = ye_op d := by
              show ([] : List Int) ++ (ye_ky d ++ (ye_op d ++ [])) = _
              rw [hky]
              simp
            rw [ep]
            omega
        refine zw_225 ?_
        rw [e19, e20]
        have hmI : ym_I (zq_si (zq_si (zq_si (zq_sl (zq_si (zq_sr s 3 0 (some tr')) 3 1 0) 259 0 (Int32.ofInt d.1).toInt64) 232 0 0) 232 19 o) 232 20 0) := hlast.2.2.2.2.2.2.2
        have hTc : ym_c (zq_si (zq_si (zq_si (zq_sl (zq_si (zq_sr s 3 0 (some tr')) 3 1 0) 259 0 (Int32.ofInt d.1).toInt64) 232 0 0) 232 19 o) 232 20 0) (10 + o) = ym_c s (10 + o) := by
          funext i
          unfold ym_c
          rw [if_neg (show ¬ (10 + (o : Int) = 0) by omega), if_neg (show ¬ (10 + (o : Int) = 1) by omega), if_neg (show ¬ (10 + (o : Int) = 2) by omega), if_neg (show ¬ (10 + (o : Int) = 3) by omega), eI 240 (by decide) (by decide), eI 241 (by decide) (by decide)]
          rw [if_neg (show ¬ (10 + (o : Int) = 0) by omega), if_neg (show ¬ (10 + (o : Int) = 1) by omega), if_neg (show ¬ (10 + (o : Int) = 2) by omega), if_neg (show ¬ (10 + (o : Int) = 3) by omega)]
        refine ys_159 hmI ⟨by omega, by omega, Or.inr (by omega)⟩ (by decide) (by decide) ?_
        rw [hTc, hkind]
        refine yl_say (y := 0) hlast (by show zq_n s ≤ m + 1; omega) e00 (fun _ => ?_) next
        rw [zq_l_si, zq_l_si, zq_l_si, zq_l_sl, if_pos ⟨rfl, rfl⟩]
end YL6
