/-! the law's case follow -/
section YLB8
variable {X : Nat × (Nat → Int32)}
set_option maxRecDepth 100000 in
theorem yl_829 (hX : X.1 ≤ 1536) : yl_C X 829 := fun s A m v5 v6 h5 h6 hI hm hmX next => by
  obtain ⟨dr, fl, ev, ct, F, t⟩ := A
  have f2 : t = 27 ∨ t = 126 := hI.2.1.2.1
  have t5 : zq_r s 0 8 = some t := hI.2.1.2.2.2.2.1
  have ot : zq_o 8 t := by rcases f2 with z | z <;> (subst z; decide +kernel)
  have o3 : zq_o 2 3 := by decide +kernel
  have o4 : zq_o 2 4 := by decide +kernel
  have hn1 : zq_n s < 1000 := by omega
  refine zw_0_829 ⟨by omega, by omega⟩ h5 h6 (zw_245 zf_k259 (zw_134 ?_))
  rcases hI.cp with ⟨c1, c2⟩ | ⟨o, tr, pre, d, es, l, st, hcp⟩
  · refine ⟨fun _ => ⟨hn1, ?_⟩, fun b z => ?_⟩
    · rw [if_pos rfl]
      refine zw_227 ?_
      rw [if_pos (by show zq_i s 232 19 < 0; rw [c1]; decide)]
      exact yl_say (y := 0) ((hI.exc 11).th 1) (by rw [zq_n_si, zq_n_sx]; omega) (zq_i_at _ _ _ _) (fun z => absurd z (by decide)) next
    · rw [c2] at z; cases z
  · obtain ⟨⟨p1, p2, p3, p4, p5⟩, ⟨q1, q2, q3⟩, ho, hyv, hn, htr, ⟨l0, l1⟩, hwf, hnd, ⟨g0, g1⟩, hlen, hpl, hT6⟩ := hcp
    have hat := hnd.op
    have hd : ye_ok d := hwf.1
    have hes : ye_oks es := hwf.oks.tl
    obtain ⟨n1, n2, n3⟩ := htr.node
    have h12 := htr.2.2.2
    refine ⟨fun z => ?_, fun b hbz => ?_⟩
    · rw [p3] at z; cases z
    have hbz : tr = b := Option.some.inj (p3.symm.trans hbz)
    subst hbz
    rw [hn]
    refine zw_92 o4 q1 ⟨by omega, by omega⟩ ⟨t, by rw [zq_r_si, zq_r_sr, if_neg (by decide)]; exact t5, zw_93 ot o4 ?_⟩
    refine ys_93_4 (tr0 := tr) (j0 := (yr_many pre : Int)) hI 10 0 _ none tr (yr_many pre : Int) d l _ _ rfl rfl (by decide) (by decide) (((yz_fr.refl s).sr 0 _).si 1 _) (by rw [zq_r_si, zq_r_sr, if_pos ⟨rfl, rfl⟩]) (zq_i_at _ _ _ _) ⟨q1, q2⟩ ⟨by omega, n3, h12⟩ n1 hd ⟨rfl, rfl⟩ (fun S' fr hyz => ?_) (fun S' r tr' j' fr hyz hr' hj' hpos => ?_)
    · rw [if_pos rfl]
      refine ⟨by rw [fr.2.2.2]; exact hn1, ?_⟩
      rw [if_neg (by decide), if_pos rfl]
      have hI' : yI (zq_sx S' 14) (dr, fl, ev, ct, F, t) := (fr.yI hI).exc 14
      have e232 : zq_i (zq_sx S' 14) 232 = zq_i s 232 := fr.1 232 (by decide)
      have hTc : ym_c (zq_sx S' 14) (10 + o) = ym_c s (10 + o) := ym_c_o (fr.1 240 (by decide)) (fr.1 241 (by decide))
      have hz2 : yz (zq_sx S' 14) ev 10 0 none d = none := (yz_cong (fr.1 237 (by decide)) (fr.1 238 (by decide)) 10 0 none d).trans hyz
      refine yl_227 (S := zq_sx S' 14) (ev := ev) (o := o) (d := d) (es := es) hI'.2.2.2.2.2.2.2 hI'.yz_R p1 (by rw [e232]; exact p2) (by rw [e232]; exact g0) (by rw [e232]; exact g1) hd hes (by rw [hTc, e232]; exact hat) (fun _ S2 f3 => ?_) (fun r S2 o' p' hz => ?_)
      · have hm2 : ym_I S2 := hI'.2.2.2.2.2.2.2.cong (fun j hj => f3.f (by simp at hj ⊢; omega)) (f3.i (by simp) (by decide))
        have hI2 : yI S2 (dr, fl, ev, ct, F, t) := f3.yI hI' (by decide) (by simp) hm2
        exact yl_say (y := 0) (hI2.th 2) (by rw [zq_n_si, f3.n, zq_n_sx, fr.2.2.2]; omega) (zq_i_at _ _ _ _) (fun z => absurd z (by decide)) next
      · rw [hz2] at hz; cases hz
    · rw [if_neg (by decide)]
      refine ⟨fun z => ?_, fun b hbz => ?_⟩
      · rw [hr'] at z; cases z
      have hbz : tr' = b := Option.some.inj (hr'.symm.trans hbz)
      subst hbz
      have rcd : ∃ (o2 : Nat) (pre2 : List ye_E) (d2 : ye_N) (es2 : List ye_E) (P : Int) (l2 : Int), o2 ≤ 9 ∧ (o2 ≠ 0 → zq_i s 237 o2 = 1) ∧ ycu s t o2 = some tr' ∧ (zq_o 4 tr' ∧ 29 ≤ tr') ∧ ev o2 = pre2 ++ .inl d2 :: es2 ∧ j' = yr_many pre2 ∧ yt_nd s tr' j' l2 d2 ∧ j' < zq_i s tr' 0 ∧ zq_i s tr' 0 ≤ 12 ∧ P = ((ye_pr true (pre2 ++ [.inl d2])).length : Int) - (ye_op d2).length ∧ ye_ok d2 ∧ ye_oks es2 ∧ ye_at (ym_c s (10 + o2)) P (ye_op d2 ++ (ye_pr (ye_nest d2) es2 ++ [0])) ∧ 0 ≤ P ∧ (∀ o' p', yz_rp o (zq_i s 232 20) r o' p' → o' = o2 ∧ p' = P) := by
        cases r with
        | none =>
          obtain ⟨a1, a2⟩ := hpos
          subst a1
          subst a2
          exact ⟨o, pre, d, es, zq_i s 232 20, l, p1, p5, p4.symm.trans p3, ⟨q1, q2⟩, ho, rfl, n1, n3, h12, hpl, hd, hes, hat, g0, fun o' p' h => h⟩
        | some n =>
          obtain ⟨a1, a2, a3, a4⟩ := hpos
          subst a4
          obtain ⟨tr2, d2, es2, r1, r2, r3, r4, r5, r6, r7, r8, r9, r10⟩ := hI.root a1 a2
          have htt : tr2 = tr' := Option.some.inj (r1.symm.trans a3)
          subst htt
          obtain ⟨m1, m2, m3⟩ := r3.node
          have hky : ye_ky d2 = [] := by unfold ye_ky; rw [if_pos r7]
          refine ⟨n, [], d2, es2, 0, 0, a1, a2, r1, ⟨r2.1, r2.2.1⟩, r4, rfl, m1, m3, r3.2.2.2, ?_, r5.1, r5.oks.tl, r6, by decide, fun o' p' h => ⟨h.1, h.2.2⟩⟩
          have ep : ye_pr true ([] ++ [.inl d2]) = ye_op d2 := by
            show ([] : List Int) ++ (ye_ky d2 ++ (ye_op d2 ++ [])) = _
            rw [hky]
            simp
          rw [ep]
          omega
      obtain ⟨o2, pre2, d2, es2, P, l2, b1, b2, b3, b4, b5, b6, b7, b8, b9, b10, b11, b12, b13, b14, b15⟩ := rcd
      rw [hj']
      refine zw_92 o3 b4.1 ⟨by omega, by omega⟩ (zw_94 o3 ⟨fun z => ?_, fun b hb2 => ?_⟩)
      · exfalso
        rw [zq_r_si, zq_r_sr, if_pos ⟨rfl, rfl⟩] at z
        cases z
      have hb3 : tr' = b := by
        rw [zq_r_si, zq_r_sr, if_pos ⟨rfl, rfl⟩] at hb2
        exact Option.some.inj hb2
      subst hb3
      have ec : ∀ q, q ≠ 3 → q ≠ 4 → zq_i (zq_si (zq_sr S' 3 0 (some tr')) 3 1 j') q = zq_i s q := fun q hq hq4 => by
        funext j
        rw [zq_i_si, if_neg (fun z => hq z.1), zq_i_sr, fr.1 q hq4]
      rw [zq_i_at]
      refine ys_48 b4.1 (by rw [ec tr' (by omega) (by omega)]; exact b9) ⟨by omega, by omega⟩ ?_
      rw [ec tr' (by omega) (by omega), ec (tr' + 1) (by omega) (by omega), if_pos ⟨by omega, b8⟩, b7.1]
      refine ⟨⟨by decide, by decide⟩, ?_⟩
      obtain ⟨S, hS⟩ : ∃ S, S = zq_sl (zq_si (zq_sr S' 3 0 (some tr')) 3 1 j') 259 0 (Int32.ofInt d2.1).toInt64 := ⟨_, rfl⟩
      rw [← hS]
      have eS : ∀ q, q ≠ 3 → q ≠ 4 → zq_i S q = zq_i s q := fun q hq h4 => by rw [hS, zq_i_sl]; exact ec q hq h4
      have hTS : ∀ n : Nat, ym_c S (10 + n) = ym_c s (10 + n) := fun n => ym_c_o (eS 240 (by decide) (by decide)) (eS 241 (by decide) (by decide))
      have hmS : ym_I S := hI.2.2.2.2.2.2.2.cong (fun j _ => by rw [eS 232 (by decide) (by decide)]) (eS 240 (by decide) (by decide))
      have e232 : zq_i S 232 = zq_i s 232 := eS 232 (by decide) (by decide)
      have hRS : yz_R S ev := hI.yz_R.cong (eS 237 (by decide) (by decide)) (eS 240 (by decide) (by decide)) (eS 241 (by decide) (by decide))
      have hzS : yz S ev 10 0 none d = some r := (yz_cong (eS 237 (by decide) (by decide)) (eS 238 (by decide) (by decide)) 10 0 none d).trans hyz
      refine yl_227 (S := S) (ev := ev) (o := o) (d := d) (es := es) hmS hRS p1 (by rw [e232]; exact p2) (by rw [e232]; exact g0) (by rw [e232]; exact g1) hd hes (by rw [hTS, e232]; exact hat) (fun hz => ?_) (fun r2 S4 o' p' hz f4 hrp _ _ _ => ?_)
      · rw [hzS] at hz; cases hz
      · rw [hzS] at hz
        have hrr : r = r2 := Option.some.inj hz
        rw [← hrr, e232] at hrp
        obtain ⟨eo, ep⟩ := b15 o' p' hrp
        rw [eo, ep, hTS, ye_kind b14 b11 b12 b13]
        have eI : ∀ b, b ≠ 3 → b ≠ 4 → b ≠ 232 → b ≠ 254 → zq_i (zq_si (zq_si (zq_si S4 232 0 0) 232 19 o2) 232 20 P) b = zq_i s b := fun b h3 h4 h2 h54 => by
          funext j
          rw [zq_i_si, if_neg (fun z => h2 z.1), zq_i_si, if_neg (fun z => h2 z.1), zq_i_si, if_neg (fun z => h2 z.1), f4.i (by simp; exact h54) h2, eS b h3 h4]
        have eJ : ∀ j : Int, j ∉ [0, 19, 20, 47, 48] → zq_i (zq_si (zq_si (zq_si S4 232 0 0) 232 19 o2) 232 20 P) 232 j = zq_i s 232 j := fun j hj => by
          simp at hj
          rw [zq_i_si, if_neg (fun z => hj.2.2.1 z.2), zq_i_si, if_neg (fun z => hj.2.1 z.2), zq_i_si, if_neg (fun z => hj.1 z.2), f4.f (by simp; exact ⟨hj.1, hj.2.2.2.1, hj.2.2.2.2⟩), e232]
        have e0 : zq_i (zq_si (zq_si (zq_si S4 232 0 0) 232 19 o2) 232 20 P) 232 0 = 0 := by rw [zq_i_si, if_neg (by decide), zq_i_si, if_neg (by decide), zq_i_at]
        have e19 : zq_i (zq_si (zq_si (zq_si S4 232 0 0) 232 19 o2) 232 20 P) 232 19 = o2 := by rw [zq_i_si, if_neg (by decide), zq_i_at]
        have er : ∀ b, zq_r (zq_si (zq_si (zq_si S4 232 0 0) 232 19 o2) 232 20 P) b = zq_r S b := fun b => by
          funext j
          rw [zq_r_si, zq_r_si, zq_r_si, f4.r]
        have el : ∀ b, zq_l (zq_si (zq_si (zq_si S4 232 0 0) 232 19 o2) 232 20 P) b = zq_l S b := fun b => by
          funext j
          rw [zq_l_si, zq_l_si, zq_l_si, f4.l]
        have erS : ∀ b, b ≠ 3 → b ≠ 4 → zq_r S b = zq_r s b := fun b h3 h4 => by
          funext j
          rw [hS, zq_r_sl, zq_r_si, zq_r_sr, if_neg (fun z => h3 z.1), fr.2.1 b h4]
        have hlast : yI (zq_si (zq_si (zq_si S4 232 0 0) 232 19 o2) 232 20 P) (dr, fl, ev, ct, F, t) := by
          refine hI.curs2 (fun b hb h3 h2 => eI b h3 (fun z => hb ?_) h2 (fun z => hb ?_)) (fun j hj n19 n20 => eJ j ?_) (fun b h3 hb => ?_) (fun b hb h9 => ?_) ?_ (Or.inr ⟨o2, pre2, d2, es2, b1, e19, ?_, ?_, b5, ?_, ?_⟩)
          · unfold yirr; omega
          · unfold yirr; omega
          · simp at hj ⊢; omega
          · rw [er b, erS b h3 (by omega)]
          · rw [el b]
            funext j
            rw [hS, zq_l_sl, if_neg (fun z => h9 z.1), zq_l_si, zq_l_sr, fr.2.2.1]
          · exact hI.2.2.2.2.2.2.2.cong (fun j hj => eJ j (by simp at hj ⊢; omega)) (eI 240 (by decide) (by decide) (by decide) (by decide))
          · rw [eI 237 (by decide) (by decide) (by decide) (by decide)]; exact b2
          · rw [er 3, show zq_r S 3 0 = some tr' by rw [hS, zq_r_sl, zq_r_si, zq_r_sr, if_pos ⟨rfl, rfl⟩], ← b3]
            unfold ycu
            split
            · rfl
            · next h0 =>
              have hsl : ysl t o2 ≠ 3 ∧ ysl t o2 ≠ 4 := by unfold ysl; omega
              rw [er (ysl t o2), erS _ hsl.1 hsl.2]
          · rw [zq_i_si, if_neg (fun z => absurd z.1 (by decide)), zq_i_si, if_neg (fun z => absurd z.1 (by decide)), zq_i_si, if_neg (fun z => absurd z.1 (by decide)), f4.i (by simp) (by decide), hS, zq_i_sl, zq_i_at]
            exact b6
          · rw [zq_i_at]; exact b10
        refine yl_say (y := 0) hlast ?_ e0 (fun _ => ?_) next
        · rw [zq_n_si, zq_n_si, zq_n_si, f4.n, hS]
          show zq_n S' ≤ m + 1
          rw [fr.2.2.2]
          omega
        · rw [el 259, hS, zq_l_sl, if_pos ⟨rfl, rfl⟩]
end YLB8
