/-! the law's case into -/
section YLB5
variable {X : Nat × (Nat → Int32)}
set_option maxRecDepth 100000 in
theorem yl_226 {S : zq_S} {K : Int → zq_S → Prop} {o : Nat} {d : ye_N} {es : List ye_E} {st : List Int} {x : Int} (hmI : ym_I S) (ho : o ≤ 9) (h19 : zq_i S 232 19 = o) (hT6 : yp_T6 (ym_c S (10 + o))) (g0 : 0 ≤ zq_i S 232 20) (g1 : zq_i S 232 20 ≤ 500) (hwf : ye_wf st (.inl d :: es)) (hat : ye_at (ym_c S (10 + o)) (zq_i S 232 20) (ye_op d ++ (ye_pr (ye_nest d) es ++ [0]))) (hl : es.length ≤ 40) (hxi : zq_iv x)
    (k1 : ye_nest d = false → K 0 (zq_si S 232 0 1)) (k2 : ye_nest d = true → x < 0 → K 0 (zq_si S 232 0 2)) (k3 : ye_nest d = true → ∀ i : Nat, x = i → ye_nth es 0 i = none → K 0 (zq_si S 232 0 2))
    (k4 : ye_nest d = true → ∀ (i : Nat) (d' : ye_N) (es' : List ye_E) (q : Int), x = i → ye_nth es 0 i = some (d', es') → ye_nd (ym_c S (10 + o)) q d' es' → 0 ≤ q → K d'.1 (zq_si (zq_si S 232 0 0) 232 20 q)) :
    zq_Ex X 226 0 [.ref 232, zq_vi x, zz_no, zz_no] [] S (zq_rp zq_iv K) := by
  have hw := hwf
  obtain ⟨w1, w2, w3⟩ := hw
  have hk : yp_kind (ym_c S (10 + o)) (zq_i S 232 20) = d.1 := ye_kind g0 w1 w3.oks hat
  have hq : ym_q (10 + (o : Int)) := ⟨by omega, by omega, Or.inr (by omega)⟩
  have main : ye_nest d = true → (if x < 0 then K (0) (zq_si S (232) (0) (2)) else (zq_Ex X 177 0 [(.ref (232)), (zq_vi (10 + (zq_i S (232) (19)))), (zq_vi (zq_i S (232) (20))), (zq_vi (x)), zz_no, zz_no, zz_no, zz_no] [] S (zq_rp zq_iv fun x_10 s_9 => (if x_10 < 0 then K (0) (zq_si s_9 (232) (0) (2)) else (zq_Ex X 225 0 [(.ref (232))] [] (zq_si (zq_si s_9 (232) (0) (0)) (232) (20) (x_10)) (zq_rp zq_iv fun x_14 s_13 => K (x_14) s_13)))))) := fun hn => by
    refine yl_if (fun hx => k2 hn hx) (fun hx => ?_)
    obtain ⟨i, hi⟩ : ∃ i : Nat, x = i := ⟨x.toNat, by omega⟩
    subst hi
    have w4 : ye_wf (d.1 :: st) es := by
      rw [if_pos hn] at w3
      exact w3
    have pa := ye_pa hT6 g0 w1 hn hat w4 hl i
    rw [h19]
    cases hnth : ye_nth es 0 i with
    | none =>
      rw [hnth] at pa
      have pa : yp_pa (ym_c S (10 + o)) (zq_i S 232 20) i = some (-1) := pa
      refine ys_177 hmI hq ⟨by omega, by omega⟩ hxi pa ?_
      rw [if_pos (by decide)]
      exact k3 hn i rfl hnth
    | some r =>
      obtain ⟨d', es'⟩ := r
      rw [hnth] at pa
      obtain ⟨q, pa1, pa2, pa3, pa4, pa5⟩ := pa
      have hd' : ye_ok d' := pa4.1
      have ho' : ye_oks es' := pa4.oks.tl
      have q0 : 0 ≤ q := by omega
      obtain ⟨c, l, ec, _, _, _, _, _, nz, _⟩ := ye_op_hd hd'
      have hq6 : q < 600 := yp_lt6 hT6 (by
        have := pa2.op
        rw [ec] at this
        rw [ye_at_hd this]
        exact nz)
      refine ys_177 hmI hq ⟨by omega, by omega⟩ hxi pa1 ?_
      rw [if_neg (by omega)]
      refine zw_225 ?_
      have eI : ∀ b, b ≠ 232 → zq_i (zq_si (zq_si S 232 0 0) 232 20 q) b = zq_i S b := fun b hb => by
        funext j
        rw [zq_i_si, if_neg (fun z => hb z.1), zq_i_si, if_neg (fun z => hb z.1)]
      have hT' : ym_c (zq_si (zq_si S 232 0 0) 232 20 q) (10 + o) = ym_c S (10 + o) := ym_c_o (eI 240 (by decide)) (eI 241 (by decide))
      have hm' : ym_I (zq_si (zq_si S 232 0 0) 232 20 q) := (hmI.th 0).j q (by decide)
      have e19 : zq_i (zq_si (zq_si S 232 0 0) 232 20 q) 232 19 = o := by
        rw [zq_i_si, if_neg (by decide), zq_i_si, if_neg (by decide)]
        exact h19
      rw [zq_i_at, e19]
      refine ys_159 hm' hq (by omega) (by omega) ?_
      rw [hT', ye_kind q0 hd' ho' pa2.op]
      exact k4 hn i d' es' q rfl hnth pa2 q0
  have st1 : ∀ K' : Int → zq_S → Prop, K' d.1 S → zq_Ex X 225 0 [.ref 232] [] S (zq_rp zq_iv K') := fun K' hk' => zw_225 (by
    rw [h19]
    refine ys_159 hmI hq (by omega) (by omega) ?_
    rw [hk]
    exact hk')
  refine zw_226 hxi ?_
  rw [if_neg (by rw [h19]; omega)]
  refine st1 _ (yl_if (fun e6 => ?_) (fun e6 => st1 _ (yl_if (fun e7 => ?_) (fun e7 => ?_))))
  · exact main (decide_eq_true (Or.inl e6))
  · exact main (decide_eq_true (Or.inr e7))
  · exact k1 (decide_eq_false (fun z => z.elim e6 e7))
set_option maxRecDepth 100000 in
theorem yl_773 (hX : X.1 ≤ 1536) : yl_C X 773 := fun s A m v5 v6 h5 h6 hI hm hmX next => by
  obtain ⟨dr, fl, ev, ct, F, t⟩ := A
  have hb : (0 : Int) ≤ 3 * (m : Int) + 1 ∧ 3 * (m : Int) + 1 < (X.1 : Int) := ⟨by omega, by omega⟩
  refine zw_0_773 (by omega) ⟨by omega, by omega⟩ h5 h6 ⟨hb, ?_⟩
  have hxi := zq_in32 (X.2 (3 * (m : Int) + 1).toNat)
  generalize (X.2 (3 * (m : Int) + 1).toNat).toInt = x at hxi ⊢
  have hn1 : zq_n s < 1000 := by omega
  rcases hI.cp with ⟨c1, c2⟩ | ⟨o, tr, pre, d, es, l, st, hcp⟩
  · refine zw_244 hxi zf_k259 (zw_131 hxi ⟨fun _ => ⟨hn1, ?_⟩, fun b z => ?_⟩)
    · rw [if_pos rfl]
      refine ⟨hb, zw_226 hxi ?_⟩
      rw [if_pos (by show zq_i s 232 19 < 0; rw [c1]; decide)]
      exact yl_say (y := 0) ((hI.exc 11).th 1) (by rw [zq_n_si, zq_n_sx]; omega) (zq_i_at _ _ _ _) (fun z => absurd z (by decide)) next
    · rw [c2] at z; cases z
  · obtain ⟨⟨p1, p2, p3, p4, p5⟩, ⟨q1, q2, q3⟩, ho, hyv, hn, htr, ⟨l0, l1⟩, hwf, hnd, ⟨g0, g1⟩, hlen, hpl, hT6⟩ := hcp
    obtain ⟨R, r1, r2, r3⟩ := hwf.rest
    have hat := hnd.op
    have hl40 : es.length ≤ 40 := by simp at hlen; omega
    obtain ⟨n1, n2, n3⟩ := htr.node
    refine zw_244 hxi zf_k259 (zw_131 hxi ⟨fun z => ?_, fun b hbz => ?_⟩)
    · rw [p3] at z; cases z
    have hbz : tr = b := Option.some.inj (p3.symm.trans hbz)
    subst hbz
    rw [hn]
    refine ys_132 q1 htr.2.2.2 (by omega) n3 n1 ?_
    cases hnest : ye_nest d with
    | false =>
      rw [if_pos (show yb false = 0 from rfl)]
      refine ⟨hn1, ?_⟩
      rw [if_pos rfl]
      refine ⟨hb, yl_226 (S := zq_sx s 11) (hI.exc 11).2.2.2.2.2.2.2 p1 p2 hT6 g0 g1 hwf hat hl40 hxi (fun _ => ?_) (fun z => ?_) (fun z => ?_) (fun z => ?_)⟩
      · exact yl_say (y := 0) ((hI.exc 11).th 1) (by rw [zq_n_si, zq_n_sx]; omega) (zq_i_at _ _ _ _) (fun z => absurd z (by decide)) next
      · rw [hnest] at z; cases z
      · rw [hnest] at z; cases z
      · rw [hnest] at z; cases z
    | true =>
      rw [if_neg (show ¬ yb true = 0 by decide), hn]
      have two : (x < 0 ∨ ∃ i : Nat, x = i ∧ ye_nth es 0 i = none) → zq_Ex X 226 0 [.ref 232, zq_vi x, zz_no, zz_no] [] (zq_sx s 12) (zq_rp zq_iv fun x_7 s_6 => (zq_Ex X 141 0 [(.ref (232))] [] s_6 (zq_rp zq_iv fun x_10 s_9 => (if x_10 = 2 then (if (2 : Int) = 0 then (if (zq_l s_9 (259) (0)) = ((Int32.ofInt (x_7)).toInt64) then zq_Ex X 0 967 [(.ref (zz_SC)), (.ref (0)), (.ref (232)), (.ref (259)), (zq_vi (3 * (m : Int))), (zq_vi (2)), (zq_vi (x_7))] [] s_9 (zq_rp zq_bo fun x _ => x = 1) else (0 : Int) = 1) else zq_Ex X 0 967 [(.ref (zz_SC)), (.ref (0)), (.ref (232)), (.ref (259)), (zq_vi (3 * (m : Int))), (zq_vi (2)), (zq_vi (x_7))] [] s_9 (zq_rp zq_bo fun x _ => x = 1)) else (0 : Int) = 1)))) := fun hno => by
        have say := yl_say (X := X) (k := 2) (b := 0) (y := 0) ((hI.exc 12).th 2) (by rw [zq_n_si, zq_n_sx]; omega) (zq_i_at _ _ _ _) (fun z => absurd z (by decide)) next
        refine yl_226 (S := zq_sx s 12) (hI.exc 12).2.2.2.2.2.2.2 p1 p2 hT6 g0 g1 hwf hat hl40 hxi (fun z => ?_) (fun _ _ => say) (fun _ _ _ _ => say) (fun _ i d' es' q hi hnth _ _ => ?_)
        · rw [hnest] at z; cases z
        · exfalso
          rcases hno with z | ⟨j, z1, z2⟩
          · omega
          · have : j = i := by omega
            subst this
            rw [hnth] at z2
            cases z2
      refine ys_133 q1 hxi htr l0 l1 hnest r1 (fun hx0 => ?_) (fun i hi => ?_)
      · rw [if_pos rfl]
        refine ⟨hn1, ?_⟩
        rw [if_neg (by decide), if_pos rfl]
        exact ⟨hb, two (Or.inl hx0)⟩
      · cases hnth : ye_nth es 0 i with
        | none =>
          refine (yl_if (c := (-1 : Int) = -1) (fun _ => ⟨hn1, ?_⟩) (fun z => absurd rfl z))
          rw [if_neg (by decide), if_pos rfl]
          exact ⟨hb, two (Or.inr ⟨i, hi, hnth⟩)⟩
        | some r =>
          obtain ⟨d', es'⟩ := r
          intro k' hk' hlt
          have hk12 := hk'.node.2.2
          have hk13 := hk'.2.2.2
          refine (yl_if (c := k' = -1) (fun z => ?_) (fun _ => ?_))
          · omega
          refine zw_92 (by decide +kernel) q1 ⟨by omega, by omega⟩ (zw_94 (by decide +kernel) ⟨fun z => ?_, fun b hb2 => ?_⟩)
          · exfalso
            rw [zq_r_si, zq_r_sr, if_pos ⟨rfl, rfl⟩] at z
            cases z
          · have hb3 : tr = b := by
              rw [zq_r_si, zq_r_sr, if_pos ⟨rfl, rfl⟩] at hb2
              exact Option.some.inj hb2
            subst hb3
            have ec : ∀ q, q ≠ 3 → zq_i (zq_si (zq_sr s 3 0 (some tr)) 3 1 k') q = zq_i s q := fun q hq => by
              funext j
              rw [zq_i_si, if_neg (fun z => hq z.1), zq_i_sr]
            obtain ⟨m1, m2, m3⟩ := hk'.node
            rw [zq_i_at]
            refine ys_48 q1 (by rw [ec tr (by omega)]; exact hk13) ⟨by omega, by omega⟩ ?_
            rw [ec tr (by omega), ec (tr + 1) (by omega), if_pos ⟨by omega, m3⟩, m1.1]
            refine ⟨⟨by decide, by decide⟩, hb, ?_⟩
            obtain ⟨S, hS⟩ : ∃ S, S = zq_sl (zq_si (zq_sr s 3 0 (some tr)) 3 1 k') 259 0 (Int32.ofInt d'.1).toInt64 := ⟨_, rfl⟩
            rw [← hS]
            have eS : ∀ q, q ≠ 3 → zq_i S q = zq_i s q := fun q hq => by rw [hS, zq_i_sl]; exact ec q hq
            have hTS : ym_c S (10 + o) = ym_c s (10 + o) := ym_c_o (eS 240 (by decide)) (eS 241 (by decide))
            have hmS : ym_I S := hI.2.2.2.2.2.2.2.cong (fun j _ => by rw [eS 232 (by decide)]) (eS 240 (by decide))
            refine yl_226 (S := S) (o := o) (d := d) (es := es) (st := st) hmS p1 (by rw [eS 232 (by decide)]; exact p2) (by rw [hTS]; exact hT6) (by rw [eS 232 (by decide)]; exact g0) (by rw [eS 232 (by decide)]; exact g1) hwf (by rw [hTS, eS 232 (by decide)]; exact hat) hl40 hxi (fun z => ?_) (fun _ z => ?_) (fun _ j hj h2 => ?_) (fun _ j d2 es2 q hj h2 hnd2 hq0 => ?_)
            · rw [hnest] at z; cases z
            · omega
            · exfalso
              have hij : j = i := by omega
              rw [hij, hnth] at h2
              cases h2
            · have hij : j = i := by omega
              rw [hij, hnth] at h2
              obtain ⟨e1, e2⟩ := Prod.mk.inj (Option.some.inj h2)
              subst e1
              subst e2
              rw [hTS] at hnd2
              obtain ⟨mid, hmid⟩ := ye_nth_split hnth
              have hev : ev o = (pre ++ .inl d :: mid) ++ .inl d' :: es' := by rw [ho, hmid]; simp
              have hk2 : k' = ((yr_many (pre ++ .inl d :: mid) : Nat) : Int) := by
                have a1 := htr.1
                have a2 := hk'.1
                rw [ye_nl_len, hmid, show (.inl d :: (mid ++ .inl d' :: es') : List ye_E) = (.inl d :: mid) ++ .inl d' :: es' from rfl, yr_many_app2] at a1
                rw [ye_nl_len] at a2
                rw [yr_many_app2]
                omega
              obtain ⟨tr2, _, _, _, _, b5, b6⟩ := hI.obj p1 p5
              have hpl2 := yob_place b5 b6 hyv.2.1.oks hev hq0 hnd2.op
              have eI : ∀ b, b ≠ 3 → b ≠ 232 → zq_i (zq_si (zq_si S 232 0 0) 232 20 q) b = zq_i s b := fun b n3 n2 => by
                funext j
                rw [zq_i_si, if_neg (fun z => n2 z.1), zq_i_si, if_neg (fun z => n2 z.1), eS b n3]
              have eJ : ∀ j : Int, j ≠ 0 → j ≠ 20 → zq_i (zq_si (zq_si S 232 0 0) 232 20 q) 232 j = zq_i s 232 j := fun j j0 j2 => by
                rw [zq_i_si, if_neg (fun z => j2 z.2), zq_i_si, if_neg (fun z => j0 z.2), eS 232 (by decide)]
              have e0 : zq_i (zq_si (zq_si S 232 0 0) 232 20 q) 232 0 = 0 := by rw [zq_i_si, if_neg (by decide), zq_i_at]
              have e31 : zq_i (zq_si (zq_si S 232 0 0) 232 20 q) 3 1 = k' := by
                rw [zq_i_si, if_neg (fun z => absurd z.1 (by decide)), zq_i_si, if_neg (fun z => absurd z.1 (by decide)), hS, zq_i_sl, zq_i_at]
              have er3 : zq_r (zq_si (zq_si S 232 0 0) 232 20 q) 3 0 = some tr := by
                rw [zq_r_si, zq_r_si, hS, zq_r_sl, zq_r_si, zq_r_sr, if_pos ⟨rfl, rfl⟩]
              have erb : ∀ b, b ≠ 3 → zq_r (zq_si (zq_si S 232 0 0) 232 20 q) b = zq_r s b := fun b hb => by
                funext j
                rw [zq_r_si, zq_r_si, hS, zq_r_sl, zq_r_si, zq_r_sr, if_neg (fun z => hb z.1)]
              have elb : ∀ b, b ≠ 259 → zq_l (zq_si (zq_si S 232 0 0) 232 20 q) b = zq_l s b := fun b hb => by
                funext j
                rw [zq_l_si, zq_l_si, hS, zq_l_sl, if_neg (fun z => hb z.1), zq_l_si, zq_l_sr]
              have hlast : yI (zq_si (zq_si S 232 0 0) 232 20 q) (dr, fl, ev, ct, F, t) := by
                refine hI.curs eI (fun j j0 _ j2 => eJ j j0 j2) erb elb (Or.inr ⟨o, pre ++ .inl d :: mid, d', es', p1, ?_, ?_, ?_, hev, ?_, ?_⟩)
                · rw [eJ 19 (by decide) (by decide)]; exact p2
                · rw [eI 237 (by decide) (by decide)]; exact p5
                · rw [er3, ← p3, p4]
                  unfold ycu
                  split
                  · rfl
                  · next h0 =>
                    have hsl : ysl t o ≠ 3 := by
                      have f2 : t = 27 ∨ t = 126 := hI.2.1.2.1
                      unfold ysl
                      omega
                    rw [erb _ hsl]
                · rw [e31]; exact hk2
                · rw [zq_i_at]; exact hpl2
              refine yl_say (y := 0) hlast ?_ e0 (fun _ => ?_) next
              · rw [zq_n_si, zq_n_si, hS]
                show zq_n s ≤ m + 1
                omega
              · rw [zq_l_si, zq_l_si, hS, zq_l_sl, if_pos ⟨rfl, rfl⟩]
end YLB5
