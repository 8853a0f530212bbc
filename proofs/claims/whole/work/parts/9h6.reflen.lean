/-! load: the reference finds a Length -/
def yh_lc (E : yLt) (o : Nat) (r : Option (Nat ⊕ Int)) : (Int × Int) ⊕ Int := match r with
  | none => .inl (4, yh_pl E o)
  | some (.inl r) => .inl (3, yh_pl E r)
  | some (.inr n) => if n < 0 ∨ 12 < n then .inl (4, yh_pl E o) else .inr n
set_option maxRecDepth 100000 in
theorem yh_hat {T : Int → Int} {d : ye_N} {es : List ye_E} (hsu : ye_su T 0 true (.inl d :: es)) (hwf : ye_wf [] (.inl d :: es)) : ye_at T 0 (ye_op d ++ (ye_pr (ye_nest d) es ++ [0])) := by
  have w2 : d.2.2.2.1 = [] := hwf.2.1
  have hky : ye_ky d = [] := by
    unfold ye_ky
    rw [if_pos w2]
  have h := hsu
  unfold ye_su at h
  have e : ye_pr true (.inl d :: es) = ye_op d ++ ye_pr (ye_nest d) es := by
    show [] ++ (ye_ky d ++ (ye_op d ++ ye_pr (ye_nest d) es)) = _
    rw [hky]
    rfl
  rw [e, List.append_assoc] at h
  exact h
set_option maxRecDepth 100000 in
theorem yh_pl_b {E : yLt} (hE : yLb E) (o : Nat) : 0 ≤ yh_pl E o ∧ yh_pl E o ≤ 999 := by
  cases hu : yh_u E o with
  | none =>
    unfold yh_pl
    rw [hu]
    exact ⟨by decide, by decide⟩
  | some pg =>
    obtain ⟨b1, _, _, b4⟩ := yh_u_b hE (p := pg.1) (g := pg.2) hu
    rw [b4]
    exact b1
section YLH6
variable {X : Nat × (Nat → Int32)}
set_option maxRecDepth 100000 in
theorem ys_214_155 {S : zq_S} {E : yLt} {o : Nat} (hm : ym_I S) (o1 : 1 ≤ o) (o9 : o ≤ 9) (hE : yLb E) (hpl : zq_i S 251 o = yh_pl E o) (h44 : zq_i S 232 44 = 0) {x2 x3 : Int} {v4 v5 : Value} (i3 : zq_iv x3) (h4 : v4.category = 1) (h5 : v5.category = 1) {res : Option (Nat ⊕ Int)} (hres : (x2 = -1 ∧ res = none) ∨ ∃ d es, (0 ≤ x2 ∧ x2 < 500) ∧ ye_ok d ∧ ye_oks es ∧ ye_at (ym_c S 2) x2 (ye_op d ++ (ye_pr (ye_nest d) es ++ [0])) ∧ res = (if d.1 = 3 then some (.inr d.2.1) else none)) {K : Int → zq_S → Prop}
    (kf : ∀ c q S', yh_lc E o res = .inl (c, q) → ymf [43, 44] [] S S' → zq_i S' 232 44 = c → zq_i S' 232 43 = q → K (-1) S')
    (kk : ∀ n, yh_lc E o res = .inr n → 0 ≤ n → n ≤ 12 → K n S) : zq_Ex X 214 155 [.ref 232, zq_vi (o : Int), zq_vi x2, zq_vi x3, v4, v5] [] S (zq_rp zq_iv K) := by
  have hq : ym_q 2 := ⟨by decide, by decide, Or.inl (by decide)⟩
  have hpb := yh_pl_b hE o
  have bad : yh_lc E o res = .inl (4, yh_pl E o) → ((0 : Int) ≤ (o : Int) ∧ (o : Int) < (10 : Int)) ∧ (zq_Ex X 206 0 [(.ref (232)), (zq_vi (4)), (zq_vi (zq_i S (251) (o : Int)))] [] S (zq_rp zq_bo fun x_43 s_42 => (if x_43 = 0 then K ((-1)) s_42 else K (0) s_42))) := fun e => by
    refine ⟨⟨by omega, by omega⟩, ?_⟩
    rw [hpl]
    refine ys_206 ⟨by decide, by decide⟩ ⟨by omega, by omega⟩ h44 (fun S' g c1 c2 => ?_)
    rw [if_pos rfl]
    exact kf 4 _ S' e g c1 c2
  rcases hres with ⟨hx, hr⟩ | ⟨d, es, hx, n4, n5, n6, hr⟩
  · refine zw_214_155 ⟨by omega, by omega⟩ ⟨by omega, by omega⟩ i3 h4 h5 ?_
    rw [if_pos (by omega), if_pos (by omega)]
    exact bad (by rw [hr]; rfl)
  · refine zw_214_155 ⟨by omega, by omega⟩ ⟨by omega, by omega⟩ i3 h4 h5 ?_
    rw [if_neg (by omega)]
    refine ys_161 hm hq (by omega) (by omega) ?_
    rw [if_neg (by omega)]
    refine ys_159 hm hq (by omega) (by omega) ?_
    have hk := ye_kind hx.1 n4 n5 n6
    rw [hk]
    refine yl_if (fun h3 => ?_) (fun h3 => bad (by rw [hr, if_neg h3]; rfl))
    rw [if_pos h3] at hr
    have he := yr_end_at n4 n5 n6
    unfold yr_end at he
    rw [h3, if_neg (by decide), if_neg (by decide), if_neg (by decide), if_neg (by decide), if_neg (by decide)] at he
    have eo : ye_op d = ye_num d.2.1 := by unfold ye_op; rw [if_neg (by omega), if_neg (by omega), if_neg (by omega), if_pos h3]
    rw [eo] at n6 he
    have hl7 := ye_num_len d.2.1
    have hI3 : yp_isI (ym_c S 2) x2 (yp_wd (ym_c S 2) x2) = true := by
      rcases yr_kind hk (by omega) with ⟨z, _⟩ | ⟨z, _⟩ | ⟨z, _⟩ | ⟨z, _⟩ | ⟨z, _⟩ | ⟨z, _⟩ | ⟨z, _⟩ | ⟨z, _⟩ | ⟨_, z⟩
      · omega
      · omega
      · omega
      · omega
      · omega
      · omega
      · omega
      · omega
      · exact z
    refine ys_167 hm hq (by omega) (by omega) (by omega) hI3 ?_
    rw [he, ye_num_val (n4.k3 h3) n6]
    have el : yh_lc E o res = if d.2.1 < 0 ∨ 12 < d.2.1 then .inl (4, yh_pl E o) else .inr d.2.1 := by rw [hr]; rfl
    refine yl_if (fun hn => bad (by rw [el, if_pos (Or.inl hn)])) (fun hn => yl_if (fun hn2 => kk _ (by rw [el, if_neg (by omega)]) (by omega) hn2) (fun hn2 => bad (by rw [el, if_pos (Or.inr (by omega))])))
set_option maxRecDepth 100000 in
theorem ys_214_34 {S0 : zq_S} {T : Int → Int} {E : yLt} {o : Nat} {p g : Int} (hb : yTb T) (hC : yp_C T) (hT0 : ym_c S0 1 = T) (hL : yRv S0 E) (hE : yLb E) (o1 : 1 ≤ o) (o9 : o ≤ 9) (hu : yh_u E o = some (p, g)) {K : Int → zq_S → Prop} : ∀ (f m : Nat) (S : zq_S) (x2 x3 : Int) (d : ye_N) (es : List ye_E) (v4 v5 : Value), v4.category = 1 → v5.category = 1 → zq_iv x3 → m < 1024 → m.testBit 0 = false → 10 ≤ ybc m + f → ymf yJo yAo S0 S → ym_I S → zq_i S 232 44 = 0 → (∀ n : Nat, n < 10 → zq_i S 254 n = if m.testBit n = true then 1 else 0) → 0 ≤ x2 → x2 < 500 → ye_ok d → ye_oks es → ye_at (ym_c S 2) x2 (ye_op d ++ (ye_pr (ye_nest d) es ++ [0])) →
    (∀ c q S', yh_lc E o (yh_ln T E f m d) = .inl (c, q) → ymf yJo yAo S0 S' → ym_I S' → zq_i S' 232 44 = c → zq_i S' 232 43 = q → K (-1) S') →
    (∀ n S', yh_lc E o (yh_ln T E f m d) = .inr n → 0 ≤ n → n ≤ 12 → ymf yJo yAo S0 S' → ym_I S' → zq_i S' 232 44 = 0 → K n S') →
    zq_Ex X 214 34 [.ref 232, zq_vi (o : Int), zq_vi x2, zq_vi x3, v4, v5] [] S (zq_rp zq_iv K) := by
  have hq : ym_q 2 := ⟨by decide, by decide, Or.inl (by decide)⟩
  obtain ⟨bo1, bo2, bo3, bo4⟩ := yh_u_b hE hu
  intro f
  induction f with
  | zero =>
    intro m S x2 x3 d es v4 v5 h4 h5 i3 hm hm0 hbc fr hmI h44 hmet a0 a5 n4 n5 n6 kf kk
    have := ybit_le m hm hm0
    omega
  | succ f ih =>
    intro m S x2 x3 d es v4 v5 h4 h5 i3 hm hm0 hbc fr hmI h44 hmet a0 a5 n4 n5 n6 kf kk
    have e0 : yh_ln T E (f + 1) m d = if d.1 = 8 then (if yh_me E d = 0 then none else if m.testBit (yh_me E d) = true then none else (match yh_V T E (yh_me E d) with
      | none => some (.inl (yh_me E d))
      | some (_, es) => yh_ln T E f (m ||| 2 ^ yh_me E d) (yz_hd es))) else if d.1 = 3 then some (.inr d.2.1) else none := rfl
    have pl : ∀ {S' : zq_S}, ymf yJo yAo S0 S' → ∀ r pg, 1 ≤ r → r ≤ 9 → yh_u E r = some pg → zq_i S' 251 r = yh_pl E r := fun {S'} f' r pg r1 r9 hr => by
      rw [f'.i (by simp) (by decide)]
      obtain ⟨_, _, _, z4⟩ := yh_u_b hE (p := pg.1) (g := pg.2) hr
      rw [z4]
      exact ((hL r r1 r9).2.1 pg.1 pg.2 hr).2.1
    -- the last piece, with its frames
    have fin : ∀ (S' : zq_S) (y2 y3 : Int) (w4 w5 : Value) (res : Option (Nat ⊕ Int)), zq_iv y3 → w4.category = 1 → w5.category = 1 → ymf yJo yAo S0 S' → ym_I S' → zq_i S' 232 44 = 0 → res = yh_ln T E (f + 1) m d → ((y2 = -1 ∧ res = none) ∨ ∃ d es, (0 ≤ y2 ∧ y2 < 500) ∧ ye_ok d ∧ ye_oks es ∧ ye_at (ym_c S' 2) y2 (ye_op d ++ (ye_pr (ye_nest d) es ++ [0])) ∧ res = (if d.1 = 3 then some (.inr d.2.1) else none)) → zq_Ex X 214 155 [.ref 232, zq_vi (o : Int), zq_vi y2, zq_vi y3, w4, w5] [] S' (zq_rp zq_iv K) := fun S' y2 y3 w4 w5 res i3' h4' h5' f' hm' h4z hres hc => by
      refine ys_214_155 hm' o1 o9 hE (pl f' o _ o1 o9 hu) h4z i3' h4' h5' hc (fun c q S2 e g2 c1 c2 => ?_) (fun n e z0 z1 => ?_)
      · rw [hres] at e
        exact kf c q S2 e (f'.trans (g2.mono (by simp) (by simp))) (hm'.cong (fun j hj => g2.f (by simp at hj ⊢; omega)) (g2.i (by simp) (by decide))) c1 c2
      · rw [hres] at e
        exact kk n S' e z0 z1 f' hm' h4z
    have neg : ∀ (S' : zq_S) (y3 : Int) (w4 w5 : Value), zq_iv y3 → w4.category = 1 → w5.category = 1 → ymf yJo yAo S0 S' → ym_I S' → zq_i S' 232 44 = 0 → yh_ln T E (f + 1) m d = none → zq_Ex X 214 34 [.ref 232, zq_vi (o : Int), zq_vi (-1), zq_vi y3, w4, w5] [] S' (zq_rp zq_iv K) := fun S' y3 w4 w5 i3' h4' h5' f' hm' h4z hln => by
      refine zw_214_34 ⟨by omega, by omega⟩ ⟨by decide, by decide⟩ i3' h4' h5' ?_
      rw [if_pos (by decide)]
      exact fin S' (-1) y3 w4 w5 none i3' h4' h5' f' hm' h4z hln.symm (Or.inl ⟨rfl, rfl⟩)
    refine zw_214_34 ⟨by omega, by omega⟩ ⟨by omega, by omega⟩ i3 h4 h5 ?_
    rw [if_neg (by omega)]
    refine ys_159 hmI hq (by omega) (by omega) ?_
    rw [ye_kind a0 n4 n5 n6]
    refine yl_if (fun h8 => ?_) (fun h8 => ?_)
    · rw [if_pos h8] at e0
      obtain ⟨g1, g2, g3, g4⟩ := ye_ok8 n4 h8
      have eo : ye_op d = [48 + d.2.1, 32, 48 + d.2.2.1, 32, 82] := by
        unfold ye_op
        rw [if_neg (by omega), if_neg (by omega), if_neg (by omega), if_neg (by omega), if_neg (by omega), if_neg (by omega), if_neg (by omega), if_neg (by omega)]
      rw [eo] at n6
      have t0 := n6 0 (by simp)
      have t2 := n6 2 (by simp)
      have t0 : ym_c S 2 x2 = 48 + d.2.1 := by simpa using t0
      have t2 : ym_c S 2 (x2 + 2) = 48 + d.2.2.1 := by simpa using t2
      refine ys_189 hmI hq ⟨by omega, by omega⟩ ?_
      rw [t0, show 48 + d.2.1 - 48 = d.2.1 by omega]
      obtain ⟨r, hr⟩ : ∃ r : Nat, d.2.1 = r := ⟨d.2.1.toNat, by omega⟩
      have hto : d.2.1.toNat = r := by omega
      have r1 : 1 ≤ r := by omega
      have r9 : r ≤ 9 := by omega
      rw [hr]
      refine ⟨⟨by omega, by omega⟩, ?_⟩
      have c250 : zq_i S 250 = zq_i S0 250 := fr.i (by simp) (by decide)
      have c252 : zq_i S 252 = zq_i S0 252 := fr.i (by simp) (by decide)
      have hLr := hL r r1 r9
      cases hur : yh_u E r with
      | none =>
        have hme : yh_me E d = 0 := by unfold yh_me; rw [hto, hur]
        rw [if_pos hme] at e0
        rw [if_neg (by rw [c250]; exact hLr.1 hur)]
        exact neg S _ _ _ ⟨by omega, by omega⟩ rfl h5 fr hmI h44 e0
      | some pg =>
        obtain ⟨p', g'⟩ := pg
        obtain ⟨z1, z2, z3⟩ := hLr.2.1 p' g' hur
        rw [if_pos (by rw [c250]; exact z1)]
        refine ⟨⟨by omega, by omega⟩, ys_190 hmI hq ⟨by omega, by omega⟩ ⟨by omega, by omega⟩ ?_⟩
        rw [t2, show 48 + d.2.2.1 - 48 = d.2.2.1 by omega, c252, z3]
        refine yl_if (fun hg => ⟨⟨by omega, by omega⟩, ?_⟩) (fun hg => ?_)
        · have hme : yh_me E d = r := by
            unfold yh_me
            rw [hto, hur]
            show (if g' = d.2.2.1 then r else 0) = r
            rw [if_pos hg]
          rw [hme, if_neg (by omega)] at e0
          rw [hmet r (by omega)]
          by_cases hbit : m.testBit r = true
          · rw [if_pos hbit] at e0
            rw [if_pos hbit, if_neg (by decide)]
            exact neg S _ _ _ ⟨by omega, by omega⟩ rfl h5 fr hmI h44 e0
          · rw [if_neg hbit] at e0
            rw [if_neg hbit, if_pos rfl]
            have hbf : m.testBit r = false := by
              cases z : m.testBit r with
              | true => exact absurd z hbit
              | false => rfl
            have hcnt := ybit_cnt m hm r (by omega) hbf
            have hset := ybit_set m hm r (by omega)
            have hm0' : (m ||| 2 ^ r).testBit 0 = false := by
              rw [ybit_or, hm0, Bool.false_or]
              exact decide_eq_false (by omega)
            have f1 : ymf yJo yAo S (zq_si S 254 (r : Int) 1) := ymf.si (by simp) (by decide)
            have fr1 := fr.trans f1
            have hm1 : ym_I (zq_si S 254 (r : Int) 1) := hmI.cong (fun j hj => by rw [zq_i_si, if_neg (by simp)]) (by funext j; rw [zq_i_si, if_neg (by simp)])
            have hT1 : ym_c (zq_si S 254 (r : Int) 1) 1 = T := by rw [fr1.c1 (by simp) (by simp)]; exact hT0
            have hL1 : yRv (zq_si S 254 (r : Int) 1) E := hL.cong (fr1.i (by simp) (by decide)) (fr1.i (by simp) (by decide)) (fr1.i (by simp) (by decide))
            have h441 : zq_i (zq_si S 254 (r : Int) 1) 232 44 = 0 := by rw [zq_i_si, if_neg (by simp)]; exact h44
            have met1 : ∀ n : Nat, n < 10 → zq_i (zq_si S 254 (r : Int) 1) 254 n = if (m ||| 2 ^ r).testBit n = true then 1 else 0 := fun n hn => by
              rw [zq_i_si, ybit_or]
              by_cases e : n = r
              · rw [if_pos ⟨rfl, by rw [e]⟩, if_pos (by rw [e]; simp)]
              · rw [if_neg (fun z => e (by have := z.2; omega)), hmet n hn, decide_eq_false (fun z => e z.symm), Bool.or_false]
            refine ⟨⟨by omega, by omega⟩, ys_212 hb hC hm1 hT1 hL1 hE r1 r9 hur (fun hv S2 g2 hm2 => ?_) (fun q es2 S2 hv hyv g2 hm2 h25 hq0 hmd hlen => ?_)⟩
            · rw [if_pos rfl]
              rw [hv] at e0
              have fr2 := fr1.trans (g2.mono (J' := yJo) (B := yAo) (by simp) (by simp))
              have hpr := yh_pl_b hE r
              rw [pl fr2 r _ r1 r9 hur]
              refine ⟨⟨by omega, by omega⟩, ys_206 ⟨by decide, by decide⟩ ⟨by omega, by omega⟩ (by rw [g2.f (by simp)]; exact h441) (fun S3 g3 c1 c2 => ?_)⟩
              rw [if_pos rfl]
              exact kf 3 (yh_pl E r) S3 (by rw [e0]; rfl) (fr2.trans (g3.mono (by simp) (by simp))) (hm2.cong (fun j hj => g3.f (by simp at hj ⊢; omega)) (g3.i (by simp) (by decide))) c1 c2
            · rw [if_neg (by decide)]
              rw [hv] at e0
              have e0 : yh_ln T E (f + 1) m d = yh_ln T E f (m ||| 2 ^ r) (yz_hd es2) := e0
              rw [e0] at kf kk
              have h23 := hmd.1
              refine ys_210 (by omega) (fun S3 g3 h5' hrow => ?_)
              have fr3 := (fr1.trans (g2.mono (J' := yJo) (B := yAo) (by simp) (by simp))).trans (g3.mono (J' := yJo) (B := yAo) (by simp) (by simp))
              have hm3 : ym_I S3 := by
                obtain ⟨w1, w2, w3, w4, w5⟩ := hm2
                refine ⟨by rw [g3.f (by simp)]; exact w1, by rw [g3.f (by simp)]; exact w2, by rw [h5']; omega, by rw [g3.f (by simp)]; exact w4, fun o o0 o1 => by rw [g3.i (by simp) (by decide)]; exact w5 o o0 o1⟩
              obtain ⟨⟨dd, es3, ed, er⟩, ewf, _⟩ := hyv
              have hhd : yz_hd es2 = dd := by rw [ed]; rfl
              rw [hhd] at kf kk
              have hsu : ye_su (ym_c S3 2) 0 true es2 := ysc_su (by rw [h5', h23]) (fun i hi => by rw [hrow i (by omega)]; exact hmd.2 i hi)
              rw [ed] at hsu ewf
              refine ih (m ||| 2 ^ r) S3 0 _ dd es3 _ _ rfl h5 ⟨by omega, by omega⟩ hset.2 hm0' (by omega) fr3 hm3 (by rw [g3.f (by simp), g2.f (by simp)]; exact h441) (fun n hn => ?_) (by decide) (by decide) ewf.1 ewf.oks.tl (yh_hat hsu ewf) kf kk
              rw [g3.i (by simp) (by decide), g2.i (by simp) (by decide)]
              exact met1 n hn
        · have hme : yh_me E d = 0 := by
            unfold yh_me
            rw [hto, hur]
            show (if g' = d.2.2.1 then r else 0) = 0
            rw [if_neg hg]
          rw [if_pos hme] at e0
          exact neg S _ _ _ ⟨by omega, by omega⟩ rfl h5 fr hmI h44 e0
    · rw [if_neg h8] at e0
      exact fin S x2 x3 v4 v5 _ i3 h4 h5 fr hmI h44 rfl (Or.inr ⟨d, es, ⟨a0, a5⟩, n4, n5, n6, e0⟩)
set_option maxRecDepth 100000 in
theorem ys_214 {S : zq_S} {T : Int → Int} {E : yLt} {o : Nat} {p g : Int} (hb : yTb T) (hC : yp_C T) (hT : ym_c S 1 = T) (hL : yRv S E) (hE : yLb E) (o1 : 1 ≤ o) (o9 : o ≤ 9) (hu : yh_u E o = some (p, g)) (hm : ym_I S) (h44 : zq_i S 232 44 = 0) (nl : ym_nm S 256 yNL) {d : ye_N} {es : List ye_E} (hsu : ye_su (ym_c S 2) 0 true (.inl d :: es)) (hv : yv (.inl d :: es)) (h7 : d.1 = 7) {K : Int → zq_S → Prop}
    (kf : ∀ c q S', yh_lc E o (yh_L T E es) = .inl (c, q) → ymf yJo yAo S S' → ym_I S' → zq_i S' 232 44 = c → zq_i S' 232 43 = q → K (-1) S')
    (kk : ∀ n S', yh_lc E o (yh_L T E es) = .inr n → 0 ≤ n → n ≤ 12 → ymf yJo yAo S S' → ym_I S' → zq_i S' 232 44 = 0 → K n S') : zq_Ex X 214 0 [.ref 232, zq_vi (o : Int), zz_no, zz_no, zz_no, zz_no] [] S (zq_rp zq_iv K) := by
  have hq : ym_q 2 := ⟨by decide, by decide, Or.inl (by decide)⟩
  obtain ⟨bo1, bo2, bo3, bo4⟩ := yh_u_b hE hu
  obtain ⟨_, hwf, hmany, _⟩ := hv
  obtain ⟨w1, w2, w3⟩ := id hwf
  have hat := yh_hat hsu hwf
  have hl40 : es.length ≤ 40 := by
    have := ye_wf_len hwf
    simp only [List.length_nil, List.length_cons] at this
    have e : yr_many (.inl d :: es) = yr_many es + 1 := rfl
    omega
  have hT6 : yp_T6 (ym_c S 2) := ysc_T6 hm.2.2.1
  have hn : ye_nest d = true := decide_eq_true (Or.inr h7)
  have w4 : ye_wf (d.1 :: []) es := by rw [if_pos hn] at w3; exact w3
  -- no object has been met
  have clr : ∀ (x2 : Int), zq_iv x2 → (∀ S1, ymf [] [254] S S1 → (∀ n : Nat, n < 10 → zq_i S1 254 n = 0) → zq_Ex X 214 34 [.ref 232, zq_vi (o : Int), zq_vi x2, zq_vi 10, zz_no, zz_no] [] S1 (zq_rp zq_iv K)) → ∀ (m i : Nat) (S' : zq_S), i + m = 10 → ymf [] [254] S S' → (∀ n : Nat, n < i → zq_i S' 254 n = 0) → zq_Ex X 214 15 [.ref 232, zq_vi (o : Int), zq_vi x2, zq_vi (i : Int), zz_no, zz_no] [] S' (zq_rp zq_iv K) := by
    intro x2 i2 kc m
    induction m with
    | zero =>
      intro i S' hi f' h0
      refine zw_214_15 ⟨by omega, by omega⟩ i2 ⟨by omega, by omega⟩ rfl rfl ?_
      rw [if_neg (by omega)]
      have := kc S' f' (fun n hn => h0 n (by omega))
      rw [show (i : Int) = 10 by omega]
      exact this
    | succ m ih =>
      intro i S' hi f' h0
      refine zw_214_15 ⟨by omega, by omega⟩ i2 ⟨by omega, by omega⟩ rfl rfl ?_
      rw [if_pos (by omega), show (i : Int) + 1 = ((i + 1 : Nat) : Int) by omega]
      refine ⟨⟨by omega, by omega⟩, ih (i + 1) _ (by omega) (f'.trans (ymf.si (by simp) (by decide))) (fun n hn => ?_)⟩
      rw [zq_i_si]
      by_cases e : n = i
      · rw [if_pos ⟨rfl, by rw [e]⟩]
      · rw [if_neg (fun z => e (by have := z.2; omega))]
        exact h0 n (by omega)
  have keep : ∀ {S1 : zq_S}, ymf [] [254] S S1 → ymf yJo yAo S S1 ∧ ym_I S1 ∧ zq_i S1 232 44 = 0 ∧ ym_c S1 2 = ym_c S 2 := fun {S1} f' => ⟨f'.mono (by simp) (by simp), hm.cong (fun j hj => f'.f (by simp)) (f'.i (by simp) (by decide)), by rw [f'.f (by simp)]; exact h44, f'.c (by decide) (by decide) (by decide)⟩
  refine zw_214 ⟨by omega, by omega⟩ (ys_175 (nm := yNL) (st := []) hm hq hT6 (by decide) nl (by decide) w1 h7 hat w4 hl40 (fun hf => ?_) (fun d' es' pr hf hnd hpr hwf' _ => ?_))
  · have eL : yh_L T E es = none := by unfold yh_L; rw [hf]
    rw [eL] at kf kk
    refine clr (-1) ⟨by decide, by decide⟩ (fun S1 f1 h0 => ?_) 10 0 S rfl (ymf.refl _ _ _) (fun n hn => by omega)
    obtain ⟨fr1, hm1, h441, _⟩ := keep f1
    refine zw_214_34 ⟨by omega, by omega⟩ ⟨by decide, by decide⟩ ⟨by decide, by decide⟩ rfl rfl ?_
    rw [if_pos (by decide)]
    refine ys_214_155 hm1 o1 o9 hE ?_ h441 ⟨by decide, by decide⟩ rfl rfl (Or.inl ⟨rfl, rfl⟩) (fun c q S2 e g2 c1 c2 => kf c q S2 e (fr1.trans (g2.mono (by simp) (by simp))) (hm1.cong (fun j hj => g2.f (by simp at hj ⊢; omega)) (g2.i (by simp) (by decide))) c1 c2) (fun n e z0 z1 => (by cases e))
    rw [fr1.i (by simp) (by decide), bo4]
    exact ((hL o o1 o9).2.1 p g hu).2.1
  · have eL : yh_L T E es = yh_ln T E 10 0 d' := by unfold yh_L; rw [hf]
    rw [eL] at kf kk
    obtain ⟨n4, n5, n3, n6⟩ := ysc_nd hm hnd hwf' hpr
    refine clr pr ⟨by omega, by omega⟩ (fun S1 f1 h0 => ?_) 10 0 S rfl (ymf.refl _ _ _) (fun n hn => by omega)
    obtain ⟨fr1, hm1, h441, hc1⟩ := keep f1
    exact ys_214_34 hb hC hT hL hE o1 o9 hu 10 0 S1 pr 10 d' es' _ _ rfl rfl ⟨by decide, by decide⟩ (by decide) (by decide) (by decide) fr1 hm1 h441 (fun n hn => by rw [h0 n hn, Nat.zero_testBit]; rfl) (by omega) n3 n4 n5 (by rw [hc1]; exact n6) kf kk
end YLH6
