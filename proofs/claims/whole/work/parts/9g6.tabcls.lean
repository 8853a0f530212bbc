/-! load: the class takes a table -/
set_option maxRecDepth 100000 in
theorem yLc.fh {s S : zq_S} {u : Nat} {E : yLt} (h : yLc s u E) (h7 : zq_i S 7 8 = zq_i s 7 8) (h18 : zq_i S 18 = zq_i s 18) (hs : ∀ o : Nat, 1 ≤ o → o ≤ 9 → zq_i S (ysl u o) = zq_i s (ysl u o)) : yLc S u E := by
  obtain ⟨⟨em, e1, e2, e3⟩, e4⟩ := h
  refine ⟨⟨em, e1, by rw [h7]; exact e2, e3⟩, fun o o1 o9 => ?_⟩
  rw [hs o o1 o9, h18]
  exact e4 o o1 o9
section YLG6
variable {X : Nat × (Nat → Int32)}
set_option maxRecDepth 100000 in
theorem ys_107_b {S : zq_S} {F u : Nat} {T : Int → Int} {E : yLt} (hk : ylk S F u T) (hL : yLc S u E) (hb : yTb T) (hC : yp_C T) {p x4 : Int} (p0 : 0 ≤ p ∧ p < 999) {K : Int → zq_S → Prop} {Lp : Int → Int → Int → zq_S → Prop}
    (k0 : yl_tbl T p E = none → ∀ S', ylh u S S' → K 0 (zq_si (zq_si S' 7 9 2) 7 10 p))
    (k1 : ∀ E' ro S', yl_tbl T p E = some (E', ro) → ybo ro → ylh u S S' → yLc S' u E' → (x4 ≠ 0 → zq_i S' u = zq_i S u) → (x4 = 0 → zq_i S' u 2 = ro.1 ∧ zq_i S' u 3 = ro.2.1) → (ro.2.2 = none → K 1 S') ∧ (∀ v, ro.2.2 = some v → ∀ w1 w2, zq_iv w1 → zq_iv w2 → Lp v w1 w2 S')) : (zq_Ex X 113 0 [(.ref (7)), (zq_vi p), zz_no, zz_no] [] S (zq_rp zq_iv fun x_13 s_12 => (if x_13 = (-1) then (zq_Ex X 111 0 [(.ref (7)), (zq_vi (2)), (zq_vi p)] [] s_12 (zq_rp zq_bo fun x_17 s_16 => K (x_17) s_16)) else (∃ b_20 : Nat, zq_r s_12 (7) 6 = some b_20 ∧ (zq_Ex X 44 0 [(.ref (8)), (.ref (b_20)), (zq_vi (x_13)), (.ref (11)), zz_no] [] s_12 (zq_rp zq_bo fun x_23 s_22 => (if x_23 = 0 then (zq_Ex X 111 0 [(.ref (7)), (zq_vi (2)), (zq_vi p)] [] s_22 (zq_rp zq_bo fun x_27 s_26 => K (x_27) s_26)) else (zq_Ex X 118 0 [(.ref (7)), zz_no, zz_no] [] s_22 (zq_rp zq_bo fun x_30 s_29 => (if x_30 = 0 then (zq_Ex X 111 0 [(.ref (7)), (zq_vi (2)), (zq_vi p)] [] s_29 (zq_rp zq_bo fun x_52 s_51 => K (x_52) s_51)) else (if x4 = 0 then (zq_Ex X 119 0 [(.ref (7)), zz_no] [] s_29 (zq_rv fun s_42 => (zq_Ex X 75 0 [(.ref (1000000 + 31)), zz_no, zz_no, zz_no] [] s_42 (zq_rl fun y_44 s_43 => (zq_Ex X 55 0 [(.ref (11)), (zq_vi (0)), (.long (y_44)), zz_no, zz_no, zz_no] [] s_43 (zq_rp zq_iv fun x_46 s_45 => (if x_46 = (-1) then K (1) s_45 else (((0 : Int) ≤ x_46 ∧ x_46 < (12 : Int)) ∧ Lp (zq_i s_45 (14) (x_46)) x_13 x_46 s_45)))))))) else (zq_Ex X 75 0 [(.ref (1000000 + 31)), zz_no, zz_no, zz_no] [] s_29 (zq_rl fun y_35 s_34 => (zq_Ex X 55 0 [(.ref (11)), (zq_vi (0)), (.long (y_35)), zz_no, zz_no, zz_no] [] s_34 (zq_rp zq_iv fun x_37 s_36 => (if x_37 = (-1) then K (1) s_36 else (((0 : Int) ≤ x_37 ∧ x_37 < (12 : Int)) ∧ Lp (zq_i s_36 (14) (x_37)) x_13 x_37 s_36))))))))))))))))) := by
  obtain ⟨f1, f2, _, _, _, _⟩ := id hk
  have oF : zq_o 1 F := by rcases f1 with z | z <;> (subst z; decide +kernel)
  have o11 : zq_o 4 11 := by decide +kernel
  have o8 : zq_o 3 8 := by decide +kernel
  have hTT : yp_T T := fun j hj => Classical.byContradiction fun z => by
    have := hb.2 j z
    omega
  have refuse : ∀ S' : zq_S, (yl_tbl T p E = none) → ylh u S S' → zq_Ex X 111 0 [(.ref (7)), (zq_vi (2)), (zq_vi p)] [] S' (zq_rp zq_bo fun x_17 s_16 => K (x_17) s_16) := fun S' h f => zw_111 ⟨by decide, by decide⟩ ⟨by omega, by omega⟩ (k0 h S' f)
  refine ys_113 hk hL p0 (fun hn S1 g1 => ?_) (fun q E' S1 ht q0 g1 hL1 => ?_)
  · rw [if_pos rfl]
    exact refuse S1 (by unfold yl_tbl; rw [hn]) g1.ylh
  · have hk1 := hk.fr g1
    obtain ⟨_, _, hok1, hT1, r61, r71⟩ := hk1
    have hq : q ≤ 1000 := by
      unfold yl_tab at ht
      split at ht
      · cases hs : yl_sec T 1000 (p + 5) E with
        | none => rw [hs] at ht; cases ht
        | some pp =>
          obtain ⟨p', E2⟩ := pp
          rw [hs] at ht
          have ht : (if yp_has T yX_tl p' = true then some (p' + 8, E2) else none) = some (q, E') := ht
          split at ht
          · next hh =>
            have h6 := ((yl_has_tl T p').mp hh).2
            unfold yp_says at h6
            have h10 := (of_decide_eq_true h6).2.2.2
            rw [show p' + 4 + 3 = p' + 7 by omega] at h10
            have := (hb.2 (p' + 7) (by omega)).2
            have e : (p' + 8, E2) = (q, E') := Option.some.inj ht
            have e1 : p' + 8 = q := congrArg Prod.fst e
            omega
          · cases ht
      · cases ht
    rw [if_neg (by omega)]
    obtain ⟨r, hr⟩ := yr_read_some hTT hC q0 hq
    refine ⟨F, r61, ys_44 o8 oF o11 hok1 (by rw [hT1]; exact hC) q0 hq (r := r) (by rw [hT1]; exact hr) (fun S2 w e1 e2 g2 => ?_) (fun S2 R1 os e1 hcr hok hst g2 => ?_)⟩
    · rw [if_pos rfl]
      refine refuse S2 ?_ (g1.ylh.trans g2.ylh)
      unfold yl_tbl
      rw [ht]
      show (match yr_read T q with
        | some (.inl S') => (match S'.2.1 with
          | .inl d :: es => (match yl_trl d es with
            | none => none
            | some ro => some (E', ro))
          | _ => none)
        | _ => none) = none
      rw [hr, e1]
    · rw [if_neg (by decide)]
      rw [e1] at hr
      have hyv := yv_read hTT hC q0 hq hr hok
      obtain ⟨⟨d, es, ed, er⟩, hwf, hmany, hdm, hkd⟩ := hyv
      obtain ⟨_, _, _, _, _, _, _, e5, e6, _⟩ := hcr
      have htr : yt_tr S2 11 0 0 (.inl d :: es) := by
        rw [← ed]
        exact ⟨by rw [ye_nl_len]; omega, e6, by decide, by omega⟩
      rw [ed] at hwf
      obtain ⟨w1, w2, w3⟩ := id hwf
      have hL2 : yLc S2 u E' := hL1.fh (by rw [(g2.1 7 (by decide)).1]) ((g2.1 18 (by decide)).1) (fun o o1 o9 => (g2.1 _ (by unfold ysl; simp; omega)).1)
      have et : ∀ v, yl_trl d es = v → yl_tbl T p E = v.map (fun ro => (E', ro)) := fun v hv => by
        unfold yl_tbl
        rw [ht]
        show (match yr_read T q with
          | some (.inl S') => (match S'.2.1 with
            | .inl d :: es => (match yl_trl d es with
              | none => none
              | some ro => some (E', ro))
            | _ => none)
          | _ => none) = _
        rw [hr]
        show (match R1.2.1 with
          | .inl d :: es => (match yl_trl d es with
            | none => none
            | some ro => some (E', ro))
          | _ => none) = _
        rw [ed]
        show (match yl_trl d es with
          | none => none
          | some ro => some (E', ro)) = _
        rw [hv]
        cases v <;> rfl
      have g12 : ylh u S S2 := g1.ylh.trans g2.ylh
      have hur : zq_r S2 7 7 = some u := by rw [g2.2.1 7 (by decide)]; exact r71
      refine ys_118 htr er w3.oks ?_
      cases hv : yl_trl d es with
      | none =>
        rw [if_pos (show yb (none : Option (Int × Int × Option Int)).isSome = 0 from rfl)]
        exact refuse S2 (et none hv) g12
      | some ro =>
        rw [if_neg (show ¬ yb (some ro).isSome = 0 from (by decide : ¬ yb true = 0))]
        have etb : yl_tbl T p E = some (E', ro) := et _ hv
        have hbo := yl_trl_b w3.oks hv
        -- where Prev stands
        have prev : ∀ S3 : zq_S, yt_tr S3 11 0 0 (.inl d :: es) → ((ro.2.2 = none → K 1 S3) ∧ (∀ v, ro.2.2 = some v → ∀ w1 w2, zq_iv w1 → zq_iv w2 → Lp v w1 w2 S3)) → zq_Ex X 75 0 [(.ref (1000000 + 31)), zz_no, zz_no, zz_no] [] S3 (zq_rl fun y_44 s_43 => (zq_Ex X 55 0 [(.ref (11)), (zq_vi (0)), (.long (y_44)), zz_no, zz_no, zz_no] [] s_43 (zq_rp zq_iv fun x_46 s_45 => (if x_46 = (-1) then K (1) s_45 else (((0 : Int) ≤ x_46 ∧ x_46 < (12 : Int)) ∧ Lp (zq_i s_45 (14) (x_46)) q x_46 s_45))))) := fun S3 ht3 hk3 => by
          have h7 : d.1 = 7 := Classical.byContradiction fun z => by
            unfold yl_trl at hv
            rw [if_neg z] at hv
            cases hv
          cases hR : ye_fk yNR es 0 with
          | none =>
            exfalso
            unfold yl_trl at hv
            rw [if_pos h7, hR] at hv
            cases hv
          | some rr =>
            obtain ⟨r', esr⟩ := rr
            have hv2 := hv
            unfold yl_trl at hv2
            rw [if_pos h7, hR] at hv2
            have hv2 : (if r'.1 = 8 then (match ye_fk yNP es 0 with
              | none => some (r'.2.1, r'.2.2.1, (none : Option Int))
              | some (q, _) => if q.1 = 3 then some (r'.2.1, r'.2.2.1, some q.2.1) else none) else none) = some ro := hv2
            have h8 : r'.1 = 8 := Classical.byContradiction fun z => by
              rw [if_neg z] at hv2
              cases hv2
            rw [if_pos h8] at hv2
            refine ys_75P (ys_55r o11 ht3 er w3.oks yNP_nm (fun hP => ?_) (fun q' es2 hP kq hkq kq0 => ?_))
            · rw [if_pos rfl]
              rw [hP] at hv2
              have hv2 : some (r'.2.1, r'.2.2.1, (none : Option Int)) = some ro := hv2
              exact hk3.1 (by rw [← Option.some.inj hv2])
            · rw [hP] at hv2
              have hv2 : (if q'.1 = 3 then some (r'.2.1, r'.2.2.1, some q'.2.1) else none) = some ro := hv2
              obtain ⟨n1, n2, n3⟩ := hkq.node
              have h12 := hkq.2.2.2
              have h3 : q'.1 = 3 := Classical.byContradiction fun z => by
                rw [if_neg z] at hv2
                cases hv2
              rw [if_pos h3] at hv2
              have n14 : zq_i S3 14 kq = q'.2.1 := by
                have h := n1.2.2.1
                unfold ye_nu at h
                rw [if_neg (by omega), if_pos (Or.inl h3)] at h
                exact h
              rw [if_neg (by omega), n14]
              exact ⟨⟨by omega, by omega⟩, hk3.2 q'.2.1 (by rw [← Option.some.inj hv2]) q kq ⟨by omega, by omega⟩ ⟨by omega, by omega⟩⟩
        refine yl_if (fun h4 => ?_) (fun h4 => ?_)
        · refine ys_119 hur f2 htr er w3.oks hv ?_
          have hu11 : ∀ b, b ≠ u → zq_i (zq_si (zq_si S2 u 2 ro.1) u 3 ro.2.1) b = zq_i S2 b := fun b hb' => by
            funext j
            rw [zq_i_si, if_neg (fun z => hb' z.1), zq_i_si, if_neg (fun z => hb' z.1)]
          refine prev _ (htr.cong (fun q' hq' => hu11 q' (by have := yk_t7 hq'; omega)) rfl) (k1 E' ro _ etb hbo (g12.trans ⟨fun b j a1 a2 a3 => ?_, fun _ _ => rfl, fun _ _ => rfl, rfl⟩) (hL2.fh (by rw [hu11 7 (by omega)]) (hu11 18 (by omega)) (fun o o1 o9 => hu11 _ (by have := yk_sl f2 o1 o9; omega))) (fun z => absurd h4 z) (fun _ => ⟨?_, ?_⟩))
          · rw [zq_i_si, if_neg (fun z => (a3 z.1).2 z.2), zq_i_si, if_neg (fun z => (a3 z.1).1 z.2)]
          · rw [zq_i_si, if_neg (by simp), zq_i_si, if_pos ⟨rfl, rfl⟩]
          · rw [zq_i_si, if_pos ⟨rfl, rfl⟩]
        · have hu2 : zq_i S2 u = zq_i S u := by
            rw [(g2.1 u (by simp; omega)).1]
            exact g1.i (by omega) (by omega) (fun o o1 o9 => by have := yk_sl f2 o1 o9; omega)
          exact prev S2 htr (k1 E' ro S2 etb hbo g12 hL2 (fun _ => hu2) (fun z => absurd z h4))
end YLG6
