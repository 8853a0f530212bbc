/-! the law's case save -/
section YLF2
variable {X : Nat × (Nat → Int32)}
set_option maxRecDepth 100000 in
theorem yl_364 (hX : X.1 ≤ 1536) : yl_C X 364 := fun s A m v5 v6 h5 h6 hI hm hmX next => by
  obtain ⟨dr, fl, ev, ct, F, t⟩ := A
  have f1 : F = 23 ∨ F = 25 := hI.2.1.1
  have ft : t = 27 ∨ t = 126 := hI.2.1.2.1
  obtain ⟨_, _, _, _, _, _, _, _, _, _, t11, t12⟩ := id hI.2.1
  have hb : (0 : Int) ≤ 3 * (m : Int) + 1 ∧ 3 * (m : Int) + 1 < (X.1 : Int) := ⟨by omega, by omega⟩
  have hn : zq_n s < 1000 := by omega
  have hsv := hI.ysv
  have core : ∀ (x1 : Int), zq_bo x1 → ∀ (Kont : Int → zq_S → Prop), (∀ (x_4 : Int) (s_3 : zq_S), zq_Ex X 185 0 [(.ref (232)), (zq_vi x1), zz_no, zz_no, zz_no, zz_no, zz_no, zz_no] [] s_3 (zq_rp zq_iv fun x_9 s_8 => (zq_Ex X 141 0 [(.ref (232))] [] s_8 (zq_rp zq_iv fun x_12 s_11 => (if x_12 = x_4 then (if x_4 = 0 then (if (zq_l s_11 (259) (0)) = ((Int32.ofInt (x_9)).toInt64) then zq_Ex X 0 967 [(.ref (zz_SC)), (.ref (0)), (.ref (232)), (.ref (259)), (zq_vi (3 * (m : Int))), (zq_vi (x_4)), (zq_vi (x_9))] [] s_11 (zq_rp zq_bo fun x _ => x = 1) else (0 : Int) = 1) else zq_Ex X 0 967 [(.ref (zz_SC)), (.ref (0)), (.ref (232)), (.ref (259)), (zq_vi (3 * (m : Int))), (zq_vi (x_4)), (zq_vi (x_9))] [] s_11 (zq_rp zq_bo fun x _ => x = 1)) else (0 : Int) = 1)))) → Kont x_4 s_3) → zq_Ex X 237 0 [.ref 0, zq_vi x1, .ref 259, zz_no] [] s (zq_rp zq_iv Kont) := fun x1 b1 Kont hK => by
    obtain ⟨pre, hpre⟩ : ∃ pre, pre = if x1 = 0 then fl else yX_pa := ⟨_, rfl⟩
    obtain ⟨tl, htl⟩ : ∃ tl, tl = if x1 = 0 then yp_tl (yc_t s F) (zq_i s F 1 - 7) else -1 := ⟨_, rfl⟩
    obtain ⟨lm, hlm⟩ : ∃ lm, lm = ylm s x1 := ⟨_, rfl⟩
    obtain ⟨km, hkm⟩ : ∃ km, km = ykm s ev x1 := ⟨_, rfl⟩
    obtain ⟨rl, hrl'⟩ : ∃ rl : Nat → Bool, rl = fun n : Nat => decide (x1 ≠ 0 ∧ zq_i s 237 n ≠ 0 ∧ km.testBit n = false) := ⟨_, rfl⟩
    have hrl : ∀ n : Nat, 1 ≤ n → n ≤ 9 → (rl n = true ↔ x1 ≠ 0 ∧ zq_i s 237 n ≠ 0 ∧ km.testBit n = false) := fun n _ _ => by rw [hrl']; exact decide_eq_true_iff
    have hcap := yW_cap (s := s) (ev := ev) (ct := ct) (lm := lm) (km := km) (pre := pre) (tl := tl)
    refine zw_237 b1 zf_k259 (ys_86 hI b1 hn hlm hkm hrl hpre htl (fun bad S' f => ?_) (fun good hgt S0 S' f g => ?_) (fun good hle S0 S1 S2 S3 f0 g1 hw h2 h3 => ⟨⟨by decide, by decide⟩, ?_⟩))
    · rw [if_pos rfl]
      have hIC : yI (zq_sx S' 11) (dr, fl, ev, ct, F, t) := (yz_fr.yI hI f).exc 11
      refine hK _ _ (ys_185c hI (C := zq_sx S' 11) (fun b hb2 => f.1 b (by omega)) b1 hlm hkm hrl hpre htl (fun _ S2 f2 => ?_) (fun good => absurd bad good) (fun good => absurd bad good))
      have hmS : ym_I S2 := hIC.2.2.2.2.2.2.2.cong (fun j hj => f2.f (by simp at hj ⊢; omega)) (f2.i (by decide) (by decide))
      refine yl_say (y := 0) ((f2.yI hIC (by decide) (fun b hb => by simp at hb; omega) hmS).th 1) ?_ (zq_i_at _ _ _ _) (fun z => by cases z) next
      rw [zq_n_si, f2.n]
      show zq_n S' + 1 ≤ m + 1
      rw [f.2.2.2]
      omega
    · rw [if_neg (by decide), if_pos rfl]
      have hI0 := yfw_I (yz_fr.yI hI f) g
      have hIC : yI (zq_sx S' 14) (dr, fl, ev, ct, F, t) := hI0.exc 14
      refine hK _ _ (ys_185c hI (C := zq_sx S' 14) (fun b hb2 => ?_) b1 hlm hkm hrl hpre htl (fun bad => absurd bad good) (fun _ _ S2 f2 => ?_) (fun _ hle => absurd (hcap.2 hgt) (by omega)))
      · show zq_i S' b = zq_i s b
        rw [g.i (by simp; omega), f.1 b (by omega)]
      · have hmS : ym_I S2 := f2.1.I hIC.2.2.2.2.2.2.2 (by decide) (by decide) (f2.2 hIC.2.2.2.2.2.2.2.2.2.2.1)
        refine yl_say (y := 0) ((f2.1.yI hIC (by decide) (fun b hb => by simp at hb; omega) hmS).th 2) ?_ (zq_i_at _ _ _ _) (fun z => by cases z) next
        rw [zq_n_si, f2.1.n]
        show zq_n S' + 1 ≤ m + 1
        have e1 : zq_n S' = zq_n S0 := by unfold zq_n; rw [g.2]
        rw [e1, f.2.2.2]
        omega
    · have eW := hcap.1 hle
      have hWc : ∀ c ∈ yW (fun l => (ycap l : Int)) s ev ct lm km pre tl, yp_isC c = true := by
        refine yW_ch (fun c hc => ?_) (fun n n1 n9 hb c hc => ?_) (fun n n1 n9 => (hsv.2.2.2 n n1 n9).1) t11 t12 ?_
        · rw [hpre] at hc
          by_cases hx : x1 = 0
          · rw [if_pos hx] at hc
            obtain ⟨_, _, _, _, _, hfc, _, _⟩ := hI.1
            exact hfc c hc
          · rw [if_neg hx] at hc
            have : yX_pa.all yp_isC = true := by decide
            exact List.all_eq_true.mp this c hc
        · have hu : zq_i s 237 n ≠ 0 := by
            rw [hkm] at hb
            exact ((ykm_g s ev x1).2 n hb).2.2
          obtain ⟨c1, c2⟩ := hsv.2.2.2 n n1 n9
          obtain ⟨e1, e2, _, e4, e5, e6, e7, e8⟩ := c2 hu
          refine yw_ob_ch n9 c1 (fun c hc => ?_) (fun hz c hc => ?_) c hc
          · have := ye_pr_ch (ev n) true e1.2.1.oks c hc
            exact decide_eq_true (by omega)
          · have hz := of_decide_eq_true hz
            have f2 : t = 27 ∨ t = 126 := hI.2.1.2.1
            obtain ⟨d1, d2, d3, d4, d5, d6⟩ := hI.2.2.2.1 n n1 n9
            have hu1 : zq_i s (ysl t n) 0 = 1 := by
              rcases d1.1 with w | w
              · exact absurd (d2.symm.trans w) hu
              · exact w
            obtain ⟨_, _, _, _, x6, x7⟩ := d6 hu1
            have h21 : zq_i s (ysl t n) 2 = 1 := by
              rcases d1.2.2 with w | w
              · exact absurd (x6.symm.trans w) hz
              · exact w
            have := (x7 h21).2.2.1 c hc
            exact decide_eq_true (by omega)
        · rw [htl]
          have := yp_tl_b (T := yc_t s F) (zq_i s F 1 - 7)
          split <;> omega
      have hC : ∀ b, 232 ≤ b → zq_i S3 b = zq_i s b := fun b hb2 => by
        funext j
        rw [h3.2.1 b j (fun o o1 o2 z => by unfold ysl at z; omega), h2.2.1 b j (fun o o1 o2 z => by unfold ysl at z; omega), g1.i (by simp; omega), f0.1 b (by omega)]
      refine hK _ _ (ys_185c hI (C := zq_sl (zq_sr (zq_sr (zq_sr S3 0 6 (some (48 - F))) 0 7 (some F)) 3 0 none) 259 0 (Int32.ofInt ((yW (fun l => (ycap l : Int)) s ev ct lm km pre tl).length : Int)).toInt64) (fun b hb2 => hC b hb2) b1 hlm hkm hrl hpre htl (fun bad => absurd bad good) (fun _ hgt => absurd hgt (by rw [← eW]; omega)) (fun _ _ D R hD h0 hR => ?_))
      rw [← eW] at hR ⊢
      have hIR := hI.saved2 hWc hle f0 g1 hw h2 h3 hD hR
      obtain ⟨R1, R2, R3, R4, R5, R6⟩ := hR
      refine yl_say (y := 0) hIR ?_ ?_ (fun _ => ?_) next
      · have e1 : zq_n R = zq_n D := by unfold zq_n; rw [R3]
        have e2 : zq_n D = zq_n S3 := hD.1.n
        have e3 : zq_n S3 = zq_n S0 := by unfold zq_n; rw [h3.2.2, h2.2.2, g1.2]
        rw [e1, e2, e3, f0.2.2.2]
        omega
      · rw [R2 232 0 (by decide) (fun _ => by decide) (fun z => by simp at z)]
        exact h0
      · have e1 : zq_l R = zq_l D := by unfold zq_l; rw [R3]
        rw [e1, hD.1.l, zq_l_sl, if_pos ⟨rfl, rfl⟩]
  refine zw_0_364 (by omega) ⟨by omega, by omega⟩ h5 h6 ⟨hb, ?_⟩
  generalize (X.2 (3 * (m : Int) + 1).toNat).toInt = x
  refine yl_if (fun hz => ?_) (fun hz => ?_)
  · refine core 0 (Or.inl rfl) _ (fun x4 s3 h => ⟨hb, ?_⟩)
    rw [if_pos hz]
    exact h
  · refine core 1 (Or.inr rfl) _ (fun x4 s3 h => ⟨hb, ?_⟩)
    rw [if_neg hz]
    exact h
end YLF2
