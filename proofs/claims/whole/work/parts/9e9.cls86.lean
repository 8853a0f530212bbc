/-! save: the class's whole save -/
section YLE9
variable {X : Nat × (Nat → Int32)}
set_option maxRecDepth 100000 in
theorem ys_86 {s : zq_S} {dr fl : List Int} {ev : Nat → List ye_E} {ct : Nat → List Int} {F t : Nat} (hI : yI s (dr, fl, ev, ct, F, t)) {x1 : Int} (b1 : zq_bo x1) (hn : zq_n s < 1000) {lm km : Nat} (hlm : lm = ylm s x1) (hkm : km = ykm s ev x1) {rl : Nat → Bool} (hrl : ∀ n : Nat, 1 ≤ n → n ≤ 9 → (rl n = true ↔ x1 ≠ 0 ∧ zq_i s 237 n ≠ 0 ∧ km.testBit n = false)) {pre : List Int} (hpre : pre = if x1 = 0 then fl else yX_pa) {tl : Int} (htl : tl = if x1 = 0 then yp_tl (yc_t s F) (zq_i s F 1 - 7) else -1) {K : Int → zq_S → Prop} {T : Nat → zq_S → Prop}
    (kbad : (zq_i s 232 17 = 0 ∨ (x1 = 0 ∧ tl < 0) ∨ ∃ n : Nat, 1 ≤ n ∧ n ≤ 9 ∧ km.testBit n = true ∧ ¬ ylok s ev n) → ∀ S', yz_fr s S' → T 11 (zq_sx S' 11))
    (kover : ¬ (zq_i s 232 17 = 0 ∨ (x1 = 0 ∧ tl < 0) ∨ ∃ n : Nat, 1 ≤ n ∧ n ≤ 9 ∧ km.testBit n = true ∧ ¬ ylok s ev n) → 999 < (yW (fun l => (ycap l : Int)) s ev ct lm km pre tl).length → ∀ S0 S', yz_fr s S0 → yf [48 - F, 48 - F + 1, 22] S0 S' → T 14 (zq_sx S' 14))
    (kok : ¬ (zq_i s 232 17 = 0 ∨ (x1 = 0 ∧ tl < 0) ∨ ∃ n : Nat, 1 ≤ n ∧ n ≤ 9 ∧ km.testBit n = true ∧ ¬ ylok s ev n) → (yW (fun l => (ycap l : Int)) s ev ct lm km pre tl).length ≤ 999 → ∀ S0 S1 S2 S3, yz_fr s S0 → yf [48 - F, 48 - F + 1, 22] S0 S1 → yx S1 (48 - F) (yW (fun l => (ycap l : Int)) s ev ct lm km pre tl, 0) → yst S1 S2 t rl 10 → ysu S2 S3 t 10 → K ((yW (fun l => (ycap l : Int)) s ev ct lm km pre tl).length : Int) (zq_sr (zq_sr (zq_sr S3 0 6 (some (48 - F))) 0 7 (some F)) 3 0 none)) : zq_Ex X 86 0 [.ref 0, zq_vi x1, zz_no, zz_no, zz_no] [] s (zq_rx (zq_rp zq_iv K) T) := by
  have f1 : F = 23 ∨ F = 25 := hI.2.1.1
  have f2 : t = 27 ∨ t = 126 := hI.2.1.2.1
  have oF0 : zq_o 1 F := by rcases f1 with z | z <;> (subst z; decide +kernel)
  have T9 : zq_T F = 999 := by rcases f1 with z | z <;> (subst z; decide +kernel)
  have o24 : zq_o 2 4 := by decide +kernel
  obtain ⟨t1, t2, t3, t4, t5, t6, t7, t8, t9, t10, t11, t12⟩ := hI.2.1
  have t3 : zq_r s 0 6 = some F := t3
  have t5 : zq_r s 0 8 = some t := t5
  have t9 : zq_i s t 2 = zq_i s 232 17 := t9
  have a4 : yI_tab s t ev ct := hI.2.2.2.1
  obtain ⟨_, _, _, _, ⟨v, hfx⟩, hfc, _, _⟩ := hI.1
  have hfx : yx s F (fl, v) := hfx
  have hfc : ∀ c ∈ fl, yp_isC c = true := hfc
  have x1' : zq_i s F 1 = fl.length := hfx.1
  have x2' : fl.length ≤ zq_T F := hfx.2.1
  have hok : yc_ok s F := ⟨by omega, by omega, fun j j0 j1 => by
    obtain ⟨i, hi⟩ : ∃ i : Nat, j = i := ⟨j.toNat, by omega⟩
    subst hi
    have h4 := hfx.2.2.2 i (by show i < fl.length; omega)
    have h4 : zq_i s (F + 1) i = fl.getD i 0 := h4
    rw [h4]
    refine hfc _ ?_
    have hlt : i < fl.length := by omega
    rw [List.getD_eq_getElem?_getD, List.getElem?_eq_getElem hlt]
    exact List.getElem_mem hlt⟩
  have tlb := yp_tl_b (T := yc_t s F) (zq_i s F 1 - 7)
  have fz : yz_fr s s := ⟨fun _ _ => rfl, fun _ _ => rfl, rfl, rfl⟩
  have hkg : yog s km := by rw [hkm]; exact ykm_g s ev x1
  have hll : lm < 1024 := by rw [hlm]; exact ylm_lt s x1
  have at35 : ¬ (zq_i s 232 17 = 0 ∨ (x1 = 0 ∧ tl < 0)) → zq_Ex X 86 35 [(.ref (0)), (zq_vi (x1)), (zq_vi (yp_tl (yc_t s F) (zq_i s F 1 - 7))), zz_no, zz_no] [] s (zq_rx (zq_rp zq_iv K) T) := fun good => by
    -- after the lengths
    have wr := fun (S0 : zq_S) (f0 : yz_fr s S0) (hall : ∀ n, km.testBit n = true → ylok s ev n) => by
      have hcell : ∀ b, b ≠ 4 → zq_i S0 b = zq_i s b := f0.1
      have good2 : ¬ (zq_i s 232 17 = 0 ∨ (x1 = 0 ∧ tl < 0) ∨ ∃ n : Nat, 1 ≤ n ∧ n ≤ 9 ∧ km.testBit n = true ∧ ¬ ylok s ev n) := by
        rintro (z | z | ⟨n, n1, n9, nb, nl⟩)
        · exact good (Or.inl z)
        · exact good (Or.inr z)
        · exact nl (hall n nb)
      have eW : yW (fun l => (ycap l : Int)) S0 ev ct lm km pre tl = yW (fun l => (ycap l : Int)) s ev ct lm km pre tl := yW_cong (hcell 237 (by decide)) (hcell 238 (by decide)) (hcell 242 (by decide)) (by rw [hcell 232 (by decide)]) (by rw [hcell 232 (by decide)])
      exact ys_86w (X := X) (K := K) (T := T) (yz_fr.yI hI f0) b1 (x2 := yp_tl (yc_t s F) (zq_i s F 1 - 7)) (tl := tl) ⟨by omega, by omega⟩ htl (lm := lm) (km := km) hll ⟨hkg.1, fun n hb => by rw [hcell 237 (by decide)]; exact hkg.2 n hb⟩ (rl := rl) (fun n n1 n9 => by rw [hcell 237 (by decide)]; exact hrl n n1 n9) hpre (by rw [f0.2.2.2]; exact hn) (fun hgt S' f => kover good2 (by rw [eW] at hgt; exact hgt) S0 S' f0 f) (fun hle S1 S2 S3 g1 g2 g3 g4 => by
        rw [eW] at hle g2 ⊢
        exact kok good2 hle S0 S1 S2 S3 f0 g1 g2 g3 g4)
    have bad : ∀ S0 : zq_S, yz_fr s S0 → (∃ n, km.testBit n = true ∧ ¬ ylok s ev n) → zq_n S0 < 1000 ∧ T 11 (zq_sx S0 11) := fun S0 f0 hb => ⟨by rw [f0.2.2.2]; exact hn, kbad (Or.inr (Or.inr (by
      obtain ⟨n, nb, nl⟩ := hb
      have := hkg.2 n nb
      exact ⟨n, this.1, this.2.1, nb, nl⟩))) S0 f0⟩
    have km0 : ∀ n, km.testBit n = true → n ≤ 0 → ylok s ev n := fun n hb h0 => by
      have := (hkg.2 n hb).1
      omega
    refine zw_86_35 b1 ⟨by omega, by omega⟩ rfl rfl ?_
    by_cases hx : x1 = 0
    · unfold ylm at hlm
      unfold ykm at hkm
      rw [if_pos hx] at hlm hkm ⊢
      refine ⟨t, t5, zw_88 (yk_t8 f2) (ys_88_4 f2 a4 9 0 0 rfl (by decide) ?_)⟩
      rw [Nat.zero_or, if_pos hx]
      refine ⟨t, t5, zw_89 (yk_t8 f2) (ys_89_4 f2 a4 9 0 0 rfl (by decide) ?_)⟩
      rw [Nat.zero_or, (ybit_and2 (ymk_lt s 239 9 0 (by omega)) (ymk_lt s 237 9 0 (by omega))).1, ← hkm, ← hlm]
      refine ⟨t, t5, zw_90 (yk_t8 f2) ⟨by omega, by have := hkg.1; omega⟩ o24 (ys_90_2 hI hkg (fun S0 f0 hb => ?_) (fun S0 f0 hb => ?_) 9 0 s zz_no rfl rfl fz km0)⟩
      · rw [if_pos rfl]
        exact bad S0 f0 hb
      · rw [if_neg (by decide)]
        exact wr S0 f0 hb
    · unfold ylm at hlm
      unfold ykm at hkm
      rw [if_neg hx] at hlm hkm ⊢
      rw [if_neg hx]
      refine ⟨t, t5, ys_31 hI ?_⟩
      rw [← hkm]
      refine ⟨t, t5, zw_90 (yk_t8 f2) ⟨by omega, by have := hkg.1; omega⟩ o24 (ys_90_2 hI hkg (fun S0 f0 hb => ?_) (fun S0 f0 hb => ?_) 9 0 s zz_no rfl rfl fz km0)⟩
      · rw [if_pos rfl]
        exact bad S0 f0 hb
      · rw [if_neg (by decide)]
        have := wr S0 f0 hb
        rw [hlm] at this
        exact this
  refine zw_86 b1 ⟨F, t3, ys_87 oF0 hok (by omega) ⟨t, t5, ?_⟩⟩
  rw [t9]
  refine yl_if (fun hz => ⟨hn, kbad (Or.inl hz) s fz⟩) (fun hz => ?_)
  by_cases hx : x1 = 0
  · rw [if_pos hx]
    have htl' := htl
    rw [if_pos hx] at htl'
    refine yl_if (fun hz2 => ⟨hn, kbad (Or.inr (Or.inl ⟨hx, by rw [htl', hz2]; decide⟩)) s fz⟩) (fun hz2 => at35 ?_)
    rintro (z | z)
    · exact hz z
    · rw [htl'] at z
      exact hz2 (by omega)
  · rw [if_neg hx]
    exact at35 (fun z => z.elim hz (fun y => hx y.1))
end YLE9
