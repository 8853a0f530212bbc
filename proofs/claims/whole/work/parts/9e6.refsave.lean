/-! save: the reference's whole save -/
set_option maxRecDepth 100000 in
theorem yW_cong {s S : zq_S} {cp : List Int → Int} {ev : Nat → List ye_E} {ct : Nat → List Int} {lm km : Nat} {pre : List Int} {tl : Int} (h1 : zq_i S 237 = zq_i s 237) (h2 : zq_i S 238 = zq_i s 238) (h3 : zq_i S 242 = zq_i s 242) (h4 : zq_i S 232 17 = zq_i s 232 17) (h5 : zq_i S 232 18 = zq_i s 232 18) : yW cp S ev ct lm km pre tl = yW cp s ev ct lm km pre tl := by
  have e : yO S ev ct = yO s ev ct := by
    funext n
    unfold yO
    rw [h2, h3]
  unfold yW
  rw [e, h1, h2, h4, h5]
section YLE6
variable {X : Nat × (Nat → Int32)}
set_option maxRecDepth 100000 in
theorem ys_185 {S : zq_S} {ev : Nat → List ye_E} {ct : Nat → List Int} {fl : List Int} (hV : ysv S ev ct) (hR : yo_R S ev) (h17 : 0 ≤ zq_i S 232 17 ∧ zq_i S 232 17 ≤ 9) (h18 : 0 ≤ zq_i S 232 18 ∧ zq_i S 232 18 ≤ 9) (h3 : zq_i S 232 3 = fl.length) (h9 : fl.length ≤ 999) (hr : yrow S 234 0 fl) (hch : ∀ c ∈ fl, zq_ch c) {x1 : Int} (b1 : zq_bo x1) {km lm : Nat} {rl : Nat → Bool} (hk0 : x1 = 0 → ∀ n : Nat, 1 ≤ n → n ≤ 9 → (km.testBit n = true ↔ zq_i S 237 n ≠ 0 ∧ zq_i S 239 n ≠ 0)) (hk1 : x1 ≠ 0 → km = yoI S ev 9 (yo0 S)) (hlm : ∀ n : Nat, 1 ≤ n → n ≤ 9 → (lm.testBit n = true ↔ (x1 ≠ 0 ∨ zq_i S 239 n ≠ 0))) (hl0 : lm.testBit 0 = false) (hrl : ∀ n : Nat, 1 ≤ n → n ≤ 9 → (rl n = true ↔ x1 ≠ 0 ∧ zq_i S 237 n ≠ 0 ∧ km.testBit n = false)) {pre : List Int} (hpre : pre = if x1 = 0 then fl else yX_pa) {tl : Int} (htl : tl = if x1 = 0 then yp_tl (ym_c S 1) (zq_i S 232 3 - 7) else -1) {K : Int → zq_S → Prop}
    (kbad : (zq_i S 232 17 = 0 ∨ (x1 = 0 ∧ tl < 0) ∨ ∃ n : Nat, 1 ≤ n ∧ n ≤ 9 ∧ km.testBit n = true ∧ ¬ ylok S ev n) → ∀ S', ymf [47, 48] [254, 255] S S' → K 0 (zq_si S' 232 0 1))
    (kover : ¬ (zq_i S 232 17 = 0 ∨ (x1 = 0 ∧ tl < 0) ∨ ∃ n : Nat, 1 ≤ n ∧ n ≤ 9 ∧ km.testBit n = true ∧ ¬ ylok S ev n) → 999 < (yW (fun l => (l.length : Int)) S ev ct lm km pre tl).length → ∀ S', ymf2 [7, 23, 47, 48] [236, 245, 251, 254, 255] S S' → K 0 (zq_si S' 232 0 2))
    (kok : ¬ (zq_i S 232 17 = 0 ∨ (x1 = 0 ∧ tl < 0) ∨ ∃ n : Nat, 1 ≤ n ∧ n ≤ 9 ∧ km.testBit n = true ∧ ¬ ylok S ev n) → (yW (fun l => (l.length : Int)) S ev ct lm km pre tl).length ≤ 999 → ∀ S1 S', ymf2 [0, 7, 23, 47, 48] [236, 245, 251, 254, 255] S S1 → zq_i S1 232 0 = 0 → yset2 S1 S' rl (yW (fun l => (l.length : Int)) S ev ct lm km pre tl) → K ((yW (fun l => (l.length : Int)) S ev ct lm km pre tl).length : Int) S') : zq_Ex X 185 0 [.ref 232, zq_vi x1, zz_no, zz_no, zz_no, zz_no, zz_no, zz_no] [] S (zq_rp zq_iv K) := by
  have hCg := yoI_g (ev := ev) 9 (yo0 S) (yo0_g S)
  have hbc : ybc (yoI S ev 9 (yo0 S)) ≤ 9 := ybit_le _ hCg.1 (by
    cases z : (yoI S ev 9 (yo0 S)).testBit 0 with
    | false => rfl
    | true => have := (hCg.2 0 z).1; omega)
  have tlb := yp_tl_b (T := ym_c S 1) (zq_i S 232 3 - 7)
  refine zw_185 b1 (ys_186 hV.1 hR h17.1 h17.2 h18.1 h18.2 (fun S1 f1 hf1 => ?_))
  have hc1 : ∀ b, 233 ≤ b → b ≤ 244 → zq_i S1 b = zq_i S b := fun b p1 p2 => f1.i (by simp; omega) (by omega)
  have hm1 : ym_I S1 := hV.1.cong (fun j hj => f1.f (by simp)) (hc1 240 (by decide) (by decide))
  have hV1 : ysv S1 ev ct := hV.cong hm1 (fun b p1 p2 => hc1 b (by omega) p2) (f1.i (by simp) (by decide))
  have hf : ∀ j : Int, zq_i S1 232 j = zq_i S 232 j := fun j => f1.f (by simp)
  have i2 : zq_iv ((ybc (yoI S ev 9 (yo0 S)) : Nat) : Int) := ⟨by omega, by omega⟩
  have at57 : ∀ (x3 x4 : Int) (v7 : Value), zq_bo x3 → -1 ≤ x4 ∧ x4 < 1000000 → v7.category = 1 → (x3 = 0 ↔ ¬ (zq_i S 232 17 = 0 ∨ (x1 = 0 ∧ tl < 0))) → (if x1 = 0 then x4 else -1) = tl → zq_Ex X 185 57 [.ref 232, zq_vi x1, zq_vi ((ybc (yoI S ev 9 (yo0 S)) : Nat) : Int), zq_vi x3, zq_vi x4, zq_vi 0, zq_vi 1, v7] [] S1 (zq_rp zq_iv K) := fun x3 x4 v7 b3 h4 c7 hx3 htl2 => by
    have i4 : zq_iv x4 := ⟨by omega, by omega⟩
    have e255 : ∀ n : Nat, 1 ≤ n → n ≤ 9 → x1 ≠ 0 → (zq_i S1 255 n ≠ 0 ↔ km.testBit n = true) := fun n n1 n9 hx => by
      rw [hf1 n (by omega), hk1 hx]
      cases (yoI S ev 9 (yo0 S)).testBit n with
      | false => exact ⟨fun z => absurd rfl z, fun z => by cases z⟩
      | true => exact ⟨fun _ => rfl, fun _ => by decide⟩
    have hku : ∀ n : Nat, km.testBit n = true → x1 ≠ 0 → zq_i S 237 n ≠ 0 := fun n hb hx => by
      rw [hk1 hx] at hb
      exact (hCg.2 n hb).2.2
    have e7 : zq_i S1 237 = zq_i S 237 := hc1 237 (by decide) (by decide)
    have e9 : zq_i S1 239 = zq_i S 239 := hc1 239 (by decide) (by decide)
    refine ys_185_57 (S0 := S1) hV1 b1 i2 b3 i4 (fnd := fun n => if x1 = 0 then zq_i S1 237 n else zq_i S1 255 n) (fun n => rfl) (fun n n1 n9 hz => ?_) (km := km) (fun n n1 n9 => ?_) (fun S2 x5 w7 b5 c7' f2 hfn h5 => ?_) 9 1 S1 0 v7 rfl (by omega) (Or.inl rfl) c7 (ymf.refl _ _ _) (fun i i1 i2 => by omega) (fun _ _ _ => rfl) (fun _ => ⟨fun _ i i1 i2 => by omega, fun _ => rfl⟩)
    · by_cases hx : x1 = 0
      · simp only [if_pos hx] at hz; exact hz
      · simp only [if_neg hx] at hz
        rw [e7]
        exact hku n ((e255 n n1 n9 hx).mp hz) hx
    · by_cases hx : x1 = 0
      · simp only [if_pos hx]
        rw [e7, e9, hk0 hx n n1 n9]
        exact ⟨fun z => ⟨z.1, Or.inr z.2⟩, fun z => ⟨z.1, z.2.elim (fun y => absurd hx y) id⟩⟩
      · simp only [if_neg hx]
        rw [e255 n n1 n9 hx]
        exact ⟨fun z => ⟨z, Or.inl hx⟩, fun z => z.1⟩
    · have f2' : ymf [47, 48] [254, 255] S S2 := (f1.mono (by simp) (by simp)).trans f2
      have lkc : ∀ n, ylok S1 ev n ↔ ylok S ev n := ylok_cong e7 (hc1 238 (by decide) (by decide)) (hc1 242 (by decide) (by decide)) (hc1 243 (by decide) (by decide))
      refine zw_185_57 b1 i2 b3 i4 b5 ⟨by omega, by omega⟩ c7' ?_
      rw [if_neg (by decide)]
      refine yl_if (fun hz3 => yl_if (fun hz5 => ?_) (fun hz5 => kbad ?_ S2 f2')) (fun hz3 => kbad ?_ S2 f2')
      · have good := hx3.mp hz3
        have good2 : ¬ (zq_i S 232 17 = 0 ∨ (x1 = 0 ∧ tl < 0) ∨ ∃ n : Nat, 1 ≤ n ∧ n ≤ 9 ∧ km.testBit n = true ∧ ¬ ylok S ev n) := by
          rintro (z | z | ⟨n, n1, n9, nb, nl⟩)
          · exact good (Or.inl z)
          · exact good (Or.inr z)
          · exact nl ((lkc n).mp ((h5 hz3).mp hz5 n n1 n9 nb))
        have kover := kover good2
        have kok := kok good2
        -- from the prefix on
        have fin : ∀ S5 : zq_S, ymf2 [7, 23, 47, 48] [236, 245, 254, 255] S S5 → (∀ i : Nat, 1 ≤ i → i ≤ 9 → zq_i S5 255 i = if x1 = 0 then zq_i S1 237 i else zq_i S1 255 i) → ynw S5 pre → pre.length ≤ 999 → zq_Ex X 185 263 [.ref 232, zq_vi x1, zq_vi ((ybc (yoI S ev 9 (yo0 S)) : Nat) : Int), zq_vi 0, zq_vi x4, zq_vi x5, zq_vi 1, w7] [] S5 (zq_rp zq_iv K) := fun S5 f5 h5f hw5 hpl => by
          have hc5 : ∀ b, 237 ≤ b → b ≤ 244 → zq_i S5 b = zq_i S b := fun b p1 p2 => f5.i (by simp; omega) (by omega)
          have hsw : ysw S5 ev ct := hV.2.2.2.cong hc5
          have g17 : zq_i S5 232 17 = zq_i S 232 17 := f5.f (by simp)
          have g18 : zq_i S5 232 18 = zq_i S 232 18 := f5.f (by simp)
          have g7 : zq_i S5 237 = zq_i S 237 := hc5 237 (by decide) (by decide)
          have g9 : zq_i S5 239 = zq_i S 239 := hc5 239 (by decide) (by decide)
          have fnd : ∀ i : Nat, 1 ≤ i → i ≤ 9 → (zq_i S5 255 i ≠ 0 ↔ if x1 = 0 then zq_i S 237 i ≠ 0 else km.testBit i = true) := fun i i1 i9 => by
            rw [h5f i i1 i9]
            by_cases hx : x1 = 0
            · rw [if_pos hx, if_pos hx, e7]
            · rw [if_neg hx, if_neg hx]
              exact e255 i i1 i9 hx
          have hWe : yW (fun l => (l.length : Int)) S5 ev ct lm km pre (if x1 = 0 then x4 else -1) = yW (fun l => (l.length : Int)) S ev ct lm km pre tl := by
            rw [htl2]
            exact yW_cong g7 (hc5 238 (by decide) (by decide)) (hc5 242 (by decide) (by decide)) g17 g18
          refine ys_185_w hsw b1 i2 (Or.inl rfl) h4 b5 c7' (by rw [g17]; exact h17) (by rw [g18]; exact h18) (km := km) (lm := lm) (fun n n1 n9 => ?_) (fun n n1 n9 hb => ?_) (fun n n1 n9 => by rw [g9]; exact hlm n n1 n9) hl0 (fun n n1 n9 hb => ?_) hpl hw5 (fun hle S6 f6 hw6 => ?_) (fun hgt S6 f6 => ?_)
          · rw [fnd n n1 n9, g9]
            by_cases hx : x1 = 0
            · rw [if_pos hx, hk0 hx n n1 n9]
              exact ⟨fun z => ⟨z.1, Or.inr z.2⟩, fun z => ⟨z.1, z.2.elim (fun y => absurd hx y) id⟩⟩
            · rw [if_neg hx]
              exact ⟨fun z => ⟨z, Or.inl hx⟩, fun z => z.1⟩
          · rw [g7]
            by_cases hx : x1 = 0
            · exact ((hk0 hx n n1 n9).mp hb).1
            · exact hku n hb hx
          · rw [fnd n n1 n9, g7]
            by_cases hx : x1 = 0
            · rw [if_pos hx, hk0 hx n n1 n9]
              have := (hlm n n1 n9).mp hb
              exact ⟨fun z => ⟨z.1, z.1⟩, fun z => ⟨z.1, this.elim (fun y => absurd hx y) id⟩⟩
            · rw [if_neg hx]
              exact ⟨fun z => ⟨hku n z hx, z⟩, fun z => z.2⟩
          · rw [hWe] at hw6 hle
            have f7 : ymf2 [0, 7, 23, 47, 48] [236, 245, 251, 254, 255] S (zq_si S6 232 0 0) := ((f5.mono (by simp) (by simp)).trans (f6.mono (by simp) (by simp))).trans (ymf2.sf (by simp) (by decide))
            have k255 : zq_i (zq_si S6 232 0 0) 255 = zq_i S5 255 := by
              have : zq_i (zq_si S6 232 0 0) 255 = zq_i S6 255 := by
                funext j
                rw [zq_i_si, if_neg (by simp)]
              rw [this]
              exact f6.i (by simp) (by decide)
            refine ys_202 (rl := rl) (W := yW (fun l => (l.length : Int)) S ev ct lm km pre tl) ⟨?_, fun i hi => ?_⟩ hle (fun n n1 n9 => ?_) (fun n n1 n9 => ?_) (fun S8 q => ?_)
            · rw [zq_i_si, if_neg (by simp)]; exact hw6.1
            · rw [zq_i_si, if_neg (by simp)]; exact hw6.2 i hi
            · rw [f7.i (b := 238) (by simp) (by decide)]; exact (hV.2.2.2 n n1 n9).1
            · rw [f7.i (b := 237) (by simp) (by decide), k255, hrl n n1 n9]
              have hfn := fnd n n1 n9
              by_cases hx : x1 = 0
              · rw [if_pos hx] at hfn
                exact ⟨fun z => absurd hx z.1, fun z => absurd z.2 (hfn.mpr z.1)⟩
              · rw [if_neg hx] at hfn
                refine ⟨fun z => ⟨z.2.1, Classical.byContradiction fun y => ?_⟩, fun z => ⟨hx, z.1, ?_⟩⟩
                · have := hfn.mp y
                  rw [z.2.2] at this
                  cases this
                · cases hb : km.testBit n with
                  | false => rfl
                  | true => exact absurd z.2 (hfn.mpr hb)
            · have := kok hle (zq_si S6 232 0 0) S8 f7 (by rw [zq_i_si, if_pos ⟨rfl, rfl⟩]) q
              rw [q.2.2.2.1]
              exact this
          · rw [hWe] at hgt
            exact kover hgt S6 ((f5.mono (by simp) (by simp)).trans (f6.mono (by simp) (by simp)))
        have f20 : ymf2 [7, 23, 47, 48] [236, 245, 254, 255] S (zq_si S2 232 7 0) := (f2'.to2 (by simp) (by simp) (by simp)).trans (ymf2.sf (by simp) (by decide))
        have w20 : ynw (zq_si S2 232 7 0) [] := ⟨by rw [zq_i_si, if_pos ⟨rfl, rfl⟩]; rfl, fun i hi => by simp at hi⟩
        have h255 : ∀ i : Nat, 1 ≤ i → i ≤ 9 → zq_i (zq_si S2 232 7 0) 255 i = if x1 = 0 then zq_i S1 237 i else zq_i S1 255 i := fun i i1 i9 => by
          rw [zq_i_si, if_neg (by simp)]
          exact hfn i i1 i9
        by_cases hx : x1 = 0
        · rw [if_pos hx]
          rw [if_pos hx] at hpre
          refine ys_185_234 (S := zq_si S2 232 7 0) (fl := fl) (by rw [f20.f (j := 3) (by simp)]; exact h3) h9 (hr.cong (f20.i (by simp) (by decide))) hch b1 i2 (Or.inl rfl) i4 b5 c7' (fun S5 f5 hw5 => ?_) fl 0 (zq_si S2 232 7 0) [] (ymf2.refl _ _ _) w20 (hr.cong (f20.i (by simp) (by decide))) hch (by omega) rfl rfl
          exact fin S5 (f20.trans (f5.mono (by simp) (by simp))) (fun i i1 i9 => by rw [f5.i (b := 255) (by simp) (by decide)]; exact h255 i i1 i9) (by rw [hpre]; exact hw5) (by rw [hpre]; exact h9)
        · rw [if_neg hx]
          rw [if_neg hx] at hpre
          refine yn_194 (by decide) w20 (by simp) (fun s3 h3 g3 => yn_194 (by decide) h3 (by simp) (fun s4 h4' g4 => ⟨?_, ?_⟩))
          · have := h4'.1
            simp at this
            rw [this]
            exact ⟨by omega, by omega⟩
          · have h4'' : ynw s4 (yX_pa ++ [32]) := h4'
            have g := g3.trans g4
            exact fin _ ((f20.trans (g.mono (by simp) (by simp))).trans (ymf2.sf (by simp) (by decide))) (fun i i1 i9 => by rw [zq_i_si, if_neg (by simp), g.i (b := 255) (by simp) (by decide)]; exact h255 i i1 i9) (by rw [hpre]; exact ynw_drop h4'') (by rw [hpre]; simp)
      · right
        right
        have hno : ¬ ∀ i : Nat, 1 ≤ i → i ≤ 9 → km.testBit i = true → ylok S1 ev i := fun z => hz5 ((h5 hz3).mpr z)
        refine Classical.byContradiction fun z => hno (fun i i1 i9 ib => Classical.byContradiction fun y => z ⟨i, i1, i9, ib, fun w => y ((lkc i).mpr w)⟩)
      · have : zq_i S 232 17 = 0 ∨ (x1 = 0 ∧ tl < 0) := Classical.byContradiction fun z => hz3 (hx3.mpr z)
        exact this.elim Or.inl (fun z => Or.inr (Or.inl z))
  have eT : ym_c S1 1 = ym_c S 1 := by
    funext i
    unfold ym_c
    rw [hf 3, hc1 234 (by decide) (by decide)]
    rfl
  have h03 : 0 ≤ zq_i S1 232 3 := by rw [hf 3, h3]; omega
  have hneg : ¬ ((ybc (yoI S ev 9 (yo0 S)) : Nat) : Int) < 0 := by omega
  rw [hf 17]
  refine yl_if (fun hz => ?_) (fun hz => ?_)
  · refine zw_185_16 b1 i2 rfl rfl rfl rfl rfl ?_
    by_cases hx : x1 = 0
    · rw [if_pos hx]
      rw [if_pos hx] at htl
      refine ys_191 hm1 h03 ?_
      rw [eT, hf 3]
      exact at57 1 _ _ (Or.inr rfl) ⟨by omega, by omega⟩ rfl ⟨fun z => (by cases z), fun z => absurd (Or.inl hz) z⟩ (by rw [if_pos hx, htl])
    · rw [if_neg hx]
      rw [if_neg hx] at htl
      exact at57 1 0 _ (Or.inr rfl) ⟨by omega, by omega⟩ rfl ⟨fun z => (by cases z), fun z => absurd (Or.inl hz) z⟩ (by rw [if_neg hx, htl])
  · rw [if_neg hneg]
    by_cases hx : x1 = 0
    · rw [if_pos hx]
      rw [if_pos hx] at htl
      refine ys_191 hm1 h03 ?_
      rw [eT, hf 3]
      refine yl_if (fun ht => ?_) (fun ht => ?_)
      · exact at57 1 _ _ (Or.inr rfl) ⟨by omega, by omega⟩ rfl ⟨fun z => (by cases z), fun z => absurd (Or.inr ⟨hx, by rw [htl]; exact ht⟩) z⟩ (by rw [if_pos hx, htl])
      · exact at57 0 _ _ (Or.inl rfl) ⟨by omega, by omega⟩ rfl ⟨fun _ z => z.elim hz (fun y => ht (by rw [← htl]; exact y.2)), fun _ => rfl⟩ (by rw [if_pos hx, htl])
    · rw [if_neg hx]
      rw [if_neg hx] at htl
      exact at57 0 0 _ (Or.inl rfl) ⟨by omega, by omega⟩ rfl ⟨fun _ z => z.elim hz (fun y => hx y.1), fun _ => rfl⟩ (by rw [if_neg hx, htl])
end YLE6
