/-! save: the reference's loops -/
set_option maxRecDepth 100000 in
theorem yz_len_cong {s S : zq_S} {ev : Nat → List ye_E} (h1 : zq_i S 237 = zq_i s 237) (h2 : zq_i S 238 = zq_i s 238) (es : List ye_E) : yz_len S ev es = yz_len s ev es := by
  unfold yz_len
  cases ye_fk yNL es 0 with
  | none => rfl
  | some p =>
    obtain ⟨d', e'⟩ := p
    show (match yz S ev 10 0 none d' with
        | none => -1
        | some r => if (yz_end ev d' r).1 = 3 then (yz_end ev d' r).2.1 else -1) = _
    rw [yz_cong h1 h2]
    rfl
set_option maxRecDepth 100000 in
theorem ylok_cong {s S : zq_S} {ev : Nat → List ye_E} (h1 : zq_i S 237 = zq_i s 237) (h2 : zq_i S 238 = zq_i s 238) (h3 : zq_i S 242 = zq_i s 242) (h4 : zq_i S 243 = zq_i s 243) (n : Nat) : ylok S ev n ↔ ylok s ev n := by
  unfold ylok
  rw [yz_len_cong h1 h2, h3, h4]
/-- what the reference holds while it saves -/
def ysw (S : zq_S) (ev : Nat → List ye_E) (ct : Nat → List Int) : Prop := ∀ o : Nat, 1 ≤ o → o ≤ 9 → (0 ≤ zq_i S 238 o ∧ zq_i S 238 o ≤ 9) ∧ (zq_i S 237 o ≠ 0 → yv (ev o) ∧ (zq_i S 242 o ≠ 0 → (∃ d es, ev o = .inl d :: es ∧ d.1 = 7) ∧ 0 ≤ zq_i S 243 o) ∧ yw_obj S o (ev o) (ct o))
def ysv (S : zq_S) (ev : Nat → List ye_E) (ct : Nat → List Int) : Prop := ym_I S ∧ yz_R S ev ∧ ym_nm S 256 yNL ∧ ysw S ev ct
set_option maxRecDepth 100000 in
theorem yw_obj.cong {s S : zq_S} {o : Nat} {es : List ye_E} {ct : List Int} (h : yw_obj s o es ct) (hc : ∀ b, 237 ≤ b → b ≤ 244 → zq_i S b = zq_i s b) : yw_obj S o es ct := by
  obtain ⟨a1, a2, a3, a4, a5, a6⟩ := h
  refine ⟨?_, ?_, a3, a4.cong (hc 241 (by decide) (by decide)), a5, ?_⟩
  · rw [hc 238 (by decide) (by decide)]; exact a1
  · rw [hc 240 (by decide) (by decide)]; exact a2
  · rw [hc 242 (by decide) (by decide), hc 243 (by decide) (by decide)]
    exact fun z => ⟨(a6 z).1, (a6 z).2.1, (a6 z).2.2.1.cong (hc 244 (by decide) (by decide)), (a6 z).2.2.2⟩
set_option maxRecDepth 100000 in
theorem ysw.cong {s S : zq_S} {ev : Nat → List ye_E} {ct : Nat → List Int} (h : ysw s ev ct) (hc : ∀ b, 237 ≤ b → b ≤ 244 → zq_i S b = zq_i s b) : ysw S ev ct := fun o o1 o9 => by
  obtain ⟨c1, c2⟩ := h o o1 o9
  refine ⟨by rw [hc 238 (by decide) (by decide)]; exact c1, fun hu => ?_⟩
  rw [hc 237 (by decide) (by decide)] at hu
  obtain ⟨e1, e2, e3⟩ := c2 hu
  refine ⟨e1, ?_, e3.cong hc⟩
  rw [hc 242 (by decide) (by decide), hc 243 (by decide) (by decide)]
  exact e2
set_option maxRecDepth 100000 in
theorem ysv.cong {s S : zq_S} {ev : Nat → List ye_E} {ct : Nat → List Int} (h : ysv s ev ct) (hm : ym_I S) (hc : ∀ b, 237 ≤ b → b ≤ 244 → zq_i S b = zq_i s b) (h6 : zq_i S 256 = zq_i s 256) : ysv S ev ct := by
  obtain ⟨_, b2, b3, b4⟩ := h
  exact ⟨hm, b2.cong (hc 237 (by decide) (by decide)) (hc 240 (by decide) (by decide)) (hc 241 (by decide) (by decide)), ⟨b3.1, fun i hi => by rw [h6]; exact b3.2 i hi⟩, b4.cong hc⟩
section YLE3
variable {X : Nat × (Nat → Int32)}
set_option maxRecDepth 100000 in
theorem ys_185_57 {S0 : zq_S} {ev : Nat → List ye_E} {ct : Nat → List Int} (hV : ysv S0 ev ct) {x1 x2 x3 x4 : Int} (b1 : zq_bo x1) (i2 : zq_iv x2) (b3 : zq_bo x3) (i4 : zq_iv x4) {fnd : Nat → Int} (hfn : ∀ n, fnd n = if x1 = 0 then zq_i S0 237 n else zq_i S0 255 n) (hfu : ∀ n : Nat, 1 ≤ n → n ≤ 9 → fnd n ≠ 0 → zq_i S0 237 n ≠ 0) {km : Nat} (hkm : ∀ n : Nat, 1 ≤ n → n ≤ 9 → (km.testBit n = true ↔ fnd n ≠ 0 ∧ (x1 ≠ 0 ∨ zq_i S0 239 n ≠ 0))) {K : Int → zq_S → Prop}
    (k : ∀ (S' : zq_S) (x5 : Int) (v7 : Value), zq_bo x5 → v7.category = 1 → ymf [47, 48] [254, 255] S0 S' → (∀ i : Nat, 1 ≤ i → i ≤ 9 → zq_i S' 255 i = fnd i) → (x3 = 0 → (x5 = 0 ↔ ∀ i : Nat, 1 ≤ i → i ≤ 9 → km.testBit i = true → ylok S0 ev i)) → zq_Ex X 185 57 [.ref 232, zq_vi x1, zq_vi x2, zq_vi x3, zq_vi x4, zq_vi x5, zq_vi 10, v7] [] S' (zq_rp zq_iv K)) : ∀ (m n : Nat) (S : zq_S) (x5 : Int) (v7 : Value), n + m = 10 → 1 ≤ n → zq_bo x5 → v7.category = 1 → ymf [47, 48] [254, 255] S0 S → (∀ i : Nat, 1 ≤ i → i < n → zq_i S 255 i = fnd i) → (∀ i : Nat, n ≤ i → i ≤ 9 → zq_i S 255 i = zq_i S0 255 i) → (x3 = 0 → (x5 = 0 ↔ ∀ i : Nat, 1 ≤ i → i < n → km.testBit i = true → ylok S0 ev i)) → zq_Ex X 185 57 [.ref 232, zq_vi x1, zq_vi x2, zq_vi x3, zq_vi x4, zq_vi x5, zq_vi (n : Int), v7] [] S (zq_rp zq_iv K)
  | 0, n, S, x5, v7, hn, n1, b5, c7, fr, hf1, hf2, h5 => by
    have e : n = 10 := by omega
    subst e
    exact k S x5 v7 b5 c7 fr (fun i i1 i9 => hf1 i i1 (by omega)) (fun z => (h5 z).trans ⟨fun h i i1 i9 => h i i1 (by omega), fun h i i1 i9 => h i i1 (by omega)⟩)
  | m + 1, n, S, x5, v7, hn, n1, b5, c7, fr, hf1, hf2, h5 => by
    have f1 : ymf [47, 48] [254, 255] S0 (zq_si S 255 n (fnd n)) := fr.trans (ymf.si (by simp) (by decide))
    have e255 : ∀ i : Nat, zq_i (zq_si S 255 n (fnd n)) 255 i = if i = n then fnd n else zq_i S 255 i := fun i => by
      rw [zq_i_si]
      by_cases e : i = n
      · rw [if_pos ⟨rfl, by omega⟩, if_pos e]
      · rw [if_neg (fun z => e (by have := z.2; omega)), if_neg e]
    have next : ∀ (S' : zq_S) (y5 : Int) (w7 : Value), zq_bo y5 → w7.category = 1 → ymf [47, 48] [254] (zq_si S 255 n (fnd n)) S' → (x3 = 0 → (y5 = 0 ↔ x5 = 0 ∧ (km.testBit n = true → ylok S0 ev n))) → zq_Ex X 185 57 [.ref 232, zq_vi x1, zq_vi x2, zq_vi x3, zq_vi x4, zq_vi y5, zq_vi ((n : Int) + 1), w7] [] S' (zq_rp zq_iv K) := fun S' y5 w7 b5' c7' g h => by
      have e := ys_185_57 hV b1 i2 b3 i4 hfn hfu hkm k m (n + 1) S' y5 w7 (by omega) (by omega) b5' c7' (f1.trans (g.mono (by simp) (by simp))) (fun i i1 i2 => ?_) (fun i i1 i2 => ?_) (fun z => ?_)
      · exact e
      · rw [g.i (b := 255) (by simp) (by decide), e255]
        by_cases e : i = n
        · rw [if_pos e, e]
        · rw [if_neg e]; exact hf1 i i1 (by omega)
      · rw [g.i (b := 255) (by simp) (by decide), e255, if_neg (by omega)]
        exact hf2 i (by omega) i2
      · rw [h z, h5 z]
        constructor
        · rintro ⟨p1, p2⟩ i i1 i3 i4
          by_cases e : i = n
          · rw [e] at i4 ⊢; exact p2 i4
          · exact p1 i i1 (by omega) i4
        · exact fun p => ⟨fun i i1 i3 i4 => p i i1 (by omega) i4, fun z => p n n1 (by omega) z⟩
    have at120 : km.testBit n ≠ true → zq_Ex X 185 120 [.ref 232, zq_vi x1, zq_vi x2, zq_vi x3, zq_vi x4, zq_vi x5, zq_vi (n : Int), v7] [] (zq_si S 255 n (fnd n)) (zq_rp zq_iv K) := fun hb => by
      refine zw_185_120 b1 i2 b3 i4 b5 ⟨by omega, by omega⟩ c7 (yl_if (fun h3 => yl_if (fun hx5 => ?_) (fun hx5 => ?_)) (fun h3 => ?_))
      · exact next _ 0 _ (Or.inl rfl) rfl (ymf.refl _ _ _) (fun _ => ⟨fun _ => ⟨hx5, fun z => absurd z hb⟩, fun _ => rfl⟩)
      · exact next _ 1 _ (Or.inr rfl) rfl (ymf.refl _ _ _) (fun _ => ⟨fun z => (by cases z), fun z => absurd z.1 hx5⟩)
      · exact next _ 0 _ (Or.inl rfl) rfl (ymf.refl _ _ _) (fun z => absurd z h3)
    have at116 : km.testBit n = true → zq_Ex X 185 116 [.ref 232, zq_vi x1, zq_vi x2, zq_vi x3, zq_vi x4, zq_vi x5, zq_vi (n : Int), v7] [] (zq_si S 255 n (fnd n)) (zq_rp zq_iv K) := fun hb => by
      refine zw_185_116 b1 i2 b3 i4 b5 ⟨by omega, by omega⟩ c7 (yl_if (fun h3 => yl_if (fun hx5 => ?_) (fun hx5 => ?_)) (fun h3 => ?_))
      · have hcc : ∀ b, 237 ≤ b → b ≤ 244 → zq_i (zq_si S 255 n (fnd n)) b = zq_i S0 b := fun b hb1 hb2 => f1.i (by simp; omega) (by omega)
        have hm1 : ym_I (zq_si S 255 n (fnd n)) := hV.1.cong (fun j hj => f1.f (by simp at hj ⊢; omega)) (hcc 240 (by decide) (by decide))
        have hV1 : ysv (zq_si S 255 n (fnd n)) ev ct := hV.cong hm1 hcc (f1.i (by simp) (by decide))
        have hu : zq_i (zq_si S 255 n (fnd n)) 237 n ≠ 0 := by
          rw [hcc 237 (by decide) (by decide)]
          exact hfu n n1 (by omega) ((hkm n n1 (by omega)).mp hb).1
        obtain ⟨e1, e2, e3⟩ := (hV1.2.2.2 n n1 (by omega)).2 hu
        have lc := ylok_cong (ev := ev) (hcc 237 (by decide) (by decide)) (hcc 238 (by decide) (by decide)) (hcc 242 (by decide) (by decide)) (hcc 243 (by decide) (by decide)) n
        refine ys_192 hm1 hV1.2.1 n1 (by omega) hu e1 e2 hV1.2.2.1 (fun hl S' g => ?_) (fun hl S' g => ?_)
        · rw [if_pos rfl]
          exact next S' 0 _ (Or.inl rfl) rfl g (fun _ => ⟨fun _ => ⟨hx5, fun _ => lc.mp hl⟩, fun _ => rfl⟩)
        · rw [if_neg (by decide)]
          exact next S' 1 _ (Or.inr rfl) rfl g (fun _ => ⟨fun z => (by cases z), fun z => absurd (lc.mpr (z.2 hb)) hl⟩)
      · exact next _ 1 _ (Or.inr rfl) rfl (ymf.refl _ _ _) (fun _ => ⟨fun z => (by cases z), fun z => absurd z.1 hx5⟩)
      · exact next _ 0 _ (Or.inl rfl) rfl (ymf.refl _ _ _) (fun z => absurd z h3)
    have hk := hkm n n1 (by omega)
    have e239 : zq_i S 239 = zq_i S0 239 := fr.i (by simp) (by decide)
    have e237 : zq_i S 237 = zq_i S0 237 := fr.i (by simp) (by decide)
    refine zw_185_57 b1 i2 b3 i4 b5 ⟨by omega, by omega⟩ c7 ?_
    rw [if_pos (by omega)]
    by_cases h0 : x1 = 0
    · have ef : zq_i S 237 n = fnd n := by rw [e237, hfn n, if_pos h0]
      rw [if_pos h0, ef, e239]
      refine ⟨⟨by omega, by omega⟩, ⟨by omega, by omega⟩, ⟨by omega, by omega⟩, yl_if (fun hz => at120 (fun z => (hk.mp z).1 hz)) (fun hz => ?_)⟩
      rw [if_pos h0]
      exact ⟨⟨by omega, by omega⟩, yl_if (fun hc => at120 (fun z => (hk.mp z).2.elim (fun y => y h0) (fun y => y hc))) (fun hc => at116 (hk.mpr ⟨hz, Or.inr hc⟩))⟩
    · have ef : zq_i S 255 n = fnd n := by rw [hf2 n (by omega) (by omega), hfn n, if_neg h0]
      rw [if_neg h0, ef]
      refine ⟨⟨by omega, by omega⟩, ⟨by omega, by omega⟩, ⟨by omega, by omega⟩, yl_if (fun hz => at120 (fun z => (hk.mp z).1 hz)) (fun hz => ?_)⟩
      rw [if_neg h0]
      exact at116 (hk.mpr ⟨hz, Or.inl h0⟩)
end YLE3
