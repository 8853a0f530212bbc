/-! save: the reference's table -/
set_option maxRecDepth 100000 in
theorem yd3_d {x : Int} (h0 : 0 ≤ x) (h1 : x < 100000) : (0 ≤ zq_rem (zq_div x 100) 10 ∧ zq_rem (zq_div x 100) 10 ≤ 9) ∧ (0 ≤ zq_rem (zq_div x 10) 10 ∧ zq_rem (zq_div x 10) 10 ≤ 9) ∧ (0 ≤ zq_rem x 10 ∧ zq_rem x 10 ≤ 9) := by
  have a : zq_div x 100 = x / 100 := zq_div_nn ⟨by omega, by omega⟩ h0 ⟨by decide, by decide⟩ (by decide)
  have b : zq_div x 10 = x / 10 := zq_div_nn ⟨by omega, by omega⟩ h0 ⟨by decide, by decide⟩ (by decide)
  rw [a, b, zq_rem_nn (x := x / 100) ⟨by omega, by omega⟩ (by omega) ⟨by decide, by decide⟩ (by decide), zq_rem_nn (x := x / 10) ⟨by omega, by omega⟩ (by omega) ⟨by decide, by decide⟩ (by decide), zq_rem_nn (x := x) ⟨by omega, by omega⟩ (by omega) ⟨by decide, by decide⟩ (by decide)]
  omega
set_option maxRecDepth 100000 in
theorem ynw_drop {S : zq_S} {L : List Int} {c : Int} (h : ynw S (L ++ [c])) : ynw (zq_si S 232 7 (zq_i S 232 7 - 1)) L := by
  obtain ⟨h1, h2⟩ := h
  refine ⟨?_, fun i hi => ?_⟩
  · rw [zq_i_si, if_pos ⟨rfl, rfl⟩, h1]
    simp
  · rw [zq_i_si, if_neg (by simp), h2 i (by simp; omega)]
    simp [List.getD_eq_getElem?_getD, List.getElem?_append_left hi]
section YLE0
variable {X : Nat × (Nat → Int32)}
set_option maxRecDepth 100000 in
theorem ys_201_2 {S : zq_S} {W : List Int} (hm : ymd S W) (hW : W.length ≤ 700) {Z : List Int} {K : zq_S → Prop} (k : ∀ s', ynw s' Z → ynf S s' → K s') : ∀ (l : List Int) (i : Nat) (S' : zq_S) (L : List Int), ymf [7] [236] S S' → ynw S' L → (∃ p, W = p ++ l ∧ p.length = i) → (∀ c ∈ l, zq_ch c) → L ++ l = Z → L.length + l.length ≤ 6500 → zq_Ex X 201 2 [.ref 232, zq_vi (i : Int)] [] S' (zq_rv K)
  | [], i, S', L, fr, hw, ⟨p, hp1, hp2⟩, hc, hZ, hb => by
    have hi : i = W.length := by rw [hp1]; simp; omega
    refine zw_201_2 ⟨by omega, by omega⟩ ?_
    rw [fr.f (j := 23) (by simp), hm.1, if_neg (by omega)]
    rw [List.append_nil] at hZ
    rw [hZ] at hw
    exact k S' hw (fr.to2 (by simp) (by simp) (by simp))
  | c :: l, i, S', L, fr, hw, ⟨p, hp1, hp2⟩, hc, hZ, hb => by
    have hlt : i < W.length := by rw [hp1]; simp; omega
    have hcc : zq_i S 245 i = c := by
      rw [hm.2 i hlt, hp1]
      simp [List.getD_eq_getElem?_getD, ← hp2]
    simp only [List.length_cons] at hb
    refine zw_201_2 ⟨by omega, by omega⟩ ?_
    rw [fr.f (j := 23) (by simp), hm.1, if_pos (by omega), fr.i (b := 245) (by simp) (by decide), hcc, show (i : Int) + 1 = ((i + 1 : Nat) : Int) by omega]
    refine ⟨⟨by omega, by omega⟩, ?_⟩
    refine zw_195 (hc c List.mem_cons_self) ?_
    obtain ⟨w1, w2⟩ := id hw
    refine ⟨⟨by omega, by omega⟩, ⟨by omega, by omega⟩, ys_201_2 hm hW k l (i + 1) _ (L ++ [c]) (fr.trans ((ymf.si (by simp) (by decide)).trans (ymf.sf (by simp)))) ⟨?_, fun j hj => ?_⟩ ⟨p ++ [c], by rw [hp1]; simp, by simp; omega⟩ (fun x hx => hc x (List.mem_cons_of_mem _ hx)) (by rw [← hZ]; simp) (by simp; omega)⟩
    · rw [zq_i_si, if_pos ⟨rfl, rfl⟩, w1]
      simp
    · simp at hj
      rw [zq_i_si, if_neg (by simp), zq_i_si]
      by_cases e : j = L.length
      · rw [if_pos ⟨rfl, by omega⟩, e]
        simp
      · rw [if_neg (fun z => e (by have := z.2; omega)), w2 j (by omega)]
        simp [List.getD_eq_getElem?_getD, List.getElem?_append_left (show j < L.length by omega)]
set_option maxRecDepth 100000 in
theorem ye_num_ch {x : Int} (hx : -1000000 < x ∧ x < 1000000) : ∀ c ∈ ye_num x, zq_ch c := fun c hc => by
  have h := ye_num_wc x hx c hc
  unfold yp_wc at h
  have := of_decide_eq_true h
  exact ⟨by omega, by omega⟩
set_option maxRecDepth 100000 in
theorem ys_200 {S : zq_S} {L : List Int} {x : Int} (hx : -1000000 < x ∧ x < 1000000) (hw : ynw S L) (hb : L.length + 7 ≤ 6500) {K : zq_S → Prop} (k : ∀ s', ynw s' (L ++ ye_num x) → ynf S s' → K s') : zq_Ex X 200 0 [.ref 232, zq_vi x] [] S (zq_rv K) := by
  have hn := ye_num_len x
  refine zw_200 ⟨by omega, by omega⟩ (ys_168 (l := []) hx ⟨by rw [zq_i_si, if_pos ⟨rfl, rfl⟩]; rfl, fun i hi => by simp at hi⟩ (by simp) (fun s1 h1 g1 => zw_201 ?_))
  have g0 : ynf S s1 := ⟨(ymf.sf (j := 23) (by simp)).trans (g1.mono (by simp) (by simp)), fun _ => by rw [h1.1, List.nil_append]; omega⟩
  refine ys_201_2 (S := s1) (W := ye_num x) h1 (by omega) (fun s' a b => k s' a (g0.trans b)) (ye_num x) 0 s1 L (ymf.refl _ _ _) ?_ ⟨[], rfl, rfl⟩ (ye_num_ch hx) rfl (by omega)
  refine ⟨?_, fun i hi => ?_⟩
  · rw [g1.f (j := 7) (by simp), zq_i_si, if_neg (by simp)]
    exact hw.1
  · rw [g1.i (b := 236) (by simp) (by decide), zq_i_si, if_neg (by simp)]
    exact hw.2 i hi
set_option maxRecDepth 100000 in
theorem ys_199 {S : zq_S} {L : List Int} {x y : Int} (hx : 0 ≤ x ∧ x ≤ 9) (hy : 0 ≤ y ∧ y ≤ 9) (hw : ynw S L) (hb : L.length + 5 ≤ 6500) {K : zq_S → Prop} (k : ∀ s', ynw s' (L ++ [48 + x, 32, 48 + y, 32, 82]) → ynf S s' → K s') : zq_Ex X 199 0 [.ref 232, zq_vi x, zq_vi y] [] S (zq_rv K) := by
  refine zw_199 ⟨by omega, by omega⟩ ⟨by omega, by omega⟩ (yn_195 (yn_d hx).1 hw (by omega) (fun s1 h1 g1 => yn_195 (by decide) h1 (by simp; omega) (fun s2 h2 g2 => yn_195 (yn_d hy).1 h2 (by simp; omega) (fun s3 h3 g3 => yn_195 (by decide) h3 (by simp; omega) (fun s4 h4 g4 => yn_195 (by decide) h4 (by simp; omega) (fun s5 h5 g5 => k s5 ?_ (g1.trans (g2.trans (g3.trans (g4.trans g5))))))))))
  rw [(yn_d hx).2, (yn_d hy).2] at h5
  simp only [List.append_assoc, List.cons_append, List.nil_append] at h5
  exact h5
set_option maxRecDepth 100000 in
theorem yn_nf {S : zq_S} {L : List Int} {o : Int} {kb : Bool} (o0 : 0 ≤ o ∧ o < 10) (hk : kb = true ↔ zq_i S 237 o ≠ 0 ∧ zq_i S 255 o ≠ 0) (hw : ynw S L) (hl : L.length + 2 ≤ 6500) {K : zq_S → Prop} (k : ∀ s', ynw s' (L ++ (if kb = true then [110, 10] else [102, 10])) → ynf S s' → K s') : (((0 : Int) ≤ o ∧ o < (10 : Int)) ∧ (if zq_i S (237) (o) = 0 then (zq_Ex X 195 0 [(.ref (232)), (zq_vi (102))] [] S (zq_rv fun s_8 => (zq_Ex X 195 0 [(.ref (232)), (zq_vi (10))] [] s_8 (zq_rv fun s_9 => K s_9)))) else (((0 : Int) ≤ o ∧ o < (10 : Int)) ∧ (if zq_i S (255) (o) = 0 then (zq_Ex X 195 0 [(.ref (232)), (zq_vi (102))] [] S (zq_rv fun s_12 => (zq_Ex X 195 0 [(.ref (232)), (zq_vi (10))] [] s_12 (zq_rv fun s_13 => K s_13)))) else (zq_Ex X 195 0 [(.ref (232)), (zq_vi (110))] [] S (zq_rv fun s_14 => (zq_Ex X 195 0 [(.ref (232)), (zq_vi (10))] [] s_14 (zq_rv fun s_15 => K s_15)))))))) := by
  have two : ∀ c, zq_ch c → (if kb = true then [110, 10] else [102, 10]) = [c, (10 : Int)] → zq_Ex X 195 0 [(.ref (232)), (zq_vi c)] [] S (zq_rv fun s_8 => (zq_Ex X 195 0 [(.ref (232)), (zq_vi (10))] [] s_8 (zq_rv fun s_9 => K s_9))) := fun c hc e => yn_195 hc hw (by omega) (fun s1 h1 g1 => yn_195 (by decide) h1 (by simp; omega) (fun s2 h2 g2 => k s2 (by
    rw [e]
    simp only [List.append_assoc, List.cons_append, List.nil_append] at h2
    exact h2) (g1.trans g2)))
  refine ⟨o0, yl_if (fun hz => two _ (by decide) ?_) (fun hz => ⟨o0, yl_if (fun hy => two _ (by decide) ?_) (fun hy => two _ (by decide) ?_)⟩)⟩
  · rw [if_neg (fun z => (hk.mp z).1 hz)]
  · rw [if_neg (fun z => (hk.mp z).2 hy)]
  · rw [if_pos (hk.mpr ⟨hz, hy⟩)]
set_option maxRecDepth 100000 in
theorem ynf_k {S S' : zq_S} {o : Int} {kb : Bool} (f : ynf S S') (hk : kb = true ↔ zq_i S 237 o ≠ 0 ∧ zq_i S 255 o ≠ 0) : kb = true ↔ zq_i S' 237 o ≠ 0 ∧ zq_i S' 255 o ≠ 0 := by
  rw [f.i (b := 237) (by simp) (by decide), f.i (b := 255) (by simp) (by decide)]
  exact hk
set_option maxRecDepth 100000 in
theorem ys_198_127 {S : zq_S} {L : List Int} {o : Int} {kb : Bool} (o0 : 0 ≤ o ∧ o < 10) (hk : kb = true ↔ zq_i S 237 o ≠ 0 ∧ zq_i S 255 o ≠ 0) (hg : 0 ≤ zq_i S 238 o ∧ zq_i S 238 o ≤ 9) (hw : ynw S L) (hl : L.length + 4 ≤ 6500) {x2 x3 : Int} {v4 : Value} (h2 : zq_iv x2) (h3 : zq_bo x3) (h4 : v4.category = 1) {K : zq_S → Prop} (k : ∀ s', ynw s' (L ++ ([48 + zq_i S 238 o] ++ (if kb = true then yX_n else yX_f))) → ynf S s' → K s') : zq_Ex X 198 127 [.ref 232, zq_vi o, zq_vi x2, zq_vi x3, v4] [] S (zq_rv K) := by
  refine zw_198_127 ⟨by omega, by omega⟩ h2 h3 h4 ⟨o0, yn_195 (yn_d hg).1 hw (by omega) (fun s1 h1 g1 => yn_195 (by decide) h1 (by simp; omega) (fun s2 h2 g2 => yn_nf o0 (ynf_k (g1.trans g2) hk) h2 (by simp; omega) (fun s3 h3 g3 => k s3 ?_ (g1.trans (g2.trans g3)))))⟩
  rw [(yn_d hg).2] at h3
  cases kb
  · simp only [List.append_assoc, List.cons_append, List.nil_append] at h3 ⊢
    exact h3
  · simp only [List.append_assoc, List.cons_append, List.nil_append] at h3 ⊢
    exact h3
set_option maxRecDepth 100000 in
theorem yn_up {S : zq_S} {L : List Int} {o : Int} {kb : Bool} (o0 : 0 ≤ o ∧ o < 10) (hk : kb = true ↔ zq_i S 237 o ≠ 0 ∧ zq_i S 255 o ≠ 0) {G : Int} (hg : 0 ≤ G ∧ G ≤ 9) (hw : ynw S L) (hl : L.length + 4 ≤ 6500) {K : zq_S → Prop} (k : ∀ s', ynw s' (L ++ ([48 + G] ++ (if kb = true then yX_n else yX_f))) → ynf S s' → K s') : (zq_Ex X 195 0 [(.ref (232)), (zq_vi ((48 + G) % 65536))] [] S (zq_rv fun s_13 => (zq_Ex X 195 0 [(.ref (232)), (zq_vi (32))] [] s_13 (zq_rv fun s_14 => (((0 : Int) ≤ o ∧ o < (10 : Int)) ∧ (if zq_i s_14 (237) (o) = 0 then (zq_Ex X 195 0 [(.ref (232)), (zq_vi (102))] [] s_14 (zq_rv fun s_18 => (zq_Ex X 195 0 [(.ref (232)), (zq_vi (10))] [] s_18 (zq_rv fun s_19 => K s_19)))) else (((0 : Int) ≤ o ∧ o < (10 : Int)) ∧ (if zq_i s_14 (255) (o) = 0 then (zq_Ex X 195 0 [(.ref (232)), (zq_vi (102))] [] s_14 (zq_rv fun s_22 => (zq_Ex X 195 0 [(.ref (232)), (zq_vi (10))] [] s_22 (zq_rv fun s_23 => K s_23)))) else (zq_Ex X 195 0 [(.ref (232)), (zq_vi (110))] [] s_14 (zq_rv fun s_24 => (zq_Ex X 195 0 [(.ref (232)), (zq_vi (10))] [] s_24 (zq_rv fun s_25 => K s_25)))))))))))) := by
  refine yn_195 (yn_d hg).1 hw (by omega) (fun s1 h1 g1 => yn_195 (by decide) h1 (by simp; omega) (fun s2 h2 g2 => yn_nf o0 (ynf_k (g1.trans g2) hk) h2 (by simp; omega) (fun s3 h3 g3 => k s3 ?_ (g1.trans (g2.trans g3)))))
  rw [(yn_d hg).2] at h3
  cases kb
  · simp only [List.append_assoc, List.cons_append, List.nil_append] at h3 ⊢
    exact h3
  · simp only [List.append_assoc, List.cons_append, List.nil_append] at h3 ⊢
    exact h3
set_option maxRecDepth 100000 in
theorem ys_198 {S : zq_S} {L : List Int} {o : Int} {kb : Bool} (o0 : 0 ≤ o ∧ o < 10) (hk : kb = true ↔ zq_i S 237 o ≠ 0 ∧ zq_i S 255 o ≠ 0) (hg : 0 ≤ zq_i S 238 o ∧ zq_i S 238 o ≤ 9) (hP : kb = true → 0 ≤ zq_i S 251 o ∧ zq_i S 251 o < 6500) (hw : ynw S L) (hl : L.length + 8 ≤ 6500) {K : zq_S → Prop} (k : ∀ s', ynw s' (L ++ (yd3 (if kb = true then zq_i S 251 o else 0) ++ ([32, 48 + yw_g (decide (zq_i S 237 o ≠ 0)) kb (zq_i S 238 o)] ++ (if kb = true then yX_n else yX_f)))) → ynf S s' → K s') : zq_Ex X 198 0 [.ref 232, zq_vi o, zz_no, zz_no, zz_no] [] S (zq_rv K) := by
  have no : kb = false → zq_Ex X 198 27 [.ref 232, zq_vi o, zz_no, zz_no, zz_no] [] S (zq_rv K) := fun hkb => by
    subst hkb
    have z := yd3_d (x := 0) (by decide) (by decide)
    refine zw_198_27 ⟨by omega, by omega⟩ rfl rfl rfl (yn_195 (yn_d z.1).1 hw (by omega) (fun s1 h1 g1 => yn_195 (yn_d z.2.1).1 h1 (by simp; omega) (fun s2 h2 g2 => yn_195 (yn_d z.2.2).1 h2 (by simp; omega) (fun s3 h3 g3 => yn_195 (by decide) h3 (by simp; omega) (fun s4 h4 g4 => ⟨o0, ?_⟩)))))
    have f4 : ynf S s4 := g1.trans (g2.trans (g3.trans g4))
    have hk4 := ynf_k f4 hk
    have e7 : zq_i s4 237 = zq_i S 237 := f4.i (by simp) (by decide)
    have e8 : zq_i s4 238 = zq_i S 238 := f4.i (by simp) (by decide)
    have e5 : zq_i s4 255 = zq_i S 255 := f4.i (by simp) (by decide)
    rw [(yn_d z.1).2, (yn_d z.2.1).2, (yn_d z.2.2).2] at h4
    have hlen : ((((L ++ [48 + zq_rem (zq_div 0 100) 10]) ++ [48 + zq_rem (zq_div 0 10) 10]) ++ [48 + zq_rem 0 10]) ++ [32]).length = L.length + 4 := by simp
    have fin : ∀ (G : Int) (s' : zq_S), G = yw_g (decide (zq_i S 237 o ≠ 0)) false (zq_i S 238 o) → ynw s' (((((L ++ [48 + zq_rem (zq_div 0 100) 10]) ++ [48 + zq_rem (zq_div 0 10) 10]) ++ [48 + zq_rem 0 10]) ++ [32]) ++ ([48 + G] ++ (if false = true then yX_n else yX_f))) → ynf s4 s' → K s' := fun G s' eG h g => k s' (by
      rw [eG] at h
      simp only [yd3, List.append_assoc, List.cons_append, List.nil_append] at h ⊢
      exact h) (f4.trans g)
    rw [e7, e5]
    refine yl_if (fun hz => ?_) (fun hz => ⟨o0, ?_⟩)
    · refine ys_198_127 o0 hk4 (by rw [e8]; exact hg) h4 (by omega) ⟨by omega, by omega⟩ (Or.inl rfl) rfl (fun s' h g => fin _ s' ?_ h g)
      rw [e8]
      unfold yw_g
      rw [if_neg]
      rintro ⟨z1, _⟩
      exact of_decide_eq_true z1 hz
    · have hf : zq_i S 255 o = 0 := Classical.byContradiction fun z => by
        have := hk.mpr ⟨hz, z⟩
        cases this
      rw [if_pos hf, e8]
      have eg : yw_g (decide (zq_i S 237 o ≠ 0)) false (zq_i S 238 o) = if zq_i S 238 o + 1 ≤ 9 then zq_i S 238 o + 1 else 9 := by
        unfold yw_g
        rw [if_pos ⟨decide_eq_true hz, rfl⟩]
      refine ⟨o0, yl_if (fun h9 => ⟨o0, ?_⟩) (fun h9 => ?_)⟩
      · rw [if_pos (by omega)] at eg
        exact yn_up o0 hk4 ⟨by omega, by omega⟩ h4 (by omega) (fun s' h g => fin _ s' eg.symm h g)
      · rw [if_neg (by omega)] at eg
        refine ys_198_127 o0 hk4 (by rw [e8]; exact hg) h4 (by omega) ⟨by omega, by omega⟩ (Or.inr rfl) rfl (fun s' h g => fin _ s' ?_ h g)
        rw [e8, eg]
        omega
  refine zw_198 ⟨by omega, by omega⟩ ⟨o0, yl_if (fun hz => no ?_) (fun hz => ⟨o0, yl_if (fun hy => no ?_) (fun hy => ?_)⟩)⟩
  · cases kb
    · rfl
    · exact absurd hz (hk.mp rfl).1
  · cases kb
    · rfl
    · exact absurd hy (hk.mp rfl).2
  · have hkb : kb = true := hk.mpr ⟨hz, hy⟩
    subst hkb
    have hP := hP rfl
    have z := yd3_d (x := zq_i S 251 o) hP.1 (by omega)
    refine ⟨o0, yn_195 (yn_d z.1).1 hw (by omega) (fun s1 h1 g1 => yn_195 (yn_d z.2.1).1 h1 (by simp; omega) (fun s2 h2 g2 => yn_195 (yn_d z.2.2).1 h2 (by simp; omega) (fun s3 h3 g3 => yn_195 (by decide) h3 (by simp; omega) (fun s4 h4 g4 => ⟨o0, ?_⟩))))⟩
    have f4 : ynf S s4 := g1.trans (g2.trans (g3.trans g4))
    have hk4 := ynf_k f4 hk
    have e7 : zq_i s4 237 = zq_i S 237 := f4.i (by simp) (by decide)
    have e8 : zq_i s4 238 = zq_i S 238 := f4.i (by simp) (by decide)
    have e5 : zq_i s4 255 = zq_i S 255 := f4.i (by simp) (by decide)
    rw [(yn_d z.1).2, (yn_d z.2.1).2, (yn_d z.2.2).2] at h4
    rw [e7, e5, if_neg hz, if_neg hy]
    refine ⟨o0, ys_198_127 o0 hk4 (by rw [e8]; exact hg) h4 (by simp; omega) ⟨by omega, by omega⟩ (Or.inl rfl) rfl (fun s' h g => k s' ?_ (f4.trans g))⟩
    rw [e8] at h
    have eg : yw_g (decide (zq_i S 237 o ≠ 0)) true (zq_i S 238 o) = zq_i S 238 o := by
      unfold yw_g
      rw [if_neg (fun z => by cases z.2)]
    rw [eg, if_pos rfl]
    simp only [yd3, List.append_assoc, List.cons_append, List.nil_append] at h ⊢
    exact h
end YLE0
