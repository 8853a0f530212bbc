/-! the law's case save -/
set_option maxRecDepth 100000 in
theorem yI.ysv {s : zq_S} {dr fl : List Int} {ev : Nat → List ye_E} {ct : Nat → List Int} {F t : Nat} (hI : yI s (dr, fl, ev, ct, F, t)) : ysv s ev ct := by
  refine ⟨hI.2.2.2.2.2.2.2, hI.yz_R, hI.2.2.2.2.2.2.1.2.2.1, fun o o1 o9 => ?_⟩
  have f2 : t = 27 ∨ t = 126 := hI.2.1.2.1
  have a4 : yI_tab s t ev ct := hI.2.2.2.1
  obtain ⟨d1, d2, d3, d4, d5, d6⟩ := a4 o o1 o9
  obtain ⟨p1, p2, p3, p4, p5, p6, p7, p8, p9⟩ := yk_sl f2 o1 o9
  rw [d4] at d5
  refine ⟨d5, fun hu => ?_⟩
  have hu1 : zq_i s (ysl t o) 0 = 1 := by
    rcases d1.1 with w | w
    · rw [d2] at w; exact absurd w hu
    · exact w
  obtain ⟨_, e3, e4, e5, e6, e7⟩ := d6 hu1
  have h500 := hI.2.2.2.2.2.2.2.2.2.2.2 o (by omega) (by omega)
  have st : zq_i s 242 o ≠ 0 → zq_i s (ysl t o) 2 = 1 := fun hz => by
    rcases d1.2.2 with w | w
    · rw [e6] at w; exact absurd w hz
    · exact w
  have hoks : ye_oks (ev o) := e3.2.1.oks
  refine ⟨e3, fun hz => ?_, d5, e4, by omega, e5, fun c hc => ?_, fun hz => ?_⟩
  · obtain ⟨q1, _, _, q4, _⟩ := e7 (st hz)
    exact ⟨q1, by rw [q4]; omega⟩
  · have := ye_pr_ch (ev o) true hoks c hc
    exact ⟨by omega, by omega⟩
  · obtain ⟨q1, ⟨v, q2⟩, q3, q4, q5⟩ := e7 (st hz)
    have hl := q2.2.1
    rw [p2] at hl
    exact ⟨q4, hl, q5, fun c hc => by have := q3 c hc; exact ⟨by omega, by omega⟩⟩
set_option maxRecDepth 100000 in
theorem yI.file_t {s : zq_S} {dr fl : List Int} {ev : Nat → List ye_E} {ct : Nat → List Int} {F t : Nat} (hI : yI s (dr, fl, ev, ct, F, t)) : ym_c s 1 = yc_t s F ∧ zq_i s 232 3 = zq_i s F 1 := by
  obtain ⟨_, _, _, _, ⟨v, hfx⟩, hfc, h3, hr⟩ := hI.1
  have hfx : yx s F (fl, v) := hfx
  have h3 : zq_i s 232 3 = fl.length := h3
  have hr : yrow s 234 0 fl := hr
  have h1 : zq_i s F 1 = fl.length := hfx.1
  refine ⟨?_, by rw [h3, h1]⟩
  funext j
  unfold ym_c yc_t
  rw [h3, h1]
  by_cases hj : j < 0
  · rw [if_pos hj, if_neg (by omega)]
  · rw [if_neg hj, if_neg (by decide), if_pos rfl]
    by_cases hl : j < (fl.length : Int)
    · rw [if_pos hl, if_pos ⟨by omega, hl⟩]
      obtain ⟨i, hi⟩ : ∃ i : Nat, j = i := ⟨j.toNat, by omega⟩
      subst hi
      have e1 := hr i (by omega)
      rw [show (0 : Int) + (i : Int) = i by omega] at e1
      have e2 := hfx.2.2.2 i (by show i < fl.length; omega)
      rw [e1]
      exact e2.symm
    · rw [if_neg hl, if_neg (fun z => hl z.2)]
set_option maxRecDepth 100000 in
theorem yI.saved2 {s S0 S1 S2 S3 D R : zq_S} {dr fl W : List Int} {ev : Nat → List ye_E} {ct : Nat → List Int} {F t : Nat} {rl : Nat → Bool} {x : Int64} (hI : yI s (dr, fl, ev, ct, F, t)) (hWc : ∀ c ∈ W, yp_isC c = true) (hW : W.length ≤ 999) (f0 : yz_fr s S0) (g1 : yf [48 - F, 48 - F + 1, 22] S0 S1) (hw : yx S1 (48 - F) (W, 0)) (h2 : yst S1 S2 t rl 10) (h3 : ysu S2 S3 t 10) (hD : ymf2 [0, 7, 23, 47, 48] [236, 245, 251, 254, 255] (zq_sl (zq_sr (zq_sr (zq_sr S3 0 6 (some (48 - F))) 0 7 (some F)) 3 0 none) 259 0 x) D) (hR : yset2 D R rl W) : yI R (dr, W, ev, ct, 48 - F, t) := by
  have f1 : F = 23 ∨ F = 25 := hI.2.1.1
  have f2 : t = 27 ∨ t = 126 := hI.2.1.2.1
  have a4 : yI_tab s t ev ct := hI.2.2.2.1
  have h23 : zq_i s 232 23 ≤ 700 := hI.2.2.2.2.2.2.2.2.2.2.1
  obtain ⟨R1, R2, R3, R4, R5, R6⟩ := hR
  have slb : ∀ o : Nat, 1 ≤ o → o ≤ 9 → 36 ≤ ysl t o ∧ ysl t o < 232 := fun o o1 o9 => by unfold ysl; omega
  have eC : ∀ b, zq_i (zq_sl (zq_sr (zq_sr (zq_sr S3 0 6 (some (48 - F))) 0 7 (some F)) 3 0 none) 259 0 x) b = zq_i S3 b := fun b => rfl
  -- R against S3, below 232
  have r3 : ∀ b (j : Int), b < 232 → zq_i R b j = zq_i S3 b j := fun b j hb => by
    rw [R2 b j (by omega) (fun z => by omega) (fun z => by simp at z; omega), hD.i (by simp; omega) (by omega), eC]
  have s1 : ∀ b, b ≠ 4 → b ≠ 22 → b ≠ 48 - F → b ≠ 48 - F + 1 → zq_i S1 b = zq_i s b := fun b n1 n2 n3 n4 => by
    rw [g1.i (by simp; omega), f0.1 b n1]
  -- S3 against S1 where no slot is
  have s3 : ∀ b, (∀ o : Nat, 1 ≤ o → o ≤ 9 → b ≠ ysl t o) → zq_i S3 b = zq_i S1 b := fun b hb => by
    funext j
    rw [h3.2.1 b j (fun o o1 o2 z => absurd z (hb o o1 (by omega))), h2.2.1 b j (fun o o1 o2 z => absurd z (hb o o1 (by omega)))]
  have up : ∀ b, 232 ≤ b → zq_i (zq_sl (zq_sr (zq_sr (zq_sr S3 0 6 (some (48 - F))) 0 7 (some F)) 3 0 none) 259 0 x) b = zq_i s b := fun b hb => by
    rw [eC, s3 b (fun o o1 o9 z => by have := slb o o1 o9; omega), s1 b (by omega) (by omega) (by omega) (by omega)]
  have upD : ∀ b, 232 < b → b ∉ [236, 245, 251, 254, 255] → zq_i D b = zq_i s b := fun b hb hn => by
    rw [hD.i hn (by omega), up b (by omega)]
  have rD : zq_r D = zq_r (zq_sl (zq_sr (zq_sr (zq_sr S3 0 6 (some (48 - F))) 0 7 (some F)) 3 0 none) 259 0 x) := hD.1.r
  have lD : zq_l D = zq_l (zq_sl (zq_sr (zq_sr (zq_sr S3 0 6 (some (48 - F))) 0 7 (some F)) 3 0 none) 259 0 x) := hD.1.l
  have rR : zq_r R = zq_r D := by unfold zq_r; rw [R3]
  have lR : zq_l R = zq_l D := by unfold zq_l; rw [R3]
  have r03 : zq_r S3 = zq_r S1 := by unfold zq_r; rw [h3.2.2, h2.2.2]
  have l03 : zq_l S3 = zq_l S1 := by unfold zq_l; rw [h3.2.2, h2.2.2]
  have r01 : zq_r S1 = zq_r S0 := g1.r
  have l01 : zq_l S1 = zq_l S0 := g1.l
  refine yI.saved (s := s) (R := R) (rl := rl) hI hWc hW (fun b h1 h2' h3' h4 h5 h6 => ?_) (fun o o1 o9 => ?_) ?_ R4 R5 (fun j hj => ?_) ?_ R6 (fun o o1 o9 => ?_) ?_ (fun b hb => ?_) ?_ ?_ ?_ (fun b j n1 n2 n3 => ?_) (fun b hb => ?_)
  · funext j
    rw [r3 b j h1, s3 b h6, s1 b h2' h3' h4 h5]
  · obtain ⟨d1, d2, d3, d4, d5, d6⟩ := a4 o o1 o9
    have d4 : zq_i s (ysl t o) 3 = zq_i s 238 o := d4
    have hs := slb o o1 o9
    have e1 : zq_i S1 (ysl t o) = zq_i s (ysl t o) := s1 _ (by omega) (by omega) (by omega) (by omega)
    have e2 : ∀ j : Int, j ≠ 1 → zq_i S3 (ysl t o) j = zq_i S2 (ysl t o) j := fun j hj => h3.2.1 _ j (fun _ _ _ _ => hj)
    obtain ⟨w1, w2⟩ := h2.1 o o1 (by omega)
    rw [r3 _ 0 hs.2, r3 _ 1 hs.2, r3 _ 2 hs.2, r3 _ 3 hs.2, h3.1 o o1 (by omega), e2 0 (by decide), e2 2 (by decide), e2 3 (by decide)]
    refine ⟨rfl, fun hr => ?_, fun hr => ?_⟩
    · obtain ⟨u1, u2, u3⟩ := w1 hr
      refine ⟨u1, u2, ?_⟩
      rw [u3, e1, d4]
    · rw [w2 hr, e1]
      exact ⟨rfl, rfl, rfl⟩
  · have n1 : ∀ o : Nat, 1 ≤ o → o ≤ 9 → 48 - F ≠ ysl t o ∧ 48 - F + 1 ≠ ysl t o := fun o o1 o9 => by have := slb o o1 o9; omega
    refine hw.cong ?_ ?_
    · funext j
      rw [r3 _ j (by omega), s3 _ (fun o o1 o9 => (n1 o o1 o9).1)]
    · funext j
      rw [r3 _ j (by omega), s3 _ (fun o o1 o9 => (n1 o o1 o9).2)]
  · rw [R2 232 j (by decide) (fun _ => ?_) (fun z => by simp at z), hD.f (by simp at hj ⊢; omega), up 232 (by decide)]
    simp at hj
    omega
  · rw [R2 232 23 (by decide) (fun _ => by decide) (fun z => by simp at z)]
    exact hD.2 (by rw [up 232 (by decide)]; exact h23)
  · obtain ⟨w1, w2, w3⟩ := R1 o o1 (by omega)
    rw [upD 238 (by decide) (by decide), upD 237 (by decide) (by decide), upD 240 (by decide) (by decide), upD 242 (by decide) (by decide), upD 243 (by decide) (by decide)] at w3
    rw [upD 238 (by decide) (by decide)] at w2
    exact ⟨w1, w2, w3⟩
  · rw [R2 240 0 (by decide) (fun z => by cases z) (fun _ i i1 i2 => by omega), upD 240 (by decide) (by decide)]
  · have hb' : b = 233 ∨ b = 241 ∨ b = 244 ∨ b = 256 ∨ b = 257 ∨ b = 258 := by simp at hb; omega
    funext j
    rw [R2 b j (by omega) (fun z => by omega) (fun z => by simp at z; omega), upD b (by omega) (by simp; omega)]
  · rw [rR, rD, zq_r_sl, zq_r_sr, if_neg (by decide), zq_r_sr, if_neg (by decide), zq_r_sr, if_pos ⟨rfl, rfl⟩]
  · rw [rR, rD, zq_r_sl, zq_r_sr, if_neg (by decide), zq_r_sr, if_pos ⟨rfl, rfl⟩]
  · rw [rR, rD, zq_r_sl, zq_r_sr, if_pos ⟨rfl, rfl⟩]
  · rw [rR, rD, zq_r_sl, zq_r_sr, if_neg (fun z => n1 z.1), zq_r_sr, if_neg (fun z => (n3 z.1).2 z.2), zq_r_sr, if_neg (fun z => (n3 z.1).1 z.2), r03, r01, f0.2.1 b n2]
  · rw [lR, lD]
    funext j
    rw [zq_l_sl, if_neg (fun z => hb z.1), zq_l_sr, zq_l_sr, zq_l_sr, l03, l01, f0.2.2.1]
section YLF1
variable {X : Nat × (Nat → Int32)}
set_option maxRecDepth 100000 in
theorem ys_185c {s C : zq_S} {dr fl : List Int} {ev : Nat → List ye_E} {ct : Nat → List Int} {F t : Nat} (hI : yI s (dr, fl, ev, ct, F, t)) (hC : ∀ b, 232 ≤ b → zq_i C b = zq_i s b) {x1 : Int} (b1 : zq_bo x1) {lm km : Nat} (hlm : lm = ylm s x1) (hkm : km = ykm s ev x1) {rl : Nat → Bool} (hrl : ∀ n : Nat, 1 ≤ n → n ≤ 9 → (rl n = true ↔ x1 ≠ 0 ∧ zq_i s 237 n ≠ 0 ∧ km.testBit n = false)) {pre : List Int} (hpre : pre = if x1 = 0 then fl else yX_pa) {tl : Int} (htl : tl = if x1 = 0 then yp_tl (yc_t s F) (zq_i s F 1 - 7) else -1) {K : Int → zq_S → Prop}
    (kbad : (zq_i s 232 17 = 0 ∨ (x1 = 0 ∧ tl < 0) ∨ ∃ n : Nat, 1 ≤ n ∧ n ≤ 9 ∧ km.testBit n = true ∧ ¬ ylok s ev n) → ∀ S', ymf [47, 48] [254, 255] C S' → K 0 (zq_si S' 232 0 1))
    (kover : ¬ (zq_i s 232 17 = 0 ∨ (x1 = 0 ∧ tl < 0) ∨ ∃ n : Nat, 1 ≤ n ∧ n ≤ 9 ∧ km.testBit n = true ∧ ¬ ylok s ev n) → 999 < (yW (fun l => (l.length : Int)) s ev ct lm km pre tl).length → ∀ S', ymf2 [7, 23, 47, 48] [236, 245, 251, 254, 255] C S' → K 0 (zq_si S' 232 0 2))
    (kok : ¬ (zq_i s 232 17 = 0 ∨ (x1 = 0 ∧ tl < 0) ∨ ∃ n : Nat, 1 ≤ n ∧ n ≤ 9 ∧ km.testBit n = true ∧ ¬ ylok s ev n) → (yW (fun l => (l.length : Int)) s ev ct lm km pre tl).length ≤ 999 → ∀ S1 S', ymf2 [0, 7, 23, 47, 48] [236, 245, 251, 254, 255] C S1 → zq_i S1 232 0 = 0 → yset2 S1 S' rl (yW (fun l => (l.length : Int)) s ev ct lm km pre tl) → K ((yW (fun l => (l.length : Int)) s ev ct lm km pre tl).length : Int) S') : zq_Ex X 185 0 [.ref 232, zq_vi x1, zz_no, zz_no, zz_no, zz_no, zz_no, zz_no] [] C (zq_rp zq_iv K) := by
  obtain ⟨t1, t2, t3, t4, t5, t6, t7, t8, t9, t10, t11, t12⟩ := hI.2.1
  obtain ⟨_, _, _, _, ⟨v, hfx⟩, hfc, h3, hr⟩ := hI.1
  have h3 : zq_i s 232 3 = fl.length := h3
  have hr : yrow s 234 0 fl := hr
  have hfc : ∀ c ∈ fl, yp_isC c = true := hfc
  have hmI : ym_I s := hI.2.2.2.2.2.2.2
  have h9 := hmI.2.1
  have c2 : zq_i C 232 = zq_i s 232 := hC 232 (by decide)
  have c7 : zq_i C 237 = zq_i s 237 := hC 237 (by decide)
  have c8 : zq_i C 238 = zq_i s 238 := hC 238 (by decide)
  have hmC : ym_I C := hmI.cong (fun j _ => by rw [c2]) (hC 240 (by decide))
  have lkc : ∀ n, ylok C ev n ↔ ylok s ev n := ylok_cong c7 c8 (hC 242 (by decide)) (hC 243 (by decide))
  have eW : yW (fun l => (l.length : Int)) C ev ct lm km pre tl = yW (fun l => (l.length : Int)) s ev ct lm km pre tl := yW_cong c7 c8 (hC 242 (by decide)) (by rw [c2]) (by rw [c2])
  have eb : (zq_i C 232 17 = 0 ∨ (x1 = 0 ∧ tl < 0) ∨ ∃ n : Nat, 1 ≤ n ∧ n ≤ 9 ∧ km.testBit n = true ∧ ¬ ylok C ev n) ↔ (zq_i s 232 17 = 0 ∨ (x1 = 0 ∧ tl < 0) ∨ ∃ n : Nat, 1 ≤ n ∧ n ≤ 9 ∧ km.testBit n = true ∧ ¬ ylok s ev n) := by
    rw [c2]
    constructor
    · rintro (z | z | ⟨n, n1, n9, nb, nl⟩)
      · exact Or.inl z
      · exact Or.inr (Or.inl z)
      · exact Or.inr (Or.inr ⟨n, n1, n9, nb, fun w => nl ((lkc n).mpr w)⟩)
    · rintro (z | z | ⟨n, n1, n9, nb, nl⟩)
      · exact Or.inl z
      · exact Or.inr (Or.inl z)
      · exact Or.inr (Or.inr ⟨n, n1, n9, nb, fun w => nl ((lkc n).mp w)⟩)
  have ey0 : yo0 C = yo0 s := by
    unfold yo0 ym_me ym_us
    rw [c2, c7, c8]
  have eyI : yoI C ev 9 (yo0 C) = yoI s ev 9 (yo0 s) := by rw [ey0, yoI_cong c7 c8]
  have eT : ym_c C 1 = yc_t s F := by
    rw [← hI.file_t.1]
    funext i
    unfold ym_c
    rw [c2, hC 234 (by decide)]
    rfl
  refine ys_185 (S := C) (ev := ev) (ct := ct) (fl := fl) (hI.ysv.cong hmC (fun b p1 p2 => hC b (by omega)) (hC 256 (by decide))) (hI.yo_R.cong c7 (hC 240 (by decide)) (hC 241 (by decide))) (by rw [c2]; exact t11) (by rw [c2]; exact t12) (by rw [c2]; exact h3) (by omega) (hr.cong (hC 234 (by decide))) (fun c hc => ?_) b1 (km := km) (lm := lm) (rl := rl) (fun hx n n1 n9 => ?_) (fun hx => ?_) (fun n n1 n9 => ?_) (by rw [hlm]; exact ylm_0 s x1) (fun n n1 n9 => ?_) hpre (tl := tl) ?_ (fun hb => kbad (eb.mp hb)) (fun hb hgt => ?_) (fun hb hle => ?_)
  · have h := hfc c hc
    unfold yp_isC at h
    have := of_decide_eq_true h
    exact ⟨by omega, by omega⟩
  · rw [hkm, c7, hC 239 (by decide)]
    exact ykm_0 hx n n1 n9
  · rw [hkm, eyI]
    unfold ykm
    rw [if_neg hx]
  · rw [hlm, hC 239 (by decide)]
    exact ylm_bit s x1 n n1 n9
  · rw [c7]
    exact hrl n n1 n9
  · rw [htl, eT, c2, hI.file_t.2]
  · rw [eW] at hgt
    exact kover (fun z => hb (eb.mpr z)) hgt
  · rw [eW] at hle ⊢
    exact kok (fun z => hb (eb.mpr z)) hle
end YLF1
