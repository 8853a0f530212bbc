/-! the law's case put -/
def yT (l : List Int) : Int → Int := fun j => if 0 ≤ j ∧ j < l.length then l.getD j.toNat 0 else 0
set_option maxRecDepth 100000 in
theorem yT_c {s : zq_S} {a : Nat} {l : List Int} {v : Int} (hx : yx s a (l, v)) : yc_t s a = yT l := funext fun j => yx_T hx
set_option maxRecDepth 100000 in
theorem yT_row {s : zq_S} {b : Nat} {l : List Int} {j : Int} (h : yrow s b 0 l) (h0 : 0 ≤ j) : (if j < l.length then zq_i s b j else 0) = yT l j := by
  unfold yT
  by_cases h1 : j < l.length
  · rw [if_pos h1, if_pos ⟨h0, h1⟩]
    have := h j.toNat (by omega)
    rw [show (0 : Int) + ((j.toNat : Nat) : Int) = j by omega] at this
    exact this
  · rw [if_neg h1, if_neg (fun z => h1 z.2)]
set_option maxRecDepth 100000 in
theorem yT_m {s : zq_S} {l : List Int} (h : zq_i s 232 1 = l.length) (hr : yrow s 233 0 l) : ym_c s 0 = yT l := by
  funext j
  unfold ym_c
  by_cases h0 : j < 0
  · rw [if_pos h0]
    unfold yT
    rw [if_neg (by omega)]
  · rw [if_neg h0, if_pos rfl, h]
    exact yT_row hr (by omega)
set_option maxRecDepth 100000 in
theorem yT_C {l : List Int} (h : ∀ c ∈ l, yp_isC c = true) : yp_C (yT l) := fun j => by
  unfold yT
  by_cases h1 : 0 ≤ j ∧ j < l.length
  · rw [if_pos h1]
    exact Or.inr (h _ (yl_getD (by omega)))
  · rw [if_neg h1]
    exact Or.inl rfl
set_option maxRecDepth 100000 in
theorem yT_T {l : List Int} (h : l.length ≤ 999) : yp_T (yT l) := fun j hj => by
  unfold yT
  rw [if_neg (by omega)]
/-- what the class leaves when a draft has been read -/
def yP (s s' : zq_S) (tr : Nat) (w : Int) : Prop := (∀ b, b ∉ [0, 1, 2] → b ∉ yc_A 5 tr → zq_i s' b = zq_i s b) ∧ (∀ j, j ≠ 11 → zq_i s' 0 j = zq_i s 0 j) ∧ zq_i s' 0 11 = w ∧ yx s' 1 ([], 0) ∧ (∀ b, b ≠ 5 → zq_r s' b = zq_r s b) ∧ (∀ b, b ∉ yc_A 5 tr → zq_l s' b = zq_l s b) ∧ zq_n s' = zq_n s
set_option maxRecDepth 100000 in
theorem yP_of {s s' s2 : zq_S} {tr : Nat} {w : Int} (e : ycg 5 tr s s') (f : yf [1, 2] s' s2) (hx : yx s2 1 ([], 0)) (htr : 29 < tr) : yP s (zq_si s2 0 11 w) tr w := by
  refine ⟨fun b b1 b2 => ?_, fun j hj => ?_, zq_i_at _ _ _ _, hx.cong ?_ ?_, fun b hb => ?_, fun b hb => ?_, ?_⟩
  · funext j
    rw [zq_i_si, if_neg (fun z => b1 (by rw [z.1]; simp)), f.i (by simp at b1 ⊢; omega), (e.1 b b2).1]
  · rw [zq_i_si, if_neg (fun z => hj z.2), f.i (b := 0) (by decide), (e.1 0 (by simp; omega)).1]
  · funext j
    rw [zq_i_si, if_neg (fun z => absurd z.1 (by decide))]
  · funext j
    rw [zq_i_si, if_neg (fun z => absurd z.1 (by decide))]
  · show zq_r s2 b = zq_r s b
    rw [f.r, e.2.1 b hb]
  · show zq_l s2 b = zq_l s b
    rw [f.l, (e.1 b hb).2]
  · show zq_n s2 = zq_n s
    rw [f.n, e.2.2.1]
/-- a draft fails at a place -/
def yp_bad (dr : List Int) (r : yr_S ⊕ Int) (w : Int) : Prop := r = .inr w ∨ ∃ S', r = .inl S' ∧ yp_sk (yT dr) S'.1 < dr.length ∧ w = yp_sk (yT dr) S'.1
set_option maxRecDepth 100000 in
theorem yp_bad.eq {dr : List Int} {r : yr_S ⊕ Int} {w w' : Int} (h : yp_bad dr r w) (h' : yp_bad dr r w') : w = w' := by
  rcases h with h | ⟨S, h, h1, h2⟩
  · rcases h' with g | ⟨S, g, _⟩
    · rw [h] at g; exact Sum.inr.inj g
    · rw [h] at g; cases g
  · rcases h' with g | ⟨S', g, g1, g2⟩
    · rw [h] at g; cases g
    · rw [h] at g
      have e : S = S' := Sum.inl.inj g
      rw [h2, g2, e]
set_option maxRecDepth 100000 in
theorem yp_bad.no {dr : List Int} {r : yr_S ⊕ Int} {w : Int} {S : yr_S} (h : yp_bad dr r w) (h1 : r = .inl S) (h2 : ¬ yp_sk (yT dr) S.1 < dr.length) : False := by
  rcases h with h | ⟨S', h, g, _⟩
  · rw [h] at h1; cases h1
  · rw [h] at h1
    have e : S' = S := Sum.inl.inj h1
    rw [e] at g
    exact h2 g
/-- what the reference leaves when an object has been put -/
def yM (S S' : zq_S) (o : Nat) (l : List Int) : Prop := (∀ b (j : Int), b ≠ 232 → b ∉ ymr_A → (b ∈ [237, 239, 240, 242, 243] → j ≠ o) → (b = 241 → j < 500 * o ∨ 500 * o + 500 ≤ j) → zq_i S' b j = zq_i S b j) ∧ (∀ j, j ∉ [0, 1, 19, 21] → j ∉ ymr_J → zq_i S' 232 j = zq_i S 232 j) ∧ (zq_i S' 232 0 = 0 ∧ zq_i S' 232 1 = 0 ∧ zq_i S' 232 21 = -1 ∧ zq_i S' 232 19 = -1) ∧ (zq_i S' 237 o = 1 ∧ zq_i S' 239 o = 1 ∧ zq_i S' 240 o = l.length ∧ yrow S' 241 (500 * o) l ∧ zq_i S' 242 o = 0) ∧ S'.2 = S.2
section YLC4
variable {X : Nat × (Nat → Int32)}
set_option maxRecDepth 100000 in
theorem ys_170_2 {s : zq_S} {K : zq_S → Prop} {o : Nat} {l : List Int} (ho : o ≤ 9) (hm : ymd s l) (hl : l.length ≤ 500) (k : ∀ S', (∀ b (j : Int), (b = 240 → j ≠ o) → (b = 241 → j < 500 * o ∨ 500 * o + 500 ≤ j) → zq_i S' b j = zq_i s b j) → zq_i S' 240 o = l.length → yrow S' 241 (500 * o) l → S'.2 = s.2 → K S') : ∀ (n j : Nat) (S : zq_S), j + n = l.length → (∀ b (i : Int), (b = 241 → i < 500 * o ∨ 500 * o + j ≤ i) → zq_i S b i = zq_i s b i) → (∀ i : Nat, i < j → zq_i S 241 (500 * o + i) = l.getD i 0) → S.2 = s.2 → zq_Ex X 170 2 [.ref 232, zq_vi (o : Int), zq_vi (j : Int)] [] S (zq_rv K)
  | 0, j, S, hj, fr, hd, h2 => by
    refine zw_170_2 ⟨by omega, by omega⟩ ⟨by omega, by omega⟩ ?_
    have e23 : zq_i S 232 23 = l.length := by rw [fr 232 23 (fun z => by cases z)]; exact hm.1
    rw [if_neg (by rw [e23]; omega), e23]
    refine ⟨⟨by omega, by omega⟩, k _ (fun b i n1 n2 => ?_) (zq_i_at _ _ _ _) (fun i hi => ?_) h2⟩
    · rw [zq_i_si, if_neg (fun z => n1 z.1 z.2), fr b i (fun z => by have := n2 z; omega)]
    · rw [zq_i_si, if_neg (fun z => absurd z.1 (by decide))]
      exact hd i (by omega)
  | n + 1, j, S, hj, fr, hd, h2 => by
    refine zw_170_2 ⟨by omega, by omega⟩ ⟨by omega, by omega⟩ ?_
    have e23 : zq_i S 232 23 = l.length := by rw [fr 232 23 (fun z => by cases z)]; exact hm.1
    have e245 : zq_i S 245 j = l.getD j 0 := by rw [fr 245 j (fun z => by cases z)]; exact hm.2 j (by omega)
    rw [if_pos (by rw [e23]; omega), e245]
    refine ⟨⟨by omega, by omega⟩, ⟨by omega, by omega⟩, ?_⟩
    rw [show (j : Int) + 1 = ((j + 1 : Nat) : Int) by omega]
    refine ys_170_2 ho hm hl k n (j + 1) _ (by omega) (fun b i n1 => ?_) (fun i hi => ?_) h2
    · rw [zq_i_si, if_neg (fun z => by have := n1 z.1; have := z.2; omega), fr b i (fun z => by have := n1 z; omega)]
    · rw [zq_i_si]
      by_cases e : i = j
      · rw [if_pos ⟨rfl, by omega⟩, e]
      · rw [if_neg (fun z => e (by have := z.2; omega))]
        exact hd i (by omega)
set_option maxRecDepth 100000 in
theorem ys_170 {s : zq_S} {K : zq_S → Prop} {o : Nat} {l : List Int} (ho : o ≤ 9) (hm : ymd s l) (hl : l.length ≤ 500) (k : ∀ S', (∀ b (j : Int), (b = 240 → j ≠ o) → (b = 241 → j < 500 * o ∨ 500 * o + 500 ≤ j) → zq_i S' b j = zq_i s b j) → zq_i S' 240 o = l.length → yrow S' 241 (500 * o) l → S'.2 = s.2 → K S') : zq_Ex X 170 0 [.ref 232, zq_vi (o : Int), zz_no] [] s (zq_rv K) := zw_170 ⟨by omega, by omega⟩ (ys_170_2 ho hm hl k l.length 0 s (by omega) (fun _ _ _ => rfl) (fun i hi => by cases hi) rfl)
set_option maxRecDepth 100000 in
theorem yl_41 {s : zq_S} {dr fl : List Int} {ev : Nat → List ye_E} {ct : Nat → List Int} {F t : Nat} (hI : yI s (dr, fl, ev, ct, F, t)) {x : Int} (hxi : zq_iv x) (hn1 : zq_n s < 1000) {K : zq_S → Prop} {T : Nat → zq_S → Prop} {r : yr_S ⊕ Int} (hr : yr_read (yT dr) 0 = some r)
    (k1 : (x < 1 ∨ 9 < x) → T 12 (zq_sx s 12))
    (k2 : ∀ o : Nat, x = o → 1 ≤ o → o ≤ 9 → zq_i s 237 o = 0 → zq_i s 238 o = 9 → T 11 (zq_sx s 11))
    (k3 : ∀ (o tr : Nat) (s' : zq_S) (w : Int), x = o → 1 ≤ o → o ≤ 9 → ¬ (zq_i s 237 o = 0 ∧ zq_i s 238 o = 9) → zq_r s 0 10 = some tr → yP s s' tr w → yp_bad dr r w → T 10 (zq_sx s' 10))
    (k4 : ∀ (o tr old : Nat) (s' : zq_S) (S' : yr_S), x = o → 1 ≤ o → o ≤ 9 → ¬ (zq_i s 237 o = 0 ∧ zq_i s 238 o = 9) → zq_r s 0 10 = some tr → zq_r s (ysl t o) 4 = some old → yP s s' tr (-1) → r = .inl S' → ¬ yp_sk (yT dr) S'.1 < dr.length → yr_ok S' → S'.2.2.1 = [] → yt_tr s' tr 0 0 S'.2.1 → K (zq_sr (zq_sr (zq_si (zq_si (zq_si (zq_sr s' (ysl t o) 4 (some tr)) (ysl t o) 0 1) (ysl t o) 1 1) (ysl t o) 2 0) 0 10 (some old)) 3 0 none)) :
    zq_Ex X 41 0 [.ref 0, zq_vi x, zz_no, zz_no] [] s (zq_rx (zq_rv K) T) := by
  have f2 : t = 27 ∨ t = 126 := hI.2.1.2.1
  have t5 : zq_r s 0 8 = some t := hI.2.1.2.2.2.2.1
  have a3 : yI_tre s := hI.2.2.1
  have a4 : yI_tab s t ev ct := hI.2.2.2.1
  obtain ⟨⟨v, hx⟩, hc, b3, b4, _⟩ := hI.1
  have hx : yx s 1 (dr, v) := hx
  have hc : ∀ c ∈ dr, yp_isC c = true := hc
  obtain ⟨tr, j1, j2, j3, j4, j5⟩ := a3.spare
  have o1t : zq_o 1 1 := by decide +kernel
  have o5 : zq_o 3 5 := by decide +kernel
  have o3 : zq_o 2 3 := by decide +kernel
  have hT := yT_c hx
  have hsz : zq_i s 1 1 = dr.length := hx.1
  have hbt := yk_tree j2 ⟨j3, j4⟩
  refine zw_41 hxi ⟨t, t5, zw_42 (yk_t8 f2) hxi (yl_if (fun hx1 => ⟨fun _ => ⟨hn1, k1 (Or.inl hx1)⟩, fun b z => (by cases z)⟩) fun hx1 => yl_if (fun hx9 => ⟨⟨by omega, by omega⟩, fun z => (by cases z), fun b hbb => ?_⟩) (fun hx9 => ⟨fun _ => ⟨hn1, k1 (Or.inr (by omega))⟩, fun b z => (by cases z)⟩))⟩
  have hbb : t + 1 + 8 + 10 * (x - 1).toNat = b := Option.some.inj hbb
  obtain ⟨o, ho⟩ : ∃ o : Nat, x = o := ⟨x.toNat, by omega⟩
  have hsl : b = ysl t o := by unfold ysl; omega
  subst hsl
  have h1 : 1 ≤ o := by omega
  have h9 : o ≤ 9 := by omega
  obtain ⟨r1, r2, r3, r4, r5, r6, r7, r8, r9⟩ := yk_sl f2 h1 h9
  obtain ⟨d1, d2, d3, d4, d5, d6⟩ := a4 o h1 h9
  obtain ⟨old, q1, q2, q3⟩ := a3.slot f2 h1 h9
  have main : ¬ (zq_i s 237 o = 0 ∧ zq_i s 238 o = 9) → (∃ b_10 : Nat, zq_r s (0) 10 = some b_10 ∧ (zq_Ex X 43 0 [(.ref (5)), (.ref (1)), (.ref (b_10))] [] s (zq_rp zq_bo fun x_13 s_12 => (zq_Ex X 15 0 [(.ref (1))] [] s_12 (zq_rv fun s_15 => (if x_13 = 0 then (if x_13 = 0 then (zq_n (zq_si s_15 (0) (11) (zq_i s_15 (5) (5))) < 1000 ∧ T 10 (zq_sx (zq_si s_15 (0) (11) (zq_i s_15 (5) (5))) 10)) else (∃ b_20 : Nat, zq_r s_15 (0) 10 = some b_20 ∧ (zq_Ex X 70 0 [(.ref (ysl t o)), (.ref (b_20)), zz_no] [] (zq_si s_15 (0) (11) (zq_i s_15 (5) (5))) (zq_rr 4 fun o_23 s_22 => ((o_23 = none → (zq_Ex X 71 0 [(.ref (3))] [] (zq_sr s_22 (0) (10) (none)) (zq_rv fun s_26 => K s_26))) ∧ (∀ b_24 : Nat, o_23 = some b_24 → (zq_Ex X 71 0 [(.ref (3))] [] (zq_sr s_22 (0) (10) (some (b_24))) (zq_rv fun s_27 => K s_27)))))))) else (if x_13 = 0 then (zq_n (zq_si s_15 (0) (11) ((-1))) < 1000 ∧ T 10 (zq_sx (zq_si s_15 (0) (11) ((-1))) 10)) else (∃ b_30 : Nat, zq_r s_15 (0) 10 = some b_30 ∧ (zq_Ex X 70 0 [(.ref (ysl t o)), (.ref (b_30)), zz_no] [] (zq_si s_15 (0) (11) ((-1))) (zq_rr 4 fun o_33 s_32 => ((o_33 = none → (zq_Ex X 71 0 [(.ref (3))] [] (zq_sr s_32 (0) (10) (none)) (zq_rv fun s_36 => K s_36))) ∧ (∀ b_34 : Nat, o_33 = some b_34 → (zq_Ex X 71 0 [(.ref (3))] [] (zq_sr s_32 (0) (10) (some (b_34))) (zq_rv fun s_37 => K s_37)))))))))))))) := fun hno => by
    refine ⟨tr, j1, ys_43 o5 o1t j2 (hx.ok hc) (by rw [hT]; exact yT_C hc) (r := r) (by rw [hT]; exact hr) (fun s' w e1 e2 e3 => ?_) (fun s' S' e1 e2 e3 e4 => ?_) (fun s' S' e1 e2 e3 e4 e5 e6 e7 => ?_)⟩
    · refine ys_15 o1t fun s2 hx2 g2 => ?_
      have e5 : zq_i s2 5 5 = w := by rw [g2.i (by decide)]; exact e2
      rw [if_pos rfl, if_pos rfl, e5]
      have hP := yP_of (w := w) e3 g2 hx2 j3
      exact ⟨by rw [hP.2.2.2.2.2.2]; exact hn1, k3 o tr _ w ho h1 h9 hno j1 hP (Or.inl e1)⟩
    · refine ys_15 o1t fun s2 hx2 g2 => ?_
      rw [hT] at e2 e3
      rw [hsz] at e2
      have e5 : zq_i s2 5 5 = yp_sk (yT dr) S'.1 := by rw [g2.i (by decide)]; exact e3
      rw [if_pos rfl, if_pos rfl, e5]
      have hP := yP_of (w := yp_sk (yT dr) S'.1) e4 g2 hx2 j3
      exact ⟨by rw [hP.2.2.2.2.2.2]; exact hn1, k3 o tr _ _ ho h1 h9 hno j1 hP (Or.inr ⟨S', e1, e2, rfl⟩)⟩
    · refine ys_15 o1t fun s2 hx2 g2 => ?_
      rw [hT, hsz] at e2
      rw [if_neg (by decide), if_neg (by decide)]
      have hP := yP_of (w := -1) e7 g2 hx2 j3
      have htr : yt_tr s' tr 0 0 S'.2.1 := ⟨by rw [ye_nl_len]; omega, e6, by decide, by have := e3.2.2.2.2.1.2; omega⟩
      have htr2 : yt_tr (zq_si s2 0 11 (-1)) tr 0 0 S'.2.1 := htr.cong (fun q hq => by
        funext j
        rw [zq_i_si, if_neg (fun z => by have := z.1; simp at hq; omega), g2.i (by simp at hq ⊢; omega)]) (by show zq_l s2 _ = _; rw [g2.l])
      have hr10 : zq_r s2 0 10 = some tr := by rw [g2.r, e7.2.1 0 (by decide)]; exact j1
      have hr4 : zq_r (zq_si s2 0 11 (-1)) (ysl t o) 4 = some old := by
        show zq_r s2 (ysl t o) 4 = some old
        rw [g2.r, e7.2.1 (ysl t o) (by omega)]
        exact q1
      refine ⟨tr, hr10, zw_70 r1 j2 ⟨old, hr4, fun z => (by cases z), fun b hb => ?_⟩⟩
      have hb : old = b := Option.some.inj hb
      subst hb
      exact zw_71 o3 (k4 o tr old _ S' ho h1 h9 hno j1 q1 hP e1 e2 e3 e4 htr2)
  have d2 : zq_i s (ysl t o) 0 = zq_i s 237 o := d2
  have d4 : zq_i s (ysl t o) 3 = zq_i s 238 o := d4
  rw [d2, d4]
  exact yl_if (fun hu => yl_if (fun hg => ⟨hn1, k2 o ho h1 h9 hu hg⟩) (fun hg => main (fun z => hg z.2))) (fun hu => main (fun z => hu z.1))
set_option maxRecDepth 100000 in
theorem yl_144 {S : zq_S} {K : zq_S → Prop} {dr : List Int} {x : Int} (hxi : zq_iv x) (hmI : ym_I S) (hsz : zq_i S 232 1 = dr.length) (hrow : yrow S 233 0 dr) (hc : ∀ c ∈ dr, yp_isC c = true) {r : yr_S ⊕ Int} (hr : yr_read (yT dr) 0 = some r)
    (k1 : (x < 1 ∨ 9 < x) → K (zq_si S 232 0 1))
    (k2 : ∀ o : Nat, x = o → 1 ≤ o → o ≤ 9 → zq_i S 237 o = 0 → zq_i S 238 o = 9 → K (zq_si S 232 0 2))
    (k3 : ∀ (o : Nat) (S' : zq_S) (w : Int), x = o → 1 ≤ o → o ≤ 9 → ¬ (zq_i S 237 o = 0 ∧ zq_i S 238 o = 9) → yp_bad dr r w → ymf (0 :: 1 :: 21 :: ymr_J) ymr_A S S' → zq_i S' 232 0 = 3 → zq_i S' 232 1 = 0 → zq_i S' 232 21 = w → ym_I S' → K S')
    (k4 : ∀ (o : Nat) (S' : zq_S) (S1 : yr_S), x = o → 1 ≤ o → o ≤ 9 → ¬ (zq_i S 237 o = 0 ∧ zq_i S 238 o = 9) → r = .inl S1 → ¬ yp_sk (yT dr) S1.1 < dr.length → yr_ok S1 → S1.2.2.1 = [] → yM S S' o (ye_pr true S1.2.1) → ym_I S' → K S') :
    zq_Ex X 144 0 [.ref 232, zq_vi x, zz_no, zz_no] [] S (zq_rv K) := by
  have hq : ym_q 0 := ⟨by decide, by decide, Or.inl (by decide)⟩
  have hm0 : ym_I (zq_si S 232 0 0) := hmI.th 0
  have hT0 : ym_c (zq_si S 232 0 0) 0 = yT dr := yT_m (by rw [zq_i_si, if_neg (by decide)]; exact hsz) (hrow.cong (by
    funext j
    rw [zq_i_si, if_neg (fun z => absurd z.1 (by decide))]))
  have main : ∀ o : Nat, x = o → 1 ≤ o → o ≤ 9 → ¬ (zq_i S 237 o = 0 ∧ zq_i S 238 o = 9) → (zq_Ex X 145 0 [(.ref (232)), (zq_vi (0)), (zq_vi (0)), zz_no, zz_no] [] (zq_si S (232) (0) (0)) (zq_rv fun s_6 => (zq_Ex X 146 0 [(.ref (232)), (zq_vi (0)), (zq_vi (zq_i s_6 (232) (25))), zz_no] [] s_6 (zq_rp zq_iv fun x_9 s_8 => (if zq_i s_8 (232) (26) < 0 then (if x_9 < zq_i s_8 (232) (1) then (if x_9 < 0 then (zq_Ex X 170 0 [(.ref (232)), (zq_vi (o : Int)), zz_no] [] (zq_si (zq_si (zq_si (zq_si s_8 (232) (26) (x_9)) (232) (1) (0)) (232) (21) (x_9)) (232) (21) ((-1))) (zq_rv fun s_27 => (((0 : Int) ≤ (o : Int) ∧ (o : Int) < (10 : Int)) ∧ (((0 : Int) ≤ (o : Int) ∧ (o : Int) < (10 : Int)) ∧ (((0 : Int) ≤ (o : Int) ∧ (o : Int) < (10 : Int)) ∧ (zq_Ex X 171 0 [(.ref (232)), (zq_vi (o : Int))] [] (zq_si (zq_si (zq_si s_27 (237) (o : Int) (1)) (242) (o : Int) (0)) (243) (o : Int) (0)) (zq_rv fun s_31 => K s_31))))))) else K (zq_si (zq_si (zq_si (zq_si s_8 (232) (26) (x_9)) (232) (1) (0)) (232) (21) (x_9)) (232) (0) (3))) else (if zq_i s_8 (232) (26) < 0 then (zq_Ex X 170 0 [(.ref (232)), (zq_vi (o : Int)), zz_no] [] (zq_si (zq_si (zq_si (zq_si s_8 (232) (26) (zq_i s_8 (232) (26))) (232) (1) (0)) (232) (21) (zq_i s_8 (232) (26))) (232) (21) ((-1))) (zq_rv fun s_21 => (((0 : Int) ≤ (o : Int) ∧ (o : Int) < (10 : Int)) ∧ (((0 : Int) ≤ (o : Int) ∧ (o : Int) < (10 : Int)) ∧ (((0 : Int) ≤ (o : Int) ∧ (o : Int) < (10 : Int)) ∧ (zq_Ex X 171 0 [(.ref (232)), (zq_vi (o : Int))] [] (zq_si (zq_si (zq_si s_21 (237) (o : Int) (1)) (242) (o : Int) (0)) (243) (o : Int) (0)) (zq_rv fun s_25 => K s_25))))))) else K (zq_si (zq_si (zq_si (zq_si s_8 (232) (26) (zq_i s_8 (232) (26))) (232) (1) (0)) (232) (21) (zq_i s_8 (232) (26))) (232) (0) (3)))) else (if zq_i s_8 (232) (26) < 0 then (zq_Ex X 170 0 [(.ref (232)), (zq_vi (o : Int)), zz_no] [] (zq_si (zq_si (zq_si (zq_si s_8 (232) (26) (zq_i s_8 (232) (26))) (232) (1) (0)) (232) (21) (zq_i s_8 (232) (26))) (232) (21) ((-1))) (zq_rv fun s_14 => (((0 : Int) ≤ (o : Int) ∧ (o : Int) < (10 : Int)) ∧ (((0 : Int) ≤ (o : Int) ∧ (o : Int) < (10 : Int)) ∧ (((0 : Int) ≤ (o : Int) ∧ (o : Int) < (10 : Int)) ∧ (zq_Ex X 171 0 [(.ref (232)), (zq_vi (o : Int))] [] (zq_si (zq_si (zq_si s_14 (237) (o : Int) (1)) (242) (o : Int) (0)) (243) (o : Int) (0)) (zq_rv fun s_18 => K s_18))))))) else K (zq_si (zq_si (zq_si (zq_si s_8 (232) (26) (zq_i s_8 (232) (26))) (232) (1) (0)) (232) (21) (zq_i s_8 (232) (26))) (232) (0) (3)))))))) := fun o ho h1 h9 hno => by
    have f0 : ymf (0 :: 1 :: 21 :: ymr_J) ymr_A S (zq_si S 232 0 0) := ymf.sf (by simp)
    refine ys_145 hm0 hq (by decide) (by rw [hT0]; exact yT_C hc) (by decide) (by decide) (r := r) (by rw [hT0]; exact hr) (fun s' w e1 e2 e3 e4 e5 e6 f => ?_) (fun s' S1 e1 hmr hok hst f => ?_)
    · have hm' : ym_I s' := f.I hm0 (by decide) (by decide) (by omega)
      refine ys_146 hm' hq (by omega) e5 ?_
      rw [e2, if_neg (by omega), if_neg (by omega)]
      have f2 : ymf (0 :: 1 :: 21 :: ymr_J) ymr_A S (zq_si (zq_si (zq_si (zq_si s' 232 26 w) 232 1 0) 232 21 w) 232 0 3) := f0.trans ((f.mono (by simp) (by simp)).trans ((ymf.sf (by simp)).trans ((ymf.sf (by simp)).trans ((ymf.sf (by simp)).trans (ymf.sf (by simp))))))
      refine k3 o _ w ho h1 h9 hno (Or.inl e1) f2 (zq_i_at _ _ _ _) ?_ ?_ ?_
      · rw [zq_i_si, if_neg (by decide), zq_i_si, if_neg (by decide), zq_i_at]
      · rw [zq_i_si, if_neg (by decide), zq_i_at]
      · refine ⟨?_, ?_, ?_, ?_, fun i i0 i1 => ?_⟩
        · rw [zq_i_si, if_neg (by decide), zq_i_si, if_neg (by decide), zq_i_at]; decide
        · rw [f2.f (by decide)]; exact hmI.2.1
        · rw [f2.f (by decide)]; exact hmI.2.2.1
        · rw [zq_i_si, if_neg (by decide), zq_i_si, if_neg (by decide), zq_i_si, if_neg (by decide), zq_i_si, if_neg (by decide)]; omega
        · rw [f2.i (by decide) (by decide)]; exact hmI.2.2.2.2 i i0 i1
    · have hml := yr_made_len hok
      have hmd := hmr.2.2.2.2.2.2.2.2.2
      have hm' : ym_I s' := f.I hm0 (by decide) (by decide) (by have := hmd.1; omega)
      have hT' : ym_c s' 0 = yT dr := by rw [f.c (by decide) (by decide) (by decide)]; exact hT0
      have e25 : zq_i s' 232 25 = S1.1 := hmr.1
      have e26 : zq_i s' 232 26 = -1 := hmr.2.1
      obtain ⟨p0, p1⟩ := hok.1
      have hsk := yp_sk_le (T := yT dr) S1.1
      have e1s : zq_i s' 232 1 = dr.length := by rw [f.f (by decide), zq_i_si, if_neg (by decide)]; exact hsz
      rw [e25]
      refine ys_146 hm' hq (by omega) p1 ?_
      rw [hT', e26, if_pos (by decide), e1s]
      refine yl_if (fun hlt => yl_if (fun hneg => absurd hneg (by omega)) (fun _ => ?_)) (fun hlt => yl_if (fun _ => ?_) (fun z => absurd (by decide) z))
      · have f2 : ymf (0 :: 1 :: 21 :: ymr_J) ymr_A S (zq_si (zq_si (zq_si (zq_si s' 232 26 (yp_sk (yT dr) S1.1)) 232 1 0) 232 21 (yp_sk (yT dr) S1.1)) 232 0 3) := f0.trans ((f.mono (by simp) (by simp)).trans ((ymf.sf (by simp)).trans ((ymf.sf (by simp)).trans ((ymf.sf (by simp)).trans (ymf.sf (by simp))))))
        refine k3 o _ _ ho h1 h9 hno (Or.inr ⟨S1, e1, hlt, rfl⟩) f2 (zq_i_at _ _ _ _) ?_ ?_ ?_
        · rw [zq_i_si, if_neg (by decide), zq_i_si, if_neg (by decide), zq_i_at]
        · rw [zq_i_si, if_neg (by decide), zq_i_at]
        · refine ⟨?_, ?_, ?_, ?_, fun i i0 i1 => ?_⟩
          · rw [zq_i_si, if_neg (by decide), zq_i_si, if_neg (by decide), zq_i_at]; decide
          · rw [f2.f (by decide)]; exact hmI.2.1
          · rw [f2.f (by decide)]; exact hmI.2.2.1
          · rw [zq_i_si, if_neg (by decide), zq_i_si, if_neg (by decide), zq_i_si, if_neg (by decide), zq_i_si, if_neg (by decide)]; have := hmd.1; omega
          · rw [f2.i (by decide) (by decide)]; exact hmI.2.2.2.2 i i0 i1
      · have f2 : ymf (0 :: 1 :: 21 :: ymr_J) ymr_A S (zq_si (zq_si (zq_si (zq_si s' 232 26 (-1)) 232 1 0) 232 21 (-1)) 232 21 (-1)) := f0.trans ((f.mono (by simp) (by simp)).trans ((ymf.sf (by simp)).trans ((ymf.sf (by simp)).trans ((ymf.sf (by simp)).trans (ymf.sf (by simp))))))
        obtain ⟨Z, hZ⟩ : ∃ Z, Z = zq_si (zq_si (zq_si (zq_si s' 232 26 (-1)) 232 1 0) 232 21 (-1)) 232 21 (-1) := ⟨_, rfl⟩
        rw [← hZ] at f2 ⊢
        have hkn : S1.2.2.2 = none := by
          cases hk : S1.2.2.2 with
          | none => rfl
          | some w =>
            obtain ⟨_, n, ks, st, e⟩ := hok.2.2.2.2.2.1 w hk
            rw [hst] at e
            cases e
        have hmade : yr_made S1 = ye_pr true S1.2.1 := by
          unfold yr_made
          rw [hkn]
          exact List.append_nil _
        rw [hmade] at hml hmd
        have hmZ : ymd Z (ye_pr true S1.2.1) := by
          refine ⟨?_, fun i hi => ?_⟩
          · rw [hZ, zq_i_si, if_neg (by decide), zq_i_si, if_neg (by decide), zq_i_si, if_neg (by decide), zq_i_si, if_neg (by decide)]
            exact hmd.1
          · rw [hZ, zq_i_si, if_neg (fun z => absurd z.1 (by decide)), zq_i_si, if_neg (fun z => absurd z.1 (by decide)), zq_i_si, if_neg (fun z => absurd z.1 (by decide)), zq_i_si, if_neg (fun z => absurd z.1 (by decide))]
            exact hmd.2 i hi
        refine ys_170 h9 hmZ (by omega) (fun s4 g1 g2 g3 g4 => ⟨⟨by omega, by omega⟩, ⟨by omega, by omega⟩, ⟨by omega, by omega⟩, zw_171 ⟨by omega, by omega⟩ ⟨⟨by omega, by omega⟩, ?_⟩⟩)
        have eN : ∀ b (j : Int), b ≠ 232 → (b ∈ [237, 239, 242, 243] → j ≠ o) → zq_i (zq_si (zq_si (zq_si (zq_si (zq_si s4 237 o 1) 242 o 0) 243 o 0) 239 o 1) 232 19 (-1)) b j = zq_i s4 b j := fun b j n1 n2 => by
          have nn : ∀ c ∈ [237, 239, 242, 243], ¬ (b = c ∧ j = o) := fun c hc z => n2 (by rw [z.1]; exact hc) z.2
          rw [zq_i_si, if_neg (fun z => n1 z.1), zq_i_si, if_neg (nn 239 (by simp)), zq_i_si, if_neg (nn 243 (by simp)), zq_i_si, if_neg (nn 242 (by simp)), zq_i_si, if_neg (nn 237 (by simp))]
        have e4 : ∀ b (j : Int), b ≠ 240 → b ≠ 241 → zq_i s4 b j = zq_i Z b j := fun b j n1 n2 => g1 b j (fun z => absurd z n1) (fun z => absurd z n2)
        have eJ : ∀ j : Int, j ≠ 19 → zq_i (zq_si (zq_si (zq_si (zq_si (zq_si s4 237 o 1) 242 o 0) 243 o 0) 239 o 1) 232 19 (-1)) 232 j = zq_i Z 232 j := fun j n1 => by
          rw [zq_i_si, if_neg (fun z => n1 z.2), zq_i_si, if_neg (fun z => absurd z.1 (by decide)), zq_i_si, if_neg (fun z => absurd z.1 (by decide)), zq_i_si, if_neg (fun z => absurd z.1 (by decide)), zq_i_si, if_neg (fun z => absurd z.1 (by decide)), e4 232 j (by decide) (by decide)]
        have hZ1 : zq_i Z 232 1 = 0 := by rw [hZ, zq_i_si, if_neg (by decide), zq_i_si, if_neg (by decide), zq_i_at]
        have hZ21 : zq_i Z 232 21 = -1 := by rw [hZ, zq_i_at]
        have hZ0 : zq_i Z 232 0 = 0 := by
          rw [hZ, zq_i_si, if_neg (by decide), zq_i_si, if_neg (by decide), zq_i_si, if_neg (by decide), zq_i_si, if_neg (by decide), f.f (by decide), zq_i_at]
        have e240 : ∀ j : Int, zq_i (zq_si (zq_si (zq_si (zq_si (zq_si s4 237 o 1) 242 o 0) 243 o 0) 239 o 1) 232 19 (-1)) 240 j = zq_i s4 240 j := fun j => eN 240 j (by decide) (fun z => absurd z (by decide))
        refine k4 o _ S1 ho h1 h9 hno e1 hlt hok hst ⟨fun b j n1 n2 n3 n4 => ?_, fun j n1 n2 => ?_, ⟨?_, ?_, ?_, zq_i_at _ _ _ _⟩, ⟨?_, ?_, ?_, fun i hi => ?_, ?_⟩, ?_⟩ ?_
        · rw [eN b j n1 (fun z => n3 (by simp at z ⊢; omega)), g1 b j (fun z => n3 (by rw [z]; simp)) n4, f2.i n2 n1]
        · rw [eJ j (fun z => n1 (by rw [z]; simp)), f2.f (by simp at n1 n2 ⊢; omega)]
        · rw [eJ 0 (by decide)]; exact hZ0
        · rw [eJ 1 (by decide)]; exact hZ1
        · rw [eJ 21 (by decide)]; exact hZ21
        · rw [zq_i_si, if_neg (fun z => absurd z.1 (by decide)), zq_i_si, if_neg (fun z => absurd z.1 (by decide)), zq_i_si, if_neg (fun z => absurd z.1 (by decide)), zq_i_si, if_neg (fun z => absurd z.1 (by decide)), zq_i_at]
        · rw [zq_i_si, if_neg (fun z => absurd z.1 (by decide)), zq_i_at]
        · rw [e240]; exact g2
        · rw [eN 241 _ (by decide) (fun z => absurd z (by decide))]; exact g3 i hi
        · rw [zq_i_si, if_neg (fun z => absurd z.1 (by decide)), zq_i_si, if_neg (fun z => absurd z.1 (by decide)), zq_i_si, if_neg (fun z => absurd z.1 (by decide)), zq_i_at]
        · show s4.2 = S.2
          rw [g4, f2.2.2]
        · refine ⟨?_, ?_, ?_, ?_, fun i i0 i1 => ?_⟩
          · rw [eJ 1 (by decide), hZ1]; decide
          · rw [eJ 3 (by decide), f2.f (by decide)]; exact hmI.2.1
          · rw [eJ 5 (by decide), f2.f (by decide)]; exact hmI.2.2.1
          · rw [eJ 23 (by decide)]; have := hmZ.1; omega
          · rw [e240]
            by_cases hio : i = o
            · rw [hio, g2]; omega
            · rw [g1 240 i (fun _ => hio) (fun z => by cases z), f2.i (by decide) (by decide)]
              exact hmI.2.2.2.2 i i0 i1
  refine zw_144 hxi (yl_if (fun hx1 => k1 (Or.inl hx1)) fun hx1 => yl_if (fun hx9 => ?_) (fun hx9 => k1 (Or.inr (by omega))))
  obtain ⟨o, ho⟩ : ∃ o : Nat, x = o := ⟨x.toNat, by omega⟩
  have h1 : 1 ≤ o := by omega
  have h9 : o ≤ 9 := by omega
  rw [ho]
  exact ⟨⟨by omega, by omega⟩, yl_if (fun hu => ⟨⟨by omega, by omega⟩, yl_if (fun hg => k2 o ho h1 h9 hu hg) (fun hg => main o ho h1 h9 (fun z => hg z.2))⟩) (fun hu => main o ho h1 h9 (fun z => hu z.1))⟩
set_option maxRecDepth 100000 in
theorem yl_220 (hX : X.1 ≤ 1536) : yl_C X 220 := fun s A m v5 v6 h5 h6 hI hm hmX next => by
  obtain ⟨dr, fl, ev, ct, F, t⟩ := A
  have f1 : F = 23 ∨ F = 25 := hI.2.1.1
  have f2 : t = 27 ∨ t = 126 := hI.2.1.2.1
  have a3 : yI_tre s := hI.2.2.1
  have hmI : ym_I s := hI.2.2.2.2.2.2.2
  obtain ⟨⟨v, hx⟩, hc, b3, b4, _⟩ := hI.1
  have hc : ∀ c ∈ dr, yp_isC c = true := hc
  have b3 : zq_i s 232 1 = dr.length := b3
  have b4 : yrow s 233 0 dr := b4
  have hdr : dr.length ≤ 100 := by have := hmI.1; omega
  have hb : (0 : Int) ≤ 3 * (m : Int) + 1 ∧ 3 * (m : Int) + 1 < (X.1 : Int) := ⟨by omega, by omega⟩
  refine zw_0_220 (by omega) ⟨by omega, by omega⟩ h5 h6 ⟨hb, ?_⟩
  have hxi := zq_in32 (X.2 (3 * (m : Int) + 1).toNat)
  generalize (X.2 (3 * (m : Int) + 1).toNat).toInt = x at hxi ⊢
  have hn1 : zq_n s < 1000 := by omega
  obtain ⟨r, hr⟩ := yr_read_some (yT_T (l := dr) (by omega)) (yT_C hc) (p := 0) (by decide) (by decide)
  refine zw_233 hxi (yl_41 hI hxi hn1 hr (fun hx => ?_) (fun o ho h1 h9 hu hg => ?_) (fun o tr s' w ho h1 h9 hno htr hP hbad => ?_) (fun o tr old s' S1 ho h1 h9 hno htr hold hP hr1 hlt hok hst htr2 => ?_))
  · rw [if_pos rfl]
    refine ⟨hb, yl_144 (S := zq_sx s 12) hxi hmI b3 b4 hc hr (fun _ => ?_) (fun o ho h1 h9 => by omega) (fun o _ _ ho h1 h9 => by omega) (fun o _ _ ho h1 h9 => by omega)⟩
    exact yl_say0 h6 ((hI.exc 12).th 1) (by rw [zq_n_si, zq_n_sx]; omega) (zq_i_at _ _ _ _) next
  · rw [if_neg (by decide), if_pos rfl]
    refine ⟨hb, yl_144 (S := zq_sx s 11) hxi hmI b3 b4 hc hr (fun z => by omega) (fun _ _ _ _ _ _ => ?_) (fun o' _ _ ho' _ _ hno => ?_) (fun o' _ _ ho' _ _ hno => ?_)⟩
    · exact yl_say0 h6 ((hI.exc 11).th 2) (by rw [zq_n_si, zq_n_sx]; omega) (zq_i_at _ _ _ _) next
    · exfalso
      have e : o' = o := by omega
      rw [e] at hno
      exact hno ⟨hu, hg⟩
    · exfalso
      have e : o' = o := by omega
      rw [e] at hno
      exact hno ⟨hu, hg⟩
  · rw [if_neg (by decide), if_neg (by decide), if_pos rfl]
    obtain ⟨tr', j1, j2, j3, j4, j5⟩ := a3.spare
    have htt : tr' = tr := Option.some.inj (j1.symm.trans htr)
    subst htt
    have hbt := yk_tree j2 ⟨j3, j4⟩
    obtain ⟨P1, P2, P3, P4, P5, P6, P7⟩ := hP
    have eb : ∀ b, 232 ≤ b → zq_i s' b = zq_i s b := fun b hb => P1 b (by simp; omega) (by simp; omega)
    refine ⟨hb, yl_144 (S := zq_sx s' 10) hxi (hmI.cong (fun j _ => by show zq_i s' 232 j = _; rw [eb 232 (by decide)]) (eb 240 (by decide))) (by show zq_i s' 232 1 = _; rw [eb 232 (by decide)]; exact b3) (b4.cong (eb 233 (by decide))) hc hr (fun z => by omega) (fun o' ho' _ _ hu hg => ?_) (fun o' S' w' ho' _ _ _ hbad' f e0 e1 e21 hm' => ?_) (fun o' S' S1 ho' _ _ _ hr1 hlt => ?_)⟩
    · exfalso
      have e : o' = o := by omega
      have hu : zq_i s' 237 o' = 0 := hu
      have hg : zq_i s' 238 o' = 9 := hg
      rw [eb 237 (by decide), e] at hu
      rw [eb 238 (by decide), e] at hg
      exact hno ⟨hu, hg⟩
    · have hww := hbad'.eq hbad
      refine yl_say0 (A := ([], fl, ev, ct, F, t)) h6 (yI.drop hI htr (fun b n1 n2 n3 => ?_) ?_ ?_ (fun j hj => ?_) e1 ⟨0, P4.cong ?_ ?_⟩ (fun b hb => ?_) (fun b hb n2 h9 => ?_) hm') (by rw [f.n, zq_n_sx, P7]; omega) e0 next
      · rw [f.i (by unfold yirr at n3; simp; omega) (by simp at n1; omega)]
        show zq_i s' b = zq_i s b
        exact P1 b (by simp at n1 ⊢; omega) (by unfold yirr at n3; simp at n2 ⊢; omega)
      · rw [f.i (b := 0) (by decide) (by decide)]
        exact P2 12 (by decide)
      · rw [f.i (b := 0) (by decide) (by decide), e21, hww]
        exact P3
      · rw [f.f (by simp at hj ⊢; omega)]
        show zq_i s' 232 j = _
        rw [eb 232 (by decide)]
      · rw [f.i (b := 1) (by decide) (by decide)]
        rfl
      · rw [f.i (b := 2) (by decide) (by decide)]
        rfl
      · rw [f.r]
        exact P5 b (by omega)
      · rw [f.l]
        exact P6 b (by simp at n2 ⊢; omega)
    · exact (hbad.no hr1 hlt).elim
  · obtain ⟨tr', j1, j2, j3, j4, j5⟩ := a3.spare
    have htt : tr' = tr := Option.some.inj (j1.symm.trans htr)
    subst htt
    have hbt := yk_tree j2 ⟨j3, j4⟩
    obtain ⟨r1, r2, r3, r4, r5, r6, r7, r8, r9⟩ := yk_sl f2 h1 h9
    have ns : ysl t o ∉ yc_t7 tr' := fun z => (yk_tcells j2 z).2.1 r1
    obtain ⟨P1, P2, P3, P4, P5, P6, P7⟩ := hP
    obtain ⟨s5, hs5⟩ : ∃ s5, s5 = zq_sr (zq_sr (zq_si (zq_si (zq_si (zq_sr s' (ysl t o) 4 (some tr')) (ysl t o) 0 1) (ysl t o) 1 1) (ysl t o) 2 0) 0 10 (some old)) 3 0 none := ⟨_, rfl⟩
    rw [← hs5]
    have i5 : ∀ b, b ≠ ysl t o → zq_i s5 b = zq_i s' b := fun b hb => by
      funext j
      rw [hs5, zq_i_sr, zq_i_sr, zq_i_si, if_neg (fun z => hb z.1), zq_i_si, if_neg (fun z => hb z.1), zq_i_si, if_neg (fun z => hb z.1), zq_i_sr]
    have sl5 : zq_i s5 (ysl t o) 0 = 1 ∧ zq_i s5 (ysl t o) 1 = 1 ∧ zq_i s5 (ysl t o) 2 = 0 ∧ zq_i s5 (ysl t o) 3 = zq_i s' (ysl t o) 3 := by
      rw [hs5]
      refine ⟨?_, ?_, ?_, ?_⟩
      · rw [zq_i_sr, zq_i_sr, zq_i_si, if_neg (fun z => absurd z.2 (by decide)), zq_i_si, if_neg (fun z => absurd z.2 (by decide)), zq_i_at]
      · rw [zq_i_sr, zq_i_sr, zq_i_si, if_neg (fun z => absurd z.2 (by decide)), zq_i_at]
      · rw [zq_i_sr, zq_i_sr, zq_i_at]
      · rw [zq_i_sr, zq_i_sr, zq_i_si, if_neg (fun z => absurd z.2 (by decide)), zq_i_si, if_neg (fun z => absurd z.2 (by decide)), zq_i_si, if_neg (fun z => absurd z.2 (by decide)), zq_i_sr]
    have rr : ∀ b (j : Int), zq_r s5 b j = if b = 3 ∧ j = 0 then none else if b = 0 ∧ j = 10 then some old else if b = ysl t o ∧ j = 4 then some tr' else zq_r s' b j := fun b j => by
      rw [hs5, zq_r_sr, zq_r_sr, zq_r_si, zq_r_si, zq_r_si, zq_r_sr]
    have ll : zq_l s5 = zq_l s' := by rw [hs5]; rfl
    have nn : zq_n s5 = zq_n s' := by rw [hs5]; rfl
    have eb : ∀ b, 232 ≤ b → zq_i s5 b = zq_i s b := fun b hb => by rw [i5 b (by omega), P1 b (by simp; omega) (by simp; omega)]
    refine ⟨hb, yl_144 (S := s5) hxi (hmI.cong (fun j _ => by rw [eb 232 (by decide)]) (eb 240 (by decide))) (by rw [eb 232 (by decide)]; exact b3) (b4.cong (eb 233 (by decide))) hc hr (fun z => by omega) (fun o' ho' _ _ hu hg => ?_) (fun o' S' w' ho' _ _ _ hbad' f => ?_) (fun o' S' S2 ho' _ _ _ hr2 hlt2 hok2 hst2 hM hm' => ?_)⟩
    · exfalso
      have e : o' = o := by omega
      rw [eb 237 (by decide), e] at hu
      rw [eb 238 (by decide), e] at hg
      exact hno ⟨hu, hg⟩
    · exact (hbad'.no hr1 hlt).elim
    · have e : o' = o := by omega
      subst e
      have hSS : S1 = S2 := by rw [hr1] at hr2; exact Sum.inl.inj hr2
      subst hSS
      have hv : yv S1.2.1 := yv_read (yT_T (l := dr) (by omega)) (yT_C hc) (p := 0) (by decide) (by decide) (by rw [hr, hr1]) hok
      obtain ⟨M1, M2, M3, M4, M5⟩ := hM
      have er : zq_r S' = zq_r s5 := by unfold zq_r; rw [M5]
      have el : zq_l S' = zq_l s5 := by unfold zq_l; rw [M5]
      have en : zq_n S' = zq_n s5 := by unfold zq_n; rw [M5]
      have lo : ∀ b (j : Int), b < 232 → zq_i S' b j = zq_i s5 b j := fun b j hb => M1 b j (by omega) (by simp; omega) (fun z => by simp at z; omega) (fun z => by omega)
      have n29 : ∀ q ∈ yc_t7 tr', zq_i S' q = zq_i s' q := fun q hq => by
        have : 30 ≤ q ∧ q ≤ 231 := by simp at hq; omega
        funext j
        rw [lo q j (by omega), i5 q (fun z => ns (by rw [← z]; exact hq))]
      refine yl_say0 (A := ([], fl, fun n => if n = o' then S1.2.1 else ev n, ct, F, t)) h6 (yI.put hI h1 h9 htr hold (fun b j n1 n2 n3 n4 n5 n6 => ?_) ?_ ?_ (fun j hj => ?_) M3.2.1 ⟨0, P4.cong ?_ ?_⟩ M3.2.2.2 ⟨?_, ?_, ?_, ?_⟩ M4 (fun b j m1 m2 m3 m4 => ?_) ?_ ?_ ?_ (fun b m1 m2 m3 => ?_) (htr2.cong n29 (by rw [el, ll])) hv hm') (by rw [en, nn, P7]; omega) M3.1 next
      · rw [M1 b j (by simp at n1; omega) (by unfold yirr at n3; simp; omega) n5 n6, i5 b n4, P1 b (by simp at n1 ⊢; omega) (by unfold yirr at n3; simp at n2 ⊢; omega)]
      · rw [lo 0 12 (by decide), i5 0 (by omega)]
        exact P2 12 (by decide)
      · rw [lo 0 11 (by decide), i5 0 (by omega), M3.2.2.1]
        exact P3
      · rw [M2 j (by simp at hj ⊢; omega) (by simp at hj ⊢; omega), eb 232 (by decide)]
      · funext j
        rw [lo 1 j (by decide), i5 1 (by omega)]
      · funext j
        rw [lo 2 j (by decide), i5 2 (by omega)]
      · rw [lo _ _ (by omega)]; exact sl5.1
      · rw [lo _ _ (by omega)]; exact sl5.2.1
      · rw [lo _ _ (by omega)]; exact sl5.2.2.1
      · rw [lo _ _ (by omega), sl5.2.2.2, P1 (ysl t o') (by simp; omega) (by simp at ns ⊢; omega)]
      · rw [er, rr, if_neg m4, if_neg m2, if_neg m3, P5 b (by omega)]
      · rw [er, rr, if_neg (by decide), if_pos ⟨rfl, rfl⟩]
      · rw [er, rr, if_neg (by omega), if_neg (by omega), if_pos ⟨rfl, rfl⟩]
      · rw [er, rr, if_pos ⟨rfl, rfl⟩]
      · rw [el, ll, P6 b (by simp at m2 ⊢; omega)]
end YLC4
