/-! content: the class's side -/
def yQ (s s' : zq_S) (sl tr : Nat) (dr : List Int) : Prop := (∀ b, b ∉ [0, 1, 2, sl, sl + 8, sl + 9] → b ∉ yc_t7 tr → zq_i s' b = zq_i s b) ∧ (zq_i s' 0 12 = zq_i s 0 12 ∧ zq_i s' 0 11 = -1) ∧ yx s' 1 ([], 0) ∧ (zq_i s' sl 0 = zq_i s sl 0 ∧ zq_i s' sl 1 = 1 ∧ zq_i s' sl 2 = 1 ∧ zq_i s' sl 3 = zq_i s sl 3) ∧ yx s' (sl + 8) (dr, 0) ∧ (∀ b (j : Int), ¬ (b = 3 ∧ j = 0) → zq_r s' b j = zq_r s b j) ∧ zq_r s' 3 0 = none ∧ (∀ b, b ∉ yc_t7 tr → zq_l s' b = zq_l s b) ∧ zq_n s' = zq_n s
set_option maxRecDepth 100000 in
theorem yQ_of {s sA sC sE : zq_S} {sl tr : Nat} {dr : List Int} (fA : ycf (yc_t7 tr) s sA) (fC : yf [sl + 8, sl + 8 + 1] sA sC) (hxC : yx sC (sl + 8) (dr, 0)) (fE : yf [1, 2] (zq_si (zq_si sC sl 2 1) sl 1 1) sE) (hxE : yx sE 1 ([], 0)) (h30 : 30 ≤ sl) (ht : 30 ≤ tr) (n0 : sl ∉ yc_t7 tr) (n8 : sl + 8 ∉ yc_t7 tr) (n9 : sl + 9 ∉ yc_t7 tr) : yQ s (zq_sr (zq_si sE 0 11 (-1)) 3 0 none) sl tr dr := by
  have lowt : ∀ b, b < 30 → b ∉ yc_t7 tr := fun b hb z => by have := yk_t7 z; omega
  have iF : ∀ b, b ≠ 0 → zq_i (zq_sr (zq_si sE 0 11 (-1)) 3 0 none) b = zq_i sE b := fun b hb => by
    funext j
    rw [zq_i_sr, zq_i_si, if_neg (fun z => hb z.1)]
  have iE : ∀ b, b ≠ 1 → b ≠ 2 → b ≠ sl → zq_i sE b = zq_i sC b := fun b h1 h2 h3 => by
    rw [fE.i (by simp; exact ⟨h1, h2⟩)]
    funext j
    rw [zq_i_si, if_neg (fun z => h3 z.1), zq_i_si, if_neg (fun z => h3 z.1)]
  have iC : ∀ b, b ≠ sl + 8 → b ≠ sl + 9 → b ∉ yc_t7 tr → zq_i sC b = zq_i s b := fun b h1 h2 h3 => by
    rw [fC.i (by simp; omega), fA.i h3]
  have slr : ∀ j, zq_i (zq_sr (zq_si sE 0 11 (-1)) 3 0 none) sl j = zq_i (zq_si (zq_si sC sl 2 1) sl 1 1) sl j := fun j => by
    rw [iF sl (by omega), fE.i (by simp; omega)]
  refine ⟨fun b hb hbt => ?_, ⟨?_, ?_⟩, hxE.cong (iF 1 (by decide)) (iF 2 (by decide)), ⟨?_, ?_, ?_, ?_⟩, hxC.cong ?_ ?_, fun b j hbj => ?_, ?_, fun b hb => ?_, ?_⟩
  · simp at hb
    rw [iF b hb.1, iE b hb.2.1 hb.2.2.1 hb.2.2.2.1, iC b hb.2.2.2.2.1 hb.2.2.2.2.2 hbt]
  · rw [zq_i_sr, zq_i_si, if_neg (by decide), iE 0 (by decide) (by decide) (by omega), iC 0 (by omega) (by omega) (lowt 0 (by decide))]
  · rw [zq_i_sr, zq_i_at]
  · rw [slr, zq_i_si, if_neg (fun z => absurd z.2 (by decide)), zq_i_si, if_neg (fun z => absurd z.2 (by decide)), iC sl (by omega) (by omega) n0]
  · rw [slr, zq_i_at]
  · rw [slr, zq_i_si, if_neg (fun z => absurd z.2 (by decide)), zq_i_at]
  · rw [slr, zq_i_si, if_neg (fun z => absurd z.2 (by decide)), zq_i_si, if_neg (fun z => absurd z.2 (by decide)), iC sl (by omega) (by omega) n0]
  · rw [iF (sl + 8) (by omega), iE (sl + 8) (by omega) (by omega) (by omega)]
  · rw [iF (sl + 8 + 1) (by omega), iE (sl + 8 + 1) (by omega) (by omega) (by omega)]
  · rw [zq_r_sr, if_neg hbj, zq_r_si, fE.r, zq_r_si, zq_r_si, fC.r, fA.r]
  · rw [zq_r_sr, if_pos ⟨rfl, rfl⟩]
  · show zq_l sE b = zq_l s b
    rw [fE.l]
    show zq_l sC b = zq_l s b
    rw [fC.l, fA.l hb]
  · show zq_n sE = zq_n s
    rw [fE.n]
    show zq_n sC = zq_n s
    rw [fC.n, fA.2.2.1]
set_option maxRecDepth 100000 in
theorem yl_getD10 {l : List Int} (h : ∀ i : Nat, i < l.length → l.getD i 0 ≠ 10) : (10 : Int) ∉ l := fun z => by
  obtain ⟨i, hi, e⟩ := List.mem_iff_getElem.mp z
  refine h i hi ?_
  rw [List.getD_eq_getElem?_getD, List.getElem?_eq_getElem hi]
  exact e
section YLD3
variable {X : Nat × (Nat → Int32)}
set_option maxRecDepth 100000 in
theorem ys_76_2 {s : zq_S} {K : Int → zq_S → Prop} {a : Nat} {l : List Int} {v : Int} (ha : zq_o 1 a) (hx : yx s a (l, v)) (h1000 : zq_T a ≤ 1000) (k0 : 10 ∉ l → K 0 s) (k1 : 10 ∈ l → K 1 s) : ∀ (m j : Nat), j + m = l.length → (∀ i : Nat, i < j → l.getD i 0 ≠ 10) → zq_Ex X 76 2 [.ref a, zq_vi (j : Int)] [] s (zq_rp zq_bo K)
  | 0, j, hj, hi => by
    have hsz : zq_i s a 1 = l.length := hx.1
    have hl : l.length ≤ zq_T a := hx.2.1
    refine zw_76_2 ha ⟨by omega, by omega⟩ ?_
    rw [if_neg (by omega)]
    exact k0 (yl_getD10 (fun i hi2 => hi i (by omega)))
  | m + 1, j, hj, hi => by
    have hsz : zq_i s a 1 = l.length := hx.1
    have hl : l.length ≤ zq_T a := hx.2.1
    refine zw_76_2 ha ⟨by omega, by omega⟩ ?_
    rw [if_pos (by omega)]
    refine zw_29 ha ⟨by omega, by omega⟩ ?_
    have hc : zq_i s (a + 1) j = l.getD j 0 := hx.2.2.2 j (by show j < l.length; omega)
    rw [if_neg (by omega), if_pos (by omega), hc]
    refine ⟨⟨by omega, by omega⟩, yl_if (fun e => ?_) (fun e => ?_)⟩
    · exact k1 (by rw [← e]; exact yl_getD (by omega))
    · rw [show (j : Int) + 1 = ((j + 1 : Nat) : Int) by omega]
      refine ys_76_2 ha hx h1000 k0 k1 m (j + 1) (by omega) (fun i hi2 => ?_)
      by_cases h : i = j
      · rw [h]; exact e
      · exact hi i (by omega)
set_option maxRecDepth 100000 in
theorem yl_72 {s : zq_S} {dr fl : List Int} {ev : Nat → List ye_E} {ct : Nat → List Int} {F t : Nat} (hI : yI s (dr, fl, ev, ct, F, t)) {x : Int} (hxi : zq_iv x) (hn1 : zq_n s < 1000) {K : zq_S → Prop} {T : Nat → zq_S → Prop}
    (k1 : ¬ (1 ≤ x ∧ x ≤ 9 ∧ zq_i s 237 x = 1) → T 13 (zq_sx s 13))
    (k2 : ∀ (o : Nat) (d : ye_N) (es : List ye_E), x = o → 1 ≤ o → o ≤ 9 → zq_i s 237 o = 1 → ev o = .inl d :: es → ¬ (d.1 = 7 ∧ (yr_many (.inl d :: es) < 12 ∨ ye_fk yNL es 0 ≠ none)) → T 11 (zq_sx s 11))
    (k3 : ∀ (o : Nat) (d : ye_N) (es : List ye_E), x = o → 1 ≤ o → o ≤ 9 → zq_i s 237 o = 1 → ev o = .inl d :: es → (d.1 = 7 ∧ (yr_many (.inl d :: es) < 12 ∨ ye_fk yNL es 0 ≠ none)) → (12 < dr.length ∨ 10 ∈ dr) → T 10 (zq_sx (zq_si s 0 11 0) 10))
    (k4 : ∀ (o : Nat) (d : ye_N) (es : List ye_E) (tr : Nat) (s' : zq_S) (es2 : List ye_E), x = o → 1 ≤ o → o ≤ 9 → zq_i s 237 o = 1 → ev o = .inl d :: es → (d.1 = 7 ∧ (yr_many (.inl d :: es) < 12 ∨ ye_fk yNL es 0 ≠ none)) → dr.length ≤ 12 → 10 ∉ dr → zq_r s (ysl t o) 4 = some tr → ynew es dr.length es2 → yQ s s' (ysl t o) tr dr → yt_tr s' tr 0 0 (.inl d :: es2) → K s') :
    zq_Ex X 72 0 [.ref 0, zq_vi x, zz_no] [] s (zq_rx (zq_rv K) T) := by
  have f2 : t = 27 ∨ t = 126 := hI.2.1.2.1
  have t5 : zq_r s 0 8 = some t := hI.2.1.2.2.2.2.1
  have a3 : yI_tre s := hI.2.2.1
  have a4 : yI_tab s t ev ct := hI.2.2.2.1
  obtain ⟨⟨v, hx⟩, hc, b3, b4, _⟩ := hI.1
  have hx : yx s 1 (dr, v) := hx
  have hc : ∀ c ∈ dr, yp_isC c = true := hc
  have o1t : zq_o 1 1 := by decide +kernel
  have o3 : zq_o 2 3 := by decide +kernel
  have T1 : zq_T 1 = 100 := by decide +kernel
  have hsz : zq_i s 1 1 = dr.length := hx.1
  refine zw_72 hxi ⟨t, t5, ys_33 f2 a4 hxi (fun hno => ⟨fun _ => ⟨hn1, k1 hno⟩, fun b z => (by cases z)⟩) (fun o ho h1 h9 hu => ⟨fun z => (by cases z), fun b hbb => ?_⟩)⟩
  have hbb : ysl t o = b := Option.some.inj hbb
  subst hbb
  obtain ⟨r1, r2, r3, r4, r5, r6, r7, r8, r9⟩ := yk_sl f2 h1 h9
  obtain ⟨tr, d, es, c1, c2, c3, c4, c5, c6, c7, c8, c9, c10⟩ := hI.root h9 (fun _ => hu)
  have htr : zq_r s (ysl t o) 4 = some tr := by
    unfold ycu at c1
    rw [if_neg (by omega)] at c1
    exact c1
  obtain ⟨tr2, j1, j2, j3⟩ := a3.slot f2 h1 h9
  have htt : tr2 = tr := Option.some.inj (j1.symm.trans htr)
  subst htt
  have hbt := yk_tree j2 j3
  have hcnt : zq_i s tr2 0 = (yr_many (.inl d :: es) : Nat) := by have := c3.1; rw [ye_nl_len] at this; omega
  refine ⟨tr2, htr, ys_73 j2 c3 c5.oks.tl c8 ?_⟩
  by_cases hgood : d.1 = 7 ∧ (yr_many (.inl d :: es) < 12 ∨ ye_fk yNL es 0 ≠ none)
  · have hg2 : d.1 = 7 ∧ (zq_i s tr2 0 < 12 ∨ ye_fk yNL es 0 ≠ none) := ⟨hgood.1, hgood.2.imp (fun z => by omega) id⟩
    rw [decide_eq_true hg2, if_neg (show ¬ yb true = 0 by decide), hsz]
    have hn2 : zq_n (zq_si s 0 11 0) < 1000 := by rw [zq_n_si]; exact hn1
    refine yl_if (fun h12 => ?_) (fun h12 => ⟨hn2, k3 o d es ho h1 h9 hu c4 hgood (Or.inl (by omega))⟩)
    refine zw_76 o1t (ys_76_2 o1t hx (by rw [T1]; decide) (fun hno => ?_) (fun hin => ?_) dr.length 0 (by omega) (fun i hi => by omega))
    · rw [if_pos rfl]
      have h12 : dr.length ≤ 12 := by omega
      have n8 := yk_tt r3 j2
      have n0 : ysl t o ∉ yc_t7 tr2 := fun z => (yk_tcells j2 z).2.1 r1
      have lowt : ∀ b, b < 30 → b ∉ yc_t7 tr2 := fun b hb z => by have := yk_t7 z; omega
      -- behind giveLength
      have rest : ∀ (sA : zq_S) (es2 : List ye_E), ynew es dr.length es2 → yt_tr sA tr2 0 0 (.inl d :: es2) → ycf (yc_t7 tr2) s sA → zq_Ex X 15 0 [.ref (ysl t o + 8)] [] sA (zq_rv fun s_5 => (zq_Ex X 80 0 [(.ref (ysl t o + 8)), (.ref (1)), zz_no] [] s_5 (zq_rv fun s_6 => (zq_Ex X 15 0 [(.ref (1))] [] (zq_si (zq_si s_6 (ysl t o) (2) (1)) (ysl t o) (1) (1)) (zq_rv fun s_22 => (zq_Ex X 71 0 [(.ref (3))] [] (zq_si s_22 (0) (11) ((-1))) (zq_rv fun s_23 => K s_23)))))))  := fun sA es2 hnew htA fA => by
        refine ys_15 r3 fun sB hxB fB => ?_
        have hxd : yx sB 1 (dr, v) := hx.cong (by rw [fB.i (by simp <;> omega), fA.i (lowt 1 (by decide))]) (by rw [fB.i (by simp <;> omega), fA.i (lowt 2 (by decide))])
        refine ys_80 r3 o1t (by omega) hc hxB hxd (fun sC hxC fC => ?_)
        rw [yx_ps_fit (zq_T (ysl t o + 8)) dr ([], 0) (by rw [r2]; simp only [List.length_nil]; omega)] at hxC
        have hxC : yx sC (ysl t o + 8) (dr, 0) := hxC
        refine ys_15 o1t fun sE hxE fE => zw_71 o3 ?_
        have hQ := yQ_of fA (fB.trans fC) hxC fE hxE r8 (by omega) n0 n8.1 (by rw [show ysl t o + 9 = ysl t o + 8 + 1 by omega]; exact n8.2)
        refine k4 o d es tr2 _ es2 ho h1 h9 hu c4 hgood h12 hno htr hnew hQ ?_
        refine htA.cong (fun q hq => ?_) ?_
        · have hq2 := yk_t7 hq
          have hqs : q ≠ ysl t o := fun z => n0 (by rw [← z]; exact hq)
          have hq8 : q ≠ ysl t o + 8 := fun z => n8.1 (by rw [← z]; exact hq)
          have hq9 : q ≠ ysl t o + 8 + 1 := fun z => n8.2 (by rw [← z]; exact hq)
          funext j
          rw [zq_i_sr, zq_i_si, if_neg (fun z => by have := z.1; omega), fE.i (by simp; omega), zq_i_si, if_neg (fun z => hqs z.1), zq_i_si, if_neg (fun z => hqs z.1), (fB.trans fC).i (by simp; exact ⟨hq8, hq9⟩)]
        · show zq_l sE (tr2 + 5) = zq_l sA (tr2 + 5)
          rw [fE.l]
          show zq_l sC (tr2 + 5) = zq_l sA (tr2 + 5)
          rw [(fB.trans fC).l]
      refine zw_77 r1 o1t ⟨tr2, htr, ?_⟩
      rw [hsz]
      refine ys_78 j2 (by omega) (by omega) c3 hgood.1 c5.oks.tl c8 c5 (fun d' es' hf h8 => ?_) (fun d' es' mid R s' hf h8 e1 e2 e3 e4 e5 => ?_) (fun B s' hf e1 e2 e3 e4 => ?_) (fun hf => ?_)
      · exact rest s es (Or.inl ⟨d', es', hf, h8, rfl⟩) c3 (ycf.refl _ _)
      · exact rest s' _ (Or.inr (Or.inl ⟨d', es', mid, R, hf, h8, e1, e2, e3, rfl⟩)) e4 e5
      · exact rest s' _ (Or.inr (Or.inr ⟨B, hf, e1, e2, rfl⟩)) e3 e4
      · rcases hgood.2 with z | z
        · omega
        · exact absurd hf z
    · rw [if_neg (by decide)]
      exact ⟨hn2, k3 o d es ho h1 h9 hu c4 hgood (Or.inr hin)⟩
  · have hg2 : ¬ (d.1 = 7 ∧ (zq_i s tr2 0 < 12 ∨ ye_fk yNL es 0 ≠ none)) := fun z => hgood ⟨z.1, z.2.imp (fun y => by omega) id⟩
    rw [decide_eq_false hg2, if_pos (show yb false = 0 from rfl)]
    exact ⟨hn1, k2 o d es ho h1 h9 hu c4 hgood⟩
end YLD3
