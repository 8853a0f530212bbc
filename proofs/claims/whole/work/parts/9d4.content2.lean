/-! content: the reference's side; the law's case content -/
/-- what the reference leaves when an object has been given contents -/
def yN (S S' : zq_S) (o : Nat) (l dr : List Int) : Prop := (∀ b (j : Int), b ≠ 232 → b ∉ ymr_A → (b ∈ [239, 240, 242, 243] → j ≠ o) → (b = 241 → j < 500 * o ∨ 500 * o + 500 ≤ j) → (b = 244 → j < 12 * o ∨ 12 * o + 12 ≤ j) → zq_i S' b j = zq_i S b j) ∧ (∀ j, j ∉ [0, 1, 19, 21] → j ∉ ymr_J → zq_i S' 232 j = zq_i S 232 j) ∧ (zq_i S' 232 0 = 0 ∧ zq_i S' 232 1 = 0 ∧ zq_i S' 232 21 = -1 ∧ zq_i S' 232 19 = -1) ∧ (zq_i S' 239 o = 1 ∧ zq_i S' 240 o = l.length ∧ yrow S' 241 (500 * o) l ∧ zq_i S' 242 o = 1 ∧ zq_i S' 243 o = dr.length ∧ yrow S' 244 (12 * o) dr) ∧ S'.2 = S.2
set_option maxRecDepth 100000 in
/-- only what is told changes, and helpers' cells -/
theorem yI.told {s S : zq_S} {dr fl : List Int} {ev : Nat → List ye_E} {ct : Nat → List Int} {F t : Nat} (hI : yI s (dr, fl, ev, ct, F, t)) (ei : ∀ b, b ≠ 0 → b ≠ 232 → ¬ yirr F b → zq_i S b = zq_i s b) (e12 : zq_i S 0 12 = zq_i S 232 22) (e11 : zq_i S 0 11 = zq_i S 232 21) (ej : ∀ j ∈ [1, 3, 17, 18, 19, 20], zq_i S 232 j = zq_i s 232 j) (er : ∀ b, ¬ (4 ≤ b ∧ b ≤ 22) → zq_r S b = zq_r s b) (el : ∀ b, ¬ (4 ≤ b ∧ b ≤ 22) → b ≠ 259 → zq_l S b = zq_l s b) (hm : ym_I S) : yI S (dr, fl, ev, ct, F, t) := by
  obtain ⟨a1, a2, a3, a4, a5, a6, a7, a8⟩ := hI
  have a1 : yI_txt s dr fl F := a1
  have a2 : yI_top s F t := a2
  have a4 : yI_tab s t ev ct := a4
  have a5 : yI_cur s t ev := a5
  obtain ⟨f1, f2, t3, t4, t5, t6, t7, t8, t9, t10, t11, t12⟩ := a2
  have fiL : ∀ b, 26 < b → b < 232 → zq_i S b = zq_i s b := fun b h1 h2 => ei b (by omega) (by omega) (by unfold yirr; omega)
  have fiH : ∀ b, 236 < b → b < 245 → zq_i S b = zq_i s b := fun b h1 h2 => ei b (by omega) (by omega) (by unfold yirr; omega)
  refine ⟨a1.cong (fun b hb => ei b ?_ ?_ ?_) (ej 1 (by simp)) (ej 3 (by simp)), ⟨f1, f2, ?_, ?_, ?_, ?_, e11, e12, ?_, ?_, ?_, ?_⟩, a3.cong ?_ (fun b hb => fiL b (by omega) (by omega)) (el 34 (by omega) (by decide)) (el 133 (by omega) (by decide)), fun o' p1 p9 => ?_, yI_cur.cong a5 (ej 19 (by simp)) (ej 20 (by simp)) (fun o => by rw [fiH 237 (by decide) (by decide)]) (by rw [er 3 (by omega)]) (by rw [ei 3 (by decide) (by decide) (by unfold yirr; omega)]) (fun o o1 o9 => ?_), a6, a7.cong (by rw [fiH 240 (by decide) (by decide)]) (fun i _ => by rw [fiH 241 (by decide) (by decide)]) (fun b hb => ei b ?_ ?_ ?_), hm⟩
  · simp at hb; omega
  · simp at hb; omega
  · simp at hb; unfold yirr; omega
  · rw [er 0 (by omega)]; exact t3
  · rw [er 0 (by omega)]; exact t4
  · rw [er 0 (by omega)]; exact t5
  · rw [er 0 (by omega)]; exact t6
  · show zq_i S t 2 = _
    rw [fiL t (by omega) (by omega), ej 17 (by simp)]; exact t9
  · show zq_i S t 3 = _
    rw [fiL t (by omega) (by omega), ej 18 (by simp)]; exact t10
  · rw [ej 17 (by simp)]; exact t11
  · rw [ej 18 (by simp)]; exact t12
  · unfold ytl
    rw [er 0 (by omega)]
    congr 2
    · exact List.map_congr_left fun i hi => by rw [er (36 + 10 * i) (by omega)]
    · exact List.map_congr_left fun i hi => by rw [er (135 + 10 * i) (by omega)]
  · obtain ⟨r1, r2, r3, r4, r5, r6, r7, r8, r9⟩ := yk_sl f2 p1 p9
    refine yI_slot.cong (a4 o' p1 p9) (a8.2.2.2.2 o' (by omega) (by omega)) r2 (fiL (ysl t o') (by omega) (by omega)) (fiL (ysl t o' + 8) (by omega) (by omega)) (fiL (ysl t o' + 8 + 1) (by omega) (by omega)) (by show zq_r S (ysl t o') 4 = zq_r s (ysl t o') 4; rw [er (ysl t o') (by omega)]) (fun tr htr _ => ?_) (fun b hb => ?_) (fun i _ => by rw [fiH 241 (by decide) (by decide)]) (fun i _ => by rw [fiH 244 (by decide) (by decide)])
    · obtain ⟨tr', k1, k2, k3⟩ := yI_tre.slot a3 f2 p1 p9
      have : tr' = tr := Option.some.inj (k1.symm.trans htr)
      subst this
      have hb := yk_tree k2 k3
      refine ⟨fun q hq => ?_, el _ (by omega) (by omega)⟩
      have := yk_t7 hq
      exact fiL q (by omega) (by omega)
    · have hb2 : 237 ≤ b ∧ b ≤ 243 := by simp at hb; omega
      rw [fiH b (by omega) (by omega)]
  · have := yk_sl f2 o1 o9
    rw [er (ysl t o) (by omega)]
  · simp at hb; omega
  · simp at hb; omega
  · simp at hb; unfold yirr; omega
section YLD4
variable {X : Nat × (Nat → Int32)}
set_option maxRecDepth 100000 in
theorem yl_174 {S : zq_S} {K : Int → zq_S → Prop} {o : Nat} {d : ye_N} {es : List ye_E} (hmI : ym_I S) (ho : o ≤ 9) (hT6 : yp_T6 (ym_c S (10 + o))) (hC : yp_C (ym_c S (10 + o))) (hat : ye_at (ym_c S (10 + o)) 0 (ye_op d ++ (ye_pr (ye_nest d) es ++ [0]))) (hv : yv (.inl d :: es)) (hnm : ym_nm S 256 yNL)
    (k1 : ¬ (d.1 = 7 ∧ (yr_many (.inl d :: es) < 12 ∨ ye_fk yNL es 0 ≠ none)) → ∀ (S' : zq_S) (x : Int), 0 < x → ymf ymr_J ymr_A S S' → ym_I S' → K x S')
    (k2 : (d.1 = 7 ∧ (yr_many (.inl d :: es) < 12 ∨ ye_fk yNL es 0 ≠ none)) → ∀ S' : zq_S, ymf ymr_J ymr_A S S' → ym_I S' → K 0 S') : zq_Ex X 174 0 [.ref 232, zq_vi (o : Int)] [] S (zq_rp zq_iv K) := by
  have hq : ym_q (10 + (o : Int)) := ⟨by omega, by omega, Or.inr (by omega)⟩
  obtain ⟨⟨d0, e0, ed, er⟩, hwf, hmany, hdm, hkd⟩ := id hv
  obtain ⟨a1, a2⟩ := List.cons.inj ed
  have a1 : d = d0 := Sum.inl.inj a1
  subst a1
  subst a2
  obtain ⟨w1, w2, w3⟩ := id hwf
  have hl40 : es.length ≤ 40 := by
    have := ye_wf_len hwf
    simp only [List.length_nil, List.length_cons] at this
    have e : yr_many (.inl d :: es) = yr_many es + 1 := rfl
    omega
  refine zw_174 ⟨by omega, by omega⟩ (ys_159 hmI hq (by decide) (by decide) ?_)
  rw [ye_kind (by decide) w1 w3.oks hat]
  refine yl_if (fun h7 => ?_) (fun h7 => k1 (fun z => h7 z.1) S 1 (by decide) (ymf.refl _ _ _) hmI)
  have hn : ye_nest d = true := decide_eq_true (Or.inr h7)
  have w4 : ye_wf (d.1 :: []) es := by rw [if_pos hn] at w3; exact w3
  refine ys_175 (nm := yNL) (st := []) hmI hq hT6 (by decide) hnm (by decide) w1 h7 hat w4 hl40 (fun hf => ?_) (fun d' es' p hf hnd hp hwf' hlen' => ?_)
  · rw [if_pos (by decide)]
    obtain ⟨p', E', r1, r2⟩ := yr_back0 (by decide) hwf hat er (List.append_nil es).symm hkd hdm hmany hl40
    refine ys_145 hmI hq (by omega) hC (by decide) (by decide) r1 (fun s' w e => ?_) (fun s' S' e hmr hok _ f => ?_)
    · cases e
    · have e : (p', E', ([] : List (Int × Nat × List (List Int))), (none : Option (List Int))) = S' := Sum.inl.inj e
      have hm' : ym_I s' := f.I hmI (by decide) (by decide) (by
        have := hmr.2.2.2.2.2.2.2.2.2.1
        have := yr_made_len hok
        omega)
      have h27 : zq_i s' 232 27 = (yr_many (.inl d :: es) : Nat) := by
        rw [hmr.2.2.1, ← e]
        show ((yr_many E' : Nat) : Int) = _
        rw [(ye_dm_ke (q := (0, 0)) r2).2]
      rw [h27]
      refine yl_if (fun h12 => ?_) (fun h12 => ?_)
      · exact k1 (fun z => z.2.elim (fun y => by omega) (fun y => y hf)) s' 2 (by decide) f hm'
      · exact k2 ⟨h7, Or.inl (by omega)⟩ s' f hm'
  · rw [if_neg (by omega)]
    exact k2 ⟨h7, Or.inr (by rw [hf]; simp)⟩ S (ymf.refl _ _ _) hmI
set_option maxRecDepth 100000 in
theorem ys_172_54 {S : zq_S} {K : zq_S → Prop} {o : Nat} {dr : List Int} (ho : o ≤ 9) (hsz : zq_i S 232 1 = dr.length) (hl : dr.length ≤ 100) (hrow : yrow S 233 0 dr) : ∀ (m j : Nat) (b : Bool), j + m = dr.length → (b = false → (∀ i : Nat, j ≤ i → i < dr.length → dr.getD i 0 ≠ 10) → zq_Ex X 172 114 [.ref 232, zq_vi (o : Int), zq_vi 0, zq_vi 0] [] (zq_si S 232 21 (-1)) (zq_rv K)) → ((b = true ∨ ∃ i : Nat, j ≤ i ∧ i < dr.length ∧ dr.getD i 0 = 10) → K (zq_si (zq_si S 232 21 0) 232 0 3)) → zq_Ex X 172 54 [.ref 232, zq_vi (o : Int), zq_vi (yb b), zq_vi (j : Int)] [] S (zq_rv K)
  | 0, j, b, hj, k1, k2 => by
    refine zw_172_54 ⟨by omega, by omega⟩ (yb_bo b) ⟨by omega, by omega⟩ ?_
    rw [if_neg (by omega)]
    cases b with
    | false =>
      rw [if_pos (show yb false = 0 from rfl), if_pos (show yb false = 0 from rfl)]
      exact k1 rfl (fun i h1 h2 => by omega)
    | true =>
      rw [if_neg (show ¬ yb true = 0 by decide), if_neg (show ¬ yb true = 0 by decide)]
      exact k2 (Or.inl rfl)
  | m + 1, j, b, hj, k1, k2 => by
    refine zw_172_54 ⟨by omega, by omega⟩ (yb_bo b) ⟨by omega, by omega⟩ ?_
    have hcj : zq_i S 233 j = dr.getD j 0 := by
      have := hrow j (by omega)
      rw [show (0 : Int) + (j : Int) = j by omega] at this
      exact this
    rw [if_pos (by omega), show (j : Int) + 1 = ((j + 1 : Nat) : Int) by omega]
    have nextT : (b = true ∨ dr.getD j 0 = 10) → zq_Ex X 172 54 [.ref 232, zq_vi (o : Int), zq_vi 1, zq_vi ((j + 1 : Nat) : Int)] [] S (zq_rv K) := fun hb =>
      ys_172_54 ho hsz hl hrow m (j + 1) true (by omega) (fun z => (by cases z)) (fun _ => k2 (hb.imp id (fun y => ⟨j, Nat.le_refl _, by omega, y⟩)))
    cases b with
    | false =>
      rw [if_pos (show yb false = 0 from rfl), hcj]
      refine ⟨⟨by omega, by omega⟩, yl_if (fun e => nextT (Or.inr e)) (fun e => ?_)⟩
      refine ys_172_54 ho hsz hl hrow m (j + 1) false (by omega) (fun _ h => k1 rfl (fun i h1 h2 => ?_)) (fun h => ?_)
      · by_cases hij : i = j
        · rw [hij]; exact e
        · exact h i (by omega) h2
      · rcases h with z | ⟨i, i1, i2, i3⟩
        · cases z
        · exact k2 (Or.inr ⟨i, by omega, i2, i3⟩)
    | true =>
      rw [if_neg (show ¬ yb true = 0 by decide)]
      exact nextT (Or.inl rfl)
set_option maxRecDepth 100000 in
theorem ys_172_114 {s : zq_S} {K : zq_S → Prop} {o : Nat} {dr : List Int} (ho : o ≤ 9) (hsz : zq_i s 232 1 = dr.length) (hl : dr.length ≤ 12) (hrow : yrow s 233 0 dr) (k : ∀ S', (∀ b (j : Int), (b = 244 → j < 12 * o ∨ 12 * o + 12 ≤ j) → zq_i S' b j = zq_i s b j) → yrow S' 244 (12 * o) dr → S'.2 = s.2 → (zq_Ex X 180 0 [(.ref (232)), (zq_vi (o : Int)), (zq_vi (dr.length : Int)), zz_no, zz_no, zz_no, zz_no] [] (zq_si (zq_si S' (243) (o : Int) (dr.length : Int)) (242) (o : Int) (1)) (zq_rv fun s_6 => (zq_Ex X 171 0 [(.ref (232)), (zq_vi (o : Int))] [] (zq_si s_6 (232) (1) (0)) (zq_rv fun s_7 => K s_7))))) : ∀ (n j : Nat) (S : zq_S), j + n = dr.length → (∀ b (i : Int), (b = 244 → i < 12 * o ∨ 12 * o + j ≤ i) → zq_i S b i = zq_i s b i) → (∀ i : Nat, i < j → zq_i S 244 (12 * o + i) = dr.getD i 0) → S.2 = s.2 → zq_Ex X 172 114 [.ref 232, zq_vi (o : Int), zq_vi 0, zq_vi (j : Int)] [] S (zq_rv K)
  | 0, j, S, hj, fr, hd, h2 => by
    refine zw_172_114 ⟨by omega, by omega⟩ (Or.inl rfl) ⟨by omega, by omega⟩ ?_
    have e1 : zq_i S 232 1 = dr.length := by rw [fr 232 1 (fun z => by cases z)]; exact hsz
    rw [e1, if_neg (by omega)]
    exact ⟨⟨by omega, by omega⟩, ⟨by omega, by omega⟩, k S (fun b i n1 => fr b i (fun z => by have := n1 z; omega)) (fun i hi => hd i (by omega)) h2⟩
  | n + 1, j, S, hj, fr, hd, h2 => by
    refine zw_172_114 ⟨by omega, by omega⟩ (Or.inl rfl) ⟨by omega, by omega⟩ ?_
    have e1 : zq_i S 232 1 = dr.length := by rw [fr 232 1 (fun z => by cases z)]; exact hsz
    have e3 : zq_i S 233 j = dr.getD j 0 := by
      rw [fr 233 j (fun z => by cases z)]
      have := hrow j (by omega)
      rw [show (0 : Int) + (j : Int) = j by omega] at this
      exact this
    rw [e1, if_pos (by omega), e3]
    refine ⟨⟨by omega, by omega⟩, ⟨by omega, by omega⟩, ?_⟩
    rw [show (j : Int) + 1 = ((j + 1 : Nat) : Int) by omega]
    refine ys_172_114 ho hsz hl hrow k n (j + 1) _ (by omega) (fun b i n1 => ?_) (fun i hi => ?_) h2
    · rw [zq_i_si, if_neg (fun z => by have := n1 z.1; have := z.2; omega), fr b i (fun z => by have := n1 z; omega)]
    · rw [zq_i_si]
      by_cases e : i = j
      · rw [if_pos ⟨rfl, by omega⟩, e]
      · rw [if_neg (fun z => e (by have := z.2; omega))]
        exact hd i (by omega)
set_option maxRecDepth 100000 in
theorem yl_172 {S : zq_S} {K : zq_S → Prop} {dr : List Int} {x : Int} (hxi : zq_iv x) (hmI : ym_I S) (hsz : zq_i S 232 1 = dr.length) (hrow : yrow S 233 0 dr) (hnm : ym_nm S 256 yNL) {ev : Nat → List ye_E}
    (hob : ∀ o : Nat, 1 ≤ o → o ≤ 9 → zq_i S 237 o ≠ 0 → ∃ d es, ev o = .inl d :: es ∧ yv (.inl d :: es) ∧ zq_i S 240 o = (ye_pr true (.inl d :: es)).length ∧ yrow S 241 (500 * o) (ye_pr true (.inl d :: es)))
    (k1 : ¬ (1 ≤ x ∧ x ≤ 9 ∧ zq_i S 237 x ≠ 0) → K (zq_si S 232 0 1))
    (k2 : ∀ (o : Nat) (d : ye_N) (es : List ye_E) (S' : zq_S), x = o → 1 ≤ o → o ≤ 9 → zq_i S 237 o ≠ 0 → ev o = .inl d :: es → ¬ (d.1 = 7 ∧ (yr_many (.inl d :: es) < 12 ∨ ye_fk yNL es 0 ≠ none)) → ymf ymr_J ymr_A S S' → ym_I S' → K (zq_si S' 232 0 2))
    (k3 : ∀ (o : Nat) (d : ye_N) (es : List ye_E) (S' : zq_S), x = o → 1 ≤ o → o ≤ 9 → zq_i S 237 o ≠ 0 → ev o = .inl d :: es → (d.1 = 7 ∧ (yr_many (.inl d :: es) < 12 ∨ ye_fk yNL es 0 ≠ none)) → (12 < dr.length ∨ 10 ∈ dr) → ymf (0 :: 21 :: ymr_J) ymr_A S S' → zq_i S' 232 0 = 3 → zq_i S' 232 21 = 0 → ym_I S' → K S')
    (k4 : ∀ (o : Nat) (d : ye_N) (es es2 : List ye_E) (S' : zq_S), x = o → 1 ≤ o → o ≤ 9 → zq_i S 237 o ≠ 0 → ev o = .inl d :: es → (d.1 = 7 ∧ (yr_many (.inl d :: es) < 12 ∨ ye_fk yNL es 0 ≠ none)) → dr.length ≤ 12 → 10 ∉ dr → ynew es dr.length es2 → yN S S' o (ye_pr true (.inl d :: es2)) dr → ym_I S' → K S') :
    zq_Ex X 172 0 [.ref 232, zq_vi x, zz_no, zz_no] [] S (zq_rv K) := by
  have hdr : dr.length ≤ 100 := by have := hmI.1; omega
  refine zw_172 hxi (ys_173i hxi (fun hno => ?_) (fun h1 h9 hu => ?_))
  · rw [if_pos rfl]
    exact k1 hno
  rw [if_neg (by decide)]
  obtain ⟨o, ho⟩ : ∃ o : Nat, x = o := ⟨x.toNat, by omega⟩
  rw [ho] at hu ⊢
  have o1 : 1 ≤ o := by omega
  have o9 : o ≤ 9 := by omega
  obtain ⟨d, es, hev, hv, b5, b6⟩ := hob o o1 o9 hu
  have hsu := yob_su b5 b6
  have hwf := hv.2.1
  have hky : ye_ky d = [] := by
    have : d.2.2.2.1 = [] := hwf.2.1
    unfold ye_ky
    rw [if_pos this]
  have hat : ye_at (ym_c S (10 + o)) 0 (ye_op d ++ (ye_pr (ye_nest d) es ++ [0])) := by
    have := ye_su_node1 hsu
    rw [hky] at this
    exact this
  have h444 := yv_len hv
  have hT6 : ∀ Z : zq_S, zq_i Z 240 o ≤ 500 → yp_T6 (ym_c Z (10 + o)) := fun Z hz j hj => by
    unfold ym_c
    rw [if_neg (by omega), if_neg (by omega), if_neg (by omega), if_neg (by omega), if_neg (by omega), if_neg (by rw [show (10 : Int) + (o : Int) - 10 = o by omega]; omega)]
  refine yl_174 (d := d) (es := es) hmI o9 (hT6 S (by omega)) (yob_C b5 b6 hwf.oks) hat hv hnm (fun hbad S' y hy f hm' => ?_) (fun hgood S' f hm' => ?_)
  · rw [if_neg (by omega)]
    exact k2 o d es S' ho o1 o9 hu hev hbad f hm'
  rw [if_pos (by decide)]
  have e1 : zq_i S' 232 1 = dr.length := by rw [f.f (by decide)]; exact hsz
  have fr0 : ymf (0 :: 21 :: ymr_J) ymr_A S (zq_si S' 232 0 0) := (f.mono (by simp) (by simp)).trans (ymf.sf (by simp))
  have e1' : zq_i (zq_si S' 232 0 0) 232 1 = dr.length := by rw [zq_i_si, if_neg (by decide)]; exact e1
  have hrow' : yrow (zq_si S' 232 0 0) 233 0 dr := hrow.cong (by rw [fr0.i (by decide) (by decide)])
  have bad : (12 < dr.length ∨ 10 ∈ dr) → K (zq_si (zq_si (zq_si S' 232 0 0) 232 21 0) 232 0 3) := fun hb => by
    refine k3 o d es _ ho o1 o9 hu hev hgood hb (fr0.trans ((ymf.sf (by simp)).trans (ymf.sf (by simp)))) (zq_i_at _ _ _ _) ?_ ?_
    · rw [zq_i_si, if_neg (by decide), zq_i_at]
    · exact (((hm'.th 0).j 0 (by decide)).th 3)
  have good : dr.length ≤ 12 → (10 : Int) ∉ dr → zq_Ex X 172 114 [.ref 232, zq_vi (o : Int), zq_vi 0, zq_vi ((0 : Nat) : Int)] [] (zq_si (zq_si S' 232 0 0) 232 21 (-1)) (zq_rv K) := fun h12 hno => by
    obtain ⟨Z, hZ⟩ : ∃ Z, Z = zq_si (zq_si S' 232 0 0) 232 21 (-1) := ⟨_, rfl⟩
    rw [← hZ]
    have frZ : ymf (0 :: 21 :: ymr_J) ymr_A S Z := by rw [hZ]; exact fr0.trans (ymf.sf (by simp))
    have zb : ∀ b, b ∉ ymr_A → b ≠ 232 → zq_i Z b = zq_i S b := fun b h1 h2 => frZ.i h1 h2
    have z0 : zq_i Z 232 0 = 0 := by rw [hZ, zq_i_si, if_neg (by decide), zq_i_at]
    have z21 : zq_i Z 232 21 = -1 := by rw [hZ, zq_i_at]
    have hmZ : ym_I Z := by rw [hZ]; exact (hm'.th 0).j (-1) (by decide)
    refine ys_172_114 (s := Z) (dr := dr) o9 (by rw [hZ, zq_i_si, if_neg (by decide)]; exact e1') h12 (hrow.cong (zb 233 (by decide) (by decide))) (fun S4 g1 g2 g3 => ?_) dr.length 0 Z (by omega) (fun _ _ _ => rfl) (fun i hi => by cases hi) rfl
    -- the state in which Length is given
    obtain ⟨Y, hY⟩ : ∃ Y, Y = zq_si (zq_si S4 243 (o : Int) (dr.length : Int)) 242 (o : Int) 1 := ⟨_, rfl⟩
    rw [← hY]
    have yb1 : ∀ b (j : Int), (b ∈ [242, 243] → j ≠ o) → (b = 244 → j < 12 * o ∨ 12 * o + 12 ≤ j) → zq_i Y b j = zq_i Z b j := fun b j n1 n2 => by
      rw [hY, zq_i_si, if_neg (fun z => n1 (by rw [z.1]; simp) z.2), zq_i_si, if_neg (fun z => n1 (by rw [z.1]; simp) z.2), g1 b j n2]
    have yfull : ∀ b, b ≠ 242 → b ≠ 243 → b ≠ 244 → zq_i Y b = zq_i Z b := fun b n1 n2 n3 => by
      funext j
      exact yb1 b j (fun z => by simp at z; omega) (fun z => absurd z n3)
    have y242 : zq_i Y 242 o = 1 := by rw [hY, zq_i_at]
    have y243 : zq_i Y 243 o = dr.length := by rw [hY, zq_i_si, if_neg (fun z => absurd z.1 (by decide)), zq_i_at]
    have y244 : yrow Y 244 (12 * o) dr := g2.cong (by
      funext j
      rw [hY, zq_i_si, if_neg (fun z => absurd z.1 (by decide)), zq_i_si, if_neg (fun z => absurd z.1 (by decide))])
    have y2 : Y.2 = Z.2 := by rw [hY]; exact g3
    have hmY : ym_I Y := hmZ.cong (fun j _ => by rw [yfull 232 (by decide) (by decide) (by decide)]) (yfull 240 (by decide) (by decide) (by decide))
    have yS : ∀ b, b ∉ ymr_A → b ≠ 232 → b ≠ 242 → b ≠ 243 → b ≠ 244 → zq_i Y b = zq_i S b := fun b h1 h2 h3 h4 h5 => by rw [yfull b h3 h4 h5, zb b h1 h2]
    have fin : ∀ (es2 : List ye_E) (S6 : zq_S), ynew es dr.length es2 → yG Y S6 o (ye_pr true (.inl d :: es2)) → (ye_pr true (.inl d :: es2)).length ≤ 500 → zq_Ex X 171 0 [(.ref (232)), (zq_vi (o : Int))] [] (zq_si S6 (232) (1) (0)) (zq_rv fun s_7 => K s_7) := fun es2 S6 hnew hG h500 => by
      obtain ⟨G1, G2, G3, G4, G5, G6⟩ := hG
      refine zw_171 ⟨by omega, by omega⟩ ⟨⟨by omega, by omega⟩, ?_⟩
      have fb : ∀ b (j : Int), b ≠ 232 → ¬ (b = 239 ∧ j = o) → zq_i (zq_si (zq_si (zq_si S6 232 1 0) 239 o 1) 232 19 (-1)) b j = zq_i S6 b j := fun b j n1 n2 => by
        rw [zq_i_si, if_neg (fun z => n1 z.1), zq_i_si, if_neg n2, zq_i_si, if_neg (fun z => n1 z.1)]
      have fj : ∀ j : Int, j ≠ 1 → j ≠ 19 → zq_i (zq_si (zq_si (zq_si S6 232 1 0) 239 o 1) 232 19 (-1)) 232 j = zq_i S6 232 j := fun j n1 n2 => by
        rw [zq_i_si, if_neg (fun z => n2 z.2), zq_i_si, if_neg (fun z => absurd z.1 (by decide)), zq_i_si, if_neg (fun z => n1 z.2)]
      have f1 : zq_i (zq_si (zq_si (zq_si S6 232 1 0) 239 o 1) 232 19 (-1)) 232 1 = 0 := by
        rw [zq_i_si, if_neg (by decide), zq_i_si, if_neg (fun z => absurd z.1 (by decide)), zq_i_at]
      have y232 : zq_i Y 232 = zq_i Z 232 := yfull 232 (by decide) (by decide) (by decide)
      refine k4 o d es es2 _ ho o1 o9 hu hev hgood h12 hno hnew ⟨fun b j n1 n2 n3 n4 n5 => ?_, fun j n1 n2 => ?_, ⟨?_, f1, ?_, zq_i_at _ _ _ _⟩, ⟨?_, ?_, fun i hi => ?_, ?_, ?_, fun i hi => ?_⟩, ?_⟩ ?_
      · rw [fb b j n1 (fun z => n3 (by rw [z.1]; simp) z.2), G1 b j n1 (fun z => n2 (by rw [z]; simp)) (fun z => n3 (by rw [z]; simp)) n4, yb1 b j (fun z => n3 (by simp at z ⊢; omega)) n5, zb b n2 n1]
      · simp at n1 n2
        rw [fj j n1.2.1 n1.2.2.1, G2 j n2.1, y232, frZ.f (by simp; omega)]
      · rw [fj 0 (by decide) (by decide), G2 0 (by decide), y232]; exact z0
      · rw [fj 21 (by decide) (by decide), G2 21 (by decide), y232]; exact z21
      · rw [zq_i_si, if_neg (fun z => absurd z.1 (by decide)), zq_i_at]
      · rw [fb 240 _ (by decide) (fun z => absurd z.1 (by decide))]; exact G3
      · rw [fb 241 _ (by decide) (fun z => absurd z.1 (by decide))]; exact G4 i hi
      · rw [fb 242 _ (by decide) (fun z => absurd z.1 (by decide)), G1 242 _ (by decide) (by decide) (fun z => by cases z) (fun z => by cases z)]; exact y242
      · rw [fb 243 _ (by decide) (fun z => absurd z.1 (by decide)), G1 243 _ (by decide) (by decide) (fun z => by cases z) (fun z => by cases z)]; exact y243
      · rw [fb 244 _ (by decide) (fun z => absurd z.1 (by decide)), G1 244 _ (by decide) (by decide) (fun z => by cases z) (fun z => by cases z)]; exact y244 i hi
      · show S6.2 = S.2
        rw [G5, y2, frZ.2.2]
      · refine ⟨?_, ?_, ?_, ?_, fun i i0 i1 => ?_⟩
        · rw [f1]; decide
        · rw [fj 3 (by decide) (by decide), G2 3 (by decide)]; exact hmY.2.1
        · rw [fj 5 (by decide) (by decide), G2 5 (by decide)]; exact hmY.2.2.1
        · rw [fj 23 (by decide) (by decide)]; exact G6
        · rw [fb 240 _ (by decide) (fun z => absurd z.1 (by decide))]
          by_cases hio : i = o
          · rw [hio, G3]; omega
          · rw [G1 240 i (by decide) (by decide) (fun _ => hio) (fun z => by cases z)]
            exact hmY.2.2.2.2 i i0 i1
    have hnew500 : ∀ es2, ynew es dr.length es2 → (ye_pr true (.inl d :: es2)).length ≤ 500 := fun es2 hnew => by
      have hroom : ye_fk yNL es 0 = none → yr_many (.inl d :: es) < 12 := fun hf => hgood.2.elim id (fun z => absurd hf z)
      have := yv_len (hnew.yv (by omega) (by omega) hv hgood.1 hroom)
      omega
    have b5Y : zq_i Y 240 o = (ye_pr true (.inl d :: es)).length := by rw [yS 240 (by decide) (by decide) (by decide) (by decide) (by decide)]; exact b5
    have b6Y : yrow Y 241 (500 * o) (ye_pr true (.inl d :: es)) := b6.cong (yS 241 (by decide) (by decide) (by decide) (by decide) (by decide))
    have hnmY : ym_nm Y 256 yNL := by
      unfold ym_nm
      rw [yS 256 (by decide) (by decide) (by decide) (by decide) (by decide)]
      exact hnm
    refine ys_180 (s := Y) hmY o9 (by omega) (by omega) (hT6 Y (by omega)) b5Y b6Y hv hgood.1 hnmY (fun d' es' hf h8 => ?_) (fun d' es' mid R S6 hf h8 e1 e2 e3 hG => ?_) (fun B S6 hf e1 e2 hG => ?_)
    · have hnew : ynew es dr.length es := Or.inl ⟨d', es', hf, h8, rfl⟩
      exact fin es Y hnew ⟨fun _ _ _ _ _ _ => rfl, fun _ _ => rfl, b5Y, b6Y, rfl, hmY.2.2.2.1⟩ (hnew500 es hnew)
    · have hnew : ynew es dr.length (mid ++ .inl (yln dr.length) :: R) := Or.inr (Or.inl ⟨d', es', mid, R, hf, h8, e1, e2, e3, rfl⟩)
      exact fin _ S6 hnew hG (hnew500 _ hnew)
    · have hnew : ynew es dr.length (B ++ [.inl (yln dr.length), .inr 7]) := Or.inr (Or.inr ⟨B, hf, e1, e2, rfl⟩)
      exact fin _ S6 hnew hG (hnew500 _ hnew)
  have hx10 : ∀ i : Nat, i < dr.length → dr.getD i 0 = 10 → (10 : Int) ∈ dr := fun i hi e => by rw [← e]; exact yl_getD hi
  rw [e1]
  refine yl_if (fun h12 => ?_) (fun h12 => ?_)
  · exact ys_172_54 (dr := dr) o9 e1' hdr hrow' dr.length 0 false (by omega) (fun _ h => good (by omega) (yl_getD10 (fun i hi => h i (by omega) hi))) (fun h => by
      rcases h with z | ⟨i, _, i2, i3⟩
      · cases z
      · exact bad (Or.inr (hx10 i i2 i3)))
  · exact ys_172_54 (dr := dr) o9 e1' hdr hrow' dr.length 0 true (by omega) (fun z => (by cases z)) (fun _ => bad (Or.inl (by omega)))
set_option maxRecDepth 100000 in
theorem yl_256 (hX : X.1 ≤ 1536) : yl_C X 256 := fun s A m v5 v6 h5 h6 hI hm hmX next => by
  obtain ⟨dr, fl, ev, ct, F, t⟩ := A
  have f1 : F = 23 ∨ F = 25 := hI.2.1.1
  have f2 : t = 27 ∨ t = 126 := hI.2.1.2.1
  have a3 : yI_tre s := hI.2.2.1
  have a4 : yI_tab s t ev ct := hI.2.2.2.1
  have hmI : ym_I s := hI.2.2.2.2.2.2.2
  have hnm : ym_nm s 256 yNL := hI.2.2.2.2.2.2.1.2.2.1
  obtain ⟨⟨v, hx⟩, hc, b3, b4, _⟩ := id hI.1
  have hx : yx s 1 (dr, v) := hx
  have hc : ∀ c ∈ dr, yp_isC c = true := hc
  have b3 : zq_i s 232 1 = dr.length := b3
  have b4 : yrow s 233 0 dr := b4
  have hb : (0 : Int) ≤ 3 * (m : Int) + 1 ∧ 3 * (m : Int) + 1 < (X.1 : Int) := ⟨by omega, by omega⟩
  have used : ∀ o : Nat, 1 ≤ o → o ≤ 9 → zq_i s 237 o ≠ 0 → zq_i s 237 o = 1 := fun o h1 h9 hu => by
    obtain ⟨d1, d2, _⟩ := a4 o h1 h9
    rw [d2] at d1
    rcases d1.1 with w | w
    · exact absurd w hu
    · exact w
  have hob : ∀ o : Nat, 1 ≤ o → o ≤ 9 → zq_i s 237 o ≠ 0 → ∃ d es, ev o = .inl d :: es ∧ yv (.inl d :: es) ∧ zq_i s 240 o = (ye_pr true (.inl d :: es)).length ∧ yrow s 241 (500 * o) (ye_pr true (.inl d :: es)) := fun o h1 h9 hu => by
    obtain ⟨tr, c1, c2, c3, c4, c5, c6⟩ := hI.obj h9 (fun _ => used o h1 h9 hu)
    obtain ⟨⟨d, es, e1, e2⟩, e3⟩ := id c4
    rw [e1] at c4 c5 c6
    exact ⟨d, es, e1, c4, c5, c6⟩
  refine zw_0_256 (by omega) ⟨by omega, by omega⟩ h5 h6 ⟨hb, ?_⟩
  have hxi := zq_in32 (X.2 (3 * (m : Int) + 1).toNat)
  generalize (X.2 (3 * (m : Int) + 1).toNat).toInt = x at hxi ⊢
  have hn1 : zq_n s < 1000 := by omega
  refine zw_234 hxi (yl_72 hI hxi hn1 (fun hno => ?_) (fun o d es ho h1 h9 hu hev hbad => ?_) (fun o d es ho h1 h9 hu hev hgood hdr => ?_) (fun o d es tr s' es2 ho h1 h9 hu hev hgood h12 hno htr hnew hQ htr2 => ?_))
  · rw [if_pos rfl]
    have hno2 : ¬ (1 ≤ x ∧ x ≤ 9 ∧ zq_i s 237 x ≠ 0) := fun z => hno ⟨z.1, z.2.1, by
      obtain ⟨o, ho⟩ : ∃ o : Nat, x = o := ⟨x.toNat, by omega⟩
      rw [ho] at z ⊢
      exact used o (by omega) (by omega) z.2.2⟩
    refine ⟨hb, yl_172 (S := zq_sx s 13) (ev := ev) (dr := dr) hxi hmI b3 b4 hnm hob (fun _ => ?_) (fun o d es S' ho h1 h9 hu => ?_) (fun o d es S' ho h1 h9 hu => ?_) (fun o d es es2 S' ho h1 h9 hu => ?_)⟩
    · exact yl_say0 h6 ((hI.exc 13).th 1) (by rw [zq_n_si, zq_n_sx]; omega) (zq_i_at _ _ _ _) next
    · exact absurd ⟨by omega, by omega, by rw [ho]; exact hu⟩ hno2
    · exact absurd ⟨by omega, by omega, by rw [ho]; exact hu⟩ hno2
    · exact absurd ⟨by omega, by omega, by rw [ho]; exact hu⟩ hno2
  · rw [if_neg (by decide), if_pos rfl]
    have same : ∀ (o' : Nat) (d' : ye_N) (es' : List ye_E), x = o' → ev o' = .inl d' :: es' → d' = d ∧ es' = es := fun o' d' es' e1 e2 => by
      have : o' = o := by omega
      rw [this, hev] at e2
      obtain ⟨z1, z2⟩ := List.cons.inj e2
      exact ⟨(Sum.inl.inj z1).symm, z2.symm⟩
    refine ⟨hb, yl_172 (S := zq_sx s 11) (ev := ev) (dr := dr) hxi hmI b3 b4 hnm hob (fun z => ?_) (fun o' d' es' S' ho' _ _ _ hev' _ f hm' => ?_) (fun o' d' es' S' ho' _ _ _ hev' hg => ?_) (fun o' d' es' es2 S' ho' _ _ _ hev' hg => ?_)⟩
    · exfalso
      refine z ⟨by omega, by omega, ?_⟩
      show zq_i s 237 x ≠ 0
      rw [ho, hu]
      decide
    · have hI' : yI S' (dr, fl, ev, ct, F, t) := f.yI (hI.exc 11) (by decide) (fun b hb => by simp at hb; omega) hm'
      exact yl_say0 h6 (hI'.th 2) (by rw [zq_n_si, f.n, zq_n_sx]; omega) (zq_i_at _ _ _ _) next
    · obtain ⟨z1, z2⟩ := same o' d' es' ho' hev'
      rw [z1, z2] at hg
      exact absurd hg hbad
    · obtain ⟨z1, z2⟩ := same o' d' es' ho' hev'
      rw [z1, z2] at hg
      exact absurd hg hbad
  · rw [if_neg (by decide), if_neg (by decide), if_pos rfl]
    have same : ∀ (o' : Nat) (d' : ye_N) (es' : List ye_E), x = o' → ev o' = .inl d' :: es' → d' = d ∧ es' = es := fun o' d' es' e1 e2 => by
      have : o' = o := by omega
      rw [this, hev] at e2
      obtain ⟨z1, z2⟩ := List.cons.inj e2
      exact ⟨(Sum.inl.inj z1).symm, z2.symm⟩
    obtain ⟨Z, hZ⟩ : ∃ Z, Z = zq_sx (zq_si s 0 11 0) 10 := ⟨_, rfl⟩
    rw [← hZ]
    have zb : ∀ b, b ≠ 0 → zq_i Z b = zq_i s b := fun b hb => by
      rw [hZ]
      funext j
      show zq_i (zq_si s 0 11 0) b j = zq_i s b j
      rw [zq_i_si, if_neg (fun z => hb z.1)]
    have z12 : zq_i Z 0 12 = zq_i s 0 12 := by
      rw [hZ]
      show zq_i (zq_si s 0 11 0) 0 12 = _
      rw [zq_i_si, if_neg (by decide)]
    have z11 : zq_i Z 0 11 = 0 := by
      rw [hZ]
      show zq_i (zq_si s 0 11 0) 0 11 = _
      rw [zq_i_at]
    have zr : zq_r Z = zq_r s := by rw [hZ]; rfl
    have zl : zq_l Z = zq_l s := by rw [hZ]; rfl
    have zn : zq_n Z = zq_n s + 1 := by rw [hZ]; rfl
    refine ⟨hb, yl_172 (S := Z) (ev := ev) (dr := dr) hxi (hmI.cong (fun j _ => by rw [zb 232 (by decide)]) (zb 240 (by decide))) (by rw [zb 232 (by decide)]; exact b3) (b4.cong (zb 233 (by decide))) (by unfold ym_nm; rw [zb 256 (by decide)]; exact hnm) (fun o' h1 h9 hu' => by rw [zb 240 (by decide)]; rw [zb 237 (by decide)] at hu'; obtain ⟨d', es', q1, q2, q3, q4⟩ := hob o' h1 h9 hu'; exact ⟨d', es', q1, q2, q3, q4.cong (zb 241 (by decide))⟩) (fun z => ?_) (fun o' d' es' S' ho' _ _ _ hev' hbad => ?_) (fun o' d' es' S' ho' _ _ _ hev' _ _ f e0 e21 hm' => ?_) (fun o' d' es' es2 S' ho' _ _ _ hev' _ h12 hno => ?_)⟩
    · exfalso
      refine z ⟨by omega, by omega, ?_⟩
      rw [zb 237 (by decide), ho, hu]
      decide
    · obtain ⟨z1, z2⟩ := same o' d' es' ho' hev'
      rw [z1, z2] at hbad
      exact absurd hgood hbad
    · refine yl_say0 (A := (dr, fl, ev, ct, F, t)) h6 (hI.told (fun b n0 n2 n3 => ?_) ?_ ?_ (fun j hj => ?_) (fun b hb => ?_) (fun b hb h9 => ?_) hm') (by rw [f.n, zn]; omega) e0 next
      · rw [f.i (by unfold yirr at n3; simp; omega) n2, zb b n0]
      · rw [f.i (b := 0) (by decide) (by decide), z12, f.f (by decide), zb 232 (by decide)]
        exact hI.2.1.2.2.2.2.2.2.2.1
      · rw [f.i (b := 0) (by decide) (by decide), z11, e21]
      · rw [f.f (by simp at hj ⊢; omega), zb 232 (by decide)]
      · rw [f.r, zr]
      · rw [f.l, zl]
    · exfalso
      rcases hdr with z | z
      · omega
      · exact hno z
  · obtain ⟨tr', j1, j2, j3⟩ := a3.slot f2 h1 h9
    have htt : tr' = tr := Option.some.inj (j1.symm.trans htr)
    subst htt
    have hbt := yk_tree j2 j3
    obtain ⟨r1, r2, r3, r4, r5, r6, r7, r8, r9⟩ := yk_sl f2 h1 h9
    have n0 : ysl t o ∉ yc_t7 tr' := fun z => (yk_tcells j2 z).2.1 r1
    have same : ∀ (o' : Nat) (d' : ye_N) (es' : List ye_E), x = o' → ev o' = .inl d' :: es' → d' = d ∧ es' = es := fun o' d' es' e1 e2 => by
      have : o' = o := by omega
      rw [this, hev] at e2
      obtain ⟨z1, z2⟩ := List.cons.inj e2
      exact ⟨(Sum.inl.inj z1).symm, z2.symm⟩
    obtain ⟨Q1, Q2, Q3, Q4, Q5, Q6, Q7, Q8, Q9⟩ := hQ
    have lot : ∀ b, (b < 30 ∨ 231 < b) → b ∉ yc_t7 tr' := fun b hb z => by have := yk_t7 z; omega
    have zb : ∀ b, 232 ≤ b → zq_i s' b = zq_i s b := fun b hb => Q1 b (by simp; omega) (lot b (by omega))
    refine ⟨hb, yl_172 (S := s') (ev := ev) (dr := dr) hxi (hmI.cong (fun j _ => by rw [zb 232 (by decide)]) (zb 240 (by decide))) (by rw [zb 232 (by decide)]; exact b3) (b4.cong (zb 233 (by decide))) (by unfold ym_nm; rw [zb 256 (by decide)]; exact hnm) (fun o' h1 h9 hu' => by rw [zb 240 (by decide)]; rw [zb 237 (by decide)] at hu'; obtain ⟨d', es', q1, q2, q3, q4⟩ := hob o' h1 h9 hu'; exact ⟨d', es', q1, q2, q3, q4.cong (zb 241 (by decide))⟩) (fun z => ?_) (fun o' d' es' S' ho' _ _ _ hev' hbad => ?_) (fun o' d' es' S' ho' _ _ _ hev' _ hb2 => ?_) (fun o' d' es' es3 S' ho' _ _ _ hev' _ _ _ hnew' hN hm' => ?_)⟩
    · exfalso
      refine z ⟨by omega, by omega, ?_⟩
      rw [zb 237 (by decide), ho, hu]
      decide
    · obtain ⟨z1, z2⟩ := same o' d' es' ho' hev'
      rw [z1, z2] at hbad
      exact absurd hgood hbad
    · exfalso
      rcases hb2 with z | z
      · omega
      · exact hno z
    · obtain ⟨z1, z2⟩ := same o' d' es' ho' hev'
      subst z1
      subst z2
      have hoo : o' = o := by omega
      subst hoo
      have he3 := hnew'.eq hnew
      subst he3
      obtain ⟨N1, N2, N3, N4, N5⟩ := hN
      have er : zq_r S' = zq_r s' := by unfold zq_r; rw [N5]
      have el : zq_l S' = zq_l s' := by unfold zq_l; rw [N5]
      have en : zq_n S' = zq_n s' := by unfold zq_n; rw [N5]
      have lo : ∀ b, b < 232 → zq_i S' b = zq_i s' b := fun b hb => by
        funext j
        exact N1 b j (by omega) (by simp; omega) (fun z => by simp at z; omega) (fun z => by omega) (fun z => by omega)
      have hroom : ye_fk yNL es' 0 = none → yr_many (.inl d' :: es') < 12 := fun hf => hgood.2.elim id (fun z => absurd hf z)
      obtain ⟨d1, d2, d3, d4, d5, d6⟩ := a4 o' h1 h9
      have hv0 : yv (.inl d' :: es') := by
        obtain ⟨d9, es9, q1, q2, _⟩ := hob o' h1 h9 (by rw [hu]; decide)
        obtain ⟨z1, z2⟩ := same o' d9 es9 ho q1
        rw [← z1, ← z2]
        exact q2
      refine yl_say0 (A := ([], fl, fun n => if n = o' then .inl d' :: es3 else ev n, fun n => if n = o' then dr else ct n, F, t)) h6 (hI.cont h1 h9 htr (fun b j n1 n2 n3 n4 n5 n6 n7 n8 n9 => ?_) ?_ ?_ (fun j hj => ?_) N3.2.1 ⟨0, Q3.cong (lo 1 (by decide)) (lo 2 (by decide))⟩ N3.2.2.2 ⟨?_, ?_, ?_, ?_⟩ ⟨?_, N4⟩ ⟨0, Q5.cong (lo _ (by omega)) (lo _ (by omega))⟩ (fun c hc2 => ?_) ⟨d', es3, rfl, hgood.1⟩ (fun b j m1 m2 => ?_) ?_ (fun b m1 m2 m3 => ?_) (htr2.cong (fun q hq => lo q (by have := yk_t7 hq; omega)) (by rw [el])) (hnew.yv (by omega) (by omega) hv0 hgood.1 hroom) hm') (by rw [en, Q9]; omega) N3.1 next
      · rw [N1 b j (by simp at n1; omega) (by unfold yirr at n3; simp; omega) n7 n8 n9, Q1 b (by simp at n1 ⊢; omega) n2]
      · rw [lo 0 (by decide)]; exact Q2.1
      · rw [lo 0 (by decide), Q2.2, N3.2.2.1]
      · rw [N2 j (by simp at hj ⊢; omega) (by simp at hj ⊢; omega), zb 232 (by decide)]
      · rw [lo _ (by omega), Q4.1, d2]; exact hu
      · rw [lo _ (by omega)]; exact Q4.2.1
      · rw [lo _ (by omega)]; exact Q4.2.2.1
      · rw [lo _ (by omega)]; exact Q4.2.2.2
      · rw [N1 237 o' (by decide) (by decide) (fun z => absurd z (by decide)) (fun z => by cases z) (fun z => by cases z), zb 237 (by decide)]; exact hu
      · have h10 : c ≠ 10 := fun z => hno (by rw [← z]; exact hc2)
        have := of_decide_eq_true (hc c hc2)
        omega
      · rw [er, Q6 b j m2]
      · rw [er]; exact Q7
      · rw [el, Q8 b m2]
end YLD4
