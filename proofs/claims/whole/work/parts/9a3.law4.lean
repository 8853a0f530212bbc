/-! the invariant, piece by piece; the law's case root -/
set_option maxRecDepth 100000 in
theorem yI_txt.cong {s s' : zq_S} {dr fl : List Int} {F : Nat} (h : yI_txt s dr fl F) (ei : ∀ b ∈ [1, 2, 233, 234, F, F + 1], zq_i s' b = zq_i s b) (e1 : zq_i s' 232 1 = zq_i s 232 1) (e3 : zq_i s' 232 3 = zq_i s 232 3) : yI_txt s' dr fl F := by
  obtain ⟨⟨v1, b1⟩, b2, b3, b4, ⟨v2, b5⟩, b6, b7, b8⟩ := h
  exact ⟨⟨v1, b1.cong (ei 1 (by simp)) (ei 2 (by simp))⟩, b2, e1.trans b3, b4.cong (ei 233 (by simp)), ⟨v2, b5.cong (ei F (by simp)) (ei (F + 1) (by simp))⟩, b6, e3.trans b7, b8.cong (ei 234 (by simp))⟩
set_option maxRecDepth 100000 in
theorem yI_tre.cong {s s' : zq_S} (h : yI_tre s) (hl : ytl s' = ytl s) (ei : ∀ b, (29 ≤ b ∧ b ≤ 35) ∨ (128 ≤ b ∧ b ≤ 134) → zq_i s' b = zq_i s b) (e1 : zq_l s' 34 = zq_l s 34) (e2 : zq_l s' 133 = zq_l s 133) : yI_tre s' := by
  obtain ⟨h1, h2, h3⟩ := h
  refine ⟨by rw [hl]; exact h1, h2.cong (fun q hq => ei q ?_) e1, h3.cong (fun q hq => ei q ?_) e2⟩
  · simp at hq; omega
  · simp at hq; omega
set_option maxRecDepth 100000 in
theorem yrow.cong2 {s s' : zq_S} {b : Nat} {k : Int} {l : List Int} {n : Nat} (h : yrow s b k l) (hl : l.length ≤ n) (h1 : ∀ i : Nat, i < n → zq_i s' b (k + i) = zq_i s b (k + i)) : yrow s' b k l := fun i hi => (h1 i (by omega)).trans (h i hi)
set_option maxRecDepth 100000 in
theorem yI_slot.cong {s s' : zq_S} {sl o : Nat} {es : List ye_E} {ct : List Int} (h : yI_slot s sl o es ct) (h5 : zq_i s 240 o ≤ 500) (hT : zq_T (sl + 8) = 12) (e0 : zq_i s' sl = zq_i s sl) (e8 : zq_i s' (sl + 8) = zq_i s (sl + 8)) (e9 : zq_i s' (sl + 8 + 1) = zq_i s (sl + 8 + 1)) (er : zq_r s' sl 4 = zq_r s sl 4) (et : ∀ tr, zq_r s sl 4 = some tr → zq_i s sl 0 = 1 → (∀ q ∈ yc_t7 tr, zq_i s' q = zq_i s q) ∧ zq_l s' (tr + 5) = zq_l s (tr + 5)) (eb : ∀ b ∈ [237, 238, 239, 240, 242, 243], zq_i s' b o = zq_i s b o) (e241 : ∀ i : Nat, i < 500 → zq_i s' 241 (500 * o + i) = zq_i s 241 (500 * o + i)) (e244 : ∀ i : Nat, i < 12 → zq_i s' 244 (12 * o + i) = zq_i s 244 (12 * o + i)) : yI_slot s' sl o es ct := by
  obtain ⟨d1, d2, d3, d4, d5, d6⟩ := h
  unfold yI_slot
  rw [e0, eb 237 (by simp), eb 238 (by simp), eb 239 (by simp)]
  refine ⟨d1, d2, d3, d4, d5, fun z => ?_⟩
  obtain ⟨⟨tr, f1, f2⟩, f3, f4, f5, f6, f7⟩ := d6 z
  obtain ⟨g1, g2⟩ := et tr f1 z
  unfold yI_use
  rw [e0, er, eb 240 (by simp), eb 242 (by simp), eb 243 (by simp)]
  refine ⟨⟨tr, f1, f2.cong g1 g2⟩, f3, f4, f5.cong2 (n := 500) (by omega) e241, f6, fun z2 => ?_⟩
  obtain ⟨w1, ⟨v, w2⟩, w3, w4, w5⟩ := f7 z2
  refine ⟨w1, ⟨v, w2.cong e8 e9⟩, w3, w4, w5.cong2 (n := 12) ?_ e244⟩
  have := w2.2.1
  rw [hT] at this
  exact this
set_option maxRecDepth 100000 in
theorem yI_cur.cong {s s' : zq_S} {t : Nat} {ev : Nat → List ye_E} (h : yI_cur s t ev) (e19 : zq_i s' 232 19 = zq_i s 232 19) (e20 : zq_i s' 232 20 = zq_i s 232 20) (e237 : ∀ o : Nat, zq_i s' 237 o = zq_i s 237 o) (e3 : zq_r s' 3 0 = zq_r s 3 0) (e31 : zq_i s' 3 1 = zq_i s 3 1) (esl : ∀ o : Nat, 1 ≤ o → o ≤ 9 → zq_r s' (ysl t o) 4 = zq_r s (ysl t o) 4) : yI_cur s' t ev := by
  rcases h with ⟨h1, h2⟩ | ⟨o, pre, d, es, h1, h2, h3, h4, h5, h6, h7⟩
  · exact Or.inl ⟨e19.trans h1, e3.trans h2⟩
  · refine Or.inr ⟨o, pre, d, es, h1, e19.trans h2, fun z => (e237 o).trans (h3 z), ?_, h5, e31.trans h6, e20.trans h7⟩
    rw [e3, h4]
    unfold ycu
    split
    · rfl
    · next z => exact (esl o (by omega) h1).symm
set_option maxRecDepth 100000 in
theorem yI_ref.cong {s s' : zq_S} (h : yI_ref s) (e1 : zq_i s' 240 0 = zq_i s 240 0) (e2 : ∀ i : Nat, i < 4 → zq_i s' 241 (0 + i) = zq_i s 241 (0 + i)) (e3 : ∀ b ∈ [256, 257, 258], zq_i s' b = zq_i s b) : yI_ref s' := by
  obtain ⟨h1, h2, h3, h4, h5⟩ := h
  refine ⟨e1.trans h1, h2.cong2 (n := 4) (by decide) e2, ?_, ?_, ?_⟩
  · unfold ym_nm; rw [e3 256 (by simp)]; exact h3
  · unfold ym_nm; rw [e3 257 (by simp)]; exact h4
  · unfold ym_nm; rw [e3 258 (by simp)]; exact h5
set_option maxRecDepth 100000 in
/-- a tree's cells are neither tables nor slots nor Texts -/
theorem yk_tcells {a q : Nat} (h : zq_o 4 a) (hq : q ∈ yc_t7 a) : zq_k q ≠ (0, 8, 0) ∧ zq_k q ≠ (0, 7, 0) ∧ zq_k q ≠ (0, 1, 0) ∧ q ≤ 231 := by
  have h0 : a < 260 := zq_k_lt h (by decide)
  have key : ((List.range 260).all fun a => !(zq_k a == (0, 4, 0)) || (yc_t7 a).all fun q => !(zq_k q == (0, 8, 0)) && !(zq_k q == (0, 7, 0)) && !(zq_k q == (0, 1, 0)) && decide (q ≤ 231)) = true := by decide +kernel
  have k1 := List.all_eq_true.mp key a (List.mem_range.mpr h0)
  have e1 : (zq_k a == (0, 4, 0)) = true := by rw [h]; rfl
  rw [e1] at k1
  have k1 : ((yc_t7 a).all fun q => !(zq_k q == (0, 8, 0)) && !(zq_k q == (0, 7, 0)) && !(zq_k q == (0, 1, 0)) && decide (q ≤ 231)) = true := k1
  have k2 := List.all_eq_true.mp k1 q hq
  rw [Bool.and_eq_true, Bool.and_eq_true, Bool.and_eq_true] at k2
  obtain ⟨⟨⟨c1, c2⟩, c3⟩, c4⟩ := k2
  refine ⟨fun z => ?_, fun z => ?_, fun z => ?_, of_decide_eq_true c4⟩
  · rw [z] at c1; cases c1
  · rw [z] at c2; cases c2
  · rw [z] at c3; cases c3
set_option maxRecDepth 100000 in
theorem yk_t8 {t : Nat} (ht : t = 27 ∨ t = 126) : zq_o 8 t := by rcases ht with z | z <;> (subst z; decide +kernel)
set_option maxRecDepth 100000 in
theorem yk_sl {t o : Nat} (ht : t = 27 ∨ t = 126) (h1 : 1 ≤ o) (h9 : o ≤ 9) : zq_o 7 (ysl t o) ∧ zq_T (ysl t o + 8) = 12 ∧ zq_o 1 (ysl t o + 8) ∧ ysl t o ≠ 27 ∧ ysl t o ≠ 126 ∧ ysl t o + 8 ≠ 126 ∧ ysl t o + 8 + 1 ≠ 126 ∧ 30 ≤ ysl t o ∧ ysl t o + 9 ≤ 231 := by
  have k1 : ∀ o : Nat, o < 10 → 1 ≤ o → zq_k (ysl 27 o) = (0, 7, 0) ∧ zq_T (ysl 27 o + 8) = 12 ∧ zq_k (ysl 27 o + 8) = (0, 1, 0) := by decide +kernel
  have k2 : ∀ o : Nat, o < 10 → 1 ≤ o → zq_k (ysl 126 o) = (0, 7, 0) ∧ zq_T (ysl 126 o + 8) = 12 ∧ zq_k (ysl 126 o + 8) = (0, 1, 0) := by decide +kernel
  rcases ht with z | z
  · subst z
    obtain ⟨c1, c2, c3⟩ := k1 o (by omega) h1
    refine ⟨c1, c2, c3, ?_⟩
    unfold ysl
    omega
  · subst z
    obtain ⟨c1, c2, c3⟩ := k2 o (by omega) h1
    refine ⟨c1, c2, c3, ?_⟩
    unfold ysl
    omega
section YL4
variable {X : Nat × (Nat → Int32)}
set_option maxRecDepth 100000 in
/-- Table.slotInUse, by the invariant -/
theorem ys_33 {s : zq_S} {t : Nat} {ev : Nat → List ye_E} {ct : Nat → List Int} {x : Int} {K : Option Nat → zq_S → Prop} (ht : t = 27 ∨ t = 126) (h : yI_tab s t ev ct) (hx : zq_iv x) (k0 : ¬ (1 ≤ x ∧ x ≤ 9 ∧ zq_i s 237 x = 1) → K none s) (k1 : ∀ o : Nat, x = o → 1 ≤ o → o ≤ 9 → zq_i s 237 o = 1 → K (some (ysl t o)) s) : zq_Ex X 33 0 [.ref t, zq_vi x, zz_no] [] s (zq_rr 7 K) := by
  refine zw_33 (yk_t8 ht) hx (yl_if (fun z => k0 (by omega)) fun hx1 => yl_if (fun hx9 => ⟨⟨by omega, by omega⟩, ?_⟩) (fun z => k0 (by omega)))
  obtain ⟨o, ho⟩ : ∃ o : Nat, x = o := ⟨x.toNat, by omega⟩
  subst ho
  have e : t + 1 + 8 + 10 * ((o : Int) - 1).toNat = ysl t o := by unfold ysl; omega
  rw [e]
  obtain ⟨d1, d2, _⟩ := h o (by omega) (by omega)
  refine yl_if (fun z => k0 (fun w => ?_)) (fun z => ⟨⟨by omega, by omega⟩, k1 o rfl (by omega) (by omega) ?_⟩)
  · rw [d2] at z; omega
  · rw [← d2]
    rcases d1.1 with w | w
    · exact absurd w z
    · exact w
set_option maxRecDepth 100000 in
theorem ys_173i {s : zq_S} {x : Int} {K : Int → zq_S → Prop} (hx : zq_iv x) (k0 : ¬ (1 ≤ x ∧ x ≤ 9 ∧ zq_i s 237 x ≠ 0) → K 0 s) (k1 : 1 ≤ x → x ≤ 9 → zq_i s 237 x ≠ 0 → K 1 s) : zq_Ex X 173 0 [.ref 232, zq_vi x] [] s (zq_rp zq_bo K) := zw_173 hx (yl_if (fun z => k0 (by omega)) fun h1 => yl_if (fun h9 => ⟨⟨by omega, by omega⟩, yl_if (fun z => k0 (fun w => w.2.2 z)) (fun z => k1 (by omega) h9 z)⟩) (fun z => k0 (by omega)))
set_option maxRecDepth 100000 in
theorem yl_328 (hX : X.1 ≤ 1536) : yl_C X 328 := fun s A m v5 v6 h5 h6 hI hm hmX next => by
  obtain ⟨dr, fl, ev, ct, F, t⟩ := A
  obtain ⟨a1, a2, a3, a4, a5, a6, a7, a8⟩ := hI
  have hI : yI s (dr, fl, ev, ct, F, t) := ⟨a1, a2, a3, a4, a5, a6, a7, a8⟩
  have a1 : yI_txt s dr fl F := a1
  have a2 : yI_top s F t := a2
  have a4 : yI_tab s t ev ct := a4
  have a5 : yI_cur s t ev := a5
  obtain ⟨f1, f2, t3, t4, t5, t6, t7, t8, t9, t10, t11, t12⟩ := a2
  have hb : (0 : Int) ≤ 3 * (m : Int) + 1 ∧ 3 * (m : Int) + 1 < (X.1 : Int) := ⟨by omega, by omega⟩
  refine zw_0_328 (by omega) ⟨by omega, by omega⟩ h5 h6 ⟨hb, ?_⟩
  have hxi := zq_in32 (X.2 (3 * (m : Int) + 1).toNat)
  generalize (X.2 (3 * (m : Int) + 1).toNat).toInt = x at hxi ⊢
  have hn1 : zq_n s < 1000 := by omega
  refine zw_236 hxi (zw_85 hxi ⟨t, t5, ys_33 f2 a4 hxi (fun hno => ⟨fun _ => ⟨hn1, ?_⟩, fun b hb => (by cases hb)⟩) (fun o ho h1 h9 hu => ⟨fun z => (by cases z), fun b hbb => ⟨t, t5, ?_⟩⟩)⟩)
  · rw [if_pos rfl]
    refine ⟨hb, zw_184 hxi (ys_173i hxi (fun _ => ?_) (fun g1 g9 gu => ?_))⟩
    · rw [if_pos rfl]
      exact yl_say0 (X := X) (k := 1) h6 ((hI.exc 13).th 1) (by rw [zq_n_si, zq_n_sx]; omega) (zq_i_at _ _ _ _) next
    · exfalso
      refine hno ⟨g1, g9, ?_⟩
      obtain ⟨o, ho⟩ : ∃ o : Nat, x = o := ⟨x.toNat, by omega⟩
      subst ho
      have gu : zq_i s 237 o ≠ 0 := gu
      obtain ⟨d1, d2, _⟩ := a4 o (by omega) (by omega)
      rw [d2] at d1
      rcases d1.1 with w | w
      · exact absurd w gu
      · exact w
  · have hbb : ysl t o = b := Option.some.inj hbb
    subst hbb
    subst ho
    obtain ⟨q1, q2, q3, q4, q5, q6, q7, q8, q9⟩ := yk_sl f2 h1 h9
    obtain ⟨d1, d2, d3, d4, d5, d6⟩ := a4 o h1 h9
    have eg : zq_i (zq_si s t 2 o) (ysl t o) 3 = zq_i s 238 o := by rw [zq_i_si, if_neg (fun z => absurd z.2 (by decide))]; exact d4
    rw [eg]
    have g237 : zq_i (zq_si (zq_si s t 2 o) t 3 (zq_i s 238 o)) 237 o = 1 := by
      rw [zq_i_si, if_neg (fun z => by have := z.1; omega), zq_i_si, if_neg (fun z => by have := z.1; omega)]; exact hu
    have g238 : zq_i (zq_si (zq_si s t 2 o) t 3 (zq_i s 238 o)) 238 o = zq_i s 238 o := by
      rw [zq_i_si, if_neg (fun z => by have := z.1; omega), zq_i_si, if_neg (fun z => by have := z.1; omega)]
    refine ⟨hb, zw_184 hxi (ys_173i hxi (fun w => absurd ⟨by omega, by omega, by rw [g237]; decide⟩ w) (fun _ _ _ => ?_))⟩
    rw [if_neg (by decide), g238]
    refine ⟨⟨by omega, by omega⟩, ?_⟩
    have ei : ∀ b, b ≠ t → b ≠ 232 → zq_i (zq_si (zq_si (zq_si (zq_si (zq_si s t 2 o) t 3 (zq_i s 238 o)) 232 0 0) 232 17 o) 232 18 (zq_i s 238 o)) b = zq_i s b := fun b n1 n2 => by
      funext j
      rw [zq_i_si, if_neg (fun z => n2 z.1), zq_i_si, if_neg (fun z => n2 z.1), zq_i_si, if_neg (fun z => n2 z.1), zq_i_si, if_neg (fun z => n1 z.1), zq_i_si, if_neg (fun z => n1 z.1)]
    have ej : ∀ j, j ≠ 0 → j ≠ 17 → j ≠ 18 → zq_i (zq_si (zq_si (zq_si (zq_si (zq_si s t 2 o) t 3 (zq_i s 238 o)) 232 0 0) 232 17 o) 232 18 (zq_i s 238 o)) 232 j = zq_i s 232 j := fun j j0 j1 j2 => by
      rw [zq_i_si, if_neg (fun z => j2 z.2), zq_i_si, if_neg (fun z => j1 z.2), zq_i_si, if_neg (fun z => j0 z.2), zq_i_si, if_neg (fun z => by have := z.1; omega), zq_i_si, if_neg (fun z => by have := z.1; omega)]
    refine yl_say0 (X := X) (k := 0) (A := (dr, fl, ev, ct, F, t)) h6 ?_ (by rw [zq_n_si, zq_n_si, zq_n_si, zq_n_si, zq_n_si]; omega) (by rw [zq_i_si, if_neg (by decide), zq_i_si, if_neg (by decide), zq_i_at]) next
    refine ⟨a1.cong (fun b hb => ei b ?_ ?_) (ej 1 (by decide) (by decide) (by decide)) (ej 3 (by decide) (by decide) (by decide)), ⟨f1, f2, t3, t4, t5, t6, ?_, ?_, ?_, ?_, ?_, ?_⟩, a3.cong rfl (fun b hb => ei b (by omega) (by omega)) rfl rfl, fun o' p1 p9 => ?_, a5.cong (ej 19 (by decide) (by decide) (by decide)) (ej 20 (by decide) (by decide) (by decide)) (fun o => by rw [ei 237 (by omega) (by omega)]) rfl (by rw [ei 3 (by omega) (by omega)]) (fun _ _ _ => rfl), a6, a7.cong (by rw [ei 240 (by omega) (by omega)]) (fun i _ => by rw [ei 241 (by omega) (by omega)]) (fun b hb => ei b ?_ ?_), ?_⟩
    · simp at hb; omega
    · simp at hb; omega
    · rw [ei 0 (by omega) (by omega), ej 21 (by decide) (by decide) (by decide)]; exact t7
    · rw [ei 0 (by omega) (by omega), ej 22 (by decide) (by decide) (by decide)]; exact t8
    · show zq_i _ t 2 = _
      rw [zq_i_si, if_neg (fun z => by have := z.1; omega), zq_i_si, if_neg (fun z => by have := z.1; omega), zq_i_si, if_neg (fun z => by have := z.1; omega), zq_i_si, if_neg (fun z => absurd z.2 (by decide)), zq_i_at, zq_i_si, if_neg (by decide), zq_i_at]
    · show zq_i _ t 3 = _
      rw [zq_i_si, if_neg (fun z => by have := z.1; omega), zq_i_si, if_neg (fun z => by have := z.1; omega), zq_i_si, if_neg (fun z => by have := z.1; omega), zq_i_at, zq_i_at]
    · rw [zq_i_si, if_neg (by decide), zq_i_at]; omega
    · rw [zq_i_at]; rw [← d4]; exact d5
    · obtain ⟨r1, r2, r3, r4, r5, r6, r7, r8, r9⟩ := yk_sl f2 p1 p9
      refine yI_slot.cong (a4 o' p1 p9) (a8.2.2.2.2 o' (by omega) (by omega)) r2 (ei (ysl t o') (by omega) (by omega)) (ei (ysl t o' + 8) (by omega) (by omega)) (ei (ysl t o' + 8 + 1) (by omega) (by omega)) rfl (fun tr htr _ => ?_) (fun b hb => ?_) (fun i _ => by rw [ei 241 (by omega) (by omega)]) (fun i _ => by rw [ei 244 (by omega) (by omega)])
      · obtain ⟨tr', k1, k2, k3⟩ := yI_tre.slot a3 f2 p1 p9
        have : tr' = tr := Option.some.inj (k1.symm.trans htr)
        subst this
        refine ⟨fun q hq => ?_, rfl⟩
        have hk := yk_tcells k2 hq
        exact ei q (fun z => hk.1 (by rw [z]; exact yk_t8 f2)) (by omega)
      · have hb2 : 237 ≤ b ∧ b ≤ 243 := by simp at hb; omega
        rw [ei b (by omega) (by omega)]
    · simp at hb; omega
    · simp at hb; omega
    · obtain ⟨g1, g2, g3, g4, g5⟩ := a8
      refine ⟨?_, ?_, ?_, ?_, fun o o1 o2 => ?_⟩
      · rw [ej 1 (by decide) (by decide) (by decide)]; exact g1
      · rw [ej 3 (by decide) (by decide) (by decide)]; exact g2
      · rw [ej 5 (by decide) (by decide) (by decide)]; exact g3
      · rw [ej 23 (by decide) (by decide) (by decide)]; exact g4
      · rw [ei 240 (by omega) (by omega)]; exact g5 o o1 o2
end YL4
