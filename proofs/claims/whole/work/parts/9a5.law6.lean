/-! the cursor moves; an object's text in the reference -/
set_option maxRecDepth 100000 in
theorem yI.curs {s S : zq_S} {dr fl : List Int} {ev : Nat → List ye_E} {ct : Nat → List Int} {F t : Nat} (hI : yI s (dr, fl, ev, ct, F, t)) (ei : ∀ b, b ≠ 3 → b ≠ 232 → zq_i S b = zq_i s b) (ej : ∀ j : Int, j ≠ 0 → j ≠ 19 → j ≠ 20 → zq_i S 232 j = zq_i s 232 j) (er : ∀ b, b ≠ 3 → zq_r S b = zq_r s b) (el : ∀ b, b ≠ 259 → zq_l S b = zq_l s b) (hc : yI_cur S t ev) : yI S (dr, fl, ev, ct, F, t) := by
  obtain ⟨a1, a2, a3, a4, a5, a6, a7, a8⟩ := hI
  have a1 : yI_txt s dr fl F := a1
  have a2 : yI_top s F t := a2
  have a4 : yI_tab s t ev ct := a4
  obtain ⟨f1, f2, t3, t4, t5, t6, t7, t8, t9, t10, t11, t12⟩ := a2
  refine ⟨a1.cong (fun b hb => ei b ?_ ?_) (ej 1 (by decide) (by decide) (by decide)) (ej 3 (by decide) (by decide) (by decide)), ⟨f1, f2, ?_, ?_, ?_, ?_, ?_, ?_, ?_, ?_, ?_, ?_⟩, a3.cong ?_ (fun b hb => ei b (by omega) (by omega)) (el 34 (by decide)) (el 133 (by decide)), fun o' p1 p9 => ?_, hc, a6, a7.cong (by rw [ei 240 (by decide) (by decide)]) (fun i _ => by rw [ei 241 (by decide) (by decide)]) (fun b hb => ei b ?_ ?_), ?_⟩
  · simp at hb; omega
  · simp at hb; omega
  · rw [er 0 (by decide)]; exact t3
  · rw [er 0 (by decide)]; exact t4
  · rw [er 0 (by decide)]; exact t5
  · rw [er 0 (by decide)]; exact t6
  · rw [ei 0 (by decide) (by decide), ej 21 (by decide) (by decide) (by decide)]; exact t7
  · rw [ei 0 (by decide) (by decide), ej 22 (by decide) (by decide) (by decide)]; exact t8
  · show zq_i S t 2 = _
    rw [ei t (by omega) (by omega), ej 17 (by decide) (by decide) (by decide)]; exact t9
  · show zq_i S t 3 = _
    rw [ei t (by omega) (by omega), ej 18 (by decide) (by decide) (by decide)]; exact t10
  · rw [ej 17 (by decide) (by decide) (by decide)]; exact t11
  · rw [ej 18 (by decide) (by decide) (by decide)]; exact t12
  · unfold ytl
    rw [er 0 (by decide)]
    congr 2
    · exact List.map_congr_left fun i hi => by rw [er (36 + 10 * i) (by omega)]
    · exact List.map_congr_left fun i hi => by rw [er (135 + 10 * i) (by omega)]
  · obtain ⟨r1, r2, r3, r4, r5, r6, r7, r8, r9⟩ := yk_sl f2 p1 p9
    refine yI_slot.cong (a4 o' p1 p9) (a8.2.2.2.2 o' (by omega) (by omega)) r2 (ei (ysl t o') (by omega) (by omega)) (ei (ysl t o' + 8) (by omega) (by omega)) (ei (ysl t o' + 8 + 1) (by omega) (by omega)) (by show zq_r S (ysl t o') 4 = zq_r s (ysl t o') 4; rw [er (ysl t o') (by omega)]) (fun tr htr _ => ?_) (fun b hb => ?_) (fun i _ => by rw [ei 241 (by decide) (by decide)]) (fun i _ => by rw [ei 244 (by decide) (by decide)])
    · obtain ⟨tr', k1, k2, k3⟩ := yI_tre.slot a3 f2 p1 p9
      have : tr' = tr := Option.some.inj (k1.symm.trans htr)
      subst this
      have hb := yk_tree k2 k3
      refine ⟨fun q hq => ?_, el _ (by omega)⟩
      have hk := yk_tcells k2 hq
      exact ei q (by simp at hq; omega) (by omega)
    · have hb2 : 237 ≤ b ∧ b ≤ 243 := by simp at hb; omega
      rw [ei b (by omega) (by omega)]
  · simp at hb; omega
  · simp at hb; omega
  · obtain ⟨g1, g2, g3, g4, g5⟩ := a8
    refine ⟨?_, ?_, ?_, ?_, fun o o1 o2 => ?_⟩
    · rw [ej 1 (by decide) (by decide) (by decide)]; exact g1
    · rw [ej 3 (by decide) (by decide) (by decide)]; exact g2
    · rw [ej 5 (by decide) (by decide) (by decide)]; exact g3
    · rw [ej 23 (by decide) (by decide) (by decide)]; exact g4
    · rw [ei 240 (by decide) (by decide)]; exact g5 o o1 o2
set_option maxRecDepth 100000 in
/-- what the reference keeps of an object is its value's print -/
theorem yob_su {s : zq_S} {o : Nat} {es : List ye_E} (h1 : zq_i s 240 o = (ye_pr true es).length) (h2 : yrow s 241 (500 * o) (ye_pr true es)) : ye_su (ym_c s (10 + o)) 0 true es := by
  intro i hi
  simp at hi
  have e : ym_c s (10 + o) (0 + i) = if (i : Int) < zq_i s 240 o then zq_i s 241 (500 * o + i) else 0 := by
    unfold ym_c
    rw [show (0 : Int) + (i : Int) = i by omega, if_neg (by omega), if_neg (by omega), if_neg (by omega), if_neg (by omega), if_neg (by omega), show (10 : Int) + (o : Int) - 10 = o by omega]
  rw [e, h1]
  by_cases hlt : i < (ye_pr true es).length
  · rw [if_pos (by omega), h2 i hlt]
    simp [List.getD_eq_getElem?_getD, List.getElem?_append_left hlt]
  · rw [if_neg (by omega)]
    have : i = (ye_pr true es).length := by omega
    rw [this]
    simp
