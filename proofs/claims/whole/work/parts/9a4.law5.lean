/-! the law's case free -/
section YL5
variable {X : Nat × (Nat → Int32)}
set_option maxRecDepth 100000 in
/-- a slot that is set free on both sides, the cursor away -/
theorem yI.freed {s S : zq_S} {dr fl : List Int} {ev : Nat → List ye_E} {ct : Nat → List Int} {F t o : Nat} {g : Int} (hI : yI s (dr, fl, ev, ct, F, t)) (h1 : 1 ≤ o) (h9 : o ≤ 9) (g0 : 0 ≤ g) (g9 : g ≤ 9)
    (ei : ∀ b (j : Int), b ≠ ysl t o → b ≠ 232 → (b ∈ [237, 238, 239, 240, 242, 243] → j ≠ o) → zq_i S b j = zq_i s b j) (es : zq_i S (ysl t o) 0 = 0 ∧ zq_i S (ysl t o) 1 = 1 ∧ zq_i S (ysl t o) 2 = 0 ∧ zq_i S (ysl t o) 3 = g) (ej : ∀ j : Int, j ≠ 0 → j ≠ 19 → zq_i S 232 j = zq_i s 232 j) (e19 : zq_i S 232 19 = -1) (eo : zq_i S 237 o = 0 ∧ zq_i S 238 o = g ∧ zq_i S 239 o = 1 ∧ zq_i S 240 o = 0) (er : ∀ b (j : Int), b ≠ 3 → zq_r S b j = zq_r s b j) (e3 : zq_r S 3 0 = none) (el : zq_l S = zq_l s) : yI S (dr, fl, ev, ct, F, t) := by
  obtain ⟨a1, a2, a3, a4, a5, a6, a7, a8⟩ := hI
  have a1 : yI_txt s dr fl F := a1
  have a2 : yI_top s F t := a2
  have a4 : yI_tab s t ev ct := a4
  obtain ⟨f1, f2, t3, t4, t5, t6, t7, t8, t9, t10, t11, t12⟩ := a2
  have hs : ysl t o = t + 9 + 10 * (o - 1) := rfl
  have fi : ∀ b, b ≠ ysl t o → b ≠ 232 → b ∉ [237, 238, 239, 240, 242, 243] → zq_i S b = zq_i s b := fun b n1 n2 n3 => by
    funext j
    exact ei b j n1 n2 (fun z => absurd z n3)
  refine ⟨a1.cong (fun b hb => fi b ?_ ?_ ?_) (ej 1 (by decide) (by decide)) (ej 3 (by decide) (by decide)), ⟨f1, f2, ?_, ?_, ?_, ?_, ?_, ?_, ?_, ?_, ?_, ?_⟩, a3.cong ?_ (fun b hb => fi b (by omega) (by omega) (by simp; omega)) (by rw [el]) (by rw [el]), fun o' p1 p9 => ?_, Or.inl ⟨e19, e3⟩, a6, a7.cong (ei 240 0 (by omega) (by decide) (fun _ => by omega)) (fun i _ => by rw [fi 241 (by omega) (by decide) (by decide)]) (fun b hb => fi b ?_ ?_ ?_), ?_⟩
  · simp at hb; omega
  · simp at hb; omega
  · simp at hb ⊢; omega
  · rw [er 0 6 (by decide)]; exact t3
  · rw [er 0 7 (by decide)]; exact t4
  · rw [er 0 8 (by decide)]; exact t5
  · rw [er 0 9 (by decide)]; exact t6
  · rw [fi 0 (by omega) (by decide) (by decide), ej 21 (by decide) (by decide)]; exact t7
  · rw [fi 0 (by omega) (by decide) (by decide), ej 22 (by decide) (by decide)]; exact t8
  · show zq_i S t 2 = _
    rw [fi t (by omega) (by omega) (by simp; omega), ej 17 (by decide) (by decide)]; exact t9
  · show zq_i S t 3 = _
    rw [fi t (by omega) (by omega) (by simp; omega), ej 18 (by decide) (by decide)]; exact t10
  · rw [ej 17 (by decide) (by decide)]; exact t11
  · rw [ej 18 (by decide) (by decide)]; exact t12
  · unfold ytl
    rw [er 0 10 (by decide)]
    congr 2
    · exact List.map_congr_left fun i hi => er (36 + 10 * i) 4 (by omega)
    · exact List.map_congr_left fun i hi => er (135 + 10 * i) 4 (by omega)
  · by_cases hoo : o' = o
    · subst hoo
      show yI_slot S (ysl t o') o' (ev o') (ct o')
      unfold yI_slot
      rw [es.1, es.2.1, es.2.2.1, es.2.2.2, eo.1, eo.2.1, eo.2.2.1]
      exact ⟨⟨Or.inl rfl, Or.inr rfl, Or.inl rfl⟩, rfl, rfl, rfl, ⟨g0, g9⟩, fun z => absurd z (by decide)⟩
    · obtain ⟨r1, r2, r3, r4, r5, r6, r7, r8, r9⟩ := yk_sl f2 p1 p9
      have hs' : ysl t o' = t + 9 + 10 * (o' - 1) := rfl
      refine yI_slot.cong (a4 o' p1 p9) (a8.2.2.2.2 o' (by omega) (by omega)) r2 (fi (ysl t o') (by omega) (by omega) (by simp; omega)) (fi (ysl t o' + 8) (by omega) (by omega) (by simp; omega)) (fi (ysl t o' + 8 + 1) (by omega) (by omega) (by simp; omega)) (er _ _ (by show ysl t o' ≠ 3; omega)) (fun tr htr _ => ?_) (fun b hb => ?_) (fun i _ => by rw [fi 241 (by omega) (by decide) (by decide)]) (fun i _ => by rw [fi 244 (by omega) (by decide) (by decide)])
      · obtain ⟨tr', k1, k2, k3⟩ := yI_tre.slot a3 f2 p1 p9
        have : tr' = tr := Option.some.inj (k1.symm.trans htr)
        subst this
        refine ⟨fun q hq => ?_, by rw [el]⟩
        have hk := yk_tcells k2 hq
        exact fi q (fun z => hk.2.1 (by rw [z]; exact (yk_sl f2 h1 h9).1)) (by omega) (by simp; omega)
      · have hb2 : 237 ≤ b ∧ b ≤ 243 := by simp at hb; omega
        exact ei b o' (by omega) (by omega) (fun _ => by omega)
  · simp at hb; omega
  · simp at hb; omega
  · simp at hb ⊢; omega
  · obtain ⟨g1, g2, g3, g4, g5⟩ := a8
    refine ⟨?_, ?_, ?_, ?_, fun o2 o21 o22 => ?_⟩
    · rw [ej 1 (by decide) (by decide)]; exact g1
    · rw [ej 3 (by decide) (by decide)]; exact g2
    · rw [ej 5 (by decide) (by decide)]; exact g3
    · rw [ej 23 (by decide) (by decide)]; exact g4
    · by_cases z : o2 = o
      · rw [z, eo.2.2.2]; decide
      · rw [ei 240 o2 (by omega) (by decide) (fun _ => z)]; exact g5 o2 o21 o22
set_option maxRecDepth 100000 in
theorem yl_292 (hX : X.1 ≤ 1536) : yl_C X 292 := fun s A m v5 v6 h5 h6 hI hm hmX next => by
  obtain ⟨dr, fl, ev, ct, F, t⟩ := A
  have f2 : t = 27 ∨ t = 126 := hI.2.1.2.1
  have t5 : zq_r s 0 8 = some t := hI.2.1.2.2.2.2.1
  have a4 : yI_tab s t ev ct := hI.2.2.2.1
  have hb : (0 : Int) ≤ 3 * (m : Int) + 1 ∧ 3 * (m : Int) + 1 < (X.1 : Int) := ⟨by omega, by omega⟩
  refine zw_0_292 (by omega) ⟨by omega, by omega⟩ h5 h6 ⟨hb, ?_⟩
  have hxi := zq_in32 (X.2 (3 * (m : Int) + 1).toNat)
  generalize (X.2 (3 * (m : Int) + 1).toNat).toInt = x at hxi ⊢
  have hn1 : zq_n s < 1000 := by omega
  refine zw_235 hxi (zw_81 hxi ⟨t, t5, ys_33 f2 a4 hxi (fun hno => ⟨fun _ => ⟨hn1, ?_⟩, fun b hb => (by cases hb)⟩) (fun o ho h1 h9 hu => ⟨fun z => (by cases z), fun b hbb => ?_⟩)⟩)
  · rw [if_pos rfl]
    refine ⟨hb, zw_182 hxi (ys_173i hxi (fun _ => ?_) (fun g1 g9 gu => ?_))⟩
    · rw [if_pos rfl]
      exact yl_say0 (X := X) (k := 1) h6 ((hI.exc 13).th 1) (by rw [zq_n_si, zq_n_sx]; omega) (zq_i_at _ _ _ _) next
    · exfalso
      refine hno ⟨g1, g9, ?_⟩
      obtain ⟨o, ho⟩ : ∃ o : Nat, x = o := ⟨x.toNat, by omega⟩
      subst ho
      have gu : zq_i s 237 o ≠ 0 := gu
      obtain ⟨d1, d2, _⟩ := a4 o (by omega) (by omega)
      rw [d2] at d1
      rcases d1.1 with w | w
      · exact absurd w gu
      · exact w
  · have hbb : ysl t o = b := Option.some.inj hbb
    subst hbb
    subst ho
    obtain ⟨q1, q2, q3, q4, q5, q6, q7, q8, q9⟩ := yk_sl f2 h1 h9
    obtain ⟨d1, d2, d3, d4, d5, d6⟩ := a4 o h1 h9
    rw [d4] at d5
    have main : ∀ g : Int, g = (if zq_i s 238 o < 9 then zq_i s 238 o + 1 else 9) → zq_Ex X 71 0 [.ref 3] [] (zq_si (zq_si (zq_si (zq_si s (ysl t o) 3 g) (ysl t o) 0 0) (ysl t o) 1 1) (ysl t o) 2 0) (zq_rv fun s_9 => (((0 : Int) ≤ 3 * (m : Int) + 1 ∧ 3 * (m : Int) + 1 < (X.1 : Int)) ∧ (zq_Ex X 182 0 [(.ref (232)), (zq_vi (o : Int))] [] s_9 (zq_rv fun s_6 => (zq_Ex X 141 0 [(.ref (232))] [] s_6 (zq_rp zq_iv fun x_8 s_7 => (if x_8 = 0 then zq_Ex X 0 967 [(.ref (zz_SC)), (.ref (0)), (.ref (232)), (.ref (259)), (zq_vi (3 * (m : Int))), (zq_vi 0), v6] [] s_7 (zq_rp zq_bo fun x _ => x = 1) else (0 : Int) = 1))))))) := fun g hg => by
      refine zw_71 (by decide +kernel) ⟨hb, ?_⟩
      have gg : 0 ≤ g ∧ g ≤ 9 := by split at hg <;> omega
      have eS : ∀ b (j : Int), b ≠ ysl t o → zq_i (zq_sr (zq_si (zq_si (zq_si (zq_si s (ysl t o) 3 g) (ysl t o) 0 0) (ysl t o) 1 1) (ysl t o) 2 0) 3 0 none) b j = zq_i s b j := fun b j n => by
        rw [zq_i_sr, zq_i_si, if_neg (fun z => n z.1), zq_i_si, if_neg (fun z => n z.1), zq_i_si, if_neg (fun z => n z.1), zq_i_si, if_neg (fun z => n z.1)]
      have eR : ∀ b (j : Int), b ≠ 3 → zq_r (zq_sr (zq_si (zq_si (zq_si (zq_si s (ysl t o) 3 g) (ysl t o) 0 0) (ysl t o) 1 1) (ysl t o) 2 0) 3 0 none) b j = zq_r s b j := fun b j n => by
        rw [zq_r_sr, if_neg (fun z => n z.1)]; rfl
      have eR3 : zq_r (zq_sr (zq_si (zq_si (zq_si (zq_si s (ysl t o) 3 g) (ysl t o) 0 0) (ysl t o) 1 1) (ysl t o) 2 0) 3 0 none) 3 0 = none := by rw [zq_r_sr, if_pos ⟨rfl, rfl⟩]
      have eL : zq_l (zq_sr (zq_si (zq_si (zq_si (zq_si s (ysl t o) 3 g) (ysl t o) 0 0) (ysl t o) 1 1) (ysl t o) 2 0) 3 0 none) = zq_l s := rfl
      have eN : zq_n (zq_sr (zq_si (zq_si (zq_si (zq_si s (ysl t o) 3 g) (ysl t o) 0 0) (ysl t o) 1 1) (ysl t o) 2 0) 3 0 none) = zq_n s := rfl
      have eV : ∀ S0, S0 = (zq_sr (zq_si (zq_si (zq_si (zq_si s (ysl t o) 3 g) (ysl t o) 0 0) (ysl t o) 1 1) (ysl t o) 2 0) 3 0 none) → zq_i S0 (ysl t o) 0 = 0 ∧ zq_i S0 (ysl t o) 1 = 1 ∧ zq_i S0 (ysl t o) 2 = 0 ∧ zq_i S0 (ysl t o) 3 = g := fun S0 h0 => by
        rw [h0, zq_i_sr]
        refine ⟨?_, ?_, ?_, ?_⟩
        · rw [zq_i_si, if_neg (by simp), zq_i_si, if_neg (by simp), zq_i_at]
        · rw [zq_i_si, if_neg (by simp), zq_i_at]
        · rw [zq_i_at]
        · rw [zq_i_si, if_neg (by simp), zq_i_si, if_neg (by simp), zq_i_si, if_neg (by simp), zq_i_at]
      have eV := eV _ rfl
      generalize (zq_sr (zq_si (zq_si (zq_si (zq_si s (ysl t o) 3 g) (ysl t o) 0 0) (ysl t o) 1 1) (ysl t o) 2 0) 3 0 none) = S0 at eS eR eR3 eL eN eV ⊢
      have last : yI (zq_si (zq_si (zq_si (zq_si (zq_si (zq_si (zq_si (zq_si S0 232 0 0) 237 o 0) 238 o g) 242 o 0) 243 o 0) 240 o 0) 239 o 1) 232 19 (-1)) (dr, fl, ev, ct, F, t) := by
        refine yI.freed (o := o) (g := g) hI h1 h9 gg.1 gg.2 (fun b j n1 n2 n3 => ?_) ?_ (fun j j0 j1 => ?_) (zq_i_at _ _ _ _) ⟨?_, ?_, ?_, ?_⟩ eR eR3 eL
        · have nn : ∀ c ∈ [237, 238, 239, 240, 242, 243], ¬ (b = c ∧ j = o) := fun c hc z => n3 (by rw [z.1]; exact hc) z.2
          rw [zq_i_si, if_neg (fun z => n2 z.1), zq_i_si, if_neg (nn 239 (by simp)), zq_i_si, if_neg (nn 240 (by simp)), zq_i_si, if_neg (nn 243 (by simp)), zq_i_si, if_neg (nn 242 (by simp)), zq_i_si, if_neg (nn 238 (by simp)), zq_i_si, if_neg (nn 237 (by simp)), zq_i_si, if_neg (fun z => n2 z.1)]
          exact eS b j n1
        · have nn : ∀ c (i j x : Int) (S : zq_S), 232 ≤ c → zq_i (zq_si S c i x) (ysl t o) j = zq_i S (ysl t o) j := fun c i j x S hc => by rw [zq_i_si, if_neg (fun z => by have := z.1; omega)]
          rw [nn _ _ _ _ _ (by decide), nn _ _ _ _ _ (by decide), nn _ _ _ _ _ (by decide), nn _ _ _ _ _ (by decide), nn _ _ _ _ _ (by decide), nn _ _ _ _ _ (by decide), nn _ _ _ _ _ (by decide), nn _ _ _ _ _ (by decide), nn _ _ _ _ _ (by decide), nn _ _ _ _ _ (by decide), nn _ _ _ _ _ (by decide), nn _ _ _ _ _ (by decide), nn _ _ _ _ _ (by decide), nn _ _ _ _ _ (by decide), nn _ _ _ _ _ (by decide), nn _ _ _ _ _ (by decide), nn _ _ _ _ _ (by decide), nn _ _ _ _ _ (by decide), nn _ _ _ _ _ (by decide), nn _ _ _ _ _ (by decide), nn _ _ _ _ _ (by decide), nn _ _ _ _ _ (by decide), nn _ _ _ _ _ (by decide), nn _ _ _ _ _ (by decide), nn _ _ _ _ _ (by decide), nn _ _ _ _ _ (by decide), nn _ _ _ _ _ (by decide), nn _ _ _ _ _ (by decide), nn _ _ _ _ _ (by decide), nn _ _ _ _ _ (by decide), nn _ _ _ _ _ (by decide), nn _ _ _ _ _ (by decide)]
          exact eV
        · rw [zq_i_si, if_neg (fun z => j1 z.2), zq_i_si, if_neg (by simp), zq_i_si, if_neg (by simp), zq_i_si, if_neg (by simp), zq_i_si, if_neg (by simp), zq_i_si, if_neg (by simp), zq_i_si, if_neg (by simp), zq_i_si, if_neg (fun z => j0 z.2)]
          exact eS 232 j (by omega)
        · rw [zq_i_si, if_neg (by simp), zq_i_si, if_neg (by simp), zq_i_si, if_neg (by simp), zq_i_si, if_neg (by simp), zq_i_si, if_neg (by simp), zq_i_si, if_neg (by simp), zq_i_at]
        · rw [zq_i_si, if_neg (by simp), zq_i_si, if_neg (by simp), zq_i_si, if_neg (by simp), zq_i_si, if_neg (by simp), zq_i_si, if_neg (by simp), zq_i_at]
        · rw [zq_i_si, if_neg (by simp), zq_i_at]
        · rw [zq_i_si, if_neg (by simp), zq_i_si, if_neg (by simp), zq_i_at]
      have fin := yl_say0 (X := X) (k := 0) h6 last (by rw [zq_n_si, zq_n_si, zq_n_si, zq_n_si, zq_n_si, zq_n_si, zq_n_si, zq_n_si, eN]; omega) (by rw [zq_i_si, if_neg (by decide), zq_i_si, if_neg (by simp), zq_i_si, if_neg (by simp), zq_i_si, if_neg (by simp), zq_i_si, if_neg (by simp), zq_i_si, if_neg (by simp), zq_i_si, if_neg (by simp), zq_i_at]) next
      have ro : (0 : Int) ≤ (o : Int) ∧ (o : Int) < 10 := ⟨by omega, by omega⟩
      have e237 : zq_i S0 237 o = 1 := by rw [eS 237 o (by omega)]; exact hu
      have e238 : zq_i (zq_si S0 232 0 0) 238 o = zq_i s 238 o := by rw [zq_i_si, if_neg (by simp), eS 238 o (by omega)]
      refine zw_182 hxi (ys_173i hxi (fun w => absurd ⟨by omega, by omega, by rw [e237]; decide⟩ w) (fun _ _ _ => ?_))
      rw [if_neg (by decide)]
      refine zw_183 hxi ⟨ro, ro, ?_⟩
      rw [e238]
      refine yl_if (fun hlt => ⟨ro, ro, ⟨by omega, by omega⟩, ro, ro, ro, zw_171 hxi ⟨ro, ?_⟩⟩) (fun hge => ⟨ro, ro, ro, ro, zw_171 hxi ⟨ro, ?_⟩⟩)
      · rw [if_pos hlt] at hg
        rw [← hg]
        exact fin
      · rw [if_neg hge] at hg
        rw [← hg]
        exact fin
    refine zw_82 q1 (zw_83 q1 (zw_84 ⟨by omega, by omega⟩ ⟨by decide, by decide⟩ ?_))
    rw [d4]
    refine yl_if (fun hle => main _ (by rw [if_pos (by omega)])) (fun hle => main 9 ?_)
    split
    · omega
    · rfl
end YL5
