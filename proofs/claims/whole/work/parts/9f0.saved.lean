/-! save: the invariant after it; the law's case save -/
set_option maxRecDepth 100000 in
theorem ynx_b {g : Int} (h : 0 ≤ g ∧ g ≤ 9) : 0 ≤ ynx g ∧ ynx g ≤ 9 := by
  unfold ynx
  split <;> omega
set_option maxRecDepth 100000 in
theorem yI.saved {s R : zq_S} {dr fl W : List Int} {ev : Nat → List ye_E} {ct : Nat → List Int} {F t : Nat} {rl : Nat → Bool} (hI : yI s (dr, fl, ev, ct, F, t)) (hWc : ∀ c ∈ W, yp_isC c = true) (hW : W.length ≤ 999)
    (ec : ∀ b, b < 232 → b ≠ 4 → b ≠ 22 → b ≠ 48 - F → b ≠ 48 - F + 1 → (∀ o : Nat, 1 ≤ o → o ≤ 9 → b ≠ ysl t o) → zq_i R b = zq_i s b)
    (es : ∀ o : Nat, 1 ≤ o → o ≤ 9 → zq_i R (ysl t o) 1 = 0 ∧ (rl o = true → zq_i R (ysl t o) 0 = 0 ∧ zq_i R (ysl t o) 2 = 0 ∧ zq_i R (ysl t o) 3 = ynx (zq_i s 238 o)) ∧ (rl o = false → zq_i R (ysl t o) 0 = zq_i s (ysl t o) 0 ∧ zq_i R (ysl t o) 2 = zq_i s (ysl t o) 2 ∧ zq_i R (ysl t o) 3 = zq_i s (ysl t o) 3))
    (ew : yx R (48 - F) (W, 0)) (e3 : zq_i R 232 3 = W.length) (e19 : zq_i R 232 19 = -1) (ej : ∀ j : Int, j ∉ [0, 3, 7, 19, 23, 47, 48] → zq_i R 232 j = zq_i s 232 j) (e23 : zq_i R 232 23 ≤ 700) (e234 : yrow R 234 0 W)
    (eo : ∀ o : Nat, 1 ≤ o → o ≤ 9 → zq_i R 239 o = 0 ∧ (rl o = true → zq_i R 237 o = 0 ∧ zq_i R 238 o = ynx (zq_i s 238 o) ∧ zq_i R 240 o = 0) ∧ (rl o = false → zq_i R 237 o = zq_i s 237 o ∧ zq_i R 238 o = zq_i s 238 o ∧ zq_i R 240 o = zq_i s 240 o ∧ zq_i R 242 o = zq_i s 242 o ∧ zq_i R 243 o = zq_i s 243 o))
    (e0 : zq_i R 240 0 = zq_i s 240 0) (er : ∀ b ∈ [233, 241, 244, 256, 257, 258], zq_i R b = zq_i s b)
    (r6 : zq_r R 0 6 = some (48 - F)) (r7 : zq_r R 0 7 = some F) (r3 : zq_r R 3 0 = none) (rr : ∀ b (j : Int), b ≠ 3 → b ≠ 4 → (b = 0 → j ≠ 6 ∧ j ≠ 7) → zq_r R b j = zq_r s b j) (el : ∀ b, b ≠ 259 → zq_l R b = zq_l s b) : yI R (dr, W, ev, ct, 48 - F, t) := by
  obtain ⟨a1, a2, a3, a4, a5, a6, a7, a8⟩ := hI
  have a1 : yI_txt s dr fl F := a1
  have a2 : yI_top s F t := a2
  have a4 : yI_tab s t ev ct := a4
  obtain ⟨f1, f2, t3, t4, t5, t6, t7, t8, t9, t10, t11, t12⟩ := a2
  obtain ⟨⟨v1, b1⟩, b2, b3, b4, _, _, _, _⟩ := a1
  have sl : ∀ o : Nat, 1 ≤ o → o ≤ 9 → 36 ≤ ysl t o ∧ ysl t o ≠ 126 ∧ ysl t o ≠ 27 := fun o o1 o9 => by
    obtain ⟨r1, r2, r3, r4, r5, r6, r7, r8, r9⟩ := yk_sl f2 o1 o9
    refine ⟨by unfold ysl; omega, r5, r4⟩
  have low : ∀ b, b < 36 → b ≠ 4 → b ≠ 22 → b ≠ 48 - F → b ≠ 48 - F + 1 → zq_i R b = zq_i s b := fun b h1 h2 h3 h4 h5 => ec b (by omega) h2 h3 h4 h5 (fun o o1 o9 => by have := (sl o o1 o9).1; omega)
  have c1 : zq_i R 1 = zq_i s 1 := low 1 (by decide) (by decide) (by decide) (by omega) (by omega)
  have c2 : zq_i R 2 = zq_i s 2 := low 2 (by decide) (by decide) (by decide) (by omega) (by omega)
  have c0 : zq_i R 0 = zq_i s 0 := low 0 (by decide) (by decide) (by decide) (by omega) (by omega)
  have ct' : zq_i R t = zq_i s t := ec t (by omega) (by omega) (by omega) (by omega) (by omega) (fun o o1 o9 => by have := sl o o1 o9; omega)
  refine ⟨⟨⟨v1, b1.cong c1 c2⟩, b2, ?_, b4.cong (er 233 (by simp)), ⟨0, ew⟩, hWc, e3, e234⟩, ⟨?_, f2, r6, ?_, ?_, ?_, ?_, ?_, ?_, ?_, ?_, ?_⟩, a3.cong ?_ (fun b hb => ec b (by omega) (by omega) (by omega) (by omega) (by omega) (fun o o1 o9 => ?_)) (el 34 (by decide)) (el 133 (by decide)), fun o o1 o9 => ?_, Or.inl ⟨e19, r3⟩, a6, a7.cong e0 (fun i _ => by rw [er 241 (by simp)]) (fun b hb => er b (by simp at hb ⊢; omega)), ?_⟩
  · rw [ej 1 (by decide)]; exact b3
  · show 48 - F = 23 ∨ 48 - F = 25
    omega
  · show zq_r R 0 7 = some (48 - (48 - F))
    rw [r7, show 48 - (48 - F) = F by omega]
  · rw [rr 0 8 (by decide) (by decide) (fun _ => by decide)]; exact t5
  · rw [rr 0 9 (by decide) (by decide) (fun _ => by decide)]; exact t6
  · rw [c0, ej 21 (by decide)]; exact t7
  · rw [c0, ej 22 (by decide)]; exact t8
  · show zq_i R t 2 = _
    rw [ct', ej 17 (by decide)]; exact t9
  · show zq_i R t 3 = _
    rw [ct', ej 18 (by decide)]; exact t10
  · rw [ej 17 (by decide)]; exact t11
  · rw [ej 18 (by decide)]; exact t12
  · unfold ytl
    rw [rr 0 10 (by decide) (by decide) (fun _ => by decide)]
    congr 2
    · exact List.map_congr_left fun i hi => rr (36 + 10 * i) 4 (by omega) (by omega) (fun z => by omega)
    · exact List.map_congr_left fun i hi => rr (135 + 10 * i) 4 (by omega) (by omega) (fun z => by omega)
  · have := yk_sl f2 o1 o9
    have h7 := this.1
    intro z
    have hs : ysl t o = t + 9 + 10 * (o - 1) := rfl
    omega
  · obtain ⟨p1, p2, p3, p4, p5, p6, p7, p8, p9⟩ := yk_sl f2 o1 o9
    obtain ⟨u1, u2, u3⟩ := es o o1 o9
    obtain ⟨w1, w2, w3⟩ := eo o o1 o9
    obtain ⟨d1, d2, d3, d4, d5, d6⟩ := a4 o o1 o9
    show yI_slot R (ysl t o) o (ev o) (ct o)
    cases hr : rl o with
    | true =>
      unfold yI_slot
      rw [d4] at d5
      rw [(u2 hr).1, u1, (u2 hr).2.1, (u2 hr).2.2, (w2 hr).1, w1, (w2 hr).2.1]
      exact ⟨⟨Or.inl rfl, Or.inl rfl, Or.inl rfl⟩, rfl, rfl, rfl, ynx_b d5, fun z => absurd z (by decide)⟩
    | false =>
      obtain ⟨g0, g2, g3⟩ := u3 hr
      obtain ⟨h7, h8, h0, h2, h3⟩ := w3 hr
      unfold yI_slot
      rw [g0, u1, g2, g3, h7, w1, h8]
      refine ⟨⟨d1.1, Or.inl rfl, d1.2.2⟩, d2, rfl, d4, d5, fun z => ?_⟩
      obtain ⟨⟨tr, q1, q2⟩, q3, q4, q5, q6, q7⟩ := d6 z
      unfold yI_use
      rw [g2, h0, h2, h3, rr (ysl t o) 4 (by omega) (by omega) (fun y => by omega)]
      obtain ⟨tr', k1, k2, k3⟩ := yI_tre.slot a3 f2 o1 o9
      have : tr' = tr := Option.some.inj (k1.symm.trans q1)
      subst this
      refine ⟨⟨tr', q1, q2.cong (fun q hq => ?_) (el _ ?_)⟩, q3, q4, q5.cong (er 241 (by simp)), q6, fun z2 => ?_⟩
      · have hk := yk_tcells k2 hq
        have h29 := yk_t7 hq
        exact ec q (by omega) (by omega) (by omega) (by omega) (by omega) (fun o' o1' o9' y => hk.2.1 (by rw [y]; exact (yk_sl f2 o1' o9').1))
      · have hb := (yk_tree k2 k3).2
        omega
      · obtain ⟨x1, ⟨v, x2⟩, x3, x4, x5⟩ := q7 z2
        refine ⟨x1, ⟨v, x2.cong ?_ ?_⟩, x3, x4, x5.cong (er 244 (by simp))⟩
        · exact ec (ysl t o + 8) (by omega) (by omega) (by omega) (by omega) (by omega) (fun o' o1' o9' y => by unfold ysl at y; omega)
        · exact ec (ysl t o + 8 + 1) (by omega) (by omega) (by omega) (by omega) (by omega) (fun o' o1' o9' y => by unfold ysl at y; omega)
  · obtain ⟨g1, g2, g3, g4, g5⟩ := a8
    refine ⟨?_, ?_, ?_, e23, fun o2 o21 o22 => ?_⟩
    · rw [ej 1 (by decide)]; exact g1
    · rw [e3]; omega
    · rw [ej 5 (by decide)]; exact g3
    · obtain ⟨n, hn⟩ : ∃ n : Nat, o2 = n := ⟨o2.toNat, by omega⟩
      subst hn
      by_cases z : n = 0
      · subst z
        rw [show ((0 : Nat) : Int) = 0 from rfl, e0]
        exact g5 0 (by decide) (by decide)
      · obtain ⟨w1, w2, w3⟩ := eo n (by omega) (by omega)
        cases hr : rl n with
        | true => rw [(w2 hr).2.2]; decide
        | false => rw [(w3 hr).2.2.1]; exact g5 n (by omega) (by omega)
