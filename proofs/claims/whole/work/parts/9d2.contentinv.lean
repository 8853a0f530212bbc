/-! the invariant when an object is given contents -/
set_option maxRecDepth 100000 in
theorem yI_tre.inj {s : zq_S} (h : yI_tre s) : ∀ a ∈ ytI, ∀ b ∈ ytI, zq_r s a.1 a.2 = zq_r s b.1 b.2 → a = b := by
  obtain ⟨⟨l, h1, h2, h3⟩, _⟩ := h
  rw [ytl_eq] at h1
  have hnd : (ytI.map (fun c => zq_r s c.1 c.2)).Nodup := by
    rw [h1]
    exact yl_nodup h2 (fun a _ b _ e => Option.some.inj e)
  exact yl_inj hnd
set_option maxRecDepth 100000 in
theorem yk_t7 {a q : Nat} (h : q ∈ yc_t7 a) : a ≤ q ∧ q ≤ a + 6 := by simp at h; omega
set_option maxRecDepth 100000 in
theorem yI.cont {s S : zq_S} {dr fl : List Int} {ev : Nat → List ye_E} {ct : Nat → List Int} {F t tr o : Nat} {es' : List ye_E} {ct' : List Int} (hI : yI s (dr, fl, ev, ct, F, t)) (o1 : 1 ≤ o) (o9 : o ≤ 9) (htr : zq_r s (ysl t o) 4 = some tr)
    (ei : ∀ b (j : Int), b ∉ [0, 1, 2, 232] → b ∉ yc_t7 tr → ¬ yirr F b → b ≠ ysl t o → b ≠ ysl t o + 8 → b ≠ ysl t o + 9 → (b ∈ [239, 240, 242, 243] → j ≠ o) → (b = 241 → j < 500 * o ∨ 500 * o + 500 ≤ j) → (b = 244 → j < 12 * o ∨ 12 * o + 12 ≤ j) → zq_i S b j = zq_i s b j) (e12 : zq_i S 0 12 = zq_i s 0 12) (e11 : zq_i S 0 11 = zq_i S 232 21)
    (ej : ∀ j ∈ [3, 17, 18, 22], zq_i S 232 j = zq_i s 232 j) (e1 : zq_i S 232 1 = 0) (hx : ∃ v, yx S 1 ([], v)) (e19 : zq_i S 232 19 = -1)
    (esl : zq_i S (ysl t o) 0 = 1 ∧ zq_i S (ysl t o) 1 = 1 ∧ zq_i S (ysl t o) 2 = 1 ∧ zq_i S (ysl t o) 3 = zq_i s (ysl t o) 3)
    (eo : zq_i S 237 o = 1 ∧ zq_i S 239 o = 1 ∧ zq_i S 240 o = (ye_pr true es').length ∧ yrow S 241 (500 * o) (ye_pr true es') ∧ zq_i S 242 o = 1 ∧ zq_i S 243 o = ct'.length ∧ yrow S 244 (12 * o) ct') (hct : ∃ v, yx S (ysl t o + 8) (ct', v)) (hcc : ∀ c ∈ ct', 32 ≤ c ∧ c ≤ 126) (h7 : ∃ d es1, es' = .inl d :: es1 ∧ d.1 = 7)
    (er : ∀ b (j : Int), ¬ (4 ≤ b ∧ b ≤ 22) → ¬ (b = 3 ∧ j = 0) → zq_r S b j = zq_r s b j) (er3 : zq_r S 3 0 = none)
    (el : ∀ b, ¬ (4 ≤ b ∧ b ≤ 22) → b ∉ yc_t7 tr → b ≠ 259 → zq_l S b = zq_l s b) (ht : yt_tr S tr 0 0 es') (hv : yv es') (hm : ym_I S) : yI S ([], fl, fun n => if n = o then es' else ev n, fun n => if n = o then ct' else ct n, F, t) := by
  obtain ⟨a1, a2, a3, a4, a5, a6, a7, a8⟩ := hI
  have a1 : yI_txt s dr fl F := a1
  have a2 : yI_top s F t := a2
  have a4 : yI_tab s t ev ct := a4
  have a6 : ev 0 = [.inl ye_null] := a6
  obtain ⟨f1, f2, t3, t4, t5, t6, t7, t8, t9, t10, t11, t12⟩ := a2
  obtain ⟨tr', k1, k2, k3, k4⟩ := a3.slot f2 o1 o9
  have htt : tr' = tr := Option.some.inj (k1.symm.trans htr)
  subst htt
  obtain ⟨r1, r2, r3, r4, r5, r6, r7, r8, r9⟩ := yk_sl f2 o1 o9
  have oF : zq_o 1 F := by rcases f1 with z | z <;> (subst z; decide +kernel)
  have hFt := yk_tt oF k2
  have hb := yk_tree k2 ⟨k3, k4⟩
  have n29 := yk_trees (a := 29) (b := tr') (by decide +kernel) k2 (by omega)
  have n128 := yk_trees (a := 128) (b := tr') (by decide +kernel) k2 (fun z => k4 z.symm)
  have nt : t ∉ yc_t7 tr' := fun z => (yk_tcells k2 z).1 (yk_t8 f2)
  have ntr : ∀ b, (b < 30 ∨ 231 < b) → b ∉ yc_t7 tr' := fun b h z => by simp at z; omega
  have hsl : ysl t o = t + 9 + 10 * (o - 1) := rfl
  -- no tree has a slot's or a text's cell
  have hts : ∀ {a q : Nat}, zq_o 4 a → q ∈ yc_t7 a → q ≠ ysl t o ∧ q ≠ ysl t o + 8 ∧ q ≠ ysl t o + 9 := fun {a q} ha hq => by
    have h1 := yk_tcells ha hq
    have h2 := yk_tt r3 ha
    refine ⟨fun z => ?_, fun z => ?_, fun z => ?_⟩
    · rw [z] at h1; exact h1.2.1 r1
    · exact h2.1 (by rw [← z]; exact hq)
    · exact h2.2 (by rw [show ysl t o + 8 + 1 = ysl t o + 9 by omega, ← z]; exact hq)
  have fi : ∀ b, b ∉ [0, 1, 2, 232] → b ∉ yc_t7 tr' → ¬ yirr F b → b ≠ ysl t o → b ≠ ysl t o + 8 → b ≠ ysl t o + 9 → b ∉ [239, 240, 241, 242, 243, 244] → zq_i S b = zq_i s b := fun b n1 n2 n3 n4 n5 n6 n7 => by
    funext j
    exact ei b j n1 n2 n3 n4 n5 n6 (fun z => absurd (by simp at z ⊢; omega) n7) (fun z => absurd (by rw [z]; simp) n7) (fun z => absurd (by rw [z]; simp) n7)
  have fiL : ∀ b, 26 < b → b < 232 → b ∉ yc_t7 tr' → b ≠ ysl t o → b ≠ ysl t o + 8 → b ≠ ysl t o + 9 → zq_i S b = zq_i s b := fun b l1 l2 n2 n4 n5 n6 => fi b (by clear fi hts n29 n128 ntr; simp; omega) n2 (by unfold yirr; omega) n4 n5 n6 (by clear fi hts n29 n128 ntr; simp; omega)
  have fr : ∀ b, ¬ (4 ≤ b ∧ b ≤ 22) → b ≠ 3 → zq_r S b = zq_r s b := fun b n1 n4 => by
    funext j
    exact er b j n1 (fun z => n4 z.1)
  obtain ⟨b1, b2, b3, b4, ⟨v, b5⟩, b6, b7, b8⟩ := a1
  refine ⟨⟨hx, fun c hc => (by cases hc), (by rw [e1]; rfl), fun i hi => (by cases hi), ⟨v, b5.cong (fi F (by simp; omega) hFt.1 (by unfold yirr; omega) (by omega) (by omega) (by omega) (by simp; omega)) (fi (F + 1) (by simp; omega) hFt.2 (by unfold yirr; omega) (by omega) (by omega) (by omega) (by simp; omega))⟩, b6, (ej 3 (by simp)).trans b7, b8.cong (fi 234 (by decide) (ntr _ (by omega)) (by unfold yirr; omega) (by omega) (by omega) (by omega) (by decide))⟩, ⟨f1, f2, ?_, ?_, ?_, ?_, e11, ?_, ?_, ?_, ?_, ?_⟩, ⟨?_, ?_, ?_⟩, fun o' p1 p9 => ?_, Or.inl ⟨e19, er3⟩, ?_, a7.cong (ei 240 0 (by decide) (ntr _ (by omega)) (by unfold yirr; omega) (by omega) (by omega) (by omega) (fun _ => by omega) (fun z => by cases z) (fun z => by cases z)) (fun i hi => ei 241 _ (by decide) (ntr _ (by omega)) (by unfold yirr; omega) (by omega) (by omega) (by omega) (fun z => absurd z (by decide)) (fun _ => by omega) (fun z => by cases z)) (fun b hb => fi b (by simp at hb ⊢; omega) (ntr _ (by simp at hb; omega)) (by simp at hb; unfold yirr; omega) (by simp at hb; omega) (by simp at hb; omega) (by simp at hb; omega) (by simp at hb ⊢; omega)), hm⟩
  · rw [er 0 6 (by omega) (by omega)]; exact t3
  · rw [er 0 7 (by omega) (by omega)]; exact t4
  · rw [er 0 8 (by omega) (by omega)]; exact t5
  · rw [er 0 9 (by omega) (by omega)]; exact t6
  · rw [e12, ej 22 (by simp)]; exact t8
  · show zq_i S t 2 = _
    rw [fiL t (by omega) (by omega) nt (by omega) (by omega) (by omega), ej 17 (by simp)]; exact t9
  · show zq_i S t 3 = _
    rw [fiL t (by omega) (by omega) nt (by omega) (by omega) (by omega), ej 18 (by simp)]; exact t10
  · rw [ej 17 (by simp)]; exact t11
  · rw [ej 18 (by simp)]; exact t12
  · obtain ⟨l, c1, c2, c3⟩ := a3.1
    refine ⟨l, ?_, c2, c3⟩
    rw [← c1]
    unfold ytl
    rw [fr 0 (by omega) (by omega)]
    congr 2
    · exact List.map_congr_left fun i hi => by rw [fr (36 + 10 * i) (by omega) (by omega)]
    · exact List.map_congr_left fun i hi => by rw [fr (135 + 10 * i) (by omega) (by omega)]
  · refine a3.2.1.cong (fun q hq => ?_) (el _ (by omega) (n29 34 (by simp)) (by decide))
    have := hts (a := 29) (by decide +kernel) hq
    have hq2 := yk_t7 hq
    exact fiL q (by omega) (by omega) (n29 q hq) this.1 this.2.1 this.2.2
  · refine a3.2.2.cong (fun q hq => ?_) (el _ (by omega) (n128 133 (by simp)) (by decide))
    have := hts (a := 128) (by decide +kernel) hq
    have hq2 := yk_t7 hq
    exact fiL q (by omega) (by omega) (n128 q hq) this.1 this.2.1 this.2.2
  · show yI_slot S (ysl t o') o' (if o' = o then es' else ev o') (if o' = o then ct' else ct o')
    by_cases hoo : o' = o
    · subst hoo
      rw [if_pos rfl, if_pos rfl]
      obtain ⟨d1, d2, d3, d4, d5, d6⟩ := a4 o' o1 o9
      have e238 : zq_i S 238 o' = zq_i s 238 o' := by rw [fi 238 (by decide) (ntr _ (by omega)) (by unfold yirr; omega) (by omega) (by omega) (by omega) (by decide)]
      refine ⟨⟨?_, ?_, ?_⟩, ?_, ?_, ?_, ?_, fun _ => ⟨⟨tr', ?_, ht⟩, hv, eo.2.2.1, eo.2.2.2.1, ?_, fun _ => ⟨h7, hct, hcc, eo.2.2.2.2.2.1, eo.2.2.2.2.2.2⟩⟩⟩
      · rw [esl.1]; exact Or.inr rfl
      · rw [esl.2.1]; exact Or.inr rfl
      · rw [esl.2.2.1]; exact Or.inr rfl
      · rw [esl.1, eo.1]
      · rw [esl.2.1, eo.2.1]
      · rw [esl.2.2.2, e238]; exact d4
      · rw [esl.2.2.2]; exact d5
      · rw [er _ _ (by omega) (by omega)]; exact k1
      · rw [esl.2.2.1, eo.2.2.2.2.1]
    · rw [if_neg hoo, if_neg hoo]
      obtain ⟨s1, s2, s3, s4, s5, s6, s7, s8, s9⟩ := yk_sl f2 p1 p9
      have hslo : ysl t o' = t + 9 + 10 * (o' - 1) := rfl
      have ns : ysl t o' ∉ yc_t7 tr' := fun z => (yk_tcells k2 z).2.1 s1
      have ns8 := yk_tt s3 k2
      refine yI_slot.cong (a4 o' p1 p9) (a8.2.2.2.2 o' (by omega) (by omega)) s2 (fiL (ysl t o') (by omega) (by omega) ns (by omega) (by omega) (by omega)) (fiL (ysl t o' + 8) (by omega) (by omega) ns8.1 (by omega) (by omega) (by omega)) (fiL (ysl t o' + 8 + 1) (by omega) (by omega) ns8.2 (by omega) (by omega) (by omega)) (er _ _ (by omega) (by omega)) (fun tr2 htr2 _ => ?_) (fun b hb => ?_) (fun i hi => ei 241 _ (by decide) (ntr _ (by omega)) (by unfold yirr; omega) (by omega) (by omega) (by omega) (fun z => absurd z (by decide)) (fun _ => by omega) (fun z => by cases z)) (fun i hi => ei 244 _ (by decide) (ntr _ (by omega)) (by unfold yirr; omega) (by omega) (by omega) (by omega) (fun z => absurd z (by decide)) (fun z => by cases z) (fun _ => by omega))
      · obtain ⟨tr3, j1, j2, j3⟩ := yI_tre.slot a3 f2 p1 p9
        have : tr3 = tr2 := Option.some.inj (j1.symm.trans htr2)
        subst this
        have hne : tr3 ≠ tr' := fun z => by
          have := a3.inj (ysl t o', 4) (ytI_sl f2 p1 p9) (ysl t o, 4) (ytI_sl f2 o1 o9) (by show zq_r s (ysl t o') 4 = zq_r s (ysl t o) 4; rw [j1, k1, z])
          have := (Prod.mk.inj this).1
          omega
        have hd := yk_trees j2 k2 hne
        have hb3 := yk_tree j2 j3
        refine ⟨fun q hq => ?_, el _ (by omega) (hd _ (by simp)) (by omega)⟩
        have hq3 := hts j2 hq
        have hq2 := yk_t7 hq
        exact fiL q (by omega) (by omega) (hd q hq) hq3.1 hq3.2.1 hq3.2.2
      · have hb2 : 237 ≤ b ∧ b ≤ 243 ∧ b ≠ 241 := by simp at hb; omega
        exact ei b o' (by simp; omega) (ntr _ (by omega)) (by unfold yirr; omega) (by omega) (by omega) (by omega) (fun _ => by omega) (fun z => by omega) (fun z => by omega)
  · show (if 0 = o then es' else ev 0) = [.inl ye_null]
    rw [if_neg (by omega)]
    exact a6
/-- a value with its part Length given -/
def ynew (es : List ye_E) (n : Int) (es2 : List ye_E) : Prop := (∃ d' es', ye_fk yNL es 0 = some (d', es') ∧ d'.1 = 8 ∧ es2 = es) ∨ (∃ d' es' mid R, ye_fk yNL es 0 = some (d', es') ∧ d'.1 ≠ 8 ∧ es = mid ++ .inl d' :: es' ∧ ye_opn mid 1 = some 1 ∧ ye_rest d' es' = some R ∧ es2 = mid ++ .inl (yln n) :: R) ∨ (∃ B, ye_fk yNL es 0 = none ∧ es = B ++ [.inr 7] ∧ ye_opn B 1 = some 1 ∧ es2 = B ++ [.inl (yln n), .inr 7])
set_option maxRecDepth 100000 in
theorem ynew.eq {es es2 es3 : List ye_E} {n : Int} (h : ynew es n es2) (h' : ynew es n es3) : es2 = es3 := by
  rcases h with ⟨d1, e1, a1, a2, a3⟩ | ⟨d1, e1, m1, R1, a1, a2, a3, a4, a5, a6⟩ | ⟨B1, a1, a2, a3, a4⟩
  · rcases h' with ⟨d2, e2, b1, b2, b3⟩ | ⟨d2, e2, m2, R2, b1, b2, b3, b4, b5, b6⟩ | ⟨B2, b1, b2, b3, b4⟩
    · rw [a3, b3]
    · rw [a1] at b1; cases b1; exact absurd a2 b2
    · rw [a1] at b1; cases b1
  · rcases h' with ⟨d2, e2, b1, b2, b3⟩ | ⟨d2, e2, m2, R2, b1, b2, b3, b4, b5, b6⟩ | ⟨B2, b1, b2, b3, b4⟩
    · rw [a1] at b1; cases b1; exact absurd b2 a2
    · rw [a1] at b1
      cases b1
      rw [a5] at b5
      cases b5
      have : m1 = m2 := List.append_cancel_right (a3.symm.trans b3)
      rw [a6, b6, this]
    · rw [a1] at b1; cases b1
  · rcases h' with ⟨d2, e2, b1, b2, b3⟩ | ⟨d2, e2, m2, R2, b1, b2, b3, b4, b5, b6⟩ | ⟨B2, b1, b2, b3, b4⟩
    · rw [a1] at b1; cases b1
    · rw [a1] at b1; cases b1
    · have : B1 = B2 := List.append_cancel_right (a2.symm.trans b2)
      rw [a4, b4, this]
set_option maxRecDepth 100000 in
theorem ynew.yv {d : ye_N} {es es2 : List ye_E} {n : Int} (h : ynew es n es2) (n0 : 0 ≤ n) (n1 : n ≤ 12) (hv : yv (.inl d :: es)) (h7 : d.1 = 7) (hroom : ye_fk yNL es 0 = none → yr_many (.inl d :: es) < 12) : yv (.inl d :: es2) := by
  rcases h with ⟨d1, e1, a1, a2, a3⟩ | ⟨d1, e1, m1, R1, a1, a2, a3, a4, a5, a6⟩ | ⟨B1, a1, a2, a3, a4⟩
  · rw [a3]; exact hv
  · obtain ⟨mid, q1, q2, q3⟩ := ye_fk_split a1
    rw [a6]
    rw [a3] at hv
    exact yv_len1 n0 n1 hv h7 a4 q3 a5
  · have hroom := hroom a1
    rw [a4]
    rw [a2] at hv hroom a1
    exact yv_len2 n0 n1 hv h7 a3 a1 hroom
