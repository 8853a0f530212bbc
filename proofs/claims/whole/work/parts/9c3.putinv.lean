/-! the invariant when a draft has been read: it failed, or an object is put -/
set_option maxRecDepth 100000 in
theorem yk_trees {a b : Nat} (ha : zq_o 4 a) (hb : zq_o 4 b) (h : a ≠ b) : ∀ q ∈ yc_t7 a, q ∉ yc_t7 b := by
  have key : ∀ {a b : Nat}, zq_o 4 a → zq_o 4 b → a < b → b ≤ a + 6 → False := by
    intro a b ha hb h1 h2
    obtain ⟨l1, l2, l3, l4, l5, l6⟩ := zq_L4 ha
    have hc : b = a + 1 ∨ b = a + 2 ∨ b = a + 3 ∨ b = a + 4 ∨ b = a + 5 ∨ b = a + 6 := by omega
    rcases hc with e | e | e | e | e | e
    · subst e; cases (Eq.symm hb).trans l1
    · subst e; cases (Eq.symm hb).trans l2
    · subst e; cases (Eq.symm hb).trans l3
    · subst e; cases (Eq.symm hb).trans l4
    · subst e; cases (Eq.symm hb).trans l5
    · subst e; cases (Eq.symm hb).trans l6
  intro q hq hq2
  have h1 : a ≤ q ∧ q ≤ a + 6 := by simp at hq; omega
  have h2 : b ≤ q ∧ q ≤ b + 6 := by simp at hq2; omega
  by_cases hlt : a < b
  · exact key ha hb hlt (by omega)
  · exact key hb ha (by omega) (by omega)
set_option maxRecDepth 100000 in
theorem yI_tre.spare {s : zq_S} (h : yI_tre s) : ∃ tr, zq_r s 0 10 = some tr ∧ zq_o 4 tr ∧ 29 < tr ∧ tr ≠ 128 ∧ (∀ t o, (t = 27 ∨ t = 126) → 1 ≤ o → o ≤ 9 → zq_r s (ysl t o) 4 ≠ some tr) := by
  obtain ⟨⟨l, h1, h2, h3⟩, _⟩ := h
  cases l with
  | nil => simp [ytl] at h1
  | cons a l =>
    have h1 : zq_r s 0 10 :: ((List.range 9).map (fun i => zq_r s (36 + 10 * i) 4) ++ (List.range 9).map (fun i => zq_r s (135 + 10 * i) 4)) = some a :: l.map some := h1
    obtain ⟨e1, e2⟩ := List.cons.inj h1
    have ha := h3 a (by simp)
    refine ⟨a, e1, ha.1, ha.2.1, ha.2.2, fun t o ht o1 o9 z => ?_⟩
    rw [List.nodup_cons] at h2
    have hm : zq_r s (ysl t o) 4 ∈ (List.range 9).map (fun i => zq_r s (36 + 10 * i) 4) ++ (List.range 9).map (fun i => zq_r s (135 + 10 * i) 4) := by
      unfold ysl
      rcases ht with e | e
      · subst e
        exact List.mem_append_left _ (List.mem_map.mpr ⟨o - 1, List.mem_range.mpr (by omega), rfl⟩)
      · subst e
        exact List.mem_append_right _ (List.mem_map.mpr ⟨o - 1, List.mem_range.mpr (by omega), rfl⟩)
    rw [e2, z] at hm
    obtain ⟨b, hb, e⟩ := List.mem_map.mp hm
    cases e
    exact h2.1 hb
set_option maxRecDepth 100000 in
theorem yl_inj {α β : Type} {f : α → β} : ∀ {I : List α}, (I.map f).Nodup → ∀ a ∈ I, ∀ b ∈ I, f a = f b → a = b
  | [], _, a, ha, _, _, _ => by cases ha
  | x :: I, h, a, ha, b, hb, e => by
    rw [List.map_cons, List.nodup_cons] at h
    rcases List.mem_cons.mp ha with ea | ea
    · rcases List.mem_cons.mp hb with eb | eb
      · rw [ea, eb]
      · exfalso
        rw [ea] at e
        exact h.1 (by rw [e]; exact List.mem_map.mpr ⟨b, eb, rfl⟩)
    · rcases List.mem_cons.mp hb with eb | eb
      · exfalso
        rw [eb] at e
        exact h.1 (by rw [← e]; exact List.mem_map.mpr ⟨a, ea, rfl⟩)
      · exact yl_inj h.2 a ea b eb e
set_option maxRecDepth 100000 in
theorem yl_nodup {α β : Type} {f : α → β} : ∀ {I : List α}, I.Nodup → (∀ a ∈ I, ∀ b ∈ I, f a = f b → a = b) → (I.map f).Nodup
  | [], _, _ => List.nodup_nil
  | x :: I, h, hi => by
    rw [List.nodup_cons] at h
    rw [List.map_cons, List.nodup_cons]
    refine ⟨fun z => ?_, yl_nodup h.2 (fun a ha b hb => hi a (List.mem_cons_of_mem _ ha) b (List.mem_cons_of_mem _ hb))⟩
    obtain ⟨a, ha, e⟩ := List.mem_map.mp z
    have := hi a (List.mem_cons_of_mem _ ha) x List.mem_cons_self e
    subst this
    exact h.1 ha
/-- where the references to trees lie -/
def ytI : List (Nat × Int) := (0, 10) :: ((List.range 9).map (fun i => (36 + 10 * i, 4)) ++ (List.range 9).map (fun i => (135 + 10 * i, 4)))
set_option maxRecDepth 100000 in
theorem ytl_eq (s : zq_S) : ytl s = ytI.map (fun c => zq_r s c.1 c.2) := by
  unfold ytl ytI
  rw [List.map_cons, List.map_append, List.map_map, List.map_map]
  rfl
set_option maxRecDepth 100000 in
theorem ytI_sl {t o : Nat} (ht : t = 27 ∨ t = 126) (h1 : 1 ≤ o) (h9 : o ≤ 9) : (ysl t o, (4 : Int)) ∈ ytI := by
  unfold ytI ysl
  refine List.mem_cons_of_mem _ ?_
  rcases ht with e | e
  · subst e
    exact List.mem_append_left _ (List.mem_map.mpr ⟨o - 1, List.mem_range.mpr (by omega), rfl⟩)
  · subst e
    exact List.mem_append_right _ (List.mem_map.mpr ⟨o - 1, List.mem_range.mpr (by omega), rfl⟩)
set_option maxRecDepth 100000 in
theorem yI_tre.perm {s S : zq_S} (h : yI_tre s) (σ : Nat × Int → Nat × Int) (hσ : ∀ c ∈ ytI, σ c ∈ ytI) (hi : ∀ a ∈ ytI, ∀ b ∈ ytI, σ a = σ b → a = b) (hr : ∀ c ∈ ytI, zq_r S c.1 c.2 = zq_r s (σ c).1 (σ c).2) : ∃ l : List Nat, ytl S = l.map some ∧ l.Nodup ∧ ∀ b ∈ l, zq_o 4 b ∧ 29 < b ∧ b ≠ 128 := by
  obtain ⟨⟨l, h1, h2, h3⟩, _⟩ := h
  rw [ytl_eq] at h1
  have hsome : ∀ c ∈ ytI, ∃ b ∈ l, zq_r s c.1 c.2 = some b := fun c hc => by
    have : zq_r s c.1 c.2 ∈ ytI.map (fun c => zq_r s c.1 c.2) := List.mem_map.mpr ⟨c, hc, rfl⟩
    rw [h1] at this
    obtain ⟨b, hb, e⟩ := List.mem_map.mp this
    exact ⟨b, hb, e.symm⟩
  have hnd : (ytI.map (fun c => zq_r s c.1 c.2)).Nodup := by
    rw [h1]
    exact yl_nodup h2 (fun a _ b _ e => Option.some.inj e)
  refine ⟨ytI.map (fun c => (zq_r s (σ c).1 (σ c).2).getD 0), ?_, ?_, fun b hb => ?_⟩
  · rw [ytl_eq, List.map_map]
    refine List.map_congr_left fun c hc => ?_
    obtain ⟨b, _, e⟩ := hsome (σ c) (hσ c hc)
    show zq_r S c.1 c.2 = some ((zq_r s (σ c).1 (σ c).2).getD 0)
    rw [hr c hc, e]
    rfl
  · refine yl_nodup (by decide) (fun a ha b hb e => hi a ha b hb ?_)
    obtain ⟨x, _, ex⟩ := hsome (σ a) (hσ a ha)
    obtain ⟨y, _, ey⟩ := hsome (σ b) (hσ b hb)
    rw [ex, ey] at e
    have e : x = y := e
    exact yl_inj hnd (σ a) (hσ a ha) (σ b) (hσ b hb) (by show zq_r s (σ a).1 (σ a).2 = zq_r s (σ b).1 (σ b).2; rw [ex, ey, e])
  · obtain ⟨c, hc, e⟩ := List.mem_map.mp hb
    obtain ⟨x, hx, ex⟩ := hsome (σ c) (hσ c hc)
    rw [ex] at e
    have e : x = b := e
    rw [← e]
    exact h3 x hx
set_option maxRecDepth 100000 in
/-- two references change places -/
theorem yI_tre.swap {s S : zq_S} (h : yI_tre s) {P Q : Nat × Int} (hP : P ∈ ytI) (hQ : Q ∈ ytI) (hPQ : P ≠ Q) (e1 : zq_r S P.1 P.2 = zq_r s Q.1 Q.2) (e2 : zq_r S Q.1 Q.2 = zq_r s P.1 P.2) (e3 : ∀ c ∈ ytI, c ≠ P → c ≠ Q → zq_r S c.1 c.2 = zq_r s c.1 c.2) : ∃ l : List Nat, ytl S = l.map some ∧ l.Nodup ∧ ∀ b ∈ l, zq_o 4 b ∧ 29 < b ∧ b ≠ 128 := by
  refine h.perm (fun c => if c = P then Q else if c = Q then P else c) (fun c hc => ?_) (fun a ha b hb e => ?_) (fun c hc => ?_)
  · show (if c = P then Q else if c = Q then P else c) ∈ ytI
    split
    · exact hQ
    · split
      · exact hP
      · exact hc
  · have e : (if a = P then Q else if a = Q then P else a) = (if b = P then Q else if b = Q then P else b) := e
    by_cases a1 : a = P
    · by_cases b1 : b = P
      · rw [a1, b1]
      · exfalso
        rw [if_pos a1, if_neg b1] at e
        by_cases b2 : b = Q
        · rw [if_pos b2] at e; exact hPQ e.symm
        · rw [if_neg b2] at e; exact b2 e.symm
    · rw [if_neg a1] at e
      by_cases a2 : a = Q
      · rw [if_pos a2] at e
        by_cases b1 : b = P
        · exfalso; rw [if_pos b1] at e; exact hPQ e
        · rw [if_neg b1] at e
          by_cases b2 : b = Q
          · rw [a2, b2]
          · exfalso; rw [if_neg b2] at e; exact b1 e.symm
      · rw [if_neg a2] at e
        by_cases b1 : b = P
        · exfalso; rw [if_pos b1] at e; exact a2 e
        · rw [if_neg b1] at e
          by_cases b2 : b = Q
          · exfalso; rw [if_pos b2] at e; exact a1 e
          · rw [if_neg b2] at e; exact e
  · show zq_r S c.1 c.2 = zq_r s (if c = P then Q else if c = Q then P else c).1 (if c = P then Q else if c = Q then P else c).2
    by_cases c1 : c = P
    · rw [if_pos c1, c1]; exact e1
    · by_cases c2 : c = Q
      · rw [if_neg c1, if_pos c2, c2]; exact e2
      · rw [if_neg c1, if_neg c2]; exact e3 c hc c1 c2
set_option maxRecDepth 100000 in
/-- the draft has been taken, and it failed -/
theorem yI.drop {s S : zq_S} {dr fl : List Int} {ev : Nat → List ye_E} {ct : Nat → List Int} {F t tr : Nat} (hI : yI s (dr, fl, ev, ct, F, t)) (htr : zq_r s 0 10 = some tr)
    (ei : ∀ b, b ∉ [0, 1, 2, 232] → b ∉ yc_t7 tr → ¬ yirr F b → zq_i S b = zq_i s b) (e12 : zq_i S 0 12 = zq_i s 0 12) (e11 : zq_i S 0 11 = zq_i S 232 21)
    (ej : ∀ j ∈ [3, 17, 18, 19, 20, 22], zq_i S 232 j = zq_i s 232 j) (e1 : zq_i S 232 1 = 0) (hx : ∃ v, yx S 1 ([], v))
    (er : ∀ b, ¬ (4 ≤ b ∧ b ≤ 22) → zq_r S b = zq_r s b) (el : ∀ b, ¬ (4 ≤ b ∧ b ≤ 22) → b ∉ yc_t7 tr → b ≠ 259 → zq_l S b = zq_l s b) (hm : ym_I S) : yI S ([], fl, ev, ct, F, t) := by
  obtain ⟨a1, a2, a3, a4, a5, a6, a7, a8⟩ := hI
  have a1 : yI_txt s dr fl F := a1
  have a2 : yI_top s F t := a2
  have a4 : yI_tab s t ev ct := a4
  have a5 : yI_cur s t ev := a5
  obtain ⟨f1, f2, t3, t4, t5, t6, t7, t8, t9, t10, t11, t12⟩ := a2
  obtain ⟨tr', k1, k2, k3, k4, k5⟩ := a3.spare
  have htt : tr' = tr := Option.some.inj (k1.symm.trans htr)
  subst htt
  have oF : zq_o 1 F := by rcases f1 with z | z <;> (subst z; decide +kernel)
  have hFt := yk_tt oF k2
  have hb := yk_tree k2 ⟨k3, k4⟩
  have n29 := yk_trees (a := 29) (b := tr') (by decide +kernel) k2 (by omega)
  have n128 := yk_trees (a := 128) (b := tr') (by decide +kernel) k2 (fun z => k4 z.symm)
  have nt : t ∉ yc_t7 tr' := fun z => (yk_tcells k2 z).1 (yk_t8 f2)
  have ntr : ∀ b, (b < 30 ∨ 231 < b) → b ∉ yc_t7 tr' := fun b h z => by simp at z; omega
  obtain ⟨b1, b2, b3, b4, ⟨v, b5⟩, b6, b7, b8⟩ := a1
  refine ⟨⟨hx, fun c hc => (by cases hc), (by rw [e1]; rfl), fun i hi => (by cases hi), ⟨v, b5.cong (ei F (by simp; omega) hFt.1 (by unfold yirr; omega)) (ei (F + 1) (by simp; omega) hFt.2 (by unfold yirr; omega))⟩, b6, (ej 3 (by simp)).trans b7, b8.cong (ei 234 (by decide) (ntr _ (by omega)) (by unfold yirr; omega))⟩, ⟨f1, f2, ?_, ?_, ?_, ?_, e11, ?_, ?_, ?_, ?_, ?_⟩, a3.cong ?_ (fun b hb => ei b (by simp; omega) ?_ (by unfold yirr; omega)) (el 34 (by omega) (n29 34 (by simp)) (by decide)) (el 133 (by omega) (n128 133 (by simp)) (by decide)), fun o' p1 p9 => ?_, ?_, a6, a7.cong (by rw [ei 240 (by decide) (ntr _ (by omega)) (by unfold yirr; omega)]) (fun i _ => by rw [ei 241 (by decide) (ntr _ (by omega)) (by unfold yirr; omega)]) (fun b hb => ei b (by simp at hb ⊢; omega) (ntr _ (by simp at hb; omega)) (by simp at hb; unfold yirr; omega)), hm⟩
  · rw [er 0 (by omega)]; exact t3
  · rw [er 0 (by omega)]; exact t4
  · rw [er 0 (by omega)]; exact t5
  · rw [er 0 (by omega)]; exact t6
  · rw [e12, ej 22 (by simp)]; exact t8
  · show zq_i S t 2 = _
    rw [ei t (by simp; omega) nt (by unfold yirr; omega), ej 17 (by simp)]; exact t9
  · show zq_i S t 3 = _
    rw [ei t (by simp; omega) nt (by unfold yirr; omega), ej 18 (by simp)]; exact t10
  · rw [ej 17 (by simp)]; exact t11
  · rw [ej 18 (by simp)]; exact t12
  · unfold ytl
    rw [er 0 (by omega)]
    congr 2
    · exact List.map_congr_left fun i hi => by rw [er (36 + 10 * i) (by omega)]
    · exact List.map_congr_left fun i hi => by rw [er (135 + 10 * i) (by omega)]
  · rcases hb with z | z
    · exact n29 b (by simp; omega)
    · exact n128 b (by simp; omega)
  · obtain ⟨r1, r2, r3, r4, r5, r6, r7, r8, r9⟩ := yk_sl f2 p1 p9
    have ns : ysl t o' ∉ yc_t7 tr' := fun z => (yk_tcells k2 z).2.1 r1
    have ns8 := yk_tt r3 k2
    refine yI_slot.cong (a4 o' p1 p9) (a8.2.2.2.2 o' (by omega) (by omega)) r2 (ei (ysl t o') (by simp; omega) ns (by unfold yirr; omega)) (ei (ysl t o' + 8) (by simp; omega) ns8.1 (by unfold yirr; omega)) (ei (ysl t o' + 8 + 1) (by simp; omega) ns8.2 (by unfold yirr; omega)) (by show zq_r S (ysl t o') 4 = zq_r s (ysl t o') 4; rw [er (ysl t o') (by omega)]) (fun tr2 htr2 _ => ?_) (fun b hb => ?_) (fun i _ => by rw [ei 241 (by decide) (ntr _ (by omega)) (by unfold yirr; omega)]) (fun i _ => by rw [ei 244 (by decide) (ntr _ (by omega)) (by unfold yirr; omega)])
    · obtain ⟨tr3, j1, j2, j3⟩ := yI_tre.slot a3 f2 p1 p9
      have : tr3 = tr2 := Option.some.inj (j1.symm.trans htr2)
      subst this
      have hne : tr3 ≠ tr' := fun z => k5 t o' f2 p1 p9 (by rw [← z]; exact j1)
      have hd := yk_trees j2 k2 hne
      have hb3 := yk_tree j2 j3
      refine ⟨fun q hq => ei q ?_ (hd q hq) ?_, el _ (by omega) (hd _ (by simp)) (by omega)⟩
      · simp at hq ⊢; omega
      · simp at hq; unfold yirr; omega
    · have hb2 : 237 ≤ b ∧ b ≤ 243 := by simp at hb; omega
      rw [ei b (by simp; omega) (ntr _ (by omega)) (by unfold yirr; omega)]
  · refine yI_cur.cong a5 (ej 19 (by simp)) (ej 20 (by simp)) (fun o => by rw [ei 237 (by decide) (ntr _ (by omega)) (by unfold yirr; omega)]) (by rw [er 3 (by omega)]) (by rw [ei 3 (by decide) (ntr _ (by omega)) (by unfold yirr; omega)]) (fun o o1 o9 => ?_)
    have := yk_sl f2 o1 o9
    rw [er (ysl t o) (by omega)]
set_option maxRecDepth 100000 in
/-- the draft has been taken, and an object has it -/
theorem yI.put {s S : zq_S} {dr fl : List Int} {ev : Nat → List ye_E} {ct : Nat → List Int} {F t tr old o : Nat} {es' : List ye_E} (hI : yI s (dr, fl, ev, ct, F, t)) (o1 : 1 ≤ o) (o9 : o ≤ 9) (htr : zq_r s 0 10 = some tr) (hold : zq_r s (ysl t o) 4 = some old)
    (ei : ∀ b (j : Int), b ∉ [0, 1, 2, 232] → b ∉ yc_t7 tr → ¬ yirr F b → b ≠ ysl t o → (b ∈ [237, 239, 240, 242, 243] → j ≠ o) → (b = 241 → j < 500 * o ∨ 500 * o + 500 ≤ j) → zq_i S b j = zq_i s b j) (e12 : zq_i S 0 12 = zq_i s 0 12) (e11 : zq_i S 0 11 = zq_i S 232 21)
    (ej : ∀ j ∈ [3, 17, 18, 22], zq_i S 232 j = zq_i s 232 j) (e1 : zq_i S 232 1 = 0) (hx : ∃ v, yx S 1 ([], v)) (e19 : zq_i S 232 19 = -1)
    (esl : zq_i S (ysl t o) 0 = 1 ∧ zq_i S (ysl t o) 1 = 1 ∧ zq_i S (ysl t o) 2 = 0 ∧ zq_i S (ysl t o) 3 = zq_i s (ysl t o) 3)
    (eo : zq_i S 237 o = 1 ∧ zq_i S 239 o = 1 ∧ zq_i S 240 o = (ye_pr true es').length ∧ yrow S 241 (500 * o) (ye_pr true es') ∧ zq_i S 242 o = 0)
    (er : ∀ b (j : Int), ¬ (4 ≤ b ∧ b ≤ 22) → ¬ (b = 0 ∧ j = 10) → ¬ (b = ysl t o ∧ j = 4) → ¬ (b = 3 ∧ j = 0) → zq_r S b j = zq_r s b j) (er0 : zq_r S 0 10 = some old) (er1 : zq_r S (ysl t o) 4 = some tr) (er3 : zq_r S 3 0 = none)
    (el : ∀ b, ¬ (4 ≤ b ∧ b ≤ 22) → b ∉ yc_t7 tr → b ≠ 259 → zq_l S b = zq_l s b) (ht : yt_tr S tr 0 0 es') (hv : yv es') (hm : ym_I S) : yI S ([], fl, fun n => if n = o then es' else ev n, ct, F, t) := by
  obtain ⟨a1, a2, a3, a4, a5, a6, a7, a8⟩ := hI
  have a1 : yI_txt s dr fl F := a1
  have a2 : yI_top s F t := a2
  have a4 : yI_tab s t ev ct := a4
  have a6 : ev 0 = [.inl ye_null] := a6
  obtain ⟨f1, f2, t3, t4, t5, t6, t7, t8, t9, t10, t11, t12⟩ := a2
  obtain ⟨tr', k1, k2, k3, k4, k5⟩ := a3.spare
  have htt : tr' = tr := Option.some.inj (k1.symm.trans htr)
  subst htt
  obtain ⟨r1, r2, r3, r4, r5, r6, r7, r8, r9⟩ := yk_sl f2 o1 o9
  have oF : zq_o 1 F := by rcases f1 with z | z <;> (subst z; decide +kernel)
  have hFt := yk_tt oF k2
  have hb := yk_tree k2 ⟨k3, k4⟩
  have n29 := yk_trees (a := 29) (b := tr') (by decide +kernel) k2 (by omega)
  have n128 := yk_trees (a := 128) (b := tr') (by decide +kernel) k2 (fun z => k4 z.symm)
  have nt : t ∉ yc_t7 tr' := fun z => (yk_tcells k2 z).1 (yk_t8 f2)
  have ntr : ∀ b, (b < 30 ∨ 231 < b) → b ∉ yc_t7 tr' := fun b h z => by simp at z; omega
  have hsl : ysl t o = t + 9 + 10 * (o - 1) := rfl
  -- cells that keep all
  have fi : ∀ b, b ∉ [0, 1, 2, 232] → b ∉ yc_t7 tr' → ¬ yirr F b → b ≠ ysl t o → b ∉ [237, 239, 240, 241, 242, 243] → zq_i S b = zq_i s b := fun b n1 n2 n3 n4 n5 => by
    funext j
    exact ei b j n1 n2 n3 n4 (fun z => absurd (by simp at z ⊢; omega) n5) (fun z => absurd (by rw [z]; simp) n5)
  have fr : ∀ b, ¬ (4 ≤ b ∧ b ≤ 22) → b ≠ 0 → b ≠ ysl t o → b ≠ 3 → zq_r S b = zq_r s b := fun b n1 n2 n3 n4 => by
    funext j
    exact er b j n1 (fun z => n2 z.1) (fun z => n3 z.1) (fun z => n4 z.1)
  obtain ⟨b1, b2, b3, b4, ⟨v, b5⟩, b6, b7, b8⟩ := a1
  refine ⟨⟨hx, fun c hc => (by cases hc), (by rw [e1]; rfl), fun i hi => (by cases hi), ⟨v, b5.cong (fi F (by simp; omega) hFt.1 (by unfold yirr; omega) (by omega) (by simp; omega)) (fi (F + 1) (by simp; omega) hFt.2 (by unfold yirr; omega) (by omega) (by simp; omega))⟩, b6, (ej 3 (by simp)).trans b7, b8.cong (fi 234 (by decide) (ntr _ (by omega)) (by unfold yirr; omega) (by omega) (by decide))⟩, ⟨f1, f2, ?_, ?_, ?_, ?_, e11, ?_, ?_, ?_, ?_, ?_⟩, ⟨?_, ?_, ?_⟩, fun o' p1 p9 => ?_, Or.inl ⟨e19, er3⟩, ?_, a7.cong (ei 240 0 (by decide) (ntr _ (by omega)) (by unfold yirr; omega) (by omega) (fun _ => by omega) (fun z => by cases z)) (fun i hi => ei 241 _ (by decide) (ntr _ (by omega)) (by unfold yirr; omega) (by omega) (fun z => absurd z (by decide)) (fun _ => by omega)) (fun b hb => fi b (by simp at hb ⊢; omega) (ntr _ (by simp at hb; omega)) (by simp at hb; unfold yirr; omega) (by simp at hb; omega) (by simp at hb ⊢; omega)), hm⟩
  · rw [er 0 6 (by omega) (by omega) (by omega) (by omega)]; exact t3
  · rw [er 0 7 (by omega) (by omega) (by omega) (by omega)]; exact t4
  · rw [er 0 8 (by omega) (by omega) (by omega) (by omega)]; exact t5
  · rw [er 0 9 (by omega) (by omega) (by omega) (by omega)]; exact t6
  · rw [e12, ej 22 (by simp)]; exact t8
  · show zq_i S t 2 = _
    rw [fi t (by simp; omega) nt (by unfold yirr; omega) (by omega) (by simp; omega), ej 17 (by simp)]; exact t9
  · show zq_i S t 3 = _
    rw [fi t (by simp; omega) nt (by unfold yirr; omega) (by omega) (by simp; omega), ej 18 (by simp)]; exact t10
  · rw [ej 17 (by simp)]; exact t11
  · rw [ej 18 (by simp)]; exact t12
  · refine a3.swap (P := (0, 10)) (Q := (ysl t o, 4)) (by unfold ytI; simp) (ytI_sl f2 o1 o9) (fun z => by have := (Prod.mk.inj z).1; omega) ?_ ?_ (fun c hc c1 c2 => ?_)
    · show zq_r S 0 10 = zq_r s (ysl t o) 4
      rw [er0, hold]
    · show zq_r S (ysl t o) 4 = zq_r s 0 10
      rw [er1, htr]
    · have key : ∀ c ∈ ytI, ¬ (4 ≤ c.1 ∧ c.1 ≤ 22) ∧ c.1 ≠ 3 := by decide
      have := key c hc
      refine er c.1 c.2 this.1 (fun z => c1 (Prod.ext z.1 z.2)) (fun z => c2 (Prod.ext z.1 z.2)) (fun z => this.2 z.1)
  · exact a3.2.1.cong (fun q hq => fi q (by simp at hq ⊢; omega) (n29 q hq) (by simp at hq; unfold yirr; omega) (by simp at hq; omega) (by simp at hq ⊢; omega)) (el _ (by omega) (n29 34 (by simp)) (by decide))
  · refine a3.2.2.cong (fun q hq => fi q (by simp at hq ⊢; omega) (n128 q hq) (by simp at hq; unfold yirr; omega) (fun z => ?_) (by simp at hq ⊢; omega)) (el _ (by omega) (n128 133 (by simp)) (by decide))
    have := yk_tcells (a := 128) (q := q) (by decide +kernel) hq
    rw [z] at this
    exact this.2.1 r1
  · show yI_slot S (ysl t o') o' (if o' = o then es' else ev o') (ct o')
    by_cases hoo : o' = o
    · subst hoo
      rw [if_pos rfl]
      obtain ⟨d1, d2, d3, d4, d5, d6⟩ := a4 o' o1 o9
      have e238 : zq_i S 238 o' = zq_i s 238 o' := by rw [fi 238 (by decide) (ntr _ (by omega)) (by unfold yirr; omega) (by omega) (by decide)]
      refine ⟨⟨?_, ?_, ?_⟩, ?_, ?_, ?_, ?_, fun _ => ⟨⟨tr', er1, ht⟩, hv, eo.2.2.1, eo.2.2.2.1, ?_, fun z => ?_⟩⟩
      · rw [esl.1]; exact Or.inr rfl
      · rw [esl.2.1]; exact Or.inr rfl
      · rw [esl.2.2.1]; exact Or.inl rfl
      · rw [esl.1, eo.1]
      · rw [esl.2.1, eo.2.1]
      · rw [esl.2.2.2, e238]; exact d4
      · rw [esl.2.2.2]; exact d5
      · rw [esl.2.2.1, eo.2.2.2.2]
      · rw [esl.2.2.1] at z; exact absurd z (by decide)
    · rw [if_neg hoo]
      obtain ⟨s1, s2, s3, s4, s5, s6, s7, s8, s9⟩ := yk_sl f2 p1 p9
      have hslo : ysl t o' = t + 9 + 10 * (o' - 1) := rfl
      have ns : ysl t o' ∉ yc_t7 tr' := fun z => (yk_tcells k2 z).2.1 s1
      have ns8 := yk_tt s3 k2
      refine yI_slot.cong (a4 o' p1 p9) (a8.2.2.2.2 o' (by omega) (by omega)) s2 (fi (ysl t o') (by simp; omega) ns (by unfold yirr; omega) (by omega) (by simp; omega)) (fi (ysl t o' + 8) (by simp; omega) ns8.1 (by unfold yirr; omega) (by omega) (by simp; omega)) (fi (ysl t o' + 8 + 1) (by simp; omega) ns8.2 (by unfold yirr; omega) (by omega) (by simp; omega)) (er _ _ (by omega) (by omega) (by omega) (by omega)) (fun tr2 htr2 _ => ?_) (fun b hb => ?_) (fun i hi => ei 241 _ (by decide) (ntr _ (by omega)) (by unfold yirr; omega) (by omega) (fun z => absurd z (by decide)) (fun _ => by omega)) (fun i _ => by rw [fi 244 (by decide) (ntr _ (by omega)) (by unfold yirr; omega) (by omega) (by decide)])
      · obtain ⟨tr3, j1, j2, j3⟩ := yI_tre.slot a3 f2 p1 p9
        have : tr3 = tr2 := Option.some.inj (j1.symm.trans htr2)
        subst this
        have hne : tr3 ≠ tr' := fun z => k5 t o' f2 p1 p9 (by rw [← z]; exact j1)
        have hd := yk_trees j2 k2 hne
        have hb3 := yk_tree j2 j3
        refine ⟨fun q hq => fi q ?_ (hd q hq) ?_ (fun z => ?_) ?_, el _ (by omega) (hd _ (by simp)) (by omega)⟩
        · simp at hq ⊢; omega
        · simp at hq; unfold yirr; omega
        · have := yk_tcells j2 hq
          rw [z] at this
          exact this.2.1 r1
        · simp at hq ⊢; omega
      · have hb2 : 237 ≤ b ∧ b ≤ 243 ∧ b ≠ 241 := by simp at hb; omega
        exact ei b o' (by simp; omega) (ntr _ (by omega)) (by unfold yirr; omega) (by omega) (fun _ => by omega) (fun z => by omega)
  · show (if 0 = o then es' else ev 0) = [.inl ye_null]
    rw [if_neg (by omega)]
    exact a6
