/-! load: the invariant after it -/
set_option maxRecDepth 100000 in
theorem yhG.slots {s : zq_S} {u t : Nat} (ft : t = 27 ∨ t = 126) (hut : u = 153 - t) (h : yI_tre s) {o : Nat} (o1 : 1 ≤ o) (o9 : o ≤ 9) : ¬ yhGa s u (ysl t o) ∧ ¬ yhGa s u (ysl t o + 8) ∧ ¬ yhGa s u (ysl t o + 9) ∧ ¬ yhGa s u t := by
  have f2 : u = 27 ∨ u = 126 := by omega
  have hD := h.D f2
  obtain ⟨c1, c2, c3, c4, c5, c6, c7, c8, c9⟩ := yk_sl ft o1 o9
  have hs : ysl t o = t + 9 + 10 * (o - 1) := rfl
  have tree : ∀ {b o' tr : Nat}, 1 ≤ o' → o' ≤ 9 → zq_r s (ysl u o') 4 = some tr → b ∈ yc_t7 tr → (zq_k b ≠ (0, 7, 0) ∧ zq_k b ≠ (0, 8, 0)) ∧ b ≠ ysl t o + 8 ∧ b ≠ ysl t o + 9 := fun {b o' tr} p1 p9 z1 z2 => by
    obtain ⟨tr', a1, a2, _⟩ := hD o' p1 p9
    have htt : tr' = tr := Option.some.inj (a1.symm.trans z1)
    subst htt
    obtain ⟨k1, k2, k3, k4⟩ := yk_tcells a2.1 z2
    have n8 := yk_tt c3 a2.1
    exact ⟨⟨k2, k1⟩, fun z => n8.1 (by rw [← z]; exact z2), fun z => n8.2 (by rw [show ysl t o + 8 + 1 = ysl t o + 9 by omega, ← z]; exact z2)⟩
  refine ⟨?_, ?_, ?_, ?_⟩
  · rintro (z | z | ⟨o', p1, p9, z⟩)
    · omega
    · omega
    · have hs' : ysl u o' = u + 9 + 10 * (o' - 1) := rfl
      rcases z with z | z | z | ⟨tr, z1, z2⟩
      · omega
      · omega
      · omega
      · exact (tree p1 p9 z1 z2).1.1 c1
  · rintro (z | z | ⟨o', p1, p9, z⟩)
    · omega
    · omega
    · have hs' : ysl u o' = u + 9 + 10 * (o' - 1) := rfl
      rcases z with z | z | z | ⟨tr, z1, z2⟩
      · omega
      · omega
      · omega
      · exact (tree p1 p9 z1 z2).2.1 rfl
  · rintro (z | z | ⟨o', p1, p9, z⟩)
    · omega
    · omega
    · have hs' : ysl u o' = u + 9 + 10 * (o' - 1) := rfl
      rcases z with z | z | z | ⟨tr, z1, z2⟩
      · omega
      · omega
      · omega
      · exact (tree p1 p9 z1 z2).2.2 rfl
  · rintro (z | z | ⟨o', p1, p9, z⟩)
    · omega
    · omega
    · have hs' : ysl u o' = u + 9 + 10 * (o' - 1) := rfl
      rcases z with z | z | z | ⟨tr, z1, z2⟩
      · omega
      · omega
      · omega
      · exact (tree p1 p9 z1 z2).1.2 (yk_t8 ft)
set_option maxRecDepth 100000 in
/-- cells that loading keeps -/
theorem yhG.out {s : zq_S} {u : Nat} (f2 : u = 27 ∨ u = 126) (h : yI_tre s) {b : Nat} (hb : b < 4 ∨ (23 ≤ b ∧ b < 27) ∨ 232 ≤ b) : ¬ yhGa s u b := by
  have hD := h.D f2
  rintro (z | z | ⟨o', p1, p9, z⟩)
  · omega
  · omega
  · obtain ⟨c1, c2, c3, c4, c5, c6, c7, c8, c9⟩ := yk_sl f2 p1 p9
    rcases z with z | z | z | ⟨tr, z1, z2⟩
    · omega
    · omega
    · omega
    · obtain ⟨tr', a1, a2, _⟩ := hD o' p1 p9
      have htt : tr' = tr := Option.some.inj (a1.symm.trans z1)
      subst htt
      have := yk_tree a2.1 a2.2
      have := yk_t7 z2
      omega
set_option maxRecDepth 100000 in
/-- the trees of the other table -/
theorem yhG.trees {s : zq_S} {u t : Nat} (ft : t = 27 ∨ t = 126) (hut : u = 153 - t) (h : yI_tre s) {o tr : Nat} (o1 : 1 ≤ o) (o9 : o ≤ 9) (htr : zq_r s (ysl t o) 4 = some tr) : ∀ q ∈ yc_t7 tr, ¬ yhGa s u q := by
  have f2 : u = 27 ∨ u = 126 := by omega
  obtain ⟨tr', a1, a2, a3⟩ := h.slot ft o1 o9
  have htt : tr' = tr := Option.some.inj (a1.symm.trans htr)
  subst htt
  refine yhGa_tree f2 (h.D f2) a2 (by omega) (fun o' p1 p9 z => ?_)
  have := h.inj2 (ytI_sl f2 p1 p9) (ytI_sl ft o1 o9) (by show zq_r s (ysl u o') 4 = zq_r s (ysl t o) 4; rw [z, htr])
  have e : ysl u o' = ysl t o := congrArg Prod.fst this
  unfold ysl at e
  omega
set_option maxRecDepth 100000 in
theorem yhG.noth {s : zq_S} {u : Nat} (f2 : u = 27 ∨ u = 126) (h : yI_tre s) {b : Nat} (hb : (29 ≤ b ∧ b ≤ 35) ∨ (128 ≤ b ∧ b ≤ 134)) : ¬ yhGa s u b := by
  have hD := h.D f2
  have no : ∀ a, (a = 29 ∨ a = 128) → ∀ o : Nat, 1 ≤ o → o ≤ 9 → zq_r s (ysl u o) 4 ≠ some a := fun a ha o o1 o9 z => by
    obtain ⟨tr', a1, a2, _⟩ := hD o o1 o9
    have htt : tr' = a := Option.some.inj (a1.symm.trans z)
    omega
  rcases hb with z | z
  · exact yhGa_tree f2 hD (a := 29) (by decide +kernel) (by omega) (no 29 (Or.inl rfl)) b (by simp; omega)
  · exact yhGa_tree f2 hD (a := 128) (by decide +kernel) (by omega) (no 128 (Or.inr rfl)) b (by simp; omega)
set_option maxRecDepth 100000 in
theorem yhG.yI {s S : zq_S} {dr fl : List Int} {ev : Nat → List ye_E} {ct : Nat → List Int} {F t u : Nat} (hI : yI s (dr, fl, ev, ct, F, t)) (hut : u = 153 - t) (g : yhG u s S) : yI S (dr, fl, ev, ct, F, t) := by
  obtain ⟨a1, a2, a3, a4, a5, a6, a7, a8⟩ := hI
  have a1 : yI_txt s dr fl F := a1
  have a2 : yI_top s F t := a2
  have a4 : yI_tab s t ev ct := a4
  have a5 : yI_cur s t ev := a5
  obtain ⟨f1, ft, t3, t4, t5, t6, t7, t8, t9, t10, t11, t12⟩ := a2
  have f2 : u = 27 ∨ u = 126 := by omega
  have out : ∀ b, (b < 4 ∨ (23 ≤ b ∧ b < 27) ∨ 232 ≤ b) → zq_i S b = zq_i s b := fun b hb => (g.1 b (yhG.out f2 a3 hb)).1
  have et : zq_i S t = zq_i s t := (g.1 t (yhG.slots ft hut a3 (o := 1) (by decide) (by decide)).2.2.2).1
  have er : ∀ b, ¬ (4 ≤ b ∧ b ≤ 22) → zq_r S b = zq_r s b := g.2.1
  have hl : ytl S = ytl s := by
    unfold ytl
    rw [er 0 (by omega)]
    congr 2
    · exact List.map_congr_left fun i hi => by rw [er (36 + 10 * i) (by omega)]
    · exact List.map_congr_left fun i hi => by rw [er (135 + 10 * i) (by omega)]
  refine ⟨a1.cong (fun b hb => out b (by simp at hb; omega)) (by rw [out 232 (by omega)]) (by rw [out 232 (by omega)]), ⟨f1, ft, ?_, ?_, ?_, ?_, ?_, ?_, ?_, ?_, ?_, ?_⟩, a3.cong hl (fun b hb => (g.1 b (yhG.noth f2 a3 hb)).1) (g.1 34 (yhG.noth f2 a3 (by omega))).2 (g.1 133 (yhG.noth f2 a3 (by omega))).2, fun o' p1 p9 => ?_, a5.cong (by rw [out 232 (by omega)]) (by rw [out 232 (by omega)]) (fun o => by rw [out 237 (by omega)]) (by rw [er 3 (by omega)]) (by rw [out 3 (by omega)]) (fun o o1 o9 => by rw [er (ysl t o) (by have := yk_sl ft o1 o9; omega)]), a6, a7.cong (by rw [out 240 (by omega)]) (fun i _ => by rw [out 241 (by omega)]) (fun b hb => out b (by simp at hb; omega)), a8.cong (fun j _ => by rw [out 232 (by omega)]) (out 240 (by omega))⟩
  · rw [er 0 (by omega)]; exact t3
  · rw [er 0 (by omega)]; exact t4
  · rw [er 0 (by omega)]; exact t5
  · rw [er 0 (by omega)]; exact t6
  · rw [out 0 (by omega), out 232 (by omega)]; exact t7
  · rw [out 0 (by omega), out 232 (by omega)]; exact t8
  · show zq_i S t 2 = _
    rw [et, out 232 (by omega)]; exact t9
  · show zq_i S t 3 = _
    rw [et, out 232 (by omega)]; exact t10
  · rw [out 232 (by omega)]; exact t11
  · rw [out 232 (by omega)]; exact t12
  · obtain ⟨r1, r2, r3, r4, r5, r6, r7, r8, r9⟩ := yk_sl ft p1 p9
    obtain ⟨n1, n2, n3, _⟩ := yhG.slots ft hut a3 p1 p9
    refine yI_slot.cong (a4 o' p1 p9) (a8.2.2.2.2 o' (by omega) (by omega)) r2 (g.1 _ n1).1 (g.1 _ n2).1 (g.1 _ n3).1 (by rw [er (ysl t o') (by omega)]) (fun tr htr _ => ?_) (fun b hb => by rw [out b (by simp at hb; omega)]) (fun i _ => by rw [out 241 (by omega)]) (fun i _ => by rw [out 244 (by omega)])
    have nt := yhG.trees ft hut a3 p1 p9 htr
    exact ⟨fun q hq => (g.1 q (nt q hq)).1, (g.1 _ (nt _ (by simp))).2⟩
set_option maxRecDepth 100000 in
theorem yI.told2 {s : zq_S} {A : yA} (h : yI s A) (c q : Int) : yI (zq_si (zq_si (zq_si (zq_si s 0 12 c) 0 11 q) 232 21 q) 232 22 c) A := by
  obtain ⟨dr, fl, ev, ct, F, t⟩ := A
  obtain ⟨a1, a2, a3, a4, a5, a6, a7, a8⟩ := h
  have a1 : yI_txt s dr fl F := a1
  have a2 : yI_top s F t := a2
  have a4 : yI_tab s t ev ct := a4
  have a5 : yI_cur s t ev := a5
  obtain ⟨f1, f2, t3, t4, t5, t6, t7, t8, t9, t10, t11, t12⟩ := a2
  have ei : ∀ b, b ≠ 0 → b ≠ 232 → zq_i (zq_si (zq_si (zq_si (zq_si s 0 12 c) 0 11 q) 232 21 q) 232 22 c) b = zq_i s b := fun b n1 n2 => by
    funext j
    rw [zq_i_si, if_neg (fun z => n2 z.1), zq_i_si, if_neg (fun z => n2 z.1), zq_i_si, if_neg (fun z => n1 z.1), zq_i_si, if_neg (fun z => n1 z.1)]
  have ej : ∀ j, j ≠ 21 → j ≠ 22 → zq_i (zq_si (zq_si (zq_si (zq_si s 0 12 c) 0 11 q) 232 21 q) 232 22 c) 232 j = zq_i s 232 j := fun j j1 j2 => by
    rw [zq_i_si, if_neg (fun z => j2 z.2), zq_i_si, if_neg (fun z => j1 z.2), zq_i_si, if_neg (by simp), zq_i_si, if_neg (by simp)]
  refine ⟨a1.cong (fun b hb => ei b (by simp at hb; omega) (by simp at hb; omega)) (ej 1 (by decide) (by decide)) (ej 3 (by decide) (by decide)), ⟨f1, f2, t3, t4, t5, t6, ?_, ?_, ?_, ?_, ?_, ?_⟩, a3.cong rfl (fun b hb => ei b (by omega) (by omega)) rfl rfl, fun o' p1 p9 => ?_, a5.cong (ej 19 (by decide) (by decide)) (ej 20 (by decide) (by decide)) (fun o => by rw [ei 237 (by decide) (by decide)]) rfl (by rw [ei 3 (by decide) (by decide)]) (fun _ _ _ => rfl), a6, a7.cong (by rw [ei 240 (by decide) (by decide)]) (fun i _ => by rw [ei 241 (by decide) (by decide)]) (fun b hb => ei b (by simp at hb; omega) (by simp at hb; omega)), a8.cong (fun j hj => ej j (by simp at hj; omega) (by simp at hj; omega)) (ei 240 (by decide) (by decide))⟩
  · rw [zq_i_si, if_neg (by simp), zq_i_si, if_neg (by simp), zq_i_at, zq_i_si, if_neg (by simp), zq_i_at]
  · rw [zq_i_si, if_neg (by simp), zq_i_si, if_neg (by simp), zq_i_si, if_neg (by simp), zq_i_at, zq_i_at]
  · show zq_i _ t 2 = _
    rw [ei t (by omega) (by omega), ej 17 (by decide) (by decide)]; exact t9
  · show zq_i _ t 3 = _
    rw [ei t (by omega) (by omega), ej 18 (by decide) (by decide)]; exact t10
  · rw [ej 17 (by decide) (by decide)]; exact t11
  · rw [ej 18 (by decide) (by decide)]; exact t12
  · obtain ⟨r1, r2, r3, r4, r5, r6, r7, r8, r9⟩ := yk_sl f2 p1 p9
    refine yI_slot.cong (a4 o' p1 p9) (a8.2.2.2.2 o' (by omega) (by omega)) r2 (ei (ysl t o') (by omega) (by omega)) (ei (ysl t o' + 8) (by omega) (by omega)) (ei (ysl t o' + 8 + 1) (by omega) (by omega)) rfl (fun tr htr _ => ?_) (fun b hb => by rw [ei b (by simp at hb; omega) (by simp at hb; omega)]) (fun i _ => by rw [ei 241 (by decide) (by decide)]) (fun i _ => by rw [ei 244 (by decide) (by decide)])
    obtain ⟨tr', k1, k2, k3⟩ := yI_tre.slot a3 f2 p1 p9
    have : tr' = tr := Option.some.inj (k1.symm.trans htr)
    subst this
    have hb := yk_tree k2 k3
    refine ⟨fun q' hq => ei q' (by have := yk_t7 hq; omega) (by have := yk_t7 hq; omega), rfl⟩
set_option maxRecDepth 100000 in
/-- a load that failed -/
theorem yI.faulted {s S S' : zq_S} {A : yA} {u : Nat} {c q : Int} (hI : yI s A) (hut : u = 153 - A.2.2.2.2.2) (g : yhG u s S) (f : ymf yJl yAl (zq_sx (zq_si (zq_si S 0 12 c) 0 11 q) 10) S') (hm : ym_I S') : yI (zq_si (zq_si (zq_si S' 232 0 1) 232 21 q) 232 22 c) A := by
  obtain ⟨dr, fl, ev, ct, F, t⟩ := A
  have hIS := yhG.yI hI hut g
  have hIC := (hIS.told2 c q).exc 10
  refine ymf.yI (J := 0 :: yJl) (B := yAl) hIC ⟨fun b hb h2 => ?_, fun j hj => ?_, f.2.2⟩ (by decide) (fun b hb => by simp at hb; omega) (hm.cong (fun j hj => ?_) ?_)
  · have e1 : zq_i (zq_si (zq_si (zq_si S' 232 0 1) 232 21 q) 232 22 c) b = zq_i S' b := by
      funext j
      rw [zq_i_si, if_neg (fun z => h2 z.1), zq_i_si, if_neg (fun z => h2 z.1), zq_i_si, if_neg (fun z => h2 z.1)]
    rw [e1, f.i hb h2]
    funext j
    show zq_i (zq_si (zq_si S 0 12 c) 0 11 q) b j = zq_i (zq_si (zq_si (zq_si (zq_si S 0 12 c) 0 11 q) 232 21 q) 232 22 c) b j
    rw [zq_i_si (zq_si (zq_si (zq_si S 0 12 c) 0 11 q) 232 21 q), if_neg (fun z => h2 z.1), zq_i_si (zq_si (zq_si S 0 12 c) 0 11 q), if_neg (fun z => h2 z.1)]
  · show zq_i (zq_si (zq_si (zq_si S' 232 0 1) 232 21 q) 232 22 c) 232 j = zq_i (zq_si (zq_si (zq_si (zq_si S 0 12 c) 0 11 q) 232 21 q) 232 22 c) 232 j
    rw [zq_i_si (zq_si (zq_si S' 232 0 1) 232 21 q), zq_i_si (zq_si (zq_si (zq_si S 0 12 c) 0 11 q) 232 21 q)]
    by_cases h22 : j = 22
    · rw [if_pos ⟨rfl, h22⟩, if_pos ⟨rfl, h22⟩]
    · rw [if_neg (fun z => h22 z.2), if_neg (fun z => h22 z.2), zq_i_si (zq_si S' 232 0 1), zq_i_si (zq_si (zq_si S 0 12 c) 0 11 q)]
      by_cases h21 : j = 21
      · rw [if_pos ⟨rfl, h21⟩, if_pos ⟨rfl, h21⟩]
      · have h0 : j ≠ 0 := fun z => hj (by rw [z]; simp)
        have hJ : j ∉ yJl := fun z => hj (List.mem_cons_of_mem _ z)
        rw [if_neg (fun z => h21 z.2), if_neg (fun z => h21 z.2), zq_i_si S', if_neg (fun z => h0 z.2), f.f hJ]
        rfl
  · have : j ≠ 0 ∧ j ≠ 21 ∧ j ≠ 22 := by simp at hj; omega
    rw [zq_i_si, if_neg (fun z => this.2.2 z.2), zq_i_si, if_neg (fun z => this.2.1 z.2), zq_i_si, if_neg (fun z => this.1 z.2)]
  · funext j
    rw [zq_i_si, if_neg (by simp), zq_i_si, if_neg (by simp), zq_i_si, if_neg (by simp)]
