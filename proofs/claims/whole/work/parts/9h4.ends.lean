/-! load: the class takes the ends of the objects -/
def yh_c (T : Int → Int) (E : yLt) (o : Nat) : List Int := match yh_V T E o with
  | none => []
  | some (q, _) => (match yh_end T E o with
    | .inr (some n) => (List.range n.toNat).map (fun i : Nat => T (q + 8 + (i : Int)))
    | _ => [])
set_option maxRecDepth 100000 in
theorem yh_ln_u {T : Int → Int} {E : yLt} : ∀ (f m : Nat) (d : ye_N) (r : Nat), yh_ln T E f m d = some (.inl r) → ∃ pg, yh_u E r = some pg
  | 0, m, d, r, h => by cases h
  | f + 1, m, d, r, h => by
    have h : (if d.1 = 8 then (if yh_me E d = 0 then none else if m.testBit (yh_me E d) = true then none else (match yh_V T E (yh_me E d) with
      | none => some (.inl (yh_me E d))
      | some (_, es) => yh_ln T E f (m ||| 2 ^ yh_me E d) (yz_hd es))) else if d.1 = 3 then some (.inr d.2.1) else none : Option (Nat ⊕ Int)) = some (.inl r) := h
    by_cases h8 : d.1 = 8
    · rw [if_pos h8] at h
      by_cases h0 : yh_me E d = 0
      · rw [if_pos h0] at h; cases h
      · rw [if_neg h0] at h
        by_cases hb : m.testBit (yh_me E d) = true
        · rw [if_pos hb] at h; cases h
        · rw [if_neg hb] at h
          cases hv : yh_V T E (yh_me E d) with
          | none =>
            rw [hv] at h
            have h : yh_me E d = r := Sum.inl.inj (Option.some.inj h)
            rw [← h]
            have hme : yh_me E d = (match yh_u E d.2.1.toNat with
              | some pg => if pg.2 = d.2.2.1 then d.2.1.toNat else 0
              | none => 0) := rfl
            cases hu : yh_u E d.2.1.toNat with
            | none =>
              rw [hu] at hme
              exact absurd hme h0
            | some pg =>
              rw [hu] at hme
              have hme : yh_me E d = if pg.2 = d.2.2.1 then d.2.1.toNat else 0 := hme
              by_cases hg : pg.2 = d.2.2.1
              · rw [if_pos hg] at hme
                rw [hme]
                exact ⟨pg, hu⟩
              · rw [if_neg hg] at hme
                exact absurd hme h0
          | some x =>
            obtain ⟨q, es⟩ := x
            rw [hv] at h
            exact yh_ln_u f _ _ r h
    · rw [if_neg h8] at h
      by_cases h3 : d.1 = 3
      · rw [if_pos h3] at h; cases h
      · rw [if_neg h3] at h; cases h
set_option maxRecDepth 100000 in
theorem yh_L_u {T : Int → Int} {E : yLt} {es : List ye_E} {r : Nat} (h : yh_L T E es = some (.inl r)) : ∃ pg, yh_u E r = some pg := by
  unfold yh_L at h
  cases hf : ye_fk yNL es 0 with
  | none => rw [hf] at h; cases h
  | some x =>
    rw [hf] at h
    exact yh_ln_u 10 0 x.1 r h
/-- a stream is taken -/
def yhS (u o : Nat) (s S : zq_S) : Prop := (∀ b (j : Int), b ≠ ysl u o + 8 → b ≠ ysl u o + 9 → (b = ysl u o → j ≠ 2) → zq_i S b j = zq_i s b j) ∧ S.2 = s.2
set_option maxRecDepth 100000 in
theorem ylk.S {s S : zq_S} {F u o : Nat} {T : Int → Int} (h : ylk s F u T) (f : yhS u o s S) : ylk S F u T := by
  obtain ⟨h1, h2, h3, h4, h5, h6⟩ := h
  have c : ∀ b, b = F ∨ b = F + 1 → zq_i S b = zq_i s b := fun b hb => by
    funext j
    exact f.1 b j (by unfold ysl; omega) (by unfold ysl; omega) (fun z => by unfold ysl at z; omega)
  have c1 := c F (Or.inl rfl)
  have c2 := c (F + 1) (Or.inr rfl)
  have r : zq_r S = zq_r s := by unfold zq_r; rw [f.2]
  refine ⟨h1, h2, ?_, ?_, by rw [r]; exact h5, by rw [r]; exact h6⟩
  · unfold yc_ok
    rw [c1, c2]
    exact h3
  · rw [← h4]
    unfold yc_t
    rw [c1, c2]
/-- an object's end is taken -/
def yhE (u o : Nat) (s S : zq_S) : Prop := (∀ b (j : Int), b ≠ 10 → (b = 7 → j ≠ 9 ∧ j ≠ 10) → b ≠ ysl u o + 8 → b ≠ ysl u o + 9 → (b = ysl u o → j ≠ 2) → zq_i S b j = zq_i s b j) ∧ (∀ b, b ≠ 10 → zq_r S b = zq_r s b) ∧ zq_l S = zq_l s ∧ zq_n S = zq_n s
set_option maxRecDepth 100000 in
theorem yhE.refl (u o : Nat) (s : zq_S) : yhE u o s s := ⟨fun _ _ _ _ _ _ _ => rfl, fun _ _ => rfl, rfl, rfl⟩
set_option maxRecDepth 100000 in
theorem yhE.trans {u o : Nat} {s s1 s2 : zq_S} (h1 : yhE u o s s1) (h2 : yhE u o s1 s2) : yhE u o s s2 := ⟨fun b j a1 a2 a3 a4 a5 => (h2.1 b j a1 a2 a3 a4 a5).trans (h1.1 b j a1 a2 a3 a4 a5), fun b a => (h2.2.1 b a).trans (h1.2.1 b a), h2.2.2.1.trans h1.2.2.1, h2.2.2.2.trans h1.2.2.2⟩
set_option maxRecDepth 100000 in
theorem yz10.E {u o : Nat} {s S : zq_S} (h : yz10 s S) : yhE u o s S := ⟨fun b j a _ _ _ _ => by rw [h.1 b a], h.2.1, h.2.2.1, h.2.2.2⟩
set_option maxRecDepth 100000 in
theorem yhS.E {u o : Nat} {s S : zq_S} (h : yhS u o s S) : yhE u o s S := ⟨fun b j _ _ a3 a4 a5 => h.1 b j a3 a4 a5, fun b _ => by unfold zq_r; rw [h.2], by unfold zq_l; rw [h.2], by unfold zq_n; rw [h.2]⟩
/-- all ends are taken -/
def yhN (u : Nat) (s S : zq_S) : Prop := (∀ b (j : Int), b ≠ 10 → (b = 7 → j ≠ 9 ∧ j ≠ 10) → (∀ o : Nat, 1 ≤ o → o ≤ 9 → b ≠ ysl u o + 8 ∧ b ≠ ysl u o + 9 ∧ (b = ysl u o → j ≠ 2)) → zq_i S b j = zq_i s b j) ∧ (∀ b, b ≠ 10 → zq_r S b = zq_r s b) ∧ zq_l S = zq_l s ∧ zq_n S = zq_n s
set_option maxRecDepth 100000 in
theorem yhN.refl (u : Nat) (s : zq_S) : yhN u s s := ⟨fun _ _ _ _ _ => rfl, fun _ _ => rfl, rfl, rfl⟩
set_option maxRecDepth 100000 in
theorem yhN.trans {u : Nat} {s s1 s2 : zq_S} (h1 : yhN u s s1) (h2 : yhN u s1 s2) : yhN u s s2 := ⟨fun b j a1 a2 a3 => (h2.1 b j a1 a2 a3).trans (h1.1 b j a1 a2 a3), fun b a => (h2.2.1 b a).trans (h1.2.1 b a), h2.2.2.1.trans h1.2.2.1, h2.2.2.2.trans h1.2.2.2⟩
set_option maxRecDepth 100000 in
theorem yhE.N {u o : Nat} {s S : zq_S} (o1 : 1 ≤ o) (o9 : o ≤ 9) (h : yhE u o s S) : yhN u s S := ⟨fun b j a1 a2 a3 => h.1 b j a1 a2 (a3 o o1 o9).1 (a3 o o1 o9).2.1 (a3 o o1 o9).2.2, h.2⟩
set_option maxRecDepth 100000 in
theorem yhN.hG {u : Nat} {s S : zq_S} (h : yhN u s S) : yhG u s S := by
  refine ⟨fun b hb => ⟨?_, by rw [h.2.2.1]⟩, fun b hb => h.2.1 b (by omega), h.2.2.2⟩
  funext j
  refine h.1 b j (fun z => hb (Or.inl (by omega))) (fun z => absurd (Or.inl (by omega)) hb) (fun o o1 o9 => ⟨fun z => hb (Or.inr (Or.inr ⟨o, o1, o9, Or.inr (Or.inl z)⟩)), fun z => hb (Or.inr (Or.inr ⟨o, o1, o9, Or.inr (Or.inr (Or.inl z))⟩)), fun z => absurd (Or.inr (Or.inr ⟨o, o1, o9, Or.inl z⟩)) hb⟩)
set_option maxRecDepth 100000 in
theorem yhN.lk {s S : zq_S} {F u : Nat} {T : Int → Int} (h : ylk s F u T) (f : yhN u s S) : ylk S F u T := by
  obtain ⟨h1, h2, h3, h4, h5, h6⟩ := h
  have c : ∀ b, b = F ∨ b = F + 1 → zq_i S b = zq_i s b := fun b hb => by
    funext j
    exact f.1 b j (by omega) (fun z => by omega) (fun o o1 o9 => ⟨by unfold ysl; omega, by unfold ysl; omega, fun z => by unfold ysl at z; omega⟩)
  have c1 := c F (Or.inl rfl)
  have c2 := c (F + 1) (Or.inr rfl)
  refine ⟨h1, h2, ?_, ?_, by rw [f.2.1 7 (by decide)]; exact h5, by rw [f.2.1 7 (by decide)]; exact h6⟩
  · unfold yc_ok
    rw [c1, c2]
    exact h3
  · rw [← h4]
    unfold yc_t
    rw [c1, c2]
set_option maxRecDepth 100000 in
theorem yhN.tree {u : Nat} {s S : zq_S} (f : yhN u s S) (f2 : u = 27 ∨ u = 126) {a : Nat} (ha : zq_o 4 a) (h : 29 ≤ a) : (∀ q ∈ yc_t7 a, zq_i S q = zq_i s q) ∧ zq_l S (a + 5) = zq_l s (a + 5) := by
  refine ⟨fun q hq => ?_, by rw [f.2.2.1]⟩
  have hq2 := yk_t7 hq
  funext j
  refine f.1 q j (by omega) (fun z => by omega) (fun o o1 o9 => ?_)
  obtain ⟨c1, c2, c3, c4, c5, c6, c7, c8, c9⟩ := yk_sl f2 o1 o9
  have n8 := yk_tt c3 ha
  refine ⟨fun z => n8.1 (by rw [← z]; exact hq), fun z => n8.2 (by rw [show ysl u o + 8 + 1 = ysl u o + 9 by omega, ← z]; exact hq), fun z => ?_⟩
  exfalso
  have := yk_tcells ha hq
  rw [z] at this
  exact this.2.1 c1
set_option maxRecDepth 100000 in
theorem yhN.cv {u : Nat} {s S : zq_S} {E : yLt} (f : yhN u s S) (f2 : u = 27 ∨ u = 126) (h : yCv s u E) : yCv S u E := h.cong (fun o o1 o9 j hj => by
  have hs := yk_sl f2 o1 o9
  refine f.1 _ j (by omega) (fun z => by omega) (fun o' p1 p9 => ⟨by unfold ysl; omega, by unfold ysl; omega, fun _ => by omega⟩)) (by
  funext j
  exact f.1 18 j (by decide) (fun z => (by cases z)) (fun o' p1 p9 => ⟨by unfold ysl; omega, by unfold ysl; omega, fun z => by unfold ysl at z; omega⟩))
set_option maxRecDepth 100000 in
theorem yhN.D {u : Nat} {s S : zq_S} (f : yhN u s S) (f2 : u = 27 ∨ u = 126) (h : yD s u) : yD S u := fun o o1 o9 => by
  have e : ∀ o : Nat, 1 ≤ o → o ≤ 9 → zq_r S (ysl u o) = zq_r s (ysl u o) := fun o o1 o9 => f.2.1 _ (by have := yk_sl f2 o1 o9; omega)
  obtain ⟨tr, a1, a2, a3⟩ := h o o1 o9
  refine ⟨tr, by rw [e o o1 o9]; exact a1, a2, fun o' p1 p9 hne => ?_⟩
  rw [e o' p1 p9]
  exact a3 o' p1 p9 hne
set_option maxRecDepth 100000 in
theorem yhN.V {u : Nat} {s S : zq_S} {T : Int → Int} {E : yLt} (f : yhN u s S) (f2 : u = 27 ∨ u = 126) (hD : yD s u) {o : Nat} (o1 : 1 ≤ o) (o9 : o ≤ 9) (h : yVo s u T E o) : yVo S u T E o := by
  have hs := yk_sl f2 o1 o9
  refine h.cong (by rw [f.2.1 _ (by omega)]) (fun tr z => ?_) ?_
  · obtain ⟨tr', a1, a2, _⟩ := hD o o1 o9
    have htt : tr' = tr := Option.some.inj (a1.symm.trans z)
    subst htt
    exact f.tree f2 a2.1 (by omega)
  · exact f.1 19 _ (by decide) (fun z => (by cases z)) (fun o' p1 p9 => ⟨by unfold ysl; omega, by unfold ysl; omega, fun z => by unfold ysl at z; omega⟩)
/-- an object that has been taken whole -/
def yhR (S : zq_S) (u : Nat) (T : Int → Int) (E : yLt) (o : Nat) : Prop := yh_u E o ≠ none → ∃ st, yh_end T E o = .inr st ∧ (st = none → zq_i S (ysl u o) 2 = 0) ∧ (∀ n, st = some n → zq_i S (ysl u o) 2 = 1 ∧ yx S (ysl u o + 8) (yh_c T E o, 0))
section YLH4
variable {X : Nat × (Nat → Int32)}
set_option maxRecDepth 100000 in
theorem ys_124 {S : zq_S} {F u o : Nat} {T : Int → Int} (hk : ylk S F u T) (hb : yTb T) (hC : yp_C T) (o1 : 1 ≤ o) (o9 : o ≤ 9) {q : Int} (q0 : 0 ≤ q ∧ q ≤ 2000) {n : Nat} (hn : n ≤ 12) {K : Int → zq_S → Prop} (k0 : ¬ (yh_ct T q n = true ∧ yp_has T yX_nes (q + n) = true) → ∀ S', yhS u o S S' → K 0 S') (k1 : yh_ct T q n = true ∧ yp_has T yX_nes (q + n) = true → ∀ S', yhS u o S S' → zq_i S' (ysl u o) 2 = 1 → yx S' (ysl u o + 8) ((List.range n).map (fun i : Nat => T (q + (i : Int))), 0) → K 1 S') : zq_Ex X 124 0 [.ref 7, .ref (ysl u o), zq_vi q, zq_vi (n : Int), zz_no, zz_no] [] S (zq_rp zq_bo K) := by
  have f2 := hk.2.1
  obtain ⟨c1, c2, c3, c4, c5, c6, c7, c8, c9⟩ := yk_sl f2 o1 o9
  have s35 : zq_str 35 = yX_nes := by decide +kernel
  have loop : ∀ (m i : Nat) (S' : zq_S) (v5 : Value), v5.category = 1 → i + m = n → yhS u o S S' → (∀ k : Nat, k < i → 32 ≤ T (q + k)) → yx S' (ysl u o + 8) ((List.range i).map (fun i : Nat => T (q + (i : Int))), 0) → zq_Ex X 124 10 [.ref 7, .ref (ysl u o), zq_vi q, zq_vi (n : Int), zq_vi (i : Int), v5] [] S' (zq_rp zq_bo K) := by
    intro m
    induction m with
    | zero =>
      intro i S' v5 h5 hi fr hc hx
      have fr2 : yhS u o S (zq_si S' (ysl u o) 2 1) := ⟨fun b j n1 n2 n3 => by
        rw [zq_i_si, if_neg (fun z => n3 z.1 z.2)]
        exact fr.1 b j n1 n2 n3, fr.2⟩
      obtain ⟨f1, _, hok, hT, r6, r7⟩ := hk.S fr2
      have oF : zq_o 1 F := by rcases f1 with z | z <;> (subst z; decide +kernel)
      refine zw_124_10 c1 ⟨by omega, by omega⟩ ⟨by omega, by omega⟩ ⟨by omega, by omega⟩ h5 ?_
      rw [if_neg (by omega)]
      refine ⟨F, r6, ys_49 oF hok ⟨by omega, by omega⟩ (by decide) (by rw [s35]; decide) (by rw [s35]; decide) ?_⟩
      rw [hT, s35]
      have hin : i = n := by omega
      cases hh : yp_has T yX_nes (q + n) with
      | false => exact k0 (fun z => by rw [hh] at z; cases z.2) _ fr2
      | true =>
        refine k1 ⟨decide_eq_true (fun k hk' => hc k (by omega)), hh⟩ _ fr2 (zq_i_at _ _ _ _) ?_
        rw [← hin]
        refine hx.cong ?_ ?_
        · funext j
          rw [zq_i_si, if_neg (fun z => by have := z.1; omega)]
        · funext j
          rw [zq_i_si, if_neg (fun z => by have := z.1; omega)]
    | succ m ih =>
      intro i S' v5 h5 hi fr hc hx
      obtain ⟨f1, _, hok, hT, r6, r7⟩ := hk.S fr
      have oF : zq_o 1 F := by rcases f1 with z | z <;> (subst z; decide +kernel)
      refine zw_124_10 c1 ⟨by omega, by omega⟩ ⟨by omega, by omega⟩ ⟨by omega, by omega⟩ h5 ?_
      rw [if_pos (by omega)]
      refine ⟨F, r6, ys_29 oF hok ⟨by omega, by omega⟩ ?_⟩
      rw [hT]
      have hbT := hb.1 (q + i)
      have no : T (q + i) < 32 → K 0 S' := fun hl => k0 (fun z => by
        have := (of_decide_eq_true z.1) i (by omega)
        omega) S' fr
      refine yl_if (fun h1 => no ?_) (fun h1 => yl_if (fun h2 => no ?_) (fun h2 => ?_))
      · unfold yp_cd at h1
        split at h1 <;> omega
      · unfold yp_cd at h2
        split at h2 <;> omega
      · have h0 : T (q + i) ≠ 0 := fun z => h1 (by unfold yp_cd; rw [if_pos z])
        rw [yp_cd_ne h0] at h2 ⊢
        have h32 : 32 ≤ T (q + i) := by
          rcases hC (q + i) with z | z
          · exact absurd z h0
          · unfold yp_isC at z
            have := of_decide_eq_true z
            omega
        refine ys_19 c3 hx ⟨by omega, by omega⟩ (fun S2 hx2 g => ?_)
        rw [show (i : Int) + 1 = ((i + 1 : Nat) : Int) by omega]
        refine ih (i + 1) S2 _ rfl (by omega) ⟨fun b j n1 n2 n3 => ?_, g.2.trans fr.2⟩ (fun k hk' => ?_) ?_
        · rw [g.i (by simp; omega)]
          exact fr.1 b j n1 n2 n3
        · by_cases e : k = i
          · rw [e]; exact h32
          · exact hc k (by omega)
        · rw [c2] at hx2
          have e : yx_p 12 ((List.range i).map (fun i : Nat => T (q + (i : Int))), 0) (T (q + (i : Int))) = ((List.range (i + 1)).map (fun i : Nat => T (q + (i : Int))), 0) := by
            unfold yx_p
            rw [if_pos (by simp; omega), List.range_succ, List.map_append]
            rfl
          rw [e] at hx2
          exact hx2
  refine zw_124 c1 ⟨by omega, by omega⟩ ⟨by omega, by omega⟩ (ys_15 c3 (fun S1 hx g => loop n 0 S1 _ rfl (by omega) ⟨fun b j n1 n2 n3 => by rw [g.i (by simp; omega)], g.2⟩ (fun k hk' => by omega) hx))
set_option maxRecDepth 100000 in
theorem ys_123 {S : zq_S} {F u o : Nat} {T : Int → Int} {E : yLt} (hk : ylk S F u T) (hb : yTb T) (hC : yp_C T) (hL : yCv S u E) (hE : yLb E) (hD : yD S u) (hV : ∀ o : Nat, 1 ≤ o → o ≤ 9 → yVo S u T E o) (hN : yt_tr S (u + 2) 0 0 [.inl ye_null]) (o1 : 1 ≤ o) (o9 : o ≤ 9) {p g : Int} (hu : yh_u E o = some (p, g)) {K : Int → zq_S → Prop}
    (kf : ∀ c q S', yh_end T E o = .inl (c, q) → yhE u o S S' → zq_i S' 7 9 = c → zq_i S' 7 10 = q → K 0 S')
    (kn : ∀ S', yh_end T E o = .inr none → yhE u o S S' → zq_i S' (ysl u o) 2 = zq_i S (ysl u o) 2 → K 1 S')
    (ks : ∀ n S', yh_end T E o = .inr (some n) → yhE u o S S' → zq_i S' (ysl u o) 2 = 1 → yx S' (ysl u o + 8) (yh_c T E o, 0) → K 1 S') : zq_Ex X 123 0 [.ref 7, zq_vi (o : Int), .ref (ysl u o), zz_no, zz_no, zz_no] [] S (zq_rp zq_bo K) := by
  obtain ⟨f1, f2, hok, hT, r6, r7⟩ := id hk
  have oF : zq_o 1 F := by rcases f1 with z | z <;> (subst z; decide +kernel)
  have o4 : zq_o 2 10 := by decide +kernel
  obtain ⟨c1, c2, c3, c4, c5, c6, c7, c8, c9⟩ := yk_sl f2 o1 o9
  have s33 : zq_str 33 = yX_neo := by decide +kernel
  have s34 : zq_str 34 = yX_nst := by decide +kernel
  obtain ⟨tr, t1, t2⟩ := hV o o1 o9 (by rw [hu]; simp)
  obtain ⟨tr', y1, y2, y3⟩ := hD o o1 o9
  have htt : tr' = tr := Option.some.inj (y1.symm.trans t1)
  subst htt
  have htr : zq_o 4 tr' ∧ 29 ≤ tr' := ⟨y2.1, by omega⟩
  obtain ⟨b1, b2, b3, b4⟩ := yh_u_b hE hu
  have h18 : zq_i S 18 o = p := (hL o o1 o9).2.2 p g hu
  have rfs : ∀ (S' : zq_S) (c q : Int), yhE u o S S' → yh_end T E o = .inl (c, q) → K 0 (zq_si (zq_si S' 7 9 c) 7 10 q) := fun S' c q f e => by
    refine kf c q _ e (f.trans ⟨fun b j _ a2 _ _ _ => ?_, fun _ _ => rfl, rfl, rfl⟩) ?_ ?_
    · rw [zq_i_si, if_neg (fun z => (a2 z.1).2 z.2), zq_i_si, if_neg (fun z => (a2 z.1).1 z.2)]
    · rw [zq_i_si, if_neg (by simp), zq_i_si, if_pos ⟨rfl, rfl⟩]
    · rw [zq_i_si, if_pos ⟨rfl, rfl⟩]
  refine zw_123 ⟨by omega, by omega⟩ c1 ⟨⟨by omega, by omega⟩, ⟨by omega, by omega⟩, tr', t1, ?_⟩
  rw [h18]
  have ee : ∀ v, yh_V T E o = v → yh_end T E o = (match v with
    | none => .inl (3, yh_pl E o)
    | some (q, es) => if yp_has T yX_neo q = true then .inr none else if yp_has T yX_nst q = true ∧ (yz_hd es).1 = 7 then (match yh_L T E es.tail with
      | none => .inl (4, yh_pl E o)
      | some (.inl r) => .inl (3, yh_pl E r)
      | some (.inr n) => if n < 0 ∨ 12 < n then .inl (4, yh_pl E o) else if yh_ct T (q + 8) n.toNat = true ∧ yp_has T yX_nes (q + 8 + n) = true then .inr (some n) else .inl (3, yh_pl E o)) else .inl (3, yh_pl E o)) := fun v hv => by
    unfold yh_end
    rw [hv]
    rfl
  cases hv : yh_V T E o with
  | none =>
    have ee := ee none hv
    rw [b4] at ee
    rw [hv] at t2
    have t2 : zq_i S tr' 0 = 0 := t2
    rw [if_pos t2]
    exact zw_111 ⟨by decide, by decide⟩ ⟨by omega, by omega⟩ (rfs S 3 p (yhE.refl _ _ _) ee)
  | some x =>
    obtain ⟨q, es⟩ := x
    have ee := ee (some (q, es)) hv
    rw [b4] at ee
    rw [hv] at t2
    obtain ⟨t3, t4, t5, t6⟩ := t2
    obtain ⟨⟨d, es', ed, er⟩, ewf, emany, _⟩ := id t4
    rw [ed] at t3 ewf
    have hhd : yz_hd es = d := by rw [ed]; rfl
    have htl : es.tail = es' := by rw [ed]; rfl
    obtain ⟨n1, n2, n3⟩ := t3.node
    have ee : yh_end T E o = if yp_has T yX_neo q = true then .inr none else if yp_has T yX_nst q = true ∧ d.1 = 7 then (match yh_L T E es' with
      | none => .inl (4, p)
      | some (.inl r) => .inl (3, yh_pl E r)
      | some (.inr n) => if n < 0 ∨ 12 < n then .inl (4, p) else if yh_ct T (q + 8) n.toNat = true ∧ yp_has T yX_nes (q + 8 + n) = true then .inr (some n) else .inl (3, p)) else .inl (3, p) := by
      rw [← hhd, ← htl]
      exact ee
    rw [if_neg (by omega), t5]
    refine ⟨F, r6, ys_49 oF hok ⟨by omega, by omega⟩ (by decide) (by rw [s33]; decide) (by rw [s33]; decide) ?_⟩
    rw [hT, s33]
    cases h1 : yp_has T yX_neo q with
    | true =>
      rw [if_pos h1] at ee
      rw [if_neg (show ¬ yb true = 0 by decide)]
      exact kn S ee (yhE.refl _ _ _) rfl
    | false =>
      rw [if_neg (by rw [h1]; decide)] at ee
      rw [if_pos (show yb false = 0 from rfl)]
      refine ⟨F, r6, ys_49 oF hok ⟨by omega, by omega⟩ (by decide) (by rw [s34]; decide) (by rw [s34]; decide) ?_⟩
      rw [hT, s34]
      cases h2 : yp_has T yX_nst q with
      | false =>
        rw [if_neg (fun z => by rw [h2] at z; cases z.1)] at ee
        rw [if_pos (show yb false = 0 from rfl)]
        exact zw_111 ⟨by decide, by decide⟩ ⟨by omega, by omega⟩ (rfs S 3 p (yhE.refl _ _ _) ee)
      | true =>
        rw [if_neg (show ¬ yb true = 0 by decide)]
        refine ⟨tr', t1, ys_48n (d := d.1) htr.1 t3.2.2.2 (by decide) n3 n1.1 (yl_if (fun h7 => ?_) (fun h7 => ?_))⟩
        · rw [if_pos ⟨h2, h7⟩] at ee
          -- a node stands at the probe
          have nd : ∀ {S' : zq_S} {tr2 : Nat} {j2 l2 : Int} {d2 : ye_N} {Q : Int → zq_S → Prop}, yz10 S S' → ypb S S' tr2 j2 l2 d2 → (∀ x, 0 ≤ x → Q x S') → zq_Ex X 94 0 [(.ref (10))] [] S' (zq_rp zq_iv Q) := fun {S' tr2 j2 l2 d2 Q} fr' hp kq => by
            obtain ⟨hr', hj', ht', hb', hnd, hok'⟩ := hp
            refine zw_94 o4 ⟨fun z => ?_, fun b hb2 => ?_⟩
            · rw [hr'] at z; cases z
            have hb2 : tr2 = b := Option.some.inj (hr'.symm.trans hb2)
            subst hb2
            rw [hj']
            exact ys_48n (d := d2.1) ht'.1 (by rw [fr'.1 tr2 (by omega)]; exact hb'.2.2) hb'.1 (by rw [fr'.1 tr2 (by omega)]; exact hb'.2.1) (by rw [fr'.1 (tr2 + 1) (by omega)]; exact hnd.1) (kq d2.1 (ye_okk hok').1)
          refine ⟨u, r7, tr', t1, ys_91L f2 hL hE hD hV hN (yz10.refl S) htr t3 h7 ewf er (fun S1 tr2 j2 l2 d2 fr1 eL hp => ?_) (fun S1 tr2 j2 l2 d2 n fr1 eL hp => ?_) (fun S1 r fr1 eL hp => ?_)⟩
          · rw [eL] at ee
            refine nd fr1 hp (fun x x0 => ?_)
            rw [if_neg (by omega), if_pos (by decide)]
            exact zw_111 ⟨by decide, by decide⟩ ⟨by omega, by omega⟩ (rfs S1 4 p fr1.E ee)
          · rw [eL] at ee
            have ee : yh_end T E o = if n < 0 ∨ 12 < n then .inl (4, p) else if yh_ct T (q + 8) n.toNat = true ∧ yp_has T yX_nes (q + 8 + n) = true then .inr (some n) else .inl (3, p) := ee
            refine nd fr1 hp (fun x x0 => ?_)
            rw [if_neg (by omega)]
            refine yl_if (fun hn0 => ?_) (fun hn0 => yl_if (fun hn12 => ?_) (fun hn12 => ?_))
            · rw [if_pos (Or.inl hn0)] at ee
              exact zw_111 ⟨by decide, by decide⟩ ⟨by omega, by omega⟩ (rfs S1 4 p fr1.E ee)
            · rw [if_neg (by omega)] at ee
              obtain ⟨nn, hnn⟩ : ∃ nn : Nat, n = nn := ⟨n.toNat, by omega⟩
              subst hnn
              rw [show ((nn : Nat) : Int).toNat = nn by omega] at ee
              have hk1 : ylk S1 F u T := yhN.lk hk (yhE.N o1 o9 fr1.E)
              refine ys_124 hk1 hb hC o1 o9 (q := q + 8) ⟨by omega, by omega⟩ (n := nn) (by omega) (fun hno S2 g2 => ?_) (fun hyes S2 g2 h22 hx => ?_)
              · rw [if_neg hno] at ee
                rw [if_pos rfl]
                refine zw_111 ⟨by decide, by decide⟩ ⟨by omega, by omega⟩ ?_
                rw [if_pos rfl]
                exact rfs S2 3 p (fr1.E.trans g2.E) ee
              · rw [if_pos hyes] at ee
                rw [if_neg (by decide)]
                refine ks nn S2 ee (fr1.E.trans g2.E) h22 ?_
                have ec : yh_c T E o = (List.range nn).map (fun i : Nat => T (q + 8 + (i : Int))) := by
                  unfold yh_c
                  rw [hv, ee]
                  show (List.range ((nn : Nat) : Int).toNat).map (fun i : Nat => T (q + 8 + (i : Int))) = _
                  rw [show ((nn : Nat) : Int).toNat = nn by omega]
                rw [ec]
                exact hx
            · rw [if_pos (Or.inr (by omega))] at ee
              exact zw_111 ⟨by decide, by decide⟩ ⟨by omega, by omega⟩ (rfs S1 4 p fr1.E ee)
          · rw [eL] at ee
            have ee : yh_end T E o = .inl (3, yh_pl E r) := ee
            obtain ⟨tr2, hr', hj', ht', h0, h10, w1, w9⟩ := hp
            refine zw_94 o4 ⟨fun z => ?_, fun b hb2 => ?_⟩
            · rw [hr'] at z; cases z
            have hb2 : tr2 = b := Option.some.inj (hr'.symm.trans hb2)
            subst hb2
            have e0 : zq_i S1 tr2 0 = 0 := by rw [fr1.1 tr2 (by omega)]; exact h0
            refine ys_48e ht'.1 e0 (by rw [hj']; exact ⟨by decide, by decide⟩) ?_
            rw [if_pos rfl, h10, fr1.1 18 (by decide)]
            obtain ⟨pg, hpg⟩ := yh_L_u eL
            have e18 : zq_i S 18 r = pg.1 := (hL r w1 w9).2.2 pg.1 pg.2 hpg
            obtain ⟨z1, z2, z3, z4⟩ := yh_u_b hE (p := pg.1) (g := pg.2) hpg
            rw [z4] at ee
            rw [e18]
            exact ⟨⟨by omega, by omega⟩, zw_111 ⟨by decide, by decide⟩ ⟨by omega, by omega⟩ (rfs S1 3 pg.1 fr1.E ee)⟩
        · rw [if_neg (fun z => h7 z.2)] at ee
          exact zw_111 ⟨by decide, by decide⟩ ⟨by omega, by omega⟩ (rfs S 3 p (yhE.refl _ _ _) ee)
set_option maxRecDepth 100000 in
theorem ys_122_2 {S0 : zq_S} {F u : Nat} {T : Int → Int} {E : yLt} (hk : ylk S0 F u T) (hb : yTb T) (hC : yp_C T) (hL : yCv S0 u E) (hE : yLb E) (hD : yD S0 u) (hV : ∀ o : Nat, 1 ≤ o → o ≤ 9 → yVo S0 u T E o) (hN : yt_tr S0 (u + 2) 0 0 [.inl ye_null]) {K : Int → zq_S → Prop} : ∀ (m o : Nat) (S : zq_S) (v2 : Value), v2.category = 1 → o + m = 10 → 1 ≤ o → yhN u S0 S → (∀ o' : Nat, 1 ≤ o' → o' < o → yhR S u T E o') → (∀ o' : Nat, o ≤ o' → o' ≤ 9 → zq_i S (ysl u o') 2 = 0) →
    (∀ c q S', yh_all T E m o = some (c, q) → yhN u S0 S' → zq_i S' 7 9 = c → zq_i S' 7 10 = q → K 0 S') →
    (∀ S', yh_all T E m o = none → yhN u S0 S' → (∀ o' : Nat, 1 ≤ o' → o' ≤ 9 → yhR S' u T E o') → (∀ o' : Nat, 1 ≤ o' → o' ≤ 9 → yh_u E o' = none → zq_i S' (ysl u o') 2 = 0) → K 1 S') →
    (∀ o' : Nat, 1 ≤ o' → o' < o → yh_u E o' = none → zq_i S (ysl u o') 2 = 0) →
    zq_Ex X 122 2 [.ref 7, zq_vi (o : Int), v2] [] S (zq_rp zq_bo K)
  | 0, o, S, v2, h2, ho, o1, fr, hR, h0, kf, kk, hno => by
    refine zw_122_2 ⟨by omega, by omega⟩ h2 ?_
    rw [if_neg (by omega)]
    exact kk S rfl fr (fun o' p1 p9 => hR o' p1 (by omega)) (fun o' p1 p9 z => hno o' p1 (by omega) z)
  | m + 1, o, S, v2, h2, ho, o1, fr, hR, h0, kf, kk, hno => by
    have o9 : o ≤ 9 := by omega
    have f2 := hk.2.1
    have hkS := yhN.lk hk fr
    have hLS := fr.cv f2 hL
    have hDS := fr.D f2 hD
    have ot2 : zq_o 4 (u + 2) := by rcases f2 with z | z <;> (subst z; decide +kernel)
    have e0 : yh_all T E (m + 1) o = if yh_u E o = none then yh_all T E m (o + 1) else (match yh_end T E o with
      | .inl x => some x
      | .inr _ => yh_all T E m (o + 1)) := rfl
    refine zw_122_2 ⟨by omega, by omega⟩ h2 ?_
    rw [if_pos (by omega), show (o : Int) + 1 = ((o + 1 : Nat) : Int) by omega]
    refine ⟨u, hkS.2.2.2.2.2, ys_33L f2 hLS ⟨by omega, by omega⟩ (fun hn => ⟨fun _ => ?_, fun b z => (by cases z)⟩) (fun o' p g ho' _ _ hu => ⟨fun z => (by cases z), fun b hbb => ?_⟩)⟩
    · have hu := hn o rfl o1 o9
      rw [if_pos hu] at e0
      rw [e0] at kf kk
      refine ys_122_2 hk hb hC hL hE hD hV hN m (o + 1) S _ rfl (by omega) (by omega) fr (fun o' p1 p9 => ?_) (fun o' p1 p9 => h0 o' (by omega) p9) kf kk (fun o' p1 p9 z => ?_)
      · by_cases e : o' = o
        · rw [e]
          exact fun z => absurd hu z
        · exact hR o' p1 (by omega)
      · by_cases e : o' = o
        · rw [e]
          exact h0 o (by omega) o9
        · exact hno o' p1 (by omega) z
    · have hbb : ysl u o' = b := Option.some.inj hbb
      have hoo : o' = o := by omega
      subst hoo
      subst hbb
      rw [if_neg (by rw [hu]; simp)] at e0
      have hsl : ysl u o' = u + 9 + 10 * (o' - 1) := rfl
      -- go on
      have next : ∀ (S1 : zq_S) (st : Option Int), yh_end T E o' = .inr st → yhE u o' S S1 → (st = none → zq_i S1 (ysl u o') 2 = 0) → (∀ n, st = some n → zq_i S1 (ysl u o') 2 = 1 ∧ yx S1 (ysl u o' + 8) (yh_c T E o', 0)) → zq_Ex X 122 2 [(.ref (7)), (zq_vi ((o' + 1 : Nat) : Int)), (.ref (ysl u o'))] [] S1 (zq_rp zq_bo K) := fun S1 st hst g1 s1 s2 => by
        rw [hst] at e0
        have e0 : yh_all T E (m + 1) o' = yh_all T E m (o' + 1) := e0
        rw [e0] at kf kk
        have keep : ∀ o2 : Nat, 1 ≤ o2 → o2 ≤ 9 → o2 ≠ o' → zq_i S1 (ysl u o2) 2 = zq_i S (ysl u o2) 2 ∧ zq_i S1 (ysl u o2 + 8) = zq_i S (ysl u o2 + 8) ∧ zq_i S1 (ysl u o2 + 8 + 1) = zq_i S (ysl u o2 + 8 + 1) := fun o2 p1 p9 hne => by
          have h2 : ysl u o2 = u + 9 + 10 * (o2 - 1) := rfl
          refine ⟨g1.1 _ 2 (by omega) (fun z => by omega) (by omega) (by omega) (fun z => by omega), ?_, ?_⟩
          · funext j
            exact g1.1 _ j (by omega) (fun z => by omega) (by omega) (by omega) (fun z => by omega)
          · funext j
            exact g1.1 _ j (by omega) (fun z => by omega) (by omega) (by omega) (fun z => by omega)
        refine ys_122_2 hk hb hC hL hE hD hV hN m (o' + 1) S1 _ rfl (by omega) (by omega) (fr.trans (yhE.N o1 o9 g1)) (fun o2 p1 p9 => ?_) (fun o2 p1 p9 => ?_) kf kk (fun o2 p1 p9 z => ?_)
        · by_cases e : o2 = o'
          · rw [e]
            exact fun _ => ⟨st, hst, s1, s2⟩
          · obtain ⟨q1, q2, q3⟩ := keep o2 p1 (by omega) e
            intro hz
            obtain ⟨st2, w1, w2, w3⟩ := hR o2 p1 (by omega) hz
            refine ⟨st2, w1, fun z => by rw [q1]; exact w2 z, fun n z => ?_⟩
            obtain ⟨w4, w5⟩ := w3 n z
            exact ⟨by rw [q1]; exact w4, w5.cong q2 q3⟩
        · rw [(keep o2 (by omega) p9 (by omega)).1]
          exact h0 o2 (by omega) p9
        · by_cases e : o2 = o'
          · rw [e, hu] at z
            cases z
          · rw [(keep o2 p1 (by omega) e).1]
            exact hno o2 p1 (by omega) z
      refine ys_123 hkS hb hC hLS hE hDS (fun o2 p1 p9 => fr.V f2 hD p1 p9 (hV o2 p1 p9)) (hN.cong (fr.tree f2 ot2 (by omega)).1 (fr.tree f2 ot2 (by omega)).2) o1 o9 hu (fun c q S1 e g1 c1 c2 => ?_) (fun S1 e g1 h2' => ?_) (fun n S1 e g1 h2' hx => ?_)
      · rw [if_pos rfl]
        refine kf c q S1 ?_ (fr.trans (yhE.N o1 o9 g1)) c1 c2
        rw [e0, e]
      · rw [if_neg (by decide)]
        exact next S1 none e g1 (fun _ => by rw [h2']; exact h0 o' (by omega) o9) (fun n z => (by cases z))
      · rw [if_neg (by decide)]
        exact next S1 (some n) e g1 (fun z => (by cases z)) (fun n' _ => ⟨h2', hx⟩)
set_option maxRecDepth 100000 in
theorem ys_122 {S0 : zq_S} {F u : Nat} {T : Int → Int} {E : yLt} (hk : ylk S0 F u T) (hb : yTb T) (hC : yp_C T) (hL : yCv S0 u E) (hE : yLb E) (hD : yD S0 u) (hV : ∀ o : Nat, 1 ≤ o → o ≤ 9 → yVo S0 u T E o) (hN : yt_tr S0 (u + 2) 0 0 [.inl ye_null]) (h0 : ∀ o : Nat, 1 ≤ o → o ≤ 9 → zq_i S0 (ysl u o) 2 = 0) {K : Int → zq_S → Prop}
    (kf : ∀ c q S', yh_all T E 9 1 = some (c, q) → yhN u S0 S' → zq_i S' 7 9 = c → zq_i S' 7 10 = q → K 0 S')
    (kk : ∀ S', yh_all T E 9 1 = none → yhN u S0 S' → (∀ o' : Nat, 1 ≤ o' → o' ≤ 9 → yhR S' u T E o') → (∀ o' : Nat, 1 ≤ o' → o' ≤ 9 → yh_u E o' = none → zq_i S' (ysl u o') 2 = 0) → K 1 S') : zq_Ex X 122 0 [.ref 7, zz_no, zz_no] [] S0 (zq_rp zq_bo K) := zw_122 (ys_122_2 hk hb hC hL hE hD hV hN 9 1 S0 _ rfl rfl (by decide) (yhN.refl _ _) (fun o' p1 p9 => by omega) (fun o' p1 p9 => h0 o' p1 p9) kf kk (fun o' p1 p9 => by omega))
end YLH4
