/-! load: the invariant after a load that succeeded; the law's case load -/
set_option maxRecDepth 100000 in
theorem yh_end_7 {T : Int → Int} {E : yLt} {o : Nat} {q n : Int} {es : List ye_E} (h : yh_end T E o = .inr (some n)) (hv : yh_V T E o = some (q, es)) : (yz_hd es).1 = 7 ∧ yh_ct T (q + 8) n.toNat = true := by
  unfold yh_end at h
  rw [hv] at h
  have h : (if yp_has T yX_neo q = true then .inr none else if yp_has T yX_nst q = true ∧ (yz_hd es).1 = 7 then (match yh_L T E es.tail with
    | none => .inl (4, yh_pl E o)
    | some (.inl r) => .inl (3, yh_pl E r)
    | some (.inr n) => if n < 0 ∨ 12 < n then .inl (4, yh_pl E o) else if yh_ct T (q + 8) n.toNat = true ∧ yp_has T yX_nes (q + 8 + n) = true then .inr (some n) else .inl (3, yh_pl E o)) else .inl (3, yh_pl E o) : (Int × Int) ⊕ Option Int) = .inr (some n) := h
  by_cases h1 : yp_has T yX_neo q = true
  · rw [if_pos h1] at h; cases h
  · rw [if_neg h1] at h
    by_cases h2 : yp_has T yX_nst q = true ∧ (yz_hd es).1 = 7
    · rw [if_pos h2] at h
      refine ⟨h2.2, ?_⟩
      cases hl : yh_L T E es.tail with
      | none => rw [hl] at h; cases h
      | some x =>
        cases x with
        | inl r => rw [hl] at h; cases h
        | inr m =>
          rw [hl] at h
          have h : (if m < 0 ∨ 12 < m then .inl (4, yh_pl E o) else if yh_ct T (q + 8) m.toNat = true ∧ yp_has T yX_nes (q + 8 + m) = true then .inr (some m) else .inl (3, yh_pl E o) : (Int × Int) ⊕ Option Int) = .inr (some n) := h
          by_cases h3 : m < 0 ∨ 12 < m
          · rw [if_pos h3] at h; cases h
          · rw [if_neg h3] at h
            by_cases h4 : yh_ct T (q + 8) m.toNat = true ∧ yp_has T yX_nes (q + 8 + m) = true
            · rw [if_pos h4] at h
              have h : m = n := Option.some.inj (Sum.inr.inj h)
              rw [← h]
              exact h4.1
            · rw [if_neg h4] at h; cases h
    · rw [if_neg h2] at h; cases h
set_option maxRecDepth 100000 in
theorem yh_c_ch {T : Int → Int} {E : yLt} {o : Nat} (hb : yTb T) : ∀ c ∈ yh_c T E o, 32 ≤ c ∧ c ≤ 126 := fun c hc => by
  unfold yh_c at hc
  cases hv : yh_V T E o with
  | none => rw [hv] at hc; cases hc
  | some x =>
    obtain ⟨q, es⟩ := x
    rw [hv] at hc
    have hc : c ∈ (match yh_end T E o with
      | .inr (some n) => (List.range n.toNat).map (fun i : Nat => T (q + 8 + (i : Int)))
      | _ => []) := hc
    cases he : yh_end T E o with
    | inl x => rw [he] at hc; cases hc
    | inr st =>
      cases st with
      | none => rw [he] at hc; cases hc
      | some n =>
        rw [he] at hc
        have hc : c ∈ (List.range n.toNat).map (fun i : Nat => T (q + 8 + (i : Int))) := hc
        obtain ⟨i, hi, e⟩ := List.mem_map.mp hc
        have h7 := (yh_end_7 he hv).2
        unfold yh_ct at h7
        have := (of_decide_eq_true h7) i (List.mem_range.mp hi)
        have := hb.1 (q + 8 + i)
        omega
/-- the values that were loaded -/
def yh_ev (T : Int → Int) (E : yLt) (o : Nat) : List ye_E := if o = 0 then [.inl ye_null] else (match yh_V T E o with
  | some (_, es) => es
  | none => [.inl ye_null])
set_option maxRecDepth 100000 in
theorem yI.loaded {s S S1 S2 S' : zq_S} {dr fl : List Int} {ev : Nat → List ye_E} {ct : Nat → List Int} {F t u : Nat} {T : Int → Int} {E : yLt} {r g : Int} {x : Int64} (hI : yI s (dr, fl, ev, ct, F, t)) (hut : u = 153 - t) (hb : yTb T) (hE : yLb E) (hG : yhG u s S) (hK : yhK S u T E r g) (f1 : ymf yJl yAl (zq_sl (zq_sr (zq_si (zq_sr (zq_sr S 0 8 (some u)) 0 9 (some t)) 0 11 (-1)) 3 0 none) 259 0 x) S1) (e2 : S2 = (zq_si (zq_si (zq_si S1 232 0 0) 232 21 (-1)) 232 22 (zq_i S1 232 22))) (hTK : yTK S2 S') (hm : ym_I S') (hO : ∀ o : Nat, 1 ≤ o → o ≤ 9 → yTo S' T E o) : yI (zq_si (zq_si (zq_si S' 232 17 r) 232 18 g) 232 19 (-1)) (dr, fl, yh_ev T E, yh_c T E, F, u) := by
  obtain ⟨a1, a2, a3, a4, a5, a6, a7, a8⟩ := hI
  have a1 : yI_txt s dr fl F := a1
  have a2 : yI_top s F t := a2
  obtain ⟨k1, k2, ⟨k3, k4⟩, k5, k6, k7, k8, k9⟩ := hK
  obtain ⟨g1, ft, t3, t4, t5, t6, t7, t8, t9, t10, t11, t12⟩ := a2
  have f2 : u = 27 ∨ u = 126 := by omega
  generalize hR : (zq_si (zq_si (zq_si S' 232 17 r) 232 18 g) 232 19 (-1)) = R
  -- the state behind, cell by cell
  have iR : ∀ b, b ≠ 232 → zq_i R b = zq_i S' b := fun b hb' => by
    rw [← hR]
    funext j
    rw [zq_i_si, if_neg (fun z => hb' z.1), zq_i_si, if_neg (fun z => hb' z.1), zq_i_si, if_neg (fun z => hb' z.1)]
  have jR : ∀ j, j ≠ 17 → j ≠ 18 → j ≠ 19 → zq_i R 232 j = zq_i S' 232 j := fun j n1 n2 n3 => by
    rw [← hR, zq_i_si, if_neg (fun z => n3 z.2), zq_i_si, if_neg (fun z => n2 z.2), zq_i_si, if_neg (fun z => n1 z.2)]
  have h17 : zq_i R 232 17 = r := by rw [← hR, zq_i_si, if_neg (by simp), zq_i_si, if_neg (by simp), zq_i_at]
  have h18 : zq_i R 232 18 = g := by rw [← hR, zq_i_si, if_neg (by simp), zq_i_at]
  have h19 : zq_i R 232 19 = -1 := by rw [← hR, zq_i_at]
  have i2 : ∀ b, b ≠ 232 → zq_i S2 b = zq_i S1 b := fun b hb' => by
    rw [e2]
    funext j
    rw [zq_i_si, if_neg (fun z => hb' z.1), zq_i_si, if_neg (fun z => hb' z.1), zq_i_si, if_neg (fun z => hb' z.1)]
  have j2 : ∀ j, j ≠ 0 → j ≠ 21 → zq_i S2 232 j = zq_i S1 232 j := fun j n1 n2 => by
    rw [e2]
    by_cases h22 : j = 22
    · rw [h22, zq_i_at]
    · rw [zq_i_si, if_neg (fun z => h22 z.2), zq_i_si, if_neg (fun z => n2 z.2), zq_i_si, if_neg (fun z => n1 z.2)]
  have h21 : zq_i S2 232 21 = -1 := by rw [e2, zq_i_si, if_neg (by simp), zq_i_at]
  have iC : ∀ b, b ≠ 0 → zq_i (zq_sl (zq_sr (zq_si (zq_sr (zq_sr S 0 8 (some u)) 0 9 (some t)) 0 11 (-1)) 3 0 none) 259 0 x) b = zq_i S b := fun b hb' => by
    funext j
    rw [zq_i_sl, zq_i_sr, zq_i_si, if_neg (fun z => hb' z.1), zq_i_sr, zq_i_sr]
  have i0 : ∀ j, j ≠ 11 → zq_i (zq_sl (zq_sr (zq_si (zq_sr (zq_sr S 0 8 (some u)) 0 9 (some t)) 0 11 (-1)) 3 0 none) 259 0 x) 0 j = zq_i S 0 j := fun j hj => by
    rw [zq_i_sl, zq_i_sr, zq_i_si, if_neg (fun z => hj z.2), zq_i_sr, zq_i_sr]
  have lo : ∀ b, b < 232 → zq_i R b = zq_i (zq_sl (zq_sr (zq_si (zq_sr (zq_sr S 0 8 (some u)) 0 9 (some t)) 0 11 (-1)) 3 0 none) 259 0 x) b := fun b hb' => by
    rw [iR b (by omega), hTK.i (by omega) (by simp; omega), i2 b (by omega), f1.i (by simp; omega) (by omega)]
  have loS : ∀ b, b < 232 → b ≠ 0 → zq_i R b = zq_i S b := fun b hb' h0 => by rw [lo b hb', iC b h0]
  have hi : ∀ b, 232 < b → b ∉ yAl → b ∉ yAk → zq_i R b = zq_i s b := fun b h1 h2 h3 => by
    rw [iR b (by omega), hTK.i (by omega) h3, i2 b (by omega), f1.i h2 (by omega), iC b (by omega), (hG.1 b (yhG.out f2 a3 (by omega))).1]
  have hj : ∀ j, j ∉ yJo → j ∉ yJl → j ≠ 0 → j ≠ 21 → j ≠ 17 → j ≠ 18 → j ≠ 19 → zq_i R 232 j = zq_i s 232 j := fun j n1 n2 n3 n4 n5 n6 n7 => by
    rw [jR j n5 n6 n7, hTK.2.1 j n1, j2 j n3 n4, f1.f n2, iC 232 (by decide), (hG.1 232 (yhG.out f2 a3 (by omega))).1]
  have out : ∀ b, (b < 4 ∨ (23 ≤ b ∧ b < 27)) → b ≠ 0 → zq_i R b = zq_i s b := fun b hb' h0 => by
    rw [loS b (by omega) h0, (hG.1 b (yhG.out f2 a3 (by omega))).1]
  have s2R : R.2 = S'.2 := by rw [← hR]; rfl
  have s22 : S2.2 = S1.2 := by rw [e2]; rfl
  have rR : zq_r R = zq_r (zq_sl (zq_sr (zq_si (zq_sr (zq_sr S 0 8 (some u)) 0 9 (some t)) 0 11 (-1)) 3 0 none) 259 0 x) := by
    unfold zq_r
    rw [s2R, hTK.2.2, s22, f1.2.2]
  have lR : zq_l R = zq_l (zq_sl (zq_sr (zq_si (zq_sr (zq_sr S 0 8 (some u)) 0 9 (some t)) 0 11 (-1)) 3 0 none) 259 0 x) := by
    unfold zq_l
    rw [s2R, hTK.2.2, s22, f1.2.2]
  have rr : ∀ b (j : Int), ¬ (4 ≤ b ∧ b ≤ 22) → ¬ (b = 0 ∧ (j = 8 ∨ j = 9)) → ¬ (b = 3 ∧ j = 0) → zq_r R b j = zq_r s b j := fun b j n1 n2 n3 => by
    rw [rR, zq_r_sl, zq_r_sr, if_neg n3, zq_r_si, zq_r_sr, if_neg (fun z => n2 ⟨z.1, Or.inr z.2⟩), zq_r_sr, if_neg (fun z => n2 ⟨z.1, Or.inl z.2⟩), hG.2.1 b n1]
  have ll : ∀ b, b ≠ 259 → zq_l R b = zq_l S b := fun b hb' => by
    rw [lR]
    funext j
    rw [zq_l_sl, if_neg (fun z => hb' z.1), zq_l_sr, zq_l_si, zq_l_sr, zq_l_sr]
  have hl : ytl R = ytl s := by
    unfold ytl
    rw [rr 0 10 (by omega) (by omega) (by omega)]
    congr 2
    · exact List.map_congr_left fun i hi => by rw [rr (36 + 10 * i) 4 (by omega) (by omega) (by omega)]
    · exact List.map_congr_left fun i hi => by rw [rr (135 + 10 * i) 4 (by omega) (by omega) (by omega)]
  have nth : ∀ b, (29 ≤ b ∧ b ≤ 35) ∨ (128 ≤ b ∧ b ≤ 134) → zq_i R b = zq_i s b ∧ zq_l R b = zq_l s b := fun b hb' => by
    have := hG.1 b (yhG.noth f2 a3 hb')
    exact ⟨by rw [loS b (by omega) (by omega)]; exact this.1, by rw [ll b (by omega)]; exact this.2⟩
  refine ⟨a1.cong (fun b hb' => ?_) (hj 1 (by decide) (by decide) (by decide) (by decide) (by decide) (by decide) (by decide)) (hj 3 (by decide) (by decide) (by decide) (by decide) (by decide) (by decide) (by decide)), ⟨g1, f2, ?_, ?_, ?_, ?_, ?_, ?_, ?_, ?_, ?_, ?_⟩, a3.cong hl (fun b hb' => (nth b hb').1) (nth 34 (by omega)).2 (nth 133 (by omega)).2, fun o o1 o9 => ?_, Or.inl ⟨h19, ?_⟩, rfl, a7.cong ?_ (fun i hi' => ?_) (fun b hb' => ?_), ?_⟩
  · have hc : b = 1 ∨ b = 2 ∨ b = 233 ∨ b = 234 ∨ b = F ∨ b = F + 1 := by simpa using hb'
    by_cases h232 : b < 232
    · exact out b (by omega) (by omega)
    · have : b = 233 ∨ b = 234 := by omega
      rcases this with z | z
      · rw [z]; exact hi 233 (by decide) (by decide) (by decide)
      · rw [z]; exact hi 234 (by decide) (by decide) (by decide)
  · rw [rr 0 6 (by omega) (by omega) (by omega)]; exact t3
  · rw [rr 0 7 (by omega) (by omega) (by omega)]; exact t4
  · show zq_r R 0 8 = some u
    rw [rR, zq_r_sl, zq_r_sr, if_neg (by simp), zq_r_si, zq_r_sr, if_neg (by simp), zq_r_sr, if_pos ⟨rfl, rfl⟩]
  · show zq_r R 0 9 = some (153 - u)
    rw [rR, zq_r_sl, zq_r_sr, if_neg (by simp), zq_r_si, zq_r_sr, if_pos ⟨rfl, rfl⟩, show 153 - u = t by omega]
  · rw [lo 0 (by decide), zq_i_sl, zq_i_sr, zq_i_at, jR 21 (by decide) (by decide) (by decide), hTK.2.1 21 (by decide), h21]
  · rw [lo 0 (by decide), i0 12 (by decide), (hG.1 0 (yhG.out f2 a3 (by omega))).1, hj 22 (by decide) (by decide) (by decide) (by decide) (by decide) (by decide) (by decide)]
    exact t8
  · show zq_i R u 2 = _
    rw [loS u (by omega) (by omega), h17]; exact k1
  · show zq_i R u 3 = _
    rw [loS u (by omega) (by omega), h18]; exact k2
  · rw [h17]; omega
  · rw [h18]; omega
  · obtain ⟨c1, c2, c3, c4, c5, c6, c7, c8, c9⟩ := yk_sl f2 o1 o9
    obtain ⟨y1, y2, y3, y4⟩ := hO o o1 o9
    obtain ⟨z1, z2, z3⟩ := k5 o o1 o9
    have esl : zq_i R (ysl u o) = zq_i S (ysl u o) := loS _ (by omega) (by omega)
    have gb := yh_g_b hE o
    show yI_slot R (ysl u o) o (yh_ev T E o) (yh_c T E o)
    unfold yI_slot
    rw [esl, iR 237 (by decide), iR 239 (by decide), iR 238 (by decide), z1, z2, k8 o o1 o9, y1, y2, y3]
    have b2 : zq_bo (zq_i S (ysl u o) 2) := by
      by_cases hu : yh_u E o = none
      · rw [k9 o o1 o9 hu]; exact Or.inl rfl
      · obtain ⟨st, w1, w2, w3⟩ := k7 o o1 o9 hu
        cases st with
        | none => rw [w2 rfl]; exact Or.inl rfl
        | some n => rw [(w3 n rfl).1]; exact Or.inr rfl
    refine ⟨⟨?_, Or.inl rfl, b2⟩, rfl, rfl, rfl, gb, fun hz => ?_⟩
    · split
      · exact Or.inl rfl
      · exact Or.inr rfl
    · have hu : yh_u E o ≠ none := fun z => by
        rw [if_pos z] at hz
        exact absurd hz (by decide)
      obtain ⟨st, q, es, w1, w2, w3, w4, w5, w6⟩ := y4 hu
      obtain ⟨st2, x1, x2, x3⟩ := k7 o o1 o9 hu
      rw [w1] at x1
      have x1 : st = st2 := Sum.inr.inj x1
      subst x1
      obtain ⟨tr, v1, v2⟩ := k6 o o1 o9 hu
      rw [w2] at v2
      obtain ⟨v3, v4, v5, v6⟩ := v2
      have hev : yh_ev T E o = es := by
        unfold yh_ev
        rw [if_neg (by omega), w2]
      rw [hev]
      have r4 : zq_r R (ysl u o) 4 = zq_r S (ysl u o) 4 := by
        rw [rR, zq_r_sl, zq_r_sr, if_neg (fun z => by have := z.1; omega), zq_r_si, zq_r_sr, if_neg (fun z => by have := z.1; omega), zq_r_sr, if_neg (fun z => by have := z.1; omega)]
      obtain ⟨tr', d1, d2, _⟩ := (hG.D f2 (a3.D f2)) o o1 o9
      have htt : tr' = tr := Option.some.inj (d1.symm.trans v1)
      subst htt
      have hbt := yk_tree d2.1 d2.2
      unfold yI_use
      rw [esl, iR 240 (by decide), iR 242 (by decide), iR 243 (by decide)]
      refine ⟨⟨tr', by rw [r4]; exact v1, v3.cong (fun q' hq' => loS q' (by have := yk_t7 hq'; omega) (by have := yk_t7 hq'; omega)) (ll _ (by omega))⟩, v4, w3, w4.cong (iR 241 (by decide)), ?_, fun hz2 => ?_⟩
      · rw [w5]
        cases st with
        | none => rw [if_pos rfl]; exact x2 rfl
        | some n => rw [if_neg (by simp)]; exact (x3 n rfl).1
      · cases st with
        | none =>
          rw [x2 rfl] at hz2
          exact absurd hz2 (by decide)
        | some n =>
          obtain ⟨m1, m2⟩ := x3 n rfl
          obtain ⟨m3, m4⟩ := w6 (by simp)
          have h7 := (yh_end_7 w1 w2).1
          obtain ⟨⟨d, es', ed, er⟩, _⟩ := v4
          have hd : yz_hd es = d := by rw [ed]; rfl
          rw [hd] at h7
          exact ⟨⟨d, es', ed, h7⟩, ⟨0, m2.cong (loS _ (by omega) (by omega)) (loS _ (by omega) (by omega))⟩, yh_c_ch hb, m3, m4.cong (iR 244 (by decide))⟩
  · rw [rR, zq_r_sl, zq_r_sr, if_pos ⟨rfl, rfl⟩]
  · rw [iR 240 (by decide), hTK.1 240 0 (by decide) (by decide) (fun _ => by omega) (fun z => (by cases z)) (fun z => (by cases z)), i2 240 (by decide), f1.i (by simp) (by decide), iC 240 (by decide), (hG.1 240 (yhG.out f2 a3 (by omega))).1]
  · rw [iR 241 (by decide), hTK.1 241 _ (by decide) (by decide) (fun z => absurd z (by decide)) (fun _ => by omega) (fun z => (by cases z)), i2 241 (by decide), f1.i (by simp) (by decide), iC 241 (by decide), (hG.1 241 (yhG.out f2 a3 (by omega))).1]
  · exact hi b (by simp at hb'; omega) (by simp at hb' ⊢; omega) (by simp at hb' ⊢; omega)
  · exact hm.cong (fun j hj' => jR j (by simp at hj'; omega) (by simp at hj'; omega) (by simp at hj'; omega)) (iR 240 (by decide))
section YLI2
variable {X : Nat × (Nat → Int32)}
set_option maxRecDepth 100000 in
theorem yl_436 (hX : X.1 ≤ 1536) : yl_C X 436 := fun s A m v5 v6 h5 h6 hI hm hmX next => by
  obtain ⟨dr, fl, ev, ct, F, t⟩ := A
  obtain ⟨f1, ft, t3, t4, t5, t6, _⟩ := hI.2.1
  have f1 : F = 23 ∨ F = 25 := f1
  have ft : t = 27 ∨ t = 126 := ft
  have oF : zq_o 1 F := by rcases f1 with z | z <;> (subst z; decide +kernel)
  have T9 : zq_T F = 999 := by rcases f1 with z | z <;> (subst z; decide +kernel)
  obtain ⟨u, hut⟩ : ∃ u, u = 153 - t := ⟨_, rfl⟩
  have f2 : u = 27 ∨ u = 126 := by omega
  have a3 : yI_tre s := hI.2.2.1
  obtain ⟨hft, hfn⟩ := hI.file_t
  have hok : yc_ok s F := by
    obtain ⟨_, _, _, _, ⟨v, hfx⟩, hfc, _, _⟩ := hI.1
    have hfx : yx s F (fl, v) := hfx
    have hfc : ∀ c ∈ fl, yp_isC c = true := hfc
    have h1 : zq_i s F 1 = fl.length := hfx.1
    refine ⟨by rw [h1]; omega, by rw [h1]; have := hfx.2.1; exact Int.ofNat_le.mpr this, fun j j0 j1 => ?_⟩
    rw [h1] at j1
    have e := hfx.2.2.2 j.toNat (by show j.toNat < fl.length; omega)
    rw [show ((j.toNat : Nat) : Int) = j by omega] at e
    rw [e]
    refine hfc _ ?_
    show fl.getD j.toNat 0 ∈ fl
    rw [List.getD_eq_getElem?_getD, List.getElem?_eq_getElem (show j.toNat < fl.length by omega)]
    exact List.getElem_mem _
  obtain ⟨T, hT⟩ : ∃ T, yc_t s F = T := ⟨_, rfl⟩
  obtain ⟨n, hn⟩ : ∃ n, zq_i s F 1 = n := ⟨_, rfl⟩
  have hb : yTb T := by
    rw [← hT]
    refine ⟨fun j => yc_b hok j, fun j hj => ?_⟩
    have := yc_lt hok oF hj
    omega
  have hC : yp_C T := by
    rw [← hT]
    intro j
    unfold yc_t
    by_cases hj : 0 ≤ j ∧ j < zq_i s F 1
    · rw [if_pos hj]
      exact Or.inr (hok.2.2 j hj.1 hj.2)
    · rw [if_neg hj]
      exact Or.inl rfl
  have hn0 : 0 ≤ n := by rw [← hn]; exact hok.1
  have hm8 : ym_I s := hI.2.2.2.2.2.2.2
  obtain ⟨_, _, nm6, nm7, nm8⟩ := hI.2.2.2.2.2.2.1
  -- the reference, on a state whose cells from 232 on are as before
  have ref : ∀ {C : zq_S} {K : Int → zq_S → Prop}, (∀ b, 232 ≤ b → zq_i C b = zq_i s b) → (∀ c q S', yh_load T n = .inl (c, q) → ymf yJl yAl C S' → ym_I S' → K 0 (zq_si (zq_si (zq_si S' 232 0 1) 232 21 q) 232 22 c)) → (∀ E r g S1 S2 S', yh_load T n = .inr (E, r, g) → yh_all T E 9 1 = none → yLb E → ymf yJl yAl C S1 → S2 = (zq_si (zq_si (zq_si S1 232 0 0) 232 21 (-1)) 232 22 (zq_i S1 232 22)) → yTK S2 S' → ym_I S' → (∀ o : Nat, 1 ≤ o → o ≤ 9 → yTo S' T E o) → K (ybc (ypm E 9) : Nat) (zq_si (zq_si (zq_si S' 232 17 r) 232 18 g) 232 19 (-1))) → zq_Ex X 203 0 [.ref 232, zz_no, zz_no, zz_no, zz_no] [] C (zq_rp zq_iv K) := fun {C K} hCs kf kk => by
    have c2 : zq_i C 232 = zq_i s 232 := hCs 232 (by decide)
    refine ys_203 hb hC ?_ (by rw [c2, hfn]; exact hn) hn0 (hm8.cong (fun j _ => by rw [c2]) (hCs 240 (by decide))) ?_ ?_ ?_ kf kk
    · rw [← hT, ← hft]
      funext i
      unfold ym_c
      rw [c2, hCs 234 (by decide)]
      rfl
    · unfold ym_nm
      rw [hCs 256 (by decide)]
      exact nm6
    · unfold ym_nm
      rw [hCs 257 (by decide)]
      exact nm7
    · unfold ym_nm
      rw [hCs 258 (by decide)]
      exact nm8
  have hns : zq_n s < 1000 := by omega
  refine zw_0_436 ⟨by omega, by omega⟩ h5 h6 (zw_238 zf_k259 (ys_106 f1 ft hut t3 t5 (by rw [hut]; exact t6) a3 hok hT hn hb hC hns (fun c q S el hG => ?_) (fun E r g S el hG hK => ⟨⟨by decide, by decide⟩, ?_⟩)))
  · rw [if_pos rfl]
    have up : ∀ b, 232 ≤ b → zq_i S b = zq_i s b := fun b hb' => (hG.1 b (yhG.out f2 a3 (by omega))).1
    refine ref (fun b hb' => ?_) (fun c2 q2 S' el2 f hm' => ?_) (fun E r g S1 S2 S' el2 => ?_)
    · rw [← up b hb']
      funext j
      show zq_i (zq_si (zq_si S 0 12 c) 0 11 q) b j = zq_i S b j
      rw [zq_i_si, if_neg (fun z => by have := z.1; omega), zq_i_si, if_neg (fun z => by have := z.1; omega)]
    · rw [el] at el2
      have e : (c, q) = (c2, q2) := Sum.inl.inj el2
      have e1 : c = c2 := congrArg Prod.fst e
      have e2 : q = q2 := congrArg Prod.snd e
      subst e1
      subst e2
      have hIR := hI.faulted hut hG f hm'
      refine yl_say (y := 0) hIR ?_ ?_ (fun z => (by cases z)) next
      · rw [zq_n_si, zq_n_si, zq_n_si, f.n, zq_n_sx, zq_n_si, zq_n_si, hG.2.2]
        omega
      · rw [zq_i_si, if_neg (by simp), zq_i_si, if_neg (by simp), zq_i_at]
    · rw [el] at el2
      cases el2
  · have up : ∀ b, 232 ≤ b → zq_i S b = zq_i s b := fun b hb' => (hG.1 b (yhG.out f2 a3 (by omega))).1
    refine ref (fun b hb' => ?_) (fun c2 q2 S' el2 => ?_) (fun E2 r2 g2 S1 S2 S' el2 hall hE f1' e2 hTK hm' hO => ?_)
    · rw [← up b hb']
      funext j
      rw [zq_i_sl, zq_i_sr, zq_i_si, if_neg (fun z => by have := z.1; omega), zq_i_sr, zq_i_sr]
    · rw [el] at el2
      cases el2
    · rw [el] at el2
      have e : (E, r, g) = (E2, r2, g2) := Sum.inr.inj el2
      have e1 : E = E2 := congrArg Prod.fst e
      have e3 : (r, g) = (r2, g2) := congrArg Prod.snd e
      have e4 : r = r2 := congrArg Prod.fst e3
      have e5 : g = g2 := congrArg Prod.snd e3
      subst e1
      subst e4
      subst e5
      have hIR := hI.loaded hut hb hE hG hK f1' e2 hTK hm' hO
      have s22 : S2.2 = S1.2 := by rw [e2]; rfl
      refine yl_say (y := 0) hIR ?_ ?_ (fun _ => ?_) next
      · rw [zq_n_si, zq_n_si, zq_n_si]
        have e6 : zq_n S' = zq_n S := by
          unfold zq_n
          rw [hTK.2.2, s22, f1'.2.2]
          rfl
        rw [e6, hG.2.2]
        omega
      · rw [zq_i_si, if_neg (by simp), zq_i_si, if_neg (by simp), zq_i_si, if_neg (by simp), hTK.2.1 0 (by decide), e2, zq_i_si, if_neg (by simp), zq_i_si, if_neg (by simp), zq_i_at]
      · have e7 : zq_l (zq_si (zq_si (zq_si S' 232 17 r) 232 18 g) 232 19 (-1)) = zq_l (zq_sl (zq_sr (zq_si (zq_sr (zq_sr S 0 8 (some u)) 0 9 (some t)) 0 11 (-1)) 3 0 none) 259 0 (Int32.ofInt ((ybc (ypm E 9) : Nat) : Int)).toInt64) := by
          have : zq_l (zq_si (zq_si (zq_si S' 232 17 r) 232 18 g) 232 19 (-1)) = zq_l S' := rfl
          rw [this]
          unfold zq_l
          rw [hTK.2.2, s22, f1'.2.2]
        rw [e7, zq_l_sl, if_pos ⟨rfl, rfl⟩]
end YLI2
