/-! save: the class's whole writing -/
/-- the class's slots below n that are given up -/
def yst (S S' : zq_S) (t : Nat) (rl : Nat → Bool) (n : Nat) : Prop := (∀ o : Nat, 1 ≤ o → o < n → (rl o = true → zq_i S' (ysl t o) 0 = 0 ∧ zq_i S' (ysl t o) 2 = 0 ∧ zq_i S' (ysl t o) 3 = ynx (zq_i S (ysl t o) 3)) ∧ (rl o = false → zq_i S' (ysl t o) = zq_i S (ysl t o))) ∧ (∀ b (j : Int), (∀ o : Nat, 1 ≤ o → o < n → b = ysl t o → j ≠ 0 ∧ j ≠ 1 ∧ j ≠ 2 ∧ j ≠ 3) → zq_i S' b j = zq_i S b j) ∧ S'.2 = S.2
def ysu (S S' : zq_S) (t : Nat) (n : Nat) : Prop := (∀ o : Nat, 1 ≤ o → o < n → zq_i S' (ysl t o) 1 = 0) ∧ (∀ b (j : Int), (∀ o : Nat, 1 ≤ o → o < n → b = ysl t o → j ≠ 1) → zq_i S' b j = zq_i S b j) ∧ S'.2 = S.2
set_option maxRecDepth 100000 in
theorem ysl_inj {t o o' : Nat} (h1 : 1 ≤ o) (h2 : 1 ≤ o') (h : ysl t o = ysl t o') : o = o' := by
  unfold ysl at h
  omega
section YLE7
variable {X : Nat × (Nat → Int32)}
set_option maxRecDepth 100000 in
theorem ys_103_2 {S : zq_S} {t km : Nat} {rl : Nat → Bool} (f2 : t = 27 ∨ t = 126) (hk : km < 1024) (hg : ∀ n : Nat, 1 ≤ n → n ≤ 9 → 0 ≤ zq_i S (ysl t n) 3 ∧ zq_i S (ysl t n) 3 ≤ 9) (hrl : ∀ n : Nat, 1 ≤ n → n ≤ 9 → (rl n = true ↔ zq_i S (ysl t n) 0 ≠ 0 ∧ km.testBit n = false)) {K : zq_S → Prop} (k : ∀ S', yst S S' t rl 10 → K S') : ∀ (m i : Nat) (S' : zq_S), i + m = 9 → yst S S' t rl (i + 1) → zq_Ex X 103 2 [.ref t, zq_vi (km : Int), zq_vi (i : Int)] [] S' (zq_rv K)
  | 0, i, S', hi, h => by
    have e : i = 9 := by omega
    subst e
    refine zw_103_2 (yk_t8 f2) ⟨by omega, by omega⟩ ⟨by omega, by omega⟩ ?_
    rw [if_neg (by omega)]
    exact k S' h
  | m + 1, i, S', hi, h => by
    obtain ⟨p1, p2, p3⟩ := id h
    obtain ⟨r1, r2, r3, r4, r5, r6, r7, r8, r9⟩ := yk_sl f2 (o := i + 1) (by omega) (by omega)
    have esl : t + 1 + 8 + 10 * ((i : Int)).toNat = ysl t (i + 1) := by unfold ysl; omega
    have same : zq_i S' (ysl t (i + 1)) = zq_i S (ysl t (i + 1)) := by
      funext j
      refine p2 _ j (fun o o1 o2 e => ?_)
      have := ysl_inj (by omega) o1 e
      omega
    have hr := hrl (i + 1) (by omega) (by omega)
    have hgi := hg (i + 1) (by omega) (by omega)
    have stay : rl (i + 1) = false → zq_Ex X 103 2 [.ref t, zq_vi (km : Int), zq_vi ((i + 1 : Nat) : Int)] [] S' (zq_rv K) := fun hz => by
      refine ys_103_2 f2 hk hg hrl k m (i + 1) S' (by omega) ⟨fun o o1 o2 => ?_, fun b j hb => p2 b j (fun o o1 o2 => hb o o1 (by omega)), p3⟩
      by_cases e : o = i + 1
      · rw [e]
        exact ⟨fun z => (by rw [hz] at z; cases z), fun _ => same⟩
      · exact p1 o o1 (by omega)
    refine zw_103_2 (yk_t8 f2) ⟨by omega, by omega⟩ ⟨by omega, by omega⟩ ?_
    rw [if_pos (by omega), esl, same, show (i : Int) + 1 = ((i + 1 : Nat) : Int) by omega]
    refine ⟨⟨by omega, by omega⟩, yl_if (fun hz => stay ?_) (fun hz => ys_35 hk (by omega) (fun h0 => ?_) (fun h1 => ?_))⟩
    · cases z : rl (i + 1) with
      | false => rfl
      | true => exact absurd hz (hr.mp z).1
    · rw [if_pos rfl]
      refine ⟨⟨by omega, by omega⟩, zw_82 r1 (zw_83 r1 (zw_84 ⟨by rw [same]; omega, by rw [same]; omega⟩ ⟨by decide, by decide⟩ ?_))⟩
      rw [same]
      have go : ∀ g, g = ynx (zq_i S (ysl t (i + 1)) 3) → zq_Ex X 103 2 [.ref t, zq_vi (km : Int), zq_vi ((i + 1 : Nat) : Int)] [] (zq_si (zq_si (zq_si (zq_si S' (ysl t (i + 1)) (3) g) (ysl t (i + 1)) (0) (0)) (ysl t (i + 1)) (1) (1)) (ysl t (i + 1)) (2) (0)) (zq_rv K) := fun g eg => by
        have hoth : ∀ b (j : Int), (b = ysl t (i + 1) → j ≠ 0 ∧ j ≠ 1 ∧ j ≠ 2 ∧ j ≠ 3) → zq_i (zq_si (zq_si (zq_si (zq_si S' (ysl t (i + 1)) (3) g) (ysl t (i + 1)) (0) (0)) (ysl t (i + 1)) (1) (1)) (ysl t (i + 1)) (2) (0)) b j = zq_i S' b j := fun b j hj => by
          rw [zq_i_si, if_neg (fun z => (hj z.1).2.2.1 z.2), zq_i_si, if_neg (fun z => (hj z.1).2.1 z.2), zq_i_si, if_neg (fun z => (hj z.1).1 z.2), zq_i_si, if_neg (fun z => (hj z.1).2.2.2 z.2)]
        refine ys_103_2 f2 hk hg hrl k m (i + 1) _ (by omega) ⟨fun o o1 o2 => ?_, fun b j hb => ?_, p3⟩
        · by_cases e : o = i + 1
          · rw [e]
            refine ⟨fun _ => ⟨?_, ?_, ?_⟩, fun z => ?_⟩
            · rw [zq_i_si, if_neg (by simp), zq_i_si, if_neg (by simp), zq_i_si, if_pos ⟨rfl, rfl⟩]
            · rw [zq_i_si, if_pos ⟨rfl, rfl⟩]
            · rw [zq_i_si, if_neg (by simp), zq_i_si, if_neg (by simp), zq_i_si, if_neg (by simp), zq_i_si, if_pos ⟨rfl, rfl⟩]
              exact eg
            · rw [hr.mpr ⟨hz, h0⟩] at z
              cases z
          · have hne : ysl t o ≠ ysl t (i + 1) := fun z => e (ysl_inj o1 (by omega) z)
            have ho : zq_i (zq_si (zq_si (zq_si (zq_si S' (ysl t (i + 1)) (3) g) (ysl t (i + 1)) (0) (0)) (ysl t (i + 1)) (1) (1)) (ysl t (i + 1)) (2) (0)) (ysl t o) = zq_i S' (ysl t o) := by
              funext j
              exact hoth _ j (fun z => absurd z hne)
            rw [ho]
            exact p1 o o1 (by omega)
        · rw [hoth b j (fun z => hb (i + 1) (by omega) (by omega) z)]
          exact p2 b j (fun o o1 o2 => hb o o1 (by omega))
      refine yl_if (fun h9 => go _ ?_) (fun h9 => go _ ?_)
      · unfold ynx
        rw [if_pos h9]
      · unfold ynx
        rw [if_neg h9]
    · rw [if_neg (by decide)]
      refine stay ?_
      cases z : rl (i + 1) with
      | false => rfl
      | true =>
        have := (hr.mp z).2
        rw [h1] at this
        cases this
set_option maxRecDepth 100000 in
theorem ys_104_2 {S : zq_S} {t : Nat} (f2 : t = 27 ∨ t = 126) {K : zq_S → Prop} (k : ∀ S', ysu S S' t 10 → K S') : ∀ (m i : Nat) (S' : zq_S), i + m = 9 → ysu S S' t (i + 1) → zq_Ex X 104 2 [.ref t, zq_vi (i : Int)] [] S' (zq_rv K)
  | 0, i, S', hi, h => by
    have e : i = 9 := by omega
    subst e
    refine zw_104_2 (yk_t8 f2) ⟨by omega, by omega⟩ ?_
    rw [if_neg (by omega)]
    exact k S' h
  | m + 1, i, S', hi, ⟨p1, p2, p3⟩ => by
    have esl : t + 1 + 8 + 10 * ((i : Int)).toNat = ysl t (i + 1) := by unfold ysl; omega
    refine zw_104_2 (yk_t8 f2) ⟨by omega, by omega⟩ ?_
    rw [if_pos (by omega), esl, show (i : Int) + 1 = ((i + 1 : Nat) : Int) by omega]
    refine ⟨⟨by omega, by omega⟩, ys_104_2 f2 k m (i + 1) _ (by omega) ⟨fun o o1 o2 => ?_, fun b j hb => ?_, p3⟩⟩
    · rw [zq_i_si]
      by_cases e : o = i + 1
      · rw [e, if_pos ⟨rfl, rfl⟩]
      · rw [if_neg (fun z => e (ysl_inj o1 (by omega) z.1))]
        exact p1 o o1 (by omega)
    · rw [zq_i_si, if_neg (fun z => hb (i + 1) (by omega) (by omega) z.1 z.2)]
      exact p2 b j (fun o o1 o2 => hb o o1 (by omega))
set_option maxRecDepth 100000 in
theorem ys_95 {s : zq_S} {dr fl : List Int} {ev : Nat → List ye_E} {ct : Nat → List Int} {F t : Nat} (hI : yI s (dr, fl, ev, ct, F, t)) {x1 : Int} (b1 : zq_bo x1) {pre : List Int} (hpre : pre = if x1 = 0 then fl else yX_pa) {K : zq_S → Prop} (k : ∀ S', yf [48 - F, 48 - F + 1, 22] s S' → yw S' (48 - F) pre → K S') : zq_Ex X 95 0 [.ref 0, zq_vi x1] [] s (zq_rv K) := by
  have f1 : F = 23 ∨ F = 25 := hI.2.1.1
  have oF : zq_o 1 (48 - F) := by rcases f1 with z | z <;> (subst z; decide +kernel)
  have oF0 : zq_o 1 F := by rcases f1 with z | z <;> (subst z; decide +kernel)
  have T9 : zq_T (48 - F) = 999 := by rcases f1 with z | z <;> (subst z; decide +kernel)
  have ex : ∀ {S1 S2 : zq_S}, yf [48 - F, 48 - F + 1] S1 S2 → yf [48 - F, 48 - F + 1, 22] S1 S2 := fun {S1 S2} f => f.mono (by simp)
  obtain ⟨t1, t2, t3, t4, t5, t6, t7, t8, t9, t10, t11, t12⟩ := hI.2.1
  have t3 : zq_r s 0 6 = some F := t3
  have t4 : zq_r s 0 7 = some (48 - F) := t4
  obtain ⟨_, _, _, _, ⟨v, hfx⟩, hfc, _, _⟩ := hI.1
  have hfx : yx s F (fl, v) := hfx
  refine zw_95 b1 ⟨48 - F, t4, ys_15 oF (fun s1 h1 g1 => ?_)⟩
  have hw1 : yw s1 (48 - F) [] := h1
  by_cases hx : x1 = 0
  · rw [if_pos hx] at hpre ⊢
    refine ⟨48 - F, by rw [g1.r]; exact t4, F, by rw [g1.r]; exact t3, ?_⟩
    have hy : yx s1 F (fl, v) := hfx.cong (g1.i (by simp; omega)) (g1.i (by simp; omega))
    refine ys_80 oF oF0 (by omega) hfc hw1 hy (fun s2 h2 g2 => k s2 (ex (g1.trans g2)) ?_)
    have := yw.add T9 h2
    rw [List.nil_append] at this
    rw [hpre]
    exact this
  · rw [if_neg hx] at hpre ⊢
    refine ⟨48 - F, by rw [g1.r]; exact t4, ?_⟩
    refine yw_23 (w := yX_pa) oF T9 hw1 (by decide +kernel) (fun s2 h2 g2 => k s2 (ex (g1.trans g2)) ?_)
    rw [List.nil_append] at h2
    rw [hpre]
    exact h2
set_option maxRecDepth 100000 in
theorem yw.over {S : zq_S} {b : Nat} {L : List Int} (h : yw S b L) : (zq_i S b 2 = 0 ↔ L.length ≤ 999) ∧ (L.length ≤ 999 → yx S b (L, 0)) := by
  by_cases hl : L.length ≤ 999
  · have e : yx_ps 999 ([], 0) L = (L, 0) := by
      have := yx_ps_fit 999 L ([], 0) (by simp; omega)
      rw [this]
      rfl
    unfold yw at h
    rw [e] at h
    exact ⟨⟨fun _ => hl, fun _ => h.2.2.1⟩, fun _ => h⟩
  · have := yx_ps_over 999 L ([], 0) (by simp) (by simp; omega)
    have h2 := h.2.2.1
    rw [this] at h2
    exact ⟨⟨fun z => (by rw [h2] at z; cases z), fun z => absurd z hl⟩, fun z => absurd z hl⟩
set_option maxRecDepth 100000 in
/-- the class writes and settles -/
theorem ys_86w {s : zq_S} {dr fl : List Int} {ev : Nat → List ye_E} {ct : Nat → List Int} {F t : Nat} (hI : yI s (dr, fl, ev, ct, F, t)) {x1 x2 tl : Int} (b1 : zq_bo x1) (hx2 : -1 ≤ x2 ∧ x2 < 1000000) (htl : tl = if x1 = 0 then x2 else -1) {lm km : Nat} (hl : lm < 1024) (hk : yog s km) {rl : Nat → Bool} (hrl : ∀ n : Nat, 1 ≤ n → n ≤ 9 → (rl n = true ↔ x1 ≠ 0 ∧ zq_i s 237 n ≠ 0 ∧ km.testBit n = false)) {pre : List Int} (hpre : pre = if x1 = 0 then fl else yX_pa) {K : Int → zq_S → Prop} {T : Nat → zq_S → Prop} (hn : zq_n s < 1000)
    (kover : 999 < (yW (fun l => (ycap l : Int)) s ev ct lm km pre tl).length → ∀ S', yf [48 - F, 48 - F + 1, 22] s S' → T 14 (zq_sx S' 14))
    (kok : (yW (fun l => (ycap l : Int)) s ev ct lm km pre tl).length ≤ 999 → ∀ S1 S2 S3, yf [48 - F, 48 - F + 1, 22] s S1 → yx S1 (48 - F) (yW (fun l => (ycap l : Int)) s ev ct lm km pre tl, 0) → yst S1 S2 t rl 10 → ysu S2 S3 t 10 → K ((yW (fun l => (ycap l : Int)) s ev ct lm km pre tl).length : Int) (zq_sr (zq_sr (zq_sr S3 0 6 (some (48 - F))) 0 7 (some F)) 3 0 none)) : (zq_Ex X 95 0 [(.ref (0)), (zq_vi (x1))] [] s (zq_rv fun s_22 => (∃ b_24 : Nat, zq_r s_22 (0) 7 = some b_24 ∧ (∃ b_26 : Nat, zq_r s_22 (0) 8 = some b_26 ∧ (zq_Ex X 96 0 [(.ref (21)), (.ref (b_24)), (.ref (b_26)), (zq_vi (km : Int)), zz_no, zz_no] [] s_22 (zq_rv fun s_28 => (∃ b_30 : Nat, zq_r s_28 (0) 7 = some b_30 ∧ (∃ b_32 : Nat, zq_r s_28 (0) 8 = some b_32 ∧ (if x1 = 0 then (zq_Ex X 98 0 [(.ref (21)), (.ref (b_30)), (.ref (b_32)), (zq_vi (lm : Int)), (zq_vi (km : Int)), (zq_vi (x2)), zz_no, zz_no] [] s_28 (zq_rv fun s_35 => (∃ b_37 : Nat, zq_r s_35 (0) 7 = some b_37 ∧ (if zq_i s_35 (b_37) (2) = 0 then (if x1 = 0 then zq_Ex X 86 182 [(.ref (0)), (zq_vi (x1)), (zq_vi (x2)), (zq_vi (lm : Int)), (zq_vi (km : Int))] [] s_35 (zq_rx (zq_rp zq_iv K) T) else (∃ b_41 : Nat, zq_r s_35 (0) 8 = some b_41 ∧ (zq_Ex X 103 0 [(.ref (b_41)), (zq_vi (km : Int)), zz_no] [] s_35 (zq_rv fun s_43 => zq_Ex X 86 182 [(.ref (0)), (zq_vi (x1)), (zq_vi (x2)), (zq_vi (lm : Int)), (zq_vi (km : Int))] [] s_43 (zq_rx (zq_rp zq_iv K) T))))) else (zq_n s_35 < 1000 ∧ T 14 (zq_sx s_35 14)))))) else (zq_Ex X 98 0 [(.ref (21)), (.ref (b_30)), (.ref (b_32)), (zq_vi (lm : Int)), (zq_vi (km : Int)), (zq_vi ((-1))), zz_no, zz_no] [] s_28 (zq_rv fun s_44 => (∃ b_46 : Nat, zq_r s_44 (0) 7 = some b_46 ∧ (if zq_i s_44 (b_46) (2) = 0 then (if x1 = 0 then zq_Ex X 86 182 [(.ref (0)), (zq_vi (x1)), (zq_vi (x2)), (zq_vi (lm : Int)), (zq_vi (km : Int))] [] s_44 (zq_rx (zq_rp zq_iv K) T) else (∃ b_50 : Nat, zq_r s_44 (0) 8 = some b_50 ∧ (zq_Ex X 103 0 [(.ref (b_50)), (zq_vi (km : Int)), zz_no] [] s_44 (zq_rv fun s_52 => zq_Ex X 86 182 [(.ref (0)), (zq_vi (x1)), (zq_vi (x2)), (zq_vi (lm : Int)), (zq_vi (km : Int))] [] s_52 (zq_rx (zq_rp zq_iv K) T))))) else (zq_n s_44 < 1000 ∧ T 14 (zq_sx s_44 14))))))))))))))) := by
  have f1 : F = 23 ∨ F = 25 := hI.2.1.1
  have f2 : t = 27 ∨ t = 126 := hI.2.1.2.1
  have oF : zq_o 1 (48 - F) := by rcases f1 with z | z <;> (subst z; decide +kernel)
  have T9 : zq_T (48 - F) = 999 := by rcases f1 with z | z <;> (subst z; decide +kernel)
  obtain ⟨t1, t2, t3, t4, t5, t6, t7, t8, t9, t10, t11, t12⟩ := hI.2.1
  have t3 : zq_r s 0 6 = some F := t3
  have t4 : zq_r s 0 7 = some (48 - F) := t4
  have t5 : zq_r s 0 8 = some t := t5
  have ex : ∀ {S1 S2 : zq_S}, yf [48 - F, 48 - F + 1] S1 S2 → yf [48 - F, 48 - F + 1, 22] S1 S2 := fun {S1 S2} f => f.mono (by simp)
  have := hk.1
  have capb : ∀ l : List Int, (ycap l : Int) ≤ 999 := fun l => by unfold ycap; omega
  refine ys_95 hI b1 hpre (fun s1 g1 w1 => ⟨48 - F, by rw [g1.r]; exact t4, t, by rw [g1.r]; exact t5, zw_96 oF (yk_t8 f2) ⟨by omega, by omega⟩ ?_⟩)
  refine ys_96_3 hI hk (pre := pre) (fun s2 g2 w2 p2 => ⟨48 - F, by rw [g2.r]; exact t4, t, by rw [g2.r]; exact t5, ?_⟩) 9 1 s1 zz_no rfl rfl (by omega) g1 (by show yw s1 (48 - F) (pre ++ []); rw [List.append_nil]; exact w1) (fun i i1 i2 => by omega)
  -- the table
  have tab : ∀ (y : Int), y = tl → ∀ (K' : zq_S → Prop), (∀ S', yf [48 - F, 48 - F + 1, 22] s S' → yw S' (48 - F) (yW (fun l => (ycap l : Int)) s ev ct lm km pre tl) → K' S') → zq_Ex X 98 0 [(.ref (21)), (.ref (48 - F)), (.ref t), (zq_vi (lm : Int)), (zq_vi (km : Int)), (zq_vi y), zz_no, zz_no] [] s2 (zq_rv K') := fun y hy K' k' => by
    subst hy
    have htb : -1 ≤ y ∧ y < 1000000 := by
      rw [htl]
      split <;> omega
    refine zw_98 oF (yk_t8 f2) ⟨by omega, by omega⟩ ⟨by omega, by omega⟩ ⟨by omega, by omega⟩ (yw_23 (w := yX_xr) oF T9 w2 (by decide +kernel) (fun s3 w3 g3 => ?_))
    rw [w2.size]
    have g3' := g2.trans (ex g3)
    refine ys_98_15 (S0 := s3) hI g3' hl hk (P := fun n => (ycap (pre ++ yw_obs (fun n => km.testBit n) (yO s ev ct) (n - 1) 1) : Int)) (fun n n1 n9 hb => ⟨?_, by omega, capb _⟩) ⟨by omega, capb _⟩ htb (Z := yW (fun l => (ycap l : Int)) s ev ct lm km pre y) (fun S' gg w' => k' S' (g3'.trans (ex gg)) w') 9 1 s3 _ rfl (by omega) (yf.refl _ _) w3 ?_
    · rw [g3.i (b := 22) (by simp; omega)]
      exact p2 n n1 n9 hb
    · unfold yW
      simp only [List.append_assoc]
  -- the end
  have last : ∀ S1 S2 : zq_S, yf [48 - F, 48 - F + 1, 22] s S1 → yx S1 (48 - F) (yW (fun l => (ycap l : Int)) s ev ct lm km pre tl, 0) → (yW (fun l => (ycap l : Int)) s ev ct lm km pre tl).length ≤ 999 → yst S1 S2 t rl 10 → zq_Ex X 86 182 [(.ref (0)), (zq_vi (x1)), (zq_vi (x2)), (zq_vi (lm : Int)), (zq_vi (km : Int))] [] S2 (zq_rx (zq_rp zq_iv K) T) := fun S1 S2 g w hle h => by
    have hr2 : zq_r S2 = zq_r s := by
      have : zq_r S2 = zq_r S1 := by unfold zq_r; rw [h.2.2]
      rw [this, g.r]
    refine zw_86_182 b1 ⟨by omega, by omega⟩ ⟨by omega, by omega⟩ ⟨by omega, by omega⟩ ⟨t, by rw [hr2]; exact t5, zw_104 (yk_t8 f2) (ys_104_2 f2 (fun S3 h3 => ?_) 9 0 S2 rfl ⟨fun o o1 o2 => by omega, fun _ _ _ => rfl, rfl⟩)⟩
    have hr3 : zq_r S3 = zq_r s := by
      have : zq_r S3 = zq_r S2 := by unfold zq_r; rw [h3.2.2]
      rw [this, hr2]
    refine zw_105 ⟨F, by rw [hr3]; exact t3, 48 - F, by rw [hr3]; exact t4, zw_71 (by decide +kernel) ⟨48 - F, ?_, ?_⟩⟩
    · rw [zq_r_sr, if_neg (by decide), zq_r_sr, if_neg (by decide), zq_r_sr, if_pos ⟨rfl, rfl⟩]
    · have esz : zq_i (zq_sr (zq_sr (zq_sr S3 0 6 (some (48 - F))) 0 7 (some F)) 3 0 none) (48 - F) 1 = ((yW (fun l => (ycap l : Int)) s ev ct lm km pre tl).length : Int) := by
        rw [zq_i_sr, zq_i_sr, zq_i_sr, h3.2.1 (48 - F) 1 (fun o o1 o2 e => by unfold ysl at e; omega), h.2.1 (48 - F) 1 (fun o o1 o2 e => by unfold ysl at e; omega)]
        exact w.1
      rw [esz]
      exact kok hle S1 S2 S3 g w h h3
  have fin : ∀ S1 : zq_S, yf [48 - F, 48 - F + 1, 22] s S1 → yw S1 (48 - F) (yW (fun l => (ycap l : Int)) s ev ct lm km pre tl) → (∃ b_37 : Nat, zq_r S1 (0) 7 = some b_37 ∧ (if zq_i S1 (b_37) (2) = 0 then (if x1 = 0 then zq_Ex X 86 182 [(.ref (0)), (zq_vi (x1)), (zq_vi (x2)), (zq_vi (lm : Int)), (zq_vi (km : Int))] [] S1 (zq_rx (zq_rp zq_iv K) T) else (∃ b_41 : Nat, zq_r S1 (0) 8 = some b_41 ∧ (zq_Ex X 103 0 [(.ref (b_41)), (zq_vi (km : Int)), zz_no] [] S1 (zq_rv fun s_43 => zq_Ex X 86 182 [(.ref (0)), (zq_vi (x1)), (zq_vi (x2)), (zq_vi (lm : Int)), (zq_vi (km : Int))] [] s_43 (zq_rx (zq_rp zq_iv K) T))))) else (zq_n S1 < 1000 ∧ T 14 (zq_sx S1 14)))) := fun S1 g w => by
    obtain ⟨ov1, ov2⟩ := w.over
    have hn1 : zq_n S1 = zq_n s := by unfold zq_n; rw [g.2]
    have cell : ∀ c, 30 ≤ c → zq_i S1 c = zq_i s c := fun c hc => g.i (yfw_cell f1 hc)
    refine ⟨48 - F, by rw [g.r]; exact t4, yl_if (fun hz => ?_) (fun hz => ⟨by rw [hn1]; exact hn, kover ?_ S1 g⟩)⟩
    · have hle := ov1.mp hz
      have w1 := ov2 hle
      by_cases hx : x1 = 0
      · rw [if_pos hx]
        refine last S1 S1 g w1 hle ⟨fun o o1 o2 => ⟨fun z => absurd hx ((hrl o o1 (by omega)).mp z).1, fun _ => rfl⟩, fun _ _ _ => rfl, rfl⟩
      · rw [if_neg hx]
        refine ⟨t, by rw [g.r]; exact t5, zw_103 (yk_t8 f2) ⟨by omega, by omega⟩ (ys_103_2 f2 hk.1 (fun n n1 n9 => ?_) (rl := rl) (fun n n1 n9 => ?_) (fun S2 h2 => last S1 S2 g w1 hle h2) 9 0 S1 rfl ⟨fun o o1 o2 => by omega, fun _ _ _ => rfl, rfl⟩)⟩
        · obtain ⟨d1, d2, d3, d4, d5, d6⟩ := hI.2.2.2.1 n n1 n9
          rw [cell _ (by unfold ysl; omega)]
          exact d5
        · obtain ⟨d1, d2, d3, d4, d5, d6⟩ := hI.2.2.2.1 n n1 n9
          have d2 : zq_i s (ysl t n) 0 = zq_i s 237 n := d2
          rw [cell _ (by unfold ysl; omega), d2, hrl n n1 n9]
          exact ⟨fun z => z.2, fun z => ⟨hx, z⟩⟩
    · have : ¬ (yW (fun l => (ycap l : Int)) s ev ct lm km pre tl).length ≤ 999 := fun z => hz (ov1.mpr z)
      omega
  by_cases hx : x1 = 0
  · rw [if_pos hx]
    rw [if_pos hx] at htl
    exact tab x2 htl.symm _ fin
  · rw [if_neg hx]
    rw [if_neg hx] at htl
    exact tab (-1) htl.symm _ fin
end YLE7
