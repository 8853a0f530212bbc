/-! only the draft or the file changes -/
def yk2 (F : Nat) (s s' : zq_S) : Prop := (∀ b, ¬ yirr F b → b ∉ [1, 2, F, F + 1, 233, 234] → b ≠ 232 → zq_i s' b = zq_i s b) ∧ (∀ j ∈ [17, 18, 19, 20, 21, 22], zq_i s' 232 j = zq_i s 232 j) ∧ (∀ b, ¬ (4 ≤ b ∧ b ≤ 22) → zq_r s' b = zq_r s b) ∧ (∀ b, ¬ (4 ≤ b ∧ b ≤ 22) → b ≠ 259 → zq_l s' b = zq_l s b)
set_option maxRecDepth 100000 in
theorem yk2.yI {F : Nat} {s s' : zq_S} {A : yA} {dr' fl' : List Int} (h : yI s A) (hF : F = A.2.2.2.2.1) (k : yk2 F s s') (hT : yI_txt s' dr' fl' F) (hm : ym_I s') : yI s' (dr', fl', A.2.2) := by
  obtain ⟨dr, fl, ev, ct, F', t⟩ := A
  have hF : F = F' := hF
  subst hF
  obtain ⟨a1, a2, a3, a4, a5, a6, a7, a8⟩ := h
  obtain ⟨k1, k2, k3, k4⟩ := k
  obtain ⟨f1, f2, t3, t4, t5, t6, t7, t8, t9, t10, t11, t12⟩ := a2
  have f1 : F = 23 ∨ F = 25 := f1
  have f2 : t = 27 ∨ t = 126 := f2
  have ni : ∀ b, (b = 0 ∨ b = 3 ∨ (27 ≤ b ∧ b < 232) ∨ (237 ≤ b ∧ b < 245) ∨ (256 ≤ b ∧ b < 259)) → zq_i s' b = zq_i s b := fun b hb => k1 b (by unfold yirr; omega) (by simp; omega) (by omega)
  have nr : ∀ b, (b < 4 ∨ 23 ≤ b) → zq_r s' b = zq_r s b := fun b hb => k3 b (by omega)
  have nl : ∀ b, 23 ≤ b → b < 259 → zq_l s' b = zq_l s b := fun b hb hb' => k4 b (by omega) (by omega)
  have hsl : ∀ o : Nat, 1 ≤ o → o ≤ 9 → 27 ≤ ysl t o ∧ ysl t o + 9 < 232 := fun o h1 h2 => by unfold ysl; omega
  have ntr : ∀ (a : Nat) (es : List ye_E), (a = 29 ∨ a = 128 ∨ (zq_o 4 a ∧ 29 < a ∧ a ≠ 128)) → yt_tr s a 0 0 es → yt_tr s' a 0 0 es := fun a es ha htr => by
    have hb : 27 ≤ a ∧ a + 6 < 232 := by
      rcases ha with z | z | ⟨z1, z2⟩
      · omega
      · omega
      · have := yk_tree z1 z2; omega
    refine htr.cong (fun q hq => ni q ?_) (nl _ (by omega) (by omega))
    simp at hq
    omega
  have htre := a3
  refine ⟨?_, ?_, ?_, ?_, ?_, a6, ?_, hm⟩
  · exact hT
  · refine ⟨f1, f2, ?_, ?_, ?_, ?_, ?_, ?_, ?_, ?_, ?_, ?_⟩
    · rw [nr 0 (by omega)]; exact t3
    · rw [nr 0 (by omega)]; exact t4
    · rw [nr 0 (by omega)]; exact t5
    · rw [nr 0 (by omega)]; exact t6
    · rw [ni 0 (by omega), k2 21 (by simp)]; exact t7
    · rw [ni 0 (by omega), k2 22 (by simp)]; exact t8
    · show zq_i s' t 2 = _
      rw [ni t (by omega), k2 17 (by simp)]; exact t9
    · show zq_i s' t 3 = _
      rw [ni t (by omega), k2 18 (by simp)]; exact t10
    · rw [k2 17 (by simp)]; exact t11
    · rw [k2 18 (by simp)]; exact t12
  · obtain ⟨⟨l, c1, c2, c3⟩, c4, c5⟩ := a3
    refine ⟨⟨l, ?_, c2, c3⟩, ntr 29 _ (Or.inl rfl) c4, ntr 128 _ (Or.inr (Or.inl rfl)) c5⟩
    rw [← c1]
    unfold ytl
    rw [nr 0 (by omega)]
    congr 2
    · exact List.map_congr_left fun i hi => by rw [nr (36 + 10 * i) (by omega)]
    · exact List.map_congr_left fun i hi => by rw [nr (135 + 10 * i) (by omega)]
  · intro o h1 h9
    obtain ⟨d1, d2, d3, d4, d5, d6⟩ := a4 o h1 h9
    have hs := hsl o h1 h9
    have es : zq_i s' (ysl t o) = zq_i s (ysl t o) := ni _ (by omega)
    show yI_slot s' (ysl t o) o (ev o) (ct o)
    unfold yI_slot
    rw [es, ni 237 (by omega), ni 239 (by omega), ni 238 (by omega)]
    refine ⟨d1, d2, d3, d4, d5, fun z => ?_⟩
    obtain ⟨⟨tr, e1, e2⟩, e3, e4, e5, e6, e7⟩ := d6 z
    obtain ⟨a, g1, g2⟩ := htre.slot f2 h1 h9
    have : a = tr := Option.some.inj (g1.symm.trans e1)
    subst this
    unfold yI_use
    rw [es, ni 240 (by omega), ni 242 (by omega), ni 243 (by omega), nr (ysl t o) (by omega)]
    refine ⟨⟨a, e1, ntr a _ (Or.inr (Or.inr g2)) e2⟩, e3, e4, e5.cong (ni 241 (by omega)), e6, fun z2 => ?_⟩
    obtain ⟨w1, ⟨v, w2⟩, w3, w4, w5⟩ := e7 z2
    exact ⟨w1, ⟨v, w2.cong (ni (ysl t o + 8) (by omega)) (ni (ysl t o + 8 + 1) (by omega))⟩, w3, w4, w5.cong (ni 244 (by omega))⟩
  · rcases a5 with ⟨e1, e2⟩ | ⟨o, pre, d, es, e1, e2, e3, e4, e5, e6, e7⟩
    · left
      rw [k2 19 (by simp), nr 3 (by omega)]
      exact ⟨e1, e2⟩
    · right
      refine ⟨o, pre, d, es, e1, ?_, ?_, ?_, e5, ?_, ?_⟩
      · rw [k2 19 (by simp)]; exact e2
      · rw [ni 237 (by omega)]; exact e3
      · rw [nr 3 (by omega), e4]
        unfold ycu
        split
        · rfl
        · next ho =>
          show zq_r s (ysl t o) 4 = zq_r s' (ysl t o) 4
          have := hsl o (by omega) e1
          rw [nr (ysl t o) (by omega)]
      · rw [ni 3 (by omega)]; exact e6
      · rw [k2 20 (by simp)]; exact e7
  · obtain ⟨e1, e2, e3, e4, e5⟩ := a7
    refine ⟨?_, e2.cong (ni 241 (by omega)), ?_, ?_, ?_⟩
    · rw [ni 240 (by omega)]; exact e1
    · unfold ym_nm; rw [ni 256 (by omega)]; exact e3
    · unfold ym_nm; rw [ni 257 (by omega)]; exact e4
    · unfold ym_nm; rw [ni 258 (by omega)]; exact e5

set_option maxRecDepth 100000 in
/-- a change of ints alone -/
theorem yk2.si {F : Nat} {s s' : zq_S} {a : Nat} {j x : Int} (h : yk2 F s s') (hF : F < 100) (ha : a ∈ [1, 2, F, F + 1, 233, 234] ∨ (a = 232 ∧ j ∉ [17, 18, 19, 20, 21, 22])) : yk2 F s (zq_si s' a j x) := by
  obtain ⟨h1, h2, h3, h4⟩ := h
  refine ⟨fun b b1 b2 b3 => ?_, fun i hi => ?_, h3, h4⟩
  · funext i
    rw [zq_i_si, if_neg (fun z => ?_), h1 b b1 b2 b3]
    rcases ha with ha | ha
    · exact b2 (by rw [z.1]; exact ha)
    · exact b3 (by rw [z.1]; exact ha.1)
  · rw [zq_i_si]
    by_cases z : 232 = a ∧ i = j
    · exfalso
      rcases ha with ha | ha
      · rw [← z.1] at ha
        simp at ha
        omega
      · exact ha.2 (by rw [← z.2]; exact hi)
    · rw [if_neg z]
      exact h2 i hi
set_option maxRecDepth 100000 in
theorem yk2.refl (F : Nat) (s : zq_S) : yk2 F s s := ⟨fun _ _ _ _ => rfl, fun _ _ => rfl, fun _ _ => rfl, fun _ _ _ => rfl⟩
set_option maxRecDepth 100000 in
theorem zq_si_self (s : zq_S) (a : Nat) (j : Int) : zq_si s a j (zq_i s a j) = s := by
  have e : zq_up s.1 a j (zq_i s a j) = s.1 := by
    funext b k
    unfold zq_up
    by_cases h : b = a ∧ k = j
    · rw [if_pos h, h.1, h.2]; rfl
    · rw [if_neg h]
  show (zq_up s.1 a j (zq_i s a j), s.2) = s
  rw [e]
section YL2
variable {X : Nat × (Nat → Int32)}
set_option maxRecDepth 100000 in
/-- the end of a case without an answer -/
theorem yl_say0 {s : zq_S} {A : yA} {m : Nat} {k : Int} {v : Value} (hv : v.category = 1) (hI : yI s A) (hm : zq_n s ≤ m + 1) (hk : zq_i s 232 0 = k) (next : ∀ s' A' v5' v6', v5'.category = 1 → v6'.category = 1 → yI s' A' → zq_n s' ≤ m + 1 → zq_Ex X 0 967 (yL m v5' v6') [] s' yE) : zq_Ex X 141 0 [.ref 232] [] s (zq_rp zq_iv fun x_8 s_7 => (if x_8 = k then zq_Ex X 0 967 [(.ref (zz_SC)), (.ref (0)), (.ref (232)), (.ref (259)), (zq_vi (3 * (m : Int))), (zq_vi k), v] [] s_7 (zq_rp zq_bo fun x _ => x = 1) else (0 : Int) = 1)) := zw_141 (by
  rw [if_pos hk]
  exact next s A _ _ rfl hv hI hm)
set_option maxRecDepth 100000 in
/-- cut -/
theorem yl_556 (hX : X.1 ≤ 1536) : yl_C X 556 := fun s A m v5 v6 h5 h6 hI hm hmX next => by
  obtain ⟨dr, fl, ev, ct, F, t⟩ := A
  have hF : F = 23 ∨ F = 25 := hI.2.1.1
  have hr : zq_r s 0 6 = some F := hI.2.1.2.2.1
  obtain ⟨b1, b2, b3, b4, ⟨v, hx⟩, b6, b7, b8⟩ := hI.1
  have hx : yx s F (fl, v) := hx
  have b1 : ∃ v, yx s 1 (dr, v) := b1
  have b3 : zq_i s 232 1 = dr.length := b3
  have b4 : yrow s 233 0 dr := b4
  have b7 : zq_i s 232 3 = fl.length := b7
  have b8 : yrow s 234 0 fl := b8
  have T9 : zq_T F = 999 := by rcases hF with z | z <;> (subst z; decide +kernel)
  have hlen : fl.length ≤ 999 := by have := hx.2.1; rw [T9] at this; exact this
  have hx1 : zq_i s F 1 = fl.length := hx.1
  have hb : (0 : Int) ≤ 3 * (m : Int) + 1 ∧ 3 * (m : Int) + 1 < (X.1 : Int) := ⟨by omega, by omega⟩
  refine zw_0_556 (by omega) ⟨by omega, by omega⟩ h5 h6 ⟨hb, ?_⟩
  have hxi := zq_in32 (X.2 (3 * (m : Int) + 1).toNat)
  generalize (X.2 (3 * (m : Int) + 1).toNat).toInt = x at hxi ⊢
  have hn1 : zq_n s < 1000 := by omega
  have hm2 : zq_n (zq_sx s 12) ≤ m + 1 := by rw [zq_n_sx]; omega
  have fin := yl_say0 (X := X) (k := 1) h6 ((hI.exc 12).th 1) (by rw [zq_n_si]; exact hm2) (zq_i_at _ _ _ _) next
  have e3 : zq_si (zq_si (zq_sx s 12) 232 0 1) 232 3 (zq_i (zq_sx s 12) 232 3) = zq_si (zq_sx s 12) 232 0 1 := by
    have : zq_i (zq_sx s 12) 232 3 = zq_i (zq_si (zq_sx s 12) 232 0 1) 232 3 := by rw [zq_i_si, if_neg (by decide)]
    rw [this, zq_si_self]
  refine zw_240 hxi (zw_127 hxi (yl_if (fun hx0 => ⟨hn1, ?_⟩) fun hx0 => ⟨F, hr, yl_if (fun hx2 => ?_) (fun hx2 => ⟨hn1, ?_⟩)⟩))
  · rw [if_pos rfl]
    refine ⟨hb, zw_220 hxi ?_⟩
    rw [if_pos hx0, e3]
    exact fin
  · refine ⟨hb, zw_220 hxi ?_⟩
    have hF2 : F ≠ 232 ∧ F ≠ 1 ∧ F ≠ 2 ∧ F + 1 ≠ 232 ∧ F ≠ 233 ∧ F ≠ 234 := by omega
    have e7 : zq_i (zq_si s F 1 x) 232 3 = fl.length := by rw [zq_i_si, if_neg (fun z => hF2.1 z.1.symm)]; exact b7
    rw [if_neg hx0, if_pos (by rw [e7]; omega)]
    have kk : yk2 F s (zq_si (zq_si (zq_si s F 1 x) 232 0 0) 232 3 x) := (((yk2.refl F s).si (by omega) (Or.inl (by simp))).si (by omega) (Or.inr ⟨rfl, by decide⟩)).si (by omega) (Or.inr ⟨rfl, by decide⟩)
    have ei : ∀ b, b ≠ F → b ≠ 232 → zq_i (zq_si (zq_si (zq_si s F 1 x) 232 0 0) 232 3 x) b = zq_i s b := fun b n1 n2 => by
      funext j
      rw [zq_i_si, if_neg (fun z => n2 z.1), zq_i_si, if_neg (fun z => n2 z.1), zq_i_si, if_neg (fun z => n1 z.1)]
    have tl : (fl.take x.toNat).length = x.toNat := by rw [List.length_take]; omega
    have gd : ∀ i, i < x.toNat → (fl.take x.toNat).getD i 0 = fl.getD i 0 := fun i hi => by
      simp [List.getD_eq_getElem?_getD, List.getElem?_take, hi]
    refine yl_say0 (X := X) (A := (dr, fl.take x.toNat, ev, ct, F, t)) h6 (kk.yI hI rfl ?_ ?_) (by rw [zq_n_si, zq_n_si, zq_n_si]; omega) (by rw [zq_i_si, if_neg (by decide), zq_i_at]) next
    · obtain ⟨v1, c1⟩ := b1
      refine ⟨⟨v1, c1.cong (ei 1 (by omega) (by omega)) (ei 2 (by omega) (by omega))⟩, b2, ?_, b4.cong (ei 233 (by omega) (by omega)), ⟨v, ?_, ?_, ?_, fun i hi => ?_⟩, fun c hc => b6 c (List.mem_of_mem_take hc), ?_, fun i hi => ?_⟩
      · rw [zq_i_si, if_neg (by decide), zq_i_si, if_neg (by decide), zq_i_si, if_neg (fun z => hF2.1 z.1.symm)]; exact b3
      · show zq_i _ F 1 = ((fl.take x.toNat).length : Nat)
        rw [zq_i_si, if_neg (fun z => hF2.1 z.1), zq_i_si, if_neg (fun z => hF2.1 z.1), zq_i_at, tl]
        omega
      · show (fl.take x.toNat).length ≤ _
        rw [tl, T9]
        omega
      · rw [zq_i_si, if_neg (fun z => hF2.1 z.1), zq_i_si, if_neg (fun z => hF2.1 z.1), zq_i_si, if_neg (fun z => absurd z.2 (by decide))]
        exact hx.2.2.1
      · have hi : i < (fl.take x.toNat).length := hi
        rw [tl] at hi
        show zq_i _ (F + 1) i = (fl.take x.toNat).getD i 0
        rw [ei (F + 1) (by omega) hF2.2.2.2.1, gd i hi]
        exact hx.2.2.2 i (by show i < fl.length; omega)
      · rw [zq_i_at, tl]
        omega
      · rw [tl] at hi
        rw [ei 234 (by omega) (by omega), gd i hi]
        exact b8 i (by omega)
    · obtain ⟨g1, g2, g3, g4, g5⟩ := hI.2.2.2.2.2.2.2
      have e : ∀ j, j ≠ 0 → j ≠ 3 → zq_i (zq_si (zq_si (zq_si s F 1 x) 232 0 0) 232 3 x) 232 j = zq_i s 232 j := fun j j0 j3 => by
        rw [zq_i_si, if_neg (fun z => j3 z.2), zq_i_si, if_neg (fun z => j0 z.2), zq_i_si, if_neg (fun z => hF2.1 z.1.symm)]
      refine ⟨?_, ?_, ?_, ?_, fun o o1 o2 => ?_⟩
      · rw [e 1 (by decide) (by decide)]; exact g1
      · rw [zq_i_at]; omega
      · rw [e 5 (by decide) (by decide)]; exact g3
      · rw [e 23 (by decide) (by decide)]; exact g4
      · rw [ei 240 (by omega) (by omega)]; exact g5 o o1 o2
  · rw [if_pos rfl]
    refine ⟨hb, zw_220 hxi ?_⟩
    have e7 : zq_i (zq_sx s 12) 232 3 = fl.length := b7
    rw [if_neg hx0, if_neg (by rw [e7]; omega), e3]
    exact fin
end YL2
