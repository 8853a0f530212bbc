/-! load: the reference takes an object; the reference's load -/
abbrev yAk : List Nat := [235, 237, 238, 239, 240, 241, 242, 243, 244, 245, 246, 247, 248, 249, 254]
/-- objects up to o have been taken -/
def yTk (o : Nat) (s S : zq_S) : Prop := (∀ b (j : Int), b ≠ 232 → b ∉ yAo → (b ∈ [237, 238, 239, 240, 242, 243] → j ≠ o) → (b = 241 → j < 500 * o ∨ 500 * o + 500 ≤ j) → (b = 244 → j < 12 * o ∨ 12 * o + 12 ≤ j) → zq_i S b j = zq_i s b j) ∧ (∀ j, j ∉ yJo → zq_i S 232 j = zq_i s 232 j) ∧ S.2 = s.2
set_option maxRecDepth 100000 in
theorem yTk.trans {o : Nat} {s s1 s2 : zq_S} (h1 : yTk o s s1) (h2 : yTk o s1 s2) : yTk o s s2 := ⟨fun b j a1 a2 a3 a4 a5 => (h2.1 b j a1 a2 a3 a4 a5).trans (h1.1 b j a1 a2 a3 a4 a5), fun j hj => (h2.2.1 j hj).trans (h1.2.1 j hj), h2.2.2.trans h1.2.2⟩
set_option maxRecDepth 100000 in
theorem ymf.Tk {o : Nat} {s S : zq_S} (h : ymf yJo yAo s S) : yTk o s S := ⟨fun b j a1 a2 _ _ _ => by rw [h.i a2 a1], fun j hj => h.f hj, h.2.2⟩
set_option maxRecDepth 100000 in
theorem yTk.si {o b : Nat} {s : zq_S} (hb : b ∈ [237, 238, 239, 240, 242, 243]) (x : Int) : yTk o s (zq_si s b o x) := ⟨fun c j a1 a2 a3 a4 a5 => by
  rw [zq_i_si, if_neg (fun z => (a3 (by rw [z.1]; exact hb)) z.2)], fun j hj => by
  rw [zq_i_si, if_neg (fun z => by rw [← z.1] at hb; simp at hb)], rfl⟩
/-- what has been taken of an object -/
def yTo (S : zq_S) (T : Int → Int) (E : yLt) (o : Nat) : Prop := zq_i S 237 o = (if yh_u E o = none then 0 else 1) ∧ zq_i S 238 o = yh_g E o ∧ zq_i S 239 o = 0 ∧ (yh_u E o ≠ none → ∃ st q es, yh_end T E o = .inr st ∧ yh_V T E o = some (q, es) ∧ zq_i S 240 o = (ye_pr true es).length ∧ yrow S 241 (500 * o) (ye_pr true es) ∧ zq_i S 242 o = (if st = none then 0 else 1) ∧ (st ≠ none → zq_i S 243 o = (yh_c T E o).length ∧ yrow S 244 (12 * o) (yh_c T E o)))
set_option maxRecDepth 100000 in
theorem yTo.cong {S S' : zq_S} {T : Int → Int} {E : yLt} {o o' : Nat} (h : yTo S T E o) (hl : ∀ q es, yh_V T E o = some (q, es) → (ye_pr true es).length ≤ 500) (hc : (yh_c T E o).length ≤ 12) (hne : o ≠ o') (f : yTk o' S S') : yTo S' T E o := by
  obtain ⟨a1, a2, a3, a4⟩ := h
  have e : ∀ b ∈ [237, 238, 239, 240, 242, 243], zq_i S' b o = zq_i S b o := fun b hb => f.1 b o (by simp at hb; omega) (by simp at hb ⊢; omega) (fun _ => by omega) (fun z => by rw [z] at hb; simp at hb) (fun z => by rw [z] at hb; simp at hb)
  refine ⟨by rw [e 237 (by simp)]; exact a1, by rw [e 238 (by simp)]; exact a2, by rw [e 239 (by simp)]; exact a3, fun hu => ?_⟩
  obtain ⟨st, q, es, b1, b2, b3, b4, b5, b6⟩ := a4 hu
  have h5 := hl q es b2
  refine ⟨st, q, es, b1, b2, by rw [e 240 (by simp)]; exact b3, fun i hi => ?_, by rw [e 242 (by simp)]; exact b5, fun z => ?_⟩
  · rw [f.1 241 _ (by decide) (by decide) (fun z => absurd z (by decide)) (fun _ => by omega) (fun z => (by cases z))]
    exact b4 i hi
  · obtain ⟨c1, c2⟩ := b6 z
    refine ⟨by rw [e 243 (by simp)]; exact c1, fun i hi => ?_⟩
    rw [f.1 244 _ (by decide) (by decide) (fun z => absurd z (by decide)) (fun z => (by cases z)) (fun _ => by omega)]
    exact c2 i hi
set_option maxRecDepth 100000 in
theorem yh_c_len {T : Int → Int} {E : yLt} {o : Nat} (hn : ∀ n, yh_end T E o = .inr (some n) → n ≤ 12) : (yh_c T E o).length ≤ 12 := by
  unfold yh_c
  split
  · decide
  · split
    · next n he =>
      have := hn n he
      simp
      omega
    · decide
set_option maxRecDepth 100000 in
theorem yh_end_n {T : Int → Int} {E : yLt} {o : Nat} {n : Int} (h : yh_end T E o = .inr (some n)) : 0 ≤ n ∧ n ≤ 12 := by
  unfold yh_end at h
  split at h
  · cases h
  · split at h
    · cases h
    · split at h
      · split at h
        · cases h
        · cases h
        · next m _ =>
          by_cases hm : m < 0 ∨ 12 < m
          · rw [if_pos hm] at h; cases h
          · rw [if_neg hm] at h
            split at h
            · have h : m = n := Option.some.inj (Sum.inr.inj h)
              omega
            · cases h
      · cases h
section YLH8
variable {X : Nat × (Nat → Int32)}
set_option maxRecDepth 100000 in
theorem ys_216 {S : zq_S} {T : Int → Int} {E : yLt} {o : Nat} (hb : yTb T) (hC : yp_C T) (hT : ym_c S 1 = T) (hL : yRv S E) (hE : yLb E) (o1 : 1 ≤ o) (o9 : o ≤ 9) (hm : ym_I S) (h44 : zq_i S 232 44 = 0) (nl : ym_nm S 256 yNL) (hend : yh_u E o ≠ none → ∃ st, yh_end T E o = .inr st) {K : zq_S → Prop} (k : ∀ S', yTk o S S' → ym_I S' → zq_i S' 232 44 = 0 → yTo S' T E o → K S') : zq_Ex X 216 0 [.ref 232, zq_vi (o : Int), zz_no, zz_no, zz_no, zz_no] [] S (zq_rv K) := by
  have ob : (0 : Int) ≤ (o : Int) ∧ (o : Int) < (10 : Int) := ⟨by omega, by omega⟩
  have hq : ym_q 1 := ⟨by decide, by decide, Or.inl (by decide)⟩
  obtain ⟨l0, l1, l2⟩ := hL o o1 o9
  -- the first six
  have six : ∀ x : Int, yTk o S (zq_si (zq_si (zq_si (zq_si (zq_si (zq_si S (237) (o : Int) x) (238) (o : Int) (zq_i S (252) (o : Int))) (239) (o : Int) (0)) (242) (o : Int) (0)) (243) (o : Int) (0)) (240) (o : Int) (0)) := fun x => (yTk.si (by simp) _).trans ((yTk.si (by simp) _).trans ((yTk.si (by simp) _).trans ((yTk.si (by simp) _).trans ((yTk.si (by simp) _).trans (yTk.si (by simp) _)))))
  have mI : ∀ {S' : zq_S}, yTk o S S' → zq_i S' 232 5 ≤ 500 → zq_i S' 232 23 ≤ 700 → zq_i S' 240 o ≤ 500 → ym_I S' := fun {S'} f h5 h23 h240 => by
    obtain ⟨w1, w2, w3, w4, w5⟩ := hm
    refine ⟨by rw [f.2.1 1 (by simp)]; exact w1, by rw [f.2.1 3 (by simp)]; exact w2, h5, h23, fun j j0 j1 => ?_⟩
    by_cases e : j = o
    · rw [e]; exact h240
    · rw [f.1 240 j (by decide) (by decide) (fun _ => e) (fun z => (by cases z)) (fun z => (by cases z))]
      exact w5 j j0 j1
  have vals : ∀ x : Int, zq_i (zq_si (zq_si (zq_si (zq_si (zq_si (zq_si S (237) (o : Int) x) (238) (o : Int) (zq_i S (252) (o : Int))) (239) (o : Int) (0)) (242) (o : Int) (0)) (243) (o : Int) (0)) (240) (o : Int) (0)) 237 o = x ∧ zq_i (zq_si (zq_si (zq_si (zq_si (zq_si (zq_si S (237) (o : Int) x) (238) (o : Int) (zq_i S (252) (o : Int))) (239) (o : Int) (0)) (242) (o : Int) (0)) (243) (o : Int) (0)) (240) (o : Int) (0)) 238 o = yh_g E o ∧ zq_i (zq_si (zq_si (zq_si (zq_si (zq_si (zq_si S (237) (o : Int) x) (238) (o : Int) (zq_i S (252) (o : Int))) (239) (o : Int) (0)) (242) (o : Int) (0)) (243) (o : Int) (0)) (240) (o : Int) (0)) 239 o = 0 := fun x => by
    refine ⟨?_, ?_, ?_⟩
    · rw [zq_i_si, if_neg (by simp), zq_i_si, if_neg (by simp), zq_i_si, if_neg (by simp), zq_i_si, if_neg (by simp), zq_i_si, if_neg (by simp), zq_i_si, if_pos ⟨rfl, rfl⟩]
    · rw [zq_i_si, if_neg (by simp), zq_i_si, if_neg (by simp), zq_i_si, if_neg (by simp), zq_i_si, if_neg (by simp), zq_i_si, if_pos ⟨rfl, rfl⟩]
      exact l2
    · rw [zq_i_si, if_neg (by simp), zq_i_si, if_neg (by simp), zq_i_si, if_neg (by simp), zq_i_si, if_pos ⟨rfl, rfl⟩]
  have rest : ∀ (x j : Int), zq_i (zq_si (zq_si (zq_si (zq_si (zq_si (zq_si S (237) (o : Int) x) (238) (o : Int) (zq_i S (252) (o : Int))) (239) (o : Int) (0)) (242) (o : Int) (0)) (243) (o : Int) (0)) (240) (o : Int) (0)) 232 j = zq_i S 232 j := fun x j => by
    rw [zq_i_si, if_neg (by simp), zq_i_si, if_neg (by simp), zq_i_si, if_neg (by simp), zq_i_si, if_neg (by simp), zq_i_si, if_neg (by simp), zq_i_si, if_neg (by simp)]
  cases hu : yh_u E o with
  | none =>
    refine zw_216 ⟨by omega, by omega⟩ ⟨ob, ?_⟩
    rw [if_neg (l0 hu)]
    refine ⟨ob, ob, ob, ob, ob, ob, ob, ob, k _ (six 0) (mI (six 0) (by rw [rest]; exact hm.2.2.1) (by rw [rest]; exact hm.2.2.2.1) (by rw [zq_i_at]; decide)) (by rw [rest]; exact h44) ⟨by rw [if_pos hu]; exact (vals 0).1, (vals 0).2.1, (vals 0).2.2, fun z => absurd hu z⟩⟩
  | some pg =>
    obtain ⟨p, g⟩ := pg
    obtain ⟨v1, v2, v3⟩ := l1 p g hu
    obtain ⟨st, hst⟩ := hend (by rw [hu]; simp)
    refine zw_216 ⟨by omega, by omega⟩ ⟨ob, ?_⟩
    rw [if_pos v1]
    refine ⟨ob, ob, ob, ob, ob, ob, ob, ob, ?_⟩
    obtain ⟨z1, z2, z3⟩ := vals 1
    have f1 := six 1
    have rest1 := rest 1
    have z240 : zq_i (zq_si (zq_si (zq_si (zq_si (zq_si (zq_si S (237) (o : Int) (1)) (238) (o : Int) (zq_i S (252) (o : Int))) (239) (o : Int) (0)) (242) (o : Int) (0)) (243) (o : Int) (0)) (240) (o : Int) (0)) 240 o = 0 := zq_i_at _ _ _ _
    generalize (zq_si (zq_si (zq_si (zq_si (zq_si (zq_si S (237) (o : Int) (1)) (238) (o : Int) (zq_i S (252) (o : Int))) (239) (o : Int) (0)) (242) (o : Int) (0)) (243) (o : Int) (0)) (240) (o : Int) (0)) = S1 at z1 z2 z3 f1 rest1 z240 ⊢
    have hm1 : ym_I S1 := mI f1 (by rw [rest1]; exact hm.2.2.1) (by rw [rest1]; exact hm.2.2.2.1) (by rw [z240]; decide)
    have i1 : ∀ b, b ≠ 232 → b ∉ yAo → b ∉ [237, 238, 239, 240, 241, 242, 243, 244] → zq_i S1 b = zq_i S b := fun b n1 n2 n3 => by
      funext j
      exact f1.1 b j n1 n2 (fun z => absurd (by simp at z ⊢; omega) n3) (fun z => absurd (by rw [z]; simp) n3) (fun z => absurd (by rw [z]; simp) n3)
    have c1of : ∀ {A B : zq_S}, zq_i B 232 3 = zq_i A 232 3 → zq_i B 234 = zq_i A 234 → ym_c A 1 = T → ym_c B 1 = T := fun {A B} e3 e4 h => by
      rw [← h]
      funext i
      unfold ym_c
      rw [e3, e4]
      rfl
    have hT1 : ym_c S1 1 = T := c1of (rest1 3) (i1 234 (by decide) (by decide) (by decide)) hT
    have hL1 : yRv S1 E := hL.cong (i1 250 (by decide) (by decide) (by decide)) (i1 251 (by decide) (by decide) (by decide)) (i1 252 (by decide) (by decide) (by decide))
    have nl1 : ym_nm S1 256 yNL := by
      unfold ym_nm
      rw [i1 256 (by decide) (by decide) (by decide)]
      exact nl
    refine ys_211 hb hC hT1 hL1 hE o1 o9 hu hm1 (by rw [rest1]; exact h44) nl1 (fun c q S2 e => ?_) (fun st2 q es0 S2 e hv f2 hm2 h442 hn hs => ?_)
    · rw [hst] at e
      cases e
    · rw [hst] at e
      have e : st = st2 := Sum.inr.inj e
      subst e
      rw [if_neg (by decide), if_neg (by decide)]
      have f12 : yTk o S S2 := f1.trans f2.Tk
      have hT2 : ym_c S2 1 = T := c1of (f2.f (by simp)) (f2.i (by simp) (by decide)) hT1
      have hL2 : yRv S2 E := hL1.cong (f2.i (by simp) (by decide)) (f2.i (by simp) (by decide)) (f2.i (by simp) (by decide))
      refine zq_have (fun hR2 => ?_)
      refine ys_212 hb hC hm2 hT2 hL2 hE o1 o9 hu (fun hv2 => ?_) (fun q2 es S3 hv2 hyv g3 hm3 h25 hq0 hmd hlen => ?_)
      · rw [hv] at hv2
        cases hv2
      · rw [hv] at hv2
        have hqq : (q, es0) = (q2, es) := Option.some.inj hv2
        have e1 : q = q2 := congrArg Prod.fst hqq
        have e2 : es0 = es := congrArg Prod.snd hqq
        subst e1
        subst e2
        rw [if_neg (by decide)]
        have f3 : ymf yJo yAo S2 S3 := g3.mono (by simp) (by simp)
        have f13 : yTk o S S3 := f12.trans f3.Tk
        have keep237 : ∀ b ∈ [237, 238, 239], zq_i S3 b o = zq_i S1 b o := fun b hb' => by
          have : b ≠ 232 ∧ b ∉ yAo := by simp at hb' ⊢; omega
          rw [f3.i this.2 this.1, f2.i this.2 this.1]
        refine ys_170 (by omega) hmd (by omega) (fun S4 g4 h240 h241 hs4 => ?_)
        have f34 : yTk o S3 S4 := ⟨fun b j a1 a2 a3 a4 a5 => g4 b j (fun z => a3 (by rw [z]; simp)) a4, fun j _ => g4 232 j (fun z => (by cases z)) (fun z => (by cases z)), hs4⟩
        have f14 := f13.trans f34
        have r4 : ∀ j : Int, zq_i S4 232 j = zq_i S3 232 j := fun j => g4 232 j (fun z => (by cases z)) (fun z => (by cases z))
        have h444 : zq_i S4 232 44 = 0 := by rw [r4, g3.f (by simp)]; exact h442
        have hm4 : ym_I S4 := mI f14 (by rw [r4]; exact hm3.2.2.1) (by rw [r4]; exact hm3.2.2.2.1) (by rw [h240]; omega)
        have c4 : ym_c S4 1 = T := c1of (by rw [r4, g3.f (by simp)]) (by funext j; rw [g4 234 j (fun z => (by cases z)) (fun z => (by cases z)), g3.i (by simp) (by decide)]) hT2
        have finish : ∀ S6 : zq_S, (∀ b, b ∉ [242, 243, 244] → zq_i S6 b = zq_i S4 b) → (∀ b (j : Int), (b = 242 ∨ b = 243) → j ≠ o → zq_i S6 b j = zq_i S4 b j) → (∀ j : Int, (j < 12 * o ∨ 12 * o + 12 ≤ j) → zq_i S6 244 j = zq_i S4 244 j) → S6.2 = S4.2 → zq_i S6 242 o = (if st = none then 0 else 1) → (st ≠ none → zq_i S6 243 o = (yh_c T E o).length ∧ yrow S6 244 (12 * o) (yh_c T E o)) → K S6 := fun S6 y1 y2 y3 y4 y5 y6 => by
          have f46 : yTk o S4 S6 := ⟨fun b j a1 a2 a3 a4 a5 => by
            by_cases h242 : b = 242 ∨ b = 243
            · exact y2 b j h242 (a3 (by simp; omega))
            · by_cases h244 : b = 244
              · rw [h244]; exact y3 j (a5 h244)
              · rw [y1 b (by simp; omega)], fun j _ => by rw [y1 232 (by decide)], y4⟩
          have e6 : ∀ b, b ∉ [242, 243, 244] → zq_i S6 b = zq_i S4 b := y1
          have k7 : ∀ b ∈ [237, 238, 239], zq_i S6 b o = zq_i S1 b o := fun b hb' => by
            have : b = 237 ∨ b = 238 ∨ b = 239 := by simpa using hb'
            rw [e6 b (by simp; omega), g4 b o (fun z => by omega) (fun z => by omega)]
            exact keep237 b hb'
          refine k S6 (f14.trans f46) (mI (f14.trans f46) (by rw [e6 232 (by decide), r4]; exact hm3.2.2.1) (by rw [e6 232 (by decide), r4]; exact hm3.2.2.2.1) (by rw [e6 240 (by decide), h240]; omega)) (by rw [e6 232 (by decide)]; exact h444) ⟨by rw [k7 237 (by simp), z1, if_neg (by rw [hu]; simp)], by rw [k7 238 (by simp)]; exact z2, by rw [k7 239 (by simp)]; exact z3, fun _ => ⟨st, q, es0, hst, hv, by rw [e6 240 (by decide)]; exact h240, h241.cong (e6 241 (by decide)), y5, y6⟩⟩
        cases st with
        | none =>
          rw [hn rfl, if_pos (by decide)]
          refine ⟨ob, zw_216_142 ⟨by omega, by omega⟩ (Or.inr rfl) (hR2.1 _ _) ⟨by decide, by decide⟩ ⟨by decide, by decide⟩ ?_⟩
          rw [if_neg (by decide), if_pos (by decide)]
          refine ⟨ob, finish _ (fun b hb' => ?_) (fun b j hb' hj => ?_) (fun j hj => ?_) rfl ?_ (fun z => absurd rfl z)⟩
          · have : b ≠ 243 ∧ b ≠ 242 ∧ b ≠ 244 := by simp at hb'; omega
            funext j
            rw [zq_i_si, if_neg (fun z => this.1 z.1), zq_i_si, if_neg (fun z => this.2.1 z.1)]
          · rw [zq_i_si, if_neg (fun z => hj z.2), zq_i_si, if_neg (fun z => hj z.2)]
          · rw [zq_i_si, if_neg (by simp), zq_i_si, if_neg (by simp)]
          · rw [zq_i_si, if_neg (by simp), zq_i_si, if_pos ⟨rfl, rfl⟩, if_pos rfl]
        | some n =>
          obtain ⟨⟨n0, n12⟩, qb, hct, h27, h25n⟩ := hs n rfl
          rw [h27, h25n, if_neg (by omega)]
          obtain ⟨nn, hnn⟩ : ∃ nn : Nat, n = nn := ⟨n.toNat, by omega⟩
          subst hnn
          have ec : yh_c T E o = (List.range nn).map (fun i : Nat => T (q + 8 + (i : Int))) := by
            unfold yh_c
            rw [hv, hst]
            show (List.range ((nn : Nat) : Int).toNat).map (fun i : Nat => T (q + 8 + (i : Int))) = _
            rw [show ((nn : Nat) : Int).toNat = nn by omega]
          have loop : ∀ (m i : Nat) (S' : zq_S), i + m = nn → (∀ b, b ∉ [242, 244] → zq_i S' b = zq_i S4 b) → (∀ j : Int, j ≠ o → zq_i S' 242 j = zq_i S4 242 j) → zq_i S' 242 o = 1 → (∀ j : Int, (j < 12 * o ∨ 12 * o + 12 ≤ j) → zq_i S' 244 j = zq_i S4 244 j) → S'.2 = S4.2 → (∀ k : Nat, k < i → zq_i S' 244 (12 * o + k) = T (q + 8 + k)) → zq_Ex X 216 142 [(.ref (232)), (zq_vi (o : Int)), (zq_vi (1)), (zq_vi (q + 8)), (zq_vi (nn : Int)), (zq_vi (i : Int))] [] S' (zq_rv K) := by
            intro m
            induction m with
            | zero =>
              intro i S' hi y1 y2 y3 y4 y5 y6
              refine zw_216_142 ⟨by omega, by omega⟩ (Or.inr rfl) ⟨by omega, by omega⟩ ⟨by omega, by omega⟩ ⟨by omega, by omega⟩ ?_
              rw [if_neg (by omega)]
              have fin : ∀ v : Int, v = nn → K (zq_si S' 243 (o : Int) v) := fun v hv' => by
                refine finish _ (fun b hb' => ?_) (fun b j hb' hj => ?_) (fun j hj => ?_) y5 ?_ (fun _ => ⟨?_, fun i' hi' => ?_⟩)
                · have : b ≠ 243 ∧ b ≠ 242 ∧ b ≠ 244 := by simp at hb'; omega
                  rw [← y1 b (by simp; omega)]
                  funext j
                  rw [zq_i_si, if_neg (fun z => this.1 z.1)]
                · rw [zq_i_si, if_neg (fun z => hj z.2)]
                  rcases hb' with z | z
                  · rw [z]; exact y2 j hj
                  · rw [y1 b (by simp; omega)]
                · rw [zq_i_si, if_neg (by simp)]
                  exact y4 j hj
                · rw [zq_i_si, if_neg (by simp), y3, if_neg (by simp)]
                · rw [zq_i_si, if_pos ⟨rfl, rfl⟩, hv', ec]
                  simp
                · rw [ec] at hi' ⊢
                  simp at hi'
                  rw [zq_i_si, if_neg (by simp), y6 i' (by omega)]
                  simp [List.getD_eq_getElem?_getD, List.getElem?_map, List.getElem?_range hi']
              exact yl_if (fun hz => ⟨ob, fin 0 (by omega)⟩) (fun hz => ⟨ob, fin nn rfl⟩)
            | succ m ih =>
              intro i S' hi y1 y2 y3 y4 y5 y6
              refine zw_216_142 ⟨by omega, by omega⟩ (Or.inr rfl) ⟨by omega, by omega⟩ ⟨by omega, by omega⟩ ⟨by omega, by omega⟩ ?_
              rw [if_pos (by omega), show (i : Int) + 1 = ((i + 1 : Nat) : Int) by omega]
              have hmS : ym_I S' := hm4.cong (fun j _ => by rw [y1 232 (by decide)]) (y1 240 (by decide))
              have hTS : ym_c S' 1 = T := c1of (by rw [y1 232 (by decide)]) (y1 234 (by decide)) c4
              refine ys_147 hmS hq ⟨by omega, by omega⟩ ?_
              rw [hTS]
              refine ⟨⟨by omega, by omega⟩, ih (i + 1) _ (by omega) (fun b hb' => ?_) (fun j hj => ?_) ?_ (fun j hj => ?_) y5 (fun k' hk' => ?_)⟩
              · rw [← y1 b hb']
                funext j
                rw [zq_i_si, if_neg (fun z => hb' (by rw [z.1]; simp))]
              · rw [zq_i_si, if_neg (by simp)]
                exact y2 j hj
              · rw [zq_i_si, if_neg (by simp)]
                exact y3
              · rw [zq_i_si, if_neg (fun z => by have := z.2; omega)]
                exact y4 j hj
              · rw [zq_i_si]
                by_cases e : k' = i
                · rw [if_pos ⟨rfl, by rw [e]⟩, e]
                · rw [if_neg (fun z => e (by have := z.2; omega))]
                  exact y6 k' (by omega)
          refine ⟨ob, loop nn 0 _ (by omega) (fun b hb' => ?_) (fun j hj => ?_) (zq_i_at _ _ _ _) (fun j hj => ?_) rfl (fun k' hk' => by omega)⟩
          · funext j
            rw [zq_i_si, if_neg (fun z => hb' (by rw [z.1]; simp))]
          · rw [zq_i_si, if_neg (fun z => hj z.2)]
          · rw [zq_i_si, if_neg (by simp)]
end YLH8
