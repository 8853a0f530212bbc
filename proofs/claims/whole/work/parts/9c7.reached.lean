/-! what can be reached: the reference; the law's case reached -/
def yo_R (s : zq_S) (ev : Nat → List ye_E) : Prop := ∀ n : Nat, 1 ≤ n → n ≤ 9 → zq_i s 237 n ≠ 0 → ye_oks (ev n) ∧ yp_T6 (ym_c s (10 + n)) ∧ ye_su (ym_c s (10 + n)) 0 true (ev n) ∧ zq_i s 240 n = (ye_pr true (ev n)).length
set_option maxRecDepth 100000 in
theorem yI.yo_R {s : zq_S} {dr fl : List Int} {ev : Nat → List ye_E} {ct : Nat → List Int} {F t : Nat} (hI : yI s (dr, fl, ev, ct, F, t)) : yo_R s ev := fun n h1 h9 hu => by
  have a4 : yI_tab s t ev ct := hI.2.2.2.1
  have hu1 : zq_i s 237 n = 1 := by
    obtain ⟨d1, d2, _⟩ := a4 n h1 h9
    rw [d2] at d1
    rcases d1.1 with w | w
    · exact absurd w hu
    · exact w
  obtain ⟨tr, b1, b2, b3, b4, b5, b6⟩ := hI.obj h9 (fun _ => hu1)
  have h500 := hI.2.2.2.2.2.2.2.2.2.2.2 n (by omega) (by omega)
  refine ⟨b4.2.1.oks, fun j hj => ?_, yob_su b5 b6, b5⟩
  unfold ym_c
  rw [if_neg (by omega), if_neg (by omega), if_neg (by omega), if_neg (by omega), if_neg (by omega), if_neg (by rw [show (10 : Int) + (n : Int) - 10 = n by omega]; omega)]
set_option maxRecDepth 100000 in
theorem yo_R.cong {s S : zq_S} {ev : Nat → List ye_E} (h : yo_R s ev) (h1 : zq_i S 237 = zq_i s 237) (h2 : zq_i S 240 = zq_i s 240) (h3 : zq_i S 241 = zq_i s 241) : yo_R S ev := fun n n1 n9 hu => by
  rw [ym_c_o h2 h3, h2]
  exact h n n1 n9 (by rw [← h1]; exact hu)
set_option maxRecDepth 100000 in
theorem yo_cong {s S : zq_S} (h1 : zq_i S 237 = zq_i s 237) (h2 : zq_i S 238 = zq_i s 238) : ∀ es : List ye_E, yo S es = yo s es
  | [] => rfl
  | .inl d :: es => by
    have e : yz_to S d = yz_to s d := by
      unfold yz_to ym_me ym_us
      rw [h1, h2]
    show (if d.1 = 8 ∧ yz_to S d ≠ 0 then 2 ^ yz_to S d else 0) ||| yo S es = (if d.1 = 8 ∧ yz_to s d ≠ 0 then 2 ^ yz_to s d else 0) ||| yo s es
    rw [e, yo_cong h1 h2 es]
  | .inr k :: es => yo_cong h1 h2 es
set_option maxRecDepth 100000 in
theorem yoR_cong {s S : zq_S} {ev : Nat → List ye_E} (h1 : zq_i S 237 = zq_i s 237) (h2 : zq_i S 238 = zq_i s 238) (m : Nat) : ∀ k i, yoR S ev m k i = yoR s ev m k i
  | 0, _ => rfl
  | k + 1, i => by
    show (if m.testBit (i + 1) = true then yo S (ev (i + 1)) else 0) ||| yoR S ev m k (i + 1) = (if m.testBit (i + 1) = true then yo s (ev (i + 1)) else 0) ||| yoR s ev m k (i + 1)
    rw [yo_cong h1 h2, yoR_cong h1 h2 m k]
set_option maxRecDepth 100000 in
theorem yoI_cong {s S : zq_S} {ev : Nat → List ye_E} (h1 : zq_i S 237 = zq_i s 237) (h2 : zq_i S 238 = zq_i s 238) : ∀ k m, yoI S ev k m = yoI s ev k m
  | 0, _ => rfl
  | k + 1, m => by
    show yoI S ev k (m ||| yoR S ev m 9 0) = yoI s ev k (m ||| yoR s ev m 9 0)
    rw [yoR_cong h1 h2 m, yoI_cong h1 h2 k]
def ycn (m : Nat) : Nat → Nat → Nat
  | 0, _ => 0
  | k + 1, j => (if m.testBit j = true then 1 else 0) + ycn m k (j + 1)
set_option maxRecDepth 100000 in
theorem ycn_bc : ∀ m : Nat, m < 1024 → m.testBit 0 = false → ycn m 9 1 = ybc m := by decide +kernel
set_option maxRecDepth 100000 in
theorem ycn_le (m : Nat) : ∀ k j, ycn m k j ≤ k
  | 0, _ => Nat.le_refl _
  | k + 1, j => by
    have := ycn_le m k (j + 1)
    show (if m.testBit j = true then 1 else 0) + ycn m k (j + 1) ≤ k + 1
    split <;> omega
def yw_inv (s : zq_S) (ev : Nat → List ye_E) (C fm mm : Nat) : Prop := yog s fm ∧ (mm < 1024 ∧ mm.testBit 0 = false) ∧ (∀ n, mm.testBit n = true → fm.testBit n = true) ∧ (∀ n, mm.testBit n = true → ∀ x, (yo s (ev n)).testBit x = true → fm.testBit x = true) ∧ (∀ x, fm.testBit x = true → C.testBit x = true) ∧ (∀ x, (yo0 s).testBit x = true → fm.testBit x = true)
section YLC7
variable {X : Nat × (Nat → Int32)}
set_option maxRecDepth 100000 in
theorem ys_186_121 {S : zq_S} {K : Int → zq_S → Prop} {fm : Nat} (hf : yfr S 255 fm) : ∀ (k j c : Nat), j + k = 10 → c + k ≤ 100 → K ((c + ycn fm k j : Nat) : Int) S → zq_Ex X 186 121 [.ref 232, zq_vi 0, zq_vi (c : Int), zq_vi (j : Int)] [] S (zq_rp zq_iv K)
  | 0, j, c, hj, hc, kk => by
    refine zw_186_121 (Or.inl rfl) ⟨by omega, by omega⟩ ⟨by omega, by omega⟩ ?_
    rw [if_neg (by omega)]
    exact kk
  | k + 1, j, c, hj, hc, kk => by
    refine zw_186_121 (Or.inl rfl) ⟨by omega, by omega⟩ ⟨by omega, by omega⟩ ?_
    rw [if_pos (by omega), hf j (by omega)]
    refine ⟨⟨by omega, by omega⟩, ?_⟩
    have e : c + ycn fm (k + 1) j = (c + (if fm.testBit j = true then 1 else 0)) + ycn fm k (j + 1) := by
      show c + ((if fm.testBit j = true then 1 else 0) + ycn fm k (j + 1)) = _
      omega
    rw [e] at kk
    by_cases hb : fm.testBit j = true
    · rw [if_pos hb] at kk
      rw [if_neg (by rw [if_pos hb]; decide), show (c : Int) + 1 = ((c + 1 : Nat) : Int) by omega, show (j : Int) + 1 = ((j + 1 : Nat) : Int) by omega]
      exact ys_186_121 hf k (j + 1) (c + 1) (by omega) (by omega) kk
    · rw [if_neg hb] at kk
      rw [if_pos (by rw [if_neg hb]), show (c : Int) + 0 = ((c + 0 : Nat) : Int) by omega, show (j : Int) + 1 = ((j + 1 : Nat) : Int) by omega]
      exact ys_186_121 hf k (j + 1) (c + 0) (by omega) (by omega) kk
set_option maxRecDepth 100000 in
/-- a pass over all objects -/
theorem ys_186_70 {s : zq_S} {ev : Nat → List ye_E} {C : Nat} (hmI : ym_I s) (hR : yo_R s ev) (hC : ∀ x, (yoA s ev C).testBit x = true → C.testBit x = true) {K : Int → zq_S → Prop} {mm0 : Nat}
    (cont : ∀ (S : zq_S) (fm mm : Nat) (b : Bool) (v3 : Value), v3.category = 1 → ymf [] [254, 255] s S → yfr S 255 fm → yfr S 254 mm → yw_inv s ev C fm mm → (b = false → ∀ n, 1 ≤ n → n < 10 → fm.testBit n = true → mm.testBit n = true) → (b = true → ybc mm0 + 1 ≤ ybc mm) → zq_Ex X 186 62 [.ref 232, zq_vi (yb b), zq_vi 10, v3] [] S (zq_rp zq_iv K)) :
    ∀ (k j : Nat) (S : zq_S) (fm mm : Nat) (b : Bool) (v3 : Value), v3.category = 1 → j + k = 10 → 1 ≤ j → ymf [] [254, 255] s S → yfr S 255 fm → yfr S 254 mm → yw_inv s ev C fm mm → (b = false → ∀ n, 1 ≤ n → n < j → fm.testBit n = true → mm.testBit n = true) → ybc mm0 ≤ ybc mm → (b = true → ybc mm0 + 1 ≤ ybc mm) → zq_Ex X 186 70 [.ref 232, zq_vi (yb b), zq_vi (j : Int), v3] [] S (zq_rp zq_iv K)
  | 0, j, S, fm, mm, b, v3, h3, hj, j1, fr, hf, hm, hi, hb0, hle, hb1 => by
    have hj : j = 10 := by omega
    subst hj
    refine zw_186_70 (yb_bo b) ⟨by omega, by omega⟩ h3 ?_
    rw [if_neg (by omega)]
    exact cont S fm mm b v3 h3 fr hf hm hi hb0 hb1
  | k + 1, j, S, fm, mm, b, v3, h3, hj, j1, fr, hf, hm, hi, hb0, hle, hb1 => by
    refine zw_186_70 (yb_bo b) ⟨by omega, by omega⟩ h3 ?_
    rw [if_pos (by omega), hf j (by omega), hm j (by omega)]
    have next := ys_186_70 hmI hR hC cont k (j + 1)
    rw [show (j : Int) + 1 = ((j + 1 : Nat) : Int) by omega]
    refine ⟨⟨by omega, by omega⟩, yl_if (fun hz => ?_) (fun hz => ⟨⟨by omega, by omega⟩, yl_if (fun hy => ⟨⟨by omega, by omega⟩, ?_⟩) (fun hy => ?_)⟩)⟩
    · have hz : ¬ fm.testBit j = true := fun z => by rw [if_pos z] at hz; cases hz
      refine next S fm mm b v3 h3 (by omega) (by omega) fr hf hm hi (fun e n n1 n2 n3 => ?_) hle hb1
      by_cases hnj : n = j
      · rw [hnj] at n3; exact absurd n3 hz
      · exact hb0 e n n1 (by omega) n3
    · have hz : fm.testBit j = true := by
        cases hb : fm.testBit j with
        | true => rfl
        | false => rw [hb] at hz; exact absurd rfl hz
      have hy : mm.testBit j = false := by
        cases hb : mm.testBit j with
        | false => rfl
        | true => rw [hb, if_pos rfl] at hy; cases hy
      obtain ⟨i1, i2, i3, i4, i5, i6⟩ := hi
      have hu := (i1.2 j hz).2.2
      obtain ⟨R1, R2, R3, R4⟩ := hR j j1 (by omega) hu
      have fr1 : ymf [] [254, 255] s (zq_si S 254 j 1) := fr.trans (ymf.si (by simp) (by decide))
      have e240 : zq_i (zq_si S 254 j 1) 240 = zq_i s 240 := fr1.i (by decide) (by decide)
      have hTS : ym_c (zq_si S 254 j 1) (10 + j) = ym_c s (10 + j) := ym_c_o e240 (fr1.i (by decide) (by decide))
      have hmS : ym_I (zq_si S 254 j 1) := hmI.cong (fun i _ => fr1.f (by simp)) e240
      have eyo : yo (zq_si S 254 j 1) (ev j) = yo s (ev j) := yo_cong (fr1.i (by decide) (by decide)) (fr1.i (by decide) (by decide)) _
      have hf1 : yfr (zq_si S 254 j 1) 255 fm := fun i hi => by
        rw [zq_i_si, if_neg (fun z => absurd z.1 (by decide))]
        exact hf i hi
      have hgo := yo_g s (ev j)
      refine ys_188 (s := zq_si S 254 j 1) (es := ev j) hmS (by omega) (by rw [hTS]; exact R2) R1 (by rw [hTS]; exact R3) (by rw [e240]; exact R4) (ymf.refl _ _ _) hf1 i1.1 (fun S2 f2 hf2 => ?_)
      rw [eyo] at hf2
      have fr2 : ymf [] [254, 255] s S2 := fr1.trans (f2.mono (by simp) (by simp))
      have hm2 : yfr S2 254 (mm ||| 2 ^ j) := fun i hi => by
        rw [f2.i (by decide) (by decide), zq_i_si, ybit_or]
        by_cases e : i = j
        · subst e
          rw [if_pos ⟨rfl, rfl⟩]
          simp
        · rw [if_neg (fun z => e (by have := z.2; omega)), hm i hi, decide_eq_false (fun z => e z.symm), Bool.or_false]
      have hset := ybit_set mm i2.1 j (by omega)
      have hcnt := ybit_cnt mm i2.1 j (by omega) hy
      have hb' : (1 : Int) = yb true := rfl
      rw [hb']
      refine next S2 (fm ||| yo s (ev j)) (mm ||| 2 ^ j) true v3 h3 (by omega) (by omega) fr2 hf2 hm2 ⟨yog_or i1 hgo, ⟨hset.2, ?_⟩, fun n hn => ?_, fun n hn x hx => ?_, fun x hx => ?_, fun x hx => ?_⟩ (fun e => (by cases e)) (by omega) (fun _ => by omega)
      · rw [ybit_or, i2.2, decide_eq_false (by omega)]
        rfl
      · rw [Nat.testBit_or, Bool.or_eq_true]
        rw [ybit_or, Bool.or_eq_true] at hn
        rcases hn with z | z
        · exact Or.inl (i3 n z)
        · have : j = n := of_decide_eq_true z
          rw [← this]
          exact Or.inl hz
      · rw [Nat.testBit_or, Bool.or_eq_true]
        rw [ybit_or, Bool.or_eq_true] at hn
        rcases hn with z | z
        · exact Or.inl (i4 n z x hx)
        · have : j = n := of_decide_eq_true z
          rw [← this] at hx
          exact Or.inr hx
      · rw [Nat.testBit_or, Bool.or_eq_true] at hx
        rcases hx with z | z
        · exact i5 x z
        · exact hC x (yoA_bit.mpr ⟨j, j1, by omega, i5 j hz, z⟩)
      · rw [Nat.testBit_or, i6 x hx]
        rfl
    · have hy : mm.testBit j = true := by
        cases hb : mm.testBit j with
        | true => rfl
        | false => rw [hb] at hy; exact absurd rfl hy
      refine next S fm mm b v3 h3 (by omega) (by omega) fr hf hm hi (fun e n n1 n2 n3 => ?_) hle hb1
      by_cases hnj : n = j
      · rw [hnj]; exact hy
      · exact hb0 e n n1 (by omega) n3
set_option maxRecDepth 100000 in
theorem ys_186_62 {s : zq_S} {ev : Nat → List ye_E} {C : Nat} (hmI : ym_I s) (hR : yo_R s ev) (hCg : yog s C) (hCe : C = yoI s ev 9 (yo0 s)) (hC : ∀ x, (yoA s ev C).testBit x = true → C.testBit x = true) {K : Int → zq_S → Prop} (kk : ∀ S', ymf [] [254, 255] s S' → yfr S' 255 C → K (ybc C : Nat) S') : ∀ (f : Nat) (S : zq_S) (fm mm : Nat) (v2 v3 : Value), v2.category = 1 → v3.category = 1 → 10 ≤ ybc mm + f → ymf [] [254, 255] s S → yfr S 255 fm → yfr S 254 mm → yw_inv s ev C fm mm → zq_Ex X 186 62 [.ref 232, zq_vi 1, v2, v3] [] S (zq_rp zq_iv K)
  | 0, S, fm, mm, v2, v3, h2, h3, hc, fr, hf, hm, hi => by
    exfalso
    have := ybit_le mm hi.2.1.1 hi.2.1.2
    omega
  | f + 1, S, fm, mm, v2, v3, h2, h3, hc, fr, hf, hm, hi => by
    refine zw_186_62 (Or.inr rfl) h2 h3 ?_
    rw [if_neg (by decide)]
    refine ys_186_70 (mm0 := mm) hmI hR hC (fun S' fm' mm' b w3 g3 fr' hf' hm' hi' hb0 hb1 => ?_) 9 1 S fm mm false v3 h3 (by omega) (by omega) fr hf hm hi (fun _ n n1 n2 => by omega) (Nat.le_refl _) (fun e => (by cases e))
    cases b with
    | true => exact ys_186_62 hmI hR hCg hCe hC kk f S' fm' mm' _ w3 rfl g3 (by have := hb1 rfl; omega) fr' hf' hm' hi'
    | false =>
      obtain ⟨i1, i2, i3, i4, i5, i6⟩ := hi'
      have hcl : ∀ x, (yoA s ev fm').testBit x = true → fm'.testBit x = true := fun x hx => by
        obtain ⟨n, n1, n2, n3, n4⟩ := yoA_bit.mp hx
        exact i4 n (hb0 rfl n n1 (by omega) n3) x n4
      have hsub := yoI_sub hcl 9 (yo0 s) i6
      rw [← hCe] at hsub
      have e : fm' = C := Nat.eq_of_testBit_eq fun i => by
        cases h1 : fm'.testBit i with
        | true => exact (i5 i h1).symm
        | false =>
          cases h2 : C.testBit i with
          | false => rfl
          | true => rw [hsub i h2] at h1; cases h1
      subst e
      refine zw_186_62 (Or.inl rfl) rfl g3 ?_
      rw [if_pos rfl]
      have b0 : fm'.testBit 0 = false := by
        cases hb : fm'.testBit 0 with
        | false => rfl
        | true => have := (i1.2 0 hb).1; omega
      refine ys_186_121 hf' 9 1 0 (by omega) (by omega) ?_
      rw [Nat.zero_add, ycn_bc fm' i1.1 b0]
      exact kk S' fr' hf'
set_option maxRecDepth 100000 in
theorem ys_186_2 {s : zq_S} {K : Int → zq_S → Prop} (kk : ∀ S', ymf [] [254, 255] s S' → yfr S' 255 0 → yfr S' 254 0 → ∀ v2 v3 : Value, v2.category = 1 → v3.category = 1 → (if zq_i S' (232) (17) ≤ 0 then zq_Ex X 186 62 [(.ref (232)), (zq_vi (1)), v2, v3] [] S' (zq_rp zq_iv K) else (zq_Ex X 187 0 [(.ref (232)), (zq_vi (zq_i S' (232) (17))), (zq_vi (zq_i S' (232) (18)))] [] S' (zq_rp zq_bo fun x_5 s_4 => (if x_5 = 0 then zq_Ex X 186 62 [(.ref (232)), (zq_vi (1)), v2, v3] [] s_4 (zq_rp zq_iv K) else (((0 : Int) ≤ zq_i s_4 (232) (17) ∧ zq_i s_4 (232) (17) < (10 : Int)) ∧ zq_Ex X 186 62 [(.ref (232)), (zq_vi (1)), v2, v3] [] (zq_si s_4 (255) (zq_i s_4 (232) (17)) (1)) (zq_rp zq_iv K))))))) : ∀ (k j : Nat) (S : zq_S) (v2 v3 : Value), v2.category = 1 → v3.category = 1 → j + k = 10 → ymf [] [254, 255] s S → (∀ i : Nat, i < j → zq_i S 255 i = 0 ∧ zq_i S 254 i = 0) → zq_Ex X 186 2 [.ref 232, zq_vi (j : Int), v2, v3] [] S (zq_rp zq_iv K)
  | 0, j, S, v2, v3, h2, h3, hj, fr, hz => by
    refine zw_186_2 ⟨by omega, by omega⟩ h2 h3 ?_
    rw [if_neg (by omega)]
    exact kk S fr (fun i hi => by rw [(hz i (by omega)).1, Nat.zero_testBit]; rfl) (fun i hi => by rw [(hz i (by omega)).2, Nat.zero_testBit]; rfl) v2 v3 h2 h3
  | k + 1, j, S, v2, v3, h2, h3, hj, fr, hz => by
    refine zw_186_2 ⟨by omega, by omega⟩ h2 h3 ?_
    rw [if_pos (by omega), show (j : Int) + 1 = ((j + 1 : Nat) : Int) by omega]
    refine ⟨⟨by omega, by omega⟩, ⟨by omega, by omega⟩, ys_186_2 kk k (j + 1) _ v2 v3 h2 h3 (by omega) (fr.trans ((ymf.si (by simp) (by decide)).trans (ymf.si (by simp) (by decide)))) (fun i hi => ?_)⟩
    by_cases e : i = j
    · subst e
      refine ⟨?_, zq_i_at _ _ _ _⟩
      rw [zq_i_si, if_neg (fun z => absurd z.1 (by decide)), zq_i_at]
    · refine ⟨?_, ?_⟩
      · rw [zq_i_si, if_neg (fun z => absurd z.1 (by decide)), zq_i_si, if_neg (fun z => e (by have := z.2; omega))]
        exact (hz i (by omega)).1
      · rw [zq_i_si, if_neg (fun z => e (by have := z.2; omega)), zq_i_si, if_neg (fun z => absurd z.1 (by decide))]
        exact (hz i (by omega)).2
set_option maxRecDepth 100000 in
theorem ys_186 {s : zq_S} {ev : Nat → List ye_E} (hmI : ym_I s) (hR : yo_R s ev) (r0 : 0 ≤ zq_i s 232 17) (r9 : zq_i s 232 17 ≤ 9) (g0 : 0 ≤ zq_i s 232 18) (g9 : zq_i s 232 18 ≤ 9) {K : Int → zq_S → Prop} (kk : ∀ S', ymf [] [254, 255] s S' → yfr S' 255 (yoI s ev 9 (yo0 s)) → K (ybc (yoI s ev 9 (yo0 s)) : Nat) S') : zq_Ex X 186 0 [.ref 232, zz_no, zz_no, zz_no] [] s (zq_rp zq_iv K) := by
  have hg := yo0_g s
  have hCg := yoI_g (ev := ev) 9 (yo0 s) hg
  have hcl := yoI_closed (ev := ev) hg
  have hC : ∀ x, (yoA s ev (yoI s ev 9 (yo0 s))).testBit x = true → (yoI s ev 9 (yo0 s)).testBit x = true := fun x hx => by
    rw [← hcl, Nat.testBit_or, hx, Bool.or_true]
  have hsup := yoI_sup (s := s) (ev := ev) 9 (yo0 s)
  have b0 : (0 : Nat).testBit 0 = false := rfl
  have go : ∀ (S : zq_S) (v2 v3 : Value), v2.category = 1 → v3.category = 1 → ymf [] [254, 255] s S → yfr S 255 (yo0 s) → yfr S 254 0 → zq_Ex X 186 62 [.ref 232, zq_vi 1, v2, v3] [] S (zq_rp zq_iv K) := fun S v2 v3 h2 h3 fr hf hm =>
    ys_186_62 hmI hR hCg rfl hC kk 10 S (yo0 s) 0 v2 v3 h2 h3 (by omega) fr hf hm ⟨hg, ⟨by decide, rfl⟩, fun n hn => (by rw [Nat.zero_testBit] at hn; cases hn), fun n hn => (by rw [Nat.zero_testBit] at hn; cases hn), hsup, fun x hx => hx⟩
  refine zw_186 (ys_186_2 (s := s) (fun S fr hf hm v2 v3 h2 h3 => ?_) 10 0 s _ _ rfl rfl (by omega) (ymf.refl _ _ _) (fun i hi => by cases hi))
  have e17 : zq_i S 232 17 = zq_i s 232 17 := fr.f (by simp)
  have e18 : zq_i S 232 18 = zq_i s 232 18 := fr.f (by simp)
  rw [e17, e18]
  refine yl_if (fun hz => ?_) (fun hz => ?_)
  · have e0 : yo0 s = 0 := by
      unfold yo0
      rw [if_neg (fun z => by have := (ym_me_iff.mp z).1.1; omega)]
    exact go S v2 v3 h2 h3 fr (by rw [e0]; exact hf) hm
  · refine ys_187 ⟨by omega, by omega⟩ ⟨by omega, by omega⟩ ?_
    have eme : ym_me S (zq_i s 232 17) (zq_i s 232 18) = ym_me s (zq_i s 232 17) (zq_i s 232 18) := by
      unfold ym_me ym_us
      rw [fr.i (b := 237) (by decide) (by decide), fr.i (b := 238) (by decide) (by decide)]
    rw [eme, e17]
    cases hme : ym_me s (zq_i s 232 17) (zq_i s 232 18) with
    | false =>
      rw [if_pos (show yb false = 0 from rfl)]
      have e0 : yo0 s = 0 := by unfold yo0; rw [hme]; rfl
      exact go S v2 v3 h2 h3 fr (by rw [e0]; exact hf) hm
    | true =>
      rw [if_neg (show ¬ yb true = 0 by decide)]
      have e0 : yo0 s = 2 ^ (zq_i s 232 17).toNat := by unfold yo0; rw [hme]; rfl
      refine ⟨⟨by omega, by omega⟩, go _ v2 v3 h2 h3 (fr.trans (ymf.si (by simp) (by decide))) (fun i hi => ?_) (fun i hi => ?_)⟩
      · rw [zq_i_si, e0, Nat.testBit_two_pow]
        by_cases e : (zq_i s 232 17).toNat = i
        · rw [if_pos ⟨rfl, by omega⟩, decide_eq_true e]
          rfl
        · rw [if_neg (fun z => e (by have := z.2; omega)), hf i hi, decide_eq_false e, Nat.zero_testBit]
      · rw [zq_i_si, if_neg (fun z => absurd z.1 (by decide))]
        exact hm i hi
set_option maxRecDepth 100000 in
theorem ys_37c : ∀ m : Nat, m < 1024 → (fun x0 : Int => zq_and (((zq_and (((zq_and (x0 - (zq_and (zq_ush (x0) (1)) (1431655765))) (858993459)) + (zq_and (zq_ush (x0 - (zq_and (zq_ush (x0) (1)) (1431655765))) (2)) (858993459))) + (zq_ush ((zq_and (x0 - (zq_and (zq_ush (x0) (1)) (1431655765))) (858993459)) + (zq_and (zq_ush (x0 - (zq_and (zq_ush (x0) (1)) (1431655765))) (2)) (858993459))) (4))) (252645135)) + (zq_ush (zq_and (((zq_and (x0 - (zq_and (zq_ush (x0) (1)) (1431655765))) (858993459)) + (zq_and (zq_ush (x0 - (zq_and (zq_ush (x0) (1)) (1431655765))) (2)) (858993459))) + (zq_ush ((zq_and (x0 - (zq_and (zq_ush (x0) (1)) (1431655765))) (858993459)) + (zq_and (zq_ush (x0 - (zq_and (zq_ush (x0) (1)) (1431655765))) (2)) (858993459))) (4))) (252645135)) (8))) + (zq_ush ((zq_and (((zq_and (x0 - (zq_and (zq_ush (x0) (1)) (1431655765))) (858993459)) + (zq_and (zq_ush (x0 - (zq_and (zq_ush (x0) (1)) (1431655765))) (2)) (858993459))) + (zq_ush ((zq_and (x0 - (zq_and (zq_ush (x0) (1)) (1431655765))) (858993459)) + (zq_and (zq_ush (x0 - (zq_and (zq_ush (x0) (1)) (1431655765))) (2)) (858993459))) (4))) (252645135)) + (zq_ush (zq_and (((zq_and (x0 - (zq_and (zq_ush (x0) (1)) (1431655765))) (858993459)) + (zq_and (zq_ush (x0 - (zq_and (zq_ush (x0) (1)) (1431655765))) (2)) (858993459))) + (zq_ush ((zq_and (x0 - (zq_and (zq_ush (x0) (1)) (1431655765))) (858993459)) + (zq_and (zq_ush (x0 - (zq_and (zq_ush (x0) (1)) (1431655765))) (2)) (858993459))) (4))) (252645135)) (8))) (16))) (63)) m = (ybc m : Nat) := by decide +kernel
set_option maxRecDepth 100000 in
theorem ys_37 {s : zq_S} {K : Int → zq_S → Prop} {m : Nat} (hm : m < 1024) (k : K (ybc m : Nat) s) : zq_Ex X 37 0 [zq_vi (m : Int)] [] s (zq_rp zq_iv K) := zw_37 ⟨by omega, by omega⟩ (by
  have := ys_37c m hm
  rw [← this] at k
  exact k)
set_option maxRecDepth 100000 in
theorem yl_954 (hX : X.1 ≤ 1536) : yl_C X 954 := fun s A m v5 v6 h5 h6 hI hm hmX next => by
  obtain ⟨dr, fl, ev, ct, F, t⟩ := A
  have t5 : zq_r s 0 8 = some t := hI.2.1.2.2.2.2.1
  obtain ⟨_, _, _, _, _, _, _, _, t9, t10, t11, t12⟩ := hI.2.1
  have hmI : ym_I s := hI.2.2.2.2.2.2.2
  have hg := yo0_g s
  have hCg := yoI_g (ev := ev) 9 (yo0 s) hg
  refine zw_0_954 ⟨by omega, by omega⟩ h5 h6 (zw_30 ⟨t, t5, ys_31 hI (ys_37 hCg.1 (zw_231 ?_))⟩)
  refine yl_if (fun hz => ?_) (fun hz => ?_)
  · have e0 : yo0 s = 0 := by
      unfold yo0
      rw [if_neg (fun z => by have := (ym_me_iff.mp z).1.1; omega)]
    have hcl := yoI_closed (ev := ev) hg
    have ec : yoI s ev 9 (yo0 s) = 0 := by
      have h0 : (0 : Nat) ||| yoA s ev 0 = 0 := by
        refine Nat.eq_of_testBit_eq fun i => ?_
        rw [Nat.zero_testBit, Nat.testBit_or, Nat.zero_testBit, Bool.false_or]
        cases hb : (yoA s ev 0).testBit i with
        | false => rfl
        | true =>
          obtain ⟨n, _, _, n3, _⟩ := yoA_bit.mp hb
          rw [Nat.zero_testBit] at n3
          cases n3
      rw [e0]
      exact yoI_fix h0 9
    rw [ec, if_pos (by decide)]
    exact next _ _ v5 v6 h5 h6 (hI.th 0) (by rw [zq_n_si]; omega)
  · have e0 : ∀ b, b ≠ 232 → zq_i (zq_si s 232 0 0) b = zq_i s b := fun b hb => by
      funext j
      rw [zq_i_si, if_neg (fun z => hb z.1)]
    have ej : ∀ j : Int, j ≠ 0 → zq_i (zq_si s 232 0 0) 232 j = zq_i s 232 j := fun j hj => by rw [zq_i_si, if_neg (fun z => hj z.2)]
    have ey0 : yo0 (zq_si s 232 0 0) = yo0 s := by
      unfold yo0 ym_me ym_us
      rw [ej 17 (by decide), ej 18 (by decide), e0 237 (by decide), e0 238 (by decide)]
    have eyI : yoI (zq_si s 232 0 0) ev 9 (yo0 (zq_si s 232 0 0)) = yoI s ev 9 (yo0 s) := by rw [ey0, yoI_cong (e0 237 (by decide)) (e0 238 (by decide))]
    refine ys_186 (s := zq_si s 232 0 0) (ev := ev) (hmI.th 0) (hI.yo_R.cong (e0 237 (by decide)) (e0 240 (by decide)) (e0 241 (by decide))) (by rw [ej 17 (by decide)]; exact t11.1) (by rw [ej 17 (by decide)]; exact t11.2) (by rw [ej 18 (by decide)]; exact t12.1) (by rw [ej 18 (by decide)]; exact t12.2) (fun S' f _ => ?_)
    rw [eyI, if_pos rfl]
    have hI0 := hI.th 0
    exact next S' (dr, fl, ev, ct, F, t) v5 v6 h5 h6 (f.yI hI0 (by decide) (fun b hb => by simp at hb; omega) (hI0.2.2.2.2.2.2.2.cong (fun j _ => f.f (by simp)) (f.i (by decide) (by decide)))) (by rw [f.n, zq_n_si]; omega)
end YLC7
