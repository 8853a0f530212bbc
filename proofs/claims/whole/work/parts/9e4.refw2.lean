/-! save: the reference writes -/
def yW (cp : List Int → Int) (s : zq_S) (ev : Nat → List ye_E) (ct : Nat → List Int) (lm km : Nat) (pre : List Int) (tl : Int) : List Int := (pre ++ yw_obs (fun n => km.testBit n) (yO s ev ct) 9 1) ++ (yX_xr ++ (yw_tab (fun n => lm.testBit n) (yw_en (fun n => cp (pre ++ yw_obs (fun n => km.testBit n) (yO s ev ct) (n - 1) 1)) (fun n => decide (zq_i s 237 n ≠ 0)) (fun n => km.testBit n) (fun n => zq_i s 238 n)) 9 1 ++ yw_end (zq_i s 232 17) (zq_i s 232 18) tl (cp (pre ++ yw_obs (fun n => km.testBit n) (yO s ev ct) 9 1))))
set_option maxRecDepth 100000 in
theorem yw_obs_snoc (kp : Nat → Bool) (O : Nat → List Int) : ∀ (k i : Nat), yw_obs kp O (k + 1) i = yw_obs kp O k i ++ (if kp (i + k) = true then O (i + k) else [])
  | 0, i => by
    show (if kp i = true then O i else []) ++ [] = [] ++ _
    rw [List.append_nil, List.nil_append]
    rfl
  | k + 1, i => by
    have e : yw_obs kp O (k + 1 + 1) i = (if kp i = true then O i else []) ++ yw_obs kp O (k + 1) (i + 1) := rfl
    rw [e, yw_obs_snoc kp O k (i + 1)]
    have e2 : yw_obs kp O (k + 1) i = (if kp i = true then O i else []) ++ yw_obs kp O k (i + 1) := rfl
    rw [e2, List.append_assoc, show i + 1 + k = i + (k + 1) by omega]
set_option maxRecDepth 100000 in
theorem yw_obs_len (kp : Nat → Bool) (O : Nat → List Int) : ∀ (k i : Nat), (∀ n, i ≤ n → n < i + k → kp n = true → (O n).length ≤ 546) → (yw_obs kp O k i).length ≤ 546 * k
  | 0, i, h => Nat.le_refl _
  | k + 1, i, h => by
    have e : yw_obs kp O (k + 1) i = (if kp i = true then O i else []) ++ yw_obs kp O k (i + 1) := rfl
    rw [e, List.length_append]
    have := yw_obs_len kp O k (i + 1) (fun n h1 h2 => h n (by omega) (by omega))
    by_cases hk : kp i = true
    · rw [if_pos hk]
      have := h i (by omega) (by omega) hk
      omega
    · rw [if_neg hk]
      simp
      omega
set_option maxRecDepth 100000 in
theorem yw_obj.len {S : zq_S} {o : Nat} {es : List ye_E} {ct : List Int} (h : yw_obj S o es ct) : (yw_ob o (zq_i S 238 o) es (decide (zq_i S 242 o ≠ 0)) ct).length ≤ 546 := by
  obtain ⟨a1, a2, a3, a4, a5, a6⟩ := h
  unfold yw_ob
  by_cases hz : zq_i S 242 o = 0
  · rw [decide_eq_false (fun z => z hz), if_neg (by decide)]
    simp
    omega
  · rw [decide_eq_true hz, if_pos rfl]
    have := (a6 hz).2.1
    simp
    omega
section YLE4
variable {X : Nat × (Nat → Int32)}
set_option maxRecDepth 100000 in
theorem ys_185_234 {S : zq_S} {fl : List Int} (h3 : zq_i S 232 3 = fl.length) (h9 : fl.length ≤ 999) (hr : yrow S 234 0 fl) (hch : ∀ c ∈ fl, zq_ch c) {x1 x2 x3 x4 x5 : Int} {v7 : Value} (b1 : zq_bo x1) (i2 : zq_iv x2) (b3 : zq_bo x3) (i4 : zq_iv x4) (b5 : zq_bo x5) (c7 : v7.category = 1) {K : Int → zq_S → Prop} (k : ∀ S', ynf S S' → ynw S' fl → zq_Ex X 185 263 [.ref 232, zq_vi x1, zq_vi x2, zq_vi x3, zq_vi x4, zq_vi x5, zq_vi 1, v7] [] S' (zq_rp zq_iv K)) : ∀ (l : List Int) (i : Nat) (S' : zq_S) (L : List Int), ynf S S' → ynw S' L → yrow S 234 i l → (∀ c ∈ l, zq_ch c) → i + l.length = fl.length → L.length = i → L ++ l = fl → zq_Ex X 185 234 [.ref 232, zq_vi x1, zq_vi x2, zq_vi x3, zq_vi x4, zq_vi x5, zq_vi (i : Int), v7] [] S' (zq_rp zq_iv K)
  | [], i, S', L, fr, hw, _, _, hi, hL, hZ => by
    refine zw_185_234 b1 i2 b3 i4 b5 ⟨by omega, by omega⟩ c7 ?_
    simp only [List.length_nil] at hi
    rw [fr.f (j := 3) (by simp), h3, if_neg (by omega)]
    rw [List.append_nil] at hZ
    rw [hZ] at hw
    exact k S' fr hw
  | c :: l, i, S', L, fr, hw, hrl, hc, hi, hL, hZ => by
    obtain ⟨c1, c2⟩ := yrow_c hrl
    simp only [List.length_cons] at hi
    refine zw_185_234 b1 i2 b3 i4 b5 ⟨by omega, by omega⟩ c7 ?_
    rw [fr.f (j := 3) (by simp), h3, if_pos (by omega), fr.i (b := 234) (by simp) (by decide), c1, show (i : Int) + 1 = ((i + 1 : Nat) : Int) by omega]
    refine ⟨⟨by omega, by omega⟩, yn_195 (hc c List.mem_cons_self) hw (by omega) (fun s1 h1 g1 => ?_)⟩
    exact ys_185_234 h3 h9 hr hch b1 i2 b3 i4 b5 c7 k l (i + 1) s1 _ (fr.trans g1) h1 (by rw [show ((i + 1 : Nat) : Int) = (i : Int) + 1 by omega]; exact c2) (fun x hx => hc x (List.mem_cons_of_mem _ hx)) (by omega) (by simp; omega) (by rw [← hZ]; simp only [List.append_assoc, List.cons_append, List.nil_append])
set_option maxRecDepth 100000 in
theorem ys_185_263 {S : zq_S} {ev : Nat → List ye_E} {ct : Nat → List Int} (hV : ysw S ev ct) {x1 x2 x3 x4 x5 : Int} {v7 : Value} (b1 : zq_bo x1) (i2 : zq_iv x2) (b3 : zq_bo x3) (i4 : zq_iv x4) (b5 : zq_bo x5) (c7 : v7.category = 1) {km : Nat} (hkm : ∀ n : Nat, 1 ≤ n → n ≤ 9 → (km.testBit n = true ↔ zq_i S 255 n ≠ 0 ∧ (x1 ≠ 0 ∨ zq_i S 239 n ≠ 0))) (hku : ∀ n : Nat, 1 ≤ n → n ≤ 9 → km.testBit n = true → zq_i S 237 n ≠ 0) {pre : List Int} (hp : pre.length ≤ 999) {K : Int → zq_S → Prop}
    (k : ∀ S', ymf2 [7, 23] [236, 245, 251] S S' → ynw S' (pre ++ yw_obs (fun n => km.testBit n) (yO S ev ct) 9 1) → (∀ n : Nat, 1 ≤ n → n ≤ 9 → km.testBit n = true → zq_i S' 251 n = ((pre ++ yw_obs (fun n => km.testBit n) (yO S ev ct) (n - 1) 1).length : Int)) → zq_Ex X 185 327 [.ref 232, zq_vi x1, zq_vi x2, zq_vi x3, zq_vi x4, zq_vi x5, zq_vi 1, v7] [] (zq_si S' 254 0 0) (zq_rp zq_iv K)) : ∀ (m n : Nat) (S' : zq_S), n + m = 10 → 1 ≤ n → ymf2 [7, 23] [236, 245, 251] S S' → ynw S' (pre ++ yw_obs (fun n => km.testBit n) (yO S ev ct) (n - 1) 1) → (∀ i : Nat, 1 ≤ i → i < n → km.testBit i = true → zq_i S' 251 i = ((pre ++ yw_obs (fun n => km.testBit n) (yO S ev ct) (i - 1) 1).length : Int)) → zq_Ex X 185 263 [.ref 232, zq_vi x1, zq_vi x2, zq_vi x3, zq_vi x4, zq_vi x5, zq_vi (n : Int), v7] [] S' (zq_rp zq_iv K)
  | 0, n, S', hn, n1, fr, hw, hP => by
    have e : n = 10 := by omega
    subst e
    refine zw_185_263 b1 i2 b3 i4 b5 ⟨by omega, by omega⟩ c7 ?_
    rw [if_neg (by omega)]
    exact k S' fr hw (fun i i1 i9 => hP i i1 (by omega))
  | m + 1, n, S', hn, n1, fr, hw, hP => by
    have hs : yw_obs (fun n => km.testBit n) (yO S ev ct) (n + 1 - 1) 1 = yw_obs (fun n => km.testBit n) (yO S ev ct) (n - 1) 1 ++ (if km.testBit n = true then yO S ev ct n else []) := by
      have := yw_obs_snoc (fun n => km.testBit n) (yO S ev ct) (n - 1) 1
      rw [show n - 1 + 1 = n + 1 - 1 by omega, show 1 + (n - 1) = n by omega] at this
      exact this
    have hlen : (pre ++ yw_obs (fun n => km.testBit n) (yO S ev ct) (n - 1) 1).length + 600 ≤ 6500 := by
      have := yw_obs_len (fun n => km.testBit n) (yO S ev ct) (n - 1) 1 (fun i h1 h2 hk => ((hV i (by omega) (by omega)).2 (hku i (by omega) (by omega) hk)).2.2.len)
      rw [List.length_append]
      omega
    have hk := hkm n n1 (by omega)
    have skip : km.testBit n ≠ true → zq_Ex X 185 263 [.ref 232, zq_vi x1, zq_vi x2, zq_vi x3, zq_vi x4, zq_vi x5, zq_vi ((n : Int) + 1), v7] [] S' (zq_rp zq_iv K) := fun hb => by
      refine ys_185_263 hV b1 i2 b3 i4 b5 c7 hkm hku hp k m (n + 1) S' (by omega) (by omega) fr ?_ (fun i i1 i2 hi => ?_)
      · rw [hs, if_neg hb, List.append_nil]
        exact hw
      · by_cases e : i = n
        · rw [e] at hi; exact absurd hi hb
        · exact hP i i1 (by omega) hi
    have write : km.testBit n = true → zq_Ex X 185 294 [.ref 232, zq_vi x1, zq_vi x2, zq_vi x3, zq_vi x4, zq_vi x5, zq_vi (n : Int), v7] [] S' (zq_rp zq_iv K) := fun hb => by
      have f1 : ymf2 [7, 23] [236, 245, 251] S (zq_si S' 251 n (zq_i S' 232 7)) := fr.trans (ymf2.si (by simp) (by decide))
      have hcc : ∀ b, 237 ≤ b → b ≤ 244 → zq_i (zq_si S' 251 n (zq_i S' 232 7)) b = zq_i S b := fun b hb1 hb2 => f1.i (by simp; omega) (by omega)
      have hob := (((hV n n1 (by omega)).2 (hku n n1 (by omega) hb)).2.2).cong hcc
      have hw1 : ynw (zq_si S' 251 n (zq_i S' 232 7)) (pre ++ yw_obs (fun n => km.testBit n) (yO S ev ct) (n - 1) 1) := by
        refine ⟨?_, fun i hi => ?_⟩
        · rw [zq_i_si, if_neg (by simp)]; exact hw.1
        · rw [zq_i_si, if_neg (by simp)]; exact hw.2 i hi
      refine zw_185_294 b1 i2 b3 i4 b5 ⟨by omega, by omega⟩ c7 ⟨⟨by omega, by omega⟩, ys_196 n1 (by omega) hob hw1 hlen (fun s2 h2 g2 => ?_)⟩
      rw [hcc 238 (by decide) (by decide), hcc 242 (by decide) (by decide)] at h2
      refine ys_185_263 hV b1 i2 b3 i4 b5 c7 hkm hku hp k m (n + 1) s2 (by omega) (by omega) (f1.trans (g2.mono (by simp) (by simp))) ?_ (fun i i1 i2 hi => ?_)
      · rw [hs, if_pos hb, ← List.append_assoc]
        exact h2
      · rw [g2.i (b := 251) (by simp) (by decide), zq_i_si]
        by_cases e : i = n
        · rw [e, if_pos ⟨rfl, rfl⟩]
          exact hw.1
        · rw [if_neg (fun z => e (by have := z.2; omega))]
          exact hP i i1 (by omega) hi
    refine zw_185_263 b1 i2 b3 i4 b5 ⟨by omega, by omega⟩ c7 ?_
    rw [if_pos (by omega), fr.i (b := 255) (by simp) (by decide), fr.i (b := 239) (by simp) (by decide)]
    refine ⟨⟨by omega, by omega⟩, yl_if (fun hz => skip (fun z => (hk.mp z).1 hz)) (fun hz => ?_)⟩
    by_cases h0 : x1 = 0
    · rw [if_pos h0]
      exact ⟨⟨by omega, by omega⟩, yl_if (fun hc => skip (fun z => (hk.mp z).2.elim (fun y => y h0) (fun y => y hc))) (fun hc => write (hk.mpr ⟨hz, Or.inr hc⟩))⟩
    · rw [if_neg h0]
      exact write (hk.mpr ⟨hz, Or.inl h0⟩)
set_option maxRecDepth 100000 in
theorem ys_185_327 {S : zq_S} {x1 x2 x3 x4 x5 : Int} {v7 : Value} (b1 : zq_bo x1) (i2 : zq_iv x2) (b3 : zq_bo x3) (i4 : zq_iv x4) (b5 : zq_bo x5) (c7 : v7.category = 1) {lm : Nat} (hlm : ∀ n : Nat, 1 ≤ n → n ≤ 9 → (lm.testBit n = true ↔ (x1 ≠ 0 ∨ zq_i S 239 n ≠ 0))) (hl0 : lm.testBit 0 = false) {K : Int → zq_S → Prop}
    (k : ∀ S', ymf [] [254] S S' → yfr S' 254 lm → zq_Ex X 197 0 [.ref 232, zq_vi (if x1 = 0 then x4 else -1), zz_no, zz_no, zz_no] [] S' (zq_rv fun s_3 => (if zq_i s_3 (232) (7) ≤ 999 then (zq_Ex X 202 0 [(.ref (232)), zz_no] [] (zq_si s_3 (232) (0) (0)) (zq_rv fun s_6 => K (zq_i s_6 (232) (3)) s_6)) else K (0) (zq_si s_3 (232) (0) (2))))) : ∀ (m n : Nat) (S' : zq_S), n + m = 10 → 1 ≤ n → ymf [] [254] S S' → (∀ i : Nat, i < n → zq_i S' 254 i = if lm.testBit i = true then 1 else 0) → zq_Ex X 185 327 [.ref 232, zq_vi x1, zq_vi x2, zq_vi x3, zq_vi x4, zq_vi x5, zq_vi (n : Int), v7] [] S' (zq_rp zq_iv K)
  | 0, n, S', hn, n1, fr, hf => by
    have e : n = 10 := by omega
    subst e
    refine zw_185_327 b1 i2 b3 i4 b5 ⟨by omega, by omega⟩ c7 ?_
    rw [if_neg (by omega)]
    have k := k S' fr (fun i hi => hf i hi)
    by_cases h0 : x1 = 0
    · rw [if_pos h0] at k ⊢
      exact k
    · rw [if_neg h0] at k ⊢
      exact k
  | m + 1, n, S', hn, n1, fr, hf => by
    have hk := hlm n n1 (by omega)
    have go : ∀ v : Int, v = (if lm.testBit n = true then 1 else 0) → zq_Ex X 185 327 [.ref 232, zq_vi x1, zq_vi x2, zq_vi x3, zq_vi x4, zq_vi x5, zq_vi ((n : Int) + 1), v7] [] (zq_si S' 254 n v) (zq_rp zq_iv K) := fun v hv => by
      refine ys_185_327 b1 i2 b3 i4 b5 c7 hlm hl0 k m (n + 1) _ (by omega) (by omega) (fr.trans (ymf.si (by simp) (by decide))) (fun i hi => ?_)
      rw [zq_i_si]
      by_cases e : i = n
      · rw [e, if_pos ⟨rfl, rfl⟩]; exact hv
      · rw [if_neg (fun z => e (by have := z.2; omega))]; exact hf i (by omega)
    refine zw_185_327 b1 i2 b3 i4 b5 ⟨by omega, by omega⟩ c7 ?_
    rw [if_pos (by omega)]
    by_cases h0 : x1 = 0
    · rw [if_pos h0, fr.i (b := 239) (by simp) (by decide)]
      refine ⟨⟨by omega, by omega⟩, yl_if (fun hz => ⟨⟨by omega, by omega⟩, go 0 ?_⟩) (fun hz => ⟨⟨by omega, by omega⟩, go 1 ?_⟩)⟩
      · rw [if_neg (fun z => (hk.mp z).elim (fun y => y h0) (fun y => y hz))]
      · rw [if_pos (hk.mpr (Or.inr hz))]
    · rw [if_neg h0]
      exact ⟨⟨by omega, by omega⟩, go 1 (by rw [if_pos (hk.mpr (Or.inl h0))])⟩
set_option maxRecDepth 100000 in
/-- from the file's beginning on -/
theorem ys_185_w {S : zq_S} {ev : Nat → List ye_E} {ct : Nat → List Int} (hV : ysw S ev ct) {x1 x2 x3 x4 x5 : Int} {v7 : Value} (b1 : zq_bo x1) (i2 : zq_iv x2) (b3 : zq_bo x3) (h4 : -1 ≤ x4 ∧ x4 < 1000000) (b5 : zq_bo x5) (c7 : v7.category = 1) (h17 : 0 ≤ zq_i S 232 17 ∧ zq_i S 232 17 ≤ 9) (h18 : 0 ≤ zq_i S 232 18 ∧ zq_i S 232 18 ≤ 9) {km lm : Nat} (hkm : ∀ n : Nat, 1 ≤ n → n ≤ 9 → (km.testBit n = true ↔ zq_i S 255 n ≠ 0 ∧ (x1 ≠ 0 ∨ zq_i S 239 n ≠ 0))) (hku : ∀ n : Nat, 1 ≤ n → n ≤ 9 → km.testBit n = true → zq_i S 237 n ≠ 0) (hlm : ∀ n : Nat, 1 ≤ n → n ≤ 9 → (lm.testBit n = true ↔ (x1 ≠ 0 ∨ zq_i S 239 n ≠ 0))) (hl0 : lm.testBit 0 = false) (hE : ∀ n : Nat, 1 ≤ n → n ≤ 9 → lm.testBit n = true → (km.testBit n = true ↔ zq_i S 237 n ≠ 0 ∧ zq_i S 255 n ≠ 0)) {pre : List Int} (hp : pre.length ≤ 999) (hw : ynw S pre) {K : Int → zq_S → Prop}
    (k1 : (yW (fun l => (l.length : Int)) S ev ct lm km pre (if x1 = 0 then x4 else -1)).length ≤ 999 → ∀ S', ymf2 [7, 23] [236, 245, 251, 254] S S' → ynw S' (yW (fun l => (l.length : Int)) S ev ct lm km pre (if x1 = 0 then x4 else -1)) → zq_Ex X 202 0 [.ref 232, zz_no] [] (zq_si S' 232 0 0) (zq_rv fun s_6 => K (zq_i s_6 232 3) s_6))
    (k2 : 999 < (yW (fun l => (l.length : Int)) S ev ct lm km pre (if x1 = 0 then x4 else -1)).length → ∀ S', ymf2 [7, 23] [236, 245, 251, 254] S S' → K 0 (zq_si S' 232 0 2)) : zq_Ex X 185 263 [.ref 232, zq_vi x1, zq_vi x2, zq_vi x3, zq_vi x4, zq_vi x5, zq_vi 1, v7] [] S (zq_rp zq_iv K) := by
  have i4 : zq_iv x4 := ⟨by omega, by omega⟩
  have hw0 : ynw S (pre ++ yw_obs (fun n => km.testBit n) (yO S ev ct) (1 - 1) 1) := by
    show ynw S (pre ++ [])
    rw [List.append_nil]
    exact hw
  have hall : ∀ j, j ≤ 9 → (pre ++ yw_obs (fun n => km.testBit n) (yO S ev ct) j 1).length ≤ 999 + 546 * 9 := fun j hj => by
    have := yw_obs_len (fun n => km.testBit n) (yO S ev ct) j 1 (fun i h1 h2 hk => ((hV i (by omega) (by omega)).2 (hku i (by omega) (by omega) hk)).2.2.len)
    rw [List.length_append]
    omega
  refine ys_185_263 hV b1 i2 b3 i4 b5 c7 hkm hku hp (fun S1 f1 w1 p1 => ?_) 9 1 S rfl (by omega) (ymf2.refl _ _ _) hw0 (fun i i1 i2 => by omega)
  have f2 : ymf2 [7, 23] [236, 245, 251, 254] S (zq_si S1 254 0 0) := (f1.mono (by simp) (by simp)).trans (ymf2.si (by simp) (by decide))
  refine ys_185_327 (S := zq_si S1 254 0 0) b1 i2 b3 i4 b5 c7 (lm := lm) (fun n n1 n9 => by rw [f2.i (b := 239) (by simp) (by decide)]; exact hlm n n1 n9) hl0 (fun S3 f3 hf3 => ?_) 9 1 (zq_si S1 254 0 0) rfl (by omega) (ymf.refl _ _ _) (fun i hi => ?_)
  · have f4 : ymf2 [7, 23] [236, 245, 251, 254] S S3 := f2.trans (f3.to2 (by simp) (by simp) (by simp))
    have w3 : ynw S3 (pre ++ yw_obs (fun n => km.testBit n) (yO S ev ct) 9 1) := by
      refine ⟨?_, fun i hi => ?_⟩
      · rw [f3.f (j := 7) (by simp), zq_i_si, if_neg (by simp)]; exact w1.1
      · rw [f3.i (b := 236) (by simp) (by decide), zq_i_si, if_neg (by simp)]; exact w1.2 i hi
    have h9 := hall 9 (by omega)
    refine zw_197 ⟨by split <;> omega, by split <;> omega⟩ (yn_194 (by decide) w3 (by omega) (fun s5 h5 g5 => yn_195 (by decide) h5 (by simp only [List.length_append, List.length_cons, List.length_nil] at h9 ⊢; omega) (fun s6 h6 g6 => ?_)))
    have g : ynf S3 s6 := g5.trans g6
    have f6 : ymf2 [7, 23] [236, 245, 251, 254] S s6 := f4.trans (g.mono (by simp) (by simp))
    rw [w3.1]
    have e17 : zq_i s6 232 17 = zq_i S 232 17 := f6.f (by simp)
    have e18 : zq_i s6 232 18 = zq_i S 232 18 := f6.f (by simp)
    have e7 : zq_i s6 237 = zq_i S 237 := f6.i (by simp) (by decide)
    have e8 : zq_i s6 238 = zq_i S 238 := f6.i (by simp) (by decide)
    refine ys_197_25 (S := s6) (lm := lm) (km := km) (P := fun n => ((pre ++ yw_obs (fun n => km.testBit n) (yO S ev ct) (n - 1) 1).length : Int)) (Z := yW (fun l => (l.length : Int)) S ev ct lm km pre (if x1 = 0 then x4 else -1)) (fun j hj => ?_) (fun n n1 n9 => ?_) (fun n n1 n9 hb => ?_) (fun n n1 n9 hb => ?_) (by rw [e17]; exact h17) (by rw [e18]; exact h18) (by omega) ⟨by split <;> omega, by split <;> omega⟩ (fun s' hw' gg => ?_) 9 1 s6 _ _ rfl rfl (by omega) (ymf2.refl _ _ _) h6 (by simp only [List.length_append, List.length_cons, List.length_nil] at h9 ⊢; omega) ?_
    · rw [g.i (b := 254) (by simp) (by decide)]; exact hf3 j hj
    · rw [e8]; exact (hV n n1 n9).1
    · rw [e7, f6.i (b := 255) (by simp) (by decide)]; exact hE n n1 n9 hb
    · have := hall (n - 1) (by omega)
      refine ⟨?_, by omega, by omega⟩
      rw [g.i (b := 251) (by simp) (by decide), f3.i (b := 251) (by simp) (by decide), zq_i_si, if_neg (by simp)]
      exact p1 n n1 n9 hb
    · have f7 : ymf2 [7, 23] [236, 245, 251, 254] S s' := f6.trans (gg.mono (by simp) (by simp))
      rw [hw'.1]
      refine yl_if (fun hle => k1 (by omega) s' f7 hw') (fun hle => k2 (by omega) s' f7)
    · rw [e17, e18, e7, e8]
      unfold yW
      simp only [List.append_assoc, List.cons_append, List.nil_append]
  · have : i = 0 := by omega
    subst this
    rw [zq_i_si, if_pos ⟨rfl, rfl⟩, hl0]
    rfl
end YLE4
