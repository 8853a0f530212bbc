/-! load: the class takes runs of entries -/
section YLF4
variable {X : Nat × (Nat → Int32)}
set_option maxRecDepth 100000 in
theorem yp_cd_ne {c : Int} (h : c ≠ 0) : yp_cd c = c := by unfold yp_cd; rw [if_neg h]
set_option maxRecDepth 100000 in
theorem ys_117 {S : zq_S} {F u o : Nat} {T : Int → Int} {E : yLt} (hk : ylk S F u T) (hL : yLc S u E) (o1 : 1 ≤ o) (o9 : o ≤ 9) {p : Int} (hp : -100 ≤ p ∧ p ≤ 1900) (hen : yl_en T p = true) {K : zq_S → Prop} (k : ∀ S', ylf u S S' → yLc S' u (yl_put T o p E) → K S') : zq_Ex X 117 0 [.ref 7, zq_vi (o : Int), zq_vi p, zz_no] [] S (zq_rv K) := by
  obtain ⟨f1, f2, hok, hT, r6, r7⟩ := id hk
  obtain ⟨⟨em, e1, e2, e3⟩, hS⟩ := id hL
  obtain ⟨d0, d1, d2, d3, d4, d5, d6, d7⟩ := yl_en_iff.mp hen
  have oF : zq_o 1 F := by rcases f1 with z | z <;> (subst z; decide +kernel)
  obtain ⟨q1, q2, q3, q4, q5, q6, q7, q8, q9⟩ := yk_sl f2 o1 o9
  have esl : u + 1 + 8 + 10 * ((o : Int) - 1).toNat = ysl u o := by unfold ysl; omega
  have hsl : 36 ≤ ysl u o := by unfold ysl; omega
  refine zw_117 ⟨by omega, by omega⟩ ⟨by omega, by omega⟩ ⟨u, r7, zw_42 (yk_t8 f2) ⟨by omega, by omega⟩ ?_⟩
  rw [if_neg (by omega), if_pos (by omega), esl]
  refine ⟨⟨by omega, by omega⟩, fun z => (by cases z), fun b hbb => ?_⟩
  have hbb : ysl u o = b := Option.some.inj hbb
  subst hbb
  rw [e2]
  refine ys_35 e1 (by omega) (fun h0 => ?_) (fun h1 => ?_)
  · rw [if_pos rfl]
    have hEo : E o = none := Classical.byContradiction fun z => by
      have := (e3 o o1 o9).mpr z
      rw [h0] at this
      cases this
    have h2 := ybit_or2 e1 (ybit_shl o (by omega)).2
    have hsh := (ybit_shl o (by omega)).1
    rw [e2, hsh, h2.1]
    have g1 : ylf u S (zq_si S 7 8 ((em ||| 2 ^ o : Nat) : Int)) := ⟨fun b j n1 n2 n3 => by rw [zq_i_si, if_neg (fun z => n1 z.1 z.2)], rfl⟩
    obtain ⟨_, _, hok1, hT1, r61, _⟩ := hk.fr g1
    refine ⟨F, r61, ys_68 oF hok1 ⟨by omega, by omega⟩ ⟨by omega, by omega⟩ ?_⟩
    have hv := yl_val3 d0 d1 d2
    have hdd : (yp_dg (T p) && yp_dg (T (p + 1)) && yp_dg (T (p + 2))) = true := by
      simp only [Bool.and_eq_true, yp_dg_iff]
      exact ⟨⟨d0, d1⟩, d2⟩
    rw [hT1, yl_dgs, if_pos hdd]
    have g2 : ylf u S (zq_si (zq_si S 7 8 ((em ||| 2 ^ o : Nat) : Int)) 18 o (yp_val T 3 p 0)) := g1.trans ⟨fun b j n1 n2 n3 => by rw [zq_i_si, if_neg (fun z => n2 z.1)], rfl⟩
    obtain ⟨_, _, hok2, hT2, r62, _⟩ := hk.fr g2
    refine ⟨⟨by omega, by omega⟩, F, r62, ys_29 oF hok2 ⟨by omega, by omega⟩ ?_⟩
    rw [hT2, yp_cd_ne (show T (p + 4) ≠ 0 by omega)]
    have g3 : ylf u S (zq_si (zq_si (zq_si S 7 8 ((em ||| 2 ^ o : Nat) : Int)) 18 o (yp_val T 3 p 0)) (ysl u o) 3 (T (p + 4) - 48)) := g2.trans ⟨fun b j n1 n2 n3 => by rw [zq_i_si, if_neg (fun z => (n3 o o1 o9 z.1).2 z.2)], rfl⟩
    obtain ⟨_, _, hok3, hT3, r63, _⟩ := hk.fr g3
    refine ⟨⟨by omega, by omega⟩, F, r63, ys_29 oF hok3 ⟨by omega, by omega⟩ ?_⟩
    rw [hT3, yp_cd_ne (show T (p + 6) ≠ 0 by omega)]
    have fin : ∀ v : Int, v = yb (decide (T (p + 6) = 110)) → K (zq_si (zq_si (zq_si (zq_si S 7 8 ((em ||| 2 ^ o : Nat) : Int)) 18 o (yp_val T 3 p 0)) (ysl u o) 3 (T (p + 4) - 48)) (ysl u o) 0 v) := fun v hv => by
      refine k _ (g3.trans ⟨fun b j n1 n2 n3 => by rw [zq_i_si, if_neg (fun z => (n3 o o1 o9 z.1).1 z.2)], rfl⟩) ⟨⟨em ||| 2 ^ o, h2.2, ?_, fun i i1 i9 => ?_⟩, fun i i1 i9 => ?_⟩
      · rw [zq_i_si, if_neg (fun z => by have := z.1; omega), zq_i_si, if_neg (fun z => by have := z.1; omega), zq_i_si, if_neg (by simp), zq_i_si, if_pos ⟨rfl, rfl⟩]
      · rw [ybit_or]
        unfold yl_put
        by_cases e : i = o
        · rw [if_pos ⟨e, hEo⟩]
          simp [e]
        · rw [if_neg (fun z => e z.1), ← e3 i i1 i9]
          have : decide (o = i) = false := decide_eq_false (fun z => e z.symm)
          rw [this, Bool.or_false]
      · by_cases e : i = o
        · subst e
          have ep : yl_put T i p E i = some (yl_es T p) := by
            unfold yl_put
            rw [if_pos ⟨rfl, hEo⟩]
          rw [ep]
          refine ⟨?_, ?_, ?_⟩
          · rw [zq_i_si, if_pos ⟨rfl, rfl⟩]
            exact hv
          · rw [zq_i_si, if_neg (fun z => by have := z.1; omega), zq_i_si, if_neg (fun z => by have := z.1; omega), zq_i_si, if_pos ⟨rfl, rfl⟩]
            rfl
          · rw [zq_i_si, if_neg (by simp), zq_i_si, if_pos ⟨rfl, rfl⟩]
            rfl
        · have ep : yl_put T o p E i = E i := by
            unfold yl_put
            rw [if_neg (fun z => e z.1)]
          rw [ep]
          have hne : ysl u i ≠ ysl u o := fun z => e (ysl_inj i1 o1 z)
          have hsi : 36 ≤ ysl u i := by unfold ysl; omega
          have q : ∀ j : Int, zq_i (zq_si (zq_si (zq_si (zq_si S 7 8 ((em ||| 2 ^ o : Nat) : Int)) 18 o (yp_val T 3 p 0)) (ysl u o) 3 (T (p + 4) - 48)) (ysl u o) 0 v) (ysl u i) j = zq_i S (ysl u i) j := fun j => by
            rw [zq_i_si, if_neg (fun z => hne z.1), zq_i_si, if_neg (fun z => hne z.1), zq_i_si, if_neg (fun z => by have := z.1; omega), zq_i_si, if_neg (fun z => by have := z.1; omega)]
          have q18 : zq_i (zq_si (zq_si (zq_si (zq_si S 7 8 ((em ||| 2 ^ o : Nat) : Int)) 18 o (yp_val T 3 p 0)) (ysl u o) 3 (T (p + 4) - 48)) (ysl u o) 0 v) 18 i = zq_i S 18 i := by
            rw [zq_i_si, if_neg (fun z => by have := z.1; omega), zq_i_si, if_neg (fun z => by have := z.1; omega), zq_i_si, if_neg (fun z => e (by have := z.2; omega)), zq_i_si, if_neg (by simp)]
          rw [q 0, q 3, q18]
          exact hS i i1 i9
    refine yl_if (fun hz => fin 1 ?_) (fun hz => fin 0 ?_)
    · rw [decide_eq_true hz]; rfl
    · rw [decide_eq_false hz]; rfl
  · rw [if_neg (by decide)]
    have hEo : E o ≠ none := (e3 o o1 o9).mp h1
    have : yl_put T o p E = E := by
      funext i
      unfold yl_put
      rw [if_neg (fun z => hEo z.2)]
    refine k S (ylf.refl _ _) ?_
    rw [this]
    exact hL
set_option maxRecDepth 100000 in
theorem ys_115_104 {S : zq_S} {F u : Nat} {T : Int → Int} (hk : ylk S F u T) {x1 : Int} (i1 : zq_iv x1) {n c : Nat} (n1 : 1 ≤ n) (hnc : n + c ≤ 10) {K : Int → zq_S → Prop} : ∀ (m o : Nat) (p : Int) (S' : zq_S) (E : yLt), o + m = n + c → n ≤ o → -100 ≤ p → p + 8 * m ≤ 1900 → ylf u S S' → yLc S' u E → (yl_rn T m o p E = none → ∀ S'', ylf u S S'' → K (-1) S'') → (∀ p' E' S'', yl_rn T m o p E = some (p', E') → ylf u S S'' → yLc S'' u E' → K p' S'') → zq_Ex X 115 104 [.ref 7, zq_vi x1, zq_vi (n : Int), zq_vi (c : Int), zq_vi 1, zq_vi p, zq_vi (o : Int)] [] S' (zq_rp zq_iv K)
  | 0, o, p, S', E, ho, hno, p0, p1, fr, hL, k0, k1 => by
    refine zw_115_104 i1 ⟨by omega, by omega⟩ ⟨by omega, by omega⟩ (Or.inr rfl) ⟨by omega, by omega⟩ ⟨by omega, by omega⟩ ⟨⟨by omega, by omega⟩, ?_⟩
    rw [if_neg (by omega)]
    exact k1 p E S' rfl fr hL
  | m + 1, o, p, S', E, ho, hno, p0, p1, fr, hL, k0, k1 => by
    refine zw_115_104 i1 ⟨by omega, by omega⟩ ⟨by omega, by omega⟩ (Or.inr rfl) ⟨by omega, by omega⟩ ⟨by omega, by omega⟩ ⟨⟨by omega, by omega⟩, ?_⟩
    rw [if_pos (by omega)]
    refine ys_116 (hk.fr fr) ⟨by omega, by omega⟩ ?_
    have e0 : yl_rn T (m + 1) o p E = if yl_en T p = true then yl_rn T m (o + 1) (p + 8) (yl_put T o p E) else none := rfl
    rw [e0] at k0 k1
    cases he : yl_en T p with
    | false =>
      rw [if_pos (show yb false = 0 from rfl)]
      exact k0 (by rw [he]; rfl) S' fr
    | true =>
      rw [if_pos he] at k0 k1
      rw [if_neg (show ¬ yb true = 0 by decide)]
      refine ys_117 (hk.fr fr) hL (by omega) (by omega) ⟨by omega, by omega⟩ he (fun S2 g2 h2 => ?_)
      rw [show (o : Int) + 1 = ((o + 1 : Nat) : Int) by omega]
      exact ys_115_104 hk i1 n1 hnc m (o + 1) (p + 8) S2 _ (by omega) (by omega) (by omega) (by omega) (fr.trans g2) h2 k0 k1
set_option maxRecDepth 100000 in
theorem yp_cd_iff {c x : Int} (h0 : x ≠ 0) (h1 : x ≠ -1) : yp_cd c = x ↔ c = x := by
  unfold yp_cd
  split <;> omega
set_option maxRecDepth 100000 in
theorem ys_115 {S : zq_S} {F u : Nat} {T : Int → Int} {E : yLt} (hk : ylk S F u T) (hL : yLc S u E) {p : Int} (p0 : 0 ≤ p ∧ p ≤ 1000) (h9 : 49 ≤ T p ∧ T p ≤ 57) {K : Int → zq_S → Prop} (k0 : yl_run T p E = none → ∀ S', ylf u S S' → K (-1) S') (k1 : ∀ p' E' S', yl_run T p E = some (p', E') → ylf u S S' → yLc S' u E' → K p' S') : zq_Ex X 115 0 [.ref 7, zq_vi p, zz_no, zz_no, zz_no, zz_no, zz_no] [] S (zq_rp zq_iv K) := by
  obtain ⟨f1, f2, hok, hT, r6, r7⟩ := id hk
  have oF : zq_o 1 F := by rcases f1 with z | z <;> (subst z; decide +kernel)
  have hno : yl_hd T p ≠ true → K (-1) S := fun h => k0 (by unfold yl_run; rw [if_neg h]) S (ylf.refl _ _)
  have hhd : yl_hd T p = true ↔ (49 ≤ T p ∧ T p ≤ 57 ∧ T (p + 1) = 32 ∧ 49 ≤ T (p + 2) ∧ T (p + 2) ≤ 57 ∧ T (p + 3) = 10 ∧ (T p - 48) + (T (p + 2) - 48) ≤ 10) := by
    unfold yl_hd
    exact decide_eq_true_iff
  have b2 : 0 ≤ T (p + 2) ∧ T (p + 2) ≤ 126 := by rw [← hT]; exact yc_b hok _
  have iv2 : zq_iv (yp_cd (T (p + 2))) := by rw [← hT]; exact yc_cd_iv hok _
  have hc0 : yp_cd (T p) = T p := yp_cd_ne (by omega)
  refine zw_115 ⟨by omega, by omega⟩ ⟨F, r6, ys_29 oF hok ⟨by omega, by omega⟩ ⟨F, r6, ys_29 oF hok ⟨by omega, by omega⟩ ⟨F, r6, ys_29 oF hok ⟨by omega, by omega⟩ ?_⟩⟩⟩
  rw [hT, hc0]
  refine yl_if (fun h1 => ?_) (fun h1 => hno (fun z => h1 ((yp_cd_iff (by decide) (by decide)).mpr (hhd.mp z).2.2.1)))
  have h1 : T (p + 1) = 32 := (yp_cd_iff (by decide) (by decide)).mp h1
  refine ⟨F, r6, ys_29 oF hok ⟨by omega, by omega⟩ ?_⟩
  rw [hT]
  have od : ∀ c, yp_od c = decide (49 ≤ c ∧ c ≤ 57) := fun _ => rfl
  refine ys_114 iv2 ?_
  by_cases h2 : 49 ≤ T (p + 2) ∧ T (p + 2) ≤ 57
  · have hc2 : yp_cd (T (p + 2)) = T (p + 2) := yp_cd_ne (by omega)
    rw [hc2, od, decide_eq_true h2, if_neg (show ¬ yb true = 0 by decide)]
    refine ⟨F, r6, ys_29 oF hok ⟨by omega, by omega⟩ ?_⟩
    rw [hT]
    refine yl_if (fun h3 => ⟨⟨by omega, by omega⟩, ?_⟩) (fun h3 => hno (fun z => h3 ((yp_cd_iff (by decide) (by decide)).mpr (hhd.mp z).2.2.2.2.2.1)))
    have h3 : T (p + 3) = 10 := (yp_cd_iff (by decide) (by decide)).mp h3
    refine yl_if (fun h4 => ?_) (fun h4 => hno (fun z => h4 (by have := (hhd.mp z).2.2.2.2.2.2; omega)))
    have hh : yl_hd T p = true := hhd.mpr ⟨h9.1, h9.2, h1, h2.1, h2.2, h3, by omega⟩
    have er : yl_run T p E = yl_rn T (T (p + 2) - 48).toNat (T p - 48).toNat (p + 4) E := by
      unfold yl_run
      rw [if_pos hh]
    rw [er] at k0 k1
    have en : T p - 48 = (((T p - 48).toNat : Nat) : Int) := by omega
    have ec : T (p + 2) - 48 = (((T (p + 2) - 48).toNat : Nat) : Int) := by omega
    rw [en, ec]
    exact ys_115_104 hk ⟨by omega, by omega⟩ (by omega) (by omega) (T (p + 2) - 48).toNat (T p - 48).toNat (p + 4) S E (by omega) (by omega) (by omega) (by omega) (ylf.refl _ _) hL k0 k1
  · have : decide (49 ≤ yp_cd (T (p + 2)) ∧ yp_cd (T (p + 2)) ≤ 57) = false := decide_eq_false (fun z => h2 (by
      have e : yp_cd (T (p + 2)) = T (p + 2) := by
        unfold yp_cd at z ⊢
        split at z
        · omega
        · rw [if_neg (by assumption)]
      rw [e] at z
      exact z))
    rw [od, this, if_pos (show yb false = 0 from rfl)]
    exact hno (fun z => h2 ⟨(hhd.mp z).2.2.2.1, (hhd.mp z).2.2.2.2.1⟩)
end YLF4
