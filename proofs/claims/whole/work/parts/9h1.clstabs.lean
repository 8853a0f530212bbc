/-! load: the class's chain of tables -/
/-- the cells that loading into the table at u changes in the class -/
def yhGa (s : zq_S) (u b : Nat) : Prop := (4 ≤ b ∧ b ≤ 22) ∨ b = u ∨ ∃ o : Nat, 1 ≤ o ∧ o ≤ 9 ∧ (b = ysl u o ∨ b = ysl u o + 8 ∨ b = ysl u o + 9 ∨ ∃ tr, zq_r s (ysl u o) 4 = some tr ∧ b ∈ yc_t7 tr)
def yhG (u : Nat) (s S : zq_S) : Prop := (∀ b, ¬ yhGa s u b → zq_i S b = zq_i s b ∧ zq_l S b = zq_l s b) ∧ (∀ b, ¬ (4 ≤ b ∧ b ≤ 22) → zq_r S b = zq_r s b) ∧ zq_n S = zq_n s
set_option maxRecDepth 100000 in
theorem yhG.refl (u : Nat) (s : zq_S) : yhG u s s := ⟨fun _ _ => ⟨rfl, rfl⟩, fun _ _ => rfl, rfl⟩
set_option maxRecDepth 100000 in
theorem yhG.ga {u : Nat} {s S : zq_S} (hu : u = 27 ∨ u = 126) (h : ∀ b, ¬ (4 ≤ b ∧ b ≤ 22) → zq_r S b = zq_r s b) {b : Nat} (hb : yhGa S u b) : yhGa s u b := by
  rcases hb with z | z | ⟨o, o1, o9, z⟩
  · exact Or.inl z
  · exact Or.inr (Or.inl z)
  · refine Or.inr (Or.inr ⟨o, o1, o9, ?_⟩)
    rcases z with z | z | z | ⟨tr, z1, z2⟩
    · exact Or.inl z
    · exact Or.inr (Or.inl z)
    · exact Or.inr (Or.inr (Or.inl z))
    · refine Or.inr (Or.inr (Or.inr ⟨tr, ?_, z2⟩))
      rw [← z1, h (ysl u o) (by unfold ysl; omega)]
set_option maxRecDepth 100000 in
theorem yhG.trans {u : Nat} {s s1 s2 : zq_S} (hu : u = 27 ∨ u = 126) (h1 : yhG u s s1) (h2 : yhG u s1 s2) : yhG u s s2 := by
  refine ⟨fun b hb => ?_, fun b hb => (h2.2.1 b hb).trans (h1.2.1 b hb), h2.2.2.trans h1.2.2⟩
  have a1 := h1.1 b hb
  have a2 := h2.1 b (fun z => hb (yhG.ga hu h1.2.1 z))
  exact ⟨a2.1.trans a1.1, a2.2.trans a1.2⟩
set_option maxRecDepth 100000 in
theorem ylH.hG {u : Nat} {s S : zq_S} (h : ylH u s S) : yhG u s S := by
  obtain ⟨h1, h2, h3, h4⟩ := h
  refine ⟨fun b hb => ⟨?_, h3 b ?_⟩, fun b hb => h2 b (by omega), h4⟩
  · funext j
    refine h1 b j (fun z => hb (Or.inl ?_)) (fun o o1 o9 z => absurd (Or.inr (Or.inr ⟨o, o1, o9, Or.inl z⟩)) hb) (fun z => absurd (Or.inr (Or.inl z)) hb)
    simp at z
    omega
  · have : ¬ (4 ≤ b ∧ b ≤ 22) := fun z => hb (Or.inl z)
    omega
set_option maxRecDepth 100000 in
/-- cells of the loader -/
theorem yhG.si {u : Nat} {s : zq_S} {b : Nat} (hb : yhGa s u b) (j x : Int) : yhG u s (zq_si s b j x) := ⟨fun c hc => ⟨by
  funext i
  rw [zq_i_si, if_neg (fun z => hc (by rw [z.1]; exact hb))], rfl⟩, fun _ _ => rfl, rfl⟩
set_option maxRecDepth 100000 in
theorem yhG.sr {u : Nat} {s : zq_S} {b : Nat} (hb : 4 ≤ b ∧ b ≤ 22) (j : Int) (x : Option Nat) : yhG u s (zq_sr s b j x) := ⟨fun c hc => ⟨rfl, rfl⟩, fun c hc => by
  funext i
  rw [zq_r_sr, if_neg (fun z => hc (by rw [z.1]; exact hb))], rfl⟩
def yh_tabs (T : Int → Int) (n : Int) : (Int × Int) ⊕ (yLt × Int × Int) := if yp_tl T (n - 7) = -1 then .inl (1, 0) else (match yl_ch T n 999 (yp_tl T (n - 7)) [] (fun _ => none) none with
  | .inl q => .inl (2, q)
  | .inr x => .inr x)
section YLH1
variable {X : Nat × (Nat → Int32)}
set_option maxRecDepth 100000 in
theorem ys_107_53 {S0 : zq_S} {F u : Nat} {T : Int → Int} {n : Int} (hk : ylk S0 F u T) (hn : zq_i S0 F 1 = n) (hb : yTb T) (hC : yp_C T) {a1 a2 : Nat} (ha1 : zq_o 1 a1) (ha2 : zq_o 8 a2) {K : Int → zq_S → Prop} : ∀ (f : Nat) (p : Int) (M : List Int) (E : yLt) (ro : Option (Int × Int)) (S : zq_S) (v5 v6 : Value), v5.category = 1 → v6.category = 1 → f + M.length = 999 → -1000000 < p → p < 1000000 → ylH u S0 S → yLc S u E → ysn S M → (ro = none ↔ M = []) → (∀ r g, ro = some (r, g) → (zq_i S u 2 = r ∧ zq_i S u 3 = g) ∧ (1 ≤ r ∧ r ≤ 9) ∧ (0 ≤ g ∧ g ≤ 9)) →
    (∀ q S', yl_ch T n f p M E ro = .inl q → ylH u S0 S' → K 0 (zq_si (zq_si S' 7 9 2) 7 10 q)) →
    (∀ E' r g S', yl_ch T n f p M E ro = .inr (E', r, g) → ylH u S0 S' → yLc S' u E' → zq_i S' u 2 = r → zq_i S' u 3 = g → (1 ≤ r ∧ r ≤ 9) ∧ (0 ≤ g ∧ g ≤ 9) → K 1 S') →
    zq_Ex X 107 53 [.ref 7, .ref a1, .ref a2, zq_vi p, zq_vi (999 - (f : Int)), v5, v6] [] S (zq_rp zq_bo K)
  | 0, p, M, E, ro, S, v5, v6, h5, h6, hf, p0, p1, fr, hL, hs, hro, hrg, kf, kk => by
    refine zw_107_53 ha1 ha2 ⟨by omega, by omega⟩ ⟨by omega, by omega⟩ h5 h6 ?_
    rw [if_neg (by omega)]
    exact zw_111 ⟨by decide, by decide⟩ ⟨by omega, by omega⟩ (kf p S rfl fr)
  | f + 1, p, M, E, ro, S, v5, v6, h5, h6, hf, p0, p1, fr, hL, hs, hro, hrg, kf, kk => by
    have f1 := hk.1
    have f2 := hk.2.1
    have hkS := hk.fH fr
    have eF : ∀ {S' : zq_S}, ylH u S0 S' → zq_i S' F 1 = n := fun {S'} g => by
      rw [g.1 F 1 (by simp; omega) (fun o o1 o9 z => by unfold ysl at z; omega) (fun z => by omega)]
      exact hn
    have hlen : n ≤ 999 := by
      have h9 := hk.2.2.1.2.1
      have T9 : zq_T F = 999 := by rcases f1 with z | z <;> (subst z; decide +kernel)
      rw [T9, hn] at h9
      exact h9
    have e0 : yl_ch T n (f + 1) p M E ro = if p < 0 ∨ n ≤ p ∨ p ∈ M then .inl p else (match yl_tbl T p E with
      | none => .inl p
      | some (E', r, g, pv) => (match pv with
        | none => .inr (E', ro.getD (r, g))
        | some v => yl_ch T n f v (p :: M) E' (some (ro.getD (r, g))))) := rfl
    refine zw_107_53 ha1 ha2 ⟨by omega, by omega⟩ ⟨by omega, by omega⟩ h5 h6 ?_
    rw [if_pos (by omega)]
    refine ys_112 hkS hs ⟨p0, p1⟩ (fun hz S1 g1 => ?_) (fun hz S1 g1 hi hs1 => ?_)
    · rw [if_pos rfl]
      rw [eF fr] at hz
      exact zw_111 ⟨by decide, by decide⟩ ⟨by omega, by omega⟩ (kf p S1 (by rw [e0, if_pos hz]) (fr.trans g1))
    · rw [if_neg (by decide)]
      rw [eF fr] at hz
      rw [if_neg hz] at e0
      have fr1 := fr.trans g1
      have hp : 0 ≤ p ∧ p < 999 := by
        have a : ¬ p < 0 := fun z => hz (Or.inl z)
        have b : ¬ n ≤ p := fun z => hz (Or.inr (Or.inl z))
        omega
      have hmem : p ∉ M := fun z => hz (Or.inr (Or.inr z))
      have hL1 : yLc S1 u E := hL.fh (by rw [hi]) (by rw [hi]) (fun o o1 o9 => by rw [hi])
      have hx4 : (999 : Int) - ((f + 1 : Nat) : Int) = 0 ↔ M = [] := by
        constructor
        · intro z
          exact List.eq_nil_of_length_eq_zero (by omega)
        · intro z
          rw [z] at hf
          simp at hf
          omega
      refine ys_107_b (hk.fH fr1) hL1 hb hC hp (Lp := fun v w1 w2 s => zq_Ex X 107 53 [(.ref (7)), (.ref (a1)), (.ref (a2)), (zq_vi v), (zq_vi ((999 : Int) - ((f + 1 : Nat) : Int) + 1)), (zq_vi w1), (zq_vi w2)] [] s (zq_rp zq_bo K)) (fun hn' S2 g2 => kf p S2 (by rw [e0, hn']) (fr1.trans g2.H)) (fun E' ro' S2 ht hbo g2 hL2 h0 h1 => ?_)
      obtain ⟨r, gg, pv⟩ := ro'
      rw [ht] at e0
      have fr2 := fr1.trans g2.H
      have hrg2 : (zq_i S2 u 2 = (ro.getD (r, gg)).1 ∧ zq_i S2 u 3 = (ro.getD (r, gg)).2) ∧ (1 ≤ (ro.getD (r, gg)).1 ∧ (ro.getD (r, gg)).1 ≤ 9) ∧ (0 ≤ (ro.getD (r, gg)).2 ∧ (ro.getD (r, gg)).2 ≤ 9) := by
        cases ro with
        | none => exact ⟨h1 (hx4.mpr (hro.mp rfl)), hbo.1, hbo.2.1⟩
        | some q =>
          rw [h0 (fun z => by have := hro.mpr (hx4.mp z); cases this), hi]
          exact hrg q.1 q.2 rfl
      refine ⟨fun hpv => ?_, fun v hpv w1 w2 i1 i2 => ?_⟩
      · have hpv : pv = none := hpv
        rw [hpv] at e0
        have e0 : yl_ch T n (f + 1) p M E ro = .inr (E', ro.getD (r, gg)) := e0
        exact kk E' (ro.getD (r, gg)).1 (ro.getD (r, gg)).2 S2 e0 fr2 hL2 hrg2.1.1 hrg2.1.2 hrg2.2
      · have hv := hbo.2.2 v hpv
        have hpv : pv = some v := hpv
        rw [hpv] at e0
        have e0 : yl_ch T n (f + 1) p M E ro = yl_ch T n f v (p :: M) E' (some (ro.getD (r, gg))) := e0
        rw [e0] at kf kk
        show zq_Ex X 107 53 [(.ref (7)), (.ref (a1)), (.ref (a2)), (zq_vi v), (zq_vi ((999 : Int) - ((f + 1 : Nat) : Int) + 1)), (zq_vi w1), (zq_vi w2)] [] S2 (zq_rp zq_bo K)
        rw [show (999 : Int) - ((f + 1 : Nat) : Int) + 1 = 999 - (f : Int) by omega]
        refine ys_107_53 hk hn hb hC ha1 ha2 f v (p :: M) E' (some (ro.getD (r, gg))) S2 _ _ rfl rfl (by simp only [List.length_cons]; omega) hv.1 hv.2 fr2 hL2 (fun q hq => ?_) ⟨fun z => (by cases z), fun z => (by cases z)⟩ (fun r' g' e => ?_) kf kk
        · rw [g2.2.2.1 20 (by omega)]
          exact hs1 q hq
        · have e : ro.getD (r, gg) = (r', g') := Option.some.inj e
          rw [e] at hrg2
          exact hrg2
set_option maxRecDepth 100000 in
theorem ys_108 {s : zq_S} {u : Nat} (hu : u = 27 ∨ u = 126) {K : zq_S → Prop} (k : ∀ S', (∀ b (j : Int), b ≠ u → (∀ o : Nat, 1 ≤ o → o ≤ 9 → b ≠ ysl u o) → zq_i S' b j = zq_i s b j) → S'.2 = s.2 → (∀ o : Nat, 1 ≤ o → o ≤ 9 → zq_i S' (ysl u o) 0 = 0 ∧ zq_i S' (ysl u o) 1 = 0 ∧ zq_i S' (ysl u o) 2 = 0 ∧ zq_i S' (ysl u o) 3 = 0) → K S') : zq_Ex X 108 0 [.ref u, zz_no] [] s (zq_rv K) := by
  have ou := yk_t8 hu
  have loop : ∀ (m i : Nat) (S' : zq_S), i + m = 9 → (∀ b (j : Int), b ≠ u → (∀ o : Nat, 1 ≤ o → o ≤ 9 → b ≠ ysl u o) → zq_i S' b j = zq_i s b j) → S'.2 = s.2 → (∀ o : Nat, 1 ≤ o → o ≤ i → zq_i S' (ysl u o) 0 = 0 ∧ zq_i S' (ysl u o) 1 = 0 ∧ zq_i S' (ysl u o) 2 = 0 ∧ zq_i S' (ysl u o) 3 = 0) → zq_Ex X 108 12 [.ref u, zq_vi (i : Int)] [] S' (zq_rv K) := by
    intro m
    induction m with
    | zero =>
      intro i S' hi fr fr2 h
      refine zw_108_12 ou ⟨by omega, by omega⟩ ?_
      rw [if_neg (by omega)]
      exact k S' fr fr2 (fun o o1 o9 => h o o1 (by omega))
    | succ m ih =>
      intro i S' hi fr fr2 h
      refine zw_108_12 ou ⟨by omega, by omega⟩ ?_
      have esl : u + 1 + 8 + 10 * ((i : Int)).toNat = ysl u (i + 1) := by unfold ysl; omega
      rw [if_pos (by omega), esl, show (i : Int) + 1 = ((i + 1 : Nat) : Int) by omega]
      refine ⟨⟨by omega, by omega⟩, zw_109 (yk_sl hu (by omega) (by omega)).1 (ih (i + 1) _ (by omega) (fun b j n1 n2 => ?_) fr2 (fun o o1 o9 => ?_))⟩
      · have hne : b ≠ ysl u (i + 1) := n2 (i + 1) (by omega) (by omega)
        rw [zq_i_si, if_neg (fun z => hne z.1), zq_i_si, if_neg (fun z => hne z.1), zq_i_si, if_neg (fun z => hne z.1), zq_i_si, if_neg (fun z => hne z.1)]
        exact fr b j n1 n2
      · by_cases e : o = i + 1
        · subst e
          refine ⟨?_, ?_, ?_, ?_⟩
          · rw [zq_i_si, if_neg (by simp), zq_i_si, if_neg (by simp), zq_i_si, if_neg (by simp), zq_i_si, if_pos ⟨rfl, rfl⟩]
          · rw [zq_i_si, if_neg (by simp), zq_i_si, if_neg (by simp), zq_i_si, if_pos ⟨rfl, rfl⟩]
          · rw [zq_i_si, if_neg (by simp), zq_i_si, if_pos ⟨rfl, rfl⟩]
          · rw [zq_i_si, if_pos ⟨rfl, rfl⟩]
        · have hne : ysl u o ≠ ysl u (i + 1) := fun z => e (ysl_inj o1 (by omega) z)
          have q : ∀ j : Int, zq_i (zq_si (zq_si (zq_si (zq_si S' (ysl u (i + 1)) (0) (0)) (ysl u (i + 1)) (1) (0)) (ysl u (i + 1)) (2) (0)) (ysl u (i + 1)) (3) (0)) (ysl u o) j = zq_i S' (ysl u o) j := fun j => by
            rw [zq_i_si, if_neg (fun z => hne z.1), zq_i_si, if_neg (fun z => hne z.1), zq_i_si, if_neg (fun z => hne z.1), zq_i_si, if_neg (fun z => hne z.1)]
          rw [q 0, q 1, q 2, q 3]
          exact h o o1 (by omega)
  refine zw_108 ou (loop 9 0 _ rfl (fun b j n1 n2 => ?_) rfl (fun o o1 o9 => by omega))
  rw [zq_i_si, if_neg (fun z => n1 z.1), zq_i_si, if_neg (fun z => n1 z.1)]
set_option maxRecDepth 100000 in
theorem ys_110 {s : zq_S} {K : zq_S → Prop} (k : ∀ S', zq_i S' = zq_i s → zq_r S' = zq_r s → (∀ b, b ≠ 20 → zq_l S' b = zq_l s b) → zq_n S' = zq_n s → (∀ i : Nat, i < 16 → zq_l S' 20 i = 0) → K S') : zq_Ex X 110 0 [.ref 20, .long 0, zz_no, zz_no, zz_no] [] s (zq_rv K) := by
  have k20 : zq_k 20 = (2, 3, 16) := by decide +kernel
  have loop : ∀ (m i : Nat) (S' : zq_S), i + m = 16 → zq_i S' = zq_i s → zq_r S' = zq_r s → (∀ b, b ≠ 20 → zq_l S' b = zq_l s b) → zq_n S' = zq_n s → (∀ j : Nat, j < i → zq_l S' 20 j = 0) → zq_Ex X 110 6 [.ref 20, .long 0, zz_no, zq_vi (i : Int), zq_vi (((16 : Nat) : Int))] [] S' (zq_rv K) := by
    intro m
    induction m with
    | zero =>
      intro i S' hi h1 h2 h3 h4 h5
      refine zw_110_6 k20 ⟨by omega, by omega⟩ ⟨by omega, by omega⟩ ?_
      rw [if_neg (by omega)]
      exact k S' h1 h2 h3 h4 (fun j hj => h5 j (by omega))
    | succ m ih =>
      intro i S' hi h1 h2 h3 h4 h5
      refine zw_110_6 k20 ⟨by omega, by omega⟩ ⟨by omega, by omega⟩ ?_
      rw [if_pos (by omega), show (i : Int) + 1 = ((i + 1 : Nat) : Int) by omega]
      refine ⟨⟨by omega, by omega⟩, ih (i + 1) _ (by omega) h1 h2 (fun b hb => ?_) h4 (fun j hj => ?_)⟩
      · rw [← h3 b hb]
        funext j
        rw [zq_l_sl, if_neg (fun z => hb z.1)]
      · rw [zq_l_sl]
        by_cases e : j = i
        · rw [if_pos ⟨rfl, by rw [e]⟩]
        · rw [if_neg (fun z => e (by have := z.2; omega))]
          exact h5 j (by omega)
  exact zw_110 k20 (loop 16 0 s rfl rfl rfl (fun _ _ => rfl) rfl (fun j hj => by omega))
set_option maxRecDepth 100000 in
theorem ys_107 {s : zq_S} {F u : Nat} {T : Int → Int} {n : Int} (f1 : F = 23 ∨ F = 25) (f2 : u = 27 ∨ u = 126) (hok : yc_ok s F) (hT : yc_t s F = T) (hn : zq_i s F 1 = n) (hb : yTb T) (hC : yp_C T) {K : Int → zq_S → Prop}
    (kf : ∀ c q S', yh_tabs T n = .inl (c, q) → yhG u s S' → zq_i S' 7 9 = c → zq_i S' 7 10 = q → K 0 S')
    (kk : ∀ E r g S', yh_tabs T n = .inr (E, r, g) → yhG u s S' → ylk S' F u T → yLc S' u E → zq_i S' u 2 = r → zq_i S' u 3 = g → (1 ≤ r ∧ r ≤ 9) ∧ (0 ≤ g ∧ g ≤ 9) → (∀ o : Nat, 1 ≤ o → o ≤ 9 → zq_i S' (ysl u o) 1 = 0 ∧ zq_i S' (ysl u o) 2 = 0) → K 1 S') : zq_Ex X 107 0 [.ref 7, .ref F, .ref u, zz_no, zz_no, zz_no, zz_no] [] s (zq_rp zq_bo K) := by
  have oF : zq_o 1 F := by rcases f1 with z | z <;> (subst z; decide +kernel)
  have T9 : zq_T F = 999 := by rcases f1 with z | z <;> (subst z; decide +kernel)
  have h9 := hok.2.1
  rw [T9, hn] at h9
  have hn0 := hok.1
  rw [hn] at hn0
  refine zw_107 oF (yk_t8 f2) (ys_108 f2 (fun S1 a1 a2 a3 => ys_110 (fun S2 b1 b2 b3 b4 b5 => ?_)))
  have r1 : zq_r S1 = zq_r (zq_sr (zq_sr s 7 6 (some F)) 7 7 (some u)) := by unfold zq_r; rw [a2]
  have r2 : zq_r S2 = zq_r (zq_sr (zq_sr s 7 6 (some F)) 7 7 (some u)) := b2.trans r1
  have i2 : ∀ b (j : Int), b ≠ 7 → zq_i S2 b j = zq_i S1 b j := fun b j h7 => by
    rw [b1, zq_i_si, if_neg (fun z => h7 z.1)]
  have sl : ∀ o : Nat, 1 ≤ o → o ≤ 9 → 36 ≤ ysl u o := fun o o1 o9 => by unfold ysl; omega
  have g2 : yhG u s S2 := by
    refine ⟨fun b hb' => ⟨?_, ?_⟩, fun b hb' => ?_, ?_⟩
    · funext j
      have n7 : b ≠ 7 := fun z => hb' (Or.inl (by omega))
      rw [i2 b j n7, a1 b j (fun z => hb' (Or.inr (Or.inl z))) (fun o o1 o9 z => hb' (Or.inr (Or.inr ⟨o, o1, o9, Or.inl z⟩)))]
      rfl
    · have n20 : b ≠ 20 := fun z => hb' (Or.inl (by omega))
      rw [b3 b n20]
      show zq_l S1 b = zq_l s b
      have : zq_l S1 = zq_l (zq_sr (zq_sr s 7 6 (some F)) 7 7 (some u)) := by unfold zq_l; rw [a2]
      rw [this]
      rfl
    · rw [r2]
      funext j
      rw [zq_r_sr, if_neg (fun z => by have := z.1; omega), zq_r_sr, if_neg (fun z => by have := z.1; omega)]
    · rw [b4]
      have : zq_n S1 = zq_n (zq_sr (zq_sr s 7 6 (some F)) 7 7 (some u)) := by unfold zq_n; rw [a2]
      show zq_n S1 = _
      rw [this]
      rfl
  have cF : ∀ b, b = F ∨ b = F + 1 → zq_i S2 b = zq_i s b := fun b hb' => by
    funext j
    rw [i2 b j (by omega), a1 b j (by omega) (fun o o1 o9 z => by have := sl o o1 o9; omega)]
    rfl
  have hok2 : yc_ok S2 F := by
    unfold yc_ok
    rw [cF F (Or.inl rfl), cF (F + 1) (Or.inr rfl)]
    exact hok
  have hT2 : yc_t S2 F = T := by
    rw [← hT]
    unfold yc_t
    rw [cF F (Or.inl rfl), cF (F + 1) (Or.inr rfl)]
  have r6 : zq_r S2 7 6 = some F := by rw [r2, zq_r_sr, if_neg (by simp), zq_r_sr, if_pos ⟨rfl, rfl⟩]
  have r7 : zq_r S2 7 7 = some u := by rw [r2, zq_r_sr, if_pos ⟨rfl, rfl⟩]
  have hk2 : ylk S2 F u T := ⟨f1, f2, hok2, hT2, r6, r7⟩
  have n2 : zq_i S2 F 1 = n := by rw [cF F (Or.inl rfl)]; exact hn
  have hsl : ∀ o : Nat, 1 ≤ o → o ≤ 9 → zq_i S2 (ysl u o) 0 = 0 ∧ zq_i S2 (ysl u o) 1 = 0 ∧ zq_i S2 (ysl u o) 2 = 0 ∧ zq_i S2 (ysl u o) 3 = 0 := fun o o1 o9 => by
    have := sl o o1 o9
    rw [i2 _ _ (by omega), i2 _ _ (by omega), i2 _ _ (by omega), i2 _ _ (by omega)]
    exact a3 o o1 o9
  have e78 : zq_i S2 7 8 = 0 := by rw [b1, zq_i_si, if_pos ⟨rfl, rfl⟩]
  have hL2 : yLc S2 u (fun _ => none) := by
    refine ⟨⟨0, by decide, e78, fun o o1 o9 => ⟨fun z => ?_, fun z => absurd rfl z⟩⟩, fun o o1 o9 => ⟨(hsl o o1 o9).1, (hsl o o1 o9).2.2.2⟩⟩
    rw [Nat.zero_testBit] at z
    cases z
  have hs2 : ysn S2 [] := fun q hq => by
    rw [b5 (q / 64) (by omega)]
    constructor
    · intro z
      have e : (0 : Int64).toBitVec = 0#64 := rfl
      rw [e, BitVec.getLsbD_zero] at z
      cases z
    · intro z
      cases z
  refine ⟨F, r6, ys_87 oF hok2 (by omega) ?_⟩
  rw [hT2, n2]
  have htb := yp_tl_b (T := T) (n - 7)
  unfold yh_tabs at kf kk
  refine yl_if (fun ht => ?_) (fun ht => ?_)
  · rw [if_pos ht] at kf
    refine zw_111 ⟨by decide, by decide⟩ ⟨by decide, by decide⟩ (kf 1 0 _ rfl (yhG.trans f2 g2 (yhG.trans f2 (yhG.si (Or.inl (by omega)) _ _) (yhG.si (Or.inl (by omega)) _ _))) ?_ ?_)
    · rw [zq_i_si, if_neg (by simp), zq_i_si, if_pos ⟨rfl, rfl⟩]
    · rw [zq_i_si, if_pos ⟨rfl, rfl⟩]
  · rw [if_neg ht] at kf kk
    have main := ys_107_53 (X := X) hk2 n2 hb hC oF (yk_t8 f2) (K := K) 999 (yp_tl T (n - 7)) [] (fun _ => none) none S2 zz_no zz_no rfl rfl rfl (by omega) (by omega) (ylH.refl _ _) hL2 hs2 ⟨fun _ => rfl, fun _ => rfl⟩ (fun r g e => (by cases e)) (fun q S3 hq g3 => ?_) (fun E' r g S3 hq g3 hL3 hr hg hrb => ?_)
    · exact main
    · rw [hq] at kf
      refine kf 2 q _ rfl (yhG.trans f2 g2 (yhG.trans f2 g3.hG (yhG.trans f2 (yhG.si (Or.inl (by omega)) _ _) (yhG.si (Or.inl (by omega)) _ _)))) ?_ ?_
      · rw [zq_i_si, if_neg (by simp), zq_i_si, if_pos ⟨rfl, rfl⟩]
      · rw [zq_i_si, if_pos ⟨rfl, rfl⟩]
    · rw [hq] at kk
      refine kk E' r g S3 rfl (yhG.trans f2 g2 g3.hG) (hk2.fH g3) hL3 hr hg hrb (fun o o1 o9 => ?_)
      have hs := sl o o1 o9
      have hsu := yk_sl f2 o1 o9
      have e : ∀ j : Int, j ≠ 0 → j ≠ 3 → zq_i S3 (ysl u o) j = zq_i S2 (ysl u o) j := fun j j0 j3 => g3.1 _ j (by simp; omega) (fun _ _ _ _ => ⟨j0, j3⟩) (fun z => by omega)
      rw [e 1 (by decide) (by decide), e 2 (by decide) (by decide)]
      exact ⟨(hsl o o1 o9).2.1, (hsl o o1 o9).2.2.1⟩
end YLH1
