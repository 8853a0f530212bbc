/-! resolving, the reference's side; the law's case follow -/
def yz_R (s : zq_S) (ev : Nat → List ye_E) : Prop := ev 0 = [.inl ye_null] ∧ ∀ n : Nat, n ≤ 9 → (n ≠ 0 → zq_i s 237 n ≠ 0) → ∃ d es, ev n = .inl d :: es ∧ ye_ok d ∧ ye_oks es ∧ ye_at (ym_c s (10 + n)) 0 (ye_op d ++ (ye_pr (ye_nest d) es ++ [0]))
set_option maxRecDepth 100000 in
theorem yI.yz_R {s : zq_S} {dr fl : List Int} {ev : Nat → List ye_E} {ct : Nat → List Int} {F t : Nat} (hI : yI s (dr, fl, ev, ct, F, t)) : yz_R s ev := ⟨hI.2.2.2.2.2.1, fun n h9 hn => by
  have a4 : yI_tab s t ev ct := hI.2.2.2.1
  obtain ⟨tr', dd, es, r1, r2, r3, r4, r5, r6, r7, r8, r9, r10⟩ := hI.root h9 (fun h0 => by
    obtain ⟨d1, d2, _⟩ := a4 n (by omega) h9
    rw [d2] at d1
    rcases d1.1 with w | w
    · exact absurd w (hn h0)
    · exact w)
  exact ⟨dd, es, r4, r5.1, r5.oks.tl, r6⟩⟩
set_option maxRecDepth 100000 in
theorem yz_R.cong {s S : zq_S} {ev : Nat → List ye_E} (h : yz_R s ev) (h1 : zq_i S 237 = zq_i s 237) (h2 : zq_i S 240 = zq_i s 240) (h3 : zq_i S 241 = zq_i s 241) : yz_R S ev := ⟨h.1, fun n h9 hn => by
  rw [ym_c_o h2 h3]
  exact h.2 n h9 (by rw [← h1]; exact hn)⟩
set_option maxRecDepth 100000 in
theorem yz_cong {s S : zq_S} {ev : Nat → List ye_E} (h1 : zq_i S 237 = zq_i s 237) (h2 : zq_i S 238 = zq_i s 238) : ∀ (f m : Nat) (cur : Option Nat) (d : ye_N), yz S ev f m cur d = yz s ev f m cur d
  | 0, _, _, _ => rfl
  | f + 1, m, cur, d => by
    have e : yz_to S d = yz_to s d := by
      unfold yz_to ym_me ym_us
      rw [h1, h2]
    unfold yz
    rw [e, yz_cong h1 h2 f]
def yz_rp (o0 : Nat) (p0 : Int) (cur : Option Nat) (o : Nat) (p : Int) : Prop := match cur with
  | none => o = o0 ∧ p = p0
  | some n => o = n ∧ n ≤ 9 ∧ p = 0
section YLB7
variable {X : Nat × (Nat → Int32)}
set_option maxRecDepth 100000 in
theorem ys_193_e {S : zq_S} {K : zq_S → Prop} {o : Nat} {x1 x2 x3 : Int} {v4 : Value} {d : ye_N} {es : List ye_E} (hx1 : zq_iv x1) (hx2 : zq_iv x2) (hx3 : zq_iv x3) (h4 : v4.category = 1) (hmI : ym_I S) (ho : o ≤ 9) (h47 : zq_i S 232 47 = 10 + o) (p0 : 0 ≤ zq_i S 232 48) (p1 : zq_i S 232 48 ≤ 500) (hd : ye_ok d) (hes : ye_oks es) (hat : ye_at (ym_c S (10 + o)) (zq_i S 232 48) (ye_op d ++ (ye_pr (ye_nest d) es ++ [0])))
    (k : if d.1 = 8 then (zq_Ex X 187 0 [.ref 232, zq_vi d.2.1, zq_vi d.2.2.1] [] S (zq_rp zq_bo fun x_16 s_15 => (if x_16 = 0 then zq_Ex X 193 31 [(.ref (232)), (zq_vi (x1)), (zq_vi (x2)), (zq_vi (d.2.1)), (zq_vi (d.2.2.1))] [] (zq_si (zq_si s_15 (232) (47) (10)) (232) (48) (0)) (zq_rv K) else (((0 : Int) ≤ d.2.1 ∧ d.2.1 < (10 : Int)) ∧ (if zq_i s_15 (254) (d.2.1) = 0 then (((0 : Int) ≤ d.2.1 ∧ d.2.1 < (10 : Int)) ∧ (zq_iv (10 + d.2.1) ∧ zq_Ex X 193 31 [(.ref (232)), (zq_vi (x1)), (zq_vi (x2)), (zq_vi (d.2.1)), (zq_vi (d.2.2.1))] [] (zq_si (zq_si (zq_si s_15 (254) (d.2.1) (1)) (232) (47) (10 + d.2.1)) (232) (48) (0)) (zq_rv K))) else zq_Ex X 193 31 [(.ref (232)), (zq_vi (x1)), (zq_vi (x2)), (zq_vi (d.2.1)), (zq_vi (d.2.2.1))] [] (zq_si s_15 (232) (47) ((-1))) (zq_rv K)))))) else K S) :
    zq_Ex X 193 31 [.ref 232, zq_vi x1, zq_vi x2, zq_vi x3, v4] [] S (zq_rv K) := by
  have hq : ym_q (10 + (o : Int)) := ⟨by omega, by omega, Or.inr (by omega)⟩
  refine zw_193_31 hx1 hx2 hx3 h4 ?_
  rw [if_neg (by omega), h47]
  refine ys_159 hmI hq (by omega) (by omega) ?_
  rw [ye_kind p0 hd hes hat]
  by_cases h8 : d.1 = 8
  · rw [if_pos h8] at k ⊢
    have eo : ye_op d = [48 + d.2.1, 32, 48 + d.2.2.1, 32, 82] := by
      unfold ye_op
      rw [if_neg (by omega), if_neg (by omega), if_neg (by omega), if_neg (by omega), if_neg (by omega), if_neg (by omega), if_neg (by omega), if_neg (by omega)]
    rw [eo] at hat
    have t0 := hat 0 (by simp)
    have t2 := hat 2 (by simp)
    have t0 : ym_c S (10 + o) (zq_i S 232 48) = 48 + d.2.1 := by simpa using t0
    have t2 : ym_c S (10 + o) (zq_i S 232 48 + 2) = 48 + d.2.2.1 := by simpa using t2
    rw [h47]
    refine ys_189 hmI hq ⟨by omega, by omega⟩ ?_
    rw [h47]
    refine ys_190 hmI hq ⟨by omega, by omega⟩ ⟨by omega, by omega⟩ ?_
    rw [t0, t2, show 48 + d.2.1 - 48 = d.2.1 by omega, show 48 + d.2.2.1 - 48 = d.2.2.1 by omega]
    exact k
  · rw [if_neg h8] at k ⊢
    exact k
set_option maxRecDepth 100000 in
theorem ys_193_31 {s : zq_S} {ev : Nat → List ye_E} (hmI : ym_I s) (hR : yz_R s ev) {K : zq_S → Prop} {x1 x2 : Int} (hx1 : zq_iv x1) (hx2 : zq_iv x2) {o0 : Nat} {pp0 : Int} : ∀ (f m : Nat) (S : zq_S) (cur : Option Nat) (o : Nat) (d : ye_N) (es : List ye_E) (x3 : Int) (v4 : Value), zq_iv x3 → v4.category = 1 → m < 1024 → m.testBit 0 = false → 10 ≤ ybc m + f → ymf [47, 48] [254] s S → (∀ n : Nat, n < 10 → zq_i S 254 n = if m.testBit n = true then 1 else 0) → o ≤ 9 → zq_i S 232 47 = 10 + o → 0 ≤ zq_i S 232 48 → zq_i S 232 48 ≤ 500 → ye_ok d → ye_oks es → ye_at (ym_c s (10 + o)) (zq_i S 232 48) (ye_op d ++ (ye_pr (ye_nest d) es ++ [0])) → yz_rp o0 pp0 cur o (zq_i S 232 48) →
    (∀ S', ymf [47, 48] [254] s S' → yz s ev f m cur d = none → zq_i S' 232 47 = -1 → K S') →
    (∀ S' r o', ymf [47, 48] [254] s S' → yz s ev f m cur d = some r → zq_i S' 232 47 = 10 + (o' : Nat) → yz_rp o0 pp0 r o' (zq_i S' 232 48) → K S') →
    zq_Ex X 193 31 [.ref 232, zq_vi x1, zq_vi x2, zq_vi x3, v4] [] S (zq_rv K) := by
  intro f
  induction f with
  | zero =>
    intro m S cur o d es x3 v4 hx3 h4 hm hb0 hc
    exfalso
    have := ybit_le m hm hb0
    omega
  | succ f ih =>
    intro m S cur o d es x3 v4 hx3 h4 hm hb0 hc fr hmet ho h47 p0 p1 hd hes hat hpos k0 k1
    have hTS : ∀ n : Nat, ym_c S (10 + n) = ym_c s (10 + n) := fun n => ym_c_o (fr.i (by simp) (by decide)) (fr.i (by simp) (by decide))
    have hmS : ym_I S := hmI.cong (fun j hj => fr.f (by simp at hj ⊢; omega)) (fr.i (by simp) (by decide))
    refine ys_193_e (o := o) (d := d) (es := es) hx1 hx2 hx3 h4 hmS ho h47 p0 p1 hd hes (by rw [hTS]; exact hat) ?_
    refine yl_if (fun h8 => ?_) (fun h8 => ?_)
    · obtain ⟨g1, g2, g3, g4⟩ := ye_ok8 hd h8
      refine ys_187 ⟨by omega, by omega⟩ ⟨by omega, by omega⟩ ?_
      have eme : ym_me S d.2.1 d.2.2.1 = ym_me s d.2.1 d.2.2.1 := by
        unfold ym_me ym_us
        rw [fr.i (b := 237) (by simp) (by decide), fr.i (b := 238) (by simp) (by decide)]
      rw [eme]
      cases hme : ym_me s d.2.1 d.2.2.1 with
      | false =>
        rw [if_pos (show yb false = 0 from rfl)]
        have hto : yz_to s d = 0 := by unfold yz_to; rw [hme]; rfl
        have hyz : yz s ev (f + 1) m cur d = some (some 0) := by
          unfold yz
          rw [if_pos h8, if_pos hto]
        rw [hyz] at k1
        obtain ⟨d0, es0, e1, e2, e3, e4⟩ := hR.2 0 (by decide) (fun z => absurd rfl z)
        have fr2 : ymf [47, 48] [254] s (zq_si (zq_si S 232 47 10) 232 48 0) := fr.trans ((ymf.sf (by simp)).trans (ymf.sf (by simp)))
        have hT2 : ym_c (zq_si (zq_si S 232 47 10) 232 48 0) (10 + ((0 : Nat) : Int)) = ym_c s (10 + ((0 : Nat) : Int)) := ym_c_o (fr2.i (by simp) (by decide)) (fr2.i (by simp) (by decide))
        have hm2 : ym_I (zq_si (zq_si S 232 47 10) 232 48 0) := hmI.cong (fun j hj => fr2.f (by simp at hj ⊢; omega)) (fr2.i (by simp) (by decide))
        have e47 : zq_i (zq_si (zq_si S 232 47 10) 232 48 0) 232 47 = 10 + ((0 : Nat) : Int) := by rw [zq_i_si, if_neg (by decide), zq_i_at]; rfl
        have e48 : zq_i (zq_si (zq_si S 232 47 10) 232 48 0) 232 48 = 0 := zq_i_at _ _ _ _
        have h80 : ¬ d0.1 = 8 := by
          have e9 := hR.1.symm.trans e1
          have e9 : ye_null = d0 := Sum.inl.inj (List.cons.inj e9).1
          rw [← e9]
          decide
        · refine ys_193_e (o := 0) (d := d0) (es := es0) hx1 hx2 ⟨by omega, by omega⟩ rfl hm2 (by decide) e47 (by rw [e48]; decide) (by rw [e48]; decide) e2 e3 (by rw [hT2, e48]; exact e4) ?_
          rw [if_neg h80]
          refine k1 _ (some 0) 0 fr2 rfl e47 ⟨rfl, by decide, e48⟩
      | true =>
        rw [if_neg (show ¬ yb true = 0 by decide)]
        obtain ⟨⟨_, _, u3⟩, u4⟩ := ym_me_iff.mp hme
        obtain ⟨n, hn⟩ : ∃ n : Nat, d.2.1 = n := ⟨d.2.1.toNat, by omega⟩
        rw [hn] at u3 u4
        have hto : yz_to s d = n := yz_to1 hn (by omega) (by omega) u3 u4
        have hyz : yz s ev (f + 1) m cur d = if m.testBit n = true then none else yz s ev f (m ||| 2 ^ n) (some n) (yz_hd (ev n)) := by
          show (if d.1 = 8 then (if yz_to s d = 0 then some (some 0) else if m.testBit (yz_to s d) = true then none else yz s ev f (m ||| 2 ^ yz_to s d) (some (yz_to s d)) (yz_hd (ev (yz_to s d)))) else some cur) = _
          rw [if_pos h8, hto, if_neg (by omega)]
        rw [hyz] at k0 k1
        rw [hn, hmet n (by omega)]
        refine ⟨⟨by omega, by omega⟩, ?_⟩
        by_cases hbit : m.testBit n = true
        · rw [if_pos hbit] at k0
          rw [if_neg (by rw [if_pos hbit]; decide)]
          have e47 : zq_i (zq_si S 232 47 (-1)) 232 47 = -1 := zq_i_at _ _ _ _
          refine zw_193_31 hx1 hx2 ⟨by omega, by omega⟩ rfl ?_
          rw [if_pos (by rw [e47]; decide)]
          exact k0 _ (fr.trans (ymf.sf (by simp))) rfl e47
        · rw [if_neg hbit] at k0 k1
          rw [if_pos (by rw [if_neg hbit])]
          refine ⟨⟨by omega, by omega⟩, ⟨by omega, by omega⟩, ?_⟩
          obtain ⟨d0, es0, e1, e2, e3, e4⟩ := hR.2 n (by omega) (fun _ => u3)
          have hhd : yz_hd (ev n) = d0 := by rw [e1]; rfl
          rw [hhd] at k0 k1
          have fr2 : ymf [47, 48] [254] s (zq_si (zq_si (zq_si S 254 n 1) 232 47 (10 + n)) 232 48 0) := fr.trans ((ymf.si (by simp) (by decide)).trans ((ymf.sf (by simp)).trans (ymf.sf (by simp))))
          have e48 : zq_i (zq_si (zq_si (zq_si S 254 n 1) 232 47 (10 + n)) 232 48 0) 232 48 = 0 := zq_i_at _ _ _ _
          have e47 : zq_i (zq_si (zq_si (zq_si S 254 n 1) 232 47 (10 + n)) 232 48 0) 232 47 = 10 + (n : Int) := by rw [zq_i_si, if_neg (by decide), zq_i_at]
          have hcnt := ybit_cnt m hm n (by omega) (by simpa using hbit)
          refine ih (m ||| 2 ^ n) _ (some n) n d0 es0 _ _ ⟨by omega, by omega⟩ rfl (ybit_set m hm n (by omega)).2 ?_ (by omega) fr2 (fun i hi => ?_) (by omega) e47 (by rw [e48]; decide) (by rw [e48]; decide) e2 e3 (by rw [e48]; exact e4) ⟨rfl, by omega, e48⟩ k0 k1
          · rw [ybit_or, hb0]
            simp
            omega
          · rw [zq_i_si, if_neg (fun z => absurd z.1 (by decide)), zq_i_si, if_neg (fun z => absurd z.1 (by decide)), zq_i_si, ybit_or]
            by_cases hin : i = n
            · subst hin
              rw [if_pos ⟨rfl, rfl⟩]
              simp
            · rw [if_neg (fun z => hin (by have := z.2; omega)), hmet i hi, decide_eq_false (fun z => hin z.symm), Bool.or_false]
    · refine k1 S cur o fr ?_ h47 hpos
      unfold yz
      rw [if_neg h8]
set_option maxRecDepth 100000 in
theorem ys_193_2 {s : zq_S} {K : zq_S → Prop} {x1 x2 : Int} (hx1 : zq_iv x1) (hx2 : zq_iv x2) : ∀ (n j : Nat) (S : zq_S) (v4 : Value), v4.category = 1 → j + n = 10 → ymf [47, 48] [254] s S → (∀ i : Nat, i < j → zq_i S 254 i = 0) → (∀ S' v4', v4'.category = 1 → ymf [47, 48] [254] s S' → (∀ i : Nat, i < 10 → zq_i S' 254 i = 0) → zq_i S' 232 47 = x1 → zq_i S' 232 48 = x2 → zq_Ex X 193 31 [.ref 232, zq_vi x1, zq_vi x2, zq_vi 10, v4'] [] S' (zq_rv K)) → zq_Ex X 193 2 [.ref 232, zq_vi x1, zq_vi x2, zq_vi (j : Int), v4] [] S (zq_rv K)
  | 0, j, S, v4, h4, hj, fr, hz, k => by
    refine zw_193_2 hx1 hx2 ⟨by omega, by omega⟩ h4 ?_
    have e : (j : Int) = 10 := by omega
    rw [if_neg (by omega), e]
    refine k _ v4 h4 (fr.trans ((ymf.sf (by simp)).trans (ymf.sf (by simp)))) (fun i hi => ?_) ?_ (zq_i_at _ _ _ _)
    · rw [zq_i_si, if_neg (fun z => absurd z.1 (by decide)), zq_i_si, if_neg (fun z => absurd z.1 (by decide))]
      exact hz i (by omega)
    · rw [zq_i_si, if_neg (by decide), zq_i_at]
  | n + 1, j, S, v4, h4, hj, fr, hz, k => by
    refine zw_193_2 hx1 hx2 ⟨by omega, by omega⟩ h4 ?_
    rw [if_pos (by omega)]
    refine ⟨⟨by omega, by omega⟩, ?_⟩
    rw [show (j : Int) + 1 = ((j + 1 : Nat) : Int) by omega]
    refine ys_193_2 hx1 hx2 n (j + 1) _ v4 h4 (by omega) (fr.trans (ymf.si (by simp) (by decide))) (fun i hi => ?_) k
    rw [zq_i_si]
    by_cases e : i = j
    · rw [if_pos ⟨rfl, by omega⟩]
    · rw [if_neg (fun z => e (by have := z.2; omega))]
      exact hz i (by omega)
set_option maxRecDepth 100000 in
theorem ymf.yI {J : List Int} {B : List Nat} {s S : zq_S} {A : yA} (hI : yI s A) (f : ymf J B s S) (hJ : ∀ j ∈ yJ, j ∉ J) (hB : ∀ b ∈ B, (235 ≤ b ∧ b ≤ 236) ∨ (245 ≤ b ∧ b ≤ 255)) (hm : ym_I S) : yI S A := yk.yI (F := A.2.2.2.2.1) hI rfl ⟨fun b hb h2 => f.i (fun z => hb (by have := hB b z; unfold yirr; omega)) h2, fun j hj => f.f (hJ j hj), fun b _ => (by unfold zq_r; rw [f.2.2]), fun b _ _ => (by unfold zq_l; rw [f.2.2])⟩ hm
set_option maxRecDepth 100000 in
theorem ymf.n {J : List Int} {B : List Nat} {s S : zq_S} (f : ymf J B s S) : zq_n S = zq_n s := by unfold zq_n; rw [f.2.2]
set_option maxRecDepth 100000 in
theorem ymf.r {J : List Int} {B : List Nat} {s S : zq_S} (f : ymf J B s S) : zq_r S = zq_r s := by unfold zq_r; rw [f.2.2]
set_option maxRecDepth 100000 in
theorem ymf.l {J : List Int} {B : List Nat} {s S : zq_S} (f : ymf J B s S) : zq_l S = zq_l s := by unfold zq_l; rw [f.2.2]
set_option maxRecDepth 100000 in
theorem yl_227 {S : zq_S} {ev : Nat → List ye_E} {K : Int → zq_S → Prop} {o : Nat} {d : ye_N} {es : List ye_E} (hmI : ym_I S) (hR : yz_R S ev) (ho : o ≤ 9) (h19 : zq_i S 232 19 = o) (g0 : 0 ≤ zq_i S 232 20) (g1 : zq_i S 232 20 ≤ 500) (hd : ye_ok d) (hes : ye_oks es) (hat : ye_at (ym_c S (10 + o)) (zq_i S 232 20) (ye_op d ++ (ye_pr (ye_nest d) es ++ [0])))
    (k0 : yz S ev 10 0 none d = none → ∀ S', ymf [0, 47, 48] [254] S S' → K 0 (zq_si S' 232 0 2))
    (k1 : ∀ (r : Option Nat) (S' : zq_S) (o' : Nat) (p' : Int), yz S ev 10 0 none d = some r → ymf [0, 47, 48] [254] S S' → yz_rp o (zq_i S 232 20) r o' p' → o' ≤ 9 → 0 ≤ p' → p' ≤ 500 → K (yp_kind (ym_c S (10 + o')) p') (zq_si (zq_si (zq_si S' 232 0 0) 232 19 o') 232 20 p')) :
    zq_Ex X 227 0 [.ref 232] [] S (zq_rp zq_iv K) := by
  refine zw_227 ?_
  rw [if_neg (by omega), h19]
  have e0 : ∀ b, b ≠ 232 → zq_i (zq_si S 232 0 0) b = zq_i S b := fun b hb => by
    funext j
    rw [zq_i_si, if_neg (fun z => hb z.1)]
  have ej : ∀ j : Int, j ≠ 0 → zq_i (zq_si S 232 0 0) 232 j = zq_i S 232 j := fun j hj => by rw [zq_i_si, if_neg (fun z => hj z.2)]
  have hT0 : ∀ n : Nat, ym_c (zq_si S 232 0 0) (10 + n) = ym_c S (10 + n) := fun n => ym_c_o (e0 240 (by decide)) (e0 241 (by decide))
  have hR0 : yz_R (zq_si S 232 0 0) ev := hR.cong (e0 237 (by decide)) (e0 240 (by decide)) (e0 241 (by decide))
  have hx1 : zq_iv (10 + (o : Int)) := ⟨by omega, by omega⟩
  have hx2 : zq_iv (zq_i S 232 20) := ⟨by omega, by omega⟩
  have hyz := yz_cong (ev := ev) (e0 237 (by decide)) (e0 238 (by decide)) 10 0 none d
  refine zw_193 hx1 hx2 (ys_193_2 (s := zq_si S 232 0 0) hx1 hx2 10 0 _ _ rfl rfl (ymf.refl _ _ _) (fun i hi => (by cases hi)) (fun S1 v4 h4 fr hz h47 h48 => ?_))
  have fin : ∀ S', ymf [47, 48] [254] (zq_si S 232 0 0) S' → ymf [0, 47, 48] [254] S S' := fun S' f => (ymf.sf (by simp)).trans (f.mono (by simp) (by simp))
  refine ys_193_31 (s := zq_si S 232 0 0) (ev := ev) (o0 := o) (pp0 := zq_i S 232 20) (hmI.th 0) hR0 hx1 hx2 10 0 S1 none o d es 10 v4 ⟨by decide, by decide⟩ h4 (by decide) (by decide) (by decide) fr (fun n hn => ?_) ho h47 (by rw [h48]; exact g0) (by rw [h48]; exact g1) hd hes (by rw [h48, hT0]; exact hat) ⟨rfl, h48⟩ (fun S' f hz2 h9 => ?_) (fun S' r o' f hz2 h9 hp => ?_)
  · rw [hz n hn, Nat.zero_testBit]
    rfl
  · rw [if_pos (by rw [h9]; decide)]
    exact k0 (hyz.symm.trans hz2) S' (fin S' f)
  · have hb : o' ≤ 9 ∧ 0 ≤ zq_i S' 232 48 ∧ zq_i S' 232 48 ≤ 500 := by
      cases r with
      | none => obtain ⟨a1, a2⟩ := hp; omega
      | some n => obtain ⟨a1, a2, a3⟩ := hp; omega
    rw [if_neg (by omega), h9, show 10 + (o' : Int) - 10 = o' by omega]
    refine ⟨⟨by omega, by omega⟩, zw_225 ?_⟩
    have f3 := fin S' f
    have ei : ∀ b, b ≠ 232 → b ≠ 254 → zq_i (zq_si (zq_si (zq_si S' 232 0 0) 232 19 o') 232 20 (zq_i S' 232 48)) b = zq_i S b := fun b h2 h4 => by
      funext j
      rw [zq_i_si, if_neg (fun z => h2 z.1), zq_i_si, if_neg (fun z => h2 z.1), zq_i_si, if_neg (fun z => h2 z.1), f3.i (by simp; exact h4) h2]
    have hm3 : ym_I (zq_si (zq_si (zq_si S' 232 0 0) 232 19 o') 232 20 (zq_i S' 232 48)) := by
      have : ym_I S' := hmI.cong (fun j hj => f3.f (by simp at hj ⊢; omega)) (f3.i (by simp) (by decide))
      exact ((this.th 0).j _ (by decide)).j _ (by decide)
    have hT3 : ym_c (zq_si (zq_si (zq_si S' 232 0 0) 232 19 o') 232 20 (zq_i S' 232 48)) (10 + o') = ym_c S (10 + o') := ym_c_o (ei 240 (by decide) (by decide)) (ei 241 (by decide) (by decide))
    rw [zq_i_at, show zq_i (zq_si (zq_si (zq_si S' 232 0 0) 232 19 o') 232 20 (zq_i S' 232 48)) 232 19 = o' by rw [zq_i_si, if_neg (by decide), zq_i_at]]
    refine ys_159 hm3 ⟨by omega, by omega, Or.inr (by omega)⟩ (by omega) (by omega) ?_
    rw [hT3]
    exact k1 r S' o' _ (hyz.symm.trans hz2) f3 hp hb.1 hb.2.1 hb.2.2
end YLB7
