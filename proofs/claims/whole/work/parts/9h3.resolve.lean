/-! load: the class resolves a Length -/
def yh_me (E : yLt) (d : ye_N) : Nat := match yh_u E d.2.1.toNat with
  | some pg => if pg.2 = d.2.2.1 then d.2.1.toNat else 0
  | none => 0
def yh_ln (T : Int → Int) (E : yLt) : Nat → Nat → ye_N → Option (Nat ⊕ Int)
  | 0, _, _ => none
  | f + 1, m, d => if d.1 = 8 then (if yh_me E d = 0 then none else if m.testBit (yh_me E d) = true then none else (match yh_V T E (yh_me E d) with
    | none => some (.inl (yh_me E d))
    | some (_, es) => yh_ln T E f (m ||| 2 ^ yh_me E d) (yz_hd es))) else if d.1 = 3 then some (.inr d.2.1) else none
def yh_L (T : Int → Int) (E : yLt) (es : List ye_E) : Option (Nat ⊕ Int) := match ye_fk yNL es 0 with
  | none => none
  | some (d', _) => yh_ln T E 10 0 d'
def yh_ct (T : Int → Int) (q : Int) (n : Nat) : Bool := decide (∀ i : Nat, i < n → 32 ≤ T (q + i))
def yh_end (T : Int → Int) (E : yLt) (o : Nat) : (Int × Int) ⊕ Option Int := match yh_V T E o with
  | none => .inl (3, yh_pl E o)
  | some (q, es) => if yp_has T yX_neo q = true then .inr none else if yp_has T yX_nst q = true ∧ (yz_hd es).1 = 7 then (match yh_L T E es.tail with
    | none => .inl (4, yh_pl E o)
    | some (.inl r) => .inl (3, yh_pl E r)
    | some (.inr n) => if n < 0 ∨ 12 < n then .inl (4, yh_pl E o) else if yh_ct T (q + 8) n.toNat = true ∧ yp_has T yX_nes (q + 8 + n) = true then .inr (some n) else .inl (3, yh_pl E o)) else .inl (3, yh_pl E o)
def yh_all (T : Int → Int) (E : yLt) : Nat → Nat → Option (Int × Int)
  | 0, _ => none
  | k + 1, o => if yh_u E o = none then yh_all T E k (o + 1) else (match yh_end T E o with
    | .inl x => some x
    | .inr _ => yh_all T E k (o + 1))
/-- the probe alone moves -/
def yz10 (s S : zq_S) : Prop := (∀ b, b ≠ 10 → zq_i S b = zq_i s b) ∧ (∀ b, b ≠ 10 → zq_r S b = zq_r s b) ∧ zq_l S = zq_l s ∧ zq_n S = zq_n s
set_option maxRecDepth 100000 in
theorem yz10.refl (s : zq_S) : yz10 s s := ⟨fun _ _ => rfl, fun _ _ => rfl, rfl, rfl⟩
set_option maxRecDepth 100000 in
theorem yz10.si {s S : zq_S} (h : yz10 s S) (j x : Int) : yz10 s (zq_si S 10 j x) := ⟨fun b hb => by
  funext i
  rw [zq_i_si, if_neg (fun z => hb z.1), h.1 b hb], h.2⟩
set_option maxRecDepth 100000 in
theorem yz10.sr {s S : zq_S} (h : yz10 s S) (j : Int) (x : Option Nat) : yz10 s (zq_sr S 10 j x) := ⟨h.1, fun b hb => by
  funext i
  rw [zq_r_sr, if_neg (fun z => hb z.1), h.2.1 b hb], h.2.2⟩
set_option maxRecDepth 100000 in
theorem ye_okk {d : ye_N} (h : ye_ok d) : 0 ≤ d.1 ∧ d.1 ≤ 8 := by
  rcases h.2 with k | ⟨k, _⟩ | ⟨k, _⟩ | ⟨k, _⟩ | ⟨k, _⟩ <;> omega
/-- a node of a tree where the probe stands -/
def ypb (s S : zq_S) (tr : Nat) (j l : Int) (d : ye_N) : Prop := zq_r S 10 0 = some tr ∧ zq_i S 10 1 = j ∧ (zq_o 4 tr ∧ 29 ≤ tr) ∧ (0 ≤ j ∧ j < zq_i s tr 0 ∧ zq_i s tr 0 ≤ 12) ∧ yt_nd s tr j l d ∧ ye_ok d
/-- it stands at a tree without nodes -/
def ypn (s S : zq_S) (r : Nat) : Prop := ∃ tr, zq_r S 10 0 = some tr ∧ zq_i S 10 1 = 0 ∧ (zq_o 4 tr ∧ 29 ≤ tr) ∧ zq_i s tr 0 = 0 ∧ zq_i S 10 2 = r ∧ 1 ≤ r ∧ r ≤ 9
section YLH3
variable {X : Nat × (Nat → Int32)}
set_option maxRecDepth 100000 in
theorem ys_48e {s : zq_S} {K : Int → zq_S → Prop} {a : Nat} {x : Int} (ha : zq_o 4 a) (h0 : zq_i s a 0 = 0) (hx : zq_iv x) (k : K (-1) s) : zq_Ex X 48 0 [.ref a, zq_vi x] [] s (zq_rp zq_iv K) := ys_48 ha (by rw [h0]; decide) hx (by rw [if_neg (by rw [h0]; omega)]; exact k)
set_option maxRecDepth 100000 in
theorem ys_93_4L {s : zq_S} {u : Nat} {T : Int → Int} {E : yLt} (f2 : u = 27 ∨ u = 126) (hL : yCv s u E) (hE : yLb E) (hD : yD s u) (hV : ∀ o : Nat, 1 ≤ o → o ≤ 9 → yVo s u T E o) (hN : yt_tr s (u + 2) 0 0 [.inl ye_null]) {K : Int → zq_S → Prop} : ∀ (f m : Nat) (S : zq_S) (tr : Nat) (j l : Int) (d : ye_N) (v4 v5 : Value), v4.category = 1 → v5.category = 1 → m < 1024 → m.testBit 0 = false → 10 ≤ ybc m + f → f ≤ 10 → yz10 s S → ypb s S tr j l d →
    (∀ S' tr' j' l' d', yz10 s S' → yh_ln T E f m d = none → ypb s S' tr' j' l' d' → K 0 S') →
    (∀ S' tr' j' l' d', yz10 s S' → ypb s S' tr' j' l' d' → yh_ln T E f m d = (if d'.1 = 3 then some (.inr d'.2.1) else none) → K 1 S') →
    (∀ S' r, yz10 s S' → ypn s S' r → yh_ln T E f m d = some (.inl r) → K 1 S') →
    zq_Ex X 93 4 [.ref u, .ref 10, zq_vi (m : Int), zq_vi (10 - (f : Int)), v4, v5] [] S (zq_rp zq_bo K) := by
  have ot : zq_o 8 u := yk_t8 f2
  have ot2 : zq_o 4 (u + 2) := by rcases f2 with z | z <;> (subst z; decide +kernel)
  have o4 : zq_o 2 10 := by decide +kernel
  intro f
  induction f with
  | zero =>
    intro m S tr j l d v4 v5 h4 h5 hm hm0 hbc hf fr hp k0 k1 k2
    have := ybit_le m hm hm0
    omega
  | succ f ih =>
    intro m S tr j l d v4 v5 h4 h5 hm hm0 hbc hf fr hp k0 k1 k2
    obtain ⟨hr, hj, htr, hjb, hnd, hok⟩ := id hp
    have nt : ∀ i, i < 7 → tr + i ≠ 10 := fun i hi => by omega
    refine zw_93_4 ot o4 ⟨by omega, by omega⟩ ⟨by omega, by omega⟩ h4 h5 ?_
    rw [if_pos (by omega)]
    refine zw_94 o4 ⟨fun z => ?_, fun b hb => ?_⟩
    · rw [hr] at z; cases z
    have hb : tr = b := Option.some.inj (hr.symm.trans hb)
    subst hb
    rw [hj]
    refine ys_48n (d := d.1) htr.1 (by rw [fr.1 tr (nt 0 (by decide))]; exact hjb.2.2) hjb.1 (by rw [fr.1 tr (nt 0 (by decide))]; exact hjb.2.1) (by rw [fr.1 (tr + 1) (nt 1 (by decide))]; exact hnd.1) ?_
    have e0 : yh_ln T E (f + 1) m d = if d.1 = 8 then (if yh_me E d = 0 then none else if m.testBit (yh_me E d) = true then none else (match yh_V T E (yh_me E d) with
      | none => some (.inl (yh_me E d))
      | some (_, es) => yh_ln T E f (m ||| 2 ^ yh_me E d) (yz_hd es))) else if d.1 = 3 then some (.inr d.2.1) else none := rfl
    refine yl_if (fun h8 => ?_) (fun h8 => ?_)
    · rw [if_pos h8] at e0
      refine ⟨fun z => ?_, fun b hb => ?_⟩
      · rw [hr] at z; cases z
      have hb : tr = b := Option.some.inj (hr.symm.trans hb)
      subst hb
      have e3 : zq_i S (tr + 3) (zq_i S 10 1) = d.2.1 := by
        rw [hj, fr.1 (tr + 3) (nt 3 (by decide)), hnd.2.2.1]
        unfold ye_nu
        rw [if_neg (by omega), if_pos (by omega)]
      have e4 : zq_i S (tr + 4) (zq_i S 10 1) = d.2.2.1 := by
        rw [hj, fr.1 (tr + 4) (nt 4 (by decide))]
        exact hnd.2.2.2.1 h8
      rw [e3, e4, hj]
      obtain ⟨g1, g2, g3, g4⟩ := ye_ok8 hok h8
      have nul : yh_me E d = 0 → zq_Ex X 92 0 [.ref 10, .ref (u + 2), zq_vi 0] [] S (zq_rv fun s_15 => K 1 s_15) := fun h0 => by
        refine zw_92 o4 ot2 ⟨by decide, by decide⟩ ?_
        obtain ⟨m1, m2, m3⟩ := hN.node
        refine k1 _ (u + 2) 0 0 ye_null ((fr.sr 0 _).si 1 0) ⟨?_, zq_i_at _ _ _ _, ⟨ot2, by omega⟩, ⟨by decide, m3, hN.2.2.2⟩, m1, ⟨Or.inl rfl, Or.inl (Or.inl rfl)⟩⟩ ?_
        · rw [zq_r_si, zq_r_sr, if_pos ⟨rfl, rfl⟩]
        · rw [e0, if_pos h0]
          rfl
      have hLS : yCv S u E := hL.cong (fun o o1 o9 j' _ => by rw [fr.1 (ysl u o) (by have := yk_sl f2 o1 o9; omega)]) (fr.1 18 (by decide))
      refine ⟨⟨by omega, by omega⟩, ⟨by omega, by omega⟩, zw_32 ot ⟨by omega, by omega⟩ ⟨by omega, by omega⟩ (ys_33L f2 hLS ⟨by omega, by omega⟩ (fun hno => ⟨fun _ => ⟨fun _ => nul ?_, fun b z => (by cases z)⟩, fun b z => (by cases z)⟩) (fun o p g ho h1 h9 hu => ⟨fun z => (by cases z), fun b hbb => ?_⟩))⟩
      · have := hno d.2.1.toNat (by omega) (by omega) (by omega)
        unfold yh_me
        rw [this]
      · have hbb : ysl u o = b := Option.some.inj hbb
        subst hbb
        have hto : d.2.1.toNat = o := by omega
        obtain ⟨q1, q2, q3, q4, q5, q6, q7, q8, q9⟩ := yk_sl f2 h1 h9
        obtain ⟨b1, b2, b3, b4⟩ := yh_u_b hE hu
        have hg3 : zq_i S (ysl u o) 3 = g := by rw [(hLS o h1 h9).2.1]; exact b3
        rw [hg3]
        refine yl_if (fun hg => ⟨fun z => (by cases z), fun b hbb => ?_⟩) (fun hg => ⟨fun _ => nul ?_, fun b z => (by cases z)⟩)
        · have hbb : ysl u o = b := Option.some.inj hbb
          subst hbb
          have hme : yh_me E d = o := by
            unfold yh_me
            rw [hto, hu]
            show (if g = d.2.2.1 then o else 0) = o
            rw [if_pos hg]
          rw [hme, if_neg (by omega)] at e0
          rw [ho]
          refine zw_35 ⟨by omega, by omega⟩ ⟨by omega, by omega⟩ ?_
          rw [ybit_get m hm o (by omega)]
          by_cases hbit : m.testBit o = true
          · rw [if_pos hbit] at e0
            rw [if_pos (by rw [if_pos hbit]), if_neg (by decide)]
            exact k0 S tr j l d fr e0 hp
          · rw [if_neg hbit] at e0
            rw [if_neg (by rw [if_neg hbit]; decide), if_pos rfl]
            have hbf : m.testBit o = false := by
              cases z : m.testBit o with
              | true => exact absurd z hbit
              | false => rfl
            have hcnt := ybit_cnt m hm o (by omega) hbf
            have hset := ybit_set m hm o (by omega)
            have hm0' : (m ||| 2 ^ o).testBit 0 = false := by
              rw [ybit_or, hm0, Bool.false_or]
              exact decide_eq_false (by omega)
            have hle := ybit_le _ hset.2 hm0'
            obtain ⟨tr', r1, r2⟩ := hV o h1 h9 (by rw [hu]; simp)
            obtain ⟨tr2, y1, y2, y3⟩ := hD o h1 h9
            have htt : tr2 = tr' := Option.some.inj (y1.symm.trans r1)
            subst htt
            refine ⟨tr2, by rw [fr.2.1 (ysl u o) (by omega)]; exact r1, zw_92 o4 y2.1 ⟨by decide, by decide⟩ ?_⟩
            rw [hset.1, show 10 - ((f + 1 : Nat) : Int) + 1 = 10 - (f : Int) by omega]
            have frn : yz10 s (zq_si (zq_sr (zq_si S 10 2 (o : Int)) 10 0 (some tr2)) 10 1 0) := ((fr.si 2 _).sr 0 _).si 1 0
            have rn : zq_r (zq_si (zq_sr (zq_si S 10 2 (o : Int)) 10 0 (some tr2)) 10 1 0) 10 0 = some tr2 := by rw [zq_r_si, zq_r_sr, if_pos ⟨rfl, rfl⟩]
            have jn : zq_i (zq_si (zq_sr (zq_si S 10 2 (o : Int)) 10 0 (some tr2)) 10 1 0) 10 1 = 0 := zq_i_at _ _ _ _
            cases hv : yh_V T E o with
            | none =>
              rw [hv] at r2 e0
              have e0 : yh_ln T E (f + 1) m d = some (.inl o) := e0
              have r2 : zq_i s tr2 0 = 0 := r2
              have t0 : zq_i (zq_si (zq_sr (zq_si S 10 2 (o : Int)) 10 0 (some tr2)) 10 1 0) tr2 0 = 0 := by rw [frn.1 tr2 (by omega)]; exact r2
              refine zw_93_4 ot o4 ⟨by omega, by omega⟩ ⟨by omega, by omega⟩ rfl rfl ?_
              rw [if_pos (by omega)]
              refine zw_94 o4 ⟨fun z => ?_, fun b hb => ?_⟩
              · rw [rn] at z; cases z
              have hb : tr2 = b := Option.some.inj (rn.symm.trans hb)
              subst hb
              refine ys_48e y2.1 t0 (by rw [jn]; exact ⟨by decide, by decide⟩) ?_
              rw [if_neg (by decide)]
              refine k2 _ o frn ⟨tr2, rn, jn, ⟨y2.1, by omega⟩, r2, ?_, h1, h9⟩ e0
              rw [zq_i_si, if_neg (by simp), zq_i_sr, zq_i_si, if_pos ⟨rfl, rfl⟩]
            | some x =>
              obtain ⟨q, es⟩ := x
              rw [hv] at r2 e0
              obtain ⟨r3, r4, r5, r6⟩ := r2
              have e0 : yh_ln T E (f + 1) m d = yh_ln T E f (m ||| 2 ^ o) (yz_hd es) := e0
              rw [e0] at k0 k1 k2
              obtain ⟨⟨dd, es', ed, er⟩, ewf, _⟩ := r4
              rw [ed] at r3 ewf
              have hhd : yz_hd es = dd := by rw [ed]; rfl
              rw [hhd] at k0 k1 k2
              obtain ⟨n1, n2, n3⟩ := r3.node
              exact ih (m ||| 2 ^ o) _ tr2 0 0 dd _ _ rfl rfl hset.2 hm0' (by omega) (by omega) frn ⟨rn, jn, ⟨y2.1, by omega⟩, ⟨by decide, n3, r3.2.2.2⟩, n1, ewf.1⟩ k0 k1 k2
        · unfold yh_me
          rw [hto, hu]
          show (if g = d.2.2.1 then o else 0) = 0
          rw [if_neg hg]
    · rw [if_neg h8] at e0
      exact k1 S tr j l d fr hp e0
set_option maxRecDepth 100000 in
theorem ys_91L {s S : zq_S} {u : Nat} {T : Int → Int} {E : yLt} (f2 : u = 27 ∨ u = 126) (hL : yCv s u E) (hE : yLb E) (hD : yD s u) (hV : ∀ o : Nat, 1 ≤ o → o ≤ 9 → yVo s u T E o) (hN : yt_tr s (u + 2) 0 0 [.inl ye_null]) (fr : yz10 s S) {tr : Nat} {d : ye_N} {es : List ye_E} (htr : zq_o 4 tr ∧ 29 ≤ tr) (ht : yt_tr s tr 0 0 (.inl d :: es)) (h7 : d.1 = 7) (hwf : ye_wf [] (.inl d :: es)) (hr : ye_rest d es = some []) {K : Int → zq_S → Prop}
    (k0 : ∀ S' tr' j' l' d', yz10 s S' → yh_L T E es = none → ypb s S' tr' j' l' d' → K (-1) S')
    (k1 : ∀ S' tr' j' l' d' n, yz10 s S' → yh_L T E es = some (.inr n) → ypb s S' tr' j' l' d' → K n S')
    (k2 : ∀ S' r, yz10 s S' → yh_L T E es = some (.inl r) → ypn s S' r → K (-1) S') : zq_Ex X 91 0 [.ref u, .ref tr, .ref 10, zz_no, zz_no] [] S (zq_rp zq_iv K) := by
  have o4 : zq_o 2 10 := by decide +kernel
  have ot2 : zq_o 4 (u + 2) := by rcases f2 with z | z <;> (subst z; decide +kernel)
  have hn : ye_nest d = true := decide_eq_true (Or.inr h7)
  have trS : ∀ {a : Nat} {k l : Int} {es : List ye_E}, zq_o 4 a ∧ 29 ≤ a → yt_tr s a k l es → yt_tr S a k l es := fun {a k l es} h hh => hh.cong (fun q hq => fr.1 q (by have := yk_t7 hq; omega)) (by rw [fr.2.2.1])
  -- behind resolving
  have fin : ∀ {S' : zq_S} {dd : ye_N} {tr' : Nat} {j' l' : Int}, yz10 s S' → ypb s S' tr' j' l' dd → yh_L T E es = (if dd.1 = 3 then some (.inr dd.2.1) else none) → zq_Ex X 94 0 [(.ref (10))] [] S' (zq_rp zq_iv fun x_11 s_10 => (if x_11 = 3 then ((zq_r s_10 (10) 0 = none → False) ∧ (∀ b_15 : Nat, zq_r s_10 (10) 0 = some b_15 → (((0 : Int) ≤ zq_i s_10 (10) (1) ∧ zq_i s_10 (10) (1) < (12 : Int)) ∧ K (zq_i s_10 (b_15 + 3) (zq_i s_10 (10) (1))) s_10))) else K ((-1)) s_10)) := fun {S' dd tr' j' l'} fr' hp e => by
    obtain ⟨hr', hj', ht', hb, hnd, hok⟩ := id hp
    refine zw_94 o4 ⟨fun z => ?_, fun b hb2 => ?_⟩
    · rw [hr'] at z; cases z
    have hb2 : tr' = b := Option.some.inj (hr'.symm.trans hb2)
    subst hb2
    rw [hj']
    refine ys_48n (d := dd.1) ht'.1 (by rw [fr'.1 tr' (by omega)]; exact hb.2.2) hb.1 (by rw [fr'.1 tr' (by omega)]; exact hb.2.1) (by rw [fr'.1 (tr' + 1) (by omega)]; exact hnd.1) ?_
    refine yl_if (fun h3 => ⟨fun z => ?_, fun b hb3 => ⟨⟨by omega, by omega⟩, ?_⟩⟩) (fun h3 => ?_)
    · rw [hr'] at z; cases z
    · have hb3 : tr' = b := Option.some.inj (hr'.symm.trans hb3)
      subst hb3
      rw [if_pos h3] at e
      rw [hj', fr'.1 (tr' + 3) (by omega), hnd.2.2.1]
      have : ye_nu dd = dd.2.1 := by unfold ye_nu; rw [if_neg (by omega), if_pos (by omega)]
      rw [this]
      exact k1 S' tr' j' l' dd dd.2.1 fr' e hp
    · rw [if_neg h3] at e
      exact k0 S' tr' j' l' dd fr' e hp
  have fin2 : ∀ {S' : zq_S} {r : Nat}, yz10 s S' → ypn s S' r → yh_L T E es = some (.inl r) → zq_Ex X 94 0 [(.ref (10))] [] S' (zq_rp zq_iv fun x_11 s_10 => (if x_11 = 3 then ((zq_r s_10 (10) 0 = none → False) ∧ (∀ b_15 : Nat, zq_r s_10 (10) 0 = some b_15 → (((0 : Int) ≤ zq_i s_10 (10) (1) ∧ zq_i s_10 (10) (1) < (12 : Int)) ∧ K (zq_i s_10 (b_15 + 3) (zq_i s_10 (10) (1))) s_10))) else K ((-1)) s_10)) := fun {S' r} fr' hp e => by
    obtain ⟨tr', hr', hj', ht', h0, _⟩ := id hp
    refine zw_94 o4 ⟨fun z => ?_, fun b hb2 => ?_⟩
    · rw [hr'] at z; cases z
    have hb2 : tr' = b := Option.some.inj (hr'.symm.trans hb2)
    subst hb2
    have t0 : zq_i S' tr' 0 = 0 := by rw [fr'.1 tr' (by omega)]; exact h0
    refine ys_48e ht'.1 t0 (by rw [hj']; exact ⟨by decide, by decide⟩) ?_
    rw [if_neg (by decide)]
    exact k2 S' r fr' e hp
  have oks : ye_oks es := hwf.oks.tl
  refine zw_91 (yk_t8 f2) htr.1 o4 (ys_74 htr.1 (trS htr ht) hn oks hr (fun hf => ?_) (fun d' es' hf k' hk' hlt => ?_))
  · have eL : yh_L T E es = none := by unfold yh_L; rw [hf]
    refine zw_92 o4 ot2 ⟨by decide, by decide⟩ ?_
    rw [if_pos rfl]
    obtain ⟨m1, m2, m3⟩ := hN.node
    have hln : yh_ln T E 10 0 ye_null = none := rfl
    refine zw_93 (yk_t8 f2) o4 (ys_93_4L f2 hL hE hD hV hN 10 0 _ (u + 2) 0 0 ye_null _ _ rfl rfl (by decide) (by decide) (by decide) (by decide) ((fr.sr 0 _).si 1 _) ⟨by rw [zq_r_si, zq_r_sr, if_pos ⟨rfl, rfl⟩], zq_i_at _ _ _ _, ⟨ot2, by omega⟩, ⟨by decide, m3, hN.2.2.2⟩, m1, ⟨Or.inl rfl, Or.inl (Or.inl rfl)⟩⟩ (fun S' tr' j' l' d' fr' e hp => ?_) (fun S' tr' j' l' d' fr' hp e => ?_) (fun S' r fr' hp e => ?_))
    · rw [if_pos rfl]
      exact k0 S' tr' j' l' d' fr' eL hp
    · rw [if_neg (by decide)]
      refine fin fr' hp ?_
      rw [eL, ← e, hln]
    · rw [hln] at e
      cases e
  · have hk12 := hk'.node.2.2
    have hk13 := hk'.2.2.2
    have hk10 := hk'.2.2.1
    refine zw_92 o4 ot2 ⟨by decide, by decide⟩ ?_
    rw [if_neg (by omega)]
    refine zw_92 o4 htr.1 ⟨by omega, by omega⟩ ?_
    have hnd : yt_nd s tr k' 1 d' := by
      have := hk'.node.1
      have e : ∀ c, c < 7 → zq_i S (tr + c) = zq_i s (tr + c) := fun c hc => fr.1 _ (by omega)
      obtain ⟨y1, y2, y3, y4, y5, y6⟩ := this
      rw [e 1 (by decide)] at y1
      rw [e 2 (by decide)] at y2
      rw [e 3 (by decide)] at y3
      rw [e 4 (by decide)] at y4
      rw [e 6 (by decide)] at y6
      rw [fr.2.2.1] at y5
      exact ⟨y1, y2, y3, y4, y5, y6⟩
    have e0 : zq_i S tr 0 = zq_i s tr 0 := by rw [fr.1 tr (by omega)]
    rw [e0] at hk12 hk13
    obtain ⟨mid, e1, _, _⟩ := ye_fk_split hf
    have hokd : ye_ok d' := oks.1 d' (by rw [e1]; simp)
    have eL : yh_L T E es = yh_ln T E 10 0 d' := by unfold yh_L; rw [hf]
    rw [eL] at fin fin2 k0
    refine zw_93 (yk_t8 f2) o4 (ys_93_4L f2 hL hE hD hV hN 10 0 _ tr k' 1 d' _ _ rfl rfl (by decide) (by decide) (by decide) (by decide) ((((fr.sr 0 _).si 1 _).sr 0 _).si 1 _) ⟨by rw [zq_r_si, zq_r_sr, if_pos ⟨rfl, rfl⟩], zq_i_at _ _ _ _, htr, ⟨by omega, hk12, hk13⟩, hnd, hokd⟩ (fun S' tr' j' l' d' fr' e hp => ?_) (fun S' tr' j' l' d' fr' hp e => ?_) (fun S' r fr' hp e => ?_))
    · rw [if_pos rfl]
      exact k0 S' tr' j' l' d' fr' e hp
    · rw [if_neg (by decide)]
      exact fin fr' hp e
    · rw [if_neg (by decide)]
      exact fin2 fr' hp e
end YLH3
