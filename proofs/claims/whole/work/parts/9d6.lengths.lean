/-! save: which objects; lengths -/
def ymk (s : zq_S) (b : Nat) : Nat → Nat → Nat
  | 0, _ => 0
  | k + 1, i => (if zq_i s b ((i + 1 : Nat) : Int) ≠ 0 then 2 ^ (i + 1) else 0) ||| ymk s b k (i + 1)
set_option maxRecDepth 100000 in
theorem ymk_lt (s : zq_S) (b : Nat) : ∀ k i, i + k ≤ 9 → ymk s b k i < 1024
  | 0, _, _ => by show (0 : Nat) < 1024; decide
  | k + 1, i, h => by
    show (if zq_i s b ((i + 1 : Nat) : Int) ≠ 0 then 2 ^ (i + 1) else 0) ||| ymk s b k (i + 1) < 1024
    refine (ybit_or2 ?_ (ymk_lt s b k (i + 1) (by omega))).2
    split
    · exact (ybit_shl (i + 1) (by omega)).2
    · decide
set_option maxRecDepth 100000 in
theorem ymk_bit (s : zq_S) (b n : Nat) : ∀ k i, (ymk s b k i).testBit n = true ↔ (i + 1 ≤ n ∧ n ≤ i + k ∧ zq_i s b n ≠ 0)
  | 0, i => by
    show (0 : Nat).testBit n = true ↔ _
    rw [Nat.zero_testBit]
    exact ⟨fun h => (by cases h), fun h => (by omega)⟩
  | k + 1, i => by
    show ((if zq_i s b ((i + 1 : Nat) : Int) ≠ 0 then 2 ^ (i + 1) else 0) ||| ymk s b k (i + 1)).testBit n = true ↔ _
    rw [Nat.testBit_or, Bool.or_eq_true, ymk_bit s b n k (i + 1)]
    constructor
    · intro h
      rcases h with h | h
      · by_cases hb : zq_i s b ((i + 1 : Nat) : Int) ≠ 0
        · rw [if_pos hb, Nat.testBit_two_pow] at h
          have : i + 1 = n := of_decide_eq_true h
          subst this
          exact ⟨by omega, by omega, hb⟩
        · rw [if_neg hb, Nat.zero_testBit] at h
          cases h
      · exact ⟨by omega, by omega, h.2.2⟩
    · intro ⟨h1, h2, h3⟩
      by_cases e : n = i + 1
      · left
        subst e
        rw [if_pos h3, Nat.testBit_two_pow]
        exact decide_eq_true rfl
      · right
        exact ⟨by omega, by omega, h3⟩
set_option maxRecDepth 100000 in
theorem ybit_and2 {a b : Nat} (ha : a < 1024) (hb : b < 1024) : zq_and a b = ((a &&& b : Nat) : Int) ∧ a &&& b < 1024 := by
  have hlt : a &&& b ≤ a := Nat.and_le_left
  refine ⟨?_, by omega⟩
  have e : zq_and a b = ((Int32.ofInt (a : Int)).toBitVec &&& (Int32.ofInt (b : Int)).toBitVec).toInt := rfl
  have hn : ((Int32.ofInt (a : Int)).toBitVec &&& (Int32.ofInt (b : Int)).toBitVec).toNat = a &&& b := by
    rw [BitVec.toNat_and, ybit_nat ha, ybit_nat hb]
  rw [e, BitVec.toInt_eq_toNat_of_lt (by rw [hn]; omega), hn]
set_option maxRecDepth 100000 in
theorem ybit_shl2 : ∀ n : Nat, n < 9 → zq_shl 2 n = ((2 ^ (n + 1) : Nat) : Int) := by decide +kernel
/-- the node where resolving ends -/
def yz_end (ev : Nat → List ye_E) (d : ye_N) (r : Option Nat) : ye_N := match r with
  | none => d
  | some n => yz_hd (ev n)
/-- what the part Length comes to -/
def yz_len (s : zq_S) (ev : Nat → List ye_E) (es : List ye_E) : Int := match ye_fk yNL es 0 with
  | none => -1
  | some (d', _) => match yz s ev 10 0 none d' with
    | none => -1
    | some r => if (yz_end ev d' r).1 = 3 then (yz_end ev d' r).2.1 else -1
section YLD6
variable {X : Nat × (Nat → Int32)}
set_option maxRecDepth 100000 in
theorem ys_89_4 {s : zq_S} {t : Nat} {ev : Nat → List ye_E} {ct : Nat → List Int} (f2 : t = 27 ∨ t = 126) (a4 : yI_tab s t ev ct) {K : Int → zq_S → Prop} : ∀ (k i x : Nat), i + k = 9 → x < 1024 → K ((x ||| ymk s 237 k i : Nat) : Int) s → zq_Ex X 89 4 [.ref t, zq_vi (x : Int), zq_vi (i : Int)] [] s (zq_rp zq_iv K)
  | 0, i, x, hi, hx, kk => by
    refine zw_89_4 (yk_t8 f2) ⟨by omega, by omega⟩ ⟨by omega, by omega⟩ ?_
    rw [if_neg (by omega)]
    have e : x ||| ymk s 237 0 i = x := Nat.or_zero x
    rw [e] at kk
    exact kk
  | k + 1, i, x, hi, hx, kk => by
    obtain ⟨d1, d2, d3, d4, d5, d6⟩ := a4 (i + 1) (by omega) (by omega)
    have esl : t + 1 + 8 + 10 * ((i : Int)).toNat = ysl t (i + 1) := by unfold ysl; omega
    have e : x ||| ymk s 237 (k + 1) i = (x ||| (if zq_i s 237 ((i + 1 : Nat) : Int) ≠ 0 then 2 ^ (i + 1) else 0)) ||| ymk s 237 k (i + 1) := by
      show x ||| ((if zq_i s 237 ((i + 1 : Nat) : Int) ≠ 0 then 2 ^ (i + 1) else 0) ||| ymk s 237 k (i + 1)) = _
      rw [Nat.or_assoc]
    rw [e] at kk
    refine zw_89_4 (yk_t8 f2) ⟨by omega, by omega⟩ ⟨by omega, by omega⟩ ?_
    rw [if_pos (by omega), esl, d2, show (i : Int) + 1 = ((i + 1 : Nat) : Int) by omega]
    refine ⟨⟨by omega, by omega⟩, yl_if (fun hz => ?_) (fun hz => ?_)⟩
    · rw [if_neg (fun z => z hz), Nat.or_zero] at kk
      rw [ybit_or0 x hx]
      exact ys_89_4 f2 a4 k (i + 1) x (by omega) hx kk
    · rw [if_pos hz] at kk
      have h2 := ybit_or2 hx (ybit_shl (i + 1) (by omega)).2
      rw [ybit_shl2 i (by omega), h2.1]
      exact ys_89_4 f2 a4 k (i + 1) _ (by omega) h2.2 kk
set_option maxRecDepth 100000 in
theorem ys_88_4 {s : zq_S} {t : Nat} {ev : Nat → List ye_E} {ct : Nat → List Int} (f2 : t = 27 ∨ t = 126) (a4 : yI_tab s t ev ct) {K : Int → zq_S → Prop} : ∀ (k i x : Nat), i + k = 9 → x < 1024 → K ((x ||| ymk s 239 k i : Nat) : Int) s → zq_Ex X 88 4 [.ref t, zq_vi (x : Int), zq_vi (i : Int)] [] s (zq_rp zq_iv K)
  | 0, i, x, hi, hx, kk => by
    refine zw_88_4 (yk_t8 f2) ⟨by omega, by omega⟩ ⟨by omega, by omega⟩ ?_
    rw [if_neg (by omega)]
    have e : x ||| ymk s 239 0 i = x := Nat.or_zero x
    rw [e] at kk
    exact kk
  | k + 1, i, x, hi, hx, kk => by
    obtain ⟨d1, d2, d3, d4, d5, d6⟩ := a4 (i + 1) (by omega) (by omega)
    have esl : t + 1 + 8 + 10 * ((i : Int)).toNat = ysl t (i + 1) := by unfold ysl; omega
    have e : x ||| ymk s 239 (k + 1) i = (x ||| (if zq_i s 239 ((i + 1 : Nat) : Int) ≠ 0 then 2 ^ (i + 1) else 0)) ||| ymk s 239 k (i + 1) := by
      show x ||| ((if zq_i s 239 ((i + 1 : Nat) : Int) ≠ 0 then 2 ^ (i + 1) else 0) ||| ymk s 239 k (i + 1)) = _
      rw [Nat.or_assoc]
    rw [e] at kk
    refine zw_88_4 (yk_t8 f2) ⟨by omega, by omega⟩ ⟨by omega, by omega⟩ ?_
    rw [if_pos (by omega), esl, d3, show (i : Int) + 1 = ((i + 1 : Nat) : Int) by omega]
    refine ⟨⟨by omega, by omega⟩, yl_if (fun hz => ?_) (fun hz => ?_)⟩
    · rw [if_neg (fun z => z hz), Nat.or_zero] at kk
      rw [ybit_or0 x hx]
      exact ys_88_4 f2 a4 k (i + 1) x (by omega) hx kk
    · rw [if_pos hz] at kk
      have h2 := ybit_or2 hx (ybit_shl (i + 1) (by omega)).2
      rw [ybit_shl2 i (by omega), h2.1]
      exact ys_88_4 f2 a4 k (i + 1) _ (by omega) h2.2 kk
set_option maxRecDepth 100000 in
/-- where resolving has ended, in the class -/
theorem yz_at {s : zq_S} {dr fl : List Int} {ev : Nat → List ye_E} {ct : Nat → List Int} {F t : Nat} (hI : yI s (dr, fl, ev, ct, F, t)) {tr0 : Nat} {j0 l0 : Int} {d : ye_N} (h0 : zq_o 4 tr0 ∧ 29 ≤ tr0) (hb : 0 ≤ j0 ∧ j0 < zq_i s tr0 0 ∧ zq_i s tr0 0 ≤ 12) (hd : yt_nd s tr0 j0 l0 d) {r : Option Nat} {tr : Nat} {j : Int} (hp : yz_pos s t tr0 j0 r tr j) : (zq_o 4 tr ∧ 29 ≤ tr) ∧ (0 ≤ j ∧ j < zq_i s tr 0 ∧ zq_i s tr 0 ≤ 12) ∧ ∃ l, yt_nd s tr j l (yz_end ev d r) := by
  cases r with
  | none =>
    obtain ⟨a1, a2⟩ := hp
    subst a1
    subst a2
    exact ⟨h0, hb, l0, hd⟩
  | some n =>
    obtain ⟨a1, a2, a3, a4⟩ := hp
    subst a4
    obtain ⟨tr2, d2, es2, r1, r2, r3, r4, r5, _⟩ := hI.root a1 a2
    have htt : tr2 = tr := Option.some.inj (r1.symm.trans a3)
    subst htt
    obtain ⟨m1, m2, m3⟩ := r3.node
    refine ⟨⟨r2.1, r2.2.1⟩, ⟨by decide, m3, r3.2.2.2⟩, 0, ?_⟩
    show yt_nd s tr2 0 0 (yz_hd (ev n))
    rw [r4]
    exact m1
set_option maxRecDepth 100000 in
theorem ys_91 {s S : zq_S} {dr fl : List Int} {ev : Nat → List ye_E} {ct : Nat → List Int} {F t : Nat} (hI : yI s (dr, fl, ev, ct, F, t)) (fr : yz_fr s S) {o tr : Nat} {d : ye_N} {es : List ye_E} (ho : o ≤ 9) (hu : o ≠ 0 → zq_i s 237 o = 1) (hcu : ycu s t o = some tr) (hev : ev o = .inl d :: es) (h7 : d.1 = 7) {K : Int → zq_S → Prop} (k : ∀ S', yz_fr s S' → K (yz_len s ev es) S') : zq_Ex X 91 0 [.ref t, .ref tr, .ref 4, zz_no, zz_no] [] S (zq_rp zq_iv K) := by
  have f2 : t = 27 ∨ t = 126 := hI.2.1.2.1
  have o4 : zq_o 2 4 := by decide +kernel
  have ot2 : zq_o 4 (t + 2) := by rcases f2 with z | z <;> (subst z; decide +kernel)
  obtain ⟨tr2, d2, es2, r1, r2, r3, r4, r5, r6, r7, r8, _⟩ := hI.root ho hu
  have htt : tr2 = tr := Option.some.inj (r1.symm.trans hcu)
  subst htt
  rw [hev] at r4
  obtain ⟨z1, z2⟩ := List.cons.inj r4
  have z1 : d = d2 := Sum.inl.inj z1
  subst z1
  subst z2
  have hn : ye_nest d = true := decide_eq_true (Or.inr h7)
  -- a tree is the same in S
  have trS : ∀ {a : Nat} {k l : Int} {es : List ye_E}, zq_o 4 a ∧ 29 ≤ a → yt_tr s a k l es → yt_tr S a k l es := fun {a k l es} h hh => hh.cong (fun q hq => fr.1 q (by have := yk_t7 hq; omega)) (by rw [fr.2.2.1])
  have fin : ∀ {S' : zq_S} {dd : ye_N} {tr' : Nat} {j' l' : Int}, yz_fr s S' → zq_r S' 4 0 = some tr' → zq_i S' 4 1 = j' → (zq_o 4 tr' ∧ 29 ≤ tr') → (0 ≤ j' ∧ j' < zq_i s tr' 0 ∧ zq_i s tr' 0 ≤ 12) → yt_nd s tr' j' l' dd → K (if dd.1 = 3 then dd.2.1 else -1) S' → zq_Ex X 94 0 [(.ref (4))] [] S' (zq_rp zq_iv fun x_11 s_10 => (if x_11 = 3 then ((zq_r s_10 (4) 0 = none → False) ∧ (∀ b_15 : Nat, zq_r s_10 (4) 0 = some b_15 → (((0 : Int) ≤ zq_i s_10 (4) (1) ∧ zq_i s_10 (4) (1) < (12 : Int)) ∧ K (zq_i s_10 (b_15 + 3) (zq_i s_10 (4) (1))) s_10))) else K ((-1)) s_10)) := fun {S' dd tr' j' l'} fr' hr' hj' ht hb hnd kk => by
    refine zw_94 o4 ⟨fun z => ?_, fun b hb2 => ?_⟩
    · rw [hr'] at z; cases z
    have hb2 : tr' = b := Option.some.inj (hr'.symm.trans hb2)
    subst hb2
    rw [hj']
    refine ys_48n (d := dd.1) ht.1 (by rw [fr'.1 tr' (by omega)]; exact hb.2.2) hb.1 (by rw [fr'.1 tr' (by omega)]; exact hb.2.1) (by rw [fr'.1 (tr' + 1) (by omega)]; exact hnd.1) ?_
    refine yl_if (fun h3 => ⟨fun z => ?_, fun b hb3 => ⟨⟨by omega, by omega⟩, ?_⟩⟩) (fun h3 => ?_)
    · rw [hr'] at z; cases z
    · have hb3 : tr' = b := Option.some.inj (hr'.symm.trans hb3)
      subst hb3
      rw [if_pos h3] at kk
      rw [hj', fr'.1 (tr' + 3) (by omega), hnd.2.2.1]
      have : ye_nu dd = dd.2.1 := by unfold ye_nu; rw [if_neg (by omega), if_pos (by omega)]
      rw [this]
      exact kk
    · rw [if_neg h3] at kk
      exact kk
  refine zw_91 (yk_t8 f2) r2.1 o4 (ys_74 r2.1 (trS ⟨r2.1, r2.2.1⟩ r3) hn r5.oks.tl r8 (fun hf => ?_) (fun d' es' hf k' hk' hlt => ?_))
  · refine zw_92 o4 ot2 ⟨by decide, by decide⟩ ?_
    rw [if_pos rfl]
    obtain ⟨tr9, dd, es9, q1, q2, q3, q4, q5, _⟩ := hI.root (o := 0) (by decide) (fun z => absurd rfl z)
    have : tr9 = t + 2 := by
      unfold ycu at q1
      rw [if_pos rfl] at q1
      exact (Option.some.inj q1).symm
    subst this
    have h0 : ev 0 = [.inl ye_null] := hI.2.2.2.2.2.1
    rw [h0] at q4
    have hdd : ye_null = dd := Sum.inl.inj (List.cons.inj q4).1
    subst hdd
    obtain ⟨m1, m2, m3⟩ := q3.node
    refine zw_93 (yk_t8 f2) o4 (ys_93_4 (tr0 := t + 2) (j0 := 0) hI 10 0 _ none (t + 2) 0 ye_null 0 _ _ rfl rfl (by decide) (by decide) ((fr.sr 0 _).si 1 _) (by rw [zq_r_si, zq_r_sr, if_pos ⟨rfl, rfl⟩]) (zq_i_at _ _ _ _) ⟨q2.1, q2.2.1⟩ ⟨by decide, m3, q3.2.2.2⟩ m1 q5.1 ⟨rfl, rfl⟩ (fun S' fr' hyz => ?_) (fun S' r tr' j' fr' hyz hr' hj' hpos => ?_))
    · cases hyz
    · rw [if_neg (by decide)]
      have hyz : (none : Option Nat) = r := Option.some.inj hyz
      subst hyz
      obtain ⟨g1, g2, l', g3⟩ := yz_at hI ⟨q2.1, q2.2.1⟩ ⟨by decide, m3, q3.2.2.2⟩ m1 hpos
      refine fin fr' hr' hj' g1 g2 g3 ?_
      have kk := k S' fr'
      unfold yz_len at kk
      rw [hf] at kk
      exact kk
  · have hk12 := hk'.node.2.2
    have hk13 := hk'.2.2.2
    have hk10 := hk'.2.2.1
    refine zw_92 o4 ot2 ⟨by decide, by decide⟩ ?_
    rw [if_neg (by omega)]
    refine zw_92 o4 r2.1 ⟨by omega, by omega⟩ ?_
    have hnd : yt_nd s tr2 k' 1 d' := by
      have := hk'.node.1
      have e : ∀ c, c < 7 → zq_i S (tr2 + c) = zq_i s (tr2 + c) := fun c hc => fr.1 _ (by omega)
      obtain ⟨y1, y2, y3, y4, y5, y6⟩ := this
      rw [e 1 (by decide)] at y1
      rw [e 2 (by decide)] at y2
      rw [e 3 (by decide)] at y3
      rw [e 4 (by decide)] at y4
      rw [e 6 (by decide)] at y6
      rw [fr.2.2.1] at y5
      exact ⟨y1, y2, y3, y4, y5, y6⟩
    have e0 : zq_i S tr2 0 = zq_i s tr2 0 := by rw [fr.1 tr2 (by omega)]
    rw [e0] at hk12 hk13
    obtain ⟨mid, e1, _, _⟩ := ye_fk_split hf
    have hokd : ye_ok d' := r5.oks.tl.1 d' (by rw [e1]; simp)
    refine zw_93 (yk_t8 f2) o4 (ys_93_4 (tr0 := tr2) (j0 := k') hI 10 0 _ none tr2 k' d' 1 _ _ rfl rfl (by decide) (by decide) ((((fr.sr 0 _).si 1 _).sr 0 _).si 1 _) (by rw [zq_r_si, zq_r_sr, if_pos ⟨rfl, rfl⟩]) (zq_i_at _ _ _ _) ⟨r2.1, r2.2.1⟩ ⟨by omega, hk12, hk13⟩ hnd hokd ⟨rfl, rfl⟩ (fun S' fr' hyz => ?_) (fun S' r tr' j' fr' hyz hr' hj' hpos => ?_))
    · rw [if_pos rfl]
      have kk := k S' fr'
      unfold yz_len at kk
      rw [hf] at kk
      simp only [hyz] at kk
      exact kk
    · rw [if_neg (by decide)]
      obtain ⟨g1, g2, l', g3⟩ := yz_at hI ⟨r2.1, r2.2.1⟩ ⟨by omega, hk12, hk13⟩ hnd hpos
      refine fin fr' hr' hj' g1 g2 g3 ?_
      have kk := k S' fr'
      unfold yz_len at kk
      rw [hf] at kk
      simp only [hyz] at kk
      exact kk
/-- all kept objects have their lengths -/
def ylok (s : zq_S) (ev : Nat → List ye_E) (n : Nat) : Prop := zq_i s 242 n = 0 ∨ yz_len s ev (ev n).tail = zq_i s 243 n
set_option maxRecDepth 100000 in
theorem ys_90_2 {s : zq_S} {dr fl : List Int} {ev : Nat → List ye_E} {ct : Nat → List Int} {F t : Nat} (hI : yI s (dr, fl, ev, ct, F, t)) {m : Nat} (hm : yog s m) {K : Int → zq_S → Prop} (k0 : ∀ S', yz_fr s S' → (∃ n, m.testBit n = true ∧ ¬ ylok s ev n) → K 0 S') (k1 : ∀ S', yz_fr s S' → (∀ n, m.testBit n = true → ylok s ev n) → K 1 S') : ∀ (k i : Nat) (S : zq_S) (v4 : Value), v4.category = 1 → i + k = 9 → yz_fr s S → (∀ n, m.testBit n = true → n ≤ i → ylok s ev n) → zq_Ex X 90 2 [.ref t, zq_vi (m : Int), .ref 4, zq_vi (i : Int), v4] [] S (zq_rp zq_bo K)
  | 0, i, S, v4, h4, hi, fr, hd => by
    have f2 : t = 27 ∨ t = 126 := hI.2.1.2.1
    have o4 : zq_o 2 4 := by decide +kernel
    have := hm.1
    refine zw_90_2 (yk_t8 f2) ⟨by omega, by omega⟩ o4 ⟨by omega, by omega⟩ h4 ?_
    rw [if_neg (by omega)]
    exact k1 S fr (fun n hn => hd n hn (by have := (hm.2 n hn).2.1; omega))
  | k + 1, i, S, v4, h4, hi, fr, hd => by
    have f2 : t = 27 ∨ t = 126 := hI.2.1.2.1
    have o4 : zq_o 2 4 := by decide +kernel
    have a4 : yI_tab s t ev ct := hI.2.2.2.1
    have := hm.1
    have esl : t + 1 + 8 + 10 * ((i : Int)).toNat = ysl t (i + 1) := by unfold ysl; omega
    obtain ⟨c1, c2, c3, c4, c5, c6, c7, c8, c9⟩ := yk_sl f2 (o := i + 1) (by omega) (by omega)
    obtain ⟨d1, d2, d3, d4, d5, d6⟩ := a4 (i + 1) (by omega) (by omega)
    refine zw_90_2 (yk_t8 f2) ⟨by omega, by omega⟩ o4 ⟨by omega, by omega⟩ h4 ?_
    rw [if_pos (by omega), esl, show (i : Int) + 1 = ((i + 1 : Nat) : Int) by omega]
    refine ⟨⟨by omega, by omega⟩, zw_35 ⟨by omega, by omega⟩ ⟨by omega, by omega⟩ ?_⟩
    rw [ybit_get m hm.1 (i + 1) (by omega)]
    have next : ∀ (S' : zq_S), yz_fr s S' → (m.testBit (i + 1) = true → ylok s ev (i + 1)) → zq_Ex X 90 2 [.ref t, zq_vi (m : Int), .ref 4, zq_vi ((i + 1 : Nat) : Int), .ref (ysl t (i + 1))] [] S' (zq_rp zq_bo K) := fun S' fr' h => ys_90_2 hI hm k0 k1 k (i + 1) S' _ rfl (by omega) fr' (fun n hn hle => by
      by_cases e : n = i + 1
      · rw [e]; exact h (by rw [← e]; exact hn)
      · exact hd n hn (by omega))
    by_cases hb : m.testBit (i + 1) = true
    · have hu : zq_i s 237 ((i + 1 : Nat) : Int) = 1 := by
        have hu := (hm.2 _ hb).2.2
        rw [d2] at d1
        rcases d1.1 with w | w
        · exact absurd w hu
        · exact w
      obtain ⟨⟨tr, e1, e2⟩, e3, e4, e5, e6, e7⟩ := d6 (by rw [d2]; exact hu)
      obtain ⟨⟨d, es, ed, er⟩, ewf, _⟩ := id e3
      rw [if_pos (by rw [if_pos hb]), if_neg (by decide), fr.1 (ysl t (i + 1)) (by omega), e6]
      refine yl_if (fun hz => next S fr (fun _ => Or.inl hz)) (fun hz => ?_)
      have h2 : zq_i s (ysl t (i + 1)) 2 = 1 := by
        rcases d1.2.2 with w | w
        · rw [e6] at w; exact absurd w hz
        · exact w
      obtain ⟨⟨dd, ee, q1, q2⟩, ⟨v, q3⟩, q4, q5, q6⟩ := e7 h2
      have hdd : d = dd := by
        rw [ed] at q1
        exact Sum.inl.inj (List.cons.inj q1).1
      have hcl : zq_i s (ysl t (i + 1) + 8) 1 = zq_i s 243 ((i + 1 : Nat) : Int) := by rw [q5]; exact q3.1
      refine ⟨tr, by rw [fr.2.1 (ysl t (i + 1)) (by omega)]; exact e1, ys_91 (o := i + 1) hI fr (by omega) (fun _ => hu) (by unfold ycu; rw [if_neg (by omega)]; exact e1) ed (by rw [hdd]; exact q2) (fun S' fr' => ?_)⟩
      rw [fr'.1 (ysl t (i + 1) + 8) (by omega), hcl]
      have ht : (ev (i + 1)).tail = es := by rw [ed]; rfl
      refine yl_if (fun e => next S' fr' (fun _ => Or.inr (by rw [ht]; exact e))) (fun e => k0 S' fr' ⟨i + 1, hb, fun z => ?_⟩)
      rcases z with y | y
      · exact hz y
      · rw [ht] at y; exact e y
    · rw [if_neg (by rw [if_neg hb]; decide), if_pos rfl]
      exact next S fr (fun h => absurd h hb)
set_option maxRecDepth 100000 in
theorem ys_193g {s : zq_S} {ev : Nat → List ye_E} {K : zq_S → Prop} {o : Nat} {p : Int} {d : ye_N} {es : List ye_E} (hmI : ym_I s) (hR : yz_R s ev) (ho : o ≤ 9) (p0 : 0 ≤ p) (p1 : p ≤ 600) (p2 : p ≤ 500) (hd : ye_ok d) (hes : ye_oks es) (hat : ye_at (ym_c s (10 + o)) p (ye_op d ++ (ye_pr (ye_nest d) es ++ [0])))
    (k0 : yz s ev 10 0 none d = none → ∀ S', ymf [47, 48] [254] s S' → zq_i S' 232 47 = -1 → K S')
    (k1 : ∀ (r : Option Nat) (S' : zq_S) (o' : Nat), yz s ev 10 0 none d = some r → ymf [47, 48] [254] s S' → zq_i S' 232 47 = 10 + (o' : Nat) → yz_rp o p r o' (zq_i S' 232 48) → K S') : zq_Ex X 193 0 [.ref 232, zq_vi (10 + (o : Int)), zq_vi p, zz_no, zz_no] [] s (zq_rv K) := by
  have hx1 : zq_iv (10 + (o : Int)) := ⟨by omega, by omega⟩
  have hx2 : zq_iv p := ⟨by omega, by omega⟩
  refine zw_193 hx1 hx2 (ys_193_2 (s := s) hx1 hx2 10 0 _ _ rfl rfl (ymf.refl _ _ _) (fun i hi => (by cases hi)) (fun S1 v4 h4 fr hz h47 h48 => ?_))
  exact ys_193_31 (s := s) (ev := ev) (o0 := o) (pp0 := p) hmI hR hx1 hx2 10 0 S1 none o d es 10 v4 ⟨by decide, by decide⟩ h4 (by decide) (by decide) (by decide) fr (fun n hn => by rw [hz n hn, Nat.zero_testBit]; rfl) ho h47 (by rw [h48]; exact p0) (by rw [h48]; exact p2) hd hes (by rw [h48]; exact hat) ⟨rfl, h48⟩ (fun S' f hz2 h9 => k0 hz2 S' f h9) (fun S' r o' f hz2 h9 hp => k1 r S' o' hz2 f h9 hp)
end YLD6
