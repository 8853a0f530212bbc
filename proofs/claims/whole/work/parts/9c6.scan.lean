/-! what can be reached: the reference looks for references in an object's text -/
def yfr (S : zq_S) (b m : Nat) : Prop := ∀ n : Nat, n < 10 → zq_i S b n = if m.testBit n = true then 1 else 0
section YLC6
variable {X : Nat × (Nat → Int32)}
set_option maxRecDepth 100000 in
theorem ys_188_c {S : zq_S} {K : zq_S → Prop} {n : Nat} {p c : Int} (hmS : ym_I S) (hn : n ≤ 9) (p0 : 0 ≤ p) (p1 : p ≤ 600) (hlt : p < zq_i S 240 n) (hT : ym_c S (10 + n) p = c) (hci : zq_iv c) (hd : yp_dg c = false) {v3 v4 v5 : Value} (h3 : v3.category = 1) (h4 : v4.category = 1) (h5 : v5.category = 1)
    (k : ∀ w3 w4 w5 : Value, w3.category = 1 → w4.category = 1 → w5.category = 1 → zq_Ex X 188 2 [.ref 232, zq_vi (n : Int), zq_vi (if c = 40 then yp_se (ym_c S (10 + n)) p else if c = 47 then yp_nm (ym_c S (10 + n)) p else if yp_nc c = true ∨ c = 45 then yp_wd (ym_c S (10 + n)) p else p + 1), w3, w4, w5] [] S (zq_rv K)) :
    zq_Ex X 188 2 [.ref 232, zq_vi (n : Int), zq_vi p, v3, v4, v5] [] S (zq_rv K) := by
  have hq : ym_q (10 + (n : Int)) := ⟨by omega, by omega, Or.inr (by omega)⟩
  refine zw_188_2 ⟨by omega, by omega⟩ ⟨by omega, by omega⟩ h3 h4 h5 ⟨⟨by omega, by omega⟩, ?_⟩
  rw [if_pos hlt]
  refine ys_147 hmS hq ⟨by omega, by omega⟩ ?_
  rw [hT]
  refine ys_155 hci ?_
  rw [hd, if_pos (show yb false = 0 from rfl)]
  refine yl_if (fun e40 => ?_) (fun e40 => yl_if (fun e47 => ?_) (fun e47 => ?_))
  · rw [if_pos e40] at k
    exact ys_160 hmS hq (by omega) (by omega) (k _ _ _ rfl rfl h5)
  · rw [if_neg e40, if_pos e47] at k
    exact ys_153 hmS hq (by omega) (by omega) (k _ _ _ rfl rfl h5)
  · rw [if_neg e40, if_neg e47] at k
    refine ys_154 hci ?_
    cases hnc : yp_nc c with
    | true =>
      rw [if_pos (Or.inl hnc)] at k
      rw [if_neg (show ¬ yb true = 0 by decide)]
      exact ys_161 hmS hq (by omega) (by omega) (k _ _ _ rfl rfl h5)
    | false =>
      rw [if_pos (show yb false = 0 from rfl)]
      refine yl_if (fun e45 => ?_) (fun e45 => ?_)
      · rw [if_pos (Or.inr e45)] at k
        exact ys_161 hmS hq (by omega) (by omega) (k _ _ _ rfl rfl h5)
      · rw [if_neg (fun z => z.elim (fun y => by rw [hnc] at y; cases y) e45)] at k
        exact k _ _ _ rfl rfl h5
set_option maxRecDepth 100000 in
theorem ys_188_n {S : zq_S} {K : zq_S → Prop} {n : Nat} {p c : Int} (hmS : ym_I S) (hn : n ≤ 9) (p0 : 0 ≤ p) (p1 : p ≤ 600) (hlt : p < zq_i S 240 n) (hT : ym_c S (10 + n) p = c) (hd : 48 ≤ c ∧ c ≤ 57) (hr : yp_ref (ym_c S (10 + n)) p = -1) {v3 v4 v5 : Value} (h3 : v3.category = 1) (h4 : v4.category = 1) (h5 : v5.category = 1)
    (k : ∀ w3 w4 w5 : Value, w3.category = 1 → w4.category = 1 → w5.category = 1 → zq_Ex X 188 2 [.ref 232, zq_vi (n : Int), zq_vi (yp_wd (ym_c S (10 + n)) p), w3, w4, w5] [] S (zq_rv K)) :
    zq_Ex X 188 2 [.ref 232, zq_vi (n : Int), zq_vi p, v3, v4, v5] [] S (zq_rv K) := by
  have hq : ym_q (10 + (n : Int)) := ⟨by omega, by omega, Or.inr (by omega)⟩
  have hdg : yp_dg c = true := decide_eq_true hd
  have hnc : yp_nc c = true := decide_eq_true (by omega)
  refine zw_188_2 ⟨by omega, by omega⟩ ⟨by omega, by omega⟩ h3 h4 h5 ⟨⟨by omega, by omega⟩, ?_⟩
  rw [if_pos hlt]
  refine ys_147 hmS hq ⟨by omega, by omega⟩ ?_
  rw [hT]
  refine ys_155 ⟨by omega, by omega⟩ ?_
  rw [hdg, if_neg (show ¬ yb true = 0 by decide)]
  refine ys_162 hmS hq (by omega) (by omega) ?_
  rw [hr, if_neg (by omega), if_neg (by omega), if_pos (by decide)]
  refine ys_154 ⟨by omega, by omega⟩ ?_
  rw [hnc, if_neg (show ¬ yb true = 0 by decide)]
  exact ys_161 hmS hq (by omega) (by omega) (k _ _ _ rfl rfl h5)
set_option maxRecDepth 100000 in
theorem ys_188_r {s S : zq_S} {K : zq_S → Prop} {n fm : Nat} {p : Int} {d : ye_N} {es : List ye_E} (hmS : ym_I S) (hn : n ≤ 9) (p0 : 0 ≤ p) (p1 : p ≤ 600) (hlt : p < zq_i S 240 n) (h8 : d.1 = 8) (hd : ye_ok d) (hoes : ye_oks es) (hat : ye_at (ym_c S (10 + n)) p (ye_op d ++ (ye_pr (ye_nest d) es ++ [0]))) (fr : ymf [] [255] s S) (hf : yfr S 255 fm) (hfm : fm < 1024) {v3 v4 v5 : Value} (h3 : v3.category = 1) (h4 : v4.category = 1) (h5 : v5.category = 1)
    (k : ∀ (S' : zq_S) (w3 w4 w5 : Value), w3.category = 1 → w4.category = 1 → w5.category = 1 → ymf [] [255] s S' → yfr S' 255 (fm ||| (if d.1 = 8 ∧ yz_to s d ≠ 0 then 2 ^ yz_to s d else 0)) → zq_Ex X 188 2 [.ref 232, zq_vi (n : Int), zq_vi (p + (ye_op d).length), w3, w4, w5] [] S' (zq_rv K)) :
    zq_Ex X 188 2 [.ref 232, zq_vi (n : Int), zq_vi p, v3, v4, v5] [] S (zq_rv K) := by
  have hq : ym_q (10 + (n : Int)) := ⟨by omega, by omega, Or.inr (by omega)⟩
  obtain ⟨g1, g2, g3, g4⟩ := ye_ok8 hd h8
  have he := yr_end_at hd hoes hat
  unfold yr_end at he
  rw [h8, if_pos rfl] at he
  have eo : ye_op d = [48 + d.2.1, 32, 48 + d.2.2.1, 32, 82] := by
    unfold ye_op
    rw [if_neg (by omega), if_neg (by omega), if_neg (by omega), if_neg (by omega), if_neg (by omega), if_neg (by omega), if_neg (by omega), if_neg (by omega)]
  have l5 : (ye_op d).length = 5 := by rw [eo]; rfl
  rw [l5] at he k
  rw [eo] at hat
  have t0 : ym_c S (10 + n) p = 48 + d.2.1 := ye_at_hd hat
  have t2 := hat 2 (by simp)
  have t2 : ym_c S (10 + n) (p + 2) = 48 + d.2.2.1 := by simpa using t2
  have hdg : yp_dg (48 + d.2.1) = true := decide_eq_true (by omega)
  obtain ⟨o, ho⟩ : ∃ o : Nat, d.2.1 = o := ⟨d.2.1.toNat, by omega⟩
  have o9 : o ≤ 9 := by omega
  refine zw_188_2 ⟨by omega, by omega⟩ ⟨by omega, by omega⟩ h3 h4 h5 ⟨⟨by omega, by omega⟩, ?_⟩
  rw [if_pos hlt]
  refine ys_147 hmS hq ⟨by omega, by omega⟩ ?_
  rw [t0]
  refine ys_155 ⟨by omega, by omega⟩ ?_
  rw [hdg, if_neg (show ¬ yb true = 0 by decide)]
  refine ys_162 hmS hq (by omega) (by omega) ?_
  rw [he, if_neg (by omega), if_neg (by omega), if_neg (by omega)]
  refine ys_189 hmS hq ⟨by omega, by omega⟩ ?_
  rw [t0, show 48 + d.2.1 - 48 = d.2.1 by omega, ho]
  refine ⟨⟨by omega, by omega⟩, ?_⟩
  have eme : ym_me S d.2.1 d.2.2.1 = ym_me s d.2.1 d.2.2.1 := by
    unfold ym_me ym_us
    rw [fr.i (b := 237) (by decide) (by decide), fr.i (b := 238) (by decide) (by decide)]
  have fin : ∀ v : Int, (v = 1 ∨ v = 0) → (v = 1 ↔ (fm ||| (if d.1 = 8 ∧ yz_to s d ≠ 0 then 2 ^ yz_to s d else 0)).testBit o = true) → zq_Ex X 188 2 [.ref 232, zq_vi (n : Int), zq_vi (p + ((5 : Nat) : Int)), zq_vi (48 + (o : Int)), zq_vi (p + ((5 : Nat) : Int)), zq_vi (o : Int)] [] (zq_si S 255 o v) (zq_rv K) := fun v hv hiff => by
    refine k _ _ _ _ rfl rfl rfl (fr.trans (ymf.si (by simp) (by decide))) (fun i hi => ?_)
    rw [zq_i_si]
    by_cases e : i = o
    · subst e
      rw [if_pos ⟨rfl, rfl⟩]
      by_cases hb : (fm ||| (if d.1 = 8 ∧ yz_to s d ≠ 0 then 2 ^ yz_to s d else 0)).testBit i = true
      · rw [if_pos hb]; exact hiff.mpr hb
      · rw [if_neg hb]
        rcases hv with z | z
        · exact absurd (hiff.mp z) hb
        · exact z
    · rw [if_neg (fun z => e (by have := z.2; omega)), hf i hi, Nat.testBit_or]
      have : (if d.1 = 8 ∧ yz_to s d ≠ 0 then 2 ^ yz_to s d else 0).testBit i = false := by
        split
        · next hz =>
          rw [Nat.testBit_two_pow]
          rcases yz_to_cases s d with z | ⟨_, _, z, _⟩
          · exact absurd z hz.2
          · exact decide_eq_false (by omega)
        · exact Nat.zero_testBit i
      rw [this, Bool.or_false]
  refine yl_if (fun hz => ?_) (fun hz => ?_)
  · have hbf : fm.testBit o = false := by
      have h := hf o (by omega)
      rw [hz] at h
      cases hb : fm.testBit o with
      | false => rfl
      | true => rw [hb, if_pos rfl] at h; omega
    refine ys_190 hmS hq ⟨by omega, by omega⟩ ⟨by omega, by omega⟩ ?_
    rw [t2, show 48 + d.2.2.1 - 48 = d.2.2.1 by omega]
    refine ys_187 ⟨by omega, by omega⟩ ⟨by omega, by omega⟩ ?_
    have eme2 : ym_me S (o : Int) d.2.2.1 = ym_me s (o : Int) d.2.2.1 := by rw [← ho]; exact eme
    rw [eme2]
    cases hme : ym_me s (o : Int) d.2.2.1 with
    | false =>
      rw [if_pos (show yb false = 0 from rfl)]
      refine ⟨⟨by omega, by omega⟩, fin 0 (Or.inr rfl) ⟨fun z => (by cases z), fun z => ?_⟩⟩
      have hto : yz_to s d = 0 := by unfold yz_to; rw [ho, hme]; rfl
      rw [if_neg (fun y => y.2 hto), Nat.or_zero, hbf] at z
      cases z
    | true =>
      rw [if_neg (show ¬ yb true = 0 by decide)]
      refine ⟨⟨by omega, by omega⟩, fin 1 (Or.inl rfl) ⟨fun _ => ?_, fun _ => rfl⟩⟩
      have hto : yz_to s d = o := by
        unfold yz_to
        rw [ho, hme]
        rfl
      rw [if_pos ⟨h8, by omega⟩, hto, ybit_or]
      simp
  · have hbt : fm.testBit o = true := by
      have h := hf o (by omega)
      cases hb : fm.testBit o with
      | true => rfl
      | false =>
        rw [hb] at h
        exact absurd h hz
    refine ⟨⟨by omega, by omega⟩, fin 1 (Or.inl rfl) ⟨fun _ => ?_, fun _ => rfl⟩⟩
    rw [Nat.testBit_or, hbt]
    rfl
set_option maxRecDepth 100000 in
theorem ys_188_2 {s : zq_S} {K : zq_S → Prop} {n : Nat} (hmI : ym_I s) (hn : n ≤ 9) (hT6 : yp_T6 (ym_c s (10 + n))) : ∀ (es : List ye_E) (f : Bool) (p : Int) (S : zq_S) (fm : Nat) (v3 v4 v5 : Value), v3.category = 1 → v4.category = 1 → v5.category = 1 → ye_oks es → ye_su (ym_c s (10 + n)) p f es → 0 ≤ p → p + (ye_pr f es).length = zq_i s 240 n → ymf [] [255] s S → yfr S 255 fm → fm < 1024 → (∀ S', ymf [] [255] s S' → yfr S' 255 (fm ||| yo s es) → K S') → zq_Ex X 188 2 [.ref 232, zq_vi (n : Int), zq_vi p, v3, v4, v5] [] S (zq_rv K)
  | [], f, p, S, fm, v3, v4, v5, h3, h4, h5, _, _, p0, hl, fr, hf, hfm, k => by
    have e240 : zq_i S 240 = zq_i s 240 := fr.i (by decide) (by decide)
    have h500 := hmI.2.2.2.2 n (by omega) (by omega)
    have hl : p = zq_i s 240 n := by simpa [ye_pr] using hl
    refine zw_188_2 ⟨by omega, by omega⟩ ⟨by omega, by omega⟩ h3 h4 h5 ⟨⟨by omega, by omega⟩, ?_⟩
    rw [e240, if_neg (by omega)]
    refine k S fr ?_
    have e : fm ||| yo s [] = fm := Nat.or_zero fm
    rw [e]
    exact hf
  | .inr c :: es, f, p, S, fm, v3, v4, v5, h3, h4, h5, ho, hsu, p0, hl, fr, hf, hfm, k => by
    have e240 : zq_i S 240 = zq_i s 240 := fr.i (by decide) (by decide)
    have h500 := hmI.2.2.2.2 n (by omega) (by omega)
    have hTS : ym_c S (10 + n) = ym_c s (10 + n) := ym_c_o e240 (fr.i (by decide) (by decide))
    have hmS : ym_I S := hmI.cong (fun j _ => fr.f (by simp)) e240
    have hk := ho.2 c (by simp)
    have hc := ye_su_cl hsu
    obtain ⟨hc1, hc2⟩ := ye_at_app.mp hc
    have el : (ye_pr f (.inr c :: es)).length = (ye_cl c).length + (ye_pr false es).length := by
      show (ye_cl c ++ ye_pr false es).length = _
      rw [List.length_append]
    rw [el] at hl
    rcases hk with e | e
    · subst e
      have hc1 : ye_at (ym_c s (10 + n)) p [93] := hc1
      have t0 := ye_at_hd hc1
      have l1 : (ye_cl 6).length = 1 := rfl
      rw [l1] at hl hc2
      refine ys_188_c (c := 93) hmS hn p0 (by omega) (by rw [e240]; omega) (by rw [hTS]; exact t0) ⟨by decide, by decide⟩ (by decide) h3 h4 h5 (fun w3 w4 w5 g3 g4 g5 => ?_)
      rw [if_neg (by decide), if_neg (by decide), if_neg (by decide)]
      exact ys_188_2 hmI hn hT6 es false (p + 1) S fm w3 w4 w5 g3 g4 g5 ho.tl hc2 (by omega) (by omega) fr hf hfm k
    · subst e
      have hc1 : ye_at (ym_c s (10 + n)) p [62, 62] := hc1
      obtain ⟨t0, t1⟩ := ye_at_cons.mp hc1
      have t1 := ye_at_hd t1
      have l1 : (ye_cl 7).length = 2 := rfl
      rw [l1] at hl hc2
      refine ys_188_c (c := 62) hmS hn p0 (by omega) (by rw [e240]; omega) (by rw [hTS]; exact t0) ⟨by decide, by decide⟩ (by decide) h3 h4 h5 (fun w3 w4 w5 g3 g4 g5 => ?_)
      rw [if_neg (by decide), if_neg (by decide), if_neg (by decide)]
      refine ys_188_c (c := 62) hmS hn (by omega) (by omega) (by rw [e240]; omega) (by rw [hTS]; exact t1) ⟨by decide, by decide⟩ (by decide) g3 g4 g5 (fun w3 w4 w5 g3 g4 g5 => ?_)
      rw [if_neg (by decide), if_neg (by decide), if_neg (by decide), show p + 1 + 1 = p + ((2 : Nat) : Int) by omega]
      exact ys_188_2 hmI hn hT6 es false (p + ((2 : Nat) : Int)) S fm w3 w4 w5 g3 g4 g5 ho.tl hc2 (by omega) (by omega) fr hf hfm k
  | .inl d :: es, f, p, S, fm, v3, v4, v5, h3, h4, h5, ho, hsu, p0, hl, fr, hf, hfm, k => by
    have e240 : zq_i S 240 = zq_i s 240 := fr.i (by decide) (by decide)
    have h500 := hmI.2.2.2.2 n (by omega) (by omega)
    have hTS : ym_c S (10 + n) = ym_c s (10 + n) := ym_c_o e240 (fr.i (by decide) (by decide))
    have hmS : ym_I S := hmI.cong (fun j _ => fr.f (by simp)) e240
    have hd := ho.1 d (by simp)
    have el : (ye_pr f (.inl d :: es)).length = (if f = true then [] else [(32 : Int)]).length + ((ye_ky d).length + ((ye_op d).length + (ye_pr (ye_nest d) es).length)) := by
      show ((if f = true then [] else [32]) ++ (ye_ky d ++ (ye_op d ++ ye_pr (ye_nest d) es))).length = _
      rw [List.length_append, List.length_append, List.length_append]
    rw [el] at hl
    obtain ⟨c, r, ec, c32, c10, c82, c93, c62, c0, cdg, c47, c40, c91, c60⟩ := ye_op_hd hd
    have lo : 1 ≤ (ye_op d).length := by rw [ec]; simp
    have e1 : yo s (.inl d :: es) = (if d.1 = 8 ∧ yz_to s d ≠ 0 then 2 ^ yz_to s d else 0) ||| yo s es := rfl
    -- behind the token
    have rest : ∀ (p2 : Int) (S' : zq_S) (w3 w4 w5 : Value), w3.category = 1 → w4.category = 1 → w5.category = 1 → 0 ≤ p2 → p2 + (ye_op d).length + (ye_pr (ye_nest d) es).length = zq_i s 240 n → ye_su (ym_c s (10 + n)) (p2 + (ye_op d).length) (ye_nest d) es → ymf [] [255] s S' → yfr S' 255 (fm ||| (if d.1 = 8 ∧ yz_to s d ≠ 0 then 2 ^ yz_to s d else 0)) → zq_Ex X 188 2 [.ref 232, zq_vi (n : Int), zq_vi (p2 + (ye_op d).length), w3, w4, w5] [] S' (zq_rv K) := fun p2 S' w3 w4 w5 g3 g4 g5 q0 q1 q2 q3 q4 =>
      ys_188_2 hmI hn hT6 es (ye_nest d) _ S' _ w3 w4 w5 g3 g4 g5 ho.tl q2 (by omega) (by omega) q3 q4 (ybit_or2 hfm (yo_bit s d).1).2 (fun S2 a1 a2 => k S2 a1 (by rw [e1, ← Nat.or_assoc]; exact a2))
    -- the token
    have tok : ∀ (p2 : Int) (w3 w4 w5 : Value), w3.category = 1 → w4.category = 1 → w5.category = 1 → 0 ≤ p2 → p2 + (ye_op d).length + (ye_pr (ye_nest d) es).length = zq_i s 240 n → ye_at (ym_c s (10 + n)) p2 (ye_op d ++ (ye_pr (ye_nest d) es ++ [0])) → zq_Ex X 188 2 [.ref 232, zq_vi (n : Int), zq_vi p2, w3, w4, w5] [] S (zq_rv K) := fun p2 w3 w4 w5 g3 g4 g5 q0 q1 hat => by
      have he := yr_end_at hd ho.tl hat
      have hsu2 := (ye_at_app.mp hat).2
      have t0 : ym_c s (10 + n) p2 = c := by
        have hh := hat
        rw [ec] at hh
        exact ye_at_hd hh
      have hcc := ye_op_ch hd c (by rw [ec]; simp)
      by_cases h8 : d.1 = 8
      · refine ys_188_r (s := s) (d := d) (es := es) hmS hn q0 (by omega) (by rw [e240]; omega) h8 hd ho.tl (by rw [hTS]; exact hat) fr hf hfm g3 g4 g5 (fun S' u3 u4 u5 y3 y4 y5 a1 a2 => ?_)
        exact rest p2 S' u3 u4 u5 y3 y4 y5 q0 q1 hsu2 a1 a2
      · have hnone : yfr S 255 (fm ||| (if d.1 = 8 ∧ yz_to s d ≠ 0 then 2 ^ yz_to s d else 0)) := by
          rw [if_neg (fun z => h8 z.1), Nat.or_zero]
          exact hf
        have kinds := hd.kinds
        unfold yr_end at he
        rw [if_neg h8] at he
        by_cases hdg : 48 ≤ c ∧ c ≤ 57
        · have h3' : d.1 = 3 := by
            rcases cdg hdg with z | z
            · exact z
            · exact absurd z h8
          rw [if_neg (by omega), if_neg (by omega), if_neg (by omega), if_neg (by omega)] at he
          have hnn : ye_nest d = false := decide_eq_false (by omega)
          have eo : ye_op d = ye_num d.2.1 := by unfold ye_op; rw [if_neg (by omega), if_neg (by omega), if_neg (by omega), if_pos h3']
          have href : yp_ref (ym_c s (10 + n)) p2 = -1 := by
            have hh := hat
            rw [eo, hnn] at hh
            exact ye_num_ref (hd.k3 h3') ho.tl hh
          refine ys_188_n (c := c) hmS hn q0 (by omega) (by rw [e240]; omega) (by rw [hTS]; exact t0) hdg (by rw [hTS]; exact href) g3 g4 g5 (fun u3 u4 u5 y3 y4 y5 => ?_)
          rw [hTS, he]
          exact rest p2 S u3 u4 u5 y3 y4 y5 q0 q1 hsu2 fr hnone
        · have hdf : yp_dg c = false := decide_eq_false hdg
          by_cases h7 : d.1 = 7
          · have eo : ye_op d = [60, 60] := by unfold ye_op; rw [if_neg (by omega), if_neg (by omega), if_neg (by omega), if_neg (by omega), if_neg (by omega), if_neg (by omega), if_neg (by omega), if_pos h7]
            have hh := hat
            rw [eo] at hh
            obtain ⟨z0, z1⟩ := ye_at_cons.mp hh
            have z1 := ye_at_hd z1
            have l2 : (ye_op d).length = 2 := by rw [eo]; rfl
            refine ys_188_c (c := 60) hmS hn q0 (by omega) (by rw [e240]; omega) (by rw [hTS]; exact z0) ⟨by decide, by decide⟩ (by decide) g3 g4 g5 (fun u3 u4 u5 y3 y4 y5 => ?_)
            rw [if_neg (by decide), if_neg (by decide), if_neg (by decide)]
            refine ys_188_c (c := 60) hmS hn (by omega) (by omega) (by rw [e240]; omega) (by rw [hTS]; exact z1) ⟨by decide, by decide⟩ (by decide) y3 y4 y5 (fun u3 u4 u5 y3 y4 y5 => ?_)
            rw [if_neg (by decide), if_neg (by decide), if_neg (by decide), show p2 + 1 + 1 = p2 + ((ye_op d).length : Int) by rw [l2]; omega]
            exact rest p2 S u3 u4 u5 y3 y4 y5 q0 q1 hsu2 fr hnone
          · refine ys_188_c (c := c) hmS hn q0 (by omega) (by rw [e240]; omega) (by rw [hTS]; exact t0) ⟨by omega, by omega⟩ hdf g3 g4 g5 (fun u3 u4 u5 y3 y4 y5 => ?_)
            rw [hTS]
            have hend : (if c = 40 then yp_se (ym_c s (10 + n)) p2 else if c = 47 then yp_nm (ym_c s (10 + n)) p2 else if yp_nc c = true ∨ c = 45 then yp_wd (ym_c s (10 + n)) p2 else p2 + 1) = p2 + (ye_op d).length := by
              by_cases h4' : d.1 = 4
              · rw [if_pos h4'] at he
                rw [if_neg (by have := c47.mpr h4'; omega), if_pos (c47.mpr h4')]
                exact he
              rw [if_neg h4'] at he
              by_cases h5' : d.1 = 5
              · rw [if_pos h5'] at he
                rw [if_pos (c40.mpr h5')]
                exact he
              rw [if_neg h5'] at he
              rw [if_neg (fun z => h5' (c40.mp z)), if_neg (fun z => h4' (c47.mp z))]
              by_cases h6' : d.1 = 6
              · rw [if_pos h6'] at he
                have c9 := c91.mpr h6'
                rw [if_neg (by rw [c9]; decide)]
                exact he
              · rw [if_neg h6', if_neg h7] at he
                have hw : yp_nc c = true ∨ c = 45 := by
                  rcases hd.2 with (z | z | z | z | z) | ⟨z, hz⟩ | ⟨z, _⟩ | ⟨z, _⟩ | ⟨z, _⟩
                  · have eo : ye_op d = [110, 117, 108, 108] := by unfold ye_op; rw [if_pos z]
                    rw [ec] at eo
                    have := (List.cons.inj eo).1
                    left; rw [this]; rfl
                  · have eo : ye_op d = [116, 114, 117, 101] := by unfold ye_op; rw [if_neg (by omega), if_pos z]
                    rw [ec] at eo
                    have := (List.cons.inj eo).1
                    left; rw [this]; rfl
                  · have eo : ye_op d = [102, 97, 108, 115, 101] := by unfold ye_op; rw [if_neg (by omega), if_neg (by omega), if_pos z]
                    rw [ec] at eo
                    have := (List.cons.inj eo).1
                    left; rw [this]; rfl
                  · exact absurd z h6'
                  · exact absurd z h7
                  · right
                    obtain ⟨c2, l2, en, hc2⟩ := ye_num_hd d.2.1 hz
                    have eo : ye_op d = ye_num d.2.1 := by unfold ye_op; rw [if_neg (by omega), if_neg (by omega), if_neg (by omega), if_pos z]
                    rw [ec, en] at eo
                    have := (List.cons.inj eo).1
                    rcases hc2 with y | y
                    · rw [this]; exact y
                    · exfalso; rw [this] at hdg; exact hdg y
                  · exact absurd z h4'
                  · exact absurd z h5'
                  · exact absurd z h8
                rw [if_pos hw]
                exact he
            rw [hend]
            exact rest p2 S u3 u4 u5 y3 y4 y5 q0 q1 hsu2 fr hnone
    -- the key
    have key : ∀ (p1 : Int) (w3 w4 w5 : Value), w3.category = 1 → w4.category = 1 → w5.category = 1 → 0 ≤ p1 → p1 + (ye_ky d).length + (ye_op d).length + (ye_pr (ye_nest d) es).length = zq_i s 240 n → ye_at (ym_c s (10 + n)) p1 (ye_ky d ++ (ye_op d ++ (ye_pr (ye_nest d) es ++ [0]))) → zq_Ex X 188 2 [.ref 232, zq_vi (n : Int), zq_vi p1, w3, w4, w5] [] S (zq_rv K) := fun p1 w3 w4 w5 g3 g4 g5 q0 q1 hat => by
      obtain ⟨hky1, hop⟩ := ye_at_app.mp hat
      by_cases hk : d.2.2.2.1 = []
      · have hky : ye_ky d = [] := by unfold ye_ky; rw [if_pos hk]
        rw [hky] at hop q1
        exact tok p1 w3 w4 w5 g3 g4 g5 q0 (by simpa using q1) (by simpa using hop)
      · have hky : ye_ky d = 47 :: (d.2.2.2.1 ++ [32]) := by unfold ye_ky; rw [if_neg hk]
        have hnm : ye_nm d.2.2.2.1 := by
          rcases hd.1 with z | z
          · exact absurd z hk
          · exact z
        have lk : ((ye_ky d).length : Int) = d.2.2.2.1.length + 2 := by rw [hky]; simp; omega
        rw [hky] at hky1
        obtain ⟨t47, hk2⟩ := ye_at_cons.mp hky1
        obtain ⟨_, hk4⟩ := ye_at_app.mp hk2
        have t32 := ye_at_hd hk4
        obtain ⟨nm1, _⟩ := ye_name hnm hky1 (by rw [t32]; rfl)
        refine ys_188_c (c := 47) hmS hn q0 (by omega) (by rw [e240]; omega) (by rw [hTS]; exact t47) ⟨by decide, by decide⟩ (by decide) g3 g4 g5 (fun u3 u4 u5 y3 y4 y5 => ?_)
        rw [if_neg (by decide), if_pos rfl, hTS, nm1]
        refine ys_188_c (c := 32) hmS hn (by omega) (by omega) (by rw [e240]; omega) (by rw [hTS]; exact t32) ⟨by decide, by decide⟩ (by decide) y3 y4 y5 (fun u3 u4 u5 y3 y4 y5 => ?_)
        rw [if_neg (by decide), if_neg (by decide), if_neg (by decide), show p1 + 1 + ((d.2.2.2.1.length : Nat) : Int) + 1 = p1 + (ye_ky d).length by omega]
        exact tok _ u3 u4 u5 y3 y4 y5 (by omega) q1 hop
    cases f with
    | true =>
      have h1 := ye_su_node1 hsu
      rw [if_pos rfl] at hl
      simp only [List.length_nil] at hl
      exact key p v3 v4 v5 h3 h4 h5 p0 (by omega) h1
    | false =>
      obtain ⟨a1, a2⟩ := ye_su_node hsu
      rw [if_neg (by decide)] at hl
      simp only [List.length_cons, List.length_nil] at hl
      refine ys_188_c (c := 32) hmS hn p0 (by omega) (by rw [e240]; omega) (by rw [hTS]; exact a1) ⟨by decide, by decide⟩ (by decide) h3 h4 h5 (fun u3 u4 u5 y3 y4 y5 => ?_)
      rw [if_neg (by decide), if_neg (by decide), if_neg (by decide)]
      exact key (p + 1) u3 u4 u5 y3 y4 y5 (by omega) (by omega) a2
set_option maxRecDepth 100000 in
/-- all that an object's text means is found -/
theorem ys_188 {s S : zq_S} {K : zq_S → Prop} {n fm : Nat} {es : List ye_E} (hmI : ym_I s) (hn : n ≤ 9) (hT6 : yp_T6 (ym_c s (10 + n))) (ho : ye_oks es) (hsu : ye_su (ym_c s (10 + n)) 0 true es) (hl : zq_i s 240 n = (ye_pr true es).length) (fr : ymf [] [255] s S) (hf : yfr S 255 fm) (hfm : fm < 1024) (k : ∀ S', ymf [] [255] s S' → yfr S' 255 (fm ||| yo s es) → K S') : zq_Ex X 188 0 [.ref 232, zq_vi (n : Int), zz_no, zz_no, zz_no, zz_no] [] S (zq_rv K) := zw_188 ⟨by omega, by omega⟩ (ys_188_2 hmI hn hT6 es true 0 S fm _ _ _ rfl rfl rfl ho hsu (by decide) (by omega) fr hf hfm k)
end YLC6
