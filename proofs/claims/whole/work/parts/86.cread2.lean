/-! the class reads: references, names, openings -/
section YCQ
variable {X : Nat × (Nat → Int32)} {s : zq_S} {R a t : Nat}
set_option maxRecDepth 100000 in
/-- one int of the tree's rows number or generation of the new node is written -/
theorem yc_put {s' : zq_S} {c lev e v : Int} {b : Nat} (hb : b = t + 3 ∨ b = t + 4) (dRt : R ∉ yc_t7 t ∧ R + 1 ∉ yc_t7 t) (ho : yt_old s s' t c) (h4 : zq_l s' R 4 = 0) (h5 : zq_i s' R 5 = e) (h3 : zq_i s' R 3 = lev) (h1 : zq_i s' (R + 1) = zq_i s (R + 1)) (hf : ycf (yc_A R t) s s') : yt_old s (zq_si s' b c v) t c ∧ zq_l (zq_si s' b c v) R 4 = 0 ∧ zq_i (zq_si s' b c v) R 5 = e ∧ zq_i (zq_si s' b c v) R 3 = lev ∧ zq_i (zq_si s' b c v) (R + 1) = zq_i s (R + 1) ∧ ycf (yc_A R t) s (zq_si s' b c v) := by
  have f2 : ycf [b] s' (zq_si s' b c v) := ycf.si (by simp)
  have r3 : R ∉ [b] ∧ R + 1 ∉ [b] := by simp at dRt ⊢; omega
  refine ⟨ho.trans (fun q q0 q1 => ⟨?_, ?_, ?_, ?_, rfl, fun i i0 i1 => ?_⟩), ?_, ?_, ?_, ?_, hf.trans (f2.mono (by simp; omega))⟩
  · rw [f2.i (by simp; omega)]
  · rw [f2.i (by simp; omega)]
  · rw [zq_i_si, if_neg (fun z => by have := z.2; omega)]
  · rw [zq_i_si, if_neg (fun z => by have := z.2; omega)]
  · rw [f2.i (by simp; omega)]
  · exact h4
  · rw [f2.i r3.1]; exact h5
  · rw [f2.i r3.1]; exact h3
  · rw [f2.i r3.2]; exact h1
set_option maxRecDepth 100000 in
/-- takeReference -/
theorem ys_62 {K : Int → zq_S → Prop} {p c lev : Int} {key : List Int} (hR : zq_o 3 R) (ha : zq_o 1 a) (ht : zq_o 4 t) (hra : zq_r s R 0 = some a) (hrt : zq_r s R 1 = some t) (ho : yc_ok s a) (hp : zq_i s R 5 = p) (p0 : 0 ≤ p) (p1 : p ≤ 1000) (hlev : zq_i s R 3 = lev) (hlv : zq_iv lev) (hkey : zq_l s R 4 = ye_pk key 0) (hcn : zq_i s t 0 = c) (c0 : 0 ≤ c) (c1 : c < 12)
    (kf : yp_ref (yc_t s a) p < 0 → K 0 s)
    (kk : 0 ≤ yp_ref (yc_t s a) p → ∀ s', yc_v s s' R t c lev (yp_ref (yc_t s a) p) (yr_nd (yc_t s a) 8 p key) → K 1 s') : zq_Ex X 62 0 [.ref R, zz_no, zz_no, zz_no, zz_no, zz_no] [] s (zq_rp zq_bo K) := by
  have hT := ho.T ha
  have dRt := yk_Rt hR ht
  refine zq_have (fun hR0 => ?_)
  generalize hb : yp_sk (yc_t s a) (p + 1) = b
  generalize hc2 : yp_sk (yc_t s a) (b + 1) = c2
  have b1 : p + 1 ≤ b := by rw [← hb]; exact yp_sk_le (p + 1)
  have b2 : b ≤ 1001 := by
    by_cases h : p + 1 ≤ 1000
    · have := yp_sk_lt hT h; omega
    · rw [← hb, ye_sk0 (by rw [hT (p + 1) (by omega)]; rfl)]; omega
  have e1 : b + 1 ≤ c2 := by rw [← hc2]; exact yp_sk_le (b + 1)
  have e2 : c2 ≤ 1002 := by
    by_cases h : b + 1 ≤ 1000
    · have := yp_sk_lt hT h; omega
    · rw [← hc2, ye_sk0 (by rw [hT (b + 1) (by omega)]; rfl)]; omega
  -- when it is one
  have ref : yp_ref (yc_t s a) p = if yp_od1 (yc_t s a) p 49 = false then -1 else if yp_od1 (yc_t s a) b 48 = false then -1 else if yc_t s a c2 = 82 ∧ yp_wd (yc_t s a) c2 = c2 + 1 then c2 + 1 else -1 := by
    unfold yp_ref
    rw [hb, hc2]
  have od49 : yp_od1 (yc_t s a) p 49 = true ↔ yp_od1 (yc_t s a) p 48 = true ∧ yc_t s a p ≠ 48 := by
    rw [yr_od1_iff hT (by omega), yr_od1_iff hT (by omega)]
    constructor
    · intro ⟨h1, h2, h3⟩; exact ⟨⟨h1, h2, by omega⟩, by omega⟩
    · intro ⟨⟨h1, h2, h3⟩, h4⟩; exact ⟨h1, h2, by omega⟩
  refine zw_62 hR ⟨a, hra, ?_⟩
  rw [hp]
  refine ys_46b ha ho (by omega) (by omega) ⟨a, hra, ?_⟩
  rw [hb]
  refine ys_46b ha ho (by omega) (by omega) ?_
  rw [hc2, hp]
  refine ys_63 hR ha hra ho p0 (by omega) (yb_if (fun h1 => ?_) (fun h1 => ?_))
  · refine kf ?_
    have : yp_od1 (yc_t s a) p 49 = false := by
      cases hz : yp_od1 (yc_t s a) p 49 with
      | false => rfl
      | true => rw [(od49.mp hz).1] at h1; cases h1
    rw [ref, if_pos this]
    decide
  refine ⟨a, hra, ?_⟩
  rw [hp]
  refine ys_29 ha ho ⟨by omega, by omega⟩ ?_
  have hd1 := yr_od1 h1
  have ecd : ∀ q, yc_t s a q ≠ 0 → yp_cd (yc_t s a q) = yc_t s a q := fun q hq => by unfold yp_cd; rw [if_neg hq]
  rw [ecd p (by omega)]
  split
  · next h2 =>
    refine kf ?_
    have : yp_od1 (yc_t s a) p 49 = false := by
      cases hz : yp_od1 (yc_t s a) p 49 with
      | false => rfl
      | true => exact absurd h2 (od49.mp hz).2
    rw [ref, if_pos this]
    decide
  next h2 =>
  have o1 : yp_od1 (yc_t s a) p 49 = true := od49.mpr ⟨h1, h2⟩
  rw [if_neg (by rw [o1]; decide)] at ref
  refine ys_63 hR ha hra ho (by omega) (by omega) (yb_if (fun h3 => ?_) (fun h3 => ?_))
  · exact kf (by rw [ref, if_pos h3]; decide)
  rw [if_neg (by rw [h3]; decide)] at ref
  refine ⟨a, hra, ys_29 ha ho ⟨by omega, by omega⟩ ?_⟩
  have e82 : yp_cd (yc_t s a c2) = 82 ↔ yc_t s a c2 = 82 := by unfold yp_cd; split <;> omega
  by_cases h4 : yc_t s a c2 = 82
  · rw [if_pos (e82.mpr h4)]
    have w82 : yp_wd (yc_t s a) c2 = c2 + 1 ↔ yp_wc (yc_t s a (c2 + 1)) = false := by
      unfold yp_wd
      rw [yp_end_eq hT rfl (by omega), if_pos (by rw [h4]; rfl), yp_end_eq hT rfl (by omega)]
      cases h : yp_wc (yc_t s a (c2 + 1)) with
      | true =>
        rw [if_pos rfl]
        have := yp_end_le (p := yp_wc) (T := yc_t s a) 2000 (c2 + 1 + 1)
        have e : yp_end yp_wc (yc_t s a) (c2 + 1 + 1) = yp_run yp_wc (yc_t s a) 2000 (c2 + 1 + 1) := rfl
        rw [e]
        exact ⟨fun z => by omega, fun z => by cases z⟩
      | false => rw [if_neg (by decide)]; exact ⟨fun _ => rfl, fun _ => rfl⟩
    refine ⟨a, hra, ys_29 ha ho ⟨by omega, by omega⟩ (ys_65 (yp_cd_in hR0 _) (yb_if (fun h5 => ?_) (fun h5 => ?_)))⟩
    · rw [yc_cd (p := yp_wc) rfl rfl] at h5
      rw [if_pos ⟨h4, w82.mpr h5⟩] at ref
      have hd2 := yr_od1 h3
      refine ⟨a, hra, ?_⟩
      rw [hp]
      refine ys_29 ha ho ⟨by omega, by omega⟩ ?_
      rw [ecd p (by omega)]
      refine ys_58 hR ht hrt (by decide) ⟨by omega, by omega⟩ hlev hlv hkey hcn c0 c1 (fun s' b1' b2' b3' b4' b5' b6' b7' => ⟨t, by rw [b7'.r]; exact hrt, ⟨c0, c1⟩, ⟨by omega, by omega⟩, a, by rw [b7'.r]; exact hra, ?_⟩)
      have P := yc_put (b := t + 3) (v := yc_t s a p - 48) (Or.inl rfl) dRt b2' b3' b4' b5' b6' b7'
      obtain ⟨P1, P2, P3, P4, P5, P6⟩ := P
      have dtx := yk_text ha hR ht
      have tsame := yc_t_same (P6.i dtx.1) (P6.i dtx.2)
      refine ys_29 ha (tsame.2 ho) ⟨by omega, by omega⟩ ⟨⟨c0, c1⟩, ?_⟩
      rw [tsame.1, ecd b (by omega)]
      refine ⟨⟨by omega, by omega⟩, kk (by rw [ref]; omega) _ ?_⟩
      obtain ⟨Q1, Q2, Q3, Q4, Q5, Q6⟩ := yc_put (b := t + 4) (v := yc_t s a b - 48) (Or.inr rfl) dRt P1 P2 P3 P4 P5 P6
      obtain ⟨n1, n2, n3, n4, n5, n6⟩ := b1'
      rw [ref]
      refine ⟨?_, ⟨?_, ?_, ?_, fun _ => ?_, n6, (fun z => by have z : (8 : Int) = 4 ∨ (8 : Int) = 5 := z; omega)⟩, Q1, Q2, Q3, Q4, Q5, Q6⟩
      · rw [zq_i_si, if_neg (by simp), zq_i_si, if_neg (by simp)]; exact n1
      · rw [zq_i_si, if_neg (by simp), zq_i_si, if_neg (by simp)]; exact n2
      · rw [zq_i_si, if_neg (by simp), zq_i_si, if_neg (by simp)]; exact n3
      · rw [zq_i_si, if_neg (by simp), zq_i_si, if_pos ⟨rfl, rfl⟩]; rfl
      · rw [zq_i_si, if_pos ⟨rfl, rfl⟩]
        show yc_t s a b - 48 = yc_t s a (yp_sk (yc_t s a) (p + 1)) - 48
        rw [hb]
    · rw [yc_cd (p := yp_wc) rfl rfl] at h5
      exact kf (by rw [ref, if_neg (fun z => by rw [w82.mp z.2] at h5; cases h5)]; decide)
  · rw [if_neg (fun z => h4 (e82.mp z))]
    exact kf (by rw [ref, if_neg (fun z => h4 z.1)]; decide)
/-- letters of the new node: l is there, more come -/
def yc_l (s s' : zq_S) (R t : Nat) (c lev e k : Int) (y : Int64) (l : List Int) : Prop := zq_i s' t 0 = c + 1 ∧ zq_i s' (t + 1) c = k ∧ zq_i s' (t + 2) c = lev ∧ zq_i s' (t + 3) c = (l.length : Nat) ∧ zq_l s' (t + 5) c = y ∧ (∀ i : Nat, i < l.length → zq_i s' (t + 6) (12 * c + i) = l.getD i 0) ∧ yt_old s s' t c ∧ zq_i s' R 5 = e ∧ zq_i s' R 3 = lev ∧ zq_i s' (R + 1) = zq_i s (R + 1) ∧ ycf (yc_A R t) s s'
set_option maxRecDepth 100000 in
/-- one letter more -/
theorem yc_l.add {s' : zq_S} {c lev e k x : Int} {y : Int64} {l : List Int} (dRt : R ∉ yc_t7 t ∧ R + 1 ∉ yc_t7 t) (h : yc_l s s' R t c lev e k y l) (hl : l.length < 12) (c0 : 0 ≤ c) : yc_l s (zq_si (zq_si s' (t + 6) (12 * c + (l.length : Nat)) x) (t + 3) c ((l.length : Nat) + 1)) R t c lev e k y (l ++ [x]) ∧ zq_l (zq_si (zq_si s' (t + 6) (12 * c + (l.length : Nat)) x) (t + 3) c ((l.length : Nat) + 1)) R 4 = zq_l s' R 4 := by
  obtain ⟨h1, h2, h3, h4, h5, h6, h7, h8, h9, h10, h11⟩ := h
  have f2 : ycf [t + 3, t + 6] s' (zq_si (zq_si s' (t + 6) (12 * c + (l.length : Nat)) x) (t + 3) c ((l.length : Nat) + 1)) := (ycf.si (by simp)).trans (ycf.si (by simp))
  have r3 : R ∉ [t + 3, t + 6] ∧ R + 1 ∉ [t + 3, t + 6] := by simp at dRt ⊢; omega
  refine ⟨⟨?_, ?_, ?_, ?_, h5, fun i hi => ?_, h7.trans (fun q q0 q1 => ⟨?_, ?_, ?_, ?_, rfl, fun i i0 i1 => ?_⟩), ?_, ?_, ?_, h11.trans (f2.mono (by simp))⟩, rfl⟩
  · rw [f2.i (by simp)]; exact h1
  · rw [f2.i (by simp)]; exact h2
  · rw [f2.i (by simp)]; exact h3
  · rw [zq_i_si, if_pos ⟨rfl, rfl⟩]; simp
  · simp at hi
    rw [zq_i_si, if_neg (by simp), zq_i_si]
    by_cases e1 : i = l.length
    · rw [if_pos ⟨rfl, by omega⟩, e1]; simp
    · rw [if_neg (fun z => e1 (by have := z.2; omega)), h6 i (by omega)]
      simp [List.getD_eq_getElem?_getD, List.getElem?_append_left (show i < l.length by omega)]
  · rw [f2.i (by simp)]
  · rw [f2.i (by simp)]
  · rw [zq_i_si, if_neg (fun z => by have := z.2; omega), zq_i_si, if_neg (by simp)]
  · rw [f2.i (by simp)]
  · rw [zq_i_si, if_neg (by simp), zq_i_si, if_neg (fun z => by have := z.2; omega)]
  · rw [f2.i r3.1]; exact h8
  · rw [f2.i r3.1]; exact h9
  · rw [f2.i r3.2]; exact h10
set_option maxRecDepth 100000 in
/-- takeName -/
theorem ys_59 {K : Int → zq_S → Prop} {p c lev : Int} {key : List Int} (hR : zq_o 3 R) (ha : zq_o 1 a) (ht : zq_o 4 t) (hra : zq_r s R 0 = some a) (hrt : zq_r s R 1 = some t) (ho : yc_ok s a) (hp : zq_i s R 5 = p) (p0 : 0 ≤ p) (p1 : p ≤ 1000) (hlev : zq_i s R 3 = lev) (hlv : zq_iv lev) (hkey : zq_l s R 4 = ye_pk key 0) (hcn : zq_i s t 0 = c) (c0 : 0 ≤ c) (c1 : c < 12)
    (kf : yp_isN (yc_t s a) p = false → K 0 s)
    (kk : yp_isN (yc_t s a) p = true → ∀ s', yc_v s s' R t c lev (yp_nm (yc_t s a) p) (yr_nd (yc_t s a) 4 p key) → K 1 s') : zq_Ex X 59 0 [.ref R, zz_no, zz_no, zz_no, zz_no] [] s (zq_rp zq_bo K) := by
  have hT := ho.T ha
  have dRt := yk_Rt hR ht
  have dtx := yk_text ha hR ht
  refine zw_59 hR ⟨a, hra, ?_⟩
  rw [hp]
  refine ys_52 ha ho p0 p1 ?_
  cases hN : yp_isN (yc_t s a) p with
  | false =>
    simp only [Bool.false_eq_true, if_false]
    rw [if_pos trivial]
    exact kf hN
  | true =>
    rw [if_pos rfl]
    have hn1 := of_decide_eq_true hN
    obtain ⟨hw, hnl⟩ := yr_name_ok hN
    have w6 := hw.2.1
    have p9 := yp_lt hT (k := p) (by omega)
    have n2 := yp_nm_lt hT (k := p) (by omega)
    rw [if_neg (by omega)]
    refine ys_58 hR ht hrt (by decide) ⟨by omega, by omega⟩ hlev hlv hkey hcn c0 c1 (fun s' b1 b2 b3 b4 b5 b6 b7 => ?_)
    rw [hp]
    obtain ⟨n1', n2', n3', n4', n5', n6'⟩ := b1
    -- the loop over the letters
    have loop : ∀ (m i : Nat) (s1 : zq_S), i + m = (yr_name (yc_t s a) p).length → yc_l s s1 R t c lev (yp_nm (yc_t s a) p) 4 (ye_pk key 0) ((yr_name (yc_t s a) p).take i) → zq_l s1 R 4 = 0 → zq_Ex X 59 36 [.ref R, zq_vi (yp_nm (yc_t s a) p), zq_vi (p + 1), zq_vi c, zq_vi (p + 1 + i)] [] s1 (zq_rp zq_bo K) := by
      intro m
      induction m with
      | zero =>
        intro i s1 hi hl h4
        refine zw_59_36 hR ⟨by omega, by omega⟩ ⟨by omega, by omega⟩ ⟨by omega, by omega⟩ ⟨by omega, by omega⟩ ?_
        rw [if_neg (by omega)]
        rw [List.take_of_length_le (by omega)] at hl
        obtain ⟨q1, q2, q3, q4, q5, q6, q7, q8, q9, q10, q11⟩ := hl
        exact kk hN s1 ⟨q1, ⟨q2, q3, q4, (fun z => by have z : (4 : Int) = 8 := z; omega), q5, fun _ i hi => q6 i hi⟩, q7, h4, q8, q9, q10, q11⟩
      | succ m ih =>
        intro i s1 hi hl h4
        have hlt : i < (yr_name (yc_t s a) p).length := by omega
        refine zw_59_36 hR ⟨by omega, by omega⟩ ⟨by omega, by omega⟩ ⟨by omega, by omega⟩ ⟨by omega, by omega⟩ ?_
        rw [if_pos (by omega)]
        have hf := hl.2.2.2.2.2.2.2.2.2.2
        have tsame := yc_t_same (hf.i dtx.1) (hf.i dtx.2)
        refine ⟨t, by rw [hf.r]; exact hrt, a, by rw [hf.r]; exact hra, ys_29 ha (tsame.2 ho) ⟨by omega, by omega⟩ ?_⟩
        rw [tsame.1]
        have hch : yc_t s a (p + 1 + i) = (yr_name (yc_t s a) p)[i] := by
          have hsub : ∀ (m : Nat) (p : Int), ye_at (yc_t s a) p (yp_sub (yc_t s a) m p) := by
            intro m
            induction m with
            | zero => intro p; exact ye_at_nil _ _
            | succ m ih => intro p; exact ye_at_cons.mpr ⟨rfl, ih (p + 1)⟩
          have := hsub (yp_nm (yc_t s a) p - (p + 1)).toNat (p + 1) i hlt
          rw [this, List.getD_eq_getElem?_getD]
          show ((yr_name (yc_t s a) p)[i]?).getD 0 = _
          rw [List.getElem?_eq_getElem hlt]
          rfl
        have hcc := of_decide_eq_true (hw.2.2 _ (List.getElem_mem hlt))
        rw [show yp_cd (yc_t s a (p + 1 + i)) = (yr_name (yc_t s a) p)[i] by unfold yp_cd; rw [hch, if_neg (by omega)]]
        have hll : ((yr_name (yc_t s a) p).take i).length = i := by simp; omega
        have hadd := yc_l.add (x := (yr_name (yc_t s a) p)[i]) dRt hl (by omega) c0
        rw [hll] at hadd
        refine ys_60 ht ⟨by omega, by omega⟩ c0 c1 (n := i) (by have := hl.2.2.2.1; rw [hll] at this; exact this) (by omega) ?_
        rw [show p + 1 + (i : Int) + 1 = p + 1 + ((i + 1 : Nat) : Int) by omega]
        refine ih (i + 1) _ (by omega) ?_ (hadd.2.trans h4)
        have : (yr_name (yc_t s a) p).take (i + 1) = (yr_name (yc_t s a) p).take i ++ [(yr_name (yc_t s a) p)[i]] := by rw [List.take_succ_eq_append_getElem hlt]
        rw [this]
        exact hadd.1
    have h0 := loop (yr_name (yc_t s a) p).length 0 s' (by omega) ⟨n1', n2', n3', n4', n6', fun i hi => by simp at hi, b2, b4, b5, b6, b7⟩ b3
    rw [show p + 1 + ((0 : Nat) : Int) = p + 1 by omega] at h0
    exact h0
set_option maxRecDepth 100000 in
/-- an opening: the node, and it is open -/
theorem ys_57 {K : Int → zq_S → Prop} {p e k c lev : Int} {key : List Int} {T : Int → Int} (hR : zq_o 3 R) (ht : zq_o 4 t) (hrt : zq_r s R 1 = some t) (he : zq_iv e) (hk : k = 6 ∨ k = 7) (hlev : zq_i s R 3 = lev) (l0 : 0 ≤ lev) (l5 : lev < 5) (hkey : zq_l s R 4 = ye_pk key 0) (hcn : zq_i s t 0 = c) (c0 : 0 ≤ c) (c1 : c < 12)
    (kk : ∀ s', zq_i s' t 0 = c + 1 → yt_nd s' t c lev (yr_nd T k p key) → yt_old s s' t c → zq_l s' R 4 = 0 → zq_i s' R 5 = e → zq_i s' R 3 = lev + 1 → (∀ j, zq_i s' (R + 1) j = if j = lev then c else zq_i s (R + 1) j) → ycf (yc_A R t) s s' → K 1 s') : zq_Ex X 57 0 [.ref R, zq_vi k, zq_vi e] [] s (zq_rp zq_bo K) := by
  have dRt := yk_Rt hR ht
  have hki : zq_iv k := by rcases hk with h | h <;> subst h <;> decide
  refine zw_57 hR hki he (ys_58 hR ht hrt hki he hlev ⟨by omega, by omega⟩ hkey hcn c0 c1 (fun s' b1 b2 b3 b4 b5 b6 b7 => ?_))
  rw [hlev, b5]
  refine ⟨⟨l0, l5⟩, ⟨by omega, by omega⟩, ?_⟩
  have v := yc_v_plain (T := T) (p := p) b1 b2 b3 b4 b5 b6 b7 (by omega)
  obtain ⟨v1, v2, v3, v4, v5, v6, v7, v8⟩ := v
  have f2 : ycf [R, R + 1] s' (zq_si (zq_si s' (R + 1) lev c) R 3 (lev + 1)) := (ycf.si (by simp)).trans (ycf.si (by simp))
  have same : ∀ q ∈ yc_t7 t, q ∉ [R, R + 1] := fun q hq z => by
    simp at z
    rcases z with z | z
    · exact dRt.1 (by rw [← z]; exact hq)
    · exact dRt.2 (by rw [← z]; exact hq)
  refine kk _ ?_ ?_ (v3.trans (yt_old.same f2 same)) v4 ?_ ?_ (fun j => ?_) (v8.trans (f2.mono (by simp)))
  · rw [f2.i (same t (by simp))]; exact v1
  · obtain ⟨w1, w2, w3, w4, w5, w6⟩ := v2
    refine ⟨?_, ?_, ?_, fun z => ?_, w5, fun z i hi => ?_⟩
    · rw [f2.i (same (t + 1) (by simp))]; exact w1
    · rw [f2.i (same (t + 2) (by simp))]; exact w2
    · rw [f2.i (same (t + 3) (by simp))]; exact w3
    · rw [f2.i (same (t + 4) (by simp))]; exact w4 z
    · rw [f2.i (same (t + 6) (by simp))]; exact w6 z i hi
  · rw [zq_i_si, if_neg (by simp), zq_i_si, if_neg (by simp)]; exact v5
  · rw [zq_i_si, if_pos ⟨rfl, rfl⟩]
  · rw [zq_i_si, if_neg (by simp), zq_i_si]
    by_cases hj : j = lev
    · rw [if_pos ⟨rfl, hj⟩, if_pos hj]
    · rw [if_neg (fun z => hj z.2), if_neg hj, v7]
end YCQ
