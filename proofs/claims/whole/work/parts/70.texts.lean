/-! what changes; Texts that grow -/
/-- only ints of the cells of A may differ -/
def yf (A : List Nat) (s s' : zq_S) : Prop := (∀ b, b ∉ A → zq_i s' b = zq_i s b) ∧ s'.2 = s.2
set_option maxRecDepth 100000 in
theorem yf.refl (A : List Nat) (s : zq_S) : yf A s s := ⟨fun _ _ => rfl, rfl⟩
set_option maxRecDepth 100000 in
theorem yf.trans {A : List Nat} {s s1 s2 : zq_S} (h1 : yf A s s1) (h2 : yf A s1 s2) : yf A s s2 := ⟨fun b hb => (h2.1 b hb).trans (h1.1 b hb), h2.2.trans h1.2⟩
set_option maxRecDepth 100000 in
theorem yf.mono {A B : List Nat} {s s1 : zq_S} (h : yf A s s1) (hs : ∀ q ∈ A, q ∈ B) : yf B s s1 := ⟨fun b hb => h.1 b (fun z => hb (hs b z)), h.2⟩
set_option maxRecDepth 100000 in
theorem yf.si {A : List Nat} {s : zq_S} {a : Nat} {j x : Int} (ha : a ∈ A) : yf A s (zq_si s a j x) := ⟨fun b hb => by
  funext k
  rw [zq_i_si, if_neg]
  intro z
  exact hb (by rw [z.1]; exact ha), rfl⟩
set_option maxRecDepth 100000 in
theorem yf.r {A : List Nat} {s s' : zq_S} (h : yf A s s') : zq_r s' = zq_r s := congrArg (fun q : (Nat → Int → Option Nat) × (Nat → Int → Int64) × Nat × Nat => q.1) h.2
set_option maxRecDepth 100000 in
theorem yf.l {A : List Nat} {s s' : zq_S} (h : yf A s s') : zq_l s' = zq_l s := congrArg (fun q : (Nat → Int → Option Nat) × (Nat → Int → Int64) × Nat × Nat => q.2.1) h.2
set_option maxRecDepth 100000 in
theorem yf.n {A : List Nat} {s s' : zq_S} (h : yf A s s') : zq_n s' = zq_n s := congrArg (fun q : (Nat → Int → Option Nat) × (Nat → Int → Int64) × Nat × Nat => q.2.2.1) h.2
set_option maxRecDepth 100000 in
theorem yf.i {A : List Nat} {s s' : zq_S} (h : yf A s s') {b : Nat} (hb : b ∉ A) : zq_i s' b = zq_i s b := h.1 b hb
/-- a Text's characters, and whether it is overfull -/
def yx (s : zq_S) (a : Nat) (q : List Int × Int) : Prop := zq_i s a 1 = q.1.length ∧ q.1.length ≤ zq_T a ∧ zq_i s a 2 = q.2 ∧ ∀ i : Nat, i < q.1.length → zq_i s (a + 1) i = q.1.getD i 0
set_option maxRecDepth 100000 in
theorem yx.kept {A : List Nat} {s s' : zq_S} {a : Nat} {q : List Int × Int} (h : yx s a q) (hf : yf A s s') (h1 : a ∉ A) (h2 : a + 1 ∉ A) : yx s' a q := by
  unfold yx
  rw [hf.i h1, hf.i h2]
  exact h
def yx_p (n : Nat) (q : List Int × Int) (c : Int) : List Int × Int := if q.1.length < n then (q.1 ++ [c], q.2) else (q.1, 1)
def yx_ps (n : Nat) (q : List Int × Int) (l : List Int) : List Int × Int := l.foldl (yx_p n) q
set_option maxRecDepth 100000 in
theorem yx_ps_app (n : Nat) (q : List Int × Int) (a b : List Int) : yx_ps n q (a ++ b) = yx_ps n (yx_ps n q a) b := List.foldl_append
set_option maxRecDepth 100000 in
theorem yx_ps_fit (n : Nat) : ∀ (l : List Int) (q : List Int × Int), q.1.length + l.length ≤ n → yx_ps n q l = (q.1 ++ l, q.2)
  | [], q, _ => by simp [yx_ps]
  | c :: l, q, h => by
    have h : q.1.length + (l.length + 1) ≤ n := h
    have e : yx_ps n q (c :: l) = yx_ps n (yx_p n q c) l := rfl
    rw [e]
    have e2 : yx_p n q c = (q.1 ++ [c], q.2) := by unfold yx_p; rw [if_pos (by omega)]
    rw [e2, yx_ps_fit n l _ (by simp; omega)]
    simp
section YX
variable {X : Nat × (Nat → Int32)} {s : zq_S} {K : zq_S → Prop} {x y : Int} {a b : Nat} {q q2 : List Int × Int}
set_option maxRecDepth 100000 in
theorem ys_15 (ha : zq_o 1 a) (k : ∀ s', yx s' a ([], 0) → yf [a, a + 1] s s' → K s') : zq_Ex X 15 0 [.ref a] [] s (zq_rv K) := zw_15 ha (by
  refine k _ ⟨?_, by simp, ?_, fun i hi => by cases hi⟩ ((yf.si (by simp)).trans (yf.si (by simp)))
  · rw [zq_i_si, if_neg (by simp), zq_i_si, if_pos ⟨rfl, rfl⟩]
    rfl
  · rw [zq_i_si, if_pos ⟨rfl, rfl⟩])
set_option maxRecDepth 100000 in
theorem ys_19 (ha : zq_o 1 a) (hx : yx s a q) (hc : zq_ch x) (k : ∀ s', yx s' a (yx_p (zq_T a) q x) → yf [a, a + 1] s s' → K s') : zq_Ex X 19 0 [.ref a, zq_vi x] [] s (zq_rv K) := zw_19 ha (zq_ch_in hc) (by
  obtain ⟨h1, h2, h3, h4⟩ := hx
  have h9 := zq_T_le ha
  unfold yx_p at k
  rw [Int.emod_eq_of_lt hc.1 hc.2]
  split
  · next h =>
    refine ⟨⟨by omega, by omega⟩, ⟨by omega, by omega⟩, ?_⟩
    rw [if_pos (by omega)] at k
    refine k _ ⟨?_, by simp; omega, ?_, fun i hi => ?_⟩ ((yf.si (by simp)).trans (yf.si (by simp)))
    · rw [zq_i_si, if_pos ⟨rfl, rfl⟩, h1]
      simp
    · rw [zq_i_si, if_neg (by simp), zq_i_si, if_neg (by simp)]
      exact h3
    · simp at hi
      rw [zq_i_si, if_neg (by simp), zq_i_si]
      by_cases e : i = q.1.length
      · rw [if_pos ⟨rfl, by omega⟩, e]
        simp
      · rw [if_neg (fun z => e (by have := z.2; omega)), h4 i (by omega)]
        simp [List.getD_eq_getElem?_getD, List.getElem?_append_left (show i < q.1.length by omega)]
  · next h =>
    rw [if_neg (by omega)] at k
    refine k _ ⟨?_, h2, ?_, fun i hi => ?_⟩ (yf.si (by simp))
    · rw [zq_i_si, if_neg (by simp)]
      exact h1
    · rw [zq_i_si, if_pos ⟨rfl, rfl⟩]
    · rw [zq_i_si, if_neg (by simp)]
      exact h4 i hi)
set_option maxRecDepth 100000 in
/-- a string, character by character -/
theorem ys_23_2 (ha : zq_o 1 a) {j : Nat} (hj : j < 1000000) (hl : (zq_str j).length < 10000) (hc : ∀ c ∈ zq_str j, zq_ch c) : ∀ (m i : Nat) (s : zq_S) (q : List Int × Int), i + m = (zq_str j).length → yx s a q → (∀ s', yx s' a (yx_ps (zq_T a) q ((zq_str j).drop i)) → yf [a, a + 1] s s' → K s') → zq_Ex X 23 2 [.ref a, .ref (1000000 + j), zq_vi i] [] s (zq_rv K) := by
  intro m
  induction m with
  | zero =>
    intro i s q hi hx k
    refine zw_23_2 ha hj hl ⟨by omega, by omega⟩ ?_
    rw [if_neg (by omega)]
    rw [List.drop_eq_nil_of_le (by omega)] at k
    exact k s hx (yf.refl _ _)
  | succ m ih =>
    intro i s q hi hx k
    refine zw_23_2 ha hj hl ⟨by omega, by omega⟩ ?_
    rw [if_pos (by omega)]
    refine ⟨⟨by omega, by omega⟩, ?_⟩
    have hlt : i < (zq_str j).length := by omega
    have e1 : (zq_str j).getD ((i : Int)).toNat 0 = (zq_str j)[i] := by
      rw [Int.toNat_natCast, List.getD_eq_getElem?_getD, List.getElem?_eq_getElem hlt]
      rfl
    rw [e1]
    refine ys_19 ha hx (hc _ (List.getElem_mem hlt)) (fun s1 h1 f1 => ?_)
    refine ih (i + 1) s1 _ (by omega) h1 (fun s' h2 f2 => k s' ?_ (f1.trans f2))
    rw [List.drop_eq_getElem_cons hlt]
    exact h2
set_option maxRecDepth 100000 in
theorem ys_23 (ha : zq_o 1 a) {j : Nat} (hj : j < 1000000) (hl : (zq_str j).length < 10000) (hc : ∀ c ∈ zq_str j, zq_ch c) (hx : yx s a q) (k : ∀ s', yx s' a (yx_ps (zq_T a) q (zq_str j)) → yf [a, a + 1] s s' → K s') : zq_Ex X 23 0 [.ref a, .ref (1000000 + j), zz_no] [] s (zq_rv K) := zw_23 ha hj hl (ys_23_2 ha hj hl hc (zq_str j).length 0 s q (by omega) hx (by simpa using k))
set_option maxRecDepth 100000 in
theorem ys_27 (ha : zq_o 1 a) (hx : 0 ≤ x ∧ x ≤ 9) (hy : 0 ≤ y ∧ y ≤ 9) (h : yx s a q) (k : ∀ s', yx s' a (yx_ps (zq_T a) q [48 + x, 32, 48 + y, 32, 82]) → yf [a, a + 1] s s' → K s') : zq_Ex X 27 0 [.ref a, zq_vi x, zq_vi y] [] s (zq_rv K) := zw_27 ha ⟨by omega, by omega⟩ ⟨by omega, by omega⟩ (
  ys_19 ha h ⟨by omega, by omega⟩ (fun s1 h1 f1 => ys_19 ha h1 ⟨by decide, by decide⟩ (fun s2 h2 f2 => ys_19 ha h2 ⟨by omega, by omega⟩ (fun s3 h3 f3 => ys_19 ha h3 ⟨by decide, by decide⟩ (fun s4 h4 f4 => ys_19 ha h4 ⟨by decide, by decide⟩ (fun s5 h5 f5 => k s5 h5 (f1.trans (f2.trans (f3.trans (f4.trans f5))))))))))
set_option maxRecDepth 100000 in
/-- one Text behind another -/
theorem yx_T {s : zq_S} (h : yx s b q2) {j : Int} : yc_t s b j = if 0 ≤ j ∧ j < q2.1.length then q2.1.getD j.toNat 0 else 0 := by
  unfold yc_t
  rw [h.1]
  by_cases hj : 0 ≤ j ∧ j < (q2.1.length : Int)
  · rw [if_pos hj, if_pos hj]
    have := h.2.2.2 j.toNat (by omega)
    rw [show ((j.toNat : Nat) : Int) = j by omega] at this
    exact this
  · rw [if_neg hj, if_neg hj]
set_option maxRecDepth 100000 in
theorem yx.ok (hx : yx s b q2) (hc : ∀ c ∈ q2.1, yp_isC c = true) : yc_ok s b := by
  refine ⟨by rw [hx.1]; omega, by rw [hx.1]; have := hx.2.1; omega, fun j h0 h1 => ?_⟩
  rw [hx.1] at h1
  have := hx.2.2.2 j.toNat (by omega)
  rw [show ((j.toNat : Nat) : Int) = j by omega] at this
  rw [this]
  refine hc _ ?_
  rw [List.getD_eq_getElem?_getD, List.getElem?_eq_getElem (by omega)]
  exact List.getElem_mem _
set_option maxRecDepth 100000 in
theorem ys_80_2 (ha : zq_o 1 a) (hb : zq_o 1 b) (hab : a ≠ b) (hc : ∀ c ∈ q2.1, yp_isC c = true) : ∀ (m i : Nat) (s : zq_S) (q : List Int × Int), i + m = q2.1.length → yx s a q → yx s b q2 → (∀ s', yx s' a (yx_ps (zq_T a) q (q2.1.drop i)) → yf [a, a + 1] s s' → K s') → zq_Ex X 80 2 [.ref a, .ref b, zq_vi i] [] s (zq_rv K) := by
  have ne : b ∉ [a, a + 1] ∧ b + 1 ∉ [a, a + 1] := by
    have h1 := zq_L1 ha
    have h2 := zq_L1 hb
    refine ⟨?_, ?_⟩ <;> simp <;> refine ⟨?_, ?_⟩
    · exact fun z => hab z.symm
    · intro z
      rw [z] at hb
      have := hb.symm.trans h1
      cases this
    · intro z
      rw [z] at h2
      have := ha.symm.trans h2
      cases this
    · exact fun z => hab z.symm
  intro m
  induction m with
  | zero =>
    intro i s q hi hx hy k
    have h9 := zq_T_le hb
    have h8 := hy.2.1
    refine zw_80_2 ha hb ⟨by omega, by omega⟩ ?_
    rw [if_neg (by rw [hy.1]; omega)]
    rw [List.drop_eq_nil_of_le (by omega)] at k
    exact k s hx (yf.refl _ _)
  | succ m ih =>
    intro i s q hi hx hy k
    have h9 := zq_T_le hb
    have h8 := hy.2.1
    have hlt : i < q2.1.length := by omega
    refine zw_80_2 ha hb ⟨by omega, by omega⟩ ?_
    rw [if_pos (by rw [hy.1]; omega)]
    have ec : yp_cd (yc_t s b i) = q2.1[i] := by
      rw [yx_T hy, if_pos ⟨by omega, by omega⟩, Int.toNat_natCast, List.getD_eq_getElem?_getD, List.getElem?_eq_getElem hlt]
      have := of_decide_eq_true (hc _ (List.getElem_mem hlt))
      unfold yp_cd
      rw [if_neg (by simp; omega)]
      rfl
    refine ys_29 hb (hy.ok hc) ⟨by omega, by omega⟩ ?_
    rw [ec]
    have hcc := of_decide_eq_true (hc _ (List.getElem_mem hlt))
    refine ys_19 ha hx ⟨by omega, by omega⟩ (fun s1 h1 f1 => ?_)
    refine ih (i + 1) s1 _ (by omega) h1 (hy.kept f1 ne.1 ne.2) (fun s' h2 f2 => k s' ?_ (f1.trans f2))
    rw [List.drop_eq_getElem_cons hlt]
    exact h2
set_option maxRecDepth 100000 in
theorem ys_80 (ha : zq_o 1 a) (hb : zq_o 1 b) (hab : a ≠ b) (hc : ∀ c ∈ q2.1, yp_isC c = true) (hx : yx s a q) (hy : yx s b q2) (k : ∀ s', yx s' a (yx_ps (zq_T a) q q2.1) → yf [a, a + 1] s s' → K s') : zq_Ex X 80 0 [.ref a, .ref b, zz_no] [] s (zq_rv K) := zw_80 ha hb (ys_80_2 ha hb hab hc q2.1.length 0 s q (by omega) hx hy (by simpa using k))
end YX
