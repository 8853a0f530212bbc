/-! save: the reference's writer -/
def ynw (S : zq_S) (L : List Int) : Prop := zq_i S 232 7 = L.length ∧ ∀ i : Nat, i < L.length → zq_i S 236 i = L.getD i 0
/-- a frame that keeps the bound of field 23 -/
def ymf2 (J : List Int) (A : List Nat) (s S : zq_S) : Prop := ymf J A s S ∧ (zq_i s 232 23 ≤ 700 → zq_i S 232 23 ≤ 700)
set_option maxRecDepth 100000 in
theorem ymf2.i {J : List Int} {A : List Nat} {s s' : zq_S} (h : ymf2 J A s s') {b : Nat} (hb : b ∉ A) (h2 : b ≠ 232) : zq_i s' b = zq_i s b := h.1.i hb h2
set_option maxRecDepth 100000 in
theorem ymf2.f {J : List Int} {A : List Nat} {s s' : zq_S} (h : ymf2 J A s s') {j : Int} (hj : j ∉ J) : zq_i s' 232 j = zq_i s 232 j := h.1.f hj
set_option maxRecDepth 100000 in
theorem ymf2.refl (J : List Int) (A : List Nat) (s : zq_S) : ymf2 J A s s := ⟨ymf.refl _ _ _, id⟩
set_option maxRecDepth 100000 in
theorem ymf2.trans {J : List Int} {A : List Nat} {s s1 s2 : zq_S} (h1 : ymf2 J A s s1) (h2 : ymf2 J A s1 s2) : ymf2 J A s s2 := ⟨h1.1.trans h2.1, fun z => h2.2 (h1.2 z)⟩
set_option maxRecDepth 100000 in
theorem ymf2.mono {J J' : List Int} {A B : List Nat} {s s1 : zq_S} (h : ymf2 J A s s1) (hj : ∀ q ∈ J, q ∈ J') (hs : ∀ q ∈ A, q ∈ B) : ymf2 J' B s s1 := ⟨h.1.mono hj hs, h.2⟩
set_option maxRecDepth 100000 in
theorem ymf.to2 {J J' : List Int} {A B : List Nat} {s s1 : zq_S} (h : ymf J A s s1) (h3 : (23 : Int) ∉ J) (hj : ∀ q ∈ J, q ∈ J') (hs : ∀ q ∈ A, q ∈ B) : ymf2 J' B s s1 := ⟨h.mono hj hs, fun z => by rw [h.f h3]; exact z⟩
set_option maxRecDepth 100000 in
theorem ymf2.si {J : List Int} {A : List Nat} {s : zq_S} {a : Nat} {j x : Int} (ha : a ∈ A) (h2 : a ≠ 232) : ymf2 J A s (zq_si s a j x) := ⟨ymf.si ha h2, fun z => by rw [zq_i_si, if_neg (fun y => h2 y.1.symm)]; exact z⟩
set_option maxRecDepth 100000 in
theorem ymf2.sf {J : List Int} {A : List Nat} {s : zq_S} {j x : Int} (hj : j ∈ J) (h3 : j ≠ 23) : ymf2 J A s (zq_si s 232 j x) := ⟨ymf.sf hj, fun z => by rw [zq_i_si, if_neg (fun y => h3 y.2.symm)]; exact z⟩
abbrev ynf (s S : zq_S) : Prop := ymf2 [7, 23] [236, 245] s S
set_option maxRecDepth 100000 in
theorem yrow_c {s : zq_S} {b : Nat} {k c : Int} {l : List Int} (h : yrow s b k (c :: l)) : zq_i s b k = c ∧ yrow s b (k + 1) l := by
  refine ⟨?_, fun i hi => ?_⟩
  · have := h 0 (by simp)
    rw [show k + ((0 : Nat) : Int) = k by omega] at this
    exact this
  · have := h (i + 1) (by simp; omega)
    rw [show k + ((i + 1 : Nat) : Int) = k + 1 + (i : Int) by omega] at this
    exact this
section YLD9
variable {X : Nat × (Nat → Int32)}
set_option maxRecDepth 100000 in
theorem yn_195 {S : zq_S} {L : List Int} {c : Int} {K : zq_S → Prop} (hc : zq_ch c) (hm : ynw S L) (hl : L.length < 6500) (k : ∀ s', ynw s' (L ++ [c]) → ynf S s' → K s') : zq_Ex X 195 0 [.ref 232, zq_vi c] [] S (zq_rv K) := zw_195 hc (by
  obtain ⟨h1, h2⟩ := hm
  refine ⟨⟨by omega, by omega⟩, ⟨by omega, by omega⟩, k _ ⟨?_, fun i hi => ?_⟩ ((ymf2.si (by simp) (by decide)).trans (ymf2.sf (by simp) (by decide)))⟩
  · rw [zq_i_si, if_pos ⟨rfl, rfl⟩, h1]
    simp
  · simp at hi
    rw [zq_i_si, if_neg (by simp), zq_i_si]
    by_cases e : i = L.length
    · rw [if_pos ⟨rfl, by omega⟩, e]
      simp
    · rw [if_neg (fun z => e (by have := z.2; omega)), h2 i (by omega)]
      simp [List.getD_eq_getElem?_getD, List.getElem?_append_left (show i < L.length by omega)])
set_option maxRecDepth 100000 in
theorem yn_194 {S : zq_S} {L : List Int} {c1 c2 c3 c4 : Int} {K : zq_S → Prop} (hc : zq_ch c1 ∧ zq_ch c2 ∧ zq_ch c3 ∧ zq_ch c4) (hm : ynw S L) (hl : L.length + 4 ≤ 6500) (k : ∀ s', ynw s' (L ++ [c1, c2, c3, c4]) → ynf S s' → K s') : zq_Ex X 194 0 [.ref 232, zq_vi c1, zq_vi c2, zq_vi c3, zq_vi c4] [] S (zq_rv K) := by
  refine zw_194 hc.1 hc.2.1 hc.2.2.1 hc.2.2.2 (yn_195 hc.1 hm (by omega) (fun s1 h1 g1 => yn_195 hc.2.1 h1 (by simp; omega) (fun s2 h2 g2 => yn_195 hc.2.2.1 h2 (by simp; omega) (fun s3 h3 g3 => yn_195 hc.2.2.2 h3 (by simp; omega) (fun s4 h4 g4 => k s4 ?_ (g1.trans (g2.trans (g3.trans g4))))))))
  have e : (((L ++ [c1]) ++ [c2]) ++ [c3]) ++ [c4] = L ++ [c1, c2, c3, c4] := by
    simp only [List.append_assoc, List.cons_append, List.nil_append]
  rw [← e]
  exact h4
set_option maxRecDepth 100000 in
theorem yn_d {x : Int} (h : 0 ≤ x ∧ x ≤ 9) : zq_ch ((48 + x) % 65536) ∧ (48 + x) % 65536 = 48 + x := by
  have : (48 + x) % 65536 = 48 + x := by omega
  rw [this]
  exact ⟨⟨by omega, by omega⟩, rfl⟩
set_option maxRecDepth 100000 in
/-- its last line -/
theorem yn_eo {S : zq_S} {L : List Int} {K : zq_S → Prop} (hm : ynw S L) (hl : L.length + 7 ≤ 6500) (k : ∀ s', ynw s' (L ++ yX_eo) → ynf S s' → K s') : zq_Ex X 194 0 [(.ref (232)), (zq_vi (101)), (zq_vi (110)), (zq_vi (100)), (zq_vi (111))] [] S (zq_rv fun s_9 => (zq_Ex X 195 0 [(.ref (232)), (zq_vi (98))] [] s_9 (zq_rv fun s_10 => (zq_Ex X 195 0 [(.ref (232)), (zq_vi (106))] [] s_10 (zq_rv fun s_11 => (zq_Ex X 195 0 [(.ref (232)), (zq_vi (10))] [] s_11 (zq_rv fun s_12 => K s_12))))))) := by
  refine yn_194 (by decide) hm (by omega) (fun s1 h1 g1 => yn_195 (by decide) h1 (by simp; omega) (fun s2 h2 g2 => yn_195 (by decide) h2 (by simp; omega) (fun s3 h3 g3 => yn_195 (by decide) h3 (by simp; omega) (fun s4 h4 g4 => k s4 ?_ (g1.trans (g2.trans (g3.trans g4)))))))
  simp only [List.append_assoc, List.cons_append, List.nil_append] at h4
  exact h4
set_option maxRecDepth 100000 in
theorem ys_196_128 {S : zq_S} {o N : Nat} (o9 : o ≤ 9) (h243 : zq_i S 243 o = N) (N12 : N ≤ 12) {Z : List Int} {K : zq_S → Prop} (k : ∀ s', ynw s' Z → ynf S s' → K s') : ∀ (l : List Int) (i : Nat) (S' : zq_S) (L : List Int), ynf S S' → ynw S' L → yrow S 244 (12 * o + i) l → (∀ c ∈ l, zq_ch c) → i + l.length = N → L ++ (l ++ (yX_es ++ yX_eo)) = Z → L.length + l.length + 30 ≤ 6500 → zq_Ex X 196 128 [.ref 232, zq_vi (o : Int), zq_vi (i : Int)] [] S' (zq_rv K)
  | [], i, S', L, fr, hw, hr, hc, hi, hZ, hb => by
    refine zw_196_128 ⟨by omega, by omega⟩ ⟨by simp at hi; omega, by simp at hi; omega⟩ ?_
    simp only [List.length_nil] at hi hb
    rw [fr.i (b := 243) (by simp) (by decide), h243, if_neg (by omega)]
    refine ⟨⟨by omega, by omega⟩, yn_195 (by decide) hw (by omega) (fun s1 h1 g1 => yn_194 (by decide) h1 (by simp; omega) (fun s2 h2 g2 => yn_194 (by decide) h2 (by simp; omega) (fun s3 h3 g3 => yn_195 (by decide) h3 (by simp; omega) (fun s4 h4 g4 => yn_195 (by decide) h4 (by simp; omega) (fun s5 h5 g5 => yn_eo h5 (by simp; omega) (fun s6 h6 g6 => k s6 ?_ (fr.trans (g1.trans (g2.trans (g3.trans (g4.trans (g5.trans g6))))))))))))⟩
    rw [← hZ]
    simp only [List.append_assoc, List.cons_append, List.nil_append] at h6 ⊢
    exact h6
  | c :: l, i, S', L, fr, hw, hr, hc, hi, hZ, hb => by
    obtain ⟨c1, c2⟩ := yrow_c hr
    simp only [List.length_cons] at hi hb
    refine zw_196_128 ⟨by omega, by omega⟩ ⟨by omega, by omega⟩ ?_
    rw [fr.i (b := 243) (by simp) (by decide), h243, if_pos (by omega), fr.i (b := 244) (by simp) (by decide), c1, show (i : Int) + 1 = ((i + 1 : Nat) : Int) by omega]
    refine ⟨⟨by omega, by omega⟩, ⟨by omega, by omega⟩, yn_195 (hc c List.mem_cons_self) hw (by omega) (fun s1 h1 g1 => ?_)⟩
    rw [show 12 * (o : Int) + (i : Int) + 1 = 12 * (o : Int) + ((i + 1 : Nat) : Int) by omega] at c2
    exact ys_196_128 o9 h243 N12 k l (i + 1) s1 _ (fr.trans g1) h1 c2 (fun x hx => hc x (List.mem_cons_of_mem _ hx)) (by omega) (by rw [← hZ]; simp only [List.append_assoc, List.cons_append, List.nil_append]) (by simp; omega)
set_option maxRecDepth 100000 in
theorem ys_196_49 {S : zq_S} {o N M : Nat} (o9 : o ≤ 9) (h240 : zq_i S 240 o = N) (N5 : N ≤ 500) {ct : List Int} (hM : zq_i S 242 o ≠ 0 → zq_i S 243 o = M ∧ M ≤ 12 ∧ ct.length = M ∧ yrow S 244 (12 * o) ct ∧ ∀ c ∈ ct, zq_ch c) {Z : List Int} {K : zq_S → Prop} (k : ∀ s', ynw s' Z → ynf S s' → K s') : ∀ (l : List Int) (i : Nat) (S' : zq_S) (L : List Int), ynf S S' → ynw S' L → yrow S 241 (500 * o + i) l → (∀ c ∈ l, zq_ch c) → i + l.length = N → L ++ (l ++ ([10] ++ ((if decide (zq_i S 242 o ≠ 0) = true then yX_st ++ (ct ++ yX_es) else []) ++ yX_eo))) = Z → L.length + l.length + 60 ≤ 6500 → zq_Ex X 196 49 [.ref 232, zq_vi (o : Int), zq_vi (i : Int)] [] S' (zq_rv K)
  | [], i, S', L, fr, hw, hr, hc, hi, hZ, hb => by
    refine zw_196_49 ⟨by omega, by omega⟩ ⟨by simp at hi; omega, by simp at hi; omega⟩ ?_
    simp only [List.length_nil] at hi hb
    rw [fr.i (b := 240) (by simp) (by decide), h240, if_neg (by omega)]
    refine ⟨⟨by omega, by omega⟩, yn_195 (by decide) hw (by omega) (fun s1 h1 g1 => ⟨⟨by omega, by omega⟩, ?_⟩)⟩
    rw [(fr.trans g1).i (b := 242) (by simp) (by decide)]
    refine yl_if (fun hz => ?_) (fun hz => ?_)
    · refine yn_eo h1 (by simp; omega) (fun s2 h2 g2 => k s2 ?_ (fr.trans (g1.trans g2)))
      rw [← hZ, decide_eq_false (fun z => z hz), if_neg (by decide)]
      simp only [List.append_assoc, List.cons_append, List.nil_append] at h2 ⊢
      exact h2
    · obtain ⟨m1, m2, m3, m4, m5⟩ := hM hz
      refine yn_194 (by decide) h1 (by simp; omega) (fun s2 h2 g2 => yn_195 (by decide) h2 (by simp; omega) (fun s3 h3 g3 => yn_195 (by decide) h3 (by simp; omega) (fun s4 h4 g4 => yn_195 (by decide) h4 (by simp; omega) (fun s5 h5 g5 => ?_))))
      refine ys_196_128 o9 m1 m2 k ct 0 s5 _ (fr.trans (g1.trans (g2.trans (g3.trans (g4.trans g5))))) h5 (by rw [show 12 * (o : Int) + ((0 : Nat) : Int) = 12 * (o : Int) by omega]; exact m4) m5 (by omega) ?_ (by simp; omega)
      rw [← hZ, decide_eq_true hz, if_pos rfl]
      simp only [List.append_assoc, List.cons_append, List.nil_append]
  | c :: l, i, S', L, fr, hw, hr, hc, hi, hZ, hb => by
    obtain ⟨c1, c2⟩ := yrow_c hr
    simp only [List.length_cons] at hi hb
    refine zw_196_49 ⟨by omega, by omega⟩ ⟨by omega, by omega⟩ ?_
    rw [fr.i (b := 240) (by simp) (by decide), h240, if_pos (by omega), fr.i (b := 241) (by simp) (by decide), c1, show (i : Int) + 1 = ((i + 1 : Nat) : Int) by omega]
    refine ⟨⟨by omega, by omega⟩, ⟨by omega, by omega⟩, yn_195 (hc c List.mem_cons_self) hw (by omega) (fun s1 h1 g1 => ?_)⟩
    rw [show 500 * (o : Int) + (i : Int) + 1 = 500 * (o : Int) + ((i + 1 : Nat) : Int) by omega] at c2
    exact ys_196_49 o9 h240 N5 hM k l (i + 1) s1 _ (fr.trans g1) h1 c2 (fun x hx => hc x (List.mem_cons_of_mem _ hx)) (by omega) (by rw [← hZ]; simp only [List.append_assoc, List.cons_append, List.nil_append]) (by simp; omega)
/-- an object that is written: all that the reference's rows say of it -/
def yw_obj (S : zq_S) (o : Nat) (es : List ye_E) (ct : List Int) : Prop := (0 ≤ zq_i S 238 o ∧ zq_i S 238 o ≤ 9) ∧ zq_i S 240 o = (ye_pr true es).length ∧ (ye_pr true es).length ≤ 500 ∧ yrow S 241 (500 * o) (ye_pr true es) ∧ (∀ c ∈ ye_pr true es, zq_ch c) ∧ (zq_i S 242 o ≠ 0 → zq_i S 243 o = ct.length ∧ ct.length ≤ 12 ∧ yrow S 244 (12 * o) ct ∧ ∀ c ∈ ct, zq_ch c)
set_option maxRecDepth 100000 in
theorem ys_196 {S : zq_S} {o : Nat} {es : List ye_E} {ct L : List Int} (o1 : 1 ≤ o) (o9 : o ≤ 9) (h : yw_obj S o es ct) (hw : ynw S L) (hb : L.length + 600 ≤ 6500) {K : zq_S → Prop} (k : ∀ s', ynw s' (L ++ yw_ob o (zq_i S 238 o) es (decide (zq_i S 242 o ≠ 0)) ct) → ynf S s' → K s') : zq_Ex X 196 0 [.ref 232, zq_vi (o : Int), zz_no] [] S (zq_rv K) := by
  obtain ⟨a1, a2, a3, a4, a5, a6⟩ := h
  have d1 := yn_d (x := (o : Int)) ⟨by omega, by omega⟩
  have d2 := yn_d a1
  refine zw_196 ⟨by omega, by omega⟩ (yn_195 d1.1 hw (by omega) (fun s1 h1 g1 => yn_195 (by decide) h1 (by simp; omega) (fun s2 h2 g2 => ⟨⟨by omega, by omega⟩, ?_⟩)))
  rw [(g1.trans g2).i (b := 238) (by simp) (by decide)]
  refine yn_195 d2.1 h2 (by simp; omega) (fun s3 h3 g3 => yn_194 (by decide) h3 (by simp; omega) (fun s4 h4 g4 => yn_195 (by decide) h4 (by simp; omega) (fun s5 h5 g5 => ?_)))
  refine ys_196_49 (S := S) (M := ct.length) o9 a2 a3 (ct := ct) (fun hz => ⟨(a6 hz).1, (a6 hz).2.1, rfl, (a6 hz).2.2⟩) k (ye_pr true es) 0 s5 _ (g1.trans (g2.trans (g3.trans (g4.trans g5)))) h5 (by rw [show 500 * (o : Int) + ((0 : Nat) : Int) = 500 * (o : Int) by omega]; exact a4) a5 (by omega) ?_ (by simp; omega)
  rw [d1.2, d2.2]
  unfold yw_ob
  simp only [List.append_assoc, List.cons_append, List.nil_append]
end YLD9
