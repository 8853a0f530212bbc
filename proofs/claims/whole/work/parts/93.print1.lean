/-! Tree: printLetters, printOpening, printClosing, printBefore -/
set_option maxRecDepth 100000 in
theorem yt_fr {s s' : zq_S} {a b : Nat} (hb : zq_o 1 b) (ha : zq_o 4 a) (f : yf [b, b + 1] s s') : ∀ q ∈ yc_t7 a, zq_i s' q = zq_i s q := fun q hq => f.i (by
  have h := yk_tt hb ha
  simp only [List.mem_cons, List.not_mem_nil, or_false]
  rintro (z | z)
  · exact h.1 (by rw [← z]; exact hq)
  · exact h.2 (by rw [← z]; exact hq))
set_option maxRecDepth 100000 in
theorem yt_nd.fr {s s' : zq_S} {a b : Nat} {j l : Int} {d : ye_N} (h : yt_nd s a j l d) (hb : zq_o 1 b) (ha : zq_o 4 a) (f : yf [b, b + 1] s s') : yt_nd s' a j l d := by
  have e := yt_fr hb ha f
  unfold yt_nd
  rw [e (a + 1) (by simp), e (a + 2) (by simp), e (a + 3) (by simp), e (a + 4) (by simp), e (a + 6) (by simp), f.l]
  exact h
set_option maxRecDepth 100000 in
theorem yt_tr.fr {s s' : zq_S} {a b : Nat} {k l : Int} {es : List ye_E} (h : yt_tr s a k l es) (hb : zq_o 1 b) (ha : zq_o 4 a) (f : yf [b, b + 1] s s') : yt_tr s' a k l es := by
  have e := yt_fr hb ha f
  unfold yt_tr
  rw [e a (by simp)]
  exact ⟨h.1, fun i l d hi => (h.2.1 i l d hi).fr hb ha f, h.2.2⟩
set_option maxRecDepth 100000 in
theorem ye_esc_cons (c : Int) (l : List Int) : ye_esc (c :: l) = (if c = 40 ∨ c = 41 ∨ c = 92 then [92, c] else [c]) ++ ye_esc l := rfl
set_option maxRecDepth 100000 in
theorem ye_esc_nm : ∀ (l : List Int), (∀ c ∈ l, yp_nc c = true) → ye_esc l = l
  | [], _ => rfl
  | c :: l, h => by
    have hc : yp_nc c = true := h c (by simp)
    rw [ye_esc_cons, if_neg (by rintro (z | z | z) <;> (subst z; revert hc; decide)), ye_esc_nm l (fun c hc => h c (by simp [hc]))]
    rfl
section YP2
variable {X : Nat × (Nat → Int32)} {a b : Nat} {K : zq_S → Prop} {x l : Int} {d : ye_N}
set_option maxRecDepth 100000 in
theorem ys_26_2 (ha : zq_o 4 a) (hb : zq_o 1 b) (x0 : 0 ≤ x) (x1 : x < 12) (hk : d.1 = 4 ∨ d.1 = 5) (hn : d.2.2.2.2.length ≤ 12) (hc : ∀ c ∈ d.2.2.2.2, 32 ≤ c ∧ c ≤ 126) : ∀ (m i : Nat) (s : zq_S) (q : List Int × Int) (v : Value), v.category = 1 → i + m = d.2.2.2.2.length → yt_nd s a x l d → yx s b q → (∀ s', yx s' b (yx_ps (zq_T b) q (ye_esc (d.2.2.2.2.drop i))) → yf [b, b + 1] s s' → K s') → zq_Ex X 26 2 [.ref a, zq_vi x, .ref b, zq_vi i, v] [] s (zq_rv K) := by
  intro m
  induction m with
  | zero =>
    intro i s q v hv hm hd hx k
    have hK : K s := k s (by rw [List.drop_of_length_le (by omega)]; exact hx) (yf.refl _ _)
    refine zw_26_2 ha ⟨by omega, by omega⟩ hb ⟨by omega, by omega⟩ hv ⟨⟨x0, x1⟩, ?_⟩
    have hnu : zq_i s (a + 3) x = d.2.2.2.2.length := by rw [hd.2.2.1]; unfold ye_nu; rw [if_pos hk]
    rw [hnu, if_neg (by omega)]
    exact hK
  | succ m ih =>
    intro i s q v hv hm hd hx k
    have hi : i < d.2.2.2.2.length := by omega
    have hnu : zq_i s (a + 3) x = d.2.2.2.2.length := by rw [hd.2.2.1]; unfold ye_nu; rw [if_pos hk]
    have hlt : zq_i s (a + 6) (x * 12 + i) = d.2.2.2.2[i] := by
      rw [show x * 12 + (i : Int) = 12 * x + i by omega, hd.2.2.2.2.2 hk i hi]
      simp [List.getD_eq_getElem?_getD, List.getElem?_eq_getElem hi]
    have hcc := hc d.2.2.2.2[i] (List.getElem_mem hi)
    rw [List.drop_eq_getElem_cons hi, ye_esc_cons] at k
    refine zw_26_2 ha ⟨by omega, by omega⟩ hb ⟨by omega, by omega⟩ hv ⟨⟨x0, x1⟩, ?_⟩
    rw [hnu, if_pos (by omega)]
    refine ⟨⟨by omega, by omega⟩, ?_⟩
    rw [hlt]
    have two : (d.2.2.2.2[i] = 40 ∨ d.2.2.2.2[i] = 41 ∨ d.2.2.2.2[i] = 92) → zq_Ex X 19 0 [.ref b, zq_vi 92] [] s (zq_rv fun s_6 => zq_Ex X 19 0 [.ref b, zq_vi d.2.2.2.2[i]] [] s_6 (zq_rv fun s_7 => zq_Ex X 26 2 [.ref a, zq_vi x, .ref b, zq_vi (i + 1), zq_vi d.2.2.2.2[i]] [] s_7 (zq_rv K))) := by
      intro h3
      rw [if_pos h3] at k
      refine ys_19 hb hx ⟨by omega, by omega⟩ fun s1 x1 f1 => ?_
      refine ys_19 hb x1 ⟨by omega, by omega⟩ fun s2 x2 f2 => ?_
      refine ih (i + 1) s2 _ _ rfl (by omega) (hd.fr hb ha (f1.trans f2)) x2 fun s3 x3 f3 => k s3 ?_ ((f1.trans f2).trans f3)
      rw [yx_ps_app]
      exact x3
    split
    · next h => exact two (Or.inl h)
    · next h =>
      split
      · next h' => exact two (Or.inr (Or.inl h'))
      · next h' =>
        split
        · next h2 => exact two (Or.inr (Or.inr h2))
        · next h2 =>
          rw [if_neg (by rintro (z | z | z) <;> contradiction)] at k
          refine ys_19 hb hx ⟨by omega, by omega⟩ fun s1 x1 f1 => ?_
          refine ih (i + 1) s1 _ _ rfl (by omega) (hd.fr hb ha f1) x1 fun s3 x3 f3 => k s3 ?_ (f1.trans f3)
          rw [yx_ps_app]
          exact x3
variable {s : zq_S} {q : List Int × Int}
set_option maxRecDepth 100000 in
theorem ys_26 (ha : zq_o 4 a) (hb : zq_o 1 b) (x0 : 0 ≤ x) (x1 : x < 12) (hk : d.1 = 4 ∨ d.1 = 5) (hn : d.2.2.2.2.length ≤ 12) (hc : ∀ c ∈ d.2.2.2.2, 32 ≤ c ∧ c ≤ 126) (hd : yt_nd s a x l d) (hx : yx s b q) (k : ∀ s', yx s' b (yx_ps (zq_T b) q (ye_esc d.2.2.2.2)) → yf [b, b + 1] s s' → K s') : zq_Ex X 26 0 [.ref a, zq_vi x, .ref b, zz_no, zz_no] [] s (zq_rv K) := zw_26 ha ⟨by omega, by omega⟩ hb (ys_26_2 ha hb x0 x1 hk hn hc d.2.2.2.2.length 0 s q zz_no rfl (by omega) hd hx (by simpa using k))
set_option maxRecDepth 100000 in
theorem ys_23' {j : Nat} (hb : zq_o 1 b) (hx : yx s b q) {w : List Int} (hw : (zq_str j == w && decide (j < 1000000) && decide (w.length < 10000) && w.all (fun c => decide (0 ≤ c) && decide (c < 65536))) = true) (k : ∀ s', yx s' b (yx_ps (zq_T b) q w) → yf [b, b + 1] s s' → K s') : zq_Ex X 23 0 [.ref b, .ref (1000000 + j), zz_no] [] s (zq_rv K) := by
  simp only [Bool.and_eq_true, beq_iff_eq, decide_eq_true_eq, List.all_eq_true] at hw
  obtain ⟨⟨⟨h1, h2⟩, h3⟩, h4⟩ := hw
  refine ys_23 hb h2 (by rw [h1]; exact h3) (fun c hc => ?_) hx (by rw [h1]; exact k)
  rw [h1] at hc
  exact h4 c hc
set_option maxRecDepth 100000 in
theorem ys_28 (ha : zq_o 4 a) (hb : zq_o 1 b) (x0 : 0 ≤ x) (x1 : x < 12) (hd : yt_nd s a x l d) (hx : yx s b q) (k : ∀ s', yx s' b (yx_ps (zq_T b) q (if ye_nest d = true then ye_cl d.1 else [])) → yf [b, b + 1] s s' → K s') : zq_Ex X 28 0 [.ref a, zq_vi x, .ref b] [] s (zq_rv K) := by
  refine zw_28 ha ⟨by omega, by omega⟩ hb ⟨⟨x0, x1⟩, ?_⟩
  rw [hd.1]
  unfold ye_nest ye_cl at k
  split
  · next h =>
    rw [h] at k
    exact ys_19 hb hx (by decide) fun s1 x1 f1 => k s1 x1 f1
  · next h =>
    refine ⟨⟨x0, x1⟩, ?_⟩
    split
    · next h7 =>
      rw [h7] at k
      exact ys_23' hb hx (w := [62, 62]) (by decide +kernel) k
    · next h7 =>
      rw [if_neg (by simp; omega)] at k
      exact k s hx (yf.refl _ _)
set_option maxRecDepth 100000 in
theorem ys_22 (ha : zq_o 4 a) (hb : zq_o 1 b) (x0 : 0 ≤ x) (x1 : x < 12) (hok : ye_ok d) (hd : yt_nd s a x l d) (hx : yx s b q) (k : ∀ s', yx s' b (yx_ps (zq_T b) q (ye_op d)) → yf [b, b + 1] s s' → K s') : zq_Ex X 22 0 [.ref a, zq_vi x, .ref b] [] s (zq_rv K) := by
  refine zw_22 ha ⟨by omega, by omega⟩ hb ⟨⟨x0, x1⟩, ?_⟩
  have hnu := hd.2.2.1
  have hgn := hd.2.2.2.1
  rw [hd.1]
  unfold ye_op at k
  unfold ye_nu at hnu
  obtain ⟨_, hk⟩ := hok
  by_cases c0 : d.1 = 0
  · rw [if_pos c0] at k ⊢
    exact ys_23' hb hx (by decide +kernel) k
  rw [if_neg c0] at k ⊢
  by_cases c1 : d.1 = 1
  · rw [if_pos c1] at k ⊢
    exact ys_23' hb hx (by decide +kernel) k
  rw [if_neg c1] at k ⊢
  by_cases c2 : d.1 = 2
  · rw [if_pos c2] at k ⊢
    exact ys_23' hb hx (by decide +kernel) k
  rw [if_neg c2] at k ⊢
  by_cases c3 : d.1 = 3
  · rw [if_pos c3] at k ⊢
    rw [if_neg (by omega), if_pos (by omega)] at hnu
    rw [hnu]
    exact ⟨⟨x0, x1⟩, ys_24 hb (by omega) hx k⟩
  rw [if_neg c3] at k ⊢
  by_cases c4 : d.1 = 4
  · rw [if_pos c4] at k ⊢
    have hnm : ye_nm d.2.2.2.2 := by rcases hk with z | z | z | z | z <;> first | omega | exact z.2
    have hcc : ∀ c ∈ d.2.2.2.2, 32 ≤ c ∧ c ≤ 126 := fun c hc => by
      have := hnm.2.2 c hc
      unfold yp_nc at this
      simp at this
      omega
    refine ys_19 hb hx (by decide) fun s1 x1' f1 => ?_
    refine ys_26 ha hb x0 x1 (Or.inl c4) (by have := hnm.2.1; omega) hcc (hd.fr hb ha f1) x1' fun s2 x2 f2 => k s2 ?_ (f1.trans f2)
    rw [ye_esc_nm _ hnm.2.2] at x2
    exact x2
  rw [if_neg c4] at k ⊢
  by_cases c5 : d.1 = 5
  · rw [if_pos c5] at k ⊢
    have hst : d.2.2.2.2.length ≤ 12 ∧ ∀ c ∈ d.2.2.2.2, 32 ≤ c ∧ c ≤ 126 := by rcases hk with z | z | z | z | z <;> first | omega | exact z.2
    refine ys_19 hb hx (by decide) fun s1 x1' f1 => ?_
    refine ys_26 ha hb x0 x1 (Or.inr c5) hst.1 hst.2 (hd.fr hb ha f1) x1' fun s2 x2 f2 => ?_
    refine ys_19 hb x2 (by decide) fun s3 x3 f3 => k s3 ?_ ((f1.trans f2).trans f3)
    have e : yx_ps (zq_T b) q (40 :: (ye_esc d.2.2.2.2 ++ [41])) = yx_p (zq_T b) (yx_ps (zq_T b) (yx_p (zq_T b) q 40) (ye_esc d.2.2.2.2)) 41 := by
      rw [show (40 : Int) :: (ye_esc d.2.2.2.2 ++ [41]) = [40] ++ (ye_esc d.2.2.2.2 ++ [41]) from rfl, yx_ps_app, yx_ps_app]
      rfl
    rw [e]
    exact x3
  rw [if_neg c5] at k ⊢
  by_cases c6 : d.1 = 6
  · rw [if_pos c6] at k ⊢
    exact ys_19 hb hx (by decide) fun s1 x1 f1 => k s1 x1 f1
  rw [if_neg c6] at k ⊢
  by_cases c7 : d.1 = 7
  · rw [if_pos c7] at k ⊢
    exact ys_23' hb hx (by decide +kernel) k
  rw [if_neg c7] at k ⊢
  have c8 : d.1 = 8 := by omega
  rw [if_neg (by omega), if_pos (by omega)] at hnu
  rw [hnu, hgn c8]
  exact ⟨⟨x0, x1⟩, ⟨x0, x1⟩, ys_27 hb (by omega) (by omega) hx k⟩
set_option maxRecDepth 100000 in
/-- printBefore -/
theorem ys_18 (ha : zq_o 4 a) (hb : zq_o 1 b) (x0 : 1 ≤ x) (x1 : x < 12) (hok : ye_ok d) (hd : yt_nd s a x l d) {f : Bool} (hf1 : f = true → zq_i s (a + 2) (x - 1) < l) (hf2 : f = false → l ≤ zq_i s (a + 2) (x - 1)) (hx : yx s b q) (k : ∀ s', yx s' b (yx_ps (zq_T b) q ((if f = true then [] else [32]) ++ ye_ky d)) → yf [b, b + 1] s s' → K s') : zq_Ex X 18 0 [.ref a, zq_vi x, .ref b, zz_no] [] s (zq_rv K) := by
  have rest : ∀ (s1 : zq_S) (q1 : List Int × Int), yx s1 b q1 → yf [b, b + 1] s s1 → (∀ s', yx s' b (yx_ps (zq_T b) q1 (ye_ky d)) → yf [b, b + 1] s s' → K s') → (((0 : Int) ≤ x ∧ x < (12 : Int)) ∧ (if (zq_l s1 (a + 5) x) = (0) then K s1 else (zq_Ex X 19 0 [(.ref b), (zq_vi (47))] [] s1 (zq_rv fun s_8 => (((0 : Int) ≤ x ∧ x < (12 : Int)) ∧ (zq_Ex X 20 0 [(.ref b), (.long (zq_l s_8 (a + 5) x)), zz_no, zz_no] [] s_8 (zq_rv fun s_10 => (zq_Ex X 19 0 [(.ref b), (zq_vi (32))] [] s_10 (zq_rv fun s_11 => K s_11))))))))) := by
    intro s1 q1 hx1 f1 k1
    refine ⟨⟨by omega, x1⟩, ?_⟩
    have hl := (hd.fr hb ha f1).2.2.2.2.1
    unfold ye_ky at k1
    rcases hok.1 with hke | hke
    · rw [hke] at hl k1
      rw [if_pos (by rw [hl]; rfl)]
      rw [if_pos rfl] at k1
      exact k1 s1 hx1 f1
    · have hne : d.2.2.2.1 ≠ [] := fun z => by have := hke.1; rw [z] at this; simp at this
      rw [if_neg (by rw [hl]; exact yk_ne0 hke)]
      rw [if_neg hne] at k1
      refine ys_19 hb hx1 (by decide) fun s2 x2 f2 => ⟨⟨by omega, x1⟩, ?_⟩
      rw [f2.l, hl]
      refine ys_20 hb hke.c (by have := hke.2.1; omega) x2 fun s3 x3 f3 => ?_
      refine ys_19 hb x3 (by decide) fun s4 x4 f4 => k1 s4 ?_ (((f1.trans f2).trans f3).trans f4)
      have e : yx_ps (zq_T b) q1 (47 :: (d.2.2.2.1 ++ [32])) = yx_p (zq_T b) (yx_ps (zq_T b) (yx_p (zq_T b) q1 47) d.2.2.2.1) 32 := by
        rw [show (47 : Int) :: (d.2.2.2.1 ++ [32]) = [47] ++ (d.2.2.2.1 ++ [32]) from rfl, yx_ps_app, yx_ps_app]
        rfl
      rw [e]
      exact x4
  refine zw_18 ha ⟨by omega, by omega⟩ hb ⟨⟨by omega, x1⟩, ⟨by omega, by omega⟩, ?_⟩
  rw [hd.2.1]
  cases f with
  | true =>
    rw [if_neg (by have := hf1 rfl; omega)]
    exact rest s q hx (yf.refl _ _) k
  | false =>
    rw [if_pos (hf2 rfl)]
    refine ys_19 hb hx (by decide) fun s1 x1 f1 => ?_
    refine rest s1 _ x1 f1 fun s' hx' f' => k s' ?_ f'
    rw [yx_ps_app]
    exact hx'
end YP2
