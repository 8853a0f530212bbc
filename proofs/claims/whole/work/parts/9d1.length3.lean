/-! the reference gives a part Length -/
/-- an object's text is written anew -/
def yG (S S' : zq_S) (o : Nat) (l : List Int) : Prop := (∀ b (j : Int), b ≠ 232 → b ≠ 245 → (b = 240 → j ≠ o) → (b = 241 → j < 500 * o ∨ 500 * o + 500 ≤ j) → zq_i S' b j = zq_i S b j) ∧ (∀ j, j ≠ 23 → zq_i S' 232 j = zq_i S 232 j) ∧ zq_i S' 240 o = l.length ∧ yrow S' 241 (500 * o) l ∧ S'.2 = S.2 ∧ zq_i S' 232 23 ≤ 700
set_option maxRecDepth 100000 in
theorem ye_fl_rest {d : ye_N} {es R B : List ye_E} (hr : ye_rest d es = some R) (hB : es = B ++ R) : ye_fl (ye_nest d) B = false := by
  unfold ye_rest at hr
  cases hn : ye_nest d with
  | true =>
    rw [hn] at hr
    rw [if_pos rfl] at hr
    obtain ⟨B2, k, e1, _⟩ := ye_skip_opn hr (by decide)
    have : B = B2 ++ [.inr k] := by
      have h : B ++ R = (B2 ++ [.inr k]) ++ R := by rw [← hB, e1]; simp
      exact List.append_cancel_right h
    rw [this, ye_fl_app]
    rfl
  | false =>
    rw [hn] at hr
    rw [if_neg (by decide)] at hr
    cases hr
    have : B = [] := by
      have h : [] ++ es = B ++ es := hB
      exact (List.append_cancel_right h).symm
    rw [this]
    rfl
set_option maxRecDepth 100000 in
theorem yln_ky (n : Int) : ye_ky (yln n) = 47 :: (yNL ++ [32]) := rfl
set_option maxRecDepth 100000 in
theorem yln_op (n : Int) : ye_op (yln n) = ye_num n := rfl
set_option maxRecDepth 100000 in
/-- what stands around a part -/
theorem ye_pr_rep {pre R B es' : List ye_E} {d' : ye_N} {n : Int} (hk : d'.2.2.2.1 = yNL) (hr : ye_rest d' es' = some R) (hB : es' = B ++ R) : ∃ P, ye_pr true (pre ++ .inl d' :: es') = P ++ ((ye_op d' ++ ye_pr (ye_nest d') B) ++ ye_pr false R) ∧ ye_pr true (pre ++ .inl (yln n) :: R) = P ++ (ye_num n ++ ye_pr false R) ∧ (P.length : Int) = ((ye_pr true (pre ++ [.inl d'])).length : Int) - (ye_op d').length := by
  have hky : ye_ky (yln n) = ye_ky d' := by unfold ye_ky; rw [hk]; rfl
  refine ⟨(ye_pr true pre ++ (if ye_fl true pre = true then [] else [32])) ++ ye_ky d', ?_, ?_, ?_⟩
  · rw [ye_pr_cut, hB, ye_pr_app, ye_fl_rest hr hB]
    simp only [List.append_assoc]
  · rw [ye_pr_cut, hky, yln_op]
    have : ye_nest (yln n) = false := rfl
    rw [this]
    simp only [List.append_assoc]
  · rw [ye_pr_cut pre [] d']
    have e0 : ye_pr (ye_nest d') [] = [] := rfl
    rw [e0]
    simp only [List.length_append, List.length_nil]
    omega
set_option maxRecDepth 100000 in
theorem ye_pr_ne : ∀ {B : List ye_E}, ye_oks B → B ≠ [] → ∀ f, 1 ≤ (ye_pr f B).length
  | [], _, h, _ => absurd rfl h
  | .inl d :: B, ho, _, f => by
    obtain ⟨c, l, e, _⟩ := ye_op_hd (ho.1 d (by simp))
    show 1 ≤ ((if f = true then [] else [32]) ++ (ye_ky d ++ (ye_op d ++ ye_pr (ye_nest d) B))).length
    rw [e]
    simp only [List.length_append, List.length_cons]
    omega
  | .inr k :: B, _, _, f => by
    show 1 ≤ (ye_cl k ++ ye_pr false B).length
    unfold ye_cl
    split <;> simp
set_option maxRecDepth 100000 in
/-- what stands ahead of the end -/
theorem ye_pr_add {B : List ye_E} {d : ye_N} {n : Int} (h7 : d.1 = 7) (ho : ye_opn B 1 = some 1) (hoB : ye_oks B) : ∃ W, ye_pr true (.inl d :: (B ++ [.inr 7])) = ye_ky d ++ (W ++ [62, 62]) ∧ ye_pr true (.inl d :: (B ++ [.inl (yln n), .inr 7])) = ye_ky d ++ (W ++ ((if W.length ≤ 2 then [] else [32]) ++ (47 :: (yNL ++ [32])) ++ (ye_num n ++ [62, 62]))) := by
  have hnest : ye_nest d = true := decide_eq_true (Or.inr h7)
  have eo : ye_op d = [60, 60] := by unfold ye_op; rw [if_neg (by omega), if_neg (by omega), if_neg (by omega), if_neg (by omega), if_neg (by omega), if_neg (by omega), if_neg (by omega), if_pos h7]
  refine ⟨[60, 60] ++ ye_pr true B, ?_, ?_⟩
  · show [] ++ (ye_ky d ++ (ye_op d ++ ye_pr (ye_nest d) (B ++ [.inr 7]))) = _
    rw [hnest, eo, ye_pr_app]
    show _ = ye_ky d ++ (([60, 60] ++ ye_pr true B) ++ [62, 62])
    simp only [List.append_assoc, List.nil_append]
    rfl
  · show [] ++ (ye_ky d ++ (ye_op d ++ ye_pr (ye_nest d) (B ++ [.inl (yln n), .inr 7]))) = _
    rw [hnest, eo, ye_pr_app]
    have e1 : ∀ f : Bool, ye_pr f [.inl (yln n), .inr 7] = (if f = true then [] else [32]) ++ (ye_ky (yln n) ++ (ye_op (yln n) ++ [62, 62])) := fun f => rfl
    rw [e1, yln_ky, yln_op]
    have hif : (if ye_fl true B = true then ([] : List Int) else [32]) = if ([60, 60] ++ ye_pr true B).length ≤ 2 then [] else [32] := by
      by_cases hB : B = []
      · subst hB
        rfl
      · have h1 := ye_pr_ne hoB hB true
        rw [ye_opn_fl ho (by decide) hB true, if_neg (by decide), if_neg (by rw [List.length_append]; show ¬ (2 + (ye_pr true B).length ≤ 2); omega)]
    rw [hif]
    simp only [List.append_assoc, List.nil_append]
section YLD1
variable {X : Nat × (Nat → Int32)}
set_option maxRecDepth 100000 in
theorem ys_180_107 {s : zq_S} {K : zq_S → Prop} {o : Nat} {n x3 x4 x5 : Int} (ho : o ≤ 9) (n0 : 0 ≤ n) (n1 : n ≤ 12) (h3 : zq_iv x3) (h4 : zq_iv x4) (h5 : zq_iv x5) (hnm : ym_nm s 256 yNL) {W : List Int} (hW : W.length + 40 ≤ 500) (k : ∀ S', (∀ b (j : Int), b ≠ 232 → b ≠ 245 → (b = 240 → j ≠ o) → (b = 241 → j < 500 * o ∨ 500 * o + 500 ≤ j) → zq_i S' b j = zq_i s b j) → (∀ j, j ≠ 23 → zq_i S' 232 j = zq_i s 232 j) → zq_i S' 240 o = (W ++ (yNL ++ ([32] ++ (ye_num n ++ [62, 62])))).length → yrow S' 241 (500 * o) (W ++ (yNL ++ ([32] ++ (ye_num n ++ [62, 62])))) → S'.2 = s.2 → zq_i S' 232 23 ≤ 700 → K S') : ∀ (m i : Nat) (S : zq_S), i + m = 6 → ymf [23] [245] s S → ymd S (W ++ yNL.take i) → zq_Ex X 180 107 [.ref 232, zq_vi (o : Int), zq_vi n, zq_vi x3, zq_vi x4, zq_vi x5, zq_vi (i : Int)] [] S (zq_rv K)
  | 0, i, S, hi, fr, hm => by
    have hi : i = 6 := by omega
    subst hi
    have hl7 := ye_num_len n
    have hm : ymd S (W ++ yNL) := hm
    refine zw_180_107 ⟨by omega, by omega⟩ ⟨by omega, by omega⟩ h3 h4 h5 ⟨by decide, by decide⟩ ?_
    rw [if_neg (by decide)]
    refine ys_150 ⟨by decide, by decide⟩ hm (by simp only [List.length_append]; show W.length + 6 < 700; omega) (fun s1 m1 f1 => ?_)
    refine ys_168 ⟨by omega, by omega⟩ m1 (by simp only [List.length_append]; show W.length + 6 + 1 + 7 < 700; omega) (fun s2 m2 f2 => ?_)
    refine ys_150 ⟨by decide, by decide⟩ m2 (by simp only [List.length_append]; show W.length + 6 + 1 + (ye_num n).length < 700; omega) (fun s3 m3 f3 => ?_)
    refine ys_150 ⟨by decide, by decide⟩ m3 (by simp only [List.length_append]; show W.length + 6 + 1 + (ye_num n).length + 1 < 700; omega) (fun s4 m4 f4 => ?_)
    have fr4 := fr.trans (f1.trans (f2.trans (f3.trans f4)))
    have e : (((((W ++ yNL) ++ [32]) ++ ye_num n) ++ [62]) ++ [62]) = W ++ (yNL ++ ([32] ++ (ye_num n ++ [62, 62]))) := by simp only [List.append_assoc]; rfl
    rw [e] at m4
    have hlen : (W ++ (yNL ++ ([32] ++ (ye_num n ++ [62, 62])))).length ≤ 500 := by
      simp only [List.length_append]
      show W.length + (6 + (1 + ((ye_num n).length + 2))) ≤ 500
      omega
    refine ys_170 ho m4 hlen (fun S' g1 g2 g3 g4 => ?_)
    refine k S' (fun b j n1 n2 n3 n4 => ?_) (fun j hj => ?_) g2 g3 (by rw [g4, fr4.2.2]) ?_
    · rw [g1 b j n3 n4, fr4.i (by simp; exact n2) n1]
    · rw [g1 232 j (fun z => by cases z) (fun z => by cases z), fr4.f (by simp; exact hj)]
    · rw [g1 232 23 (fun z => by cases z) (fun z => by cases z), m4.1]
      omega
  | m + 1, i, S, hi, fr, hm => by
    refine zw_180_107 ⟨by omega, by omega⟩ ⟨by omega, by omega⟩ h3 h4 h5 ⟨by omega, by omega⟩ ?_
    have h256 : zq_i S 256 = zq_i s 256 := fr.i (by decide) (by decide)
    have hc : zq_i S 256 i = yNL.getD i 0 := by rw [h256]; exact hnm.2 i (by show i < 6; omega)
    have hch : zq_ch (yNL.getD i 0) := by
      have key : ∀ i : Nat, i < 6 → zq_ch (yNL.getD i 0) := by decide
      exact key i (by omega)
    rw [if_pos (by omega), hc]
    refine ⟨⟨by omega, by omega⟩, ys_150 hch hm (by rw [List.length_append, List.length_take]; omega) (fun s1 m1 f1 => ?_)⟩
    rw [show (i : Int) + 1 = ((i + 1 : Nat) : Int) by omega]
    refine ys_180_107 ho n0 n1 h3 h4 h5 hnm hW k m (i + 1) s1 (by omega) (fr.trans f1) ?_
    have e : W ++ yNL.take (i + 1) = (W ++ yNL.take i) ++ [yNL.getD i 0] := by
      rw [List.append_assoc]
      congr 1
      have key : ∀ i : Nat, i < 6 → yNL.take (i + 1) = yNL.take i ++ [yNL.getD i 0] := by decide
      exact key i (by omega)
    rw [e]
    exact m1
set_option maxRecDepth 100000 in
theorem ys_180 {s : zq_S} {K : zq_S → Prop} {o : Nat} {n : Int} {d : ye_N} {es : List ye_E} (hmI : ym_I s) (ho : o ≤ 9) (n0 : 0 ≤ n) (n1 : n ≤ 12) (hT6 : yp_T6 (ym_c s (10 + o))) (b5 : zq_i s 240 o = (ye_pr true (.inl d :: es)).length) (b6 : yrow s 241 (500 * o) (ye_pr true (.inl d :: es))) (hv : yv (.inl d :: es)) (h7 : d.1 = 7) (hnm : ym_nm s 256 yNL)
    (k8 : ∀ d' es', ye_fk yNL es 0 = some (d', es') → d'.1 = 8 → K s)
    (kr : ∀ d' es' mid R S', ye_fk yNL es 0 = some (d', es') → d'.1 ≠ 8 → es = mid ++ .inl d' :: es' → ye_opn mid 1 = some 1 → ye_rest d' es' = some R → yG s S' o (ye_pr true (.inl d :: (mid ++ .inl (yln n) :: R))) → K S')
    (kn : ∀ B S', ye_fk yNL es 0 = none → es = B ++ [.inr 7] → ye_opn B 1 = some 1 → yG s S' o (ye_pr true (.inl d :: (B ++ [.inl (yln n), .inr 7]))) → K S') : zq_Ex X 180 0 [.ref 232, zq_vi (o : Int), zq_vi n, zz_no, zz_no, zz_no, zz_no] [] s (zq_rv K) := by
  have hq : ym_q (10 + (o : Int)) := ⟨by omega, by omega, Or.inr (by omega)⟩
  have hn : ye_nest d = true := decide_eq_true (Or.inr h7)
  have h444 := yv_len hv
  obtain ⟨⟨d0, e0, ed, er⟩, hwf, hmany, hdm, hkd⟩ := id hv
  obtain ⟨a1, a2⟩ := List.cons.inj ed
  have a1 : d = d0 := Sum.inl.inj a1
  subst a1
  subst a2
  have hsu := yob_su b5 b6
  obtain ⟨w1, w2, w3⟩ := id hwf
  have w2 : d.2.2.2.1 = [] := w2
  have hky : ye_ky d = [] := by unfold ye_ky; rw [if_pos w2]
  have hat : ye_at (ym_c s (10 + o)) 0 (ye_op d ++ (ye_pr (ye_nest d) es ++ [0])) := by
    have := ye_su_node1 hsu
    rw [hky] at this
    exact this
  have w4 : ye_wf (d.1 :: []) es := by rw [if_pos hn] at w3; exact w3
  have hl40 : es.length ≤ 40 := by
    have := ye_wf_len hwf
    simp only [List.length_nil, List.length_cons] at this
    have e : yr_many (.inl d :: es) = yr_many es + 1 := rfl
    omega
  have hskip : ye_skip es 1 = some [] := by
    unfold ye_rest at er
    rw [if_pos hn] at er
    exact er
  have hsz : zq_i s 240 o ≤ 444 := by omega
  have hm0 : ym_I (zq_si s 232 23 0) := by
    obtain ⟨g1, g2, g3, g4, g5⟩ := hmI
    refine ⟨?_, ?_, ?_, ?_, fun i i0 i1 => ?_⟩
    · rw [zq_i_si, if_neg (by decide)]; exact g1
    · rw [zq_i_si, if_neg (by decide)]; exact g2
    · rw [zq_i_si, if_neg (by decide)]; exact g3
    · rw [zq_i_at]; decide
    · rw [zq_i_si, if_neg (fun z => absurd z.1 (by decide))]; exact g5 i i0 i1
  have e23 : ∀ b, b ≠ 232 → zq_i (zq_si s 232 23 0) b = zq_i s b := fun b hb => by
    funext j
    rw [zq_i_si, if_neg (fun z => hb z.1)]
  have hT23 : ym_c (zq_si s 232 23 0) (10 + o) = ym_c s (10 + o) := ym_c_o (e23 240 (by decide)) (e23 241 (by decide))
  have hmd0 : ymd (zq_si s 232 23 0) [] := ⟨zq_i_at _ _ _ _, fun i hi => (by cases hi)⟩
  have f0 : ymf [23] [245] s (zq_si s 232 23 0) := ymf.sf (by simp)
  refine zw_180 ⟨by omega, by omega⟩ ⟨by omega, by omega⟩ (ys_175 (nm := yNL) (st := []) hmI hq hT6 (by decide) hnm (by decide) w1 h7 hat w4 hl40 (fun hf => ⟨⟨by omega, by omega⟩, ?_⟩) (fun d' es' p hf hnd hp hwf' hlen' => ⟨⟨by omega, by omega⟩, ?_⟩))
  · rw [if_pos (by decide)]
    obtain ⟨B, c, e1, e2⟩ := ye_skip_opn hskip (by decide)
    have hoB : ye_oks B := by
      have := w4.oks
      rw [e1] at this
      exact ⟨fun d2 h2 => this.1 d2 (List.mem_append_left _ h2), fun k2 h2 => this.2 k2 (List.mem_append_left _ h2)⟩
    have hc7 : c = 7 := by
      have hlast : ∃ pre, ye_pr true (.inl d :: es) = pre ++ ye_cl c := by
        refine ⟨ye_pr true (.inl d :: B), ?_⟩
        rw [e1]
        have : (.inl d :: (B ++ [.inr c]) : List ye_E) = (.inl d :: B) ++ [.inr c] := rfl
        rw [this, ye_pr_app]
        congr 1
        show ye_cl c ++ [] = ye_cl c
        rw [List.append_nil]
      -- the kind that is open there is the root's
      have gen : ∀ (B : List ye_E) (st : List Int) (n m : Nat) (u : Int) (Y : List ye_E), ye_wf (st ++ [u]) (B ++ Y) → ye_opn B n = some m → st.length + 1 = n → ∃ st2, st2.length + 1 = m ∧ ye_wf (st2 ++ [u]) Y := by
        intro B
        induction B with
        | nil =>
          intro st n m u Y h h2 hl
          have h2 : some n = some m := h2
          cases h2
          exact ⟨st, hl, h⟩
        | cons b B ih =>
          intro st n m u Y h h2 hl
          cases b with
          | inl d2 =>
            have h2 : ye_opn B (if ye_nest d2 = true then n + 1 else n) = some m := h2
            have h := h.2.2
            cases hd : ye_nest d2 with
            | true =>
              rw [hd] at h h2
              rw [if_pos rfl] at h h2
              exact ih (d2.1 :: st) (n + 1) m u Y h h2 (by simp; omega)
            | false =>
              rw [hd] at h h2
              rw [if_neg (by decide)] at h h2
              exact ih st n m u Y h h2 hl
          | inr k2 =>
            have h2 : (if n ≤ 1 then none else ye_opn B (n - 1)) = some m := h2
            by_cases h1 : n ≤ 1
            · rw [if_pos h1] at h2; cases h2
            · rw [if_neg h1] at h2
              cases st with
              | nil => simp at hl; omega
              | cons k3 st =>
                have h := h.2.2
                exact ih st (n - 1) m u Y h h2 (by simp at hl; omega)
      have w5 := w4
      rw [e1] at w5
      obtain ⟨st2, l2, h9⟩ := gen B [] 1 1 d.1 [.inr c] w5 e2 rfl
      have : st2 = [] := List.length_eq_zero_iff.mp (by omega)
      subst this
      have h9 := h9.1
      rw [h9, h7]
    subst hc7
    obtain ⟨W, p1, p2⟩ := ye_pr_add (n := n) h7 e2 hoB
    rw [hky, List.nil_append] at p1 p2
    have hes : ye_pr true (.inl d :: es) = W ++ [62, 62] := by rw [e1]; exact p1
    rw [hes] at b5 h444
    simp only [List.length_append, List.length_cons, List.length_nil] at b5 h444
    have hWat : ye_at (ym_c s (10 + o)) 0 W := by
      have := hsu
      unfold ye_su at this
      rw [hes, List.append_assoc] at this
      exact (ye_at_app.mp this).1
    have hsub : yp_sub (ym_c s (10 + o)) (zq_i s 240 o - 2 - 0).toNat 0 = W := by
      rw [show (zq_i s 240 o - 2 - 0).toNat = W.length by omega]
      exact yp_sub_at _ _ hWat
    refine ys_157 hm0 hq (by omega) (by decide) (by omega) (by omega) hmd0 (by simp only [List.length_nil]; omega) (fun s1 m1 f1 => ?_)
    rw [hT23, hsub, List.nil_append] at m1
    have fr1 := f0.trans f1
    have h256 : ym_nm s 256 yNL := hnm
    have fin : ∀ (s2 : zq_S) (sep : List Int), sep.length ≤ 1 → ymf [23] [245] s s2 → ymd s2 ((W ++ sep) ++ [47]) → (if W.length ≤ 2 then [] else [(32 : Int)]) = sep → zq_Ex X 180 107 [.ref 232, zq_vi (o : Int), zq_vi n, zq_vi (10 + (o : Int)), zq_vi (-1), zq_vi (zq_i s 240 o), zq_vi ((0 : Nat) : Int)] [] s2 (zq_rv K) := fun s2 sep hs f2 m2 hsep => by
      refine ys_180_107 (s := s) (W := (W ++ sep) ++ [47]) ho n0 n1 ⟨by omega, by omega⟩ ⟨by decide, by decide⟩ ⟨by omega, by omega⟩ hnm (by simp only [List.length_append, List.length_cons, List.length_nil]; omega) (fun S' g1 g2 g3 g4 g5 g6 => ?_) 6 0 s2 rfl f2 (by rw [List.take_zero, List.append_nil]; exact m2)
      have et : ((W ++ sep) ++ [47]) ++ (yNL ++ ([32] ++ (ye_num n ++ [62, 62]))) = ye_pr true (.inl d :: (B ++ [.inl (yln n), .inr 7])) := by
        rw [p2, hsep]
        simp only [List.append_assoc]
        rfl
      rw [et] at g3 g4
      exact kn B S' hf e1 e2 ⟨g1, g2, g3, g4, g5, g6⟩
    refine yl_if (fun h4 => ?_) (fun h4 => ?_)
    · refine ys_150 ⟨by decide, by decide⟩ m1 (by omega) (fun s2 m2 f2 => ?_)
      refine fin s2 [] (by simp) (fr1.trans f2) (by rw [List.append_nil]; exact m2) (if_pos (by omega))
    · refine ys_150 ⟨by decide, by decide⟩ m1 (by omega) (fun s2 m2 f2 => ?_)
      refine ys_150 ⟨by decide, by decide⟩ m2 (by simp only [List.length_append, List.length_cons, List.length_nil]; omega) (fun s3 m3 f3 => ?_)
      exact fin s3 [32] (by simp) (fr1.trans (f2.trans f3)) m3 (if_neg (by omega))
  · rw [if_neg (by omega)]
    obtain ⟨mid, e1, e2, e3⟩ := ye_fk_split hf
    have hp6 : p < 600 := by
      obtain ⟨c, l, ec, _, _, _, _, _, nz, _⟩ := ye_op_hd hwf'.1
      exact yp_lt6 hT6 (by
        have := hnd.op
        rw [ec] at this
        rw [ye_at_hd this]
        exact nz)
    refine ys_159 hmI hq (by omega) (by omega) ?_
    rw [ye_kind (by omega) hwf'.1 hwf'.oks.tl hnd.op]
    refine yl_if (fun h8 => k8 d' es' hf h8) (fun h8 => ?_)
    obtain ⟨R, r1, r2, r3⟩ := hwf'.rest
    obtain ⟨B, hB, hve⟩ := ye_vend2 hT6.T (by omega) hwf'.1 hwf'.oks.tl (by omega) hnd.op r1
    obtain ⟨P, p1, p2, p3⟩ := ye_pr_rep (pre := .inl d :: mid) (n := n) e3 r1 hB
    have hes : ye_pr true (.inl d :: es) = P ++ ((ye_op d' ++ ye_pr (ye_nest d') B) ++ ye_pr false R) := by rw [e1]; exact p1
    have hplace := yob_place (es0 := .inl d :: es) (pre := .inl d :: mid) (q := p) b5 b6 hwf.oks (by rw [e1]; rfl) (by omega) hnd.op
    have hpP : p = P.length := by rw [hplace, p3]
    have hall := hsu
    unfold ye_su at hall
    rw [hes, List.append_assoc, List.append_assoc] at hall
    obtain ⟨c1, c2⟩ := ye_at_app.mp hall
    obtain ⟨c3, c4⟩ := ye_at_app.mp c2
    obtain ⟨c5, _⟩ := ye_at_app.mp c4
    rw [hes] at b5 h444
    simp only [List.length_append] at b5 h444
    have hopB : ((ye_op d' ++ ye_pr (ye_nest d') B).length : Int) = (ye_op d').length + (ye_pr (ye_nest d') B).length := by rw [List.length_append]; omega
    have hl7 := ye_num_len n
    have hsub1 : yp_sub (ym_c s (10 + o)) (p - 0).toNat 0 = P := by
      rw [show (p - 0).toNat = P.length by omega]
      exact yp_sub_at _ _ c1
    have hsub2 : yp_sub (ym_c s (10 + o)) (zq_i s 240 o - (p + (ye_op d' ++ ye_pr (ye_nest d') B).length)).toNat (p + (ye_op d' ++ ye_pr (ye_nest d') B).length) = ye_pr false R := by
      rw [show (zq_i s 240 o - (p + (ye_op d' ++ ye_pr (ye_nest d') B).length)).toNat = (ye_pr false R).length by omega]
      refine yp_sub_at _ _ ?_
      rw [hpP]
      have : (0 : Int) + (P.length : Int) + ((ye_op d' ++ ye_pr (ye_nest d') B).length : Int) = (P.length : Int) + ((ye_op d' ++ ye_pr (ye_nest d') B).length : Int) := by omega
      rw [this] at c5
      exact c5
    refine ys_178 hmI hq hve ⟨by omega, by omega⟩ (by omega) (by omega) ?_
    refine zw_181 ⟨by omega, by omega⟩ ⟨by omega, by omega⟩ ⟨by omega, by omega⟩ ⟨by omega, by omega⟩ ⟨by omega, by omega⟩ ?_
    refine ys_157 hm0 hq (by omega) (by decide) (by omega) (by omega) hmd0 (by simp only [List.length_nil]; omega) (fun s1 m1 f1 => ?_)
    rw [hT23, hsub1, List.nil_append] at m1
    refine ys_168 ⟨by omega, by omega⟩ m1 (by omega) (fun s2 m2 f2 => ?_)
    have fr2 := f0.trans (f1.trans f2)
    have hT2 : ym_c s2 (10 + o) = ym_c s (10 + o) := ym_c_o (fr2.i (by decide) (by decide)) (fr2.i (by decide) (by decide))
    have hm2 : ym_I s2 := by
      obtain ⟨g1, g2, g3, g4, g5⟩ := hmI
      refine ⟨?_, ?_, ?_, ?_, fun i i0 i1 => ?_⟩
      · rw [fr2.f (by decide)]; exact g1
      · rw [fr2.f (by decide)]; exact g2
      · rw [fr2.f (by decide)]; exact g3
      · rw [m2.1, List.length_append]; omega
      · rw [fr2.i (by decide) (by decide)]; exact g5 i i0 i1
    refine ys_157 hm2 hq (by omega) (by omega) (by omega) (by omega) m2 (by rw [List.length_append]; omega) (fun s3 m3 f3 => ?_)
    rw [hT2, hsub2, List.append_assoc, ← p2] at m3
    have fr3 := fr2.trans f3
    have hlen : (ye_pr true (.inl d :: mid ++ .inl (yln n) :: R)).length ≤ 500 := by
      rw [p2, List.length_append, List.length_append]
      omega
    refine ys_170 ho m3 hlen (fun S' g1 g2 g3 g4 => ?_)
    refine kr d' es' mid R S' hf h8 e1 e2 r1 ⟨fun b j n1 n2 n3 n4 => ?_, fun j hj => ?_, g2, g3, by rw [g4, fr3.2.2], ?_⟩
    · rw [g1 b j n3 n4, fr3.i (by simp; exact n2) n1]
    · rw [g1 232 j (fun z => by cases z) (fun z => by cases z), fr3.f (by simp; exact hj)]
    · rw [g1 232 23 (fun z => by cases z) (fun z => by cases z), m3.1]
      omega
end YLD1
