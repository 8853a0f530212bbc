/-! the class reads: strings, values -/
set_option maxRecDepth 100000 in
theorem yp_str13 {T : Int → Int} : ∀ (f : Nat) (k n : Int), 13 ≤ n → yp_str T f k n = -1
  | 0, _, _, _ => rfl
  | f + 1, k, n, h => by
    unfold yp_str
    split
    · rw [if_neg (by omega)]
    · split
      · rfl
      · exact yp_str13 f _ (n + 1) (by omega)
set_option maxRecDepth 100000 in
theorem yp_let_eq {T : Int → Int} {e : Int} : ∀ (F G : Nat) (k : Int), e ≤ k + F → e ≤ k + G → yp_let T e F k = yp_let T e G k
  | 0, 0, _, _, _ => rfl
  | 0, G + 1, k, h1, _ => by
    have : yp_let T e (G + 1) k = [] := if_neg (by omega)
    rw [this]
    rfl
  | F + 1, 0, k, _, h2 => by
    have : yp_let T e (F + 1) k = [] := if_neg (by omega)
    rw [this]
    rfl
  | F + 1, G + 1, k, h1, h2 => by
    unfold yp_let
    rw [yp_let_eq F G (k + 2) (by omega) (by omega), yp_let_eq F G (k + 1) (by omega) (by omega)]
set_option maxRecDepth 100000 in
theorem yp_str_unf {T : Int → Int} (hT : yp_T T) {k n : Int} (hk : -500 ≤ k) : yp_str T 2000 k n = if T k = 41 then (if n ≤ 12 then k + 1 else -1) else if T k < 32 ∨ (T k = 92 ∧ T (k + 1) ≠ 40 ∧ T (k + 1) ≠ 41 ∧ T (k + 1) ≠ 92) then -1 else yp_str T 2000 (if T k = 92 then k + 2 else k + 1) (n + 1) := by
  conv => lhs; unfold yp_str
  rw [yp_str_eq hT 1999 2000 _ (n + 1) (by split <;> omega) (by split <;> omega)]
section YCS
variable {X : Nat × (Nat → Int32)} {s : zq_S} {R a t : Nat}
set_option maxRecDepth 100000 in
/-- takeString -/
theorem ys_61_24 {K : Int → zq_S → Prop} {p c lev E : Int} {y : Int64} {L : List Int} (hR : zq_o 3 R) (ha : zq_o 1 a) (ht : zq_o 4 t) (hra : zq_r s R 0 = some a) (hrt : zq_r s R 1 = some t) (ho : yc_ok s a) (c0 : 0 ≤ c) (c1 : c < 12)
    (kf : E < 0 → ∀ s', zq_i s' R 5 = p → ycf (yc_A R t) s s' → K 0 s')
    (kk : 0 ≤ E → ∀ s', yc_l s s' R t c lev E 5 y L → zq_l s' R 4 = 0 → K 1 s') : ∀ (m : Nat) (k : Int) (l : List Int) (s1 : zq_S) (v : Value), v.category = 1 → 1003 ≤ k + m → 0 ≤ k → k ≤ 1002 → l.length ≤ 12 → yc_l s s1 R t c lev p 5 y l → yp_str (yc_t s a) 2000 k l.length = E → (0 ≤ E → l ++ yp_let (yc_t s a) (E - 1) 2000 k = L) → zq_Ex X 61 24 [.ref R, zq_vi c, zq_vi k, v] [] s1 (zq_rp zq_bo K) := by
  have hT := ho.T ha
  have dRt := yk_Rt hR ht
  have dtx := yk_text ha hR ht
  have h9 := zq_T_le ha
  have h8 := ho.2.1
  intro m
  induction m with
  | zero => intro k l s1 v hv h1 h0 h2; omega
  | succ m ih =>
    intro k l s1 v hv h1 h0 h2 hl12 hl hE hL
    have hf := hl.2.2.2.2.2.2.2.2.2.2
    have tsame := yc_t_same (hf.i dtx.1) (hf.i dtx.2)
    have ho1 := tsame.2 ho
    have ra1 : zq_r s1 R 0 = some a := by rw [hf.r]; exact hra
    have rt1 : zq_r s1 R 1 = some t := by rw [hf.r]; exact hrt
    have hk : zq_iv k := ⟨by omega, by omega⟩
    have hlen : zq_i s1 a 1 = zq_i s a 1 := by rw [hf.i dtx.1]
    have bad : E < 0 → K 0 s1 := fun h => kf h s1 hl.2.2.2.2.2.2.2.1 hf
    rw [yp_str_unf hT (by omega)] at hE
    -- one letter x, and on from k'
    have more : ∀ (x k' : Int) (w : Value), 32 ≤ x → x ≤ 126 → w.category = 1 → k + 1 ≤ k' → k' ≤ 1002 → yp_str (yc_t s a) 2000 k' (l.length + 1) = E → (0 ≤ E → l ++ x :: yp_let (yc_t s a) (E - 1) 2000 k' = L) → (∃ b_12 : Nat, zq_r s1 R 1 = some b_12 ∧ (((0 : Int) ≤ c ∧ c < (12 : Int)) ∧ (if zq_i s1 (b_12 + 3) c = 12 then K 0 s1 else (zq_Ex X 60 0 [.ref b_12, zq_vi c, zq_vi x] [] s1 (zq_rv fun s_16 => zq_Ex X 61 24 [.ref R, zq_vi c, zq_vi k', w] [] s_16 (zq_rp zq_bo K)))))) := by
      intro x k' w x0 x1 hw hk1 hk2 hE' hL'
      refine ⟨t, rt1, ⟨c0, c1⟩, ?_⟩
      have hn := hl.2.2.2.1
      rw [hn]
      split
      · next h12 =>
        have : (l.length : Int) + 1 = 13 := by omega
        rw [this, yp_str13 2000 k' 13 (by omega)] at hE'
        exact bad (by omega)
      · next h12 =>
        have hadd := yc_l.add (x := x) dRt hl (by omega) c0
        refine ys_60 ht ⟨by omega, by omega⟩ c0 c1 hn (by omega) ?_
        refine ih k' (l ++ [x]) _ w hw (by omega) (by omega) hk2 (by simp; omega) hadd.1 ?_ (fun h => ?_)
        · rw [List.length_append]
          exact hE'
        · rw [List.append_assoc]
          exact hL' h
    refine zw_61_24 hR ⟨by omega, by omega⟩ hk hv ⟨a, ra1, ?_⟩
    rw [hlen]
    by_cases hlt : k < zq_i s a 1
    · rw [if_pos hlt]
      obtain ⟨z1, z2⟩ := ho.ch (j := k) h0 hlt
      have hcc : yp_isC (yc_t s a k) = true := by rw [z2]; exact ho.2.2 k h0 hlt
      have hcc := of_decide_eq_true hcc
      refine ys_29 ha ho1 hk ?_
      rw [tsame.1, show yp_cd (yc_t s a k) = yc_t s a k by unfold yp_cd; rw [if_neg z1]]
      have el : ∀ E', k < E' - 1 → E' ≤ 1001 → yp_let (yc_t s a) (E' - 1) 2000 k = if yc_t s a k = 92 then yc_t s a (k + 1) :: yp_let (yc_t s a) (E' - 1) 2000 (k + 2) else yc_t s a k :: yp_let (yc_t s a) (E' - 1) 2000 (k + 1)   := fun E' hE' hE9 => by
        conv => lhs; unfold yp_let
        rw [if_pos hE', yp_let_eq 1999 2000 (k + 2) (by omega) (by omega), yp_let_eq 1999 2000 (k + 1) (by omega) (by omega)]
      split
      · next h41 =>
        rw [if_pos h41, if_pos (by omega)] at hE
        refine ⟨⟨by omega, by omega⟩, kk (by omega) _ ?_ ?_⟩
        · have : l = L := by
            have := hL (by omega)
            rw [← hE, show yp_let (yc_t s a) (k + 1 - 1) 2000 k = [] from if_neg (by omega)] at this
            simpa using this
          subst this
          obtain ⟨q1, q2, q3, q4, q5, q6, q7, q8, q9, q10, q11⟩ := hl
          have f2 : ycf [R] s1 (zq_si (zq_sl s1 R 4 0) R 5 (k + 1)) := (ycf.sl (by simp)).trans (ycf.si (by simp))
          have same : ∀ q ∈ yc_t7 t, q ∉ [R] := fun q hq z => by simp at z; exact dRt.1 (by rw [← z]; exact hq)
          refine ⟨?_, ?_, ?_, ?_, ?_, fun i hi => ?_, q7.trans (yt_old.same f2 same), ?_, ?_, ?_, q11.trans (f2.mono (by simp))⟩
          · rw [f2.i (same t (by simp))]; exact q1
          · rw [f2.i (same (t + 1) (by simp))]; exact q2
          · rw [f2.i (same (t + 2) (by simp))]; exact q3
          · rw [f2.i (same (t + 3) (by simp))]; exact q4
          · rw [f2.l (same (t + 5) (by simp))]; exact q5
          · rw [f2.i (same (t + 6) (by simp))]; exact q6 i hi
          · rw [zq_i_si, if_pos ⟨rfl, rfl⟩]; exact hE
          · rw [zq_i_si, if_neg (by simp), zq_i_sl]; exact q9
          · rw [f2.i (by simp)]; exact q10
        · rw [zq_l_si, zq_l_sl, if_pos ⟨rfl, rfl⟩]
      next h41 =>
      rw [if_neg h41] at hE
      split
      · next h92 =>
        refine ⟨a, ra1, ys_29 ha ho1 ⟨by omega, by omega⟩ ?_⟩
        rw [tsame.1, show k + 1 + 1 = k + 2 by omega]
        have esc : ∀ x : Int, x = 40 ∨ x = 41 ∨ x = 92 → yc_t s a (k + 1) = x → (if x = 10 then K 0 s1 else (∃ b_12 : Nat, zq_r s1 R 1 = some b_12 ∧ (((0 : Int) ≤ c ∧ c < (12 : Int)) ∧ (if zq_i s1 (b_12 + 3) c = 12 then K 0 s1 else (zq_Ex X 60 0 [.ref b_12, zq_vi c, zq_vi x] [] s1 (zq_rv fun s_16 => zq_Ex X 61 24 [.ref R, zq_vi c, zq_vi (k + 2), zq_vi x] [] s_16 (zq_rp zq_bo K))))))) := by
          intro x hx hxe
          rw [if_neg (by omega)]
          have hE2 : yp_str (yc_t s a) 2000 (k + 2) (l.length + 1) = E := by
            rw [if_neg (by rw [hxe]; omega), if_pos h92] at hE
            exact hE
          have k9 := yp_lt hT (k := k + 1) (by omega)
          refine more x (k + 2) _ (by omega) (by omega) rfl (by omega) (by omega) hE2 (fun h => ?_)
          have hend := (yp_str_end 2000 (k + 2) _ E hE2 h).2
          have hend2 := yp_lt hT (k := E - 1) (by have := (yp_str_end 2000 (k + 2) _ E hE2 h).1; omega)
          have := hL h
          rw [el E (by omega) (by omega), if_pos h92, hxe] at this
          exact this
        have ecd : ∀ x : Int, 0 < x → (yp_cd (yc_t s a (k + 1)) = x ↔ yc_t s a (k + 1) = x) := fun x hx => by unfold yp_cd; split <;> omega
        by_cases g40 : yc_t s a (k + 1) = 40
        · rw [show yp_cd (yc_t s a (k + 1)) = 40 from (ecd 40 (by decide)).mpr g40, if_pos rfl]
          exact esc 40 (Or.inl rfl) g40
        by_cases g41 : yc_t s a (k + 1) = 41
        · rw [show yp_cd (yc_t s a (k + 1)) = 41 from (ecd 41 (by decide)).mpr g41, if_neg (by decide), if_pos rfl]
          exact esc 41 (Or.inr (Or.inl rfl)) g41
        by_cases g92 : yc_t s a (k + 1) = 92
        · rw [show yp_cd (yc_t s a (k + 1)) = 92 from (ecd 92 (by decide)).mpr g92, if_neg (by decide), if_neg (by decide), if_pos rfl]
          exact esc 92 (Or.inr (Or.inr rfl)) g92
        rw [if_neg (fun z => g40 ((ecd 40 (by decide)).mp z)), if_neg (fun z => g41 ((ecd 41 (by decide)).mp z)), if_neg (fun z => g92 ((ecd 92 (by decide)).mp z))]
        rw [if_pos (Or.inr ⟨h92, g40, g41, g92⟩)] at hE
        exact bad (by omega)
      next h92 =>
      split
      · next h10 =>
        rw [if_pos (by omega)] at hE
        exact bad (by omega)
      next h10 =>
      rw [if_neg (by omega), if_neg h92] at hE
      refine more (yc_t s a k) (k + 1) _ (by omega) (by omega) rfl (by omega) (by omega) hE (fun h => ?_)
      have hend := (yp_str_end 2000 (k + 1) _ E hE h).2
      have hend2 := yp_lt hT (k := E - 1) (by have := (yp_str_end 2000 (k + 1) _ E hE h).1; omega)
      have := hL h
      rw [el E (by omega) (by omega), if_neg h92] at this
      exact this
    · rw [if_neg hlt]
      rw [yc_out (show ¬ (0 ≤ k ∧ k < zq_i s a 1) by omega), if_neg (by decide), if_pos (Or.inl (by decide))] at hE
      exact bad (by omega)
end YCS
