/-! reading comes to an end; Reader.read and readWhole -/
set_option maxRecDepth 100000 in
theorem yr_step_ok {T : Int → Int} (hT : yp_T T) (hC : yp_C T) {S S' : yr_S} (hok : yr_ok S) (hfirst : S.2.2.1 = [] → S.2.1 = []) (h : yr_step T S = .inl S') : yr_ok S' ∧ S.1 < S'.1 := by
  obtain ⟨p0, p1⟩ := hok.1
  have hat1 := yp_sk_le (T := T) S.1
  have hat2 := yp_sk_lt hT p1
  have val : (∀ n ks st, S.2.2.1 = (7, n, ks) :: st → S.2.2.2 ≠ none) → yr_val T S = .inl S' → yr_ok S' ∧ S.1 < S'.1 := fun hd hv => by
    unfold yr_val at hv
    split at hv
    · cases hv
    · next hn =>
      cases hv
      have hend := yr_end_b hT (p := yp_sk T S.1) (by omega) hat2 rfl (by omega)
      exact ⟨yr_ok_value hT hC hok (by omega) hat2 rfl (by omega) (by omega) (by omega) hd hfirst, by show S.1 < yr_end T _ _; omega⟩
  cases hs : S.2.2.1 with
  | nil =>
    rw [yr_step0 hs] at h
    exact val (fun n ks st e => by rw [hs] at e; cases e) h
  | cons q st =>
    obtain ⟨k, n, ks⟩ := q
    have hk : k = 6 ∨ k = 7 := hok.2.2.2.2.2.2.2.1 (k, n, ks) (by rw [hs]; simp)
    cases hz : S.2.2.2 with
    | some w =>
      rw [yr_stepk hz] at h
      exact val (fun _ _ _ _ z => by rw [hz] at z; cases z) h
    | none =>
      rcases hk with h6 | h7
      · subst h6
        rw [yr_step6 hs hz] at h
        split at h
        · next h93 =>
          cases h
          have := yp_lt hT (k := yp_sk T S.1) (by omega)
          exact ⟨yr_ok_close hok hs hz (by omega) (by omega), by show S.1 < yp_sk T S.1 + 1; omega⟩
        · exact val (fun n' ks' st' e => by rw [hs] at e; cases e) h
      · subst h7
        rw [yr_step7 hs hz] at h
        split at h
        · next h62 =>
          cases h
          have := yp_lt hT (k := yp_sk T S.1 + 1) (by omega)
          exact ⟨yr_ok_close hok hs hz (by omega) (by omega), by show S.1 < yp_sk T S.1 + 2; omega⟩
        · split at h
          · next hn =>
            cases h
            obtain ⟨hw, hnl⟩ := yr_name_ok hn.1
            have p9 := yp_lt hT (k := yp_sk T S.1) (by have := (of_decide_eq_true hn.1).1; omega)
            have n2 := yp_nm_lt hT (k := yp_sk T S.1) (by omega)
            exact ⟨yr_ok_key hok hs hz hw (by omega) n2, by show S.1 < yp_nm T (yp_sk T S.1); omega⟩
          · cases h
set_option maxRecDepth 100000 in
theorem yr_go_some {T : Int → Int} (hT : yp_T T) (hC : yp_C T) : ∀ (f : Nat) (S : yr_S), yr_ok S → (S.2.2.1 = [] → S.2.1 = []) → 1001 < S.1 + f → ∃ r, yr_go T f S = some r
  | 0, S, hok, _, h => by have := hok.1; omega
  | f + 1, S, hok, hfirst, h => by
    unfold yr_go
    cases hs : yr_step T S with
    | inr w => exact ⟨_, rfl⟩
    | inl S' =>
      obtain ⟨h1, h2⟩ := yr_step_ok hT hC hok hfirst hs
      show ∃ r, (if S'.2.2.1 = [] then some (.inl S') else yr_go T f S') = some r
      by_cases hn : S'.2.2.1 = []
      · exact ⟨_, by rw [if_pos hn]⟩
      · rw [if_neg hn]
        exact yr_go_some hT hC f S' h1 (fun z => absurd z hn) (by omega)
set_option maxRecDepth 100000 in
theorem yr_ok0 {p : Int} (p0 : 0 ≤ p) (p1 : p ≤ 1000) : yr_ok (p, [], [], none) := ⟨⟨p0, p1⟩, rfl, rfl, fun k n ks st h => (by cases h), ⟨Nat.zero_le _, Nat.zero_le _⟩, fun nm h => (by cases h), Nat.zero_le _, fun q h => (by cases h), fun q h => (by cases h), fun q h => (by cases h)⟩
set_option maxRecDepth 100000 in
theorem yr_read_some {T : Int → Int} (hT : yp_T T) (hC : yp_C T) {p : Int} (p0 : 0 ≤ p) (p1 : p ≤ 1000) : ∃ r, yr_read T p = some r := yr_go_some hT hC 1100 _ (yr_ok0 p0 p1) (fun _ => rfl) (by show 1001 < p + 1100; omega)
/-- what reading leaves alone, the reader's references aside -/
def ycg (R t : Nat) (s s' : zq_S) : Prop := (∀ b, b ∉ yc_A R t → zq_i s' b = zq_i s b ∧ zq_l s' b = zq_l s b) ∧ (∀ b, b ≠ R → zq_r s' b = zq_r s b) ∧ zq_n s' = zq_n s ∧ zq_x s' = zq_x s
section YCR
variable {X : Nat × (Nat → Int32)} {s : zq_S} {R a t : Nat}
set_option maxRecDepth 100000 in
/-- Reader.read -/
theorem ys_44 {K : Int → zq_S → Prop} {p : Int} (hR : zq_o 3 R) (ha : zq_o 1 a) (ht : zq_o 4 t) (ho : yc_ok s a) (hC : yp_C (yc_t s a)) (p0 : 0 ≤ p) (p1 : p ≤ 1000) {r : yr_S ⊕ Int} (hr : yr_read (yc_t s a) p = some r)
    (kf : ∀ s' w, r = .inr w → zq_i s' R 5 = w → ycg R t s s' → K 0 s')
    (kk : ∀ s' S' os', r = .inl S' → ycr s' R a t S' os' → yr_ok S' → S'.2.2.1 = [] → ycg R t s s' → K 1 s') : zq_Ex X 44 0 [.ref R, .ref a, zq_vi p, .ref t, zz_no] [] s (zq_rp zq_bo K) := by
  have dRt := yk_Rt hR ht
  have dtx := yk_text ha hR ht
  have dR : R ≠ R + 1 := by omega
  refine zw_44 hR ha ⟨by omega, by omega⟩ ht (zw_45 ht ?_)
  generalize hs1 : (zq_si (zq_sl (zq_si (zq_si (zq_sr (zq_sr s R 0 (some a)) R 1 (some t)) t 0 0) R 3 0) R 4 0) R 5 p) = s1
  have tR : t ≠ R := fun z => dRt.1 (by rw [← z]; simp)
  have tq : ∀ q ∈ yc_t7 t, q ≠ R := fun q hq z => dRt.1 (by rw [← z]; exact hq)
  have g : ycg R t s s1 := by
    rw [← hs1]
    refine ⟨fun b hb => ⟨?_, ?_⟩, fun b hb => ?_, rfl, rfl⟩
    · funext j
      simp at hb
      rw [zq_i_si, if_neg (fun z => hb.1 z.1), zq_i_sl, zq_i_si, if_neg (fun z => hb.1 z.1), zq_i_si, if_neg (fun z => hb.2.2.1 z.1), zq_i_sr, zq_i_sr]
    · funext j
      simp at hb
      rw [zq_l_si, zq_l_sl, if_neg (fun z => hb.1 z.1), zq_l_si, zq_l_si, zq_l_sr, zq_l_sr]
    · funext j
      rw [zq_r_si, zq_r_sl, zq_r_si, zq_r_si, zq_r_sr, if_neg (fun z => hb z.1), zq_r_sr, if_neg (fun z => hb z.1)]
  have tsame := yc_t_same (g.1 a dtx.1).1 (g.1 (a + 1) dtx.2).1
  have hycr : ycr s1 R a t (p, [], [], none) [] := by
    rw [← hs1]
    refine ⟨?_, ?_, ?_, ?_, ?_, rfl, fun i o h => (by cases h), ?_, fun i l d h => (by cases h), rfl⟩
    · rw [zq_r_si, zq_r_sl, zq_r_si, zq_r_si, zq_r_sr, if_neg (by simp), zq_r_sr, if_pos ⟨rfl, rfl⟩]
    · rw [zq_r_si, zq_r_sl, zq_r_si, zq_r_si, zq_r_sr, if_pos ⟨rfl, rfl⟩]
    · rw [zq_i_si, if_neg (by simp), zq_i_sl, zq_i_si, if_pos ⟨rfl, rfl⟩]
      rfl
    · rw [zq_l_si, zq_l_sl, if_pos ⟨rfl, rfl⟩]
      rfl
    · rw [zq_i_si, if_pos ⟨rfl, rfl⟩]
    · rw [zq_i_si, if_neg (fun z => tR z.1), zq_i_sl, zq_i_si, if_neg (fun z => tR z.1), zq_i_si, if_pos ⟨rfl, rfl⟩]
      rfl
  have tr : ∀ s', ycf (yc_A R t) s1 s' → ycg R t s s' := fun s' f => ⟨fun b hb => ⟨(f.i hb).trans (g.1 b hb).1, (f.l hb).trans (g.1 b hb).2⟩, fun b hb => by rw [f.r]; exact g.2.1 b hb, f.2.2.1.trans g.2.2.1, f.2.2.2.trans g.2.2.2⟩
  exact ys_44_35 hR ha ht (yc_t s a) hC ⟨by omega, by omega⟩ 1100 s1 (p, [], [], none) [] 0 (tsame.2 ho) tsame.1 hycr (yr_ok0 p0 p1) (fun _ => rfl) (by omega) p0 r hr (fun s' w e1 e2 e3 => kf s' w e1 e2 (tr s' e3)) (fun s' S' os' e1 e2 e3 e4 e5 => kk s' S' os' e1 e2 e3 e4 (tr s' e5))
set_option maxRecDepth 100000 in
/-- Reader.readWhole: the place of the fault, also behind the value -/
theorem ys_43 {K : Int → zq_S → Prop} (hR : zq_o 3 R) (ha : zq_o 1 a) (ht : zq_o 4 t) (ho : yc_ok s a) (hC : yp_C (yc_t s a)) {r : yr_S ⊕ Int} (hr : yr_read (yc_t s a) 0 = some r)
    (kf : ∀ s' w, r = .inr w → zq_i s' R 5 = w → ycg R t s s' → K 0 s')
    (kb : ∀ s' S', r = .inl S' → yp_sk (yc_t s a) S'.1 < zq_i s a 1 → zq_i s' R 5 = yp_sk (yc_t s a) S'.1 → ycg R t s s' → K 0 s')
    (kk : ∀ s' S', r = .inl S' → ¬ yp_sk (yc_t s a) S'.1 < zq_i s a 1 → yr_ok S' → S'.2.2.1 = [] → zq_i s' t 0 = (yr_many S'.2.1 : Nat) → yt_ns s' t 0 (ye_nl 0 S'.2.1) → ycg R t s s' → K 1 s') : zq_Ex X 43 0 [.ref R, .ref a, .ref t] [] s (zq_rp zq_bo K) := by
  have dRt := yk_Rt hR ht
  have dtx := yk_text ha hR ht
  have dtR := yk_tR ha hR
  refine zw_43 hR ha ht (ys_44 hR ha ht ho hC (by decide) (by decide) hr (fun s' w e1 e2 e3 => ?_) (fun s' S' os' e1 e2 e3 e4 e5 => ?_))
  · rw [if_pos rfl]
    exact kf s' w e1 e2 e3
  · rw [if_neg (by decide)]
    have tsame := yc_t_same (e5.1 a dtx.1).1 (e5.1 (a + 1) dtx.2).1
    obtain ⟨p0, p1⟩ := e3.1
    rw [e2.2.2.2.2.1]
    refine ys_46 ha (tsame.2 ho) p0 p1 ?_
    rw [tsame.1]
    have el : zq_i (zq_si s' R 5 (yp_sk (yc_t s a) S'.1)) a 1 = zq_i s a 1 := by rw [zq_i_si, if_neg (fun z => dtR.1 z.1), (e5.1 a dtx.1).1]
    rw [el]
    have f2 : ycf [R] s' (zq_si s' R 5 (yp_sk (yc_t s a) S'.1)) := ycf.si (by simp)
    have g2 : ycg R t s (zq_si s' R 5 (yp_sk (yc_t s a) S'.1)) := ⟨fun b hb => ⟨(f2.i (by simp at hb ⊢; exact hb.1)).trans (e5.1 b hb).1, (f2.l (by simp at hb ⊢; exact hb.1)).trans (e5.1 b hb).2⟩, fun b hb => by rw [f2.r]; exact e5.2.1 b hb, e5.2.2.1, e5.2.2.2⟩
    have same : ∀ q ∈ yc_t7 t, q ∉ [R] := fun q hq z => by simp at z; exact dRt.1 (by rw [← z]; exact hq)
    split
    · next h => exact kb _ S' e1 h (by rw [zq_i_si, if_pos ⟨rfl, rfl⟩]) g2
    · next h =>
      refine kk _ S' e1 h e3 e4 ?_ ?_ g2
      · rw [f2.i (same t (by simp))]; exact e2.2.2.2.2.2.2.2.1
      · intro i l d hi
        obtain ⟨q1, q2, q3, q4, q5, q6⟩ := e2.2.2.2.2.2.2.2.2.1 i l d hi
        refine ⟨?_, ?_, ?_, fun z => ?_, q5, fun z j hj => ?_⟩
        · rw [f2.i (same (t + 1) (by simp))]; exact q1
        · rw [f2.i (same (t + 2) (by simp))]; exact q2
        · rw [f2.i (same (t + 3) (by simp))]; exact q3
        · rw [f2.i (same (t + 4) (by simp))]; exact q4 z
        · rw [f2.i (same (t + 6) (by simp))]; exact q6 z j hj
end YCR
