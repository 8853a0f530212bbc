/-! the class reads: Reader.read -/
section YCW
variable {X : Nat × (Nat → Int32)} {R a t : Nat}
set_option maxRecDepth 100000 in
/-- the reader's place is written -/
theorem ycr.place {s : zq_S} {S : yr_S} {os : List Nat} {p : Int} (hR : zq_o 3 R) (ht : zq_o 4 t) (h : ycr s R a t S os) : ycr (zq_si s R 5 p) R a t (p, S.2.1, S.2.2.1, S.2.2.2) os ∧ ycf (yc_A R t) s (zq_si s R 5 p) := by
  have dRt := yk_Rt hR ht
  obtain ⟨h1, h2, h3, h4, h5, h6, h7, h8, h9, h10⟩ := h
  have f : ycf [R] s (zq_si s R 5 p) := ycf.si (by simp)
  have same : ∀ q ∈ yc_t7 t, q ∉ [R] := fun q hq z => by simp at z; exact dRt.1 (by rw [← z]; exact hq)
  refine ⟨⟨h1, h2, ?_, h4, ?_, h6, fun i o hi => ?_, ?_, ?_, h10⟩, f.mono (by simp)⟩
  · rw [zq_i_si, if_neg (by simp)]; exact h3
  · rw [zq_i_si, if_pos ⟨rfl, rfl⟩]
  · rw [f.i (by simp)]; exact h7 i o hi
  · rw [f.i (same t (by simp))]; exact h8
  · intro i l d hi
    obtain ⟨q1, q2, q3, q4, q5, q6⟩ := h9 i l d hi
    refine ⟨?_, ?_, ?_, fun z => ?_, q5, fun z j hj => ?_⟩
    · rw [f.i (same (t + 1) (by simp))]; exact q1
    · rw [f.i (same (t + 2) (by simp))]; exact q2
    · rw [f.i (same (t + 3) (by simp))]; exact q3
    · rw [f.i (same (t + 4) (by simp))]; exact q4 z
    · rw [f.i (same (t + 6) (by simp))]; exact q6 z j hj
set_option maxRecDepth 100000 in
theorem yr_ok_place {S : yr_S} (h : yr_ok S) {p : Int} (p0 : 0 ≤ p) (p1 : p ≤ 1000) : yr_ok (p, S.2.1, S.2.2.1, S.2.2.2) := ⟨⟨p0, p1⟩, h.2⟩
set_option maxRecDepth 100000 in
theorem yr_sk_sk {T : Int → Int} (hT : yp_T T) {p : Int} (h0 : 0 ≤ p) : yp_sk T (yp_sk T p) = yp_sk T p := by
  have := yp_run_stop (p := yp_sp) hT rfl 2000 p (by omega)
  exact ye_sk0 this
set_option maxRecDepth 100000 in
/-- a step does not see where spaces were -/
theorem yr_step_sk {T : Int → Int} (hT : yp_T T) {S : yr_S} (h0 : 0 ≤ S.1) : yr_step T (yp_sk T S.1, S.2.1, S.2.2.1, S.2.2.2) = yr_step T S := by
  have e : yr_val T (yp_sk T S.1, S.2.1, S.2.2.1, S.2.2.2) = yr_val T S := by
    unfold yr_val
    simp only [yr_sk_sk hT h0]
  unfold yr_step
  simp only [yr_sk_sk hT h0, e]
set_option maxRecDepth 100000 in
theorem ys_44_35 {K : Int → zq_S → Prop} (hR : zq_o 3 R) (ha : zq_o 1 a) (ht : zq_o 4 t) (T : Int → Int) (hC : yp_C T) {x : Int} (hx : zq_iv x) : ∀ (f : Nat) (s : zq_S) (S : yr_S) (os : List Nat) (i : Int), yc_ok s a → yc_t s a = T → ycr s R a t S os → yr_ok S → (S.2.2.1 = [] → S.2.1 = []) → 0 ≤ i → i ≤ S.1 → ∀ r, yr_go T f S = some r →
    (∀ s' w, r = .inr w → zq_i s' R 5 = w → ycf (yc_A R t) s s' → K 0 s') →
    (∀ s' S' os', r = .inl S' → ycr s' R a t S' os' → yr_ok S' → S'.2.2.1 = [] → ycf (yc_A R t) s s' → K 1 s') →
    zq_Ex X 44 35 [.ref R, .ref a, zq_vi x, .ref t, zq_vi i] [] s (zq_rp zq_bo K) := by
  intro f
  induction f with
  | zero => intro s S os i _ _ _ _ _ _ _ r h; cases h
  | succ f ih =>
    intro s S os i ho hT hr hok hfirst i0 i1 r hgo kf kk
    have hTb := ho.T ha
    rw [hT] at hTb
    have dtx := yk_text ha hR ht
    have dRt := yk_Rt hR ht
    obtain ⟨p0, p1⟩ := hok.1
    have hat1 := yp_sk_le (T := T) S.1
    have hat2 := yp_sk_lt hTb p1
    have hl5 := hok.2.2.2.2.1.1
    have hm12 := hok.2.2.2.2.1.2
    have h9 := zq_T_le ha
    have h8 := ho.2.1
    unfold yr_go at hgo
    refine zw_44_35 hR ha hx ht ⟨by omega, by omega⟩ ?_
    by_cases hil : i ≤ zq_i s a 1
    rotate_left
    · -- behind the text: nothing stands there
      rw [if_neg hil]
      have ez : ∀ q, zq_i s a 1 ≤ q → T q = 0 := fun q hq => by rw [← hT]; exact yc_out (by omega)
      have e0 : T S.1 = 0 := ez S.1 (by omega)
      have esk : yp_sk T S.1 = S.1 := ye_sk0 (by rw [e0]; rfl)
      have hkind : yp_kind T S.1 = -1 := by
        have hwd : yp_wd T S.1 = S.1 := by
          have := ye_wd (T := T) (l := []) (p := S.1) (by decide) (ye_at_nil _ _) (fun _ h => by cases h) (by simp [e0]; rfl)
          simpa using this
        unfold yp_kind
        rw [if_neg (by omega), if_neg (by omega), if_neg (by omega), if_neg (by omega), ye_ref_c (by omega), if_neg (by decide), if_neg (fun z => by omega), if_neg (fun z => by omega), if_neg (fun z => by omega), if_neg]
        intro z
        unfold yp_isI yp_from at z
        rw [if_neg (by omega), hwd, Bool.and_eq_true] at z
        have := of_decide_eq_true z.1
        omega
      have hval : yr_val T S = .inr S.1 := by unfold yr_val; rw [esk, if_pos (Or.inl (by rw [hkind]; decide))]
      have hstep : yr_step T S = .inr S.1 := by
        cases hs : S.2.2.1 with
        | nil => rw [yr_step0 hs, hval]
        | cons q st =>
          obtain ⟨k, n, ks⟩ := q
          cases hz : S.2.2.2 with
          | some w => rw [yr_stepk hz, hval]
          | none =>
            have hk : k = 6 ∨ k = 7 := hok.2.2.2.2.2.2.2.1 (k, n, ks) (by rw [hs]; simp)
            rcases hk with h | h
            · subst h
              rw [yr_step6 hs hz, esk, if_neg (by omega), hval]
            · subst h
              rw [yr_step7 hs hz, esk, if_neg (by omega), if_neg (fun z => by have := (of_decide_eq_true z.1).1; omega)]
      rw [hstep] at hgo
      cases hgo
      exact kf s S.1 rfl hr.2.2.2.2.1 (ycf.refl _ _)
    rw [if_pos hil, hr.2.2.2.2.1]
    refine ys_46 ha ho p0 p1 ?_
    rw [hT]
    generalize hat : yp_sk T S.1 = at_ at hat1 hat2
    obtain ⟨hr1, hf1⟩ := hr.place (p := at_) hR ht
    have hok1 := yr_ok_place hok (p := at_) (by omega) hat2
    have tsame := yc_t_same (hf1.i dtx.1) (hf1.i dtx.2)
    have ho1 := tsame.2 ho
    have hT1 : yc_t (zq_si s R 5 at_) a = T := tsame.1.trans hT
    have hstep1 : yr_step T (at_, S.2.1, S.2.2.1, S.2.2.2) = yr_step T S := by rw [← hat]; exact yr_step_sk hTb p0
    have hatat : yp_sk T at_ = at_ := by rw [← hat]; exact yr_sk_sk hTb p0
    -- behind a step that is good
    have good : ∀ (S' : yr_S) (s' : zq_S) (os' : List Nat), yr_step T S = .inl S' → ycr s' R a t S' os' → yr_ok S' → ycf (yc_A R t) s s' → S.1 < S'.1 → (if zq_i s' R 3 = 0 then K 1 s' else zq_Ex X 44 35 [.ref R, .ref a, zq_vi x, .ref t, zq_vi (i + 1)] [] s' (zq_rp zq_bo K)) := fun S' s' os' hstep hr' hok' hf' hpos => by
      rw [hstep] at hgo
      have hgo : (if S'.2.2.1 = [] then some (.inl S') else yr_go T f S') = some r := hgo
      rw [hr'.2.2.1]
      have ts' := yc_t_same (hf'.i dtx.1) (hf'.i dtx.2)
      by_cases hnil : S'.2.2.1 = []
      · rw [if_pos hnil] at hgo
        cases hgo
        rw [if_pos (by rw [hnil]; rfl)]
        exact kk s' S' os' rfl hr' hok' hnil hf'
      · rw [if_neg hnil] at hgo
        have : 1 ≤ S'.2.2.1.length := by
          cases h : S'.2.2.1 with
          | nil => exact absurd h hnil
          | cons _ _ => simp
        rw [if_neg (by omega)]
        exact ih s' S' os' (i + 1) (ts'.2 ho) (ts'.1.trans hT) hr' hok' (fun z => absurd z hnil) (by omega) (by omega) r hgo (fun s'' w e1 e2 e3 => kf s'' w e1 e2 (hf'.trans e3)) (fun s'' S'' os'' e1 e2 e3 e4 e5 => kk s'' S'' os'' e1 e2 e3 e4 (hf'.trans e5))
    -- a value
    have value : yr_step T S = yr_val T S → (∀ n ks st, S.2.2.1 = (7, n, ks) :: st → S.2.2.2 ≠ none) → zq_Ex X 56 0 [.ref R] [] (zq_si s R 5 at_) (zq_rp zq_bo fun x_17 s_16 => (if x_17 = 0 then K 0 s_16 else (if zq_i s_16 R 3 = 0 then K 1 s_16 else zq_Ex X 44 35 [.ref R, .ref a, zq_vi x, .ref t, zq_vi (i + 1)] [] s_16 (zq_rp zq_bo K)))) := fun hstep hd => by
      have hstep2 := hstep
      unfold yr_val at hstep2
      rw [hat] at hstep2
      obtain ⟨q1, q2, q3, q4, q5, q6, q7, q8, q9, q10⟩ := hr1
      refine ys_56 (key := S.2.2.2.getD []) (c := (yr_many S.2.1 : Nat)) (lev := (S.2.2.1.length : Nat)) (k := yp_kind T at_) hR ha ht q1 q2 ho1 q5 (by show (0 : Int) ≤ at_; omega) hat2 q3 (by omega) (by omega) q4 q8 (by omega) (by omega) (by rw [hT1]) (fun h s' e1 e2 => ?_) (fun h s' w1 w2 w3 w4 w5 w6 w7 w8 => ?_)
      · rw [if_pos rfl]
        rw [if_pos (by omega)] at hstep2
        rw [hstep2] at hgo
        cases hgo
        exact kf s' at_ rfl e1 (hf1.trans e2)
      · rw [if_neg (by decide)]
        rw [if_neg (by omega)] at hstep2
        rw [hT1] at w2 w5
        have hk0 : 0 ≤ yp_kind T at_ := by omega
        have hok' := yr_ok_value hTb hC hok (p := at_) (by omega) hat2 rfl hk0 (by omega) (by omega) hd hfirst
        have hend := yr_end_b hTb (p := at_) (by omega) hat2 rfl hk0
        have hkeys : ∀ n ks st', S.2.2.1 = (7, n, ks) :: st' → S.2.2.2.toList = [(yr_nd T (yp_kind T at_) at_ (S.2.2.2.getD [])).2.2.2.1] := fun n ks st' e => by
          cases hz : S.2.2.2 with
          | none => exact absurd hz (hd n ks st' e)
          | some w => rfl
        have hns := yt_ns_add hok.2.1 q9 w3 w2 hok.2.2.1
        have hcount : zq_i s' t 0 = ((yr_many (S.2.1 ++ [.inl (yr_nd T (yp_kind T at_) at_ (S.2.2.2.getD []))]) : Nat) : Int) := by
          rw [w1, yr_many_app]
          rfl
        by_cases hn : yp_kind T at_ = 6 ∨ yp_kind T at_ = 7
        · have epush : yr_push (yp_kind T at_) (yr_part S.2.2.1) = (yp_kind T at_, 0, []) :: yr_part S.2.2.1 := if_pos hn
          rw [epush] at hstep2 hok'
          have hll : (((yp_kind T at_, 0, []) :: yr_part S.2.2.1).length : Nat) = S.2.2.1.length + 1 := by rw [List.length_cons, yr_part_len]
          refine good _ s' (yr_many S.2.1 :: os) hstep2 ⟨by rw [w8.r]; exact q1, by rw [w8.r]; exact q2, ?_, w4, w5, ?_, fun j o hj => ?_, hcount, hns, yr_fr_open q10 hkeys⟩ hok' (hf1.trans w8) (by show S.1 < yr_end T (yp_kind T at_) at_; omega)
          · show zq_i s' R 3 = (((yp_kind T at_, 0, []) :: yr_part S.2.2.1).length : Nat)
            rw [w6, if_pos hn, hll]
            omega
          · show os.length + 1 = ((yp_kind T at_, 0, []) :: yr_part S.2.2.1).length
            rw [hll, q6]
          · show zq_i s' (R + 1) ((((yp_kind T at_, 0, []) :: yr_part S.2.2.1).length : Int) - 1 - j) = (o : Nat)
            rw [w7, hll]
            cases j with
            | zero =>
              simp at hj
              rw [if_pos ⟨hn, by omega⟩, hj]
            | succ j =>
              have hj : os[j]? = some o := by simpa using hj
              rw [if_neg (fun z => by have := z.2; omega)]
              have := q7 j o hj
              rw [show ((S.2.2.1.length + 1 : Nat) : Int) - 1 - ((j + 1 : Nat) : Int) = (S.2.2.1.length : Nat) - 1 - (j : Int) by omega]
              exact this
        · have epush : yr_push (yp_kind T at_) (yr_part S.2.2.1) = yr_part S.2.2.1 := if_neg hn
          rw [epush] at hstep2 hok'
          have hnest : ye_nest (yr_nd T (yp_kind T at_) at_ (S.2.2.2.getD [])) = false := decide_eq_false hn
          refine good _ s' os hstep2 ⟨by rw [w8.r]; exact q1, by rw [w8.r]; exact q2, ?_, w4, w5, ?_, fun j o hj => ?_, hcount, hns, yr_fr_plain q10 hnest hkeys⟩ hok' (hf1.trans w8) (by show S.1 < yr_end T (yp_kind T at_) at_; omega)
          · show zq_i s' R 3 = ((yr_part S.2.2.1).length : Nat)
            rw [w6, if_neg hn, yr_part_len]
          · show os.length = (yr_part S.2.2.1).length
            rw [yr_part_len, q6]
          · show zq_i s' (R + 1) (((yr_part S.2.2.1).length : Int) - 1 - j) = (o : Nat)
            rw [w7, if_neg (fun z => hn z.1), yr_part_len]
            exact q7 j o hj
    refine ys_47 hR ha ht hr1 hok1 ho1 (fun hno => ?_) (fun k n ks st hs hz he => ?_)
    · rw [if_pos rfl]
      rw [hT1] at hno
      refine ys_50 hR ht hr1 hok1 (fun n ks st hs hz => ?_) (fun hnk => ?_)
      · rw [if_neg (by decide)]
        have he := hno 7 n ks st hs hz
        have hs0 : S.2.2.1 = (7, n, ks) :: st := hs
        have hz0 : S.2.2.2 = none := hz
        have hstep := yr_step7 (T := T) hs0 hz0
        rw [hat] at hstep
        have hne : ¬ (T at_ = 62 ∧ T (at_ + 1) = 62) := fun z => by
          have : yc_end T at_ 7 = true := by unfold yc_end; rw [if_neg (by decide)]; exact decide_eq_true z
          have he : yc_end T at_ 7 = false := he
          rw [this] at he
          cases he
        rw [if_neg hne] at hstep
        refine ys_51 hR ha ht hr1 hok1 ho1 hs hz (fun h => ?_) (fun h => ?_)
        · rw [if_pos rfl]
          rw [hT1] at h
          rw [if_neg h] at hstep
          rw [hstep] at hgo
          cases hgo
          exact kf _ at_ rfl hr1.2.2.2.2.1 hf1
        · rw [if_neg (by decide)]
          rw [hT1] at h ⊢
          have h' : yp_isN T at_ = true ∧ yr_name T at_ ∉ ks := h
          rw [if_pos h'] at hstep
          obtain ⟨hw, hnl⟩ := yr_name_ok h'.1
          have p9 := yp_lt hTb (k := at_) (by have := (of_decide_eq_true h'.1).1; omega)
          have n2 := yp_nm_lt hTb (k := at_) (by omega)
          have hok' := yr_ok_key hok hs0 hz0 hw (p := yp_nm T at_) (by omega) n2
          obtain ⟨q1, q2, q3, q4, q5, q6, q7, q8, q9, q10⟩ := hr1
          have f2 : ycf [R] (zq_si s R 5 at_) (zq_si (zq_sl (zq_si s R 5 at_) R 4 (ye_pk (yr_name T at_) 0)) R 5 (yp_nm T at_)) := (ycf.sl (by simp)).trans (ycf.si (by simp))
          have same : ∀ q ∈ yc_t7 t, q ∉ [R] := fun q hq z => by simp at z; exact dRt.1 (by rw [← z]; exact hq)
          refine good _ _ os hstep ⟨q1, q2, ?_, ?_, ?_, ?_, fun j o hj => ?_, ?_, ?_, ?_⟩ hok' (hf1.trans (f2.mono (by simp))) (by show S.1 < yp_nm T at_; omega)
          · rw [zq_i_si, if_neg (by simp), zq_i_sl]
            show zq_i (zq_si s R 5 at_) R 3 = (((7, n, ks ++ [yr_name T at_]) :: st).length : Nat)
            rw [q3]
            show ((S.2.2.1.length : Nat) : Int) = _
            rw [hs0]
            rfl
          · rw [zq_l_si, zq_l_sl, if_pos ⟨rfl, rfl⟩]
            rfl
          · rw [zq_i_si, if_pos ⟨rfl, rfl⟩]
          · show os.length = ((7, n, ks ++ [yr_name T at_]) :: st).length
            rw [q6]
            show S.2.2.1.length = _
            rw [hs0]
            rfl
          · rw [f2.i (by simp)]
            have := q7 j o hj
            show zq_i (zq_si s R 5 at_) (R + 1) ((((7, n, ks ++ [yr_name T at_]) :: st).length : Int) - 1 - j) = (o : Nat)
            rw [← this]
            congr 1
            show _ = ((S.2.2.1.length : Nat) : Int) - 1 - j
            rw [hs0]
            rfl
          · rw [f2.i (same t (by simp))]; exact q8
          · intro j l d hj
            obtain ⟨g1, g2, g3, g4, g5, g6⟩ := q9 j l d hj
            refine ⟨?_, ?_, ?_, fun z => ?_, ?_, fun z j2 hj2 => ?_⟩
            · rw [f2.i (same (t + 1) (by simp))]; exact g1
            · rw [f2.i (same (t + 2) (by simp))]; exact g2
            · rw [f2.i (same (t + 3) (by simp))]; exact g3
            · rw [f2.i (same (t + 4) (by simp))]; exact g4 z
            · rw [f2.l (same (t + 5) (by simp))]; exact g5
            · rw [f2.i (same (t + 6) (by simp))]; exact g6 z j2 hj2
          · have q10 : yr_fr S.2.1 S.2.2.1 S.2.2.2 os := q10
            rw [hs0, hz0] at q10
            exact yr_fr_key q10
      · rw [if_pos rfl]
        -- a value
        have hd : ∀ n ks st, S.2.2.1 = (7, n, ks) :: st → S.2.2.2 ≠ none := hnk
        cases hs : S.2.2.1 with
        | nil => exact value (yr_step0 hs) hd
        | cons q st =>
          obtain ⟨k, n, ks⟩ := q
          cases hz : S.2.2.2 with
          | some w => exact value (yr_stepk hz) hd
          | none =>
            have hk : k = 6 ∨ k = 7 := hok.2.2.2.2.2.2.2.1 (k, n, ks) (by rw [hs]; simp)
            rcases hk with h | h
            · subst h
              have hstep := yr_step6 (T := T) hs hz
              rw [hat] at hstep
              have he : yc_end T at_ 6 = false := hno 6 n ks st hs hz
              have hne : ¬ T at_ = 93 := fun z => by
                have : yc_end T at_ 6 = true := by unfold yc_end; rw [if_pos rfl]; exact decide_eq_true z
                rw [this] at he
                cases he
              rw [if_neg hne] at hstep
              exact value hstep hd
            · subst h
              exact absurd hz (hd n ks st hs)
    · -- closed
      rw [if_neg (by decide)]
      have hs0 : S.2.2.1 = (k, n, ks) :: st := hs
      have hz0 : S.2.2.2 = none := hz
      rw [hT1] at he
      have he : yc_end T at_ k = true := he
      have hk : k = 6 ∨ k = 7 := hok.2.2.2.2.2.2.2.1 (k, n, ks) (by rw [hs0]; simp)
      have hlen : S.2.2.1.length = st.length + 1 := by rw [hs0]; rfl
      have hcl : yr_step T S = .inl (at_ + (if k = 6 then 1 else 2), S.2.1 ++ [.inr k], st, none) ∧ at_ + (if k = 6 then 1 else 2) ≤ 1000 := by
        unfold yc_end at he
        rcases hk with h | h
        · subst h
          rw [if_pos rfl] at he
          have he := of_decide_eq_true he
          have := yp_lt hTb (k := at_) (by omega)
          rw [yr_step6 hs0 hz0, hat, if_pos he, if_pos rfl]
          exact ⟨rfl, by omega⟩
        · subst h
          rw [if_neg (by decide)] at he
          have he := of_decide_eq_true he
          have := yp_lt hTb (k := at_ + 1) (by omega)
          rw [yr_step7 hs0 hz0, hat, if_pos he, if_neg (by decide)]
          exact ⟨rfl, by omega⟩
      have hp2 : at_ + 1 ≤ at_ + (if k = 6 then 1 else 2) := by split <;> omega
      have hok' := yr_ok_close hok hs0 hz0 (p := at_ + (if k = 6 then 1 else 2)) (by omega) hcl.2
      obtain ⟨q1, q2, q3, q4, q5, q6, q7, q8, q9, q10⟩ := hr1
      have q10 : yr_fr S.2.1 S.2.2.1 S.2.2.2 os := q10
      rw [hs0, hz0] at q10
      obtain ⟨o0, os', ho', hfr'⟩ := yr_fr_close q10 hk
      have f2 : ycf [R] (zq_si s R 5 at_) (zq_si (zq_si (zq_si s R 5 at_) R 5 (at_ + (if k = 6 then 1 else 2))) R 3 (st.length : Nat)) := (ycf.si (by simp)).trans (ycf.si (by simp))
      have same : ∀ q ∈ yc_t7 t, q ∉ [R] := fun q hq z => by simp at z; exact dRt.1 (by rw [← z]; exact hq)
      refine good _ _ os' hcl.1 ⟨q1, q2, ?_, ?_, ?_, ?_, fun j o hj => ?_, ?_, ?_, hfr'⟩ hok' (hf1.trans (f2.mono (by simp))) (by show S.1 < at_ + (if k = 6 then 1 else 2); omega)
      · rw [zq_i_si, if_pos ⟨rfl, rfl⟩]
      · rw [zq_l_si, zq_l_si, q4]
        show ye_pk (S.2.2.2.getD []) 0 = _
        rw [hz0]
      · rw [zq_i_si, if_neg (by simp), zq_i_si, if_pos ⟨rfl, rfl⟩]
      · have q6 : os.length = S.2.2.1.length := q6
        rw [ho', hlen] at q6
        simpa using q6
      · rw [f2.i (by simp)]
        have := q7 (j + 1) o (by rw [ho']; simpa using hj)
        rw [← this]
        congr 1
        show ((st.length : Nat) : Int) - 1 - j = ((S.2.2.1.length : Nat) : Int) - 1 - ((j + 1 : Nat) : Int)
        omega
      · rw [f2.i (same t (by simp)), q8]
        show _ = ((yr_many (S.2.1 ++ [.inr k]) : Nat) : Int)
        rw [yr_many_app]
        rfl
      · have e : ye_nl 0 (S.2.1 ++ [.inr k]) = ye_nl 0 S.2.1 := by rw [ye_nl_app _ _ 0 0]; show _ ++ [] = _; rw [List.append_nil]
        show yt_ns _ t 0 (ye_nl 0 (S.2.1 ++ [.inr k]))
        rw [e]
        intro j l d hj
        obtain ⟨g1, g2, g3, g4, g5, g6⟩ := q9 j l d hj
        refine ⟨?_, ?_, ?_, fun z => ?_, g5, fun z j2 hj2 => ?_⟩
        · rw [f2.i (same (t + 1) (by simp))]; exact g1
        · rw [f2.i (same (t + 2) (by simp))]; exact g2
        · rw [f2.i (same (t + 3) (by simp))]; exact g3
        · rw [f2.i (same (t + 4) (by simp))]; exact g4 z
        · rw [f2.i (same (t + 6) (by simp))]; exact g6 z j2 hj2
end YCW
