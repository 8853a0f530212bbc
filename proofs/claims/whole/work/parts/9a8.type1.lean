/-! type, on both sides -/
set_option maxRecDepth 100000 in
theorem zq_si_si (s : zq_S) (a : Nat) (j x y : Int) : zq_si (zq_si s a j x) a j y = zq_si s a j y := by
  have e : zq_up (zq_up s.1 a j x) a j y = zq_up s.1 a j y := by
    funext b k
    unfold zq_up
    by_cases h : b = a ∧ k = j
    · rw [if_pos h, if_pos h]
    · rw [if_neg h, if_neg h, if_neg h]
  show (zq_up (zq_up s.1 a j x) a j y, s.2) = (zq_up s.1 a j y, s.2)
  rw [e]
set_option maxRecDepth 100000 in
theorem ytb_get (y : Int64) : ∀ (k i j : Nat), j < (ytb y k i).length → (ytb y k i).getD j 0 = ytb1 y (i + j)
  | 0, _, _, h => by simp [ytb] at h
  | k + 1, i, j, h => by
    unfold ytb at h ⊢
    by_cases z : ytb1 y i = 0
    · rw [if_pos z] at h; simp at h
    · rw [if_neg z] at h ⊢
      cases j with
      | zero => simp
      | succ j =>
        simp at h
        rw [List.getD_cons_succ, ytb_get y k (i + 1) j h, show i + 1 + j = i + (j + 1) by omega]
section YL8
variable {X : Nat × (Nat → Int32)} {y : Int64}
set_option maxRecDepth 100000 in
/-- the class's look at each byte -/
theorem ys_38_8 {s : zq_S} {K : Int → zq_S → Prop} {T : Nat → zq_S → Prop} {n : Nat} (hn8 : n ≤ 8) (hn : zq_n s < 1000) (kb : (∃ j, j < n ∧ yp_isC (ytb1 y j) = false) → T 10 (zq_sx s 10)) (kg : (∀ j, j < n → yp_isC (ytb1 y j) = true) → (zq_iv ((zq_i s (1) (1)) + (n : Int)) ∧ (if (zq_i s (1) (1)) + (n : Int) ≤ 100 then (zq_Ex X 20 0 [(.ref (1)), (.long y), zz_no, zz_no] [] s (zq_rv fun s_5 => K (zq_i s_5 (1) (1)) s_5)) else (zq_n s < 1000 ∧ T 10 (zq_sx s 10))))) : ∀ (k i : Nat), i + k = n → (∀ j, j < i → yp_isC (ytb1 y j) = true) → zq_Ex X 38 8 [.ref 0, .long y, zz_no, zq_vi n, zq_vi i] [] s (zq_rx (zq_rp zq_iv K) T)
  | 0, i, hi, ho => by
    refine zw_38_8 ⟨by omega, by omega⟩ ⟨by omega, by omega⟩ ?_
    rw [if_neg (by omega)]
    exact kg (fun j hj => ho j (by omega))
  | k + 1, i, hi, ho => by
    have hr := ytb1_r y i
    refine zw_38_8 ⟨by omega, by omega⟩ ⟨by omega, by omega⟩ ?_
    rw [if_pos (by omega)]
    refine ys_21y (by omega) (ys_40 ⟨by omega, by omega⟩ ?_)
    cases hC : yp_isC (ytb1 y i) with
    | false =>
      rw [if_pos (show yb false = 0 from rfl)]
      exact ⟨hn, kb ⟨i, by omega, hC⟩⟩
    | true =>
      rw [if_neg (by decide)]
      refine ys_38_8 hn8 hn kb kg k (i + 1) (by omega) fun j hj => ?_
      by_cases e : j = i
      · rw [e]; exact hC
      · exact ho j (by omega)
set_option maxRecDepth 100000 in
/-- the reference's look at each byte -/
theorem ys_142_10 {s : zq_S} {K : Int → zq_S → Prop} : ∀ (k i : Nat) (th : Int) (v : Value), zq_bo th → v.category = 1 → i + k = 8 → (∀ (x4 : Int) (v' : Value), zq_iv x4 → v'.category = 1 → zq_Ex X 142 81 [.ref 232, .long y, zz_no, zq_vi ((i + (ytb y k i).length : Nat) : Int), zq_vi x4, v'] [] (zq_si s 232 0 (if (ytb y k i).all yp_isC = true then th else 1)) (zq_rp zq_iv K)) → zq_Ex X 142 10 [.ref 232, .long y, zz_no, zq_vi i, zq_vi i, v] [] (zq_si s 232 0 th) (zq_rp zq_iv K)
  | 0, i, th, v, ht, hv, hi, h => by
    refine zw_142_10 ⟨by omega, by omega⟩ ⟨by omega, by omega⟩ hv ?_
    rw [if_neg (by omega)]
    have := h i v ⟨by omega, by omega⟩ hv
    simpa [ytb] using this
  | k + 1, i, th, v, ht, hv, hi, h => by
    have hr := ytb1_r y i
    refine zw_142_10 ⟨by omega, by omega⟩ ⟨by omega, by omega⟩ hv ?_
    rw [if_pos (by omega), if_pos rfl, yk_byte2 y i (by omega)]
    unfold ytb at h
    have self : zq_si (zq_si s 232 0 th) 232 0 (zq_i (zq_si s 232 0 th) 232 0) = zq_si s 232 0 th := zq_si_self _ _ _
    by_cases z : ytb1 y i = 0
    · rw [if_pos z, if_pos z, self]
      rw [if_pos z] at h
      refine zw_142_10 ⟨by omega, by omega⟩ ⟨by omega, by omega⟩ rfl ?_
      have h1 := h ((i : Int) + 1) (zq_vi (ytb1 y i)) ⟨by omega, by omega⟩ rfl
      have h1 : zq_Ex X 142 81 [.ref 232, .long y, zz_no, zq_vi i, zq_vi ((i : Int) + 1), zq_vi (ytb1 y i)] [] (zq_si s 232 0 th) (zq_rp zq_iv K) := by simpa using h1
      exact yl_if (fun _ => yl_if (fun w => by omega) (fun _ => h1)) (fun _ => h1)
    · rw [if_neg z]
      rw [if_neg z] at h
      refine ys_143 ⟨by omega, by omega⟩ ?_
      have e1 : ((i : Int) + 1) = ((i + 1 : Nat) : Int) := by omega
      have e2 : i + (ytb1 y i :: ytb y k (i + 1)).length = i + 1 + (ytb y k (i + 1)).length := by simp; omega
      rw [e2] at h
      rw [e1]
      cases hC : yp_isC (ytb1 y i) with
      | false =>
        rw [if_pos (show yb false = 0 from rfl), if_neg z, zq_si_si]
        refine ys_142_10 k (i + 1) 1 _ (Or.inr rfl) rfl (by omega) fun x4 v' g1 g2 => ?_
        have := h x4 v' g1 g2
        rw [if_neg (by simp [hC])] at this
        rw [ite_self]
        exact this
      | true =>
        rw [if_neg (by decide), if_neg z, self]
        refine ys_142_10 k (i + 1) th _ ht rfl (by omega) fun x4 v' g1 g2 => ?_
        have := h x4 v' g1 g2
        rw [List.all_cons, hC, Bool.true_and] at this
        exact this
end YL8
