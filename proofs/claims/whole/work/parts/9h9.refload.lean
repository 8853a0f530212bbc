/-! load: the reference's load -/
def yh_load (T : Int → Int) (n : Int) : (Int × Int) ⊕ (yLt × Int × Int) := match yh_tabs T n with
  | .inl x => .inl x
  | .inr (E, rg) => (match yh_all T E 9 1 with
    | some x => .inl x
    | none => .inr (E, rg))
set_option maxRecDepth 100000 in
theorem yh_all_ok {T : Int → Int} {E : yLt} : ∀ (k o : Nat), yh_all T E k o = none → ∀ o', o ≤ o' → o' < o + k → yh_u E o' ≠ none → ∃ st, yh_end T E o' = .inr st
  | 0, o, h, o', h1, h2, hu => by omega
  | k + 1, o, h, o', h1, h2, hu => by
    have h : (if yh_u E o = none then yh_all T E k (o + 1) else (match yh_end T E o with
      | .inl x => some x
      | .inr _ => yh_all T E k (o + 1))) = none := h
    by_cases hc : yh_u E o = none
    · rw [if_pos hc] at h
      have : o' ≠ o := fun z => hu (by rw [z]; exact hc)
      exact yh_all_ok k (o + 1) h o' (by omega) (by omega) hu
    · rw [if_neg hc] at h
      cases he : yh_end T E o with
      | inl x => rw [he] at h; cases h
      | inr st =>
        rw [he] at h
        by_cases e : o' = o
        · rw [e]; exact ⟨st, he⟩
        · exact yh_all_ok k (o + 1) h o' (by omega) (by omega) hu
/-- the numbers in use, up to one -/
def ypm (E : yLt) : Nat → Nat
  | 0 => 0
  | i + 1 => ypm E i ||| (if yh_u E (i + 1) = none then 0 else 2 ^ (i + 1))
set_option maxRecDepth 100000 in
theorem ypm_bit (E : yLt) : ∀ i n, (ypm E i).testBit n = true → 1 ≤ n ∧ n ≤ i
  | 0, n, h => by
    have h : (0 : Nat).testBit n = true := h
    rw [Nat.zero_testBit] at h
    cases h
  | i + 1, n, h => by
    have h : (ypm E i ||| (if yh_u E (i + 1) = none then 0 else 2 ^ (i + 1))).testBit n = true := h
    rw [Nat.testBit_or, Bool.or_eq_true] at h
    rcases h with h | h
    · have := ypm_bit E i n h
      omega
    · by_cases hu : yh_u E (i + 1) = none
      · rw [if_pos hu, Nat.zero_testBit] at h
        cases h
      · rw [if_neg hu, Nat.testBit_two_pow] at h
        have : i + 1 = n := of_decide_eq_true h
        omega
set_option maxRecDepth 100000 in
theorem ypm_lt (E : yLt) : ∀ i, i ≤ 9 → ypm E i < 1024
  | 0, _ => by show (0 : Nat) < 1024; decide
  | i + 1, h => by
    show ypm E i ||| (if yh_u E (i + 1) = none then 0 else 2 ^ (i + 1)) < 1024
    refine (ybit_or2 (ypm_lt E i (by omega)) ?_).2
    split
    · decide
    · exact (ybit_shl (i + 1) (by omega)).2
set_option maxRecDepth 100000 in
theorem ypm_cnt (E : yLt) (i : Nat) (h : i + 1 ≤ 9) : ybc (ypm E (i + 1)) = ybc (ypm E i) + (if yh_u E (i + 1) = none then 0 else 1) := by
  show ybc (ypm E i ||| (if yh_u E (i + 1) = none then 0 else 2 ^ (i + 1))) = _
  by_cases hu : yh_u E (i + 1) = none
  · rw [if_pos hu, if_pos hu, Nat.or_zero]
    rfl
  · rw [if_neg hu, if_neg hu]
    refine ybit_cnt _ (ypm_lt E i (by omega)) (i + 1) (by omega) ?_
    cases hb : (ypm E i).testBit (i + 1) with
    | false => rfl
    | true =>
      have := ypm_bit E i (i + 1) hb
      omega
/-- objects have been taken -/
def yTK (s S : zq_S) : Prop := (∀ b (j : Int), b ≠ 232 → b ∉ yAo → (b ∈ [237, 238, 239, 240, 242, 243] → j < 1 ∨ 9 < j) → (b = 241 → j < 500) → (b = 244 → j < 12) → zq_i S b j = zq_i s b j) ∧ (∀ j, j ∉ yJo → zq_i S 232 j = zq_i s 232 j) ∧ S.2 = s.2
set_option maxRecDepth 100000 in
theorem yTK.refl (s : zq_S) : yTK s s := ⟨fun _ _ _ _ _ _ _ => rfl, fun _ _ => rfl, rfl⟩
set_option maxRecDepth 100000 in
theorem yTK.step {s S S' : zq_S} {o : Nat} (h : yTK s S) (o1 : 1 ≤ o) (o9 : o ≤ 9) (f : yTk o S S') : yTK s S' := ⟨fun b j a1 a2 a3 a4 a5 => (f.1 b j a1 a2 (fun z => by have := a3 z; omega) (fun z => by have := a4 z; omega) (fun z => by have := a5 z; omega)).trans (h.1 b j a1 a2 a3 a4 a5), fun j hj => (f.2.1 j hj).trans (h.2.1 j hj), f.2.2.trans h.2.2⟩
set_option maxRecDepth 100000 in
theorem yTK.i {s S : zq_S} (h : yTK s S) {b : Nat} (h1 : b ≠ 232) (h2 : b ∉ yAk) : zq_i S b = zq_i s b := by
  funext j
  refine h.1 b j h1 (fun z => h2 ?_) (fun z => absurd ?_ h2) (fun z => absurd ?_ h2) (fun z => absurd ?_ h2)
  · simp at z ⊢; omega
  · simp at z ⊢; omega
  · rw [z]; simp
  · rw [z]; simp
section YLH9
variable {X : Nat × (Nat → Int32)}
set_option maxRecDepth 100000 in
theorem ys_203_59f {S : zq_S} {x1 : Int} (i1 : zq_iv x1) {v4 : Value} (h4 : v4.category = 1) {K : Int → zq_S → Prop} (k : K 0 (zq_si (zq_si (zq_si S 232 0 1) 232 21 (zq_i S 232 43)) 232 22 (zq_i S 232 44))) : ∀ (m o : Nat), o + m = 10 → zq_Ex X 203 59 [.ref 232, zq_vi x1, zq_vi 0, zq_vi (o : Int), v4] [] S (zq_rp zq_iv K)
  | 0, o, ho => by
    refine zw_203_59 i1 (Or.inl rfl) ⟨by omega, by omega⟩ h4 ?_
    rw [if_neg (by omega)]
    exact yl_if (fun _ => yl_if (fun _ => yl_if (fun _ => yl_if (fun _ => k) (fun z => absurd rfl z)) (fun z => absurd rfl z)) (fun z => absurd rfl z)) (fun z => absurd rfl z)
  | m + 1, o, ho => by
    refine zw_203_59 i1 (Or.inl rfl) ⟨by omega, by omega⟩ h4 ?_
    rw [if_pos (by omega), show (o : Int) + 1 = ((o + 1 : Nat) : Int) by omega]
    exact yl_if (fun _ => ys_203_59f i1 h4 k m (o + 1) (by omega)) (fun z => absurd rfl z)
set_option maxRecDepth 100000 in
theorem ys_203_59 {S0 : zq_S} {T : Int → Int} {E : yLt} (hb : yTb T) (hC : yp_C T) (hT : ym_c S0 1 = T) (hL : yRv S0 E) (hE : yLb E) (nl : ym_nm S0 256 yNL) {x1 : Int} (i1 : zq_iv x1) {v4 : Value} (h4 : v4.category = 1) {K : Int → zq_S → Prop} : ∀ (m o : Nat) (S : zq_S), o + m = 10 → 1 ≤ o → ymf yJo yAo S0 S → ym_I S → zq_i S 232 44 = 0 →
    (∀ c q S', yh_all T E m o = some (c, q) → ymf yJo yAo S0 S' → ym_I S' → zq_i S' 232 44 = c → zq_i S' 232 43 = q → K 0 (zq_si (zq_si (zq_si S' 232 0 1) 232 21 q) 232 22 c)) →
    (∀ S', yh_all T E m o = none → ymf yJo yAo S0 S' → ym_I S' → zq_i S' 232 44 = 0 → zq_Ex X 203 158 [.ref 232, zq_vi x1, zq_vi 1, zq_vi 0, zq_vi 1] [] (zq_si (zq_si (zq_si S' 232 0 0) 232 21 (-1)) 232 22 (zq_i S' 232 22)) (zq_rp zq_iv K)) →
    zq_Ex X 203 59 [.ref 232, zq_vi x1, zq_vi 1, zq_vi (o : Int), v4] [] S (zq_rp zq_iv K)
  | 0, o, S, ho, o1, fr, hm, h44, kf, kk => by
    refine zw_203_59 i1 (Or.inr rfl) ⟨by omega, by omega⟩ h4 ?_
    rw [if_neg (by omega)]
    have h10 : ¬ (1 : Int) = 0 := by decide
    exact yl_if (fun z => absurd z h10) (fun _ => yl_if (fun z => absurd z h10) (fun _ => yl_if (fun z => absurd z h10) (fun _ => yl_if (fun z => absurd z h10) (fun _ => kk S rfl fr hm h44))))
  | m + 1, o, S, ho, o1, fr, hm, h44, kf, kk => by
    have o9 : o ≤ 9 := by omega
    have h10 : ¬ (1 : Int) = 0 := by decide
    have e0 : yh_all T E (m + 1) o = if yh_u E o = none then yh_all T E m (o + 1) else (match yh_end T E o with
      | .inl x => some x
      | .inr _ => yh_all T E m (o + 1)) := rfl
    refine zw_203_59 i1 (Or.inr rfl) ⟨by omega, by omega⟩ h4 ?_
    rw [if_pos (by omega), show (o : Int) + 1 = ((o + 1 : Nat) : Int) by omega]
    refine yl_if (fun z => absurd z h10) (fun _ => ⟨⟨by omega, by omega⟩, ?_⟩)
    have c250 : zq_i S 250 = zq_i S0 250 := fr.i (by simp) (by decide)
    have hLo := hL o o1 o9
    cases hu : yh_u E o with
    | none =>
      rw [if_pos hu] at e0
      rw [e0] at kf kk
      rw [if_neg (by rw [c250]; exact hLo.1 hu)]
      exact ys_203_59 hb hC hT hL hE nl i1 h4 m (o + 1) S (by omega) (by omega) fr hm h44 kf kk
    | some pg =>
      obtain ⟨p, g⟩ := pg
      rw [if_neg (by rw [hu]; simp)] at e0
      rw [if_pos (by rw [c250]; exact (hLo.2.1 p g hu).1)]
      have hTS : ym_c S 1 = T := by rw [fr.c1 (by simp) (by simp)]; exact hT
      have hLS : yRv S E := hL.cong c250 (fr.i (by simp) (by decide)) (fr.i (by simp) (by decide))
      refine ys_211 hb hC hTS hLS hE o1 o9 hu hm h44 (nl.fr fr (by decide) (by decide)) (fun c q S1 e f1 hm1 c1 c2 => ?_) (fun st q es S1 e hv f1 hm1 h441 _ _ => ?_)
      · rw [if_pos rfl]
        rw [e] at e0
        have := kf c q S1 e0 (fr.trans f1) hm1 c1 c2
        rw [← c1, ← c2] at this
        exact ys_203_59f i1 h4 this m (o + 1) (by omega)
      · rw [if_neg (by decide)]
        rw [e] at e0
        have e0 : yh_all T E (m + 1) o = yh_all T E m (o + 1) := e0
        rw [e0] at kf kk
        exact ys_203_59 hb hC hT hL hE nl i1 h4 m (o + 1) S1 (by omega) (by omega) (fr.trans f1) hm1 h441 kf kk
set_option maxRecDepth 100000 in
theorem ys_203_158 {S0 : zq_S} {T : Int → Int} {E : yLt} (hb : yTb T) (hC : yp_C T) (hT : ym_c S0 1 = T) (hL : yRv S0 E) (hE : yLb E) (nl : ym_nm S0 256 yNL) (hall : yh_all T E 9 1 = none) {x1 : Int} (i1 : zq_iv x1) {K : Int → zq_S → Prop} (k : ∀ S', yTK S0 S' → ym_I S' → (∀ o : Nat, 1 ≤ o → o ≤ 9 → yTo S' T E o) → K (ybc (ypm E 9) : Nat) (zq_si (zq_si (zq_si S' 232 17 (zq_i S0 232 41)) 232 18 (zq_i S0 232 42)) 232 19 (-1))) : ∀ (m o : Nat) (S : zq_S), o + m = 10 → 1 ≤ o → yTK S0 S → ym_I S → zq_i S 232 44 = 0 → (∀ o' : Nat, 1 ≤ o' → o' < o → yTo S T E o') → zq_Ex X 203 158 [.ref 232, zq_vi x1, zq_vi 1, zq_vi (ybc (ypm E (o - 1)) : Nat), zq_vi (o : Int)] [] S (zq_rp zq_iv K)
  | 0, o, S, ho, o1, fr, hm, h44, hO => by
    have hbc := ybit_le _ (ypm_lt E (o - 1) (by omega)) (by
      cases hb' : (ypm E (o - 1)).testBit 0 with
      | false => rfl
      | true => have := ypm_bit E _ 0 hb'; omega)
    refine zw_203_158 i1 (Or.inr rfl) ⟨by omega, by omega⟩ ⟨by omega, by omega⟩ ?_
    rw [if_neg (by omega)]
    have he : o - 1 = 9 := by omega
    rw [he, fr.2.1 41 (by simp), fr.2.1 42 (by simp)]
    exact k S fr hm (fun o' p1 p9 => hO o' p1 (by omega))
  | m + 1, o, S, ho, o1, fr, hm, h44, hO => by
    have o9 : o ≤ 9 := by omega
    have hbc := ybit_le _ (ypm_lt E (o - 1) (by omega)) (by
      cases hb' : (ypm E (o - 1)).testBit 0 with
      | false => rfl
      | true => have := ypm_bit E _ 0 hb'; omega)
    have hTS : ym_c S 1 = T := by
      rw [← hT]
      funext i
      unfold ym_c
      rw [fr.2.1 3 (by simp), fr.i (b := 234) (by decide) (by decide)]
      rfl
    have hLS : yRv S E := hL.cong (fr.i (by decide) (by decide)) (fr.i (by decide) (by decide)) (fr.i (by decide) (by decide))
    have nlS : ym_nm S 256 yNL := by
      unfold ym_nm
      rw [fr.i (b := 256) (by decide) (by decide)]
      exact nl
    refine zw_203_158 i1 (Or.inr rfl) ⟨by omega, by omega⟩ ⟨by omega, by omega⟩ ?_
    rw [if_pos (by omega), show (o : Int) + 1 = ((o + 1 : Nat) : Int) by omega]
    refine ys_216 hb hC hTS hLS hE o1 o9 hm h44 nlS (fun hu => yh_all_ok 9 1 hall o o1 (by omega) hu) (fun S1 f1 hm1 h441 hT1 => ⟨⟨by omega, by omega⟩, ?_⟩)
    have hlen : ∀ o' : Nat, (∀ q es, yh_V T E o' = some (q, es) → (ye_pr true es).length ≤ 500) → yTo S T E o' → o' ≠ o → yTo S1 T E o' := fun o' hl h hne => h.cong hl (yh_c_len (fun n he => (yh_end_n he).2)) hne f1
    have hnext : ∀ o' : Nat, 1 ≤ o' → o' < o + 1 → yTo S1 T E o' := fun o' p1 p9 => by
      by_cases e : o' = o
      · rw [e]; exact hT1
      · refine hlen o' (fun q es hv => ?_) (hO o' p1 (by omega)) e
        obtain ⟨_, _, _, a4⟩ := hO o' p1 (by omega)
        by_cases hu : yh_u E o' = none
        · unfold yh_V at hv
          rw [hu] at hv
          cases hv
        · obtain ⟨st, q2, es2, b1, b2, b3, _⟩ := a4 hu
          rw [hv] at b2
          have : es = es2 := congrArg Prod.snd (Option.some.inj b2)
          have h5 := hm.2.2.2.2 o' (by omega) (by omega)
          rw [this]
          omega
    have hcnt := ypm_cnt E (o - 1) (by omega)
    rw [show o - 1 + 1 = o by omega] at hcnt
    have hrec := fun (x : Int) (hx : x = (ybc (ypm E o) : Nat)) => (by
      have := ys_203_158 hb hC hT hL hE nl hall i1 k m (o + 1) S1 (by omega) (by omega) (fr.step o1 o9 f1) hm1 h441 hnext
      rw [show o + 1 - 1 = o by omega, ← hx] at this
      exact this : zq_Ex X 203 158 [.ref 232, zq_vi x1, zq_vi 1, zq_vi x, zq_vi ((o + 1 : Nat) : Int)] [] S1 (zq_rp zq_iv K))
    rw [hT1.1]
    by_cases hu : yh_u E o = none
    · rw [if_pos hu] at hcnt
      rw [if_pos (by rw [if_pos hu])]
      exact hrec _ (by omega)
    · rw [if_neg hu] at hcnt
      rw [if_neg (by rw [if_neg hu]; decide)]
      exact hrec _ (by omega)
set_option maxRecDepth 100000 in
theorem ys_203_7 {S0 : zq_S} {K : Int → zq_S → Prop} (k : ∀ S1, ymf [44] [250, 252] S0 S1 → zq_i S1 232 44 = zq_i S0 232 44 → (∀ i : Nat, i < 10 → zq_i S1 250 i = 0 ∧ zq_i S1 252 i = 0) → zq_Ex X 191 0 [(.ref (232)), zz_no, zz_no, zz_no, zz_no] [] S1 (zq_rp zq_iv fun x_3 s_2 => (if x_3 < 0 then (zq_Ex X 206 0 [(.ref (232)), (zq_vi (1)), (zq_vi (0))] [] s_2 (zq_rp zq_bo fun x_7 s_6 => zq_Ex X 203 59 [(.ref (232)), (zq_vi (x_3)), (zq_vi (x_7)), (zq_vi (1)), zz_no] [] s_6 (zq_rp zq_iv K))) else (zq_Ex X 204 0 [(.ref (232)), (zq_vi (x_3)), zz_no, zz_no] [] s_2 (zq_rp zq_bo fun x_10 s_9 => zq_Ex X 203 59 [(.ref (232)), (zq_vi (x_3)), (zq_vi (x_10)), (zq_vi (1)), zz_no] [] s_9 (zq_rp zq_iv K)))))) : ∀ (m i : Nat) (S : zq_S), i + m = 10 → ymf [44] [250, 252] S0 S → zq_i S 232 44 = zq_i S0 232 44 → (∀ j : Nat, j < i → zq_i S 250 j = 0 ∧ zq_i S 252 j = 0) → zq_Ex X 203 7 [.ref 232, zq_vi (i : Int), zz_no, zz_no, zz_no] [] S (zq_rp zq_iv K)
  | 0, i, S, hi, fr, h44, h0 => by
    refine zw_203_7 ⟨by omega, by omega⟩ rfl rfl rfl ?_
    rw [if_neg (by omega)]
    exact k S fr h44 (fun j hj => h0 j (by omega))
  | m + 1, i, S, hi, fr, h44, h0 => by
    refine zw_203_7 ⟨by omega, by omega⟩ rfl rfl rfl ?_
    rw [if_pos (by omega), show (i : Int) + 1 = ((i + 1 : Nat) : Int) by omega]
    refine ⟨⟨by omega, by omega⟩, ⟨by omega, by omega⟩, ys_203_7 k m (i + 1) _ (by omega) (fr.trans ((ymf.si (by simp) (by decide)).trans (ymf.si (by simp) (by decide)))) (by rw [zq_i_si, if_neg (by simp), zq_i_si, if_neg (by simp)]; exact h44) (fun j hj => ?_)⟩
    rw [zq_i_si, if_neg (by simp), zq_i_si, zq_i_si]
    by_cases e : j = i
    · rw [if_pos ⟨rfl, by rw [e]⟩, if_pos ⟨rfl, by rw [e]⟩]
      exact ⟨rfl, rfl⟩
    · rw [if_neg (fun z => e (by have := z.2; omega)), if_neg (fun z => e (by have := z.2; omega)), zq_i_si, if_neg (by simp)]
      exact h0 j (by omega)
set_option maxRecDepth 100000 in
theorem ys_203 {C : zq_S} {T : Int → Int} {n : Int} (hb : yTb T) (hC : yp_C T) (hT : ym_c C 1 = T) (hn : zq_i C 232 3 = n) (n0 : 0 ≤ n) (hm : ym_I C) (nl : ym_nm C 256 yNL) (n7 : ym_nm C 257 yNR) (n8 : ym_nm C 258 yNP) {K : Int → zq_S → Prop}
    (kf : ∀ c q S', yh_load T n = .inl (c, q) → ymf yJl yAl C S' → ym_I S' → K 0 (zq_si (zq_si (zq_si S' 232 0 1) 232 21 q) 232 22 c))
    (kk : ∀ E r g S1 S2 S', yh_load T n = .inr (E, r, g) → yh_all T E 9 1 = none → yLb E → ymf yJl yAl C S1 → S2 = (zq_si (zq_si (zq_si S1 232 0 0) 232 21 (-1)) 232 22 (zq_i S1 232 22)) → yTK S2 S' → ym_I S' → (∀ o : Nat, 1 ≤ o → o ≤ 9 → yTo S' T E o) → K (ybc (ypm E 9) : Nat) (zq_si (zq_si (zq_si S' 232 17 r) 232 18 g) 232 19 (-1))) : zq_Ex X 203 0 [.ref 232, zz_no, zz_no, zz_no, zz_no] [] C (zq_rp zq_iv K) := by
  have n9 : n ≤ 999 := by rw [← hn]; exact hm.2.1
  have f0 : ymf [44] [250, 252] C (zq_si C 232 44 0) := ymf.sf (by simp)
  refine zw_203 (ys_203_7 (fun S1 f1 h44' h0 => ?_) 10 0 _ rfl (ymf.refl _ _ _) rfl (fun j hj => by omega))
  have h44 : zq_i S1 232 44 = 0 := by rw [h44', zq_i_si, if_pos ⟨rfl, rfl⟩]
  have fr1 : ymf yJl yAl C S1 := (f0.trans f1).mono (by simp) (by simp)
  have hm1 : ym_I S1 := hm.cong (fun j hj => (f0.trans f1).f (by simp at hj ⊢; omega)) ((f0.trans f1).i (by simp) (by decide))
  have hT1 : ym_c S1 1 = T := by rw [fr1.c1 (by simp) (by simp)]; exact hT
  have hn1 : zq_i S1 232 3 = n := by rw [fr1.f (by simp)]; exact hn
  have htb := yp_tl_b (T := T) (n - 7)
  refine ys_191 hm1 (by omega) ?_
  rw [hT1, hn1]
  have etab : yh_tabs T n = if yp_tl T (n - 7) = -1 then .inl (1, 0) else (match yl_ch T n 999 (yp_tl T (n - 7)) [] (fun _ => none) none with
    | .inl q => .inl (2, q)
    | .inr x => .inr x) := rfl
  have elo : ∀ v, yh_tabs T n = v → yh_load T n = (match v with
    | .inl x => .inl x
    | .inr (E, rg) => (match yh_all T E 9 1 with
      | some x => .inl x
      | none => .inr (E, rg))) := fun v hv => by unfold yh_load; rw [hv]
  -- a fault of the tables
  have flt : ∀ (S2 : zq_S) (x1 c q : Int), zq_iv x1 → yh_tabs T n = .inl (c, q) → ymf yJl yAl C S2 → ym_I S2 → zq_i S2 232 44 = c → zq_i S2 232 43 = q → zq_Ex X 203 59 [(.ref (232)), (zq_vi x1), (zq_vi (0)), (zq_vi (1)), zz_no] [] S2 (zq_rp zq_iv K) := fun S2 x1 c q i1 e f2 hm2 c1 c2 => by
    have := kf c q S2 (elo _ e) f2 hm2
    rw [← c1, ← c2] at this
    exact ys_203_59f i1 rfl this 9 1 rfl
  refine yl_if (fun ht => ?_) (fun ht => ?_)
  · refine ys_206 ⟨by decide, by decide⟩ ⟨by decide, by decide⟩ h44 (fun S2 g2 c1 c2 => ?_)
    rw [if_pos (by omega)] at etab
    exact flt S2 _ 1 0 ⟨by omega, by omega⟩ etab (fr1.trans (g2.mono (by simp) (by simp))) (hm1.cong (fun j hj => g2.f (by simp at hj ⊢; omega)) (g2.i (by simp) (by decide))) c1 c2
  · rw [if_neg (by omega)] at etab
    refine ys_204 hb hC hT1 hn1 n9 (n7.fr fr1 (by decide) (by decide)) (n8.fr fr1 (by decide) (by decide)) (by omega) (by omega) hm1 (fun o o1 o9 => h0 o (by omega)) h44 (fun q S2 e f2 hm2 c1 c2 => ?_) (fun E r g S2 e f2 hm2 hL2 h442 hr hg => ?_)
    · rw [e] at etab
      exact flt S2 _ 2 q ⟨by omega, by omega⟩ etab (fr1.trans f2) hm2 c1 c2
    · rw [e] at etab
      have etab : yh_tabs T n = .inr (E, r, g) := etab
      have hE := yh_tabs_b etab
      have el := elo _ etab
      have el : yh_load T n = (match yh_all T E 9 1 with
        | some x => .inl x
        | none => .inr (E, r, g)) := el
      have fr2 := fr1.trans f2
      have hT2 : ym_c S2 1 = T := by rw [fr2.c1 (by simp) (by simp)]; exact hT
      have nl2 : ym_nm S2 256 yNL := nl.fr fr2 (by decide) (by decide)
      refine ys_203_59 hb hC hT2 hL2.rv hE nl2 ⟨by omega, by omega⟩ rfl 9 1 S2 rfl (by decide) (ymf.refl _ _ _) hm2 h442 (fun c q S3 ea f3 hm3 c1 c2 => ?_) (fun S3 ea f3 hm3 h443 => ?_)
      · rw [ea] at el
        exact kf c q S3 el (fr2.trans (f3.mono (by simp) (by simp))) hm3
      · rw [ea] at el
        have fr3 : ymf yJl yAl C S3 := fr2.trans (f3.mono (by simp) (by simp))
        have i3 : ∀ b, b ≠ 232 → zq_i (zq_si (zq_si (zq_si S3 232 0 0) 232 21 (-1)) 232 22 (zq_i S3 232 22)) b = zq_i S3 b := fun b hb' => by
          funext j
          rw [zq_i_si, if_neg (fun z => hb' z.1), zq_i_si, if_neg (fun z => hb' z.1), zq_i_si, if_neg (fun z => hb' z.1)]
        have j3 : ∀ j, j ≠ 0 → j ≠ 21 → j ≠ 22 → zq_i (zq_si (zq_si (zq_si S3 232 0 0) 232 21 (-1)) 232 22 (zq_i S3 232 22)) 232 j = zq_i S3 232 j := fun j a b c => by
          rw [zq_i_si, if_neg (fun z => c z.2), zq_i_si, if_neg (fun z => b z.2), zq_i_si, if_neg (fun z => a z.2)]
        have hT3 : ym_c S3 1 = T := by rw [f3.c1 (by simp) (by simp)]; exact hT2
        have hL3 : yRv S3 E := hL2.rv.cong (f3.i (by simp) (by decide)) (f3.i (by simp) (by decide)) (f3.i (by simp) (by decide))
        have h41 : zq_i (zq_si (zq_si (zq_si S3 232 0 0) 232 21 (-1)) 232 22 (zq_i S3 232 22)) 232 41 = r := by rw [j3 41 (by decide) (by decide) (by decide), f3.f (by simp)]; exact hr
        have h42 : zq_i (zq_si (zq_si (zq_si S3 232 0 0) 232 21 (-1)) 232 22 (zq_i S3 232 22)) 232 42 = g := by rw [j3 42 (by decide) (by decide) (by decide), f3.f (by simp)]; exact hg
        have hmf : ym_I (zq_si (zq_si (zq_si S3 232 0 0) 232 21 (-1)) 232 22 (zq_i S3 232 22)) := hm3.cong (fun j hj => j3 j (by simp at hj; omega) (by simp at hj; omega) (by simp at hj; omega)) (i3 240 (by decide))
        have main := ys_203_158 (X := X) (S0 := (zq_si (zq_si (zq_si S3 232 0 0) 232 21 (-1)) 232 22 (zq_i S3 232 22))) (T := T) (E := E) hb hC (by
          rw [← hT3]
          funext i
          unfold ym_c
          rw [j3 3 (by decide) (by decide) (by decide), i3 234 (by decide)]
          rfl) (hL3.cong (i3 250 (by decide)) (i3 251 (by decide)) (i3 252 (by decide))) hE (by
          unfold ym_nm
          rw [i3 256 (by decide), f3.i (b := 256) (by simp) (by decide)]
          exact nl2) ea (x1 := yp_tl T (n - 7)) ⟨by omega, by omega⟩ (K := K) (fun S' hTK hm' hO => by
          rw [h41, h42]
          exact kk E r g S3 _ S' el ea hE fr3 rfl hTK hm' hO) 9 1 (zq_si (zq_si (zq_si S3 232 0 0) 232 21 (-1)) 232 22 (zq_i S3 232 22)) rfl (by decide) (yTK.refl _) hmf (by rw [j3 44 (by decide) (by decide) (by decide)]; exact h443) (fun o' p1 p9 => by omega)
        have ez : ybc (ypm E (1 - 1)) = 0 := by
          show ybc 0 = 0
          decide +kernel
        rw [ez] at main
        exact main
end YLH9
