/-! load: the reference takes entries -/
def yTb (T : Int → Int) : Prop := (∀ j, 0 ≤ T j ∧ T j ≤ 126) ∧ (∀ j, T j ≠ 0 → 0 ≤ j ∧ j < 999)
/-- the reference's entries -/
def yLr (S : zq_S) (E : yLt) : Prop := ∀ o : Nat, 1 ≤ o → o ≤ 9 → match E o with
  | none => zq_i S 250 o = 0 ∧ zq_i S 252 o = 0
  | some e => zq_i S 250 o = (if e.1 = true then 2 else 1) ∧ zq_i S 251 o = e.2.1 ∧ zq_i S 252 o = e.2.2
set_option maxRecDepth 100000 in
theorem yLr.cong {s S : zq_S} {E : yLt} (h : yLr s E) (h1 : zq_i S 250 = zq_i s 250) (h2 : zq_i S 251 = zq_i s 251) (h3 : zq_i S 252 = zq_i s 252) : yLr S E := fun o o1 o9 => by
  rw [h1, h2, h3]
  exact h o o1 o9
section YLF6
variable {X : Nat × (Nat → Int32)}
set_option maxRecDepth 100000 in
theorem ys_209 {S : zq_S} {o : Nat} {T : Int → Int} {E : yLt} {p : Int} (hb : yTb T) (hmI : ym_I S) (hT : ym_c S 1 = T) (hpos : zq_i S 232 25 = p) (p0 : 0 ≤ p ∧ p ≤ 2000) (o1 : 1 ≤ o) (o9 : o ≤ 9) (hL : yLr S E) {K : Int → zq_S → Prop} (k0 : yl_en T p = false → K 0 S) (k1 : yl_en T p = true → ∀ S', ymf [25] [250, 251, 252] S S' → zq_i S' 232 25 = p + 8 → yLr S' (yl_put T o p E) → K 1 S') : zq_Ex X 209 0 [.ref 232, zq_vi (o : Int), zz_no, zz_no, zz_no] [] S (zq_rp zq_bo K) := by
  have hq : ym_q 1 := ⟨by decide, by decide, Or.inl (by decide)⟩
  have o0 : (0 : Int) ≤ (o : Int) ∧ (o : Int) < 10 := ⟨by omega, by omega⟩
  have iv : ∀ j, zq_iv (T j) := fun j => by have := hb.1 j; exact ⟨by omega, by omega⟩
  have no : ¬ (yl_en T p = true) → K 0 S := fun h => k0 (by cases e : yl_en T p with
    | true => exact absurd e h
    | false => rfl)
  refine zw_209 ⟨by omega, by omega⟩ ?_
  rw [hpos]
  refine ys_147 hmI hq ⟨by omega, by omega⟩ ?_
  rw [hT]
  refine ys_155 (iv _) ?_
  cases d0 : yp_dg (T p) with
  | false =>
    rw [if_pos (show yb false = 0 from rfl)]
    refine ys_147 hmI hq ⟨by omega, by omega⟩ (no (fun z => ?_))
    have := (yl_en_iff.mp z).1
    rw [← yp_dg_iff, d0] at this
    cases this
  | true =>
  rw [if_neg (show ¬ yb true = 0 by decide)]
  refine ys_147 hmI hq ⟨by omega, by omega⟩ ?_
  rw [hT, hpos]
  refine ys_155 (iv _) ?_
  cases d1 : yp_dg (T (p + 1)) with
  | false =>
    rw [if_pos (show yb false = 0 from rfl)]
    refine ys_147 hmI hq ⟨by omega, by omega⟩ (no (fun z => ?_))
    have := (yl_en_iff.mp z).2.1
    rw [← yp_dg_iff, d1] at this
    cases this
  | true =>
  rw [if_neg (show ¬ yb true = 0 by decide)]
  refine ys_147 hmI hq ⟨by omega, by omega⟩ ?_
  rw [hT, hpos]
  refine ys_155 (iv _) ?_
  cases d2 : yp_dg (T (p + 2)) with
  | false =>
    rw [if_pos (show yb false = 0 from rfl)]
    refine ys_147 hmI hq ⟨by omega, by omega⟩ (no (fun z => ?_))
    have := (yl_en_iff.mp z).2.2.1
    rw [← yp_dg_iff, d2] at this
    cases this
  | true =>
  rw [if_neg (show ¬ yb true = 0 by decide)]
  have d0 := yp_dg_iff.mp d0
  have d1 := yp_dg_iff.mp d1
  have d2 := yp_dg_iff.mp d2
  have hlt := hb.2 (p + 2) (by omega)
  refine ys_147 hmI hq ⟨by omega, by omega⟩ (ys_147 hmI hq ⟨by omega, by omega⟩ ?_)
  rw [hT, hpos]
  refine yl_if (fun d3 => ?_) (fun d3 => no (fun z => d3 (yl_en_iff.mp z).2.2.2.1))
  refine ys_147 hmI hq ⟨by omega, by omega⟩ ?_
  rw [hT]
  refine ys_155 (iv _) ?_
  cases d4 : yp_dg (T (p + 4)) with
  | false =>
    rw [if_pos (show yb false = 0 from rfl)]
    refine no (fun z => ?_)
    have := (yl_en_iff.mp z).2.2.2.2.1
    rw [← yp_dg_iff, d4] at this
    cases this
  | true =>
  rw [if_neg (show ¬ yb true = 0 by decide)]
  have d4 := yp_dg_iff.mp d4
  refine ys_147 hmI hq ⟨by omega, by omega⟩ ?_
  rw [hT, hpos]
  refine yl_if (fun d5 => ?_) (fun d5 => no (fun z => d5 (yl_en_iff.mp z).2.2.2.2.2.1))
  have tail : (T (p + 6) = 110 ∨ T (p + 6) = 102) → zq_Ex X 209 133 [(.ref (232)), (zq_vi (o : Int)), (zq_vi (1)), (zq_vi (T (p + 6))), zz_no] [] S (zq_rp zq_bo K) := fun d6 => by
    refine zw_209_133 ⟨by omega, by omega⟩ (Or.inr rfl) ⟨by omega, by omega⟩ rfl ?_
    rw [hpos]
    refine ys_147 hmI hq ⟨by omega, by omega⟩ ?_
    rw [hT]
    refine yl_if (fun d7 => ?_) (fun d7 => no (fun z => d7 (yl_en_iff.mp z).2.2.2.2.2.2.2))
    have hen : yl_en T p = true := yl_en_iff.mpr ⟨d0, d1, d2, d3, d4, d5, d6, d7⟩
    have k1 := k1 hen
    have hfr : yp_from T p = p := by unfold yp_from; rw [if_neg (by omega)]
    have hall : yp_all T 3 p = true := by
      show (yp_dg (T p) && (yp_dg (T (p + 1)) && (yp_dg (T (p + 1 + 1)) && true))) = true
      rw [show p + 1 + 1 = p + 2 by omega, yp_dg_iff.mpr d0, yp_dg_iff.mpr d1, yp_dg_iff.mpr d2]
      rfl
    have hisI : yp_isI T p (p + 3) = true := by
      unfold yp_isI
      rw [hfr, show (p + 3 - p).toNat = 3 by omega, hall, Bool.and_true]
      exact decide_eq_true ⟨by omega, by omega⟩
    have hnum : yp_num T p (p + 3) = yp_val T 3 p 0 := by
      unfold yp_num
      rw [if_neg (by omega), show (p + 3 - p).toNat = 3 by omega]
    rw [hpos]
    refine ys_167 hmI hq (by omega) (by omega) (by omega) (by rw [hT]; exact hisI) ?_
    rw [hT, hnum]
    refine ⟨o0, ?_⟩
    have hLo := hL o o1 o9
    have put : ∀ v : Int, E o = none → v = (if decide (T (p + 6) = 110) = true then 2 else 1) → (zq_Ex X 147 0 [(.ref (232)), (zq_vi (1)), (zq_vi ((zq_i S (232) (25)) + 4))] [] (zq_si (zq_si S (250) (o : Int) v) (251) (o : Int) (yp_val T 3 p 0)) (zq_rp zq_ch fun x_31 s_30 => (((0 : Int) ≤ (o : Int) ∧ (o : Int) < (10 : Int)) ∧ (zq_iv (x_31 - 48) ∧ (zq_iv ((zq_i s_30 (232) (25)) + 8) ∧ K (1) (zq_si (zq_si s_30 (252) (o : Int) (x_31 - 48)) (232) (25) ((zq_i s_30 (232) (25)) + 8))))))) := fun v hE hv => by
      have f2 : ymf [25] [250, 251, 252] S (zq_si (zq_si S (250) (o : Int) v) (251) (o : Int) (yp_val T 3 p 0)) := (ymf.si (by simp) (by decide)).trans (ymf.si (by simp) (by decide))
      have hm2 : ym_I (zq_si (zq_si S (250) (o : Int) v) (251) (o : Int) (yp_val T 3 p 0)) := hmI.cong (fun j hj => f2.f (by simp at hj ⊢; omega)) (f2.i (by simp) (by decide))
      have hT2 : ym_c (zq_si (zq_si S (250) (o : Int) v) (251) (o : Int) (yp_val T 3 p 0)) 1 = T := by rw [f2.c (by decide) (by decide) (by decide)]; exact hT
      have hp2 : zq_i (zq_si (zq_si S (250) (o : Int) v) (251) (o : Int) (yp_val T 3 p 0)) 232 25 = p := by rw [zq_i_si, if_neg (by simp), zq_i_si, if_neg (by simp)]; exact hpos
      rw [hpos]
      refine ys_147 hm2 hq ⟨by omega, by omega⟩ ?_
      rw [hT2, hp2]
      refine ⟨o0, ⟨by omega, by omega⟩, ⟨by omega, by omega⟩, k1 _ (f2.trans ((ymf.si (by simp) (by decide)).trans (ymf.sf (by simp)))) (by rw [zq_i_si, if_pos ⟨rfl, rfl⟩]) (fun i i1 i9 => ?_)⟩
      by_cases e : i = o
      · subst e
        have ep : yl_put T i p E i = some (yl_es T p) := by
          unfold yl_put
          rw [if_pos ⟨rfl, hE⟩]
        rw [ep]
        refine ⟨?_, ?_, ?_⟩
        · rw [zq_i_si, if_neg (by simp), zq_i_si, if_neg (by simp), zq_i_si, if_neg (by simp), zq_i_si, if_pos ⟨rfl, rfl⟩]
          exact hv
        · rw [zq_i_si, if_neg (by simp), zq_i_si, if_neg (by simp), zq_i_si, if_pos ⟨rfl, rfl⟩]
          rfl
        · rw [zq_i_si, if_neg (by simp), zq_i_si, if_pos ⟨rfl, rfl⟩]
          rfl
      · have ep : yl_put T o p E i = E i := by
          unfold yl_put
          rw [if_neg (fun z => e z.1)]
        rw [ep]
        have q : ∀ b : Nat, b ≠ 232 → zq_i (zq_si (zq_si (zq_si (zq_si S (250) (o : Int) v) (251) (o : Int) (yp_val T 3 p 0)) (252) (o : Int) (T (p + 4) - 48)) 232 25 (p + 8)) b i = zq_i S b i := fun b hb2 => by
          have ne : ((i : Int) : Int) ≠ (o : Int) := by omega
          rw [zq_i_si, if_neg (fun z => hb2 z.1), zq_i_si, if_neg (fun z => ne z.2), zq_i_si, if_neg (fun z => ne z.2), zq_i_si, if_neg (fun z => ne z.2)]
        rw [q 250 (by decide), q 251 (by decide), q 252 (by decide)]
        exact hL i i1 i9
    cases hE : E o with
    | none =>
      rw [hE] at hLo
      rw [hLo.1, if_pos rfl]
      refine yl_if (fun hz => ⟨o0, o0, put 2 hE ?_⟩) (fun hz => ⟨o0, o0, put 1 hE ?_⟩)
      · rw [decide_eq_true hz]; rfl
      · rw [decide_eq_false hz]; rfl
    | some e =>
      rw [hE] at hLo
      have hLo : zq_i S 250 o = (if e.1 = true then 2 else 1) ∧ _ := hLo
      rw [hLo.1, if_neg (by split <;> decide), hpos]
      have ep : yl_put T o p E = E := by
        funext i
        unfold yl_put
        rw [if_neg (fun z => by rw [hE] at z; cases z.2)]
      refine ⟨⟨by omega, by omega⟩, k1 _ (ymf.sf (by simp)) (by rw [zq_i_si, if_pos ⟨rfl, rfl⟩]) ?_⟩
      rw [ep]
      refine hL.cong ?_ ?_ ?_
      · funext j; rw [zq_i_si, if_neg (by simp)]
      · funext j; rw [zq_i_si, if_neg (by simp)]
      · funext j; rw [zq_i_si, if_neg (by simp)]
  refine yl_if (fun d6 => tail (Or.inl d6)) (fun d6 => yl_if (fun d6' => tail (Or.inr d6')) (fun d6' => no (fun z => (yl_en_iff.mp z).2.2.2.2.2.2.1.elim d6 d6')))
end YLF6
