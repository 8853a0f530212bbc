/-! load: the reference's scratch -/
section YLG0
variable {X : Nat × (Nat → Int32)}
set_option maxRecDepth 100000 in
theorem ys_210 {S : zq_S} (hc : zq_i S 232 23 ≤ 500) {K : zq_S → Prop} (k : ∀ S', ymf [5] [235] S S' → zq_i S' 232 5 = zq_i S 232 23 → (∀ i : Nat, (i : Int) < zq_i S 232 23 → zq_i S' 235 i = zq_i S 245 i) → K S') : zq_Ex X 210 0 [.ref 232, zz_no] [] S (zq_rv K) := by
  have loop : ∀ (m i : Nat) (S' : zq_S), i + m = (zq_i S 232 23).toNat → ymf [5] [235] S S' → zq_i S' 232 5 = zq_i S 232 5 → (∀ j : Nat, j < i → zq_i S' 235 j = zq_i S 245 j) → zq_Ex X 210 2 [.ref 232, zq_vi (i : Int)] [] S' (zq_rv K) := by
    intro m
    induction m with
    | zero =>
      intro i S' hi fr h5 hj
      refine zw_210_2 ⟨by omega, by omega⟩ ?_
      rw [fr.f (j := 23) (by simp), if_neg (by omega)]
      refine k _ (fr.trans (ymf.sf (by simp))) (by rw [zq_i_si, if_pos ⟨rfl, rfl⟩]) (fun j hj2 => ?_)
      rw [zq_i_si, if_neg (by simp)]
      exact hj j (by omega)
    | succ m ih =>
      intro i S' hi fr h5 hj
      refine zw_210_2 ⟨by omega, by omega⟩ ?_
      rw [fr.f (j := 23) (by simp), if_pos (by omega), if_pos (by omega), fr.i (b := 245) (by simp) (by decide), show (i : Int) + 1 = ((i + 1 : Nat) : Int) by omega]
      refine ⟨⟨by omega, by omega⟩, ⟨by omega, by omega⟩, ih (i + 1) _ (by omega) (fr.trans (ymf.si (by simp) (by decide))) (by rw [zq_i_si, if_neg (by simp)]; exact h5) (fun j hj2 => ?_)⟩
      rw [zq_i_si]
      by_cases e : j = i
      · rw [e, if_pos ⟨rfl, rfl⟩]
      · rw [if_neg (fun z => e (by have := z.2; omega))]
        exact hj j (by omega)
  exact zw_210 (loop (zq_i S 232 23).toNat 0 S (by omega) (ymf.refl _ _ _) rfl (fun j hj => by omega))
set_option maxRecDepth 100000 in
/-- the scratch shows a value -/
theorem ysc_su {s : zq_S} {es : List ye_E} (h1 : zq_i s 232 5 = (ye_pr true es).length) (h2 : ∀ i : Nat, i < (ye_pr true es).length → zq_i s 235 i = (ye_pr true es).getD i 0) : ye_su (ym_c s 2) 0 true es := by
  intro i hi
  simp at hi
  have e : ym_c s 2 (0 + i) = if (i : Int) < zq_i s 232 5 then zq_i s 235 i else 0 := by
    unfold ym_c
    rw [show (0 : Int) + (i : Int) = i by omega, if_neg (by omega), if_neg (by decide), if_neg (by decide), if_pos rfl]
  rw [e, h1]
  by_cases hlt : i < (ye_pr true es).length
  · rw [if_pos (by omega), h2 i hlt]
    simp [List.getD_eq_getElem?_getD, List.getElem?_append_left hlt]
  · rw [if_neg (by omega)]
    have : i = (ye_pr true es).length := by omega
    rw [this]
    simp
set_option maxRecDepth 100000 in
theorem ysc_T6 {s : zq_S} (h : zq_i s 232 5 ≤ 500) : yp_T6 (ym_c s 2) := fun j hj => by
  unfold ym_c
  rw [if_neg (by omega), if_neg (by decide), if_neg (by decide), if_pos rfl, if_neg (by omega)]
end YLG0
