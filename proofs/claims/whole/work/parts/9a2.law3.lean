/-! the law's case poke -/
section YL3
variable {X : Nat × (Nat → Int32)}
set_option maxRecDepth 100000 in
/-- a new file on both sides -/
theorem yI.file {s s1 : zq_S} {dr fl fl' : List Int} {ev : Nat → List ye_E} {ct : Nat → List Int} {F t : Nat} {v x c : Int} (hI : yI s (dr, fl, ev, ct, F, t)) (f1 : yf [F, F + 1] s s1) (hx : yx s1 F (fl', v)) (hc : ∀ c ∈ fl', yp_isC c = true) (hrow : ∀ i : Nat, i < fl'.length → (if (i : Int) = x then c else zq_i s 234 i) = fl'.getD i 0) (hl : fl'.length ≤ 999) : yI (zq_si (zq_si (zq_si s1 232 0 0) 234 x c) 232 3 fl'.length) (dr, fl', ev, ct, F, t) := by
  have hF : F = 23 ∨ F = 25 := hI.2.1.1
  obtain ⟨⟨v1, b1⟩, b2, b3, b4, b5, b6, b7, b8⟩ := hI.1
  have b1 : yx s 1 (dr, v1) := b1
  have b3 : zq_i s 232 1 = dr.length := b3
  have b4 : yrow s 233 0 dr := b4
  have e1 : ∀ b, b ≠ F → b ≠ F + 1 → zq_i s1 b = zq_i s b := fun b n1 n2 => f1.i (by simp; exact ⟨n1, n2⟩)
  have ei : ∀ b, b ≠ 234 → b ≠ 232 → zq_i (zq_si (zq_si (zq_si s1 232 0 0) 234 x c) 232 3 fl'.length) b = zq_i s1 b := fun b n1 n2 => by
    funext j
    rw [zq_i_si, if_neg (fun z => n2 z.1), zq_i_si, if_neg (fun z => n1 z.1), zq_i_si, if_neg (fun z => n2 z.1)]
  have e : ∀ j, j ≠ 0 → j ≠ 3 → zq_i (zq_si (zq_si (zq_si s1 232 0 0) 234 x c) 232 3 fl'.length) 232 j = zq_i s 232 j := fun j j0 j3 => by
    rw [zq_i_si, if_neg (fun z => j3 z.2), zq_i_si, if_neg (by simp), zq_i_si, if_neg (fun z => j0 z.2), e1 232 (by omega) (by omega)]
  have k1 : yk2 F s s1 := by
    refine ⟨fun b _ hb _ => e1 b (fun z => hb (by rw [z]; simp)) (fun z => hb (by rw [z]; simp)), fun j _ => by rw [e1 232 (by omega) (by omega)], fun b _ => by rw [f1.r], fun b _ _ => by rw [f1.l]⟩
  have kk : yk2 F s (zq_si (zq_si (zq_si s1 232 0 0) 234 x c) 232 3 fl'.length) := ((k1.si (by omega) (Or.inr ⟨rfl, by decide⟩)).si (by omega) (Or.inl (by simp))).si (by omega) (Or.inr ⟨rfl, by decide⟩)
  refine kk.yI hI rfl ⟨⟨v1, ?_⟩, b2, ?_, ?_, ⟨v, ?_⟩, hc, ?_, fun i hi => ?_⟩ ?_
  · exact b1.cong ((ei 1 (by decide) (by decide)).trans (e1 1 (by omega) (by omega))) ((ei 2 (by decide) (by decide)).trans (e1 2 (by omega) (by omega)))
  · rw [e 1 (by decide) (by decide)]; exact b3
  · exact b4.cong ((ei 233 (by decide) (by decide)).trans (e1 233 (by omega) (by omega)))
  · exact hx.cong (ei F (by omega) (by omega)) (ei (F + 1) (by omega) (by omega))
  · rw [zq_i_at]
  · rw [zq_i_si, if_neg (by simp), zq_i_si, show (0 : Int) + (i : Int) = i by omega]
    rw [← hrow i hi]
    by_cases hix : (i : Int) = x
    · rw [if_pos ⟨rfl, hix⟩, if_pos hix]
    · rw [if_neg (fun z => hix z.2), if_neg hix, zq_i_si, if_neg (by simp), e1 234 (by omega) (by omega)]
  · obtain ⟨g1, g2, g3, g4, g5⟩ := hI.2.2.2.2.2.2.2
    refine ⟨?_, ?_, ?_, ?_, fun o o1 o2 => ?_⟩
    · rw [e 1 (by decide) (by decide)]; exact g1
    · rw [zq_i_at]; omega
    · rw [e 5 (by decide) (by decide)]; exact g3
    · rw [e 23 (by decide) (by decide)]; exact g4
    · rw [ei 240 (by decide) (by decide), e1 240 (by omega) (by omega)]; exact g5 o o1 o2
set_option maxRecDepth 100000 in
theorem yl_506 (hX : X.1 ≤ 1536) : yl_C X 506 := fun s A m v5 v6 h5 h6 hI hm hmX next => by
  obtain ⟨dr, fl, ev, ct, F, t⟩ := A
  have hF : F = 23 ∨ F = 25 := hI.2.1.1
  have hr : zq_r s 0 6 = some F := hI.2.1.2.2.1
  obtain ⟨b1, b2, b3, b4, ⟨v, hx⟩, b6, b7, b8⟩ := hI.1
  have hx : yx s F (fl, v) := hx
  have b6 : ∀ c ∈ fl, yp_isC c = true := b6
  have b7 : zq_i s 232 3 = fl.length := b7
  have b8 : yrow s 234 0 fl := b8
  have oF : zq_o 1 F := by rcases hF with z | z <;> (subst z; decide +kernel)
  have T9 : zq_T F = 999 := by rcases hF with z | z <;> (subst z; decide +kernel)
  have hlen : fl.length ≤ 999 := by have := hx.2.1; rw [T9] at this; exact this
  have hx1 : zq_i s F 1 = fl.length := hx.1
  have hb : (0 : Int) ≤ 3 * (m : Int) + 1 ∧ 3 * (m : Int) + 1 < (X.1 : Int) := ⟨by omega, by omega⟩
  have hb2 : (0 : Int) ≤ 3 * (m : Int) + 2 ∧ 3 * (m : Int) + 2 < (X.1 : Int) := ⟨by omega, by omega⟩
  refine zw_0_506 (by omega) ⟨by omega, by omega⟩ h5 h6 ⟨hb, hb2, ?_⟩
  have hxi := zq_in32 (X.2 (3 * (m : Int) + 1).toNat)
  generalize (X.2 (3 * (m : Int) + 1).toNat).toInt = x at hxi ⊢
  have hci := zq_chm ((X.2 (3 * (m : Int) + 2).toNat).toInt)
  generalize ((X.2 (3 * (m : Int) + 2).toNat).toInt) % 65536 = c at hci ⊢
  have hcv : zq_iv c := zq_ch_in hci
  have hn1 : zq_n s < 1000 := by omega
  have fin : ∀ (ci : Nat) (k : Int), zq_Ex X 141 0 [.ref 232] [] (zq_si (zq_sx s ci) 232 0 k) (zq_rp zq_iv fun x_8 s_7 => (if x_8 = k then zq_Ex X 0 967 [(.ref (zz_SC)), (.ref (0)), (.ref (232)), (.ref (259)), (zq_vi (3 * (m : Int))), (zq_vi k), v6] [] s_7 (zq_rp zq_bo fun x _ => x = 1) else (0 : Int) = 1)) := fun ci k => yl_say0 (X := X) (k := k) h6 ((hI.exc ci).th k) (by rw [zq_n_si, zq_n_sx]; omega) (zq_i_at _ _ _ _) next
  have e7 : ∀ ci, zq_i (zq_sx s ci) 232 3 = fl.length := fun ci => b7
  refine zw_239 hxi hci (zw_125 hxi hci (yl_if (fun hx0 => ⟨hn1, ?_⟩) fun hx0 => ⟨F, hr, yl_if (fun hx2 => ys_40 hcv ?_) (fun hx2 => ⟨hn1, ?_⟩)⟩))
  · rw [if_pos rfl]
    refine ⟨hb, hb2, zw_219 hxi hci ?_⟩
    rw [if_pos hx0]
    exact fin 12 1
  · cases hC : yp_isC c with
    | false =>
      rw [if_pos rfl]
      refine ⟨hn1, ?_⟩
      show _ ∧ _ ∧ _
      refine ⟨hb, hb2, zw_219 hxi hci ?_⟩
      rw [if_neg hx0, if_pos (by rw [e7]; omega)]
      refine ys_143 hcv ?_
      rw [hC, if_pos (show yb false = 0 from rfl)]
      exact fin 10 2
    | true =>
      rw [if_neg (by decide)]
      refine yl_if (fun hx9 => ⟨F, hr, ?_⟩) (fun hx9 => ⟨hn1, ?_⟩)
      · -- the file takes the character
        have ref : ∀ (s1 : zq_S) (fl' : List Int) (v' : Int), yf [F, F + 1] s s1 → yx s1 F (fl', v') → (∀ c ∈ fl', yp_isC c = true) → (∀ i : Nat, i < fl'.length → (if (i : Int) = x then c else zq_i s 234 i) = fl'.getD i 0) → (fl'.length : Int) = (if x = fl.length then (fl.length : Int) + 1 else fl.length) → zq_Ex X 219 0 [.ref 232, zq_vi x, zq_vi c] [] s1 (zq_rv fun s_8 => zq_Ex X 141 0 [.ref 232] [] s_8 (zq_rp zq_iv fun x_8 s_7 => (if x_8 = 0 then zq_Ex X 0 967 [(.ref (zz_SC)), (.ref (0)), (.ref (232)), (.ref (259)), (zq_vi (3 * (m : Int))), (zq_vi 0), v6] [] s_7 (zq_rp zq_bo fun x _ => x = 1) else (0 : Int) = 1))) := fun s1 fl' v' f1 y1 hc1 hrow hl => by
          have e8 : zq_i s1 232 3 = fl.length := by rw [f1.i (by simp; omega)]; exact b7
          have hl9 : fl'.length ≤ 999 := by split at hl <;> omega
          have hn : zq_n (zq_si (zq_si (zq_si s1 232 0 0) 234 x c) 232 3 fl'.length) ≤ m + 1 := by rw [zq_n_si, zq_n_si, zq_n_si, f1.n]; omega
          have key := yl_say0 (X := X) (k := 0) h6 (yI.file hI f1 y1 hc1 hrow hl9) hn (by rw [zq_i_si, if_neg (by decide), zq_i_si, if_neg (by simp), zq_i_at]) next
          refine zw_219 hxi hci ?_
          rw [if_neg hx0, if_pos (by rw [e8]; omega)]
          refine ys_143 hcv ?_
          rw [hC, if_neg (by decide), if_neg (by omega)]
          refine ⟨⟨by omega, hx9⟩, ?_⟩
          rw [e8]
          refine yl_if (fun hxe => ⟨⟨by omega, by omega⟩, ?_⟩) (fun hxe => ?_)
          · rw [if_pos hxe] at hl
            rw [← hl]
            exact key
          · rw [if_neg hxe] at hl
            rw [← hl]
            exact key
        refine zw_126 oF hxi hci ?_
        rw [hx1]
        refine yl_if (fun hxe => ys_19 oF hx hci fun s1 y1 f1 => ⟨hb, hb2, ?_⟩) (fun hxe => ?_)
        · have e9 : yx_p (zq_T F) (fl, v) c = (fl ++ [c], v) := by unfold yx_p; rw [if_pos (by rw [T9]; show fl.length < 999; omega)]
          rw [e9] at y1
          refine ref s1 (fl ++ [c]) v f1 y1 (fun c' hc' => ?_) (fun i hi => ?_) ?_
          · rcases List.mem_append.mp hc' with z | z
            · exact b6 c' z
            · simp at z; rw [z]; exact hC
          · simp at hi
            by_cases hie : (i : Int) = x
            · rw [if_pos hie]
              have : i = fl.length := by omega
              subst this
              simp
            · rw [if_neg hie]
              have e10 := b8 i (by omega)
              rw [show (0 : Int) + (i : Int) = i by omega] at e10
              rw [e10]
              simp [List.getD_eq_getElem?_getD, List.getElem?_append_left (show i < fl.length by omega)]
          · rw [if_pos hxe]; simp
        · rw [if_neg hx0, if_pos (by omega)]
          refine ⟨⟨by omega, by rw [T9]; omega⟩, hb, hb2, ?_⟩
          have f1 : yf [F, F + 1] s (zq_si s (F + 1) x c) := yf.si (by simp)
          have gs : ∀ i : Nat, i < fl.length → (fl.set x.toNat c).getD i 0 = if (i : Int) = x then c else fl.getD i 0 := fun i hi => by
            rw [List.getD_eq_getElem?_getD, List.getElem?_set]
            by_cases hie : (i : Int) = x
            · rw [if_pos hie, if_pos (by omega), if_pos (by omega)]; rfl
            · rw [if_neg hie, if_neg (by omega), List.getD_eq_getElem?_getD]
          refine ref _ (fl.set x.toNat c) v f1 ⟨?_, ?_, ?_, fun i hi => ?_⟩ (fun c' hc' => ?_) (fun i hi => ?_) ?_
          · rw [zq_i_si, if_neg (by simp)]
            show zq_i s F 1 = ((fl.set x.toNat c).length : Nat)
            rw [List.length_set]; exact hx1
          · show (fl.set x.toNat c).length ≤ _
            rw [List.length_set, T9]; exact hlen
          · rw [zq_i_si, if_neg (by simp)]; exact hx.2.2.1
          · have hi : i < (fl.set x.toNat c).length := hi
            rw [List.length_set] at hi
            show zq_i _ (F + 1) i = (fl.set x.toNat c).getD i 0
            rw [zq_i_si, gs i hi]
            by_cases hie : (i : Int) = x
            · rw [if_pos ⟨rfl, hie⟩, if_pos hie]
            · rw [if_neg (fun z => hie z.2), if_neg hie]
              exact hx.2.2.2 i hi
          · rcases List.mem_or_eq_of_mem_set hc' with z | z
            · exact b6 c' z
            · rw [z]; exact hC
          · rw [List.length_set] at hi
            rw [gs i hi]
            have e10 := b8 i hi
            rw [show (0 : Int) + (i : Int) = i by omega] at e10
            rw [e10]
          · rw [List.length_set, if_neg hxe]
      · show _ ∧ _ ∧ _
        refine ⟨hb, hb2, zw_219 hxi hci ?_⟩
        rw [if_neg hx0, if_pos (by rw [e7]; omega)]
        refine ys_143 hcv ?_
        rw [hC, if_neg (by decide), if_pos (by omega)]
        exact fin 10 2
  · rw [if_pos rfl]
    refine ⟨hb, hb2, zw_219 hxi hci ?_⟩
    rw [if_neg hx0, if_neg (by rw [e7]; omega)]
    exact fin 12 1
end YL3
