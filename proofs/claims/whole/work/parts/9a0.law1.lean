/-! the law's cases: at, fault, size, character, state -/
set_option maxRecDepth 100000 in
theorem ym_I.th {s : zq_S} (h : ym_I s) (x : Int) : ym_I (zq_si s 232 0 x) := by
  obtain ⟨h1, h2, h3, h4, h5⟩ := h
  refine ⟨?_, ?_, ?_, ?_, fun o o1 o2 => ?_⟩
  · rw [zq_i_si, if_neg (by decide)]; exact h1
  · rw [zq_i_si, if_neg (by decide)]; exact h2
  · rw [zq_i_si, if_neg (by decide)]; exact h3
  · rw [zq_i_si, if_neg (by decide)]; exact h4
  · rw [zq_i_si, if_neg (fun z => absurd z.1 (by decide))]; exact h5 o o1 o2
set_option maxRecDepth 100000 in
theorem yI.th {s : zq_S} {A : yA} (h : yI s A) (x : Int) : yI (zq_si s 232 0 x) A := yk.yI (F := A.2.2.2.2.1) h rfl ⟨fun b _ hb => (by
  funext j
  rw [zq_i_si, if_neg (fun z => hb z.1)]), fun j hj => (by
  rw [zq_i_si, if_neg (fun z => by have := z.2; subst this; exact absurd hj (by decide))]), fun _ _ => rfl, fun _ _ _ => rfl⟩ (h.2.2.2.2.2.2.2.th x)
set_option maxRecDepth 100000 in
theorem yI.out {s : zq_S} {A : yA} (h : yI s A) (x : Int64) : yI (zq_sl s 259 0 x) A := yk.yI (F := A.2.2.2.2.1) h rfl ⟨fun _ _ _ => rfl, fun _ _ => rfl, fun _ _ => rfl, fun b _ hb => (by
  funext j
  rw [zq_l_sl, if_neg (fun z => hb z.1)])⟩ h.2.2.2.2.2.2.2
set_option maxRecDepth 100000 in
theorem yI.exc {s : zq_S} {A : yA} (h : yI s A) (c : Nat) : yI (zq_sx s c) A := yk.yI (F := A.2.2.2.2.1) h rfl ⟨fun _ _ _ => rfl, fun _ _ => rfl, fun _ _ => rfl, fun _ _ _ => rfl⟩ h.2.2.2.2.2.2.2
section YL1
variable {X : Nat × (Nat → Int32)}
set_option maxRecDepth 100000 in
theorem yl_480 (hX : X.1 ≤ 1536) : yl_C X 480 := fun s A m v5 v6 h5 h6 hI hm hmX next => zw_0_480 ⟨by omega, by omega⟩ h5 h6 (zw_11 (zw_217 (by
  rw [if_pos hI.2.1.2.2.2.2.2.2.1]
  exact next _ A v5 v6 h5 h6 (hI.th 0) (by rw [zq_n_si]; omega))))
set_option maxRecDepth 100000 in
theorem yl_493 (hX : X.1 ≤ 1536) : yl_C X 493 := fun s A m v5 v6 h5 h6 hI hm hmX next => zw_0_493 ⟨by omega, by omega⟩ h5 h6 (zw_12 (zw_218 (by
  rw [if_pos hI.2.1.2.2.2.2.2.2.2.1]
  exact next _ A v5 v6 h5 h6 (hI.th 0) (by rw [zq_n_si]; omega))))
set_option maxRecDepth 100000 in
theorem yl_592 (hX : X.1 ≤ 1536) : yl_C X 592 := fun s A m v5 v6 h5 h6 hI hm hmX next => zw_0_592 ⟨by omega, by omega⟩ h5 h6 (zw_13 ⟨A.2.2.2.2.1, hI.2.1.2.2.1, zw_221 (by
  obtain ⟨v, hx⟩ := hI.1.2.2.2.2.1
  rw [if_pos (hx.1.trans hI.1.2.2.2.2.2.2.1.symm)]
  exact next _ A v5 v6 h5 h6 (hI.th 0) (by rw [zq_n_si]; omega))⟩)
set_option maxRecDepth 100000 in
/-- the answers are told alike -/
theorem yl_say {s : zq_S} {A : yA} {m : Nat} {k b : Int} {y : Int64} (hI : yI s A) (hm : zq_n s ≤ m + 1) (hk : zq_i s 232 0 = k) (hy : k = 0 → zq_l s 259 0 = (Int32.ofInt b).toInt64) (next : ∀ s' A' v5' v6', v5'.category = 1 → v6'.category = 1 → yI s' A' → zq_n s' ≤ m + 1 → zq_Ex X 0 967 (yL m v5' v6') [] s' yE) : zq_Ex X 141 0 [.ref 232] [] s (zq_rp zq_iv fun x_10 s_9 => (if x_10 = k then (if k = 0 then (if (zq_l s_9 (259) (0)) = ((Int32.ofInt b).toInt64) then zq_Ex X 0 967 [(.ref (zz_SC)), (.ref (0)), (.ref (232)), (.ref (259)), (zq_vi (3 * (m : Int))), (zq_vi k), (zq_vi b)] [] s_9 (zq_rp zq_bo fun x _ => x = 1) else (0 : Int) = 1) else zq_Ex X 0 967 [(.ref (zz_SC)), (.ref (0)), (.ref (232)), (.ref (259)), (zq_vi (3 * (m : Int))), (zq_vi k), (zq_vi b)] [] s_9 (zq_rp zq_bo fun x _ => x = 1)) else (0 : Int) = 1)) := zw_141 (by
  rw [if_pos hk]
  refine yl_if (fun z => ?_) (fun _ => next s A _ _ rfl rfl hI hm)
  rw [if_pos (hy z)]
  exact next s A _ _ rfl rfl hI hm)
set_option maxRecDepth 100000 in
theorem yl_605 (hX : X.1 ≤ 1536) : yl_C X 605 := fun s A m v5 v6 h5 h6 hI hm hmX next => by
  obtain ⟨dr, fl, ev, ct, F, t⟩ := A
  have hF : F = 23 ∨ F = 25 := hI.2.1.1
  have hr : zq_r s 0 6 = some F := hI.2.1.2.2.1
  obtain ⟨v, hx⟩ := hI.1.2.2.2.2.1
  have hx : yx s F (fl, v) := hx
  have h3 : zq_i s 232 3 = fl.length := hI.1.2.2.2.2.2.2.1
  have hrow : yrow s 234 0 fl := hI.1.2.2.2.2.2.2.2
  have oF : zq_o 1 F := by rcases hF with z | z <;> (subst z; decide +kernel)
  have T9 : zq_T F = 999 := by rcases hF with z | z <;> (subst z; decide +kernel)
  have hlen := hx.2.1
  rw [T9] at hlen
  have hlen : fl.length ≤ 999 := hlen
  have hx1 : zq_i s F 1 = fl.length := hx.1
  have hb : (0 : Int) ≤ 3 * (m : Int) + 1 ∧ 3 * (m : Int) + 1 < (X.1 : Int) := ⟨by omega, by omega⟩
  refine zw_0_605 (by omega) ⟨by omega, by omega⟩ h5 h6 ⟨hb, ?_⟩
  have hxi := zq_in32 (X.2 (3 * (m : Int) + 1).toNat)
  generalize (X.2 (3 * (m : Int) + 1).toNat).toInt = x at hxi ⊢
  have bad : ¬ (0 ≤ x ∧ x < fl.length) → zq_n (zq_sx s 12) ≤ m + 1 → zq_Ex X 222 0 [.ref 232, zq_vi x] [] (zq_sx s 12) (zq_rp zq_iv fun x_7 s_6 => zq_Ex X 141 0 [.ref 232] [] s_6 (zq_rp zq_iv fun x_10 s_9 => (if x_10 = 1 then (if (1 : Int) = 0 then (if (zq_l s_9 (259) (0)) = ((Int32.ofInt x_7).toInt64) then zq_Ex X 0 967 [(.ref (zz_SC)), (.ref (0)), (.ref (232)), (.ref (259)), (zq_vi (3 * (m : Int))), (zq_vi 1), (zq_vi x_7)] [] s_9 (zq_rp zq_bo fun x _ => x = 1) else (0 : Int) = 1) else zq_Ex X 0 967 [(.ref (zz_SC)), (.ref (0)), (.ref (232)), (.ref (259)), (zq_vi (3 * (m : Int))), (zq_vi 1), (zq_vi x_7)] [] s_9 (zq_rp zq_bo fun x _ => x = 1)) else (0 : Int) = 1))) := fun hn hm2 => by
    have fin : ∀ b : Int, zq_Ex X 141 0 [.ref 232] [] (zq_si (zq_sx s 12) 232 0 1) (zq_rp zq_iv fun x_10 s_9 => (if x_10 = 1 then (if (1 : Int) = 0 then (if (zq_l s_9 (259) (0)) = ((Int32.ofInt b).toInt64) then zq_Ex X 0 967 [(.ref (zz_SC)), (.ref (0)), (.ref (232)), (.ref (259)), (zq_vi (3 * (m : Int))), (zq_vi 1), (zq_vi b)] [] s_9 (zq_rp zq_bo fun x _ => x = 1) else (0 : Int) = 1) else zq_Ex X 0 967 [(.ref (zz_SC)), (.ref (0)), (.ref (232)), (.ref (259)), (zq_vi (3 * (m : Int))), (zq_vi 1), (zq_vi b)] [] s_9 (zq_rp zq_bo fun x _ => x = 1)) else (0 : Int) = 1)) := fun b => yl_say (y := 0) ((hI.exc 12).th 1) hm2 (zq_i_at _ _ _ _) (fun z => absurd z (by decide)) next
    refine zw_222 hxi (yl_if (fun _ => fin 0) fun hx0 => yl_if (fun hx2 => ?_) (fun _ => fin 0))
    exfalso
    have : zq_i (zq_sx s 12) 232 3 = fl.length := h3
    omega
  have hn1 : zq_n s < 1000 := by omega
  have hm2 : zq_n (zq_sx s 12) ≤ m + 1 := by rw [zq_n_sx]; omega
  refine zw_241 hxi zf_k259 (zw_128 hxi (yl_if (fun hx0 => ⟨hn1, ?_⟩) fun hx0 => ⟨F, hr, yl_if (fun hx2 => ?_) (fun hx2 => ⟨hn1, ?_⟩)⟩))
  · rw [if_pos rfl]
    exact ⟨hb, bad (by omega) hm2⟩
  · refine zw_29 oF hxi (yl_if (fun z => absurd z hx0) fun _ => yl_if (fun _ => ⟨⟨by omega, by rw [T9]; omega⟩, ?_⟩) (fun z => absurd hx2 z))
    refine ⟨⟨by decide, by decide⟩, hb, zw_222 hxi (yl_if (fun z => absurd z hx0) fun _ => yl_if (fun hx3 => ⟨⟨by omega, by omega⟩, ?_⟩) (fun z => ?_))⟩
    · refine yl_say (y := 0) ((hI.out _).th 0) (by rw [zq_n_si]; show zq_n s ≤ m + 1; omega) (zq_i_at _ _ _ _) (fun _ => ?_) next
      rw [zq_l_si, zq_l_sl, if_pos ⟨rfl, rfl⟩]
      have e1 := hx.2.2.2 x.toNat (by show x.toNat < fl.length; omega)
      have e2 := hrow x.toNat (by omega)
      rw [show ((x.toNat : Nat) : Int) = x by omega] at e1
      rw [show (0 : Int) + ((x.toNat : Nat) : Int) = x by omega] at e2
      rw [e1, zq_i_sl, e2]
    · exfalso
      rw [zq_i_sl, h3] at z
      omega
  · rw [if_pos rfl]
    exact ⟨hb, bad (by omega) hm2⟩
set_option maxRecDepth 100000 in
/-- Table.slot -/
theorem yl_661 (hX : X.1 ≤ 1536) : yl_C X 661 := fun s A m v5 v6 h5 h6 hI hm hmX next => by
  obtain ⟨dr, fl, ev, ct, F, t⟩ := A
  have ht : t = 27 ∨ t = 126 := hI.2.1.2.1
  have hr : zq_r s 0 8 = some t := hI.2.1.2.2.2.2.1
  have ot : zq_o 8 t := by rcases ht with z | z <;> (subst z; decide +kernel)
  have htab : yI_tab s t ev ct := hI.2.2.2.1
  have hb : (0 : Int) ≤ 3 * (m : Int) + 1 ∧ 3 * (m : Int) + 1 < (X.1 : Int) := ⟨by omega, by omega⟩
  refine zw_0_661 (by omega) ⟨by omega, by omega⟩ h5 h6 ⟨hb, ?_⟩
  have hxi := zq_in32 (X.2 (3 * (m : Int) + 1).toNat)
  generalize (X.2 (3 * (m : Int) + 1).toNat).toInt = x at hxi ⊢
  have hn1 : zq_n s < 1000 := by omega
  have hm2 : zq_n (zq_sx s 12) ≤ m + 1 := by rw [zq_n_sx]; omega
  have fin : ∀ b : Int, zq_Ex X 141 0 [.ref 232] [] (zq_si (zq_sx s 12) 232 0 1) (zq_rp zq_iv fun x_10 s_9 => (if x_10 = 1 then (if (1 : Int) = 0 then (if (zq_l s_9 (259) (0)) = ((Int32.ofInt b).toInt64) then zq_Ex X 0 967 [(.ref (zz_SC)), (.ref (0)), (.ref (232)), (.ref (259)), (zq_vi (3 * (m : Int))), (zq_vi 1), (zq_vi b)] [] s_9 (zq_rp zq_bo fun x _ => x = 1) else (0 : Int) = 1) else zq_Ex X 0 967 [(.ref (zz_SC)), (.ref (0)), (.ref (232)), (.ref (259)), (zq_vi (3 * (m : Int))), (zq_vi 1), (zq_vi b)] [] s_9 (zq_rp zq_bo fun x _ => x = 1)) else (0 : Int) = 1)) := fun b => yl_say (y := 0) ((hI.exc 12).th 1) hm2 (zq_i_at _ _ _ _) (fun z => absurd z (by decide)) next
  refine zw_242 hxi zf_k259 (zw_129 hxi ⟨t, hr, zw_42 ot hxi (yl_if (fun hx1 => ⟨fun _ => ⟨hn1, ?_⟩, fun b hb => (by cases hb)⟩) fun hx1 => yl_if (fun hx9 => ⟨⟨by omega, by omega⟩, fun z => (by cases z), fun b hbb => ?_⟩) (fun hx9 => ⟨fun _ => ⟨hn1, ?_⟩, fun b hb => (by cases hb)⟩))⟩)
  · rw [if_pos rfl]
    exact ⟨hb, zw_223 hxi (yl_if (fun _ => fin 0) fun z => absurd hx1 z)⟩
  · have hbb : t + 1 + 8 + 10 * (x - 1).toNat = b := Option.some.inj hbb
    obtain ⟨o, ho⟩ : ∃ o : Nat, x = o := ⟨x.toNat, by omega⟩
    subst ho
    have hsl : b = ysl t o := by unfold ysl; omega
    subst hsl
    obtain ⟨d1, d2, d3, d4, d5, _⟩ := htab o (by omega) (by omega)
    have good : ∀ b : Int, zq_Ex X 141 0 [.ref 232] [] (zq_si (zq_sl s 259 0 (Int32.ofInt b).toInt64) 232 0 0) (zq_rp zq_iv fun x_10 s_9 => (if x_10 = 0 then (if (0 : Int) = 0 then (if (zq_l s_9 (259) (0)) = ((Int32.ofInt b).toInt64) then zq_Ex X 0 967 [(.ref (zz_SC)), (.ref (0)), (.ref (232)), (.ref (259)), (zq_vi (3 * (m : Int))), (zq_vi 0), (zq_vi b)] [] s_9 (zq_rp zq_bo fun x _ => x = 1) else (0 : Int) = 1) else zq_Ex X 0 967 [(.ref (zz_SC)), (.ref (0)), (.ref (232)), (.ref (259)), (zq_vi (3 * (m : Int))), (zq_vi 0), (zq_vi b)] [] s_9 (zq_rp zq_bo fun x _ => x = 1)) else (0 : Int) = 1)) := fun b => yl_say (y := 0) ((hI.out _).th 0) (by rw [zq_n_si]; show zq_n s ≤ m + 1; omega) (zq_i_at _ _ _ _) (fun _ => by rw [zq_l_si, zq_l_sl, if_pos ⟨rfl, rfl⟩]) next
    have ro : (0 : Int) ≤ (o : Int) ∧ (o : Int) < 10 := ⟨by omega, by omega⟩
    refine yl_if (fun hc => yl_if (fun hu => ⟨⟨by omega, by omega⟩, ⟨by decide, by decide⟩, hb, ?_⟩) fun hu => ⟨⟨by omega, by omega⟩, ⟨by decide, by decide⟩, hb, ?_⟩) (fun hc => yl_if (fun hu => ⟨⟨by omega, by omega⟩, ⟨by decide, by decide⟩, hb, ?_⟩) fun hu => ⟨⟨by omega, by omega⟩, ⟨by decide, by decide⟩, hb, ?_⟩)
    all_goals
      rw [d2] at hu
      rw [d3] at hc
      rw [d4] at d5 ⊢
      refine zw_223 ⟨by omega, by omega⟩ ?_
      rw [zq_i_sl, if_neg (by omega), if_pos (by omega)]
      refine ⟨ro, ro, ?_⟩
    · rw [if_pos hc]
      refine ⟨ro, ?_⟩
      rw [if_pos hu]
      exact ⟨⟨by omega, by omega⟩, good _⟩
    · rw [if_pos hc]
      refine ⟨ro, ?_⟩
      rw [if_neg hu]
      exact ⟨⟨by omega, by omega⟩, good _⟩
    · rw [if_neg hc]
      refine ⟨ro, ?_⟩
      rw [if_pos hu]
      exact ⟨⟨by omega, by omega⟩, good _⟩
    · rw [if_neg hc]
      refine ⟨ro, ?_⟩
      rw [if_neg hu]
      exact ⟨⟨by omega, by omega⟩, good _⟩
  · rw [if_pos rfl]
    exact ⟨hb, zw_223 hxi (yl_if (fun z => absurd z hx1) fun _ => yl_if (fun z => absurd z hx9) fun _ => fin 0)⟩
end YL1
