/-! arraycopy within one row; Tree.removeParts -/
set_option maxRecDepth 100000 in
theorem zr_cpy0 {Z : zz_Z} {X : Nat × (Nat → Int32)} {M pc idx a k bc bs : Nat} {L : List Value} {h : zz_H} {f : Nat → Int32} {sp dp n : Int32} (hc : zz_cod Z M pc = some (.invokestatic idx, 3, [4])) (ha : h[a]? = some (.inl (0, k, .inl f))) (h1 : ¬ sp < 0) (h2 : ¬ dp < 0) (h3 : ¬ n < 0) (h4 : sp.toNatClampNeg + n.toNatClampNeg ≤ k) (h5 : dp.toNatClampNeg + n.toNatClampNeg ≤ k) : zr_to Z X M (pc, L, .int n :: .int dp :: .ref a :: .int sp :: .ref a :: [], h, bc, bs) (pc + 3, L, [], h.set a (.inl (0, k, .inl (va_cpy f f sp.toNatClampNeg dp.toNatClampNeg n.toNatClampNeg))), bc, bs) := zr_st2 hc rfl rfl (by
  simp [zz_st2, ha, h1, h2, h3, h4, h5])
set_option maxRecDepth 100000 in
theorem zr_cpy1 {Z : zz_Z} {X : Nat × (Nat → Int32)} {M pc idx a k bc bs : Nat} {L : List Value} {h : zz_H} {f : Nat → Int32} {sp dp n : Int32} (hc : zz_cod Z M pc = some (.invokestatic idx, 3, [4])) (ha : h[a]? = some (.inl (1, k, .inl f))) (hf : (List.range n.toNatClampNeg).all (fun i => fits .char (.int (f (sp.toNatClampNeg + i)))) = true) (h1 : ¬ sp < 0) (h2 : ¬ dp < 0) (h3 : ¬ n < 0) (h4 : sp.toNatClampNeg + n.toNatClampNeg ≤ k) (h5 : dp.toNatClampNeg + n.toNatClampNeg ≤ k) : zr_to Z X M (pc, L, .int n :: .int dp :: .ref a :: .int sp :: .ref a :: [], h, bc, bs) (pc + 3, L, [], h.set a (.inl (1, k, .inl (va_cpy f f sp.toNatClampNeg dp.toNatClampNeg n.toNatClampNeg))), bc, bs) := zr_st2 hc rfl rfl (by
  simp only [zz_st2, ha, h1, h2, h3, h4, h5, hf, and_self, not_false_eq_true, if_true, or_true]
  rw [if_pos ⟨by decide, trivial⟩])
set_option maxRecDepth 100000 in
theorem zr_cpyl {Z : zz_Z} {X : Nat × (Nat → Int32)} {M pc idx a k bc bs : Nat} {L : List Value} {h : zz_H} {f : Nat → Int64} {sp dp n : Int32} (hc : zz_cod Z M pc = some (.invokestatic idx, 3, [4])) (ha : h[a]? = some (.inl (3, k, .inr (.inl f)))) (h1 : ¬ sp < 0) (h2 : ¬ dp < 0) (h3 : ¬ n < 0) (h4 : sp.toNatClampNeg + n.toNatClampNeg ≤ k) (h5 : dp.toNatClampNeg + n.toNatClampNeg ≤ k) : zr_to Z X M (pc, L, .int n :: .int dp :: .ref a :: .int sp :: .ref a :: [], h, bc, bs) (pc + 3, L, [], h.set a (.inl (3, k, .inr (.inl (va_cpy f f sp.toNatClampNeg dp.toNatClampNeg n.toNatClampNeg)))), bc, bs) := zr_st2 hc rfl rfl (by
  simp [zz_st2, ha, h1, h2, h3, h4, h5])
set_option maxRecDepth 100000 in
theorem zq_cpix {x : Int} (h0 : 0 ≤ x) (h1 : x ≤ 9000) : ¬ Int32.ofInt x < 0 ∧ (Int32.ofInt x).toNatClampNeg = x.toNat := by
  have e := zq_ix (j := x) (m := 9999) h0 (by omega) (by decide)
  have e1 := of_decide_eq_true e.1
  exact ⟨fun z => e1 (Or.inl z), e.2⟩
set_option maxRecDepth 100000 in
theorem zq_i_cpi (s : zq_S) (b : Nat) (sp dp m : Int) (a : Nat) (j : Int) : zq_i (zq_cpi s b sp dp m) a j = if a = b ∧ dp ≤ j ∧ j < dp + m then zq_i s b (sp + (j - dp)) else zq_i s a j := rfl
set_option maxRecDepth 100000 in
theorem zq_l_cpl (s : zq_S) (b : Nat) (sp dp m : Int) (a : Nat) (j : Int) : zq_l (zq_cpl s b sp dp m) a j = if a = b ∧ dp ≤ j ∧ j < dp + m then zq_l s b (sp + (j - dp)) else zq_l s a j := rfl
set_option maxRecDepth 100000 in
theorem zq_R.cpi {s : zq_S} {b tg m : Nat} {sp dp n : Int} (hR : zq_R s) (hk : zq_k b = (1, tg, m)) : zq_R (zq_cpi s b sp dp n) := by
  obtain ⟨h1, h2, h3, h4, h5⟩ := hR
  have e : ∀ a j, ∃ j', zq_i (zq_cpi s b sp dp n) a j = zq_i s a j' := fun a j => by
    by_cases h : a = b ∧ dp ≤ j ∧ j < dp + n
    · refine ⟨sp + (j - dp), ?_⟩
      rw [zq_i_cpi, if_pos h, h.1]
    · exact ⟨j, by rw [zq_i_cpi, if_neg h]⟩
  refine ⟨fun a j => ?_, fun a k j hc => ?_, fun a k j hc => ?_, fun a ci k ha hf => ?_, h5⟩
  · obtain ⟨j', e1⟩ := e a j
    rw [e1]; exact h1 a j'
  · obtain ⟨j', e1⟩ := e a j
    rw [e1]; exact h2 a k j' hc
  · obtain ⟨j', e1⟩ := e a j
    rw [e1]; exact h3 a k j' hc
  · rw [zq_i_cpi, if_neg (fun z => by rw [z.1] at ha; have h9 := ha.symm.trans hk; cases h9)]
    exact h4 a ci k ha hf
set_option maxRecDepth 100000 in
theorem zq_fitc {x : Int} (h : zq_ch x) : fits .char (.int (Int32.ofInt x)) = true := by
  have a : (0 : Int32) ≤ Int32.ofInt x := (zq_leI (x := 0) (y := x) ⟨by decide, by decide⟩ (zq_ch_in h)).mpr h.1
  have b : Int32.ofInt x ≤ (65535 : Int32) := (zq_leI (x := x) (y := 65535) (zq_ch_in h) ⟨by decide, by decide⟩).mpr (by omega)
  show (decide ((0 : Int32) ≤ Int32.ofInt x) && decide (Int32.ofInt x ≤ (65535 : Int32))) = true
  rw [decide_eq_true a, decide_eq_true b]
  rfl
section ZQC
variable {X : Nat × (Nat → Int32)} {M pc idx b m : Nat} {L : List Value} {s : zq_S} {Q : Outcome → zq_S → Prop} {sp dp n : Int}
set_option maxRecDepth 100000 in
theorem zq_cpy0 (hc : zz_cod zt_Z M pc = some (.invokestatic idx, 3, [4])) (hk : zq_k b = (1, 0, m)) (h1 : 0 ≤ sp) (h2 : 0 ≤ dp) (h3 : 0 ≤ n) (h4 : sp + n ≤ m) (h5 : dp + n ≤ m) (hm : m ≤ 9000) (kk : zq_Ex X M (pc + 3) L [] (zq_cpi s b sp dp n) Q) : zq_Ex X M pc L (zq_vi n :: zq_vi dp :: .ref b :: zq_vi sp :: .ref b :: []) s Q := zq_chg (s1 := zq_cpi s b sp dp n) rfl (fun h hp => by
  obtain ⟨f, f1, f2⟩ := hp.arr hk
  have es := zq_cpix h1 (by omega)
  have ed := zq_cpix h2 (by omega)
  have en := zq_cpix h3 (by omega)
  refine ⟨_, zr_cpy0 hc f1 es.1 ed.1 en.1 (by rw [es.2, en.2]; omega) (by rw [ed.2, en.2]; omega), ?_⟩
  rw [es.2, ed.2, en.2]
  refine hp.seta hk (hp.R.cpi hk) rfl (fun c i hc => ?_) (fun i hi => ?_)
  · rw [zq_i_cpi, if_neg (fun z => hc z.1)]
  · rw [zq_i_cpi]
    by_cases hin : dp.toNat ≤ i ∧ i < dp.toNat + n.toNat
    · rw [pk_cpy_in hin.1 hin.2, if_pos ⟨rfl, by omega, by omega⟩, f2 _ (by omega)]
      congr 2
      omega
    · rw [pk_cpy_out (by omega), if_neg (fun z => hin (by omega)), f2 i hi]) kk
set_option maxRecDepth 100000 in
theorem zq_cpy1 (hc : zz_cod zt_Z M pc = some (.invokestatic idx, 3, [4])) (hk : zq_k b = (1, 1, m)) (h1 : 0 ≤ sp) (h2 : 0 ≤ dp) (h3 : 0 ≤ n) (h4 : sp + n ≤ m) (h5 : dp + n ≤ m) (hm : m ≤ 9000) (kk : zq_Ex X M (pc + 3) L [] (zq_cpi s b sp dp n) Q) : zq_Ex X M pc L (zq_vi n :: zq_vi dp :: .ref b :: zq_vi sp :: .ref b :: []) s Q := zq_chg (s1 := zq_cpi s b sp dp n) rfl (fun h hp => by
  obtain ⟨f, f1, f2⟩ := hp.arr hk
  have es := zq_cpix h1 (by omega)
  have ed := zq_cpix h2 (by omega)
  have en := zq_cpix h3 (by omega)
  have hfit : (List.range (Int32.ofInt n).toNatClampNeg).all (fun i => fits .char (.int (f ((Int32.ofInt sp).toNatClampNeg + i)))) = true := by
    rw [List.all_eq_true]
    intro i hi
    have hi := List.mem_range.mp hi
    rw [en.2] at hi
    rw [es.2, f2 _ (by omega)]
    exact zq_fitc (hp.R.2.1 b m _ hk)
  refine ⟨_, zr_cpy1 hc f1 hfit es.1 ed.1 en.1 (by rw [es.2, en.2]; omega) (by rw [ed.2, en.2]; omega), ?_⟩
  rw [es.2, ed.2, en.2]
  refine hp.seta hk (hp.R.cpi hk) rfl (fun c i hc => ?_) (fun i hi => ?_)
  · rw [zq_i_cpi, if_neg (fun z => hc z.1)]
  · rw [zq_i_cpi]
    by_cases hin : dp.toNat ≤ i ∧ i < dp.toNat + n.toNat
    · rw [pk_cpy_in hin.1 hin.2, if_pos ⟨rfl, by omega, by omega⟩, f2 _ (by omega)]
      congr 2
      omega
    · rw [pk_cpy_out (by omega), if_neg (fun z => hin (by omega)), f2 i hi]) kk
set_option maxRecDepth 100000 in
theorem zq_cpyl {tg : Nat} (hc : zz_cod zt_Z M pc = some (.invokestatic idx, 3, [4])) (hk : zq_k b = (2, tg, m)) (h1 : 0 ≤ sp) (h2 : 0 ≤ dp) (h3 : 0 ≤ n) (h4 : sp + n ≤ m) (h5 : dp + n ≤ m) (hm : m ≤ 9000) (kk : zq_Ex X M (pc + 3) L [] (zq_cpl s b sp dp n) Q) : zq_Ex X M pc L (zq_vi n :: zq_vi dp :: .ref b :: zq_vi sp :: .ref b :: []) s Q := zq_chg (s1 := zq_cpl s b sp dp n) rfl (fun h hp => by
  obtain ⟨f, f1, f2⟩ := hp.lar hk
  have es := zq_cpix h1 (by omega)
  have ed := zq_cpix h2 (by omega)
  have en := zq_cpix h3 (by omega)
  refine ⟨_, zr_cpyl hc f1 es.1 ed.1 en.1 (by rw [es.2, en.2]; omega) (by rw [ed.2, en.2]; omega), ?_⟩
  rw [es.2, ed.2, en.2]
  refine hp.setl hk hp.R rfl rfl rfl rfl (fun c i hc => ?_) (fun i hi => ?_)
  · rw [zq_l_cpl, if_neg (fun z => hc z.1)]
  · rw [zq_l_cpl]
    by_cases hin : dp.toNat ≤ i ∧ i < dp.toNat + n.toNat
    · rw [pk_cpy_in hin.1 hin.2, if_pos ⟨rfl, by omega, by omega⟩, f2 _ (by omega)]
      congr 1
      omega
    · rw [pk_cpy_out (by omega), if_neg (fun z => hin (by omega)), f2 i hi]) kk
end ZQC
/-- what removeParts makes of a tree -/
def zq_79 (s_1 : zq_S) (a0 : Nat) (x1 x_2 : Int) : zq_S := (zq_si (zq_cpi (zq_cpl (zq_cpi (zq_cpi (zq_cpi (zq_cpi s_1 (a0 + 1) x_2 (x1 + 1) (zq_i s_1 a0 0 - x_2)) (a0 + 2) x_2 (x1 + 1) (zq_i s_1 a0 0 - x_2)) (a0 + 3) x_2 (x1 + 1) (zq_i s_1 a0 0 - x_2)) (a0 + 4) x_2 (x1 + 1) (zq_i s_1 a0 0 - x_2)) (a0 + 5) x_2 (x1 + 1) (zq_i s_1 a0 0 - x_2)) (a0 + 6) (x_2 * 12) ((x1 + 1) * 12) ((zq_i s_1 a0 0 - x_2) * 12)) a0 0 (x1 + 1 + (zq_i s_1 a0 0 - x_2)))
set_option maxRecDepth 100000 in
theorem zw_79 {X : Nat × (Nat → Int32)} {s : zq_S} {K : zq_S → Prop} {a0 : Nat} (ha0 : zq_o 4 a0) {x1 : Int} (hx1 : zq_iv x1) (w : zq_Ex X 17 0 [(.ref (a0)), (zq_vi (x1)), zz_no] [] s (zq_rp zq_iv fun x_2 s_1 => ((0 ≤ x_2 ∧ 0 ≤ x1 + 1 ∧ 0 ≤ (zq_i s_1 a0 0 - x_2) ∧ x_2 + (zq_i s_1 a0 0 - x_2) ≤ 12 ∧ x1 + 1 + (zq_i s_1 a0 0 - x_2) ≤ 12) ∧ K (zq_79 s_1 a0 x1 x_2)))) : zq_Ex X 79 0 [(.ref (a0)), (zq_vi (x1)), zz_no, zz_no, zz_no] [] s (zq_rv K) := by
  refine zq_run 2 (pc' := 2) (L' := [(.ref (a0)), (zq_vi (x1)), zz_no, zz_no, zz_no]) (st' := [(zq_vi (x1)), (.ref (a0))]) (fun _ _ _ => rfl) ?_
  refine zq_call_i (i := .invokevirtual 40) (r := [1, 17, 1, 1, 4]) rfl rfl (fun h hp => zr_avv rfl (hp.obj ha0)) (of_decide_eq_false rfl) w (fun x_2 s_1 hx_2 w => ?_)
  obtain ⟨⟨g1, g2, g3, g4, g5⟩, w⟩ := w
  refine zq_run 3 (pc' := 8) (L' := [(.ref (a0)), (zq_vi (x1)), (zq_vi (x_2)), zz_no, zz_no]) (st' := [(zq_vi (1)), (zq_vi (x1))]) (fun _ _ _ => rfl) ?_
  refine zq_iadd rfl ?_
  refine zq_run 2 (pc' := 11) (L' := [(.ref (a0)), (zq_vi (x1)), (zq_vi (x_2)), (zq_vi (x1 + 1)), zz_no]) (st' := [(.ref (a0))]) (fun _ _ _ => rfl) ?_
  refine zq_getf_i (j := 0) (v := zq_i s_1 a0 0) rfl ha0 rfl rfl rfl ?_
  refine zq_run 1 (pc' := 15) (L' := [(.ref (a0)), (zq_vi (x1)), (zq_vi (x_2)), (zq_vi (x1 + 1)), zz_no]) (st' := [(zq_vi (x_2)), (zq_vi (zq_i s_1 a0 0))]) (fun _ _ _ => rfl) ?_
  refine zq_isub rfl ?_
  refine zq_run 2 (pc' := 19) (L' := [(.ref (a0)), (zq_vi (x1)), (zq_vi (x_2)), (zq_vi (x1 + 1)), (zq_vi (zq_i s_1 a0 0 - x_2))]) (st' := [(.ref (a0))]) (fun _ _ _ => rfl) ?_
  refine zq_getf_f (b := a0 + 1) rfl ha0 rfl rfl ?_
  refine zq_run 2 (pc' := 24) (L' := [(.ref (a0)), (zq_vi (x1)), (zq_vi (x_2)), (zq_vi (x1 + 1)), (zq_vi (zq_i s_1 a0 0 - x_2))]) (st' := [(.ref (a0)), (zq_vi (x_2)), (.ref (a0 + 1))]) (fun _ _ _ => rfl) ?_
  refine zq_getf_f (b := a0 + 1) rfl ha0 rfl rfl ?_
  refine zq_run 2 (pc' := 30) (L' := [(.ref (a0)), (zq_vi (x1)), (zq_vi (x_2)), (zq_vi (x1 + 1)), (zq_vi (zq_i s_1 a0 0 - x_2))]) (st' := [(zq_vi (zq_i s_1 a0 0 - x_2)), (zq_vi (x1 + 1)), (.ref (a0 + 1)), (zq_vi (x_2)), (.ref (a0 + 1))]) (fun _ _ _ => rfl) ?_
  refine zq_cpy0 rfl (zq_L4 ha0).1 g1 g2 g3 g4 g5 (by decide) ?_
  refine zq_run 1 (pc' := 34) (L' := [(.ref (a0)), (zq_vi (x1)), (zq_vi (x_2)), (zq_vi (x1 + 1)), (zq_vi (zq_i s_1 a0 0 - x_2))]) (st' := [(.ref (a0))]) (fun _ _ _ => rfl) ?_
  refine zq_getf_f (b := a0 + 2) rfl ha0 rfl rfl ?_
  refine zq_run 2 (pc' := 39) (L' := [(.ref (a0)), (zq_vi (x1)), (zq_vi (x_2)), (zq_vi (x1 + 1)), (zq_vi (zq_i s_1 a0 0 - x_2))]) (st' := [(.ref (a0)), (zq_vi (x_2)), (.ref (a0 + 2))]) (fun _ _ _ => rfl) ?_
  refine zq_getf_f (b := a0 + 2) rfl ha0 rfl rfl ?_
  refine zq_run 2 (pc' := 45) (L' := [(.ref (a0)), (zq_vi (x1)), (zq_vi (x_2)), (zq_vi (x1 + 1)), (zq_vi (zq_i s_1 a0 0 - x_2))]) (st' := [(zq_vi (zq_i s_1 a0 0 - x_2)), (zq_vi (x1 + 1)), (.ref (a0 + 2)), (zq_vi (x_2)), (.ref (a0 + 2))]) (fun _ _ _ => rfl) ?_
  refine zq_cpy0 rfl (zq_L4 ha0).2.1 g1 g2 g3 g4 g5 (by decide) ?_
  refine zq_run 1 (pc' := 49) (L' := [(.ref (a0)), (zq_vi (x1)), (zq_vi (x_2)), (zq_vi (x1 + 1)), (zq_vi (zq_i s_1 a0 0 - x_2))]) (st' := [(.ref (a0))]) (fun _ _ _ => rfl) ?_
  refine zq_getf_f (b := a0 + 3) rfl ha0 rfl rfl ?_
  refine zq_run 2 (pc' := 54) (L' := [(.ref (a0)), (zq_vi (x1)), (zq_vi (x_2)), (zq_vi (x1 + 1)), (zq_vi (zq_i s_1 a0 0 - x_2))]) (st' := [(.ref (a0)), (zq_vi (x_2)), (.ref (a0 + 3))]) (fun _ _ _ => rfl) ?_
  refine zq_getf_f (b := a0 + 3) rfl ha0 rfl rfl ?_
  refine zq_run 2 (pc' := 60) (L' := [(.ref (a0)), (zq_vi (x1)), (zq_vi (x_2)), (zq_vi (x1 + 1)), (zq_vi (zq_i s_1 a0 0 - x_2))]) (st' := [(zq_vi (zq_i s_1 a0 0 - x_2)), (zq_vi (x1 + 1)), (.ref (a0 + 3)), (zq_vi (x_2)), (.ref (a0 + 3))]) (fun _ _ _ => rfl) ?_
  refine zq_cpy0 rfl (zq_L4 ha0).2.2.1 g1 g2 g3 g4 g5 (by decide) ?_
  refine zq_run 1 (pc' := 64) (L' := [(.ref (a0)), (zq_vi (x1)), (zq_vi (x_2)), (zq_vi (x1 + 1)), (zq_vi (zq_i s_1 a0 0 - x_2))]) (st' := [(.ref (a0))]) (fun _ _ _ => rfl) ?_
  refine zq_getf_f (b := a0 + 4) rfl ha0 rfl rfl ?_
  refine zq_run 2 (pc' := 69) (L' := [(.ref (a0)), (zq_vi (x1)), (zq_vi (x_2)), (zq_vi (x1 + 1)), (zq_vi (zq_i s_1 a0 0 - x_2))]) (st' := [(.ref (a0)), (zq_vi (x_2)), (.ref (a0 + 4))]) (fun _ _ _ => rfl) ?_
  refine zq_getf_f (b := a0 + 4) rfl ha0 rfl rfl ?_
  refine zq_run 2 (pc' := 75) (L' := [(.ref (a0)), (zq_vi (x1)), (zq_vi (x_2)), (zq_vi (x1 + 1)), (zq_vi (zq_i s_1 a0 0 - x_2))]) (st' := [(zq_vi (zq_i s_1 a0 0 - x_2)), (zq_vi (x1 + 1)), (.ref (a0 + 4)), (zq_vi (x_2)), (.ref (a0 + 4))]) (fun _ _ _ => rfl) ?_
  refine zq_cpy0 rfl (zq_L4 ha0).2.2.2.1 g1 g2 g3 g4 g5 (by decide) ?_
  refine zq_run 1 (pc' := 79) (L' := [(.ref (a0)), (zq_vi (x1)), (zq_vi (x_2)), (zq_vi (x1 + 1)), (zq_vi (zq_i s_1 a0 0 - x_2))]) (st' := [(.ref (a0))]) (fun _ _ _ => rfl) ?_
  refine zq_getf_f (b := a0 + 5) rfl ha0 rfl rfl ?_
  refine zq_run 2 (pc' := 84) (L' := [(.ref (a0)), (zq_vi (x1)), (zq_vi (x_2)), (zq_vi (x1 + 1)), (zq_vi (zq_i s_1 a0 0 - x_2))]) (st' := [(.ref (a0)), (zq_vi (x_2)), (.ref (a0 + 5))]) (fun _ _ _ => rfl) ?_
  refine zq_getf_f (b := a0 + 5) rfl ha0 rfl rfl ?_
  refine zq_run 2 (pc' := 90) (L' := [(.ref (a0)), (zq_vi (x1)), (zq_vi (x_2)), (zq_vi (x1 + 1)), (zq_vi (zq_i s_1 a0 0 - x_2))]) (st' := [(zq_vi (zq_i s_1 a0 0 - x_2)), (zq_vi (x1 + 1)), (.ref (a0 + 5)), (zq_vi (x_2)), (.ref (a0 + 5))]) (fun _ _ _ => rfl) ?_
  refine zq_cpyl rfl (zq_L4 ha0).2.2.2.2.1 g1 g2 g3 g4 g5 (by decide) ?_
  refine zq_run 1 (pc' := 94) (L' := [(.ref (a0)), (zq_vi (x1)), (zq_vi (x_2)), (zq_vi (x1 + 1)), (zq_vi (zq_i s_1 a0 0 - x_2))]) (st' := [(.ref (a0))]) (fun _ _ _ => rfl) ?_
  refine zq_getf_f (b := a0 + 6) rfl ha0 rfl rfl ?_
  refine zq_run 2 (pc' := 100) (L' := [(.ref (a0)), (zq_vi (x1)), (zq_vi (x_2)), (zq_vi (x1 + 1)), (zq_vi (zq_i s_1 a0 0 - x_2))]) (st' := [(zq_vi (12)), (zq_vi (x_2)), (.ref (a0 + 6))]) (fun _ _ _ => rfl) ?_
  refine zq_imul rfl ?_
  refine zq_run 1 (pc' := 102) (L' := [(.ref (a0)), (zq_vi (x1)), (zq_vi (x_2)), (zq_vi (x1 + 1)), (zq_vi (zq_i s_1 a0 0 - x_2))]) (st' := [(.ref (a0)), (zq_vi (x_2 * 12)), (.ref (a0 + 6))]) (fun _ _ _ => rfl) ?_
  refine zq_getf_f (b := a0 + 6) rfl ha0 rfl rfl ?_
  refine zq_run 2 (pc' := 108) (L' := [(.ref (a0)), (zq_vi (x1)), (zq_vi (x_2)), (zq_vi (x1 + 1)), (zq_vi (zq_i s_1 a0 0 - x_2))]) (st' := [(zq_vi (12)), (zq_vi (x1 + 1)), (.ref (a0 + 6)), (zq_vi (x_2 * 12)), (.ref (a0 + 6))]) (fun _ _ _ => rfl) ?_
  refine zq_imul rfl ?_
  refine zq_run 2 (pc' := 113) (L' := [(.ref (a0)), (zq_vi (x1)), (zq_vi (x_2)), (zq_vi (x1 + 1)), (zq_vi (zq_i s_1 a0 0 - x_2))]) (st' := [(zq_vi (12)), (zq_vi (zq_i s_1 a0 0 - x_2)), (zq_vi ((x1 + 1) * 12)), (.ref (a0 + 6)), (zq_vi (x_2 * 12)), (.ref (a0 + 6))]) (fun _ _ _ => rfl) ?_
  refine zq_imul rfl ?_
  refine zq_cpy1 rfl (zq_L4 ha0).2.2.2.2.2 (by omega) (by omega) (by omega) (by omega) (by omega) (by decide) ?_
  refine zq_run 3 (pc' := 121) (L' := [(.ref (a0)), (zq_vi (x1)), (zq_vi (x_2)), (zq_vi (x1 + 1)), (zq_vi (zq_i s_1 a0 0 - x_2))]) (st' := [(zq_vi (zq_i s_1 a0 0 - x_2)), (zq_vi (x1 + 1)), (.ref (a0))]) (fun _ _ _ => rfl) ?_
  refine zq_iadd rfl ?_
  refine zq_putf_i (j := 0) rfl ha0 rfl rfl rfl ⟨by omega, by omega⟩ ?_
  exact zq_vret rfl rfl (⟨rfl, w⟩)
