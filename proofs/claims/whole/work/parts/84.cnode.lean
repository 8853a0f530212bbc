/-! the class reads: a node is added -/
/-- only ints and longs of the cells of A may differ -/
def ycf (A : List Nat) (s s' : zq_S) : Prop := (∀ b, b ∉ A → zq_i s' b = zq_i s b ∧ zq_l s' b = zq_l s b) ∧ zq_r s' = zq_r s ∧ zq_n s' = zq_n s ∧ zq_x s' = zq_x s
set_option maxRecDepth 100000 in
theorem ycf.refl (A : List Nat) (s : zq_S) : ycf A s s := ⟨fun _ _ => ⟨rfl, rfl⟩, rfl, rfl, rfl⟩
set_option maxRecDepth 100000 in
theorem ycf.trans {A : List Nat} {s s1 s2 : zq_S} (h1 : ycf A s s1) (h2 : ycf A s1 s2) : ycf A s s2 := ⟨fun b hb => ⟨(h2.1 b hb).1.trans (h1.1 b hb).1, (h2.1 b hb).2.trans (h1.1 b hb).2⟩, h2.2.1.trans h1.2.1, h2.2.2.1.trans h1.2.2.1, h2.2.2.2.trans h1.2.2.2⟩
set_option maxRecDepth 100000 in
theorem ycf.mono {A B : List Nat} {s s1 : zq_S} (h : ycf A s s1) (hs : ∀ q ∈ A, q ∈ B) : ycf B s s1 := ⟨fun b hb => h.1 b (fun z => hb (hs b z)), h.2⟩
set_option maxRecDepth 100000 in
theorem ycf.si {A : List Nat} {s : zq_S} {a : Nat} {j x : Int} (ha : a ∈ A) : ycf A s (zq_si s a j x) := ⟨fun b hb => ⟨by
  funext k
  rw [zq_i_si, if_neg]
  intro z
  exact hb (by rw [z.1]; exact ha), rfl⟩, rfl, rfl, rfl⟩
set_option maxRecDepth 100000 in
theorem ycf.sl {A : List Nat} {s : zq_S} {a : Nat} {j : Int} {x : Int64} (ha : a ∈ A) : ycf A s (zq_sl s a j x) := ⟨fun b hb => ⟨rfl, by
  funext k
  rw [zq_l_sl, if_neg]
  intro z
  exact hb (by rw [z.1]; exact ha)⟩, rfl, rfl, rfl⟩
set_option maxRecDepth 100000 in
theorem ycf.i {A : List Nat} {s s' : zq_S} (h : ycf A s s') {b : Nat} (hb : b ∉ A) : zq_i s' b = zq_i s b := (h.1 b hb).1
set_option maxRecDepth 100000 in
theorem ycf.l {A : List Nat} {s s' : zq_S} (h : ycf A s s') {b : Nat} (hb : b ∉ A) : zq_l s' b = zq_l s b := (h.1 b hb).2
set_option maxRecDepth 100000 in
theorem ycf.r {A : List Nat} {s s' : zq_S} (h : ycf A s s') : zq_r s' = zq_r s := h.2.1
/-- the cells of a tree, of a reader -/
abbrev yc_t7 (t : Nat) : List Nat := [t, t + 1, t + 2, t + 3, t + 4, t + 5, t + 6]
abbrev yc_A (R t : Nat) : List Nat := [R, R + 1, t, t + 1, t + 2, t + 3, t + 4, t + 5, t + 6]
set_option maxRecDepth 100000 in
theorem yk_ne {a b : Nat} {x y : Nat × Nat × Nat} (ha : zq_k a = x) (hb : zq_k b = y) (h : x ≠ y) : a ≠ b := fun z => h (by rw [← ha, ← hb, z])
set_option maxRecDepth 100000 in
theorem yk_tt {a t : Nat} (ha : zq_o 1 a) (ht : zq_o 4 t) : a ∉ yc_t7 t ∧ a + 1 ∉ yc_t7 t := by
  have l1 := zq_L1 ha
  obtain ⟨h1, h2, h3, h4, h5, h6⟩ := zq_L4 ht
  have n0 := yk_ne ha ht (by decide)
  have n1 := yk_ne ha h1 (by decide)
  have n2 := yk_ne ha h2 (by decide)
  have n3 := yk_ne ha h3 (by decide)
  have n4 := yk_ne ha h4 (by decide)
  have n5 := yk_ne ha h5 (by decide)
  have n6 := yk_ne ha h6 (by decide)
  have m0 := yk_ne l1 ht (by simp)
  refine ⟨?_, ?_⟩
  · simp; omega
  · simp; omega
set_option maxRecDepth 100000 in
theorem yk_tR {a R : Nat} (ha : zq_o 1 a) (hR : zq_o 3 R) : a ≠ R ∧ a ≠ R + 1 ∧ a + 1 ≠ R ∧ a + 1 ≠ R + 1 := by
  have l1 := zq_L1 ha
  have h1 := zq_L3 hR
  exact ⟨yk_ne ha hR (by decide), yk_ne ha h1 (by decide), yk_ne l1 hR (by simp), fun z => yk_ne ha hR (by decide) (by omega)⟩
set_option maxRecDepth 100000 in
theorem yk_Rt {R t : Nat} (hR : zq_o 3 R) (ht : zq_o 4 t) : R ∉ yc_t7 t ∧ R + 1 ∉ yc_t7 t := by
  have r1 := zq_L3 hR
  obtain ⟨h1, h2, h3, h4, h5, h6⟩ := zq_L4 ht
  have n0 := yk_ne hR ht (by decide)
  have n1 := yk_ne hR h1 (by decide)
  have n2 := yk_ne hR h2 (by decide)
  have n3 := yk_ne hR h3 (by decide)
  have n4 := yk_ne hR h4 (by decide)
  have n5 := yk_ne hR h5 (by decide)
  have n6 := yk_ne hR h6 (by decide)
  have m0 := yk_ne r1 ht (by decide)
  refine ⟨?_, ?_⟩
  · simp; omega
  · simp; omega
set_option maxRecDepth 100000 in
theorem yk_text {a R t : Nat} (ha : zq_o 1 a) (hR : zq_o 3 R) (ht : zq_o 4 t) : a ∉ yc_A R t ∧ a + 1 ∉ yc_A R t := by
  have h1 := yk_tt ha ht
  have h2 := yk_tR ha hR
  simp at h1 ⊢
  omega
set_option maxRecDepth 100000 in
theorem yc_t_same {s s' : zq_S} {a : Nat} (h1 : zq_i s' a = zq_i s a) (h2 : zq_i s' (a + 1) = zq_i s (a + 1)) : yc_t s' a = yc_t s a ∧ (yc_ok s a → yc_ok s' a) := by
  refine ⟨?_, fun h => ?_⟩
  · funext j
    unfold yc_t
    rw [h1, h2]
  · unfold yc_ok
    rw [h1, h2]
    exact h
/-- nodes below c are as they were -/
def yt_old (s s' : zq_S) (t : Nat) (c : Int) : Prop := ∀ j, 0 ≤ j → j < c → zq_i s' (t + 1) j = zq_i s (t + 1) j ∧ zq_i s' (t + 2) j = zq_i s (t + 2) j ∧ zq_i s' (t + 3) j = zq_i s (t + 3) j ∧ zq_i s' (t + 4) j = zq_i s (t + 4) j ∧ zq_l s' (t + 5) j = zq_l s (t + 5) j ∧ ∀ i, 0 ≤ i → i < 12 → zq_i s' (t + 6) (12 * j + i) = zq_i s (t + 6) (12 * j + i)
set_option maxRecDepth 100000 in
theorem yt_old.refl (s : zq_S) (t : Nat) (c : Int) : yt_old s s t c := fun _ _ _ => ⟨rfl, rfl, rfl, rfl, rfl, fun _ _ _ => rfl⟩
set_option maxRecDepth 100000 in
theorem yt_old.trans {s s1 s2 : zq_S} {t : Nat} {c : Int} (h1 : yt_old s s1 t c) (h2 : yt_old s1 s2 t c) : yt_old s s2 t c := fun j j0 j1 => by
  obtain ⟨a1, a2, a3, a4, a5, a6⟩ := h1 j j0 j1
  obtain ⟨b1, b2, b3, b4, b5, b6⟩ := h2 j j0 j1
  exact ⟨b1.trans a1, b2.trans a2, b3.trans a3, b4.trans a4, b5.trans a5, fun i i0 i1 => (b6 i i0 i1).trans (a6 i i0 i1)⟩
set_option maxRecDepth 100000 in
theorem yt_old.same {A : List Nat} {s s' : zq_S} {t : Nat} {c : Int} (hf : ycf A s s') (h : ∀ q ∈ yc_t7 t, q ∉ A) : yt_old s s' t c := fun j _ _ => by
  simp at h
  obtain ⟨h0, h1, h2, h3, h4, h5, h6⟩ := h
  rw [hf.i h1, hf.i h2, hf.i h3, hf.i h4, hf.l h5, hf.i h6]
  exact ⟨rfl, rfl, rfl, rfl, rfl, fun _ _ _ => rfl⟩
set_option maxRecDepth 100000 in
theorem yt_nd.old {s s' : zq_S} {t : Nat} {c j l : Int} {d : ye_N} (h : yt_nd s t j l d) (ho : yt_old s s' t c) (hd : ye_ok d) (j0 : 0 ≤ j) (j1 : j < c) : yt_nd s' t j l d := by
  obtain ⟨a1, a2, a3, a4, a5, a6⟩ := ho j j0 j1
  obtain ⟨b1, b2, b3, b4, b5, b6⟩ := h
  refine ⟨a1.trans b1, a2.trans b2, a3.trans b3, fun z => a4.trans (b4 z), a5.trans b5, fun z i hi => ?_⟩
  have : d.2.2.2.2.length ≤ 12 := by
    rcases z with z | z
    · have := (hd.k4 z).2.1; omega
    · exact (hd.k5 z).1
  exact (a6 i (by omega) (by omega)).trans (b6 z i hi)
/-- a new node, as it is added -/
def yt_new (s' : zq_S) (t : Nat) (c k l : Int) (y : Int64) : Prop := zq_i s' t 0 = c + 1 ∧ zq_i s' (t + 1) c = k ∧ zq_i s' (t + 2) c = l ∧ zq_i s' (t + 3) c = 0 ∧ zq_i s' (t + 4) c = 0 ∧ zq_l s' (t + 5) c = y
section YCA
variable {X : Nat × (Nat → Int32)} {s : zq_S}
set_option maxRecDepth 100000 in
/-- Tree.add -/
theorem ys_10 {K : Int → zq_S → Prop} {t : Nat} {k l c : Int} {y : Int64} (ht : zq_o 4 t) (hk : zq_iv k) (hl : zq_iv l) (hc : zq_i s t 0 = c) (c0 : 0 ≤ c) (c1 : c < 12) (kk : ∀ s', yt_new s' t c k l y → yt_old s s' t c → ycf (yc_t7 t) s s' → K c s') : zq_Ex X 10 0 [.ref t, zq_vi k, zq_vi l, .long y, zz_no, zz_no] [] s (zq_rp zq_iv K) := by
  refine zw_10 ht hk hl ?_
  rw [hc]
  refine ⟨⟨c0, c1⟩, ⟨c0, c1⟩, ⟨c0, c1⟩, ⟨c0, c1⟩, ⟨c0, c1⟩, ⟨by omega, by omega⟩, kk _ ⟨?_, ?_, ?_, ?_, ?_, ?_⟩ (fun j j0 j1 => ⟨?_, ?_, ?_, ?_, ?_, fun i i0 i1 => ?_⟩) ?_⟩
  · simp [zq_i_si, zq_i_sl]
  · simp [zq_i_si, zq_i_sl]
  · simp [zq_i_si, zq_i_sl]
  · simp [zq_i_si, zq_i_sl]
  · simp [zq_i_si, zq_i_sl]
  · simp [zq_l_si, zq_l_sl]
  · have : j ≠ c := by omega
    simp [zq_i_si, zq_i_sl, this]
  · have : j ≠ c := by omega
    simp [zq_i_si, zq_i_sl, this]
  · have : j ≠ c := by omega
    simp [zq_i_si, zq_i_sl, this]
  · have : j ≠ c := by omega
    simp [zq_i_si, zq_i_sl, this]
  · have : j ≠ c := by omega
    simp [zq_l_si, zq_l_sl, this]
  · simp [zq_i_si, zq_i_sl]
  · exact (ycf.si (by simp)).trans ((ycf.si (by simp)).trans ((ycf.si (by simp)).trans ((ycf.si (by simp)).trans ((ycf.sl (by simp)).trans (ycf.si (by simp))))))
set_option maxRecDepth 100000 in
/-- Reader.addNode -/
theorem ys_58 {K : Int → zq_S → Prop} {R t : Nat} {k e c l : Int} {y : Int64} (hR : zq_o 3 R) (ht : zq_o 4 t) (hrt : zq_r s R 1 = some t) (hk : zq_iv k) (he : zq_iv e) (hl : zq_i s R 3 = l) (hl2 : zq_iv l) (hy : zq_l s R 4 = y) (hc : zq_i s t 0 = c) (c0 : 0 ≤ c) (c1 : c < 12) (kk : ∀ s', yt_new s' t c k l y → yt_old s s' t c → zq_l s' R 4 = 0 → zq_i s' R 5 = e → zq_i s' R 3 = l → zq_i s' (R + 1) = zq_i s (R + 1) → ycf (yc_A R t) s s' → K c s') : zq_Ex X 58 0 [.ref R, zq_vi k, zq_vi e, zz_no] [] s (zq_rp zq_iv K) := by
  have dRt := yk_Rt hR ht
  refine zw_58 hR hk he ⟨t, hrt, ?_⟩
  rw [hl, hy]
  refine ys_10 ht hk hl2 hc c0 c1 (fun s1 n1 o1 f1 => ?_)
  have hR0 : zq_i s1 R = zq_i s R := f1.i dRt.1
  have hR1 : zq_i s1 (R + 1) = zq_i s (R + 1) := f1.i dRt.2
  have neq : ∀ q ∈ yc_t7 t, q ≠ R := fun q hq z => dRt.1 (by rw [← z]; exact hq)
  have f2 : ycf [R] s1 (zq_si (zq_sl s1 R 4 0) R 5 e) := (ycf.sl (by simp)).trans (ycf.si (by simp))
  have same : ∀ q ∈ yc_t7 t, q ∉ [R] := fun q hq => by simp; exact neq q hq
  refine kk _ ?_ (o1.trans (yt_old.same f2 same)) ?_ ?_ ?_ ?_ ((f1.mono (by simp)).trans (f2.mono (by simp)))
  · obtain ⟨a1, a2, a3, a4, a5, a6⟩ := n1
    refine ⟨?_, ?_, ?_, ?_, ?_, ?_⟩
    · rw [f2.i (same t (by simp))]; exact a1
    · rw [f2.i (same (t + 1) (by simp))]; exact a2
    · rw [f2.i (same (t + 2) (by simp))]; exact a3
    · rw [f2.i (same (t + 3) (by simp))]; exact a4
    · rw [f2.i (same (t + 4) (by simp))]; exact a5
    · rw [f2.l (same (t + 5) (by simp))]; exact a6
  · rw [zq_l_si, zq_l_sl, if_pos ⟨rfl, rfl⟩]
  · rw [zq_i_si, if_pos ⟨rfl, rfl⟩]
  · rw [zq_i_si, if_neg (by simp), zq_i_sl, hR0]; exact hl
  · rw [f2.i (by simp), hR1]
set_option maxRecDepth 100000 in
/-- Tree.addLetter -/
theorem ys_60 {K : zq_S → Prop} {t : Nat} {c x : Int} {n : Nat} (ht : zq_o 4 t) (hx : zq_ch x) (c0 : 0 ≤ c) (c1 : c < 12) (hn : zq_i s (t + 3) c = n) (n12 : n < 12) (kk : K (zq_si (zq_si s (t + 6) (12 * c + n) x) (t + 3) c (n + 1))) : zq_Ex X 60 0 [.ref t, zq_vi c, zq_vi x] [] s (zq_rv K) := by
  refine zw_60 ht ⟨by omega, by omega⟩ (zq_ch_in hx) ?_
  rw [hn, Int.emod_eq_of_lt hx.1 hx.2, show c * 12 + (n : Int) = 12 * c + n by omega]
  refine ⟨⟨c0, c1⟩, ?_⟩
  rw [if_pos (by omega)]
  exact ⟨⟨c0, c1⟩, ⟨by omega, by omega⟩, ⟨c0, c1⟩, ⟨c0, c1⟩, ⟨by omega, by omega⟩, kk⟩
end YCA
