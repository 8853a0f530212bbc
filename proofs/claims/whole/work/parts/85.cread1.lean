/-! the class reads: plain tokens -/
/-- a new node, complete -/
def yc_v (s s' : zq_S) (R t : Nat) (c lev e : Int) (d : ye_N) : Prop := zq_i s' t 0 = c + 1 ∧ yt_nd s' t c lev d ∧ yt_old s s' t c ∧ zq_l s' R 4 = 0 ∧ zq_i s' R 5 = e ∧ zq_i s' R 3 = lev ∧ zq_i s' (R + 1) = zq_i s (R + 1) ∧ ycf (yc_A R t) s s'
section YCP
variable {X : Nat × (Nat → Int32)} {s : zq_S} {R a t : Nat}
set_option maxRecDepth 100000 in
/-- spacesEnd, also behind the text -/
theorem ys_46b {K : Int → zq_S → Prop} {x : Int} (ha : zq_o 1 a) (ho : yc_ok s a) (h0 : 0 ≤ x) (h1 : x ≤ 5000) (k : K (yp_sk (yc_t s a) x) s) : zq_Ex X 46 0 [.ref a, zq_vi x, zz_no] [] s (zq_rp zq_iv K) := by
  by_cases h : x ≤ 1000
  · exact ys_46 ha ho h0 h k
  · have h9 := zq_T_le ha
    have h8 := ho.2.1
    have hx : zq_iv x := ⟨by omega, by omega⟩
    refine zw_46 ha hx (zw_46_2 ha hx hx ?_)
    rw [if_neg (by omega)]
    rw [ye_sk0 (by rw [(ho.T ha) x (by omega)]; rfl)] at k
    exact k
set_option maxRecDepth 100000 in
theorem yr_od1_iff {T : Int → Int} (hT : yp_T T) {b l : Int} (hb : -50 ≤ b) : yp_od1 T b l = true ↔ yp_dg (T b) = true ∧ yp_wc (T (b + 1)) = false ∧ l ≤ T b := by
  unfold yp_od1
  rw [decide_eq_true_eq]
  have key : yp_dg (T b) = true → (yp_wd T b = b + 1 ↔ yp_wc (T (b + 1)) = false) := fun hd => by
    have hw : yp_wc (T b) = true := by
      have := of_decide_eq_true hd
      exact decide_eq_true (by omega)
    unfold yp_wd
    rw [yp_end_eq hT rfl (by omega), if_pos hw, yp_end_eq hT rfl (by omega)]
    cases h : yp_wc (T (b + 1)) with
    | true =>
      rw [if_pos rfl]
      have := yp_end_le (p := yp_wc) (T := T) 2000 (b + 1 + 1)
      have e : yp_end yp_wc T (b + 1 + 1) = yp_run yp_wc T 2000 (b + 1 + 1) := rfl
      rw [e]
      exact ⟨fun z => by omega, fun z => by cases z⟩
    | false =>
      rw [if_neg (by decide)]
      exact ⟨fun _ => rfl, fun _ => rfl⟩
  constructor
  · intro ⟨h1, h2, h3⟩
    exact ⟨h1, (key h1).mp h3, h2⟩
  · intro ⟨h1, h2, h3⟩
    exact ⟨h1, h3, (key h1).mpr h2⟩
set_option maxRecDepth 100000 in
/-- isDigitWord -/
theorem ys_63 {K : Int → zq_S → Prop} {x : Int} (hR : zq_o 3 R) (ha : zq_o 1 a) (hra : zq_r s R 0 = some a) (ho : yc_ok s a) (h0 : 0 ≤ x) (h1 : x ≤ 5000) (k : K (yb (yp_od1 (yc_t s a) x 48)) s) : zq_Ex X 63 0 [.ref R, zq_vi x] [] s (zq_rp zq_bo K) := by
  have hT := ho.T ha
  refine zq_have (fun hR0 => ?_)
  refine zw_63 hR ⟨by omega, by omega⟩ ⟨a, hra, ys_29 ha ho ⟨by omega, by omega⟩ (ys_64 (yp_cd_in hR0 x) (yb_if (fun h => ?_) (fun h => ?_)))⟩
  · rw [yc_cd (p := yp_dg) rfl rfl] at h
    have : yp_od1 (yc_t s a) x 48 = false := by
      cases hz : yp_od1 (yc_t s a) x 48 with
      | false => rfl
      | true => have := ((yr_od1_iff hT (by omega)).mp hz).1; rw [h] at this; cases this
    rw [this] at k
    exact k
  · rw [yc_cd (p := yp_dg) rfl rfl] at h
    have hd := of_decide_eq_true h
    refine ⟨a, hra, ys_29 ha ho ⟨by omega, by omega⟩ (ys_65 (yp_cd_in hR0 (x + 1)) (yb_if (fun h2 => ?_) (fun h2 => ?_)))⟩
    · rw [yc_cd (p := yp_wc) rfl rfl] at h2
      have : yp_od1 (yc_t s a) x 48 = true := (yr_od1_iff hT (by omega)).mpr ⟨h, h2, by omega⟩
      rw [this] at k
      exact k
    · rw [yc_cd (p := yp_wc) rfl rfl] at h2
      have : yp_od1 (yc_t s a) x 48 = false := by
        cases hz : yp_od1 (yc_t s a) x 48 with
        | false => rfl
        | true => have := ((yr_od1_iff hT (by omega)).mp hz).2.1; rw [h2] at this; cases this
      rw [this] at k
      exact k
set_option maxRecDepth 100000 in
/-- a node with no letters: its number may be written behind -/
theorem yc_v_plain {s' : zq_S} {c lev e k : Int} {key : List Int} {T : Int → Int} {p : Int} (hn : yt_new s' t c k lev (ye_pk key 0)) (ho : yt_old s s' t c) (h4 : zq_l s' R 4 = 0) (h5 : zq_i s' R 5 = e) (h3 : zq_i s' R 3 = lev) (h1 : zq_i s' (R + 1) = zq_i s (R + 1)) (hf : ycf (yc_A R t) s s') (hk : k ≠ 3 ∧ k ≠ 4 ∧ k ≠ 5 ∧ k ≠ 8) : yc_v s s' R t c lev e (yr_nd T k p key) := by
  obtain ⟨n1, n2, n3, n4, n5, n6⟩ := hn
  refine ⟨n1, ⟨n2, n3, ?_, fun z => absurd z hk.2.2.2, n6, fun z => ?_⟩, ho, h4, h5, h3, h1, hf⟩
  · rw [n4]
    show 0 = ye_nu (k, _)
    unfold ye_nu
    rw [if_neg (by show ¬ (k = 4 ∨ k = 5); omega), if_neg (by show ¬ (k = 3 ∨ k = 8); omega)]
  · have : k = 4 ∨ k = 5 := z
    omega
set_option maxRecDepth 100000 in
/-- takeConstant -/
theorem ys_69 {K : Int → zq_S → Prop} {j : Nat} {k p c lev : Int} {key : List Int} (hR : zq_o 3 R) (ha : zq_o 1 a) (ht : zq_o 4 t) (hra : zq_r s R 0 = some a) (hrt : zq_r s R 1 = some t) (ho : yc_ok s a) (hj : j < 1000000) (hl : (zq_str j).length ≤ 5) (hc : ∀ c ∈ zq_str j, 0 < c ∧ c < 65536) (hp : zq_i s R 5 = p) (p0 : 0 ≤ p) (p1 : p ≤ 1000) (hlev : zq_i s R 3 = lev) (hlv : zq_iv lev) (hkey : zq_l s R 4 = ye_pk key 0) (hcn : zq_i s t 0 = c) (c0 : 0 ≤ c) (c1 : c < 12) (hk : k ≠ 3 ∧ k ≠ 4 ∧ k ≠ 5 ∧ k ≠ 8) (hki : zq_iv k)
    (kf : ¬ (yp_has (yc_t s a) (zq_str j) p = true ∧ yp_wc (yc_t s a (p + (zq_str j).length)) = false) → K 0 s)
    (kk : yp_has (yc_t s a) (zq_str j) p = true ∧ yp_wc (yc_t s a (p + (zq_str j).length)) = false → ∀ s', yc_v s s' R t c lev (p + (zq_str j).length) (yr_nd (yc_t s a) k p key) → K 1 s') : zq_Ex X 69 0 [.ref R, .ref (1000000 + j), zq_vi k, zz_no] [] s (zq_rp zq_bo K) := by
  refine zq_have (fun hR0 => ?_)
  refine zw_69 hR hj (by omega) hki ⟨a, hra, ?_⟩
  rw [hp]
  refine ys_49 ha ho ⟨by omega, by omega⟩ hj (by omega) hc (yb_if (fun h => ?_) (fun h => ?_))
  · exact kf (fun z => by rw [h] at z; cases z.1)
  · refine ⟨a, hra, ys_29 ha ho ⟨by omega, by omega⟩ (ys_65 (yp_cd_in hR0 _) (yb_if (fun h2 => ?_) (fun h2 => ?_)))⟩
    · rw [yc_cd (p := yp_wc) rfl rfl] at h2
      refine ys_58 hR ht hrt hki ⟨by omega, by omega⟩ hlev hlv hkey hcn c0 c1 (fun s' b1 b2 b3 b4 b5 b6 b7 => kk ⟨h, h2⟩ s' (yc_v_plain b1 b2 b3 b4 b5 b6 b7 hk))
    · rw [yc_cd (p := yp_wc) rfl rfl] at h2
      exact kf (fun z => by rw [h2] at z; cases z.2)
set_option maxRecDepth 100000 in
/-- takeNumber -/
theorem ys_66 {K : Int → zq_S → Prop} {p c lev : Int} {key : List Int} (hR : zq_o 3 R) (ha : zq_o 1 a) (ht : zq_o 4 t) (hra : zq_r s R 0 = some a) (hrt : zq_r s R 1 = some t) (ho : yc_ok s a) (hp : zq_i s R 5 = p) (p0 : 0 ≤ p) (p1 : p ≤ 1000) (hlev : zq_i s R 3 = lev) (hlv : zq_iv lev) (hkey : zq_l s R 4 = ye_pk key 0) (hcn : zq_i s t 0 = c) (c0 : 0 ≤ c) (c1 : c < 12)
    (kf : yp_isI (yc_t s a) p (yp_wd (yc_t s a) p) = false → K 0 s)
    (kk : yp_isI (yc_t s a) p (yp_wd (yc_t s a) p) = true → ∀ s', yc_v s s' R t c lev (yp_wd (yc_t s a) p) (yr_nd (yc_t s a) 3 p key) → K 1 s') : zq_Ex X 66 0 [.ref R, zz_no, zz_no, zz_no, zz_no] [] s (zq_rp zq_bo K) := by
  have hT := ho.T ha
  have w1 := yp_wd_le (T := yc_t s a) p
  have w2 := yp_wd_lt hT p1
  have dRt := yk_Rt hR ht
  have ecd : yp_cd (yc_t s a p) = 45 ↔ yc_t s a p = 45 := by unfold yp_cd; split <;> omega
  -- digits from b on
  have dg : ∀ b : Int, yp_from (yc_t s a) p = b → (yp_dgs (yc_t s a) b (yp_wd (yc_t s a) p) = -1 ↔ yp_isI (yc_t s a) p (yp_wd (yc_t s a) p) = false) ∧ (yp_isI (yc_t s a) p (yp_wd (yc_t s a) p) = true → yp_dgs (yc_t s a) b (yp_wd (yc_t s a) p) = yp_val (yc_t s a) (yp_wd (yc_t s a) p - b).toNat b 0 ∧ 0 ≤ yp_dgs (yc_t s a) b (yp_wd (yc_t s a) p) ∧ yp_dgs (yc_t s a) b (yp_wd (yc_t s a) p) < 1000000) := by
    intro b hb
    unfold yp_isI yp_dgs
    rw [hb]
    by_cases h1 : yp_wd (yc_t s a) p ≤ b ∨ 6 < yp_wd (yc_t s a) p - b
    · rw [if_pos h1, decide_eq_false (by omega)]
      exact ⟨⟨fun _ => rfl, fun _ => rfl⟩, fun z => by cases z⟩
    · rw [if_neg h1, decide_eq_true (by omega), Bool.true_and]
      cases hal : yp_all (yc_t s a) (yp_wd (yc_t s a) p - b).toNat b with
      | false => simp
      | true =>
        have := yp_val_6 hal (by omega)
        rw [if_pos rfl]
        refine ⟨⟨fun z => by omega, fun z => by cases z⟩, fun _ => ⟨rfl, this.1, this.2⟩⟩
  -- the node with its number
  have fin : ∀ (b v : Int), yp_from (yc_t s a) p = b → yp_isI (yc_t s a) p (yp_wd (yc_t s a) p) = true → v = yp_num (yc_t s a) p (yp_wd (yc_t s a) p) → zq_Ex X 58 0 [.ref R, zq_vi 3, zq_vi (yp_wd (yc_t s a) p), zz_no] [] s (zq_rp zq_iv fun x_36 s_35 => (∃ b_39 : Nat, zq_r s_35 R 1 = some b_39 ∧ (((0 : Int) ≤ x_36 ∧ x_36 < (12 : Int)) ∧ K 1 (zq_si s_35 (b_39 + 3) x_36 v)))) := by
    intro b v hb hi hv
    refine ys_58 hR ht hrt (by decide) ⟨by omega, by omega⟩ hlev hlv hkey hcn c0 c1 (fun s' b1 b2 b3 b4 b5 b6 b7 => ⟨t, by rw [b7.r]; exact hrt, ⟨c0, c1⟩, kk hi _ ?_⟩)
    obtain ⟨n1, n2, n3, n4, n5, n6⟩ := b1
    have f2 : ycf [t + 3] s' (zq_si s' (t + 3) c v) := ycf.si (by simp)
    have r3 : R ∉ [t + 3] ∧ R + 1 ∉ [t + 3] := by simp at dRt ⊢; omega
    refine ⟨?_, ⟨?_, ?_, ?_, (fun z => by have z : (3 : Int) = 8 := z; omega), ?_, (fun z => by have z : (3 : Int) = 4 ∨ (3 : Int) = 5 := z; omega)⟩, b2.trans (fun q q0 q1 => ⟨?_, ?_, ?_, ?_, ?_, fun i i0 i1 => ?_⟩), ?_, ?_, ?_, ?_, b7.trans (f2.mono (by simp))⟩
    · rw [f2.i (by simp)]; exact n1
    · rw [f2.i (by simp)]; exact n2
    · rw [f2.i (by simp)]; exact n3
    · rw [zq_i_si, if_pos ⟨rfl, rfl⟩, hv]; rfl
    · rw [f2.l (by simp)]; exact n6
    · rw [f2.i (by simp)]
    · rw [f2.i (by simp)]
    · rw [zq_i_si, if_neg (fun z => by have := z.2; omega)]
    · rw [f2.i (by simp)]
    · rw [f2.l (by simp)]
    · rw [f2.i (by simp)]
    · rw [f2.l r3.1]; exact b3
    · rw [f2.i r3.1]; exact b4
    · rw [f2.i r3.1]; exact b5
    · rw [f2.i r3.2]; exact b6
  refine zw_66 hR ⟨a, hra, ?_⟩
  rw [hp]
  refine ys_67 ha ho p0 p1 ⟨a, hra, ?_⟩
  rw [hp]
  refine ys_29 ha ho ⟨by omega, by omega⟩ ?_
  by_cases h45 : yc_t s a p = 45
  · rw [if_pos (ecd.mpr h45)]
    have hb : yp_from (yc_t s a) p = p + 1 := if_pos h45
    refine ⟨a, hra, ?_⟩
    rw [hp]
    refine ys_68 ha ho ⟨by omega, by omega⟩ ⟨by omega, by omega⟩ ?_
    have dd := dg (p + 1) hb
    split
    · next h => exact kf (dd.1.mp h)
    · next h =>
      have hi : yp_isI (yc_t s a) p (yp_wd (yc_t s a) p) = true := by
        cases hz : yp_isI (yc_t s a) p (yp_wd (yc_t s a) p) with
        | true => rfl
        | false => exact absurd (dd.1.mpr hz) h
      obtain ⟨q1, q2, q3⟩ := dd.2 hi
      have hv : -(yp_dgs (yc_t s a) (p + 1) (yp_wd (yc_t s a) p)) = yp_num (yc_t s a) p (yp_wd (yc_t s a) p) := by
        unfold yp_num
        rw [if_pos h45, q1]
      refine zq_Ex.mono (fin (p + 1) _ hb hi hv) (fun o s1 ⟨x, e1, e2, b, e3, e4, e5⟩ => ⟨x, e1, e2, b, e3, e4, ⟨by omega, by omega⟩, e5⟩)
  · rw [if_neg (fun z => h45 (ecd.mp z))]
    have hb : yp_from (yc_t s a) p = p := if_neg h45
    refine ⟨a, hra, ?_⟩
    rw [hp]
    refine ys_68 ha ho ⟨by omega, by omega⟩ ⟨by omega, by omega⟩ ?_
    have dd := dg p hb
    split
    · next h => exact kf (dd.1.mp h)
    · next h =>
      have hi : yp_isI (yc_t s a) p (yp_wd (yc_t s a) p) = true := by
        cases hz : yp_isI (yc_t s a) p (yp_wd (yc_t s a) p) with
        | true => rfl
        | false => exact absurd (dd.1.mpr hz) h
      obtain ⟨q1, q2, q3⟩ := dd.2 hi
      have hv : yp_dgs (yc_t s a) p (yp_wd (yc_t s a) p) = yp_num (yc_t s a) p (yp_wd (yc_t s a) p) := by
        unfold yp_num
        rw [if_neg h45, q1]
      exact fin p _ hb hi hv
end YCP
