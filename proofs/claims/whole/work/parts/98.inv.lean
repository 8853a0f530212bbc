/-! THE INVARIANT between the class and the reference -/
/-- keys of a dictionary are all different; the keys so far of the open ones -/
def ye_kd : List (List (List Int)) → List ye_E → Prop
  | _, [] => True
  | [], .inl d :: es => ye_kd (if ye_nest d = true then [[]] else []) es
  | ks :: st, .inl d :: es => (d.2.2.2.1 = [] ∨ d.2.2.2.1 ∉ ks) ∧ ye_kd (if ye_nest d = true then [] :: (d.2.2.2.1 :: ks) :: st else (d.2.2.2.1 :: ks) :: st) es
  | st, .inr _ :: es => ye_kd st.tail es
/-- one value as the table keeps it -/
def yv (es : List ye_E) : Prop := (∃ d es', es = .inl d :: es' ∧ ye_rest d es' = some []) ∧ ye_wf [] es ∧ yr_many es ≤ 12 ∧ (ye_dm (0, 0) es).2 ≤ 5 ∧ ye_kd [] es
/-- draft, file, values, contents, the file's cell, the table's -/
abbrev yA : Type := List Int × List Int × (Nat → List ye_E) × (Nat → List Int) × Nat × Nat
/-- an object's slot in the table at t -/
def ysl (t o : Nat) : Nat := t + 9 + 10 * (o - 1)
/-- characters in a row of the reference -/
def yrow (s : zq_S) (b : Nat) (k : Int) (l : List Int) : Prop := ∀ i : Nat, i < l.length → zq_i s b (k + i) = l.getD i 0
def yI_txt (s : zq_S) (dr fl : List Int) (F : Nat) : Prop := (∃ v, yx s 1 (dr, v)) ∧ (∀ c ∈ dr, yp_isC c = true) ∧ zq_i s 232 1 = dr.length ∧ yrow s 233 0 dr ∧ (∃ v, yx s F (fl, v)) ∧ (∀ c ∈ fl, yp_isC c = true) ∧ zq_i s 232 3 = fl.length ∧ yrow s 234 0 fl
def yI_top (s : zq_S) (F t : Nat) : Prop := (F = 23 ∨ F = 25) ∧ (t = 27 ∨ t = 126) ∧ zq_r s 0 6 = some F ∧ zq_r s 0 7 = some (48 - F) ∧ zq_r s 0 8 = some t ∧ zq_r s 0 9 = some (153 - t) ∧ zq_i s 0 11 = zq_i s 232 21 ∧ zq_i s 0 12 = zq_i s 232 22 ∧ zq_i s t 2 = zq_i s 232 17 ∧ zq_i s t 3 = zq_i s 232 18 ∧ (0 ≤ zq_i s 232 17 ∧ zq_i s 232 17 ≤ 9) ∧ (0 ≤ zq_i s 232 18 ∧ zq_i s 232 18 ≤ 9)
/-- the trees of all slots and the spare one -/
def ytl (s : zq_S) : List (Option Nat) := zq_r s 0 10 :: ((List.range 9).map (fun i => zq_r s (36 + 10 * i) 4) ++ (List.range 9).map (fun i => zq_r s (135 + 10 * i) 4))
def ye_null : ye_N := (0, 0, 0, [], [])
def yI_tre (s : zq_S) : Prop := (∃ l : List Nat, ytl s = l.map some ∧ l.Nodup ∧ ∀ b ∈ l, zq_o 4 b ∧ 29 < b ∧ b ≠ 128) ∧ yt_tr s 29 0 0 [.inl ye_null] ∧ yt_tr s 128 0 0 [.inl ye_null]
/-- an object in use -/
def yI_use (s : zq_S) (sl o : Nat) (es : List ye_E) (ct : List Int) : Prop := (∃ tr, zq_r s sl 4 = some tr ∧ yt_tr s tr 0 0 es) ∧ yv es ∧ zq_i s 240 o = (ye_pr true es).length ∧ yrow s 241 (500 * o) (ye_pr true es) ∧ zq_i s sl 2 = zq_i s 242 o ∧ (zq_i s sl 2 = 1 → (∃ d es', es = .inl d :: es' ∧ d.1 = 7) ∧ (∃ v, yx s (sl + 8) (ct, v)) ∧ (∀ c ∈ ct, 32 ≤ c ∧ c ≤ 126) ∧ zq_i s 243 o = ct.length ∧ yrow s 244 (12 * o) ct)
def yI_slot (s : zq_S) (sl o : Nat) (es : List ye_E) (ct : List Int) : Prop := (zq_bo (zq_i s sl 0) ∧ zq_bo (zq_i s sl 1) ∧ zq_bo (zq_i s sl 2)) ∧ zq_i s sl 0 = zq_i s 237 o ∧ zq_i s sl 1 = zq_i s 239 o ∧ zq_i s sl 3 = zq_i s 238 o ∧ (0 ≤ zq_i s sl 3 ∧ zq_i s sl 3 ≤ 9) ∧ (zq_i s sl 0 = 1 → yI_use s sl o es ct)
def yI_tab (s : zq_S) (t : Nat) (ev : Nat → List ye_E) (ct : Nat → List Int) : Prop := ∀ o : Nat, 1 ≤ o → o ≤ 9 → yI_slot s (ysl t o) o (ev o) (ct o)
/-- the cursor's tree -/
def ycu (s : zq_S) (t o : Nat) : Option Nat := if o = 0 then some (t + 2) else zq_r s (ysl t o) 4
def yI_cur (s : zq_S) (t : Nat) (ev : Nat → List ye_E) : Prop := (zq_i s 232 19 = -1 ∧ zq_r s 3 0 = none) ∨ ∃ (o : Nat) (pre : List ye_E) (d : ye_N) (es : List ye_E), o ≤ 9 ∧ zq_i s 232 19 = o ∧ (o ≠ 0 → zq_i s 237 o = 1) ∧ zq_r s 3 0 = ycu s t o ∧ ev o = pre ++ .inl d :: es ∧ zq_i s 3 1 = yr_many pre ∧ zq_i s 232 20 = ((ye_pr true (pre ++ [.inl d])).length : Int) - (ye_op d).length
def yI_ref (s : zq_S) : Prop := zq_i s 240 0 = 4 ∧ yrow s 241 0 [110, 117, 108, 108] ∧ ym_nm s 256 [76, 101, 110, 103, 116, 104] ∧ ym_nm s 257 [82, 111, 111, 116] ∧ ym_nm s 258 [80, 114, 101, 118]
def yI (s : zq_S) (A : yA) : Prop := yI_txt s A.1 A.2.1 A.2.2.2.2.1 ∧ yI_top s A.2.2.2.2.1 A.2.2.2.2.2 ∧ yI_tre s ∧ yI_tab s A.2.2.2.2.2 A.2.2.1 A.2.2.2.1 ∧ yI_cur s A.2.2.2.2.2 A.2.2.1 ∧ A.2.2.1 0 = [.inl ye_null] ∧ yI_ref s ∧ ym_I s
/-- what a call of the class's helpers may change without touching the invariant -/
def yirr (F b : Nat) : Prop := (4 ≤ b ∧ b ≤ 22) ∨ b = 48 - F ∨ b = 49 - F ∨ b = 235 ∨ b = 236 ∨ (245 ≤ b ∧ b ≤ 255) ∨ b = 259
abbrev yJ : List Int := [1, 3, 17, 18, 19, 20, 21, 22]
def yk (F : Nat) (s s' : zq_S) : Prop := (∀ b, ¬ yirr F b → b ≠ 232 → zq_i s' b = zq_i s b) ∧ (∀ j ∈ yJ, zq_i s' 232 j = zq_i s 232 j) ∧ (∀ b, ¬ (4 ≤ b ∧ b ≤ 22) → zq_r s' b = zq_r s b) ∧ (∀ b, ¬ (4 ≤ b ∧ b ≤ 22) → b ≠ 259 → zq_l s' b = zq_l s b)
set_option maxRecDepth 100000 in
theorem yk.refl (F : Nat) (s : zq_S) : yk F s s := ⟨fun _ _ _ => rfl, fun _ _ => rfl, fun _ _ => rfl, fun _ _ _ => rfl⟩
set_option maxRecDepth 100000 in
theorem yk.trans {F : Nat} {s s1 s2 : zq_S} (h1 : yk F s s1) (h2 : yk F s1 s2) : yk F s s2 := ⟨fun b x y => (h2.1 b x y).trans (h1.1 b x y), fun j hj => (h2.2.1 j hj).trans (h1.2.1 j hj), fun b x => (h2.2.2.1 b x).trans (h1.2.2.1 b x), fun b x y => (h2.2.2.2 b x y).trans (h1.2.2.2 b x y)⟩
set_option maxRecDepth 100000 in
theorem yx.cong {s s' : zq_S} {a : Nat} {q : List Int × Int} (h : yx s a q) (h1 : zq_i s' a = zq_i s a) (h2 : zq_i s' (a + 1) = zq_i s (a + 1)) : yx s' a q := by
  unfold yx
  rw [h1, h2]
  exact h
set_option maxRecDepth 100000 in
theorem yrow.cong {s s' : zq_S} {b : Nat} {k : Int} {l : List Int} (h : yrow s b k l) (h1 : zq_i s' b = zq_i s b) : yrow s' b k l := by
  unfold yrow
  rw [h1]
  exact h
set_option maxRecDepth 100000 in
theorem yt_tr.cong {s s' : zq_S} {a : Nat} {k l : Int} {es : List ye_E} (h : yt_tr s a k l es) (h1 : ∀ q ∈ yc_t7 a, zq_i s' q = zq_i s q) (h2 : zq_l s' (a + 5) = zq_l s (a + 5)) : yt_tr s' a k l es := by
  unfold yt_tr yt_ns yt_nd
  rw [h1 a (by simp), h1 (a + 1) (by simp), h1 (a + 2) (by simp), h1 (a + 3) (by simp), h1 (a + 4) (by simp), h1 (a + 6) (by simp), h2]
  exact h
set_option maxRecDepth 100000 in
/-- all trees of the table lie behind it -/
theorem yk_tree {a : Nat} (h : zq_o 4 a) (h1 : 29 < a ∧ a ≠ 128) : 30 ≤ a ∧ a + 6 ≤ 231 := by
  have h0 : a < 260 := zq_k_lt h (by decide)
  have key : ∀ a : Nat, a < 260 → zq_k a = (0, 4, 0) → a + 6 ≤ 231 := by decide +kernel
  exact ⟨by omega, key a h0 h⟩
set_option maxRecDepth 100000 in
theorem yI_tre.tr {s : zq_S} (h : yI_tre s) {i : Nat} (hi : i < 9) : (∃ a, zq_r s (36 + 10 * i) 4 = some a ∧ zq_o 4 a ∧ 29 < a ∧ a ≠ 128) ∧ (∃ a, zq_r s (135 + 10 * i) 4 = some a ∧ zq_o 4 a ∧ 29 < a ∧ a ≠ 128) := by
  obtain ⟨⟨l, h1, h2, h3⟩, _⟩ := h
  have key : ∀ q ∈ ytl s, ∃ a, q = some a ∧ zq_o 4 a ∧ 29 < a ∧ a ≠ 128 := fun q hq => by
    rw [h1] at hq
    obtain ⟨a, ha, e⟩ := List.mem_map.mp hq
    exact ⟨a, e.symm, h3 a ha⟩
  constructor
  · exact key _ (List.mem_cons_of_mem _ (List.mem_append_left _ (List.mem_map.mpr ⟨i, List.mem_range.mpr hi, rfl⟩)))
  · exact key _ (List.mem_cons_of_mem _ (List.mem_append_right _ (List.mem_map.mpr ⟨i, List.mem_range.mpr hi, rfl⟩)))
set_option maxRecDepth 100000 in
/-- a slot's tree -/
theorem yI_tre.slot {s : zq_S} (h : yI_tre s) {t o : Nat} (ht : t = 27 ∨ t = 126) (h1 : 1 ≤ o) (h9 : o ≤ 9) : ∃ a, zq_r s (ysl t o) 4 = some a ∧ zq_o 4 a ∧ 29 < a ∧ a ≠ 128 := by
  have := h.tr (i := o - 1) (by omega)
  unfold ysl
  rcases ht with z | z
  · subst z; exact this.1
  · subst z; exact this.2
set_option maxRecDepth 100000 in
theorem yk.yI {F : Nat} {s s' : zq_S} {A : yA} (h : yI s A) (hF : F = A.2.2.2.2.1) (k : yk F s s') (hm : ym_I s') : yI s' A := by
  obtain ⟨dr, fl, ev, ct, F', t⟩ := A
  have hF : F = F' := hF
  subst hF
  obtain ⟨a1, a2, a3, a4, a5, a6, a7, a8⟩ := h
  obtain ⟨k1, k2, k3, k4⟩ := k
  obtain ⟨f1, f2, t3, t4, t5, t6, t7, t8, t9, t10, t11, t12⟩ := a2
  have f1 : F = 23 ∨ F = 25 := f1
  have f2 : t = 27 ∨ t = 126 := f2
  have ni : ∀ b, (b < 4 ∨ (27 ≤ b ∧ b < 235 ∧ b ≠ 232) ∨ (237 ≤ b ∧ b < 245) ∨ (256 ≤ b ∧ b < 259) ∨ b = F ∨ b = F + 1) → zq_i s' b = zq_i s b := fun b hb => k1 b (by unfold yirr; omega) (by omega)
  have nr : ∀ b, (b < 4 ∨ 23 ≤ b) → zq_r s' b = zq_r s b := fun b hb => k3 b (by omega)
  have nl : ∀ b, 23 ≤ b → b < 259 → zq_l s' b = zq_l s b := fun b hb hb' => k4 b (by omega) (by omega)
  have hsl : ∀ o : Nat, 1 ≤ o → o ≤ 9 → 27 ≤ ysl t o ∧ ysl t o + 9 < 232 := fun o h1 h2 => by unfold ysl; omega
  have ntr : ∀ (a : Nat) (es : List ye_E), (a = 29 ∨ a = 128 ∨ (zq_o 4 a ∧ 29 < a ∧ a ≠ 128)) → yt_tr s a 0 0 es → yt_tr s' a 0 0 es := fun a es ha htr => by
    have hb : 27 ≤ a ∧ a + 6 < 232 := by
      rcases ha with z | z | ⟨z1, z2⟩
      · omega
      · omega
      · have := yk_tree z1 z2; omega
    refine htr.cong (fun q hq => ni q ?_) (nl _ (by omega) (by omega))
    simp at hq
    omega
  have htre := a3
  refine ⟨?_, ?_, ?_, ?_, ?_, a6, ?_, hm⟩
  · obtain ⟨⟨v1, b1⟩, b2, b3, b4, ⟨v2, b5⟩, b6, b7, b8⟩ := a1
    exact ⟨⟨v1, b1.cong (ni 1 (by omega)) (ni 2 (by omega))⟩, b2, (k2 1 (by simp)).trans b3, b4.cong (ni 233 (by omega)), ⟨v2, b5.cong (ni F (by omega)) (ni (F + 1) (by omega))⟩, b6, (k2 3 (by simp)).trans b7, b8.cong (ni 234 (by omega))⟩
  · refine ⟨f1, f2, ?_, ?_, ?_, ?_, ?_, ?_, ?_, ?_, ?_, ?_⟩
    · rw [nr 0 (by omega)]; exact t3
    · rw [nr 0 (by omega)]; exact t4
    · rw [nr 0 (by omega)]; exact t5
    · rw [nr 0 (by omega)]; exact t6
    · rw [ni 0 (by omega), k2 21 (by simp)]; exact t7
    · rw [ni 0 (by omega), k2 22 (by simp)]; exact t8
    · show zq_i s' t 2 = _
      rw [ni t (by omega), k2 17 (by simp)]; exact t9
    · show zq_i s' t 3 = _
      rw [ni t (by omega), k2 18 (by simp)]; exact t10
    · rw [k2 17 (by simp)]; exact t11
    · rw [k2 18 (by simp)]; exact t12
  · obtain ⟨⟨l, c1, c2, c3⟩, c4, c5⟩ := a3
    refine ⟨⟨l, ?_, c2, c3⟩, ntr 29 _ (Or.inl rfl) c4, ntr 128 _ (Or.inr (Or.inl rfl)) c5⟩
    rw [← c1]
    unfold ytl
    rw [nr 0 (by omega)]
    congr 2
    · exact List.map_congr_left fun i hi => by rw [nr (36 + 10 * i) (by omega)]
    · exact List.map_congr_left fun i hi => by rw [nr (135 + 10 * i) (by omega)]
  · intro o h1 h9
    obtain ⟨d1, d2, d3, d4, d5, d6⟩ := a4 o h1 h9
    have hs := hsl o h1 h9
    have es : zq_i s' (ysl t o) = zq_i s (ysl t o) := ni _ (by omega)
    show yI_slot s' (ysl t o) o (ev o) (ct o)
    unfold yI_slot
    rw [es, ni 237 (by omega), ni 239 (by omega), ni 238 (by omega)]
    refine ⟨d1, d2, d3, d4, d5, fun z => ?_⟩
    obtain ⟨⟨tr, e1, e2⟩, e3, e4, e5, e6, e7⟩ := d6 z
    obtain ⟨a, g1, g2⟩ := htre.slot f2 h1 h9
    have : a = tr := Option.some.inj (g1.symm.trans e1)
    subst this
    unfold yI_use
    rw [es, ni 240 (by omega), ni 242 (by omega), ni 243 (by omega), nr (ysl t o) (by omega)]
    refine ⟨⟨a, e1, ntr a _ (Or.inr (Or.inr g2)) e2⟩, e3, e4, e5.cong (ni 241 (by omega)), e6, fun z2 => ?_⟩
    obtain ⟨w1, ⟨v, w2⟩, w3, w4, w5⟩ := e7 z2
    exact ⟨w1, ⟨v, w2.cong (ni (ysl t o + 8) (by omega)) (ni (ysl t o + 8 + 1) (by omega))⟩, w3, w4, w5.cong (ni 244 (by omega))⟩
  · rcases a5 with ⟨e1, e2⟩ | ⟨o, pre, d, es, e1, e2, e3, e4, e5, e6, e7⟩
    · left
      rw [k2 19 (by simp), nr 3 (by omega)]
      exact ⟨e1, e2⟩
    · right
      refine ⟨o, pre, d, es, e1, ?_, ?_, ?_, e5, ?_, ?_⟩
      · rw [k2 19 (by simp)]; exact e2
      · rw [ni 237 (by omega)]; exact e3
      · rw [nr 3 (by omega), e4]
        unfold ycu
        split
        · rfl
        · next ho =>
          show zq_r s (ysl t o) 4 = zq_r s' (ysl t o) 4
          have := hsl o (by omega) e1
          rw [nr (ysl t o) (by omega)]
      · rw [ni 3 (by omega)]; exact e6
      · rw [k2 20 (by simp)]; exact e7
  · obtain ⟨e1, e2, e3, e4, e5⟩ := a7
    refine ⟨?_, e2.cong (ni 241 (by omega)), ?_, ?_, ?_⟩
    · rw [ni 240 (by omega)]; exact e1
    · unfold ym_nm; rw [ni 256 (by omega)]; exact e3
    · unfold ym_nm; rw [ni 257 (by omega)]; exact e4
    · unfold ym_nm; rw [ni 258 (by omega)]; exact e5
