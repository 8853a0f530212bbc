/-! load: entries of a table; the class takes them -/
abbrev yLt := Nat → Option (Bool × Int × Int)
def yl_en (T : Int → Int) (p : Int) : Bool := yp_dg (T p) && yp_dg (T (p + 1)) && yp_dg (T (p + 2)) && decide (T (p + 3) = 32) && yp_dg (T (p + 4)) && decide (T (p + 5) = 32) && (decide (T (p + 6) = 110) || decide (T (p + 6) = 102)) && decide (T (p + 7) = 10)
def yl_es (T : Int → Int) (p : Int) : Bool × Int × Int := (decide (T (p + 6) = 110), yp_val T 3 p 0, T (p + 4) - 48)
def yl_put (T : Int → Int) (o : Nat) (p : Int) (E : yLt) : yLt := fun i => if i = o ∧ E o = none then some (yl_es T p) else E i
def yl_rn (T : Int → Int) : Nat → Nat → Int → yLt → Option (Int × yLt)
  | 0, _, p, E => some (p, E)
  | k + 1, o, p, E => if yl_en T p = true then yl_rn T k (o + 1) (p + 8) (yl_put T o p E) else none
def yl_hd (T : Int → Int) (p : Int) : Bool := decide (49 ≤ T p ∧ T p ≤ 57 ∧ T (p + 1) = 32 ∧ 49 ≤ T (p + 2) ∧ T (p + 2) ≤ 57 ∧ T (p + 3) = 10 ∧ (T p - 48) + (T (p + 2) - 48) ≤ 10)
def yl_run (T : Int → Int) (p : Int) (E : yLt) : Option (Int × yLt) := if yl_hd T p = true then yl_rn T (T (p + 2) - 48).toNat (T p - 48).toNat (p + 4) E else none
def yl_sec (T : Int → Int) : Nat → Int → yLt → Option (Int × yLt)
  | 0, p, E => some (p, E)
  | f + 1, p, E => if yp_dg (T p) = true then (match yl_run T p E with
    | none => none
    | some (p', E') => yl_sec T f p' E') else some (p, E)
set_option maxRecDepth 100000 in
theorem yp_dg_iff {c : Int} : yp_dg c = true ↔ 48 ≤ c ∧ c ≤ 57 := by
  unfold yp_dg
  exact decide_eq_true_iff
set_option maxRecDepth 100000 in
theorem yl_dgs (T : Int → Int) (p : Int) : yp_dgs T p (p + 3) = if (yp_dg (T p) && yp_dg (T (p + 1)) && yp_dg (T (p + 2))) = true then yp_val T 3 p 0 else -1 := by
  unfold yp_dgs
  rw [if_neg (by omega), show (p + 3 - p).toNat = 3 by omega]
  have e : yp_all T 3 p = (yp_dg (T p) && yp_dg (T (p + 1)) && yp_dg (T (p + 2))) := by
    show (yp_dg (T p) && (yp_dg (T (p + 1)) && (yp_dg (T (p + 1 + 1)) && true))) = _
    rw [Bool.and_true, show p + 1 + 1 = p + 2 by omega, Bool.and_assoc]
  rw [e]
set_option maxRecDepth 100000 in
theorem yl_val3 {T : Int → Int} {p : Int} (h0 : 48 ≤ T p ∧ T p ≤ 57) (h1 : 48 ≤ T (p + 1) ∧ T (p + 1) ≤ 57) (h2 : 48 ≤ T (p + 2) ∧ T (p + 2) ≤ 57) : 0 ≤ yp_val T 3 p 0 ∧ yp_val T 3 p 0 ≤ 999 := by
  have e : yp_val T 3 p 0 = ((0 * 10 + (T p - 48)) * 10 + (T (p + 1) - 48)) * 10 + (T (p + 1 + 1) - 48) := by
    first
    | rfl
    | (simp only [yp_val]; omega)
  rw [show p + 1 + 1 = p + 2 by omega] at e
  omega
set_option maxRecDepth 100000 in
theorem yl_en_iff {T : Int → Int} {p : Int} : yl_en T p = true ↔ (48 ≤ T p ∧ T p ≤ 57) ∧ (48 ≤ T (p + 1) ∧ T (p + 1) ≤ 57) ∧ (48 ≤ T (p + 2) ∧ T (p + 2) ≤ 57) ∧ T (p + 3) = 32 ∧ (48 ≤ T (p + 4) ∧ T (p + 4) ≤ 57) ∧ T (p + 5) = 32 ∧ (T (p + 6) = 110 ∨ T (p + 6) = 102) ∧ T (p + 7) = 10 := by
  unfold yl_en
  simp only [Bool.and_eq_true, Bool.or_eq_true, decide_eq_true_eq, yp_dg_iff]
  constructor
  · rintro ⟨⟨⟨⟨⟨⟨⟨a, b⟩, c⟩, d⟩, e⟩, f⟩, g⟩, h⟩
    exact ⟨a, b, c, d, e, f, g, h⟩
  · rintro ⟨a, b, c, d, e, f, g, h⟩
    exact ⟨⟨⟨⟨⟨⟨⟨a, b⟩, c⟩, d⟩, e⟩, f⟩, g⟩, h⟩
set_option maxRecDepth 100000 in
theorem yp_has_nil (T : Int → Int) (p : Int) : yp_has T [] p = true := rfl
set_option maxRecDepth 100000 in
theorem yp_has_cons (T : Int → Int) (c : Int) (l : List Int) (p : Int) : yp_has T (c :: l) p = true ↔ T p = c ∧ yp_has T l (p + 1) = true := by
  show (decide (T p = c) && yp_has T l (p + 1)) = true ↔ _
  rw [Bool.and_eq_true, decide_eq_true_eq]
/-- the loader's view of the file -/
def ylk (S : zq_S) (F u : Nat) (T : Int → Int) : Prop := (F = 23 ∨ F = 25) ∧ (u = 27 ∨ u = 126) ∧ yc_ok S F ∧ yc_t S F = T ∧ zq_r S 7 6 = some F ∧ zq_r S 7 7 = some u
/-- what taking entries may change -/
def ylf (u : Nat) (s S : zq_S) : Prop := (∀ b (j : Int), (b = 7 → j ≠ 8) → b ≠ 18 → (∀ o : Nat, 1 ≤ o → o ≤ 9 → b = ysl u o → j ≠ 0 ∧ j ≠ 3) → zq_i S b j = zq_i s b j) ∧ S.2 = s.2
set_option maxRecDepth 100000 in
theorem ylf.refl (u : Nat) (s : zq_S) : ylf u s s := ⟨fun _ _ _ _ _ => rfl, rfl⟩
set_option maxRecDepth 100000 in
theorem ylf.trans {u : Nat} {s s1 s2 : zq_S} (h1 : ylf u s s1) (h2 : ylf u s1 s2) : ylf u s s2 := ⟨fun b j a1 a2 a3 => (h2.1 b j a1 a2 a3).trans (h1.1 b j a1 a2 a3), h2.2.trans h1.2⟩
set_option maxRecDepth 100000 in
theorem ylf.i {u : Nat} {s S : zq_S} (h : ylf u s S) {b : Nat} (h7 : b ≠ 7) (h8 : b ≠ 18) (ho : ∀ o : Nat, 1 ≤ o → o ≤ 9 → b ≠ ysl u o) : zq_i S b = zq_i s b := by
  funext j
  exact h.1 b j (fun z => absurd z h7) h8 (fun o o1 o9 z => absurd z (ho o o1 o9))
set_option maxRecDepth 100000 in
theorem ylf.r {u : Nat} {s S : zq_S} (h : ylf u s S) : zq_r S = zq_r s := by unfold zq_r; rw [h.2]
set_option maxRecDepth 100000 in
theorem ylk.fr {s S : zq_S} {F u : Nat} {T : Int → Int} (h : ylk s F u T) (f : ylf u s S) : ylk S F u T := by
  obtain ⟨h1, h2, h3, h4, h5, h6⟩ := h
  have c : ∀ b, b < 36 → b ≠ 7 → b ≠ 18 → zq_i S b = zq_i s b := fun b hb h7 h8 => f.i h7 h8 (fun o o1 o9 => by unfold ysl; omega)
  have c1 := c F (by omega) (by omega) (by omega)
  have c2 := c (F + 1) (by omega) (by omega) (by omega)
  refine ⟨h1, h2, ?_, ?_, by rw [f.r]; exact h5, by rw [f.r]; exact h6⟩
  · unfold yc_ok
    rw [c1, c2]
    exact h3
  · rw [← h4]
    unfold yc_t
    rw [c1, c2]
/-- the class's entries -/
def yLc (S : zq_S) (u : Nat) (E : yLt) : Prop := (∃ em : Nat, em < 1024 ∧ zq_i S 7 8 = em ∧ ∀ o : Nat, 1 ≤ o → o ≤ 9 → (em.testBit o = true ↔ E o ≠ none)) ∧ ∀ o : Nat, 1 ≤ o → o ≤ 9 → match E o with
  | none => zq_i S (ysl u o) 0 = 0 ∧ zq_i S (ysl u o) 3 = 0
  | some e => zq_i S (ysl u o) 0 = yb e.1 ∧ zq_i S 18 o = e.2.1 ∧ zq_i S (ysl u o) 3 = e.2.2
set_option maxRecDepth 100000 in
theorem yc_b {S : zq_S} {a : Nat} (h : yc_ok S a) (j : Int) : 0 ≤ yc_t S a j ∧ yc_t S a j ≤ 126 := by
  unfold yc_t
  split
  · next z =>
    have := h.2.2 j z.1 z.2
    unfold yp_isC at this
    have := of_decide_eq_true this
    omega
  · omega
set_option maxRecDepth 100000 in
theorem yc_cd_iv {S : zq_S} {a : Nat} (h : yc_ok S a) (j : Int) : zq_iv (yp_cd (yc_t S a j)) := by
  have := yc_b h j
  unfold yp_cd
  split
  · exact ⟨by decide, by decide⟩
  · exact ⟨by omega, by omega⟩
section YLF3
variable {X : Nat × (Nat → Int32)}
set_option maxRecDepth 100000 in
theorem ys_116 {S : zq_S} {F u : Nat} {T : Int → Int} (hk : ylk S F u T) {p : Int} (hp : -100 ≤ p ∧ p ≤ 1900) {K : Int → zq_S → Prop} (k : K (yb (yl_en T p)) S) : zq_Ex X 116 0 [.ref 7, zq_vi p] [] S (zq_rp zq_bo K) := by
  obtain ⟨f1, f2, hok, hT, r6, r7⟩ := hk
  have oF : zq_o 1 F := by rcases f1 with z | z <;> (subst z; decide +kernel)
  have s27 : zq_str 27 = [32, 110, 10] := by decide +kernel
  have s28 : zq_str 28 = [32, 102, 10] := by decide +kernel
  have no : ¬ (yl_en T p = true) → K 0 S := fun h => by
    cases e : yl_en T p with
    | true => exact absurd e h
    | false => rw [e] at k; exact k
  refine zw_116 ⟨by omega, by omega⟩ ⟨F, r6, ys_68 oF hok ⟨by omega, by omega⟩ ⟨by omega, by omega⟩ ?_⟩
  rw [hT, yl_dgs]
  by_cases hd : (yp_dg (T p) && yp_dg (T (p + 1)) && yp_dg (T (p + 2))) = true
  · have hd' := hd
    simp only [Bool.and_eq_true, yp_dg_iff] at hd'
    obtain ⟨⟨d0, d1⟩, d2⟩ := hd'
    have hv := yl_val3 d0 d1 d2
    rw [if_pos hd, if_neg (by omega)]
    refine ⟨F, r6, ys_29 oF hok ⟨by omega, by omega⟩ ?_⟩
    rw [hT]
    refine yl_if (fun h3 => ?_) (fun h3 => no (fun z => ?_))
    · have e3 : T (p + 3) = 32 := by
        unfold yp_cd at h3
        split at h3
        · cases h3
        · exact h3
      refine ⟨F, r6, ys_29 oF hok ⟨by omega, by omega⟩ ?_⟩
      rw [hT]
      have hcd : zq_iv (yp_cd (T (p + 4))) := by
        rw [← hT]
        exact yc_cd_iv hok _
      refine ys_64 hcd ?_
      rw [yp_dg_cd]
      cases h4 : yp_dg (T (p + 4)) with
      | false =>
        rw [if_pos (show yb false = 0 from rfl)]
        refine no (fun z => ?_)
        have := (yl_en_iff.mp z).2.2.2.2.1
        rw [← yp_dg_iff, h4] at this
        cases this
      | true =>
        rw [if_neg (show ¬ yb true = 0 by decide)]
        have d4 := yp_dg_iff.mp h4
        refine ⟨F, r6, ys_49 oF hok ⟨by omega, by omega⟩ (by decide) (by rw [s27]; decide) (by rw [s27]; decide) ?_⟩
        rw [hT, s27]
        have a1 : yp_has T [32, 110, 10] (p + 5) = true ↔ T (p + 5) = 32 ∧ T (p + 6) = 110 ∧ T (p + 7) = 10 := by
          rw [yp_has_cons, yp_has_cons, yp_has_cons, show p + 5 + 1 = p + 6 by omega, show p + 6 + 1 = p + 7 by omega]
          exact ⟨fun z => ⟨z.1, z.2.1, z.2.2.1⟩, fun z => ⟨z.1, z.2.1, z.2.2, rfl⟩⟩
        have a2 : yp_has T [32, 102, 10] (p + 5) = true ↔ T (p + 5) = 32 ∧ T (p + 6) = 102 ∧ T (p + 7) = 10 := by
          rw [yp_has_cons, yp_has_cons, yp_has_cons, show p + 5 + 1 = p + 6 by omega, show p + 6 + 1 = p + 7 by omega]
          exact ⟨fun z => ⟨z.1, z.2.1, z.2.2.1⟩, fun z => ⟨z.1, z.2.1, z.2.2, rfl⟩⟩
        cases h5 : yp_has T [32, 110, 10] (p + 5) with
        | true =>
          rw [if_neg (show ¬ yb true = 0 by decide)]
          have z5 := a1.mp h5
          have : yl_en T p = true := yl_en_iff.mpr ⟨d0, d1, d2, e3, d4, z5.1, Or.inl z5.2.1, z5.2.2⟩
          rw [this] at k
          exact k
        | false =>
          rw [if_pos (show yb false = 0 from rfl)]
          refine ⟨F, r6, ys_49 oF hok ⟨by omega, by omega⟩ (by decide) (by rw [s28]; decide) (by rw [s28]; decide) ?_⟩
          rw [hT, s28]
          cases h6 : yp_has T [32, 102, 10] (p + 5) with
          | true =>
            rw [if_neg (show ¬ yb true = 0 by decide)]
            have z5 := a2.mp h6
            have : yl_en T p = true := yl_en_iff.mpr ⟨d0, d1, d2, e3, d4, z5.1, Or.inr z5.2.1, z5.2.2⟩
            rw [this] at k
            exact k
          | false =>
            rw [if_pos (show yb false = 0 from rfl)]
            refine no (fun z => ?_)
            obtain ⟨_, _, _, _, _, y5, y6, y7⟩ := yl_en_iff.mp z
            rcases y6 with y6 | y6
            · rw [a1.mpr ⟨y5, y6, y7⟩] at h5; cases h5
            · rw [a2.mpr ⟨y5, y6, y7⟩] at h6; cases h6
    · have := (yl_en_iff.mp z).2.2.2.1
      rw [this] at h3
      exact h3 rfl
  · rw [if_neg hd, if_pos rfl]
    refine no (fun z => hd ?_)
    obtain ⟨y0, y1, y2, _⟩ := yl_en_iff.mp z
    simp only [Bool.and_eq_true, yp_dg_iff]
    exact ⟨⟨y0, y1⟩, y2⟩
end YLF3
