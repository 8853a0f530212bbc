/-! load: places met -/
def ysn (S : zq_S) (M : List Int) : Prop := ∀ q : Nat, q < 1024 → ((zq_l S 20 ((q / 64 : Nat) : Int)).toBitVec.getLsbD (q % 64) = true ↔ (q : Int) ∈ M)
section YLG8
variable {X : Nat × (Nat → Int32)}
set_option maxRecDepth 100000 in
theorem ys_112 {S : zq_S} {F u : Nat} {T : Int → Int} {M : List Int} (hk : ylk S F u T) (hs : ysn S M) {p : Int} (hp : -1000000 < p ∧ p < 1000000) {K : Int → zq_S → Prop} (k0 : (p < 0 ∨ zq_i S F 1 ≤ p ∨ p ∈ M) → ∀ S', ylH u S S' → K 0 S') (k1 : ¬ (p < 0 ∨ zq_i S F 1 ≤ p ∨ p ∈ M) → ∀ S', ylH u S S' → zq_i S' = zq_i S → ysn S' (p :: M) → K 1 S') : zq_Ex X 112 0 [.ref 7, zq_vi p, zz_no] [] S (zq_rp zq_bo K) := by
  obtain ⟨f1, f2, hok, hT, r6, r7⟩ := id hk
  have T9 : zq_T F = 999 := by rcases f1 with z | z <;> (subst z; decide +kernel)
  have hsz := hok.2.1
  rw [T9] at hsz
  refine zw_112 ⟨by omega, by omega⟩ (yl_if (fun h0 => k0 (Or.inl h0) S (ylH.refl _ _)) (fun h0 => ⟨F, r6, yl_if (fun h1 => ?_) (fun h1 => k0 (Or.inr (Or.inl (by omega))) S (ylH.refl _ _))⟩))
  obtain ⟨q, hq⟩ : ∃ q : Nat, p = q := ⟨p.toNat, by omega⟩
  subst hq
  have hq9 : q < 1024 := by omega
  have ed : zq_div (q : Int) 64 = ((q / 64 : Nat) : Int) := by
    rw [zq_div_nn ⟨by omega, by omega⟩ (by omega) ⟨by decide, by decide⟩ (by decide)]
    omega
  have em : zq_rem (q : Int) 64 = ((q % 64 : Nat) : Int) := by
    rw [zq_rem_nn ⟨by omega, by omega⟩ (by omega) ⟨by decide, by decide⟩ (by decide)]
    omega
  rw [ed, em]
  have bd : (0 : Int) ≤ ((q / 64 : Nat) : Int) ∧ ((q / 64 : Nat) : Int) < 16 := ⟨by omega, by omega⟩
  have hg := yb_get (zq_l S 20 ((q / 64 : Nat) : Int)) (k := q % 64) (by omega)
  have fr : ∀ y : Int64, ylH u S (zq_sl S 20 ((q / 64 : Nat) : Int) y) := fun y => ⟨fun _ _ _ _ _ => rfl, fun _ _ => rfl, fun b hb => by
    funext j
    rw [zq_l_sl, if_neg (fun z => by have := z.1; omega)], rfl⟩
  refine ⟨bd, yl_if (fun hz => ⟨bd, bd, k1 ?_ _ (fr _) rfl (fun i hi => ?_)⟩) (fun hz => ⟨bd, bd, k0 (Or.inr (Or.inr ?_)) _ (fr _)⟩)⟩
  · rintro (z | z | z)
    · exact h0 z
    · omega
    · have := (hs q hq9).mpr z
      rw [hg.mp hz] at this
      cases this
  · rw [zq_l_sl]
    by_cases e : i / 64 = q / 64
    · rw [if_pos ⟨rfl, by rw [e]⟩, yb_set _ (by omega) (by omega)]
      have h2 := hs i hi
      rw [e] at h2
      rw [Bool.or_eq_true, h2, decide_eq_true_eq, List.mem_cons]
      constructor
      · rintro (z | z)
        · exact Or.inr z
        · exact Or.inl (by omega)
      · rintro (z | z)
        · exact Or.inr (by omega)
        · exact Or.inl z
    · rw [if_neg (fun z => e (by have := z.2; omega)), hs i hi, List.mem_cons]
      exact ⟨Or.inr, fun z => z.elim (fun y => absurd (by omega) e) id⟩
  · refine (hs q hq9).mp ?_
    cases hb : (zq_l S 20 ((q / 64 : Nat) : Int)).toBitVec.getLsbD (q % 64) with
    | true => rfl
    | false => exact absurd (hg.mpr hb) hz
/-- the reference's places met -/
def ysm (S : zq_S) (M : List Int) : Prop := zq_i S 232 39 = M.length ∧ ∀ i : Nat, i < M.length → zq_i S 253 i = M.reverse.getD i 0
set_option maxRecDepth 100000 in
theorem ys_205 {S : zq_S} {M : List Int} (hM : ysm S M) (hl : M.length ≤ 200) {p : Int} (hp : zq_iv p) {K : Int → zq_S → Prop} (k : K (yb (decide (p ∈ M))) S) : zq_Ex X 205 0 [.ref 232, zq_vi p, zz_no, zz_no] [] S (zq_rp zq_bo K) := by
  have loop : ∀ (m i : Nat) (b : Bool), i + m = M.length → (b = decide (p ∈ M.reverse.take i)) → zq_Ex X 205 4 [.ref 232, zq_vi p, zq_vi (yb b), zq_vi (i : Int)] [] S (zq_rp zq_bo K) := by
    intro m
    induction m with
    | zero =>
      intro i b hi hb
      refine zw_205_4 hp (yb_bo b) ⟨by omega, by omega⟩ ?_
      rw [hM.1, if_neg (by omega)]
      have : b = decide (p ∈ M) := by
        rw [hb, List.take_of_length_le (by rw [List.length_reverse]; omega)]
        simp
      rw [this]
      exact k
    | succ m ih =>
      intro i b hi hb
      refine zw_205_4 hp (yb_bo b) ⟨by omega, by omega⟩ ?_
      rw [hM.1, if_pos (by omega), show (i : Int) + 1 = ((i + 1 : Nat) : Int) by omega]
      have hlt : i < M.reverse.length := by rw [List.length_reverse]; omega
      have et : M.reverse.take (i + 1) = M.reverse.take i ++ [M.reverse.getD i 0] := by
        rw [List.take_succ, List.getD_eq_getElem?_getD, List.getElem?_eq_getElem hlt]
        rfl
      have nx : ∀ b' : Bool, b' = (b || decide (p = M.reverse.getD i 0)) → b' = decide (p ∈ M.reverse.take (i + 1)) := fun b' h => by
        rw [h, hb, et]
        simp only [List.mem_append, List.mem_singleton]
        by_cases h1 : p ∈ M.reverse.take i
        · simp [h1]
        · simp [h1]
      have h253 : zq_i S 253 i = M.reverse.getD i 0 := hM.2 i (by omega)
      cases b with
      | false =>
        rw [if_pos (show yb false = 0 from rfl), h253]
        refine ⟨⟨by omega, by omega⟩, yl_if (fun h => ?_) (fun h => ?_)⟩
        · exact ih (i + 1) true (by omega) (nx true (by rw [decide_eq_true h.symm]; rfl))
        · exact ih (i + 1) false (by omega) (nx false (by rw [decide_eq_false (fun z => h z.symm)]; rfl))
      | true =>
        rw [if_neg (show ¬ yb true = 0 by decide)]
        exact ih (i + 1) true (by omega) (nx true rfl)
  exact zw_205 hp (loop M.length 0 false (by omega) rfl)
end YLG8
