/-! load: the chain of tables -/
set_option maxRecDepth 100000 in
theorem ypig : ∀ (N : Nat) (l : List Nat), l.Nodup → (∀ x ∈ l, x < N) → l.length ≤ N
  | 0, l, _, h => by
    cases l with
    | nil => exact Nat.le_refl _
    | cons x l => exact absurd (h x List.mem_cons_self) (Nat.not_lt_zero x)
  | N + 1, l, hn, h => by
    by_cases hm : N ∈ l
    · have h1 : (l.erase N).Nodup := hn.erase N
      have h2 : ∀ x ∈ l.erase N, x < N := fun x hx => by
        have hx' := (List.Nodup.mem_erase_iff hn).mp hx
        have := h x hx'.2
        omega
      have h3 := ypig N (l.erase N) h1 h2
      have h4 := List.length_erase_of_mem hm
      omega
    · have h3 := ypig N l hn (fun x hx => by
        have := h x hx
        have : x ≠ N := fun z => hm (z ▸ hx)
        omega)
      omega
/-- tables stand at different places, and there are at most 199 of them -/
def ysq (T : Int → Int) (M : List Int) : Prop := M.Nodup ∧ ∀ q ∈ M, 0 ≤ q ∧ yp_has T yX_xr q = true
set_option maxRecDepth 100000 in
theorem ysq.len {T : Int → Int} (hb : yTb T) {M : List Int} (h : ysq T M) : M.length ≤ 199 := by
  obtain ⟨h1, h2⟩ := h
  have hx : ∀ q ∈ M, T q = 120 ∧ T (q + 1) = 114 ∧ T (q + 2) = 101 ∧ T (q + 3) = 102 ∧ T (q + 4) = 10 := fun q hq => by
    have := (yl_has_xr T q).mp (h2 q hq).2
    unfold yp_says at this
    have h4 := of_decide_eq_true this.1
    exact ⟨h4.1, h4.2.1, h4.2.2.1, h4.2.2.2, this.2⟩
  have hl : ∀ q ∈ M, q + 4 < 999 := fun q hq => (hb.2 (q + 4) (by rw [(hx q hq).2.2.2.2]; decide)).2
  have := ypig 199 (M.map (fun q => (q / 5).toNat)) (by
    rw [List.Nodup, List.pairwise_map]
    refine List.Pairwise.imp_of_mem (fun {a b} ha hb' hab z => hab ?_) h1
    have a0 := (h2 a ha).1
    have b0 := (h2 b hb').1
    obtain ⟨a1, a2, a3, a4, a5⟩ := hx a ha
    obtain ⟨b1, b2, b3, b4, b5⟩ := hx b hb'
    have z : (a / 5).toNat = (b / 5).toNat := z
    have hd : b = a ∨ b = a + 1 ∨ b = a + 2 ∨ b = a + 3 ∨ b = a + 4 ∨ a = b + 1 ∨ a = b + 2 ∨ a = b + 3 ∨ a = b + 4 := by omega
    rcases hd with e | e | e | e | e | e | e | e | e
    · exact e.symm
    · rw [e] at b1; omega
    · rw [e] at b1; omega
    · rw [e] at b1; omega
    · rw [e] at b1; omega
    · rw [e] at a1; omega
    · rw [e] at a1; omega
    · rw [e] at a1; omega
    · rw [e] at a1; omega) (fun x hx' => by
    obtain ⟨q, hq, e⟩ := List.mem_map.mp hx'
    have := hl q hq
    have := (h2 q hq).1
    omega)
  rw [List.length_map] at this
  exact this
def yl_ch (T : Int → Int) (n : Int) : Nat → Int → List Int → yLt → Option (Int × Int) → Int ⊕ (yLt × Int × Int)
  | 0, p, _, _, _ => .inl p
  | f + 1, p, M, E, ro => if p < 0 ∨ n ≤ p ∨ p ∈ M then .inl p else (match yl_tbl T p E with
    | none => .inl p
    | some (E', r, g, pv) => (match pv with
      | none => .inr (E', ro.getD (r, g))
      | some v => yl_ch T n f v (p :: M) E' (some (ro.getD (r, g)))))
set_option maxRecDepth 100000 in
theorem yl_tbl_xr {T : Int → Int} {p : Int} {E : yLt} {x : yLt × Int × Int × Option Int} (h : yl_tbl T p E = some x) : yp_has T yX_xr p = true := by
  unfold yl_tbl at h
  cases ht : yl_tab T p E with
  | none => rw [ht] at h; cases h
  | some y =>
    unfold yl_tab at ht
    by_cases hx : yp_has T yX_xr p = true
    · exact hx
    · rw [if_neg hx] at ht
      cases ht
