/-! the heap: the cells lie one behind another from b0 on -/
def zz_e (ad : Nat → Nat) (tc : Nat → ClassId) : va_E → va_E
  | .inl (t, n, .inr (.inr (.inr (.inr f)))) => .inl (tc t, n, .inr (.inr (.inr (.inr (fun i => (f i).map ad)))))
  | .inl (t, n, .inr (.inr (.inr (.inl f)))) => .inl (tc t, n, .inr (.inr (.inr (.inl f))))
  | .inl (t, n, .inr (.inr (.inl f))) => .inl (tc t, n, .inr (.inr (.inl f)))
  | .inl (t, n, .inr (.inl f)) => .inl (tc t, n, .inr (.inl f))
  | .inl (t, n, .inl f) => .inl (tc t, n, .inl f)
  | .inr (ci, fs) => .inr (ci, fs.map (zz_v ad))
def zz_hr (b0 : Nat) (ad : Nat → Nat) (tc : Nat → ClassId) (D : va_G) (cl : List vw_C) (h : zz_H) (H : Heap) : Prop :=
  h.length ≤ zz_SB ∧ H.size = b0 + h.length ∧ ∀ (k : Nat) (e : va_E), h[k]? = some e → va_at D cl (b0 + k, zz_e ad tc e) H
section ZZH
variable {b0 b : Nat} {sa : Nat → Nat} {tc : Nat → ClassId} {D : va_G} {cl : List vw_C} {h : zz_H} {H H1 : Heap}
theorem zz_ad_lo {k : Nat} (hk : k < zz_SB) : zz_ad b0 sa b k = b0 + k := if_pos hk
theorem zz_hr.lt (hh : zz_hr b0 (zz_ad b0 sa b) tc D cl h H) {a : Nat} {e : va_E} (ha : h[a]? = some e) : a < zz_SB := Nat.lt_of_lt_of_le (List.getElem?_eq_some_iff.mp ha).1 hh.1
theorem zz_hr.at (hh : zz_hr b0 (zz_ad b0 sa b) tc D cl h H) {a : Nat} {e : va_E} (ha : h[a]? = some e) : va_at D cl (zz_ad b0 sa b a, zz_e (zz_ad b0 sa b) tc e) H := by
  rw [zz_ad_lo (hh.lt ha)]
  exact hh.2.2 a e ha
theorem zz_hr.set (hh : zz_hr b0 (zz_ad b0 sa b) tc D cl h H) {a : Nat} {e e1 : va_E} (ha : h[a]? = some e) (z : H1.size = H.size) (oq : ∀ q : Nat, q ≠ zz_ad b0 sa b a → H1[q]? = H[q]?) (h1 : va_at D cl (zz_ad b0 sa b a, zz_e (zz_ad b0 sa b) tc e1) H1) : zz_hr b0 (zz_ad b0 sa b) tc D cl (h.set a e1) H1 := by
  have hlt := hh.lt ha
  rw [zz_ad_lo hlt] at oq h1
  refine ⟨by rw [List.length_set]; exact hh.1, by rw [z, List.length_set]; exact hh.2.1, fun k e2 hk => ?_⟩
  by_cases hak : a = k
  · subst hak
    rw [List.getElem?_set] at hk
    simp only [if_true] at hk
    split at hk
    · cases hk
      exact h1
    · cases hk
  · rw [List.getElem?_set_ne hak] at hk
    exact (hh.2.2 k e2 hk).kept (oq (b0 + k) (by omega))
theorem zz_hr.push (hh : zz_hr b0 (zz_ad b0 sa b) tc D cl h H) {e1 : va_E} (hl : h.length < zz_SB) (z : H1.size = H.size + 1) (oq : ∀ q : Nat, q < H.size → H1[q]? = H[q]?) (h1 : va_at D cl (H.size, zz_e (zz_ad b0 sa b) tc e1) H1) : zz_hr b0 (zz_ad b0 sa b) tc D cl (h ++ [e1]) H1 := by
  refine ⟨by rw [List.length_append, List.length_singleton]; exact hl, by rw [z, hh.2.1, List.length_append, List.length_singleton]; omega, fun k e2 hk => ?_⟩
  by_cases hlt : k < h.length
  · rw [List.getElem?_append_left hlt] at hk
    exact (hh.2.2 k e2 hk).kept (oq (b0 + k) (by rw [hh.2.1]; omega))
  · rw [List.getElem?_append_right (by omega)] at hk
    have : k - h.length = 0 := by
      rcases Nat.eq_zero_or_pos (k - h.length) with h0 | h0
      · exact h0
      · rw [List.getElem?_eq_none (by simp; omega)] at hk
        cases hk
    rw [this] at hk
    cases hk
    have e3 : b0 + k = H.size := by rw [hh.2.1]; omega
    rw [e3]
    exact h1
theorem zz_hr.new (hh : zz_hr b0 (zz_ad b0 sa b) tc D cl h H) (hl : h.length < zz_SB) : zz_ad b0 sa b h.length = H.size := by rw [zz_ad_lo hl, hh.2.1]
end ZZH
/-- what has been written since the invocation lies from b0 on -/
def zz_fr (b0 : Nat) (H0 H : Heap) (locs : List Loc) : Prop := va_S (fun q => b0 ≤ q) H0 H locs
