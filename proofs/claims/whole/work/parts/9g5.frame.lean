/-! load: what the class's loader changes while it takes tables -/
def ylh (u : Nat) (s S : zq_S) : Prop := (∀ b (j : Int), b ∉ [7, 8, 9, 11, 12, 13, 14, 15, 16, 17, 18] → (∀ o : Nat, 1 ≤ o → o ≤ 9 → b = ysl u o → j ≠ 0 ∧ j ≠ 3) → (b = u → j ≠ 2 ∧ j ≠ 3) → zq_i S b j = zq_i s b j) ∧ (∀ b, b ≠ 8 → zq_r S b = zq_r s b) ∧ (∀ b, 18 ≤ b ∨ b < 4 → zq_l S b = zq_l s b) ∧ zq_n S = zq_n s
set_option maxRecDepth 100000 in
theorem ylh.refl (u : Nat) (s : zq_S) : ylh u s s := ⟨fun _ _ _ _ _ => rfl, fun _ _ => rfl, fun _ _ => rfl, rfl⟩
set_option maxRecDepth 100000 in
theorem ylh.trans {u : Nat} {s s1 s2 : zq_S} (h1 : ylh u s s1) (h2 : ylh u s1 s2) : ylh u s s2 := ⟨fun b j a1 a2 a3 => (h2.1 b j a1 a2 a3).trans (h1.1 b j a1 a2 a3), fun b a => (h2.2.1 b a).trans (h1.2.1 b a), fun b a => (h2.2.2.1 b a).trans (h1.2.2.1 b a), h2.2.2.2.trans h1.2.2.2⟩
set_option maxRecDepth 100000 in
theorem ylf.ylh {u : Nat} {s S : zq_S} (h : ylf u s S) : ylh u s S := by
  refine ⟨fun b j a1 a2 a3 => h.1 b j (fun z => absurd (by rw [z]; simp) a1) (fun z => a1 (by rw [z]; simp)) a2, fun b _ => by rw [h.r], fun b _ => by unfold zq_l; rw [h.2], by unfold zq_n; rw [h.2]⟩
set_option maxRecDepth 100000 in
theorem ycg.ylh {u : Nat} {s S : zq_S} (h : ycg 8 11 s S) : ylh u s S := by
  obtain ⟨h1, h2, h3, h4⟩ := h
  refine ⟨fun b j a1 _ _ => ?_, h2, fun b b1 => ?_, h3⟩
  · have := (h1 b (fun z => a1 (by simp at z ⊢; omega))).1
    rw [this]
  · exact (h1 b (by simp; omega)).2
set_option maxRecDepth 100000 in
theorem ylk.fh {s S : zq_S} {F u : Nat} {T : Int → Int} (h : ylk s F u T) (f : ylh u s S) : ylk S F u T := by
  obtain ⟨h1, h2, h3, h4, h5, h6⟩ := h
  have c : ∀ b, 19 ≤ b → b < 27 → zq_i S b = zq_i s b := fun b hb hb2 => by
    funext j
    exact f.1 b j (by simp; omega) (fun o o1 o9 z => by unfold ysl at z; omega) (fun z => by omega)
  have c1 := c F (by omega) (by omega)
  have c2 := c (F + 1) (by omega) (by omega)
  refine ⟨h1, h2, ?_, ?_, by rw [f.2.1 7 (by decide)]; exact h5, by rw [f.2.1 7 (by decide)]; exact h6⟩
  · unfold yc_ok
    rw [c1, c2]
    exact h3
  · rw [← h4]
    unfold yc_t
    rw [c1, c2]
/-- the same, where the places met change too -/
def ylH (u : Nat) (s S : zq_S) : Prop := (∀ b (j : Int), b ∉ [7, 8, 9, 11, 12, 13, 14, 15, 16, 17, 18] → (∀ o : Nat, 1 ≤ o → o ≤ 9 → b = ysl u o → j ≠ 0 ∧ j ≠ 3) → (b = u → j ≠ 2 ∧ j ≠ 3) → zq_i S b j = zq_i s b j) ∧ (∀ b, b ≠ 8 → zq_r S b = zq_r s b) ∧ (∀ b, 21 ≤ b ∨ b < 4 → zq_l S b = zq_l s b) ∧ zq_n S = zq_n s
set_option maxRecDepth 100000 in
theorem ylH.refl (u : Nat) (s : zq_S) : ylH u s s := ⟨fun _ _ _ _ _ => rfl, fun _ _ => rfl, fun _ _ => rfl, rfl⟩
set_option maxRecDepth 100000 in
theorem ylH.trans {u : Nat} {s s1 s2 : zq_S} (h1 : ylH u s s1) (h2 : ylH u s1 s2) : ylH u s s2 := ⟨fun b j a1 a2 a3 => (h2.1 b j a1 a2 a3).trans (h1.1 b j a1 a2 a3), fun b a => (h2.2.1 b a).trans (h1.2.1 b a), fun b a => (h2.2.2.1 b a).trans (h1.2.2.1 b a), h2.2.2.2.trans h1.2.2.2⟩
set_option maxRecDepth 100000 in
theorem ylh.H {u : Nat} {s S : zq_S} (h : ylh u s S) : ylH u s S := ⟨h.1, h.2.1, fun b a => h.2.2.1 b (by omega), h.2.2.2⟩
set_option maxRecDepth 100000 in
theorem ylk.fH {s S : zq_S} {F u : Nat} {T : Int → Int} (h : ylk s F u T) (f : ylH u s S) : ylk S F u T := by
  obtain ⟨h1, h2, h3, h4, h5, h6⟩ := h
  have c : ∀ b, 19 ≤ b → b < 27 → zq_i S b = zq_i s b := fun b hb hb2 => by
    funext j
    exact f.1 b j (by simp; omega) (fun o o1 o9 z => by unfold ysl at z; omega) (fun z => by omega)
  have c1 := c F (by omega) (by omega)
  have c2 := c (F + 1) (by omega) (by omega)
  refine ⟨h1, h2, ?_, ?_, by rw [f.2.1 7 (by decide)]; exact h5, by rw [f.2.1 7 (by decide)]; exact h6⟩
  · unfold yc_ok
    rw [c1, c2]
    exact h3
  · rw [← h4]
    unfold yc_t
    rw [c1, c2]
