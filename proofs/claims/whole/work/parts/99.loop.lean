/-! the invariant holds at the start; the law's loop -/
set_option maxRecDepth 100000 in
theorem yI_fresh : yI zf_s ([], [], fun _ => [.inl ye_null], fun _ => [], 23, 27) := by
  have nul : ∀ a, (a = 29 ∨ a = 128) → yt_tr zf_s a 0 0 [.inl ye_null] := by
    intro a ha
    have h0 : zq_i zf_s a 0 = 1 := by rcases ha with z | z <;> (subst z; decide +kernel)
    refine ⟨?_, ?_, by decide, ?_⟩
    · rw [h0]; rfl
    · intro i l d hi
      cases i with
      | zero =>
        simp [ye_nl] at hi
        obtain ⟨e1, e2⟩ := hi
        subst e1
        subst e2
        refine ⟨?_, ?_, ?_, fun z => absurd z (by decide), rfl, fun z => absurd z (by decide)⟩
        · rcases ha with z | z <;> (subst z; decide +kernel)
        · rcases ha with z | z <;> (subst z; decide +kernel)
        · rcases ha with z | z <;> (subst z; decide +kernel)
      | succ i => simp [ye_nl] at hi
    · rw [h0]; decide
  refine ⟨?_, ?_, ?_, ?_, ?_, rfl, ?_, ?_⟩
  · refine ⟨⟨0, ?_, by simp, ?_, fun i hi => (by cases hi)⟩, fun c hc => (by cases hc), ?_, fun i hi => (by cases hi), ⟨0, ?_, by simp, ?_, fun i hi => (by cases hi)⟩, fun c hc => (by cases hc), ?_, fun i hi => (by cases hi)⟩
    all_goals decide +kernel
  · refine ⟨Or.inl rfl, Or.inl rfl, ?_, ?_, ?_, ?_, ?_, ?_, ?_, ?_, ?_, ?_⟩
    all_goals decide +kernel
  · refine ⟨⟨(ytl zf_s).map (fun q => q.getD 0), ?_, ?_, ?_⟩, nul 29 (Or.inl rfl), nul 128 (Or.inr rfl)⟩
    · decide +kernel
    · decide +kernel
    · decide +kernel
  · intro o h1 h9
    have key : ∀ o : Nat, o < 10 → 1 ≤ o → (zq_i zf_s (ysl 27 o) 0 = 0 ∧ zq_i zf_s (ysl 27 o) 1 = 0 ∧ zq_i zf_s (ysl 27 o) 2 = 0 ∧ zq_i zf_s (ysl 27 o) 3 = 0) ∧ zq_i zf_s 237 o = 0 ∧ zq_i zf_s 239 o = 0 ∧ zq_i zf_s 238 o = 0 := by decide +kernel
    obtain ⟨⟨e1, e2, e3, e4⟩, e5, e6, e7⟩ := key o (by omega) h1
    show yI_slot zf_s (ysl 27 o) o _ _
    unfold yI_slot
    rw [e1, e2, e3, e4, e5, e6, e7]
    exact ⟨⟨Or.inl rfl, Or.inl rfl, Or.inl rfl⟩, rfl, rfl, rfl, ⟨by decide, by decide⟩, fun z => absurd z (by decide)⟩
  · left
    constructor <;> decide +kernel
  · refine ⟨by decide +kernel, ?_, ⟨by decide +kernel, ?_⟩, ⟨by decide +kernel, ?_⟩, ⟨by decide +kernel, ?_⟩⟩
    all_goals
      intro i hi
      revert i
      decide +kernel
  · have key : ∀ o : Nat, o < 10 → zq_i zf_s 240 o ≤ 500 := by decide +kernel
    refine ⟨by decide +kernel, by decide +kernel, by decide +kernel, by decide +kernel, fun o h0 h1 => ?_⟩
    have := key o.toNat (by omega)
    rw [show ((o.toNat : Nat) : Int) = o by omega] at this
    exact this
/-- the law's locals at its loop -/
abbrev yL (m : Nat) (v5 v6 : Value) : List Value := [.ref zz_SC, .ref 0, .ref 232, .ref 259, zq_vi (3 * (m : Int)), v5, v6]
abbrev yE : Outcome → zq_S → Prop := zq_rp zq_bo fun x _ => x = 1
/-- a case of the law keeps the invariant -/
def yl_C (X : Nat × (Nat → Int32)) (pc : Nat) : Prop := ∀ (s : zq_S) (A : yA) (m : Nat) (v5 v6 : Value), v5.category = 1 → v6.category = 1 → yI s A → zq_n s ≤ m → 3 * m + 3 ≤ X.1 → (∀ s' A' v5' v6', v5'.category = 1 → v6'.category = 1 → yI s' A' → zq_n s' ≤ m + 1 → zq_Ex X 0 967 (yL m v5' v6') [] s' yE) → zq_Ex X 0 pc (yL m v5 v6) [] s yE
set_option maxRecDepth 100000 in
theorem yl_if {c P Q : Prop} {h : Decidable c} (h1 : c → P) (h2 : ¬ c → Q) : if c then P else Q := by
  by_cases hc : c
  · rw [if_pos hc]; exact h1 hc
  · rw [if_neg hc]; exact h2 hc
set_option maxRecDepth 100000 in
theorem yl_loop {X : Nat × (Nat → Int32)} (hX : X.1 ≤ 1536) (hc : ∀ pc ∈ [132, 220, 256, 292, 328, 364, 436, 480, 493, 506, 556, 592, 605, 661, 717, 773, 829, 873, 929, 954], yl_C X pc) : ∀ (n m : Nat) (s : zq_S) (A : yA) (v5 v6 : Value), X.1 ≤ 3 * m + n → v5.category = 1 → v6.category = 1 → yI s A → zq_n s ≤ m → 3 * m ≤ X.1 + 2 → zq_Ex X 0 23 (yL m v5 v6) [] s yE := by
  intro n
  induction n using Nat.strongRecOn with
  | _ n ih =>
    intro m s A v5 v6 hn h5 h6 hI hm hm2
    refine zw_0_23 (by omega) ⟨by omega, by omega⟩ h5 h6 ⟨⟨by omega, by omega⟩, ?_⟩
    refine yl_if (fun hle => ?_) (fun _ => rfl)
    · refine ⟨⟨by omega, by omega⟩, ?_⟩
      have next : ∀ s' A' v5' v6', v5'.category = 1 → v6'.category = 1 → yI s' A' → zq_n s' ≤ m + 1 → zq_Ex X 0 967 (yL m v5' v6') [] s' yE := fun s' A' v5' v6' g5 g6 gI gm => by
        refine zw_0_967 ⟨by omega, by omega⟩ g5 g6 ?_
        have := ih (n - 3) (by omega) (m + 1) s' A' v5' v6' (by omega) g5 g6 gI gm (by omega)
        rw [show 3 * (m : Int) + 3 = 3 * ((m + 1 : Nat) : Int) by omega]
        exact this
      have go : ∀ pc ∈ [132, 220, 256, 292, 328, 364, 436, 480, 493, 506, 556, 592, 605, 661, 717, 773, 829, 873, 929, 954], zq_Ex X 0 pc (yL m v5 v6) [] s yE := fun pc hpc => hc pc hpc s A m v5 v6 h5 h6 hI hm (by omega) next
      iterate 20 refine yl_if (fun _ => go _ (by decide)) (fun _ => ?_)
      exact next s A v5 v6 h5 h6 hI (by omega)
set_option maxRecDepth 100000 in
theorem yl_pure (hc : ∀ X : Nat × (Nat → Int32), X.1 ≤ 1536 → ∀ pc ∈ [132, 220, 256, 292, 328, 364, 436, 480, 493, 506, 556, 592, 605, 661, 717, 773, 829, 873, 929, 954], yl_C X pc) : zt_Pure := zf_pure fun L xs hL => yl_loop hL (hc (L, xs) hL) L 0 zf_s _ zz_no zz_no (by omega) rfl rfl yI_fresh (Nat.zero_le _) (by omega)
