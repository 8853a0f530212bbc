/-! save: the reference settles; its whole save -/
def ynx (g : Int) : Int := if g + 1 ≤ 9 then g + 1 else 9
/-- the slots below n are settled -/
def yset (S S' : zq_S) (rl : Nat → Bool) (n : Nat) : Prop := (∀ i : Nat, 1 ≤ i → i < n → zq_i S' 239 i = 0 ∧ (rl i = true → zq_i S' 237 i = 0 ∧ zq_i S' 238 i = ynx (zq_i S 238 i) ∧ zq_i S' 240 i = 0) ∧ (rl i = false → zq_i S' 237 i = zq_i S 237 i ∧ zq_i S' 238 i = zq_i S 238 i ∧ zq_i S' 240 i = zq_i S 240 i ∧ zq_i S' 242 i = zq_i S 242 i ∧ zq_i S' 243 i = zq_i S 243 i)) ∧ (∀ b (j : Int), (b ∈ [237, 238, 239, 240, 242, 243] → ∀ i : Nat, 1 ≤ i → i < n → j ≠ i) → zq_i S' b j = zq_i S b j) ∧ S'.2 = S.2
section YLE5
variable {X : Nat × (Nat → Int32)}
set_option maxRecDepth 100000 in
theorem ys_183 {S : zq_S} {K : zq_S → Prop} {o : Nat} (o9 : o ≤ 9) (hg : 0 ≤ zq_i S 238 o ∧ zq_i S 238 o ≤ 9) (k : ∀ S', (∀ b (j : Int), (b ∈ [237, 238, 240, 242, 243] → j ≠ o) → zq_i S' b j = zq_i S b j) → zq_i S' 237 o = 0 → zq_i S' 238 o = ynx (zq_i S 238 o) → zq_i S' 240 o = 0 → S'.2 = S.2 → K S') : zq_Ex X 183 0 [.ref 232, zq_vi (o : Int)] [] S (zq_rv K) := by
  have o0 : (0 : Int) ≤ (o : Int) ∧ (o : Int) < 10 := ⟨by omega, by omega⟩
  have core : ∀ g, g = ynx (zq_i S 238 o) → K (zq_si (zq_si (zq_si (zq_si (zq_si S (237) (o : Int) (0)) (238) (o : Int) g) (242) (o : Int) (0)) (243) (o : Int) (0)) (240) (o : Int) (0)) := fun g eg => by
    refine k _ (fun b j h => ?_) ?_ ?_ ?_ rfl
    · rw [zq_i_si, if_neg (fun z => h (by rw [z.1]; simp) z.2), zq_i_si, if_neg (fun z => h (by rw [z.1]; simp) z.2), zq_i_si, if_neg (fun z => h (by rw [z.1]; simp) z.2), zq_i_si, if_neg (fun z => h (by rw [z.1]; simp) z.2), zq_i_si, if_neg (fun z => h (by rw [z.1]; simp) z.2)]
    · rw [zq_i_si, if_neg (by simp), zq_i_si, if_neg (by simp), zq_i_si, if_neg (by simp), zq_i_si, if_neg (by simp), zq_i_si, if_pos ⟨rfl, rfl⟩]
    · rw [zq_i_si, if_neg (by simp), zq_i_si, if_neg (by simp), zq_i_si, if_neg (by simp), zq_i_si, if_pos ⟨rfl, rfl⟩]
      exact eg
    · rw [zq_i_si, if_pos ⟨rfl, rfl⟩]
  refine zw_183 ⟨by omega, by omega⟩ ⟨o0, o0, yl_if (fun h9 => ⟨o0, o0, ⟨by omega, by omega⟩, o0, o0, o0, core _ ?_⟩) (fun h9 => ⟨o0, o0, o0, o0, core _ ?_⟩)⟩
  · unfold ynx
    rw [if_pos (by omega)]
  · unfold ynx
    rw [if_neg (by omega)]
set_option maxRecDepth 100000 in
theorem ys_202_38 {S : zq_S} {rl : Nat → Bool} (hg : ∀ n : Nat, 1 ≤ n → n ≤ 9 → 0 ≤ zq_i S 238 n ∧ zq_i S 238 n ≤ 9) (hrl : ∀ n : Nat, 1 ≤ n → n ≤ 9 → (rl n = true ↔ zq_i S 237 n ≠ 0 ∧ zq_i S 255 n = 0)) {K : zq_S → Prop} (k : ∀ S', yset S S' rl 10 → K (zq_si S' 232 19 (-1))) : ∀ (m n : Nat) (S' : zq_S), n + m = 10 → 1 ≤ n → yset S S' rl n → zq_Ex X 202 38 [.ref 232, zq_vi (n : Int)] [] S' (zq_rv K)
  | 0, n, S', hn, n1, h => by
    have e : n = 10 := by omega
    subst e
    refine zw_202_38 ⟨by omega, by omega⟩ ?_
    rw [if_neg (by omega)]
    exact k S' h
  | m + 1, n, S', hn, n1, ⟨p1, p2, p3⟩ => by
    have o0 : (0 : Int) ≤ (n : Int) ∧ (n : Int) < 10 := ⟨by omega, by omega⟩
    have same : ∀ b, zq_i S' b n = zq_i S b n := fun b => p2 b n (fun _ i i1 i2 => by omega)
    have hr := hrl n n1 (by omega)
    have e255 : zq_i S' 255 n = zq_i S 255 n := same 255
    have go : ∀ S2 : zq_S, (∀ b (j : Int), (b ∈ [237, 238, 240, 242, 243] → j ≠ n) → zq_i S2 b j = zq_i S' b j) → S2.2 = S'.2 → (rl n = true → zq_i S2 237 n = 0 ∧ zq_i S2 238 n = ynx (zq_i S 238 n) ∧ zq_i S2 240 n = 0) → (rl n = false → ∀ b, zq_i S2 b n = zq_i S' b n) → zq_Ex X 202 38 [.ref 232, zq_vi ((n : Int) + 1)] [] (zq_si S2 239 n 0) (zq_rv K) := fun S2 q1 q2 q3 q4 => by
      have q5 : ∀ b (j : Int), (b = 239 → j ≠ n) → zq_i (zq_si S2 239 n 0) b j = zq_i S2 b j := fun b j h => by
        rw [zq_i_si, if_neg (fun z => h z.1 z.2)]
      refine ys_202_38 hg hrl k m (n + 1) _ (by omega) (by omega) ⟨fun i i1 i2 => ?_, fun b j hb => ?_, q2.trans p3⟩
      · by_cases e : i = n
        · subst e
          refine ⟨by rw [zq_i_si, if_pos ⟨rfl, rfl⟩], fun hz => ?_, fun hz => ?_⟩
          · rw [q5 237 _ (by simp), q5 238 _ (by simp), q5 240 _ (by simp)]
            exact q3 hz
          · rw [q5 237 _ (by simp), q5 238 _ (by simp), q5 240 _ (by simp), q5 242 _ (by simp), q5 243 _ (by simp), q4 hz, q4 hz, q4 hz, q4 hz, q4 hz]
            exact ⟨same 237, same 238, same 240, same 242, same 243⟩
        · have nn : ((i : Int) : Int) ≠ (n : Int) := by omega
          rw [q5 239 _ (fun _ => nn), q5 237 _ (fun _ => nn), q5 238 _ (fun _ => nn), q5 240 _ (fun _ => nn), q5 242 _ (fun _ => nn), q5 243 _ (fun _ => nn), q1 239 _ (fun _ => nn), q1 237 _ (fun _ => nn), q1 238 _ (fun _ => nn), q1 240 _ (fun _ => nn), q1 242 _ (fun _ => nn), q1 243 _ (fun _ => nn)]
          exact p1 i i1 (by omega)
      · rw [q5 b j (fun z => hb (by rw [z]; simp) n n1 (by omega)), q1 b j (fun z => hb (by simp at z ⊢; omega) n n1 (by omega))]
        exact p2 b j (fun z i i1 i2 => hb z i i1 (by omega))
    refine zw_202_38 ⟨by omega, by omega⟩ ?_
    rw [if_pos (by omega), same 237, e255]
    refine ⟨o0, yl_if (fun hz => ⟨o0, go S' (fun _ _ _ => rfl) rfl (fun z => absurd hz (hr.mp z).1) (fun _ _ => rfl)⟩) (fun hz => ⟨o0, yl_if (fun hy => ?_) (fun hy => ⟨o0, go S' (fun _ _ _ => rfl) rfl (fun z => absurd (hr.mp z).2 hy) (fun _ _ => rfl)⟩)⟩)⟩
    refine ys_183 (by omega) (by rw [same 238]; exact hg n n1 (by omega)) (fun S2 a1 a2 a3 a4 a5 => ⟨o0, go S2 a1 a5 (fun _ => ⟨a2, by rw [a3, same 238], a4⟩) (fun z => ?_)⟩)
    rw [hr.mpr ⟨hz, hy⟩] at z
    cases z
/-- what the reference's settling leaves -/
def yset2 (S S' : zq_S) (rl : Nat → Bool) (W : List Int) : Prop := (∀ i : Nat, 1 ≤ i → i < 10 → zq_i S' 239 i = 0 ∧ (rl i = true → zq_i S' 237 i = 0 ∧ zq_i S' 238 i = ynx (zq_i S 238 i) ∧ zq_i S' 240 i = 0) ∧ (rl i = false → zq_i S' 237 i = zq_i S 237 i ∧ zq_i S' 238 i = zq_i S 238 i ∧ zq_i S' 240 i = zq_i S 240 i ∧ zq_i S' 242 i = zq_i S 242 i ∧ zq_i S' 243 i = zq_i S 243 i)) ∧ (∀ b (j : Int), b ≠ 234 → (b = 232 → j ≠ 3 ∧ j ≠ 19) → (b ∈ [237, 238, 239, 240, 242, 243] → ∀ i : Nat, 1 ≤ i → i < 10 → j ≠ i) → zq_i S' b j = zq_i S b j) ∧ S'.2 = S.2 ∧ zq_i S' 232 3 = W.length ∧ zq_i S' 232 19 = -1 ∧ yrow S' 234 0 W
set_option maxRecDepth 100000 in
theorem ys_202 {S : zq_S} {rl : Nat → Bool} {W : List Int} (hw : ynw S W) (hW : W.length ≤ 999) (hg : ∀ n : Nat, 1 ≤ n → n ≤ 9 → 0 ≤ zq_i S 238 n ∧ zq_i S 238 n ≤ 9) (hrl : ∀ n : Nat, 1 ≤ n → n ≤ 9 → (rl n = true ↔ zq_i S 237 n ≠ 0 ∧ zq_i S 255 n = 0)) {K : zq_S → Prop} (k : ∀ S', yset2 S S' rl W → K S') : zq_Ex X 202 0 [.ref 232, zz_no] [] S (zq_rv K) := by
  have loop : ∀ (m i : Nat) (S' : zq_S), i + m = W.length → (∀ j : Nat, j < i → zq_i S' 234 j = W.getD j 0) → (∀ b, b ≠ 234 → zq_i S' b = zq_i S b) → S'.2 = S.2 → zq_Ex X 202 2 [.ref 232, zq_vi (i : Int)] [] S' (zq_rv K) := by
    intro m
    induction m with
    | zero =>
      intro i S' hi h1 h2 h3
      refine zw_202_2 ⟨by omega, by omega⟩ ?_
      rw [h2 232 (by decide), hw.1, if_neg (by omega)]
      have e3 : ∀ b (j : Int), b ≠ 234 → (b = 232 → j ≠ 3) → zq_i (zq_si S' 232 3 (W.length : Int)) b j = zq_i S b j := fun b j hb hj => by
        rw [zq_i_si, if_neg (fun z => hj z.1 z.2), h2 b hb]
      have e3' : ∀ b, b ≠ 234 → b ≠ 232 → zq_i (zq_si S' 232 3 (W.length : Int)) b = zq_i S b := fun b hb hj => by
        funext j
        exact e3 b j hb (fun z => absurd z hj)
      refine ys_202_38 (S := zq_si S' 232 3 (W.length : Int)) (rl := rl) (fun n n1 n9 => by rw [e3' 238 (by decide) (by decide)]; exact hg n n1 n9) (fun n n1 n9 => by rw [e3' 237 (by decide) (by decide), e3' 255 (by decide) (by decide)]; exact hrl n n1 n9) (fun S2 q => k _ ?_) 9 1 _ rfl (by omega) ⟨fun i i1 i2 => by omega, fun _ _ _ => rfl, rfl⟩
      obtain ⟨q1, q2, q3⟩ := q
      have q4 : ∀ b (j : Int), (b = 232 → j ≠ 19) → zq_i (zq_si S2 232 19 (-1)) b j = zq_i S2 b j := fun b j h => by
        rw [zq_i_si, if_neg (fun z => h z.1 z.2)]
      refine ⟨fun i i1 i2 => ?_, fun b j n1 n2 n3 => ?_, q3.trans h3, ?_, ?_, fun j hj => ?_⟩
      · have := q1 i i1 i2
        rw [e3' 238 (by decide) (by decide), e3' 237 (by decide) (by decide), e3' 240 (by decide) (by decide), e3' 242 (by decide) (by decide), e3' 243 (by decide) (by decide)] at this
        rw [q4 239 _ (by simp), q4 237 _ (by simp), q4 238 _ (by simp), q4 240 _ (by simp), q4 242 _ (by simp), q4 243 _ (by simp)]
        exact this
      · rw [q4 b j (fun z => (n2 z).2), q2 b j n3]
        exact e3 b j n1 (fun z => (n2 z).1)
      · rw [q4 232 3 (by simp), q2 232 3 (by simp), zq_i_si, if_pos ⟨rfl, rfl⟩]
      · rw [zq_i_si, if_pos ⟨rfl, rfl⟩]
      · rw [q4 234 _ (by simp), q2 234 _ (by simp), zq_i_si, if_neg (by simp), show (0 : Int) + (j : Int) = j by omega]
        exact h1 j (by omega)
    | succ m ih =>
      intro i S' hi h1 h2 h3
      refine zw_202_2 ⟨by omega, by omega⟩ ?_
      rw [h2 232 (by decide), hw.1, if_pos (by omega), h2 236 (by decide), hw.2 i (by omega), show (i : Int) + 1 = ((i + 1 : Nat) : Int) by omega]
      refine ⟨⟨by omega, by omega⟩, ⟨by omega, by omega⟩, ih (i + 1) _ (by omega) (fun j hj => ?_) (fun b hb => ?_) h3⟩
      · rw [zq_i_si]
        by_cases e : j = i
        · rw [if_pos ⟨rfl, by omega⟩, e]
        · rw [if_neg (fun z => e (by have := z.2; omega))]
          exact h1 j (by omega)
      · rw [← h2 b hb]
        funext j
        rw [zq_i_si, if_neg (fun z => hb z.1)]
  exact zw_202 (loop W.length 0 S (by omega) (fun j hj => by omega) (fun _ _ => rfl) rfl)
end YLE5
