/-! values as they have to be; their parts -/
/-- the kinds that are open, innermost first -/
def ye_wf : List Int → List ye_E → Prop
  | st, [] => st = []
  | st, .inl d :: es => ye_ok d ∧ (match st with
    | [] => d.2.2.2.1 = []
    | k :: _ => (k = 7 → d.2.2.2.1 ≠ []) ∧ (k ≠ 7 → d.2.2.2.1 = [])) ∧ ye_wf (if ye_nest d = true then d.1 :: st else st) es
  | [], .inr _ :: _ => False
  | k0 :: st, .inr k :: es => k = k0 ∧ (k = 6 ∨ k = 7) ∧ ye_wf st es
set_option maxRecDepth 100000 in
theorem ye_wf.oks : ∀ {es : List ye_E} {st : List Int}, ye_wf st es → ye_oks es
  | [], _, _ => ⟨fun d h => (by cases h), fun d h => (by cases h)⟩
  | .inl d :: es, st, h => by
    obtain ⟨h1, _, h3⟩ := h
    have ih := ye_wf.oks h3
    refine ⟨fun d' hd => ?_, fun k hk => ?_⟩
    · rcases List.mem_cons.mp hd with e | e
      · cases e; exact h1
      · exact ih.1 d' e
    · rcases List.mem_cons.mp hk with e | e
      · cases e
      · exact ih.2 k e
  | .inr k :: es, [], h => by cases h
  | .inr k :: es, k0 :: st, h => by
    obtain ⟨_, h1, h3⟩ := h
    have ih := ye_wf.oks h3
    refine ⟨fun d' hd => ?_, fun k' hk => ?_⟩
    · rcases List.mem_cons.mp hd with e | e
      · cases e
      · exact ih.1 d' e
    · rcases List.mem_cons.mp hk with e | e
      · cases e; exact h1
      · exact ih.2 k' e
set_option maxRecDepth 100000 in
theorem ye_wf.skip : ∀ {es : List ye_E} {ks st : List Int}, ye_wf (ks ++ st) es → 1 ≤ ks.length → ∃ R, ye_skip es ks.length = some R ∧ ye_wf st R ∧ R.length < es.length
  | [], ks, st, h, hk => by
    have h : ks ++ st = [] := h
    rw [(List.append_eq_nil_iff.mp h).1] at hk
    cases hk
  | .inl d :: es, ks, st, h, hk => by
    obtain ⟨_, _, h3⟩ := h
    unfold ye_skip
    cases hn : ye_nest d with
    | true =>
      rw [hn] at h3
      simp only [if_true] at h3 ⊢
      obtain ⟨R, r1, r2, r3⟩ := ye_wf.skip (ks := d.1 :: ks) h3 (by simp)
      exact ⟨R, r1, r2, by simp; omega⟩
    | false =>
      rw [hn] at h3
      simp only [Bool.false_eq_true, if_false] at h3 ⊢
      obtain ⟨R, r1, r2, r3⟩ := ye_wf.skip h3 hk
      exact ⟨R, r1, r2, by simp; omega⟩
  | .inr k :: es, [], st, h, hk => by cases hk
  | .inr k :: es, k0 :: ks, st, h, hk => by
    obtain ⟨_, _, h3⟩ := h
    unfold ye_skip
    by_cases hl : ks = []
    · subst hl
      exact ⟨es, by simp, h3, by simp⟩
    · have : 1 ≤ ks.length := by
        cases ks with
        | nil => exact absurd rfl hl
        | cons _ _ => simp
      obtain ⟨R, r1, r2, r3⟩ := ye_wf.skip h3 this
      rw [if_neg (by simp; omega)]
      exact ⟨R, by simpa using r1, r2, by simp; omega⟩
set_option maxRecDepth 100000 in
theorem ye_wf.rest {d : ye_N} {es : List ye_E} {st : List Int} (h : ye_wf st (.inl d :: es)) : ∃ R, ye_rest d es = some R ∧ ye_wf st R ∧ R.length ≤ es.length := by
  obtain ⟨_, _, h3⟩ := h
  unfold ye_rest
  cases hn : ye_nest d with
  | true =>
    rw [hn] at h3
    simp only [if_true] at h3 ⊢
    obtain ⟨R, r1, r2, r3⟩ := ye_wf.skip (ks := [d.1]) h3 (by simp)
    exact ⟨R, r1, r2, by omega⟩
  | false =>
    rw [hn] at h3
    simp only [Bool.false_eq_true, if_false] at h3 ⊢
    exact ⟨es, rfl, h3, Nat.le_refl _⟩
/-- part i: its node, and what is behind it -/
def ye_nth : List ye_E → Nat → Nat → Option (ye_N × List ye_E)
  | [], _, _ => none
  | .inl d :: es, 0, 0 => some (d, es)
  | .inl d :: es, 0, i + 1 => ye_nth es (if ye_nest d = true then 1 else 0) i
  | .inl d :: es, n + 1, i => ye_nth es (if ye_nest d = true then n + 2 else n + 1) i
  | .inr _ :: _, 0, _ => none
  | .inr _ :: es, n + 1, i => ye_nth es n i
def ye_cnt : List ye_E → Nat → Nat
  | [], _ => 0
  | .inl d :: es, 0 => 1 + ye_cnt es (if ye_nest d = true then 1 else 0)
  | .inl d :: es, n + 1 => ye_cnt es (if ye_nest d = true then n + 2 else n + 1)
  | .inr _ :: _, 0 => 0
  | .inr _ :: es, n + 1 => ye_cnt es n
set_option maxRecDepth 100000 in
theorem ye_nth_skip : ∀ {es R : List ye_E} {n i : Nat}, ye_skip es (n + 1) = some R → ye_nth es (n + 1) i = ye_nth R 0 i ∧ ye_cnt es (n + 1) = ye_cnt R 0
  | [], _, _, _, h => by cases h
  | .inl d :: es, R, n, i, h => by
    have h : ye_skip es (if ye_nest d = true then n + 1 + 1 else n + 1) = some R := h
    have e1 : ye_nth (.inl d :: es) (n + 1) i = ye_nth es (if ye_nest d = true then n + 2 else n + 1) i := rfl
    have e2 : ye_cnt (.inl d :: es) (n + 1) = ye_cnt es (if ye_nest d = true then n + 2 else n + 1) := rfl
    rw [e1, e2]
    cases hn : ye_nest d with
    | true =>
      rw [hn] at h
      exact ye_nth_skip h
    | false =>
      rw [hn] at h
      exact ye_nth_skip h
  | .inr k :: es, R, n, i, h => by
    have h : (if n + 1 ≤ 1 then some es else ye_skip es (n + 1 - 1)) = some R := h
    have e1 : ye_nth (.inr k :: es) (n + 1) i = ye_nth es n i := rfl
    have e2 : ye_cnt (.inr k :: es) (n + 1) = ye_cnt es n := rfl
    rw [e1, e2]
    cases n with
    | zero =>
      rw [if_pos (by omega)] at h
      cases h
      exact ⟨rfl, rfl⟩
    | succ n =>
      rw [if_neg (by omega)] at h
      exact ye_nth_skip h
set_option maxRecDepth 100000 in
theorem ye_nth_rest {d : ye_N} {es R : List ye_E} {i : Nat} (h : ye_rest d es = some R) : ye_nth (.inl d :: es) 0 (i + 1) = ye_nth R 0 i ∧ ye_cnt (.inl d :: es) 0 = 1 + ye_cnt R 0 := by
  unfold ye_rest at h
  have e1 : ye_nth (.inl d :: es) 0 (i + 1) = ye_nth es (if ye_nest d = true then 1 else 0) i := rfl
  have e2 : ye_cnt (.inl d :: es) 0 = 1 + ye_cnt es (if ye_nest d = true then 1 else 0) := rfl
  rw [e1, e2]
  cases hn : ye_nest d with
  | true =>
    rw [hn] at h
    have := ye_nth_skip (n := 0) (i := i) h
    exact ⟨this.1, congrArg (1 + ·) this.2⟩
  | false =>
    rw [hn] at h
    cases h
    exact ⟨rfl, rfl⟩
/-! partAt -/
def yp_pl (T : Int → Int) (a : Bool) (i : Int) : Nat → Int → Int → Option Int
  | 0, _, _ => none
  | f + 1, n, k => if ¬ ((0 ≤ k ∧ k ≤ 900) ∧ 0 ≤ n ∧ n ≤ 1000) then none else if T k = (if a = true then 93 else 62) then some (-1) else
    if n = i then some (if a = true then (if T k = 32 then k + 1 else k) else yp_nm T (if T k = 32 then k + 1 else k) + 1) else
    match yp_ve T 200 0 (if a = true then (if T k = 32 then k + 1 else k) else yp_nm T (if T k = 32 then k + 1 else k) + 1) with
    | none => none
    | some e => if -10000 ≤ e ∧ e ≤ 10000 then yp_pl T a i f (n + 1) e else none
def yp_pa (T : Int → Int) (p i : Int) : Option Int := if T p = 91 then yp_pl T true i 60 0 (p + 1) else yp_pl T false i 60 0 (p + 2)
section YS6
variable {X : Nat × (Nat → Int32)} {s : zq_S} {K : Int → zq_S → Prop} {x y q : Int}
set_option maxRecDepth 100000 in
theorem ys_177_51 (hI : ym_I s) (hq : ym_q q) (hx : zq_iv x) {i : Int} (hi : zq_iv i) (a : Bool) : ∀ (f : Nat) (n k e : Int), yp_pl (ym_c s q) a i f n k = some e → K e s → zq_Ex X 177 51 [.ref 232, zq_vi q, zq_vi x, zq_vi i, zq_vi (yb a), zq_vi k, zq_vi (if a = true then 93 else 62), zq_vi n] [] s (zq_rp zq_iv K) := by
  have hT := hI.T hq
  intro f
  induction f with
  | zero => intro n k e h; cases h
  | succ f ih =>
    intro n k e h kk
    unfold yp_pl at h
    by_cases hg : ¬ ((0 ≤ k ∧ k ≤ 900) ∧ 0 ≤ n ∧ n ≤ 1000)
    · rw [if_pos hg] at h; cases h
    rw [if_neg hg] at h
    have hg : (0 ≤ k ∧ k ≤ 900) ∧ 0 ≤ n ∧ n ≤ 1000 := Decidable.of_not_not hg
    have hk : zq_iv k := ⟨by omega, by omega⟩
    have hl : zq_iv (if a = true then 93 else 62) := by cases a <;> exact ⟨by decide, by decide⟩
    refine zw_177_51 hq.in hx hi (yb_bo a) hk hl ⟨by omega, by omega⟩ (ys_147 hI hq hk ?_)
    by_cases c1 : ym_c s q k = (if a = true then 93 else 62)
    · rw [if_pos c1] at h ⊢
      cases h
      exact kk
    rw [if_neg c1] at h ⊢
    refine ys_147 hI hq hk ?_
    -- behind the space
    have main : ∀ k1 : Int, (k1 = k ∨ k1 = k + 1) → (if n = i then some (if a = true then k1 else yp_nm (ym_c s q) k1 + 1) else match yp_ve (ym_c s q) 200 0 (if a = true then k1 else yp_nm (ym_c s q) k1 + 1) with
        | none => none
        | some e => if -10000 ≤ e ∧ e ≤ 10000 then yp_pl (ym_c s q) a i f (n + 1) e else none) = some e → (if yb a = 0 then zq_Ex X 153 0 [.ref 232, zq_vi q, zq_vi k1, zz_no] [] s (zq_rp zq_iv fun x_24 s_23 => (if n = i then (zq_iv (x_24 + 1) ∧ K (x_24 + 1) s_23) else (zq_Ex X 178 0 [.ref 232, zq_vi q, zq_vi (x_24 + 1), zz_no, zz_no, zz_no, zz_no, zz_no] [] s_23 (zq_rp zq_iv fun x_28 s_27 => zq_Ex X 177 51 [.ref 232, zq_vi q, zq_vi x, zq_vi i, zq_vi (yb a), zq_vi x_28, zq_vi (if a = true then 93 else 62), zq_vi (n + 1)] [] s_27 (zq_rp zq_iv K))))) else (if n = i then (zq_iv k1 ∧ K k1 s) else (zq_Ex X 178 0 [.ref 232, zq_vi q, zq_vi k1, zz_no, zz_no, zz_no, zz_no, zz_no] [] s (zq_rp zq_iv fun x_33 s_32 => zq_Ex X 177 51 [.ref 232, zq_vi q, zq_vi x, zq_vi i, zq_vi (yb a), zq_vi x_33, zq_vi (if a = true then 93 else 62), zq_vi (n + 1)] [] s_32 (zq_rp zq_iv K))))) := by
      intro k1 hk1 h
      refine yb_if (fun ha => ?_) (fun ha => ?_)
      · subst ha
        simp only [Bool.false_eq_true, if_false] at h
        have n1 := yp_nm_le (T := ym_c s q) k1
        have n2 := yp_nm_lt hT (k := k1) (by omega)
        refine ys_153 hI hq (by omega) (by omega) ?_
        by_cases c2 : n = i
        · rw [if_pos c2] at h ⊢
          cases h
          exact ⟨⟨by omega, by omega⟩, kk⟩
        · rw [if_neg c2] at h ⊢
          split at h
          · cases h
          · next e' he =>
            split at h
            · next hb => exact ys_178 hI hq he ⟨by omega, by omega⟩ hb.1 hb.2 (ih (n + 1) e' e h kk)
            · cases h
      · subst ha
        simp only [if_true] at h
        by_cases c2 : n = i
        · rw [if_pos c2] at h ⊢
          cases h
          exact ⟨⟨by omega, by omega⟩, kk⟩
        · rw [if_neg c2] at h ⊢
          split at h
          · cases h
          · next e' he =>
            split at h
            · next hb => exact ys_178 hI hq he ⟨by omega, by omega⟩ hb.1 hb.2 (ih (n + 1) e' e h kk)
            · cases h
    by_cases c3 : ym_c s q k = 32
    · simp only [if_pos c3] at h ⊢
      exact main (k + 1) (Or.inr rfl) h
    · simp only [if_neg c3] at h ⊢
      have m := main k (Or.inl rfl) h
      cases a with
      | true =>
        simp only [yb, if_true] at m ⊢
        by_cases c2 : n = i
        · rw [if_pos c2] at m ⊢
          exact m.2
        · rw [if_neg c2] at m ⊢
          exact m
      | false => exact m
set_option maxRecDepth 100000 in
theorem ys_177 (hI : ym_I s) (hq : ym_q q) {e : Int} (hx : zq_iv x) (hy : zq_iv y) (h : yp_pa (ym_c s q) x y = some e) (k : K e s) : zq_Ex X 177 0 [.ref 232, zq_vi q, zq_vi x, zq_vi y, zz_no, zz_no, zz_no, zz_no] [] s (zq_rp zq_iv K) := by
  unfold yp_pa at h
  refine zw_177 hq.in hx hy (ys_147 hI hq hx ?_)
  by_cases c : ym_c s q x = 91
  · rw [if_pos c] at h ⊢
    exact ys_177_51 hI hq hx hy true 60 0 (x + 1) e h k
  · rw [if_neg c] at h ⊢
    exact ys_177_51 hI hq hx hy false 60 0 (x + 2) e h k
end YS6
