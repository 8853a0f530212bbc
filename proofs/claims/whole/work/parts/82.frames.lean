/-! reading, the class's side: where the open nodes are -/
/-- parts that are complete -/
def ye_cmp : Nat → List ye_E → Prop
  | n, [] => n = 0
  | n, .inl d :: es => ye_cmp (if ye_nest d = true then n + 1 else n) es
  | n, .inr _ :: es => 1 ≤ n ∧ ye_cmp (n - 1) es
/-- the keys of parts -/
def ye_ks : Nat → List ye_E → List (List Int)
  | _, [] => []
  | 0, .inl d :: es => d.2.2.2.1 :: ye_ks (if ye_nest d = true then 1 else 0) es
  | n + 1, .inl d :: es => ye_ks (if ye_nest d = true then n + 2 else n + 1) es
  | 0, .inr _ :: _ => []
  | n + 1, .inr _ :: es => ye_ks n es
set_option maxRecDepth 100000 in
theorem ye_cmp_app : ∀ {a b : List ye_E} {n : Nat}, ye_cmp n a → ye_cmp 0 b → ye_cmp n (a ++ b)
  | [], b, n, h1, h2 => by
    have h1 : n = 0 := h1
    subst h1
    exact h2
  | .inl d :: a, b, n, h1, h2 => ye_cmp_app (a := a) h1 h2
  | .inr k :: a, b, n, h1, h2 => ⟨h1.1, ye_cmp_app (a := a) h1.2 h2⟩
set_option maxRecDepth 100000 in
theorem ye_ks_app : ∀ {a b : List ye_E} {n : Nat}, ye_cmp n a → ye_ks n (a ++ b) = ye_ks n a ++ ye_ks 0 b
  | [], b, n, h1 => by
    have h1 : n = 0 := h1
    subst h1
    cases b <;> rfl
  | .inl d :: a, b, 0, h1 => by
    have e1 : ye_ks 0 (.inl d :: a ++ b) = d.2.2.2.1 :: ye_ks (if ye_nest d = true then 1 else 0) (a ++ b) := rfl
    have e2 : ye_ks 0 (.inl d :: a) = d.2.2.2.1 :: ye_ks (if ye_nest d = true then 1 else 0) a := rfl
    have h1 : ye_cmp (if ye_nest d = true then 0 + 1 else 0) a := h1
    rw [e1, e2, ye_ks_app (by simpa using h1)]
    rfl
  | .inl d :: a, b, n + 1, h1 => by
    have e1 : ye_ks (n + 1) (.inl d :: a ++ b) = ye_ks (if ye_nest d = true then n + 2 else n + 1) (a ++ b) := rfl
    have e2 : ye_ks (n + 1) (.inl d :: a) = ye_ks (if ye_nest d = true then n + 2 else n + 1) a := rfl
    have h1 : ye_cmp (if ye_nest d = true then n + 1 + 1 else n + 1) a := h1
    rw [e1, e2, ye_ks_app h1]
  | .inr k :: a, b, 0, h1 => by have := h1.1; omega
  | .inr k :: a, b, n + 1, h1 => ye_ks_app (a := a) (n := n) h1.2
set_option maxRecDepth 100000 in
/-- behind complete parts and a closing -/
theorem ye_skip_cmp : ∀ {a R : List ye_E} {n : Nat} {k : Int}, ye_cmp n a → ye_skip (a ++ .inr k :: R) (n + 1) = some R
  | [], R, n, k, h => by
    have h : n = 0 := h
    subst h
    rfl
  | .inl d :: a, R, n, k, h => by
    have h : ye_cmp (if ye_nest d = true then n + 1 else n) a := h
    show ye_skip (a ++ .inr k :: R) (if ye_nest d = true then n + 1 + 1 else n + 1) = some R
    have := ye_skip_cmp (R := R) (k := k) h
    cases hn : ye_nest d with
    | true => rw [hn] at this; exact this
    | false => rw [hn] at this; exact this
  | .inr k' :: a, R, n, k, h => by
    have h1 := h.1
    show (if n + 1 ≤ 1 then _ else ye_skip (a ++ .inr k :: R) (n + 1 - 1)) = some R
    rw [if_neg (by omega)]
    have := ye_skip_cmp (R := R) (k := k) h.2
    rw [show n + 1 - 1 = n - 1 + 1 by omega]
    exact this
set_option maxRecDepth 100000 in
theorem ye_fk_cmp {w : List Int} : ∀ {a R : List ye_E} {n : Nat} {k : Int}, ye_cmp n a → (ye_fk w (a ++ .inr k :: R) n = none ↔ w ∉ ye_ks n a)
  | [], R, n, k, h => by
    have h : n = 0 := h
    subst h
    exact ⟨fun _ => by simp [ye_ks], fun _ => rfl⟩
  | .inl d :: a, R, 0, k, h => by
    have h : ye_cmp (if ye_nest d = true then 0 + 1 else 0) a := h
    have e1 : ye_fk w (.inl d :: a ++ .inr k :: R) 0 = if d.2.2.2.1 = w then some (d, a ++ .inr k :: R) else ye_fk w (a ++ .inr k :: R) (if ye_nest d = true then 1 else 0) := rfl
    have e2 : ye_ks 0 (.inl d :: a) = d.2.2.2.1 :: ye_ks (if ye_nest d = true then 1 else 0) a := rfl
    rw [e1, e2]
    have ih := ye_fk_cmp (w := w) (R := R) (k := k) h
    simp only [Nat.zero_add] at ih
    by_cases hw : d.2.2.2.1 = w
    · rw [if_pos hw]
      simp [hw]
    · rw [if_neg hw, ih]
      simp [Ne.symm hw]
  | .inl d :: a, R, n + 1, k, h => ye_fk_cmp (a := a) (n := if ye_nest d = true then n + 2 else n + 1) h
  | .inr k' :: a, R, 0, k, h => by have := h.1; omega
  | .inr k' :: a, R, n + 1, k, h => ye_fk_cmp (a := a) (n := n) h.2
/-- the open nodes: innermost first, with the numbers of their nodes -/
def yr_fr : List ye_E → List (Int × Nat × List (List Int)) → Option (List Int) → List Nat → Prop
  | _, [], _, os => os = []
  | es, (k, _, ks) :: st, key, os => ∃ pre d suf o os', es = pre ++ .inl d :: suf ∧ os = o :: os' ∧ o = yr_many pre ∧ d.1 = k ∧ ye_cmp 0 suf ∧ (k = 7 → ye_ks 0 suf ++ key.toList = ks) ∧ yr_fr pre st (some d.2.2.2.1) os'
set_option maxRecDepth 100000 in
theorem yr_fr_part {es : List ye_E} {st : List (Int × Nat × List (List Int))} {key : Option (List Int)} {os : List Nat} {w : List Int} (h : yr_fr es st key os) (hk : ∀ n ks st', st = (7, n, ks) :: st' → key.toList = [w]) : yr_fr es (yr_part st) (some w) os := by
  cases st with
  | nil => exact h
  | cons q st =>
    obtain ⟨k, n, ks⟩ := q
    obtain ⟨pre, d, suf, o, os', e1, e2, e3, e4, e5, e6, e7⟩ := h
    refine ⟨pre, d, suf, o, os', e1, e2, e3, e4, e5, fun hk7 => ?_, e7⟩
    have := e6 hk7
    rw [hk n ks st (by rw [hk7])] at this
    exact this
set_option maxRecDepth 100000 in
/-- a plain value -/
theorem yr_fr_plain {es : List ye_E} {st : List (Int × Nat × List (List Int))} {key : Option (List Int)} {os : List Nat} {d : ye_N} (h : yr_fr es st key os) (hn : ye_nest d = false) (hk : ∀ n ks st', st = (7, n, ks) :: st' → key.toList = [d.2.2.2.1]) : yr_fr (es ++ [.inl d]) (yr_part st) none os := by
  cases st with
  | nil => exact h
  | cons q st =>
    obtain ⟨k, n, ks⟩ := q
    obtain ⟨pre, d0, suf, o, os', e1, e2, e3, e4, e5, e6, e7⟩ := h
    refine ⟨pre, d0, suf ++ [.inl d], o, os', by rw [e1]; simp, e2, e3, e4, ?_, fun hk7 => ?_, e7⟩
    · refine ye_cmp_app e5 ?_
      show ye_cmp (if ye_nest d = true then 0 + 1 else 0) []
      rw [hn]
      rfl
    · have h6 := e6 hk7
      rw [hk n ks st (by rw [hk7])] at h6
      rw [ye_ks_app e5]
      have : ye_ks 0 [.inl d] = [d.2.2.2.1] := by
        show d.2.2.2.1 :: ye_ks _ [] = _
        cases ye_nest d <;> rfl
      rw [this]
      simpa using h6
set_option maxRecDepth 100000 in
/-- an array or a dictionary is begun -/
theorem yr_fr_open {es : List ye_E} {st : List (Int × Nat × List (List Int))} {key : Option (List Int)} {os : List Nat} {d : ye_N} (h : yr_fr es st key os) (hk : ∀ n ks st', st = (7, n, ks) :: st' → key.toList = [d.2.2.2.1]) : yr_fr (es ++ [.inl d]) ((d.1, 0, []) :: yr_part st) none (yr_many es :: os) := ⟨es, d, [], yr_many es, os, rfl, rfl, rfl, rfl, rfl, fun _ => rfl, yr_fr_part h hk⟩
set_option maxRecDepth 100000 in
/-- the innermost one is ended -/
theorem yr_fr_close {es : List ye_E} {st : List (Int × Nat × List (List Int))} {k : Int} {n : Nat} {ks : List (List Int)} {os : List Nat} (h : yr_fr es ((k, n, ks) :: st) none os) (hk : k = 6 ∨ k = 7) : ∃ o os', os = o :: os' ∧ yr_fr (es ++ [.inr k]) st none os' := by
  obtain ⟨pre, d, suf, o, os', e1, e2, e3, e4, e5, e6, e7⟩ := h
  refine ⟨o, os', e2, ?_⟩
  have hnest : ye_nest d = true := decide_eq_true (by omega)
  cases st with
  | nil => exact e7
  | cons q st =>
    obtain ⟨k2, n2, ks2⟩ := q
    obtain ⟨pre2, d2, suf2, o2, os2, f1, f2, f3, f4, f5, f6, f7⟩ := e7
    have hc : ye_cmp 0 (.inl d :: suf ++ [.inr k]) := by
      show ye_cmp (if ye_nest d = true then 0 + 1 else 0) (suf ++ [.inr k])
      rw [hnest]
      have : ∀ (a : List ye_E) (m : Nat), ye_cmp m a → ye_cmp (m + 1) (a ++ [.inr k]) := by
        intro a
        induction a with
        | nil => intro m hm; have hm : m = 0 := hm; subst hm; exact ⟨by omega, rfl⟩
        | cons e a ih =>
          intro m hm
          cases e with
          | inl d' =>
            have hm : ye_cmp (if ye_nest d' = true then m + 1 else m) a := hm
            show ye_cmp (if ye_nest d' = true then m + 1 + 1 else m + 1) (a ++ [.inr k])
            have := ih _ hm
            cases hn : ye_nest d' with
            | true => rw [hn] at this; exact this
            | false => rw [hn] at this; exact this
          | inr k' =>
            have h1 := hm.1
            refine ⟨by omega, ?_⟩
            have := ih _ hm.2
            rw [show m + 1 - 1 = m - 1 + 1 by omega]
            exact this
      exact this suf 0 e5
    refine ⟨pre2, d2, suf2 ++ (.inl d :: suf ++ [.inr k]), o2, os2, by rw [e1, f1]; simp, f2, f3, f4, ye_cmp_app f5 hc, fun hk7 => ?_, f7⟩
    have h6 := f6 hk7
    rw [ye_ks_app f5]
    have : ye_ks 0 (.inl d :: suf ++ [.inr k]) = [d.2.2.2.1] := by
      have e : ye_ks 0 (.inl d :: suf ++ [.inr k]) = d.2.2.2.1 :: ye_ks (if ye_nest d = true then 1 else 0) (suf ++ [.inr k]) := rfl
      rw [e, hnest]
      have : ∀ (a : List ye_E) (m : Nat), ye_cmp m a → ye_ks (m + 1) (a ++ [.inr k]) = [] := by
        intro a
        induction a with
        | nil => intro m hm; have hm : m = 0 := hm; subst hm; rfl
        | cons e a ih =>
          intro m hm
          cases e with
          | inl d' =>
            have hm : ye_cmp (if ye_nest d' = true then m + 1 else m) a := hm
            show ye_ks (if ye_nest d' = true then m + 2 else m + 1) (a ++ [.inr k]) = []
            have := ih _ hm
            cases hn : ye_nest d' with
            | true => rw [hn] at this; exact this
            | false => rw [hn] at this; exact this
          | inr k' =>
            have h1 := hm.1
            show ye_ks m (a ++ [.inr k]) = []
            have := ih _ hm.2
            rw [show m - 1 + 1 = m by omega] at this
            exact this
      rw [if_pos rfl, this suf 0 e5]
    rw [this]
    simpa using h6
set_option maxRecDepth 100000 in
theorem yr_fr_key {es : List ye_E} {st : List (Int × Nat × List (List Int))} {n : Nat} {ks : List (List Int)} {os : List Nat} {w : List Int} (h : yr_fr es ((7, n, ks) :: st) none os) : yr_fr es ((7, n, ks ++ [w]) :: st) (some w) os := by
  obtain ⟨pre, d, suf, o, os', e1, e2, e3, e4, e5, e6, e7⟩ := h
  refine ⟨pre, d, suf, o, os', e1, e2, e3, e4, e5, fun _ => ?_, e7⟩
  have := e6 rfl
  simp at this
  rw [this]
  rfl
/-- closings for all that is open -/
def yr_cl (st : List (Int × Nat × List (List Int))) : List ye_E := st.map (fun q => .inr q.1)
set_option maxRecDepth 100000 in
theorem ye_nl_app : ∀ (a b : List ye_E) (l m : Int), ye_nl l (a ++ b) = ye_nl l a ++ ye_nl (ye_dm (l, m) a).1 b
  | [], _, _, _ => rfl
  | .inl d :: a, b, l, m => by
    show (l, d) :: ye_nl (if ye_nest d = true then l + 1 else l) (a ++ b) = _
    rw [ye_nl_app a b _ (if l + 1 ≤ m then m else l + 1)]
    rfl
  | .inr k :: a, b, l, m => by
    show ye_nl (l - 1) (a ++ b) = _
    rw [ye_nl_app a b _ m]
    rfl
set_option maxRecDepth 100000 in
theorem ye_nl_cl : ∀ (st : List (Int × Nat × List (List Int))) (l : Int), ye_nl l (yr_cl st) = []
  | [], _ => rfl
  | _ :: st, l => ye_nl_cl st (l - 1)
set_option maxRecDepth 100000 in
theorem ye_nl_len : ∀ (es : List ye_E) (l : Int), (ye_nl l es).length = yr_many es
  | [], _ => rfl
  | .inl d :: es, l => by
    show (ye_nl _ es).length + 1 = _
    rw [ye_nl_len es]
    rfl
  | .inr k :: es, l => by
    show (ye_nl _ es).length = _
    rw [ye_nl_len es]
    rfl
set_option maxRecDepth 100000 in
theorem yt_tr_split {s : zq_S} {a : Nat} : ∀ (pre rest : List ye_E) (k l m : Int), yt_tr s a k l (pre ++ rest) → yt_tr s a (k + yr_many pre) (ye_dm (l, m) pre).1 rest
  | [], rest, k, l, m, h => by
    have e : k + ((yr_many [] : Nat) : Int) = k := by show k + ((0 : Nat) : Int) = k; omega
    rw [e]
    exact h
  | .inl d :: pre, rest, k, l, m, h => by
    have h2 := (yt_tr.node h).2.1
    have := yt_tr_split pre rest (k + 1) _ (if l + 1 ≤ m then m else l + 1) h2
    have e : k + ((yr_many (.inl d :: pre) : Nat) : Int) = k + 1 + (yr_many pre : Nat) := by
      show k + ((yr_many pre + 1 : Nat) : Int) = _
      omega
    rw [e]
    exact this
  | .inr c :: pre, rest, k, l, m, h => yt_tr_split pre rest k (l - 1) m (yt_tr.close h)
set_option maxRecDepth 100000 in
/-- complete parts leave the level as it is -/
theorem ye_dm_cmp : ∀ (a : List ye_E) (n : Nat) (l m : Int), ye_cmp n a → (ye_dm (l + n, m) a).1 = l
  | [], n, l, m, h => by
    have h : n = 0 := h
    subst h
    show l + ((0 : Nat) : Int) = l
    omega
  | .inl d :: a, n, l, m, h => by
    have h : ye_cmp (if ye_nest d = true then n + 1 else n) a := h
    show (ye_dm (if ye_nest d = true then l + n + 1 else l + n, _) a).1 = l
    cases hn : ye_nest d with
    | true =>
      rw [hn] at h
      have := ye_dm_cmp a (n + 1) l (if l + n + 1 ≤ m then m else l + n + 1) h
      rw [show l + ((n + 1 : Nat) : Int) = l + n + 1 by omega] at this
      exact this
    | false =>
      rw [hn] at h
      exact ye_dm_cmp a n l _ h
  | .inr k :: a, n, l, m, h => by
    have h1 := h.1
    show (ye_dm (l + n - 1, m) a).1 = l
    have := ye_dm_cmp a (n - 1) l m h.2
    rw [show l + ((n - 1 : Nat) : Int) = l + n - 1 by omega] at this
    exact this
set_option maxRecDepth 100000 in
/-- at the innermost open node -/
theorem yr_fr_top {s : zq_S} {t : Nat} {es : List ye_E} {st : List (Int × Nat × List (List Int))} {k : Int} {n : Nat} {ks : List (List Int)} {key : Option (List Int)} {os : List Nat} (h : yr_fr es ((k, n, ks) :: st) key os) (hk : k = 6 ∨ k = 7) (hlev : (ye_dm (0, 0) es).1 = (((k, n, ks) :: st).length : Nat)) (ht : yt_tr s t 0 0 (es ++ yr_cl ((k, n, ks) :: st))) : ∃ d suf o os', os = o :: os' ∧ d.1 = k ∧ ye_nest d = true ∧ yt_tr s t o (st.length : Nat) (.inl d :: (suf ++ .inr k :: yr_cl st)) ∧ ye_rest d (suf ++ .inr k :: yr_cl st) = some (yr_cl st) ∧ (k = 7 → ∀ w, (ye_fk w (suf ++ .inr k :: yr_cl st) 0 = none ↔ w ∉ ye_ks 0 suf) ∧ ye_ks 0 suf ++ key.toList = ks) ∧ (∀ d', Sum.inl d' ∈ suf → Sum.inl d' ∈ es) := by
  obtain ⟨pre, d, suf, o, os', e1, e2, e3, e4, e5, e6, e7⟩ := h
  have hnest : ye_nest d = true := decide_eq_true (by omega)
  have hl : (ye_dm (0, 0) pre).1 = (st.length : Nat) := by
    rw [e1, ye_dm_app] at hlev
    have : (ye_dm (ye_dm (0, 0) pre) (.inl d :: suf)).1 = (ye_dm (0, 0) pre).1 + 1 := by
      show (ye_dm (if ye_nest d = true then (ye_dm (0, 0) pre).1 + 1 else (ye_dm (0, 0) pre).1, _) suf).1 = _
      rw [hnest]
      have := ye_dm_cmp suf 0 ((ye_dm (0, 0) pre).1 + 1) (if (ye_dm (0, 0) pre).1 + 1 ≤ (ye_dm (0, 0) pre).2 then (ye_dm (0, 0) pre).2 else (ye_dm (0, 0) pre).1 + 1) e5
      rw [show (ye_dm (0, 0) pre).1 + 1 + ((0 : Nat) : Int) = (ye_dm (0, 0) pre).1 + 1 by omega] at this
      exact this
    rw [this] at hlev
    simp at hlev
    omega
  refine ⟨d, suf, o, os', e2, e4, hnest, ?_, ?_, fun hk7 w => ⟨ye_fk_cmp e5, e6 hk7⟩, fun d' hd' => by rw [e1]; simp [hd']⟩
  · rw [e1] at ht
    have e : pre ++ .inl d :: suf ++ yr_cl ((k, n, ks) :: st) = pre ++ (.inl d :: (suf ++ .inr k :: yr_cl st)) := by
      simp [yr_cl]
    rw [e] at ht
    have := yt_tr_split pre _ 0 0 0 ht
    rw [hl, Int.zero_add, ← e3] at this
    exact this
  · unfold ye_rest
    rw [hnest]
    exact ye_skip_cmp (n := 0) e5
