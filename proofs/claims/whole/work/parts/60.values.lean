/-! VALUES: a value is a row of events: nodes, and the ends of arrays and dictionaries. How it is printed -/
/-- kind, number, generation, key, letters -/
abbrev ye_N : Type := Int × Int × Int × List Int × List Int
abbrev ye_E : Type := ye_N ⊕ Int
def ye_nest (d : ye_N) : Bool := decide (d.1 = 6 ∨ d.1 = 7)
def ye_dec : Nat → Nat → List Int
  | 0, n => [48 + (n : Int)]
  | f + 1, n => if n < 10 then [48 + (n : Int)] else ye_dec f (n / 10) ++ [48 + ((n % 10 : Nat) : Int)]
def ye_num (v : Int) : List Int := (if v < 0 then [45] else []) ++ ye_dec 5 v.natAbs
def ye_esc (l : List Int) : List Int := l.flatMap (fun c => if c = 40 ∨ c = 41 ∨ c = 92 then [92, c] else [c])
def ye_op (d : ye_N) : List Int := if d.1 = 0 then [110, 117, 108, 108] else if d.1 = 1 then [116, 114, 117, 101] else if d.1 = 2 then [102, 97, 108, 115, 101] else if d.1 = 3 then ye_num d.2.1 else if d.1 = 4 then 47 :: d.2.2.2.2 else if d.1 = 5 then 40 :: (ye_esc d.2.2.2.2 ++ [41]) else if d.1 = 6 then [91] else if d.1 = 7 then [60, 60] else [48 + d.2.1, 32, 48 + d.2.2.1, 32, 82]
def ye_cl (k : Int) : List Int := if k = 6 then [93] else [62, 62]
def ye_ky (d : ye_N) : List Int := if d.2.2.2.1 = [] then [] else 47 :: (d.2.2.2.1 ++ [32])
def ye_pr : Bool → List ye_E → List Int
  | _, [] => []
  | f, .inl d :: es => (if f = true then [] else [32]) ++ (ye_ky d ++ (ye_op d ++ ye_pr (ye_nest d) es))
  | _, .inr k :: es => ye_cl k ++ ye_pr false es
/-- names and nodes as they have to be -/
def ye_nm (l : List Int) : Prop := 1 ≤ l.length ∧ l.length ≤ 6 ∧ ∀ c ∈ l, yp_nc c = true
def ye_ok (d : ye_N) : Prop := (d.2.2.2.1 = [] ∨ ye_nm d.2.2.2.1) ∧ ((d.1 = 0 ∨ d.1 = 1 ∨ d.1 = 2 ∨ d.1 = 6 ∨ d.1 = 7) ∨ (d.1 = 3 ∧ -1000000 < d.2.1 ∧ d.2.1 < 1000000) ∨ (d.1 = 4 ∧ ye_nm d.2.2.2.2) ∨ (d.1 = 5 ∧ d.2.2.2.2.length ≤ 12 ∧ ∀ c ∈ d.2.2.2.2, 32 ≤ c ∧ c ≤ 126) ∨ (d.1 = 8 ∧ 1 ≤ d.2.1 ∧ d.2.1 ≤ 9 ∧ 0 ≤ d.2.2.1 ∧ d.2.2.1 ≤ 9))
/-- what a text has from a place on -/
def ye_at (T : Int → Int) (p : Int) (l : List Int) : Prop := ∀ i : Nat, i < l.length → T (p + i) = l.getD i 0
set_option maxRecDepth 100000 in
theorem ye_at_nil (T : Int → Int) (p : Int) : ye_at T p [] := fun i h => by cases h
set_option maxRecDepth 100000 in
theorem ye_at_cons {T : Int → Int} {p c : Int} {l : List Int} : ye_at T p (c :: l) ↔ T p = c ∧ ye_at T (p + 1) l := by
  constructor
  · intro h
    refine ⟨?_, fun i hi => ?_⟩
    · have := h 0 (by simp)
      simpa using this
    · have := h (i + 1) (by simpa using hi)
      rw [show p + 1 + (i : Int) = p + ((i + 1 : Nat) : Int) by omega]
      simpa using this
  · intro ⟨h1, h2⟩ i hi
    cases i with
    | zero => simpa using h1
    | succ i =>
      have := h2 i (by simpa using hi)
      rw [show p + 1 + (i : Int) = p + ((i + 1 : Nat) : Int) by omega] at this
      simpa using this
set_option maxRecDepth 100000 in
theorem ye_at_app {T : Int → Int} : ∀ {a b : List Int} {p : Int}, ye_at T p (a ++ b) ↔ ye_at T p a ∧ ye_at T (p + a.length) b
  | [], b, p => by simp [ye_at_nil]
  | c :: a, b, p => by
    rw [List.cons_append, ye_at_cons, ye_at_cons, ye_at_app (a := a), List.length_cons]
    rw [show p + 1 + (a.length : Int) = p + ((a.length + 1 : Nat) : Int) by omega]
    exact ⟨fun h => ⟨⟨h.1, h.2.1⟩, h.2.2⟩, fun h => ⟨h.1.1, h.1.2, h.2⟩⟩
set_option maxRecDepth 100000 in
theorem ye_at_hd {T : Int → Int} {p c : Int} {l : List Int} (h : ye_at T p (c :: l)) : T p = c := (ye_at_cons.mp h).1
set_option maxRecDepth 100000 in
/-- a run of characters ends where it ends -/
theorem ye_run {T : Int → Int} {pr : Int → Bool} : ∀ (l : List Int) (f : Nat) (p : Int), l.length < f → ye_at T p l → (∀ c ∈ l, pr c = true) → pr (T (p + l.length)) = false → yp_run pr T f p = p + l.length
  | [], f, p, hf, _, _, h => by
    cases f with
    | zero => cases hf
    | succ f =>
      unfold yp_run
      have h : pr (T p) = false := by simpa using h
      rw [h]
      simp
  | c :: l, f, p, hf, ha, hl, h => by
    cases f with
    | zero => cases hf
    | succ f =>
      obtain ⟨h1, h2⟩ := ye_at_cons.mp ha
      unfold yp_run
      rw [h1, if_pos (hl c (by simp)), ye_run l f (p + 1) (by simpa using hf) h2 (fun c hc => hl c (by simp [hc])) (by rw [show p + 1 + (l.length : Int) = p + ((c :: l).length : Int) by simp; omega]; exact h)]
      simp
      omega
set_option maxRecDepth 100000 in
theorem ye_wd {T : Int → Int} {l : List Int} {p : Int} (hl : l.length < 2000) (ha : ye_at T p l) (h1 : ∀ c ∈ l, yp_wc c = true) (h2 : yp_wc (T (p + l.length)) = false) : yp_wd T p = p + l.length := ye_run l 2000 p hl ha h1 h2
set_option maxRecDepth 100000 in
theorem ye_nme {T : Int → Int} {l : List Int} {p : Int} (hl : l.length < 2000) (ha : ye_at T (p + 1) l) (h1 : ∀ c ∈ l, yp_nc c = true) (h2 : yp_nc (T (p + 1 + l.length)) = false) : yp_nm T p = p + 1 + l.length := ye_run l 2000 (p + 1) hl ha h1 h2
set_option maxRecDepth 100000 in
theorem ye_sk0 {T : Int → Int} {p : Int} (h : yp_sp (T p) = false) : yp_sk T p = p := by
  have := ye_run (T := T) (pr := yp_sp) [] 2000 p (by decide) (ye_at_nil T p) (fun _ h => by cases h) (by simpa using h)
  simpa [yp_sk, yp_end] using this
set_option maxRecDepth 100000 in
theorem ye_sk1 {T : Int → Int} {p : Int} (h : T p = 32) (h1 : yp_sp (T (p + 1)) = false) : yp_sk T p = p + 1 := by
  have := ye_run (T := T) (pr := yp_sp) [32] 2000 p (by decide) (ye_at_cons.mpr ⟨h, ye_at_nil _ _⟩) (fun c hc => by simp at hc; subst hc; rfl) (by simpa using h1)
  simpa [yp_sk, yp_end] using this
/-! numbers -/
def ye_lv : List Int → Int → Int
  | [], v => v
  | c :: l, v => ye_lv l (10 * v + c - 48)
set_option maxRecDepth 100000 in
theorem ye_lv_app : ∀ (a b : List Int) (v : Int), ye_lv (a ++ b) v = ye_lv b (ye_lv a v)
  | [], _, _ => rfl
  | c :: a, b, v => by simp only [List.cons_append, ye_lv]; exact ye_lv_app a b _
set_option maxRecDepth 100000 in
theorem ye_val {T : Int → Int} : ∀ (l : List Int) (p v : Int), ye_at T p l → yp_val T l.length p v = ye_lv l v
  | [], _, _, _ => rfl
  | c :: l, p, v, h => by
    obtain ⟨h1, h2⟩ := ye_at_cons.mp h
    simp only [List.length_cons, yp_val, ye_lv]
    rw [h1, ye_val l (p + 1) _ h2]
set_option maxRecDepth 100000 in
theorem ye_alld {T : Int → Int} : ∀ (l : List Int) (p : Int), ye_at T p l → (∀ c ∈ l, yp_dg c = true) → yp_all T l.length p = true
  | [], _, _, _ => rfl
  | c :: l, p, h, hd => by
    obtain ⟨h1, h2⟩ := ye_at_cons.mp h
    simp only [List.length_cons, yp_all]
    rw [h1, hd c (by simp), ye_alld l (p + 1) h2 (fun c hc => hd c (by simp [hc]))]
    rfl
set_option maxRecDepth 100000 in
theorem ye_dec_dg : ∀ (f n : Nat), n < 10 ^ (f + 1) → ∀ c ∈ ye_dec f n, yp_dg c = true
  | 0, n, h, c, hc => by
    simp [ye_dec] at hc
    subst hc
    exact decide_eq_true (by simp at h; omega)
  | f + 1, n, h, c, hc => by
    unfold ye_dec at hc
    split at hc
    · simp at hc
      subst hc
      exact decide_eq_true (by omega)
    · rw [List.mem_append] at hc
      rcases hc with hc | hc
      · exact ye_dec_dg f (n / 10) (by rw [Nat.pow_succ] at h; omega) c hc
      · simp at hc
        subst hc
        exact decide_eq_true (by omega)
set_option maxRecDepth 100000 in
theorem ye_dec_lv : ∀ (f n : Nat), ye_lv (ye_dec f n) 0 = n
  | 0, n => by simp [ye_dec, ye_lv]; omega
  | f + 1, n => by
    unfold ye_dec
    split
    · simp [ye_lv]; omega
    · rw [ye_lv_app, ye_dec_lv f (n / 10)]
      simp only [ye_lv]
      omega
set_option maxRecDepth 100000 in
theorem ye_dec_len : ∀ (f n : Nat), 1 ≤ (ye_dec f n).length ∧ (ye_dec f n).length ≤ f + 1
  | 0, n => by simp [ye_dec]
  | f + 1, n => by
    unfold ye_dec
    split
    · simp
    · have := ye_dec_len f (n / 10)
      simp
      omega
