/-! tokens, second part: references, names, strings; the kind -/
set_option maxRecDepth 100000 in
theorem ye_ref_end {T : Int → Int} {p n g : Int} {es : List ye_E} (hn : 1 ≤ n ∧ n ≤ 9) (hg : 0 ≤ g ∧ g ≤ 9) (ho : ye_oks es) (h : ye_at T p ([48 + n, 32, 48 + g, 32, 82] ++ (ye_pr false es ++ [0]))) : yp_ref T p = p + 5 := by
  simp only [List.cons_append, List.nil_append] at h
  obtain ⟨h0, h⟩ := ye_at_cons.mp h
  obtain ⟨h1, h⟩ := ye_at_cons.mp h
  obtain ⟨h2, h⟩ := ye_at_cons.mp h
  obtain ⟨h3, h⟩ := ye_at_cons.mp h
  obtain ⟨h4, h⟩ := ye_at_cons.mp h
  have wd1 : ∀ q c, T q = c → yp_wc c = true → yp_wc (T (q + 1)) = false → yp_wd T q = q + 1 := fun q c hq hc hn => by
    have := ye_wd (T := T) (l := [c]) (p := q) (by simp) (ye_at_cons.mpr ⟨hq, ye_at_nil _ _⟩) (fun x hx => by simp at hx; subst hx; exact hc) (by simpa using hn)
    simpa using this
  have o1 : yp_od1 T p 49 = true := decide_eq_true ⟨by rw [h0]; exact decide_eq_true (by omega), by omega, wd1 p _ h0 (decide_eq_true (by omega)) (by rw [h1]; rfl)⟩
  have s1 : yp_sk T (p + 1) = p + 1 + 1 := ye_sk1 h1 (by rw [h2]; exact decide_eq_false (by omega))
  have o2 : yp_od1 T (p + 1 + 1) 48 = true := decide_eq_true ⟨by rw [h2]; exact decide_eq_true (by omega), by omega, wd1 _ _ h2 (decide_eq_true (by omega)) (by rw [h3]; rfl)⟩
  have s2 : yp_sk T (p + 1 + 1 + 1) = p + 1 + 1 + 1 + 1 := ye_sk1 h3 (by rw [h4]; rfl)
  have w3 : yp_wd T (p + 1 + 1 + 1 + 1) = p + 1 + 1 + 1 + 1 + 1 := wd1 _ _ h4 rfl (ye_bd_wc ho h)
  unfold yp_ref
  rw [s1, s2, if_neg (by rw [o1]; decide), if_neg (by rw [o2]; decide), if_pos ⟨h4, w3⟩]
  omega
set_option maxRecDepth 100000 in
theorem ye_name {T : Int → Int} {p : Int} {l r : List Int} (hl : ye_nm l) (h : ye_at T p (47 :: (l ++ r))) (hb : yp_nc (T (p + 1 + l.length)) = false) : yp_nm T p = p + 1 + l.length ∧ yp_isN T p = true := by
  obtain ⟨h0, h1⟩ := ye_at_cons.mp h
  obtain ⟨h2, h3⟩ := ye_at_app.mp h1
  have e := ye_nme (by have := hl.2.1; omega) h2 hl.2.2 hb
  refine ⟨e, decide_eq_true ⟨h0, ?_, ?_⟩⟩ <;> rw [e] <;> have := hl.1 <;> have := hl.2.1 <;> omega
set_option maxRecDepth 100000 in
theorem ye_string {T : Int → Int} : ∀ (l : List Int) (f : Nat) (k n : Int) (r : List Int), l.length < f → (∀ c ∈ l, 32 ≤ c ∧ c ≤ 126) → n + l.length ≤ 12 → ye_at T k (ye_esc l ++ 41 :: r) → yp_str T f k n = k + (ye_esc l).length + 1
  | [], f, k, n, r, hf, _, hn, h => by
    cases f with
    | zero => cases hf
    | succ f =>
      have h0 : T k = 41 := ye_at_hd h
      unfold yp_str
      rw [if_pos h0, if_pos (by simpa using hn)]
      simp [ye_esc]
  | c :: l, f, k, n, r, hf, hl, hn, h => by
    cases f with
    | zero => cases hf
    | succ f =>
      have hc := hl c (by simp)
      have hf' : l.length < f := by simpa using hf
      have hl' : ∀ c ∈ l, 32 ≤ c ∧ c ≤ 126 := fun c hc => hl c (by simp [hc])
      have hn' : n + 1 + l.length ≤ 12 := by simp at hn; omega
      have ee : ye_esc (c :: l) = (if c = 40 ∨ c = 41 ∨ c = 92 then [92, c] else [c]) ++ ye_esc l := rfl
      rw [ee] at h ⊢
      unfold yp_str
      by_cases hs : c = 40 ∨ c = 41 ∨ c = 92
      · rw [if_pos hs] at h ⊢
        simp only [List.cons_append, List.nil_append] at h
        obtain ⟨h0, h⟩ := ye_at_cons.mp h
        obtain ⟨h1, h⟩ := ye_at_cons.mp h
        rw [if_neg (by omega), if_neg (by omega), if_pos h0]
        rw [show k + 2 = k + 1 + 1 by omega, ye_string l f (k + 1 + 1) (n + 1) r hf' hl' hn' h]
        simp
        omega
      · rw [if_neg hs] at h ⊢
        simp only [List.cons_append, List.nil_append] at h
        obtain ⟨h0, h⟩ := ye_at_cons.mp h
        rw [if_neg (by omega), if_neg (by omega), if_neg (by omega), ye_string l f (k + 1) (n + 1) r hf' hl' hn' h]
        simp
        omega
set_option maxRecDepth 100000 in
theorem ye_strend {T : Int → Int} {p : Int} {l r : List Int} (hl : l.length ≤ 12) (hc : ∀ c ∈ l, 32 ≤ c ∧ c ≤ 126) (h : ye_at T p (40 :: (ye_esc l ++ 41 :: r))) : yp_se T p = p + 2 + (ye_esc l).length := by
  obtain ⟨h0, h1⟩ := ye_at_cons.mp h
  unfold yp_se
  rw [ye_string l 2000 (p + 1) 0 r (by omega) hc (by omega) h1]
  omega
set_option maxRecDepth 100000 in
/-- what a node says of itself, as far as its kind goes -/
theorem ye_ok.k3 {d : ye_N} (ho : ye_ok d) (h : d.1 = 3) : -1000000 < d.2.1 ∧ d.2.1 < 1000000 := by
  rcases ho.2 with (q | q | q | q | q) | ⟨_, q1, q2⟩ | ⟨q, _⟩ | ⟨q, _⟩ | ⟨q, _⟩ <;> omega
set_option maxRecDepth 100000 in
theorem ye_ok.k4 {d : ye_N} (ho : ye_ok d) (h : d.1 = 4) : ye_nm d.2.2.2.2 := by
  rcases ho.2 with (q | q | q | q | q) | ⟨q, _⟩ | ⟨_, q⟩ | ⟨q, _⟩ | ⟨q, _⟩ <;> first | exact q | (exfalso; omega)
set_option maxRecDepth 100000 in
theorem ye_ok.k5 {d : ye_N} (ho : ye_ok d) (h : d.1 = 5) : d.2.2.2.2.length ≤ 12 ∧ ∀ c ∈ d.2.2.2.2, 32 ≤ c ∧ c ≤ 126 := by
  rcases ho.2 with (q | q | q | q | q) | ⟨q, _⟩ | ⟨q, _⟩ | ⟨_, q⟩ | ⟨q, _⟩ <;> first | exact q | (exfalso; omega)
set_option maxRecDepth 100000 in
theorem ye_ok.k8 {d : ye_N} (ho : ye_ok d) (h : d.1 = 8) : (1 ≤ d.2.1 ∧ d.2.1 ≤ 9) ∧ 0 ≤ d.2.2.1 ∧ d.2.2.1 ≤ 9 := by
  rcases ho.2 with (q | q | q | q | q) | ⟨q, _⟩ | ⟨q, _⟩ | ⟨q, _⟩ | ⟨_, q1, q2, q3⟩ <;> first | exact ⟨⟨q1, q2⟩, q3⟩ | (exfalso; omega)
set_option maxRecDepth 100000 in
theorem ye_ok.kinds {d : ye_N} (ho : ye_ok d) : 0 ≤ d.1 ∧ d.1 ≤ 8 := by
  rcases ho.2 with (q | q | q | q | q) | ⟨q, _⟩ | ⟨q, _⟩ | ⟨q, _⟩ | ⟨q, _⟩ <;> omega
set_option maxRecDepth 100000 in
/-- no reference begins with such a character -/
theorem ye_ref_c {T : Int → Int} {p : Int} (h : ¬ (49 ≤ T p ∧ T p ≤ 57)) : yp_ref T p = -1 := by
  unfold yp_ref
  rw [if_pos]
  refine decide_eq_false (fun z => h ?_)
  have := of_decide_eq_true z.1
  omega
set_option maxRecDepth 100000 in
theorem ye_word {T : Int → Int} {p : Int} {l : List Int} {es : List ye_E} (hl : l.length < 2000) (hw : ∀ c ∈ l, yp_wc c = true) (ho : ye_oks es) (h : ye_at T p (l ++ (ye_pr false es ++ [0]))) : yp_wd T p = p + l.length := by
  obtain ⟨h1, h2⟩ := ye_at_app.mp h
  exact ye_wd hl h1 hw (ye_bd_wc ho h2)
set_option maxRecDepth 100000 in
/-- THE KIND of a printed node -/
theorem ye_kind {T : Int → Int} {p : Int} {d : ye_N} {es : List ye_E} (hp : 0 ≤ p) (hd : ye_ok d) (ho : ye_oks es) (h : ye_at T p (ye_op d ++ (ye_pr (ye_nest d) es ++ [0]))) : yp_kind T p = d.1 := by
  have hk := hd.kinds
  have nn : d.1 < 6 ∨ d.1 = 8 → ye_nest d = false := fun z => decide_eq_false (by omega)
  rcases (show d.1 = 0 ∨ d.1 = 1 ∨ d.1 = 2 ∨ d.1 = 3 ∨ d.1 = 4 ∨ d.1 = 5 ∨ d.1 = 6 ∨ d.1 = 7 ∨ d.1 = 8 by omega) with k | k | k | k | k | k | k | k | k
  · rw [nn (by omega), show ye_op d = [110, 117, 108, 108] by unfold ye_op; simp [k]] at h
    have w := ye_word (by decide) (by decide) ho h
    simp only [List.cons_append, List.nil_append] at h
    obtain ⟨h0, h⟩ := ye_at_cons.mp h
    obtain ⟨h1, h⟩ := ye_at_cons.mp h
    obtain ⟨h2, h⟩ := ye_at_cons.mp h
    have h3 := ye_at_hd h
    have w : yp_wd T p = p + 4 := w
    have sy : yp_says T p 110 117 108 108 = true := decide_eq_true ⟨h0, h1, by rw [show p + 2 = p + 1 + 1 by omega]; exact h2, by rw [show p + 3 = p + 1 + 1 + 1 by omega]; exact h3⟩
    unfold yp_kind
    rw [if_neg (by omega), if_neg (by omega), if_neg (by omega), if_neg (by omega), ye_ref_c (by omega), if_neg (by decide), if_pos ⟨w, sy⟩, k]
  · rw [nn (by omega), show ye_op d = [116, 114, 117, 101] by unfold ye_op; simp [k]] at h
    have w := ye_word (by decide) (by decide) ho h
    simp only [List.cons_append, List.nil_append] at h
    obtain ⟨h0, h⟩ := ye_at_cons.mp h
    obtain ⟨h1, h⟩ := ye_at_cons.mp h
    obtain ⟨h2, h⟩ := ye_at_cons.mp h
    have h3 := ye_at_hd h
    have w : yp_wd T p = p + 4 := w
    have sy : yp_says T p 116 114 117 101 = true := decide_eq_true ⟨h0, h1, by rw [show p + 2 = p + 1 + 1 by omega]; exact h2, by rw [show p + 3 = p + 1 + 1 + 1 by omega]; exact h3⟩
    have sn : ¬ (yp_wd T p = p + 4 ∧ yp_says T p 110 117 108 108 = true) := fun z => by have := (of_decide_eq_true z.2).1; omega
    unfold yp_kind
    rw [if_neg (by omega), if_neg (by omega), if_neg (by omega), if_neg (by omega), ye_ref_c (by omega), if_neg (by decide), if_neg sn, if_pos ⟨w, sy⟩, k]
  · rw [nn (by omega), show ye_op d = [102, 97, 108, 115, 101] by unfold ye_op; simp [k]] at h
    have w := ye_word (by decide) (by decide) ho h
    simp only [List.cons_append, List.nil_append] at h
    obtain ⟨h0, h⟩ := ye_at_cons.mp h
    obtain ⟨h1, h⟩ := ye_at_cons.mp h
    obtain ⟨h2, h⟩ := ye_at_cons.mp h
    obtain ⟨h3, h⟩ := ye_at_cons.mp h
    have h4 := ye_at_hd h
    have w : yp_wd T p = p + 5 := w
    have sy : yp_says T p 102 97 108 115 = true := decide_eq_true ⟨h0, h1, by rw [show p + 2 = p + 1 + 1 by omega]; exact h2, by rw [show p + 3 = p + 1 + 1 + 1 by omega]; exact h3⟩
    unfold yp_kind
    rw [if_neg (by omega), if_neg (by omega), if_neg (by omega), if_neg (by omega), ye_ref_c (by omega), if_neg (by decide), if_neg (fun z => by omega), if_neg (fun z => by omega), if_pos ⟨w, sy, by rw [show p + 4 = p + 1 + 1 + 1 + 1 by omega]; exact h4⟩, k]
  · have hv := hd.k3 k
    rw [nn (by omega), show ye_op d = ye_num d.2.1 by unfold ye_op; simp [k]] at h
    have r := ye_num_ref hv ho h
    obtain ⟨w, _⟩ := ye_num_wd hv ho h
    obtain ⟨c, l, e, hc⟩ := ye_num_hd d.2.1 hv
    have h0 : T p = c := by rw [e] at h; exact ye_at_hd h
    have sy : ∀ a b c d, a = 110 ∨ a = 116 ∨ a = 102 → ¬ yp_says T p a b c d = true := fun a b c d ha z => by have := (of_decide_eq_true z).1; omega
    have isI : yp_isI T p (yp_wd T p) = true := by
      obtain ⟨a1, _⟩ := ye_at_app.mp h
      have dl := ye_dec_len 5 d.2.1.natAbs
      have dd := ye_dec_dg 5 d.2.1.natAbs (by simp; omega)
      rw [w]
      unfold ye_num at a1 ⊢
      by_cases hneg : d.2.1 < 0
      · rw [if_pos hneg] at a1 ⊢
        obtain ⟨b0, b1⟩ := ye_at_cons.mp a1
        have ef : yp_from T p = p + 1 := if_pos b0
        have el : p + (([45] ++ ye_dec 5 d.2.1.natAbs).length : Int) - (p + 1) = (ye_dec 5 d.2.1.natAbs).length := by simp; omega
        unfold yp_isI
        rw [ef, el, decide_eq_true ⟨by omega, by omega⟩, Int.toNat_natCast]
        exact ye_alld _ _ b1 dd
      · rw [if_neg hneg, List.nil_append] at a1 ⊢
        have ef : yp_from T p = p := if_neg (fun z => by
          cases hd : ye_dec 5 d.2.1.natAbs with
          | nil => rw [hd] at dl; simp at dl
          | cons c' l' =>
            rw [hd] at a1 dd
            have := of_decide_eq_true (dd c' (by simp))
            have := ye_at_hd a1
            omega)
        have el : p + ((ye_dec 5 d.2.1.natAbs).length : Int) - p = (ye_dec 5 d.2.1.natAbs).length := by omega
        unfold yp_isI
        rw [ef, el, decide_eq_true ⟨by omega, by omega⟩, Int.toNat_natCast]
        exact ye_alld _ _ a1 dd
    unfold yp_kind
    rw [if_neg (by omega), if_neg (by omega), if_neg (by omega), if_neg (by omega), r, if_neg (by decide), if_neg (fun z => sy _ _ _ _ (by decide) z.2), if_neg (fun z => sy _ _ _ _ (by decide) z.2), if_neg (fun z => sy _ _ _ _ (by decide) z.2.1), if_pos isI, k]
  · have hl := hd.k4 k
    rw [nn (by omega), show ye_op d = 47 :: d.2.2.2.2 by unfold ye_op; simp [k]] at h
    obtain ⟨a1, a2⟩ := ye_at_app.mp h
    have h0 := ye_at_hd a1
    have e : (p + ((47 :: d.2.2.2.2).length : Int)) = p + 1 + d.2.2.2.2.length := by simp; omega
    rw [e] at a2
    obtain ⟨_, isn⟩ := ye_name hl h (ye_bd_nc ho a2)
    unfold yp_kind
    rw [if_neg (by omega), if_neg (by omega), if_pos h0, if_pos isn, k]
  · obtain ⟨l1, l2⟩ := hd.k5 k
    rw [show ye_op d = 40 :: (ye_esc d.2.2.2.2 ++ [41]) by unfold ye_op; simp [k]] at h
    simp only [List.cons_append, List.append_assoc, List.nil_append] at h
    have h0 := ye_at_hd h
    have se := ye_strend l1 l2 h
    unfold yp_kind
    rw [if_neg (by omega), if_neg (by omega), if_neg (by omega), if_pos h0, if_pos (by omega), k]
  · rw [show ye_op d = [91] by unfold ye_op; simp [k]] at h
    have h0 : T p = 91 := ye_at_hd h
    unfold yp_kind
    rw [if_pos h0, k]
  · rw [show ye_op d = [60, 60] by unfold ye_op; simp [k]] at h
    simp only [List.cons_append, List.nil_append] at h
    obtain ⟨h0, h⟩ := ye_at_cons.mp h
    have h1 := ye_at_hd h
    unfold yp_kind
    rw [if_neg (by omega), if_pos h0, if_pos h1, k]
  · obtain ⟨n1, n2⟩ := hd.k8 k
    rw [nn (by omega), show ye_op d = [48 + d.2.1, 32, 48 + d.2.2.1, 32, 82] by unfold ye_op; simp [k]] at h
    have r := ye_ref_end n1 n2 ho h
    have h0 : T p = 48 + d.2.1 := ye_at_hd h
    unfold yp_kind
    rw [if_neg (by omega), if_neg (by omega), if_neg (by omega), if_neg (by omega), r, if_pos (by omega), k]
