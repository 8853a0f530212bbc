/-! partsAt, keyIs, partWith -/
set_option maxRecDepth 100000 in
theorem ye_nth_cnt : ∀ (es : List ye_E) (n j : Nat), (∃ r, ye_nth es n j = some r) ↔ j < ye_cnt es n
  | [], n, j => ⟨fun ⟨r, h⟩ => (by cases h), fun h => (by cases h)⟩
  | .inl d :: es, 0, 0 => ⟨fun _ => by show 0 < 1 + _; omega, fun _ => ⟨_, rfl⟩⟩
  | .inl d :: es, 0, j + 1 => by
    have e1 : ye_nth (.inl d :: es) 0 (j + 1) = ye_nth es (if ye_nest d = true then 1 else 0) j := rfl
    have e2 : ye_cnt (.inl d :: es) 0 = 1 + ye_cnt es (if ye_nest d = true then 1 else 0) := rfl
    rw [e1, e2, ye_nth_cnt es _ j]
    omega
  | .inl d :: es, n + 1, j => ye_nth_cnt es (if ye_nest d = true then n + 2 else n + 1) j
  | .inr k :: es, 0, j => ⟨fun ⟨r, h⟩ => (by cases h), fun h => (by cases h)⟩
  | .inr k :: es, n + 1, j => ye_nth_cnt es n j
/-- the part with a key -/
def ye_fk (nm : List Int) : List ye_E → Nat → Option (ye_N × List ye_E)
  | [], _ => none
  | .inl d :: es, 0 => if d.2.2.2.1 = nm then some (d, es) else ye_fk nm es (if ye_nest d = true then 1 else 0)
  | .inl d :: es, n + 1 => ye_fk nm es (if ye_nest d = true then n + 2 else n + 1)
  | .inr _ :: _, 0 => none
  | .inr _ :: es, n + 1 => ye_fk nm es n
set_option maxRecDepth 100000 in
theorem ye_fk_skip {nm : List Int} : ∀ {es R : List ye_E} {n : Nat}, ye_skip es (n + 1) = some R → ye_fk nm es (n + 1) = ye_fk nm R 0
  | [], _, _, h => by cases h
  | .inl d :: es, R, n, h => by
    have h : ye_skip es (if ye_nest d = true then n + 1 + 1 else n + 1) = some R := h
    have e1 : ye_fk nm (.inl d :: es) (n + 1) = ye_fk nm es (if ye_nest d = true then n + 2 else n + 1) := rfl
    rw [e1]
    cases hn : ye_nest d with
    | true => rw [hn] at h; exact ye_fk_skip h
    | false => rw [hn] at h; exact ye_fk_skip h
  | .inr k :: es, R, n, h => by
    have h : (if n + 1 ≤ 1 then some es else ye_skip es (n + 1 - 1)) = some R := h
    have e1 : ye_fk nm (.inr k :: es) (n + 1) = ye_fk nm es n := rfl
    rw [e1]
    cases n with
    | zero => rw [if_pos (by omega)] at h; cases h; rfl
    | succ n => rw [if_neg (by omega)] at h; exact ye_fk_skip h
set_option maxRecDepth 100000 in
theorem ye_fk_rest {nm : List Int} {d : ye_N} {es R : List ye_E} (h : ye_rest d es = some R) : ye_fk nm (.inl d :: es) 0 = if d.2.2.2.1 = nm then some (d, es) else ye_fk nm R 0 := by
  unfold ye_rest at h
  have e1 : ye_fk nm (.inl d :: es) 0 = if d.2.2.2.1 = nm then some (d, es) else ye_fk nm es (if ye_nest d = true then 1 else 0) := rfl
  rw [e1]
  cases hn : ye_nest d with
  | true => rw [hn] at h; rw [if_pos rfl, ye_fk_skip (n := 0) h]
  | false => rw [hn] at h; cases h; rfl
/-- an array of characters that holds a name -/
def ym_nm (s : zq_S) (a : Nat) (nm : List Int) : Prop := zq_k a = (1, 1, nm.length) ∧ ∀ i : Nat, i < nm.length → zq_i s a i = nm.getD i 0
section YS7
variable {X : Nat × (Nat → Int32)} {s : zq_S} {K : Int → zq_S → Prop} {x y q : Int} {a : Nat} {nm : List Int}
set_option maxRecDepth 100000 in
theorem ys_176_2 (hI : ym_I s) (hq : ym_q q) (hx : zq_iv x) {c : Nat} (hc : c ≤ 1000) (h1 : ∀ j : Nat, j < c → ∃ e, 0 ≤ e ∧ yp_pa (ym_c s q) x j = some e) (h2 : yp_pa (ym_c s q) x c = some (-1)) (k : K c s) : ∀ (m j : Nat), j + m = c → zq_Ex X 176 2 [.ref 232, zq_vi q, zq_vi x, zq_vi j] [] s (zq_rp zq_iv K) := by
  intro m
  induction m with
  | zero =>
    intro j hj
    have : j = c := by omega
    subst this
    have hj : zq_iv (j : Int) := ⟨by omega, by omega⟩
    refine zw_176_2 hq.in hx hj (ys_177 hI hq hx hj h2 ?_)
    rw [if_pos (by decide)]
    exact k
  | succ m ih =>
    intro j hj
    obtain ⟨e, e1, e2⟩ := h1 j (by omega)
    have hj' : zq_iv (j : Int) := ⟨by omega, by omega⟩
    refine zw_176_2 hq.in hx hj' (ys_177 hI hq hx hj' e2 ?_)
    rw [if_neg (by omega)]
    exact ih (j + 1) (by omega)
set_option maxRecDepth 100000 in
theorem ys_176 (hI : ym_I s) (hq : ym_q q) (hx : zq_iv x) {c : Nat} (hc : c ≤ 1000) (h1 : ∀ j : Nat, j < c → ∃ e, 0 ≤ e ∧ yp_pa (ym_c s q) x j = some e) (h2 : yp_pa (ym_c s q) x c = some (-1)) (k : K c s) : zq_Ex X 176 0 [.ref 232, zq_vi q, zq_vi x, zz_no] [] s (zq_rp zq_iv K) := zw_176 hq.in hx (ys_176_2 hI hq hx hc h1 h2 k c 0 (by omega))
set_option maxRecDepth 100000 in
theorem ys_179_25 (hI : ym_I s) (hq : ym_q q) (h0 : -100 ≤ x) (h1 : x ≤ 1000) (hm : ym_nm s a nm) (hn : nm.length ≤ 100) {l : List Int} (hl : l.length = nm.length) (ha : ye_at (ym_c s q) (x + 1) l) : ∀ (m i : Nat), i + m = nm.length → (∀ j, j < i → l.getD j 0 = nm.getD j 0) → K (yb (decide (l = nm))) s → zq_Ex X 179 25 [.ref 232, zq_vi q, zq_vi x, .ref a, zq_vi nm.length, zq_vi 1, zq_vi i] [] s (zq_rp zq_bo K) := by
  have hx : zq_iv x := ⟨by omega, by omega⟩
  have hn' : zq_iv (nm.length : Int) := ⟨by omega, by omega⟩
  intro m
  induction m with
  | zero =>
    intro i hi he k
    refine zw_179_25 hq.in hx hm.1 hn' (Or.inr rfl) ⟨by omega, by omega⟩ ?_
    rw [if_neg (by omega)]
    have : l = nm := by
      apply List.ext_getElem hl
      intro j j1 j2
      have := he j (by omega)
      simpa [List.getD_eq_getElem?_getD, j1, j2] using this
    rw [decide_eq_true this] at k
    exact k
  | succ m ih =>
    intro i hi he k
    refine zw_179_25 hq.in hx hm.1 hn' (Or.inr rfl) ⟨by omega, by omega⟩ ?_
    rw [if_pos (by omega), if_neg (by decide)]
    refine ys_147 hI hq ⟨by omega, by omega⟩ ⟨⟨by omega, by omega⟩, ?_⟩
    have e1 := ha i (by omega)
    have e2 := hm.2 i (by omega)
    rw [e1, e2]
    split
    · next e3 =>
      refine ih (i + 1) (by omega) (fun j hj => ?_) k
      by_cases e4 : j = i
      · rw [e4]; exact e3
      · exact he j (by omega)
    · next e3 =>
      have ne : l ≠ nm := fun z => e3 (by rw [z])
      rw [decide_eq_false ne] at k
      refine zw_179_25 hq.in hx hm.1 hn' (Or.inl rfl) ⟨by omega, by omega⟩ ?_
      split
      · rw [if_pos rfl]; exact k
      · exact k
set_option maxRecDepth 100000 in
theorem ys_179 (hI : ym_I s) (hq : ym_q q) (h0 : -100 ≤ x) (h1 : x < 1000) (hm : ym_nm s a nm) (hn : nm.length ≤ 100) {l : List Int} (hl : yp_nm (ym_c s q) x = x + 1 + l.length) (ha : ye_at (ym_c s q) (x + 1) l) (k : K (yb (decide (l = nm))) s) : zq_Ex X 179 0 [.ref 232, zq_vi q, zq_vi x, .ref a, zq_vi nm.length, zz_no, zz_no] [] s (zq_rp zq_bo K) := by
  have hx : zq_iv x := ⟨by omega, by omega⟩
  have hn' : zq_iv (nm.length : Int) := ⟨by omega, by omega⟩
  have l2 := yp_nm_lt (hI.T hq) (k := x) (by omega)
  refine zw_179 hq.in hx hm.1 hn' (ys_153 hI hq (by omega) h1 ⟨⟨by omega, by omega⟩, ?_⟩)
  split
  · next e => exact ys_179_25 hI hq h0 (by omega) hm hn (by omega) ha nm.length 0 (by omega) (fun j hj => by omega) k
  · next e =>
    have ne : l ≠ nm := fun z => e (by rw [hl, z]; omega)
    rw [decide_eq_false ne] at k
    refine zw_179_25 hq.in hx hm.1 hn' (Or.inl rfl) ⟨by omega, by omega⟩ ?_
    split
    · rw [if_pos rfl]; exact k
    · exact k
set_option maxRecDepth 100000 in
/-- back to the slash ahead of a key -/
theorem ys_175_34 (hI : ym_I s) (hq : ym_q q) (hx : zq_iv x) (hm : ym_nm s a nm) {c i p : Int} (hn : nm.length ≤ 100) (hc : zq_iv c) (hi : zq_iv i) (hp : zq_iv p) {l : List Int} {z : Int} (z0 : 0 ≤ z) (z1 : z + l.length < 990) (hz : ym_c s q z = 47) (ha : ye_at (ym_c s q) (z + 1) l) (hl : yp_nm (ym_c s q) z = z + 1 + l.length) (hs : ∀ e ∈ l, e ≠ 47) (kt : l = nm → K p s) (kf : l ≠ nm → zq_Ex X 175 11 [.ref 232, zq_vi q, zq_vi x, .ref a, zq_vi nm.length, zq_vi c, zq_vi (i + 1), zq_vi p, zq_vi z] [] s (zq_rp zq_iv K)) : ∀ (m : Nat), m ≤ l.length → zq_Ex X 175 34 [.ref 232, zq_vi q, zq_vi x, .ref a, zq_vi nm.length, zq_vi c, zq_vi i, zq_vi p, zq_vi (z + m)] [] s (zq_rp zq_iv K) := by
  have hn' : zq_iv (nm.length : Int) := ⟨by omega, by omega⟩
  intro m
  induction m with
  | zero =>
    intro _
    have e0 : z + ((0 : Nat) : Int) = z := by omega
    rw [e0]
    have hz' : zq_iv z := ⟨by omega, by omega⟩
    refine zw_175_34 hq.in hx hm.1 hn' hc hi hp hz' (ys_147 hI hq hz' ?_)
    rw [if_pos hz]
    refine ys_179 hI hq (by omega) (by omega) hm hn hl ha (yb_if (fun h => ?_) (fun h => ?_))
    · exact kf (of_decide_eq_false h)
    · exact kt (of_decide_eq_true h)
  | succ m ih =>
    intro hml
    have hz' : zq_iv (z + ((m + 1 : Nat) : Int)) := ⟨by omega, by omega⟩
    refine zw_175_34 hq.in hx hm.1 hn' hc hi hp hz' (ys_147 hI hq hz' ?_)
    have e1 := ha m (by omega)
    rw [show z + 1 + (m : Int) = z + ((m + 1 : Nat) : Int) by omega] at e1
    have e2 : l.getD m 0 ∈ l := by
      rw [List.getD_eq_getElem?_getD, List.getElem?_eq_getElem (by omega)]
      exact List.getElem_mem _
    rw [if_neg (by rw [e1]; exact hs _ e2), show z + ((m + 1 : Nat) : Int) + -1 = z + m by omega]
    exact ih (by omega)
set_option maxRecDepth 100000 in
/-- partWith on a printed dictionary -/
theorem ys_175_11 (hI : ym_I s) (hq : ym_q q) (hT : yp_T6 (ym_c s q)) (h0 : 0 ≤ x) (hm : ym_nm s a nm) (hn : nm.length ≤ 100) {d : ye_N} {es : List ye_E} {st : List Int} (hd : ye_ok d) (k7 : d.1 = 7) (hat : ye_at (ym_c s q) x (ye_op d ++ (ye_pr (ye_nest d) es ++ [0]))) (hw : ye_wf (d.1 :: st) es) (hl : es.length ≤ 40) (kf : ye_fk nm es 0 = none → K (-1) s) (kt : ∀ d' es' p, ye_fk nm es 0 = some (d', es') → ye_nd (ym_c s q) p d' es' → x < p → ye_wf (d.1 :: st) (.inl d' :: es') → es'.length < es.length → K p s) : ∀ (m i : Nat) (S : List ye_E) (v7 v8 : Value), v7.category = 1 → v8.category = 1 → i + m = ye_cnt es 0 → (∀ j, ye_nth es 0 (i + j) = ye_nth S 0 j) → ye_fk nm es 0 = ye_fk nm S 0 → ye_cnt S 0 = m → zq_Ex X 175 11 [.ref 232, zq_vi q, zq_vi x, .ref a, zq_vi nm.length, zq_vi (ye_cnt es 0), zq_vi i, v7, v8] [] s (zq_rp zq_iv K) := by
  have hnest : ye_nest d = true := decide_eq_true (Or.inr k7)
  have hx9 : x < 600 := yp_lt6 hT (by
    obtain ⟨c, l, e, _, _, _, _, _, c6, _⟩ := ye_op_hd hd
    rw [e] at hat
    rw [ye_at_hd hat]
    exact c6)
  have hx : zq_iv x := ⟨by omega, by omega⟩
  have hn' : zq_iv (nm.length : Int) := ⟨by omega, by omega⟩
  have hcl : ∀ (es : List ye_E) (n : Nat), ye_cnt es n ≤ es.length := by
    intro es
    induction es with
    | nil => intro n; exact Nat.le_refl _
    | cons e es ih =>
      intro n
      cases e with
      | inl d' =>
        cases n with
        | zero => have := ih (if ye_nest d' = true then 1 else 0); show 1 + _ ≤ _; simp; omega
        | succ n => have := ih (if ye_nest d' = true then n + 2 else n + 1); exact Nat.le_trans this (by simp)
      | inr k' =>
        cases n with
        | zero => exact Nat.zero_le _
        | succ n => exact Nat.le_trans (ih n) (by simp)
  have hc9 := hcl es 0
  intro m
  induction m with
  | zero =>
    intro i S v7 v8 c7 c8 hi hs hf hc
    refine zw_175_11 hq.in hx hm.1 hn' ⟨by omega, by omega⟩ ⟨by omega, by omega⟩ c7 c8 ?_
    rw [if_neg (by omega)]
    have hnone : ye_nth S 0 0 = none := by
      cases h : ye_nth S 0 0 with
      | none => rfl
      | some r => have := (ye_nth_cnt S 0 0).mp ⟨r, h⟩; omega
    refine kf ?_
    rw [hf]
    cases S with
    | nil => rfl
    | cons e S =>
      cases e with
      | inl d' => cases hnone
      | inr k' => rfl
  | succ m ih =>
    intro i S v7 v8 c7 c8 hi hs hf hc
    refine zw_175_11 hq.in hx hm.1 hn' ⟨by omega, by omega⟩ ⟨by omega, by omega⟩ c7 c8 ?_
    rw [if_pos (by omega)]
    obtain ⟨⟨d', es'⟩, hr⟩ := (ye_nth_cnt es 0 i).mpr (by omega)
    have hpa := ye_pa hT h0 hd hnest hat hw hl i
    rw [hr] at hpa
    obtain ⟨p, p1, p2, p3, p4, p5⟩ := hpa
    have hok' := p4.oks.1 d' (by simp)
    have hs0 := hs 0
    rw [Nat.add_zero, hr] at hs0
    have hkey : d'.2.2.2.1 ≠ [] := p4.2.1.1 k7
    have hnm' : ye_nm d'.2.2.2.1 := by
      rcases hok'.1 with z | z
      · exact absurd z hkey
      · exact z
    have ek : ye_ky d' = 47 :: (d'.2.2.2.1 ++ [32]) := by unfold ye_ky; rw [if_neg hkey]
    have lk : ((ye_ky d').length : Int) = d'.2.2.2.1.length + 2 := by rw [ek]; simp; omega
    have hop := p2.op
    have p9 : p < 600 := yp_lt6 hT (by
      obtain ⟨c, l, e, _, _, _, _, _, c6, _⟩ := ye_op_hd hok'
      rw [e] at hop
      rw [ye_at_hd hop]
      exact c6)
    refine ys_177 hI hq hx ⟨by omega, by omega⟩ p1 ?_
    have hat2 : ye_at (ym_c s q) (p - (ye_ky d').length) (47 :: (d'.2.2.2.1 ++ ([32] ++ (ye_op d' ++ (ye_pr (ye_nest d') es' ++ [0]))))) := by
      have := p2
      unfold ye_nd at this
      rw [ek] at this
      simp only [List.cons_append, List.append_assoc] at this
      rw [ek]
      exact this
    obtain ⟨b0, b1⟩ := ye_at_cons.mp hat2
    obtain ⟨b2, b3⟩ := ye_at_app.mp b1
    have b32 := ye_at_hd b3
    obtain ⟨bn, _⟩ := ye_name hnm' hat2 (by rw [b32]; rfl)
    have hS : ∃ S', S = .inl d' :: S' ∧ S' = es' := by
      cases S with
      | nil => cases hs0
      | cons e S =>
        cases e with
        | inl d2 => cases hs0; exact ⟨_, rfl, rfl⟩
        | inr k' => cases hs0
    obtain ⟨S', hS1, hS2⟩ := hS
    subst hS2
    subst hS1
    obtain ⟨R, r1, r2, r3⟩ := p4.rest
    have hfr := ye_fk_rest (nm := nm) r1
    have e9 : p - 2 = (p - (ye_ky d').length) + (d'.2.2.2.1.length : Nat) := by omega
    rw [e9]
    refine ys_175_34 hI hq hx hm hn ⟨by omega, by omega⟩ ⟨by omega, by omega⟩ ⟨by omega, by omega⟩ (l := d'.2.2.2.1) (by omega) (by omega) b0 b2 bn (fun e he z => ?_) (fun he => ?_) (fun he => ?_) d'.2.2.2.1.length (Nat.le_refl _)
    · have := of_decide_eq_true (hnm'.2.2 e he)
      omega
    · rw [if_pos he] at hfr
      exact kt d' S' p (hf.trans hfr) p2 (by omega) p4 p5
    · rw [if_neg he] at hfr
      have h1 : ∀ j, ye_nth es 0 (i + 1 + j) = ye_nth R 0 j := fun j => by
        have := hs (j + 1)
        rw [show i + 1 + j = i + (j + 1) by omega, this]
        exact (ye_nth_rest r1).1
      exact ih (i + 1) R _ _ rfl rfl (by omega) h1 (hf.trans hfr) (by have := (ye_nth_rest (i := 0) r1).2; omega)
set_option maxRecDepth 100000 in
theorem ys_175 (hI : ym_I s) (hq : ym_q q) (hT : yp_T6 (ym_c s q)) (h0 : 0 ≤ x) (hm : ym_nm s a nm) (hn : nm.length ≤ 100) {d : ye_N} {es : List ye_E} {st : List Int} (hd : ye_ok d) (k7 : d.1 = 7) (hat : ye_at (ym_c s q) x (ye_op d ++ (ye_pr (ye_nest d) es ++ [0]))) (hw : ye_wf (d.1 :: st) es) (hl : es.length ≤ 40) (kf : ye_fk nm es 0 = none → K (-1) s) (kt : ∀ d' es' p, ye_fk nm es 0 = some (d', es') → ye_nd (ym_c s q) p d' es' → x < p → ye_wf (d.1 :: st) (.inl d' :: es') → es'.length < es.length → K p s) : zq_Ex X 175 0 [.ref 232, zq_vi q, zq_vi x, .ref a, zq_vi nm.length, zz_no, zz_no, zz_no, zz_no] [] s (zq_rp zq_iv K) := by
  have hnest : ye_nest d = true := decide_eq_true (Or.inr k7)
  have hx9 : x < 600 := yp_lt6 hT (by
    obtain ⟨c, l, e, _, _, _, _, _, c6, _⟩ := ye_op_hd hd
    rw [e] at hat
    rw [ye_at_hd hat]
    exact c6)
  have hx : zq_iv x := ⟨by omega, by omega⟩
  have hc9 : ye_cnt es 0 ≤ es.length := by
    have : ∀ (es : List ye_E) (n : Nat), ye_cnt es n ≤ es.length := by
      intro es
      induction es with
      | nil => intro n; exact Nat.le_refl _
      | cons e es ih =>
        intro n
        cases e with
        | inl d' =>
          cases n with
          | zero => have := ih (if ye_nest d' = true then 1 else 0); show 1 + _ ≤ _; simp; omega
          | succ n => have := ih (if ye_nest d' = true then n + 2 else n + 1); exact Nat.le_trans this (by simp)
        | inr k' =>
          cases n with
          | zero => exact Nat.zero_le _
          | succ n => exact Nat.le_trans (ih n) (by simp)
    exact this es 0
  refine zw_175 hq.in hx hm.1 ⟨by omega, by omega⟩ (ys_176 hI hq hx (c := ye_cnt es 0) (by omega) (fun j hj => ?_) ?_ ?_)
  · obtain ⟨⟨d', es'⟩, hr⟩ := (ye_nth_cnt es 0 j).mpr hj
    have hpa := ye_pa hT h0 hd hnest hat hw hl j
    rw [hr] at hpa
    obtain ⟨p, p1, p2, p3, p4, p5⟩ := hpa
    exact ⟨p, by omega, p1⟩
  · have hpa := ye_pa hT h0 hd hnest hat hw hl (ye_cnt es 0)
    have hnone : ye_nth es 0 (ye_cnt es 0) = none := by
      cases h : ye_nth es 0 (ye_cnt es 0) with
      | none => rfl
      | some r => have := (ye_nth_cnt es 0 _).mp ⟨r, h⟩; omega
    rw [hnone] at hpa
    exact hpa
  · exact ys_175_11 hI hq hT h0 hm hn hd k7 hat hw hl kf kt (ye_cnt es 0) 0 es _ _ rfl rfl (by omega) (fun j => by rw [Nat.zero_add]) rfl rfl
end YS7
